/-! the calls that change something -/
theorem inC (x a b : Int32) : (f_X9_in x a b = some 0 ∧ (x < a ∨ b < x)) ∨ (f_X9_in x a b = some 1 ∧ ¬ x < a ∧ ¬ b < x ∧ x ≤ b) := by
  rw [in_eq]
  by_cases h : a ≤ x ∧ x ≤ b
  · rw [if_pos h]
    refine .inr ⟨rfl, fun h2 => ?_, fun h2 => ?_, h.2⟩
    · have a1 := le_iff.mp h.1; have a2 := lt_iff.mp h2; omega
    · have a1 := le_iff.mp h.2; have a2 := lt_iff.mp h2; omega
  · rw [if_neg h]
    refine .inl ⟨rfl, ?_⟩
    rw [le_iff, le_iff] at h
    rw [lt_iff, lt_iff]; omega
theorem cA {α : Type} {x a b : Int32} {A B : α} (h : x < a ∨ b < x) : (if x < a then A else if x ≤ b then B else A) = A := by
  by_cases h1 : x < a
  · rw [if_pos h1]
  · rw [if_neg h1, if_neg]
    intro h2
    rcases h with h | h
    · exact h1 h
    · have a1 := le_iff.mp h2; have a2 := lt_iff.mp h; omega
theorem cB {α : Type} {x a b : Int32} {A B : α} (h : x < a ∨ b < x) : (if x < a then A else if b < x then A else B) = A := by
  by_cases h1 : x < a
  · rw [if_pos h1]
  · rw [if_neg h1, if_pos]
    rcases h with h | h
    · exact absurd h h1
    · exact h
theorem lt4 {x : Int32} : x < 4 ↔ x ≤ 3 := by
  rw [lt_iff, le_iff]; show x.toInt < 4 ↔ x.toInt ≤ 3; omega
theorem lt2 {x : Int32} : x < 2 ↔ x ≤ 1 := by
  rw [lt_iff, le_iff]; show x.toInt < 2 ↔ x.toInt ≤ 1; omega
theorem wrap_eq {d n : Nat} {F : Nat → Int32} (h0 : 0 < d) (hd : d ≤ 2592000) (hn : n ≤ 6) : ∃ F', f_X5_wrap (nI d) F (nI n) = some F' ∧ ∀ k, k < n → F' k = nI (md (F k).toInt d) := by
  obtain ⟨r, g1, g2⟩ := lp_0 (body := fb_X5_wrap_2 (nI d) (nI n)) (fun k w => w.1 = nI k ∧ ∀ i, w.2 i = if i < k then nI (md (F i).toInt d) else F i) (fun r => ∀ k, k < n → r k = nI (md (F k).toInt d)) n (by omega) (by
    intro k hk w hw
    obtain ⟨w1, P⟩ := w
    obtain ⟨rfl, hP⟩ := hw
    dsimp only at hP
    refine ⟨(nI (k + 1), upd P k (nI (md (F k).toInt d))), ?_, rfl, ?_⟩
    · unfold fb_X5_wrap_2
      simp only [nm]
      rw [if_neg (nI_ge hk (by omega)), if_neg (show ¬ (6 : Int32) ≤ nI k from nI_ge (b := 6) (by omega) (by omega)), gd_nI (by omega) (by omega), nI_clamp (by omega), hP k, if_neg (by omega), floor_eq _ h0 (by omega), Option.bind_some, gd_nI (by omega) (by omega), nI_1]
    · intro i
      show upd P k (nI (md (F k).toInt d)) i = _
      by_cases hi : i = k
      · subst hi; rw [pk_us, if_pos (by omega)]
      · rw [pk_un hi, hP i]
        by_cases h3 : i < k
        · rw [if_pos h3, if_pos (by omega)]
        · rw [if_neg h3, if_neg (by omega)]) (by
    intro w hw
    obtain ⟨w1, P⟩ := w
    obtain ⟨rfl, hP⟩ := hw
    dsimp only at hP
    refine ⟨P, ?_, fun k hk => by rw [hP k, if_pos hk]⟩
    unfold fb_X5_wrap_2
    dsimp only
    rw [if_pos (nI_le (Nat.le_refl _) (by omega))]) (x := ((0 : Int32), F)) ⟨rfl, fun i => by rw [if_neg (by omega)]⟩
  refine ⟨r, ?_, g2⟩
  unfold f_X5_wrap
  rw [g1]; rfl
theorem turn44 {r n : Nat} {s p : Nat → Int32} {x2 th un : Int32} (hr : r < 4) (hn : n ≤ 6) (h0 : s 0 = nI r) (h1 : s 1 = nI n) : ∃ s', lp (fb_X9_rates_44 x2 th p un) 100000 ((0 : Int32), s) = some s' ∧ (∀ k, k < n → s' (2 + 3 * k) = nI (md (s (2 + 3 * k)).toInt (dayN r))) ∧ ∀ i, (∀ k, k < n → i ≠ 2 + 3 * k) → s' i = s i := by
  obtain ⟨q, g1, g2⟩ := lp_0 (body := fb_X9_rates_44 x2 th p un) (fun k w => w.1 = nI k ∧ (∀ j, j < k → w.2 (2 + 3 * j) = nI (md (s (2 + 3 * j)).toInt (dayN r))) ∧ ∀ i, (∀ j, j < k → i ≠ 2 + 3 * j) → w.2 i = s i) (fun s' => (∀ k, k < n → s' (2 + 3 * k) = nI (md (s (2 + 3 * k)).toInt (dayN r))) ∧ ∀ i, (∀ k, k < n → i ≠ 2 + 3 * k) → s' i = s i) n (by omega) (by
    intro k hk w hw
    obtain ⟨w1, P⟩ := w
    obtain ⟨rfl, hP, hQ⟩ := hw
    dsimp only at hP hQ
    refine ⟨(nI (k + 1), upd P (2 + 3 * k) (nI (md (s (2 + 3 * k)).toInt (dayN r)))), ?_, rfl, ?_, ?_⟩
    · unfold fb_X9_rates_44
      simp only [nm]
      rw [if_neg (show ¬ P 1 ≤ nI k by rw [hQ 1 (by omega), h1]; exact nI_ge hk (by omega)), ix3, gd_nI (by omega) (by omega), nI_clamp (by omega), hQ (2 + 3 * k) (by omega), around_eq _ hr (by rw [hQ 0 (by omega)]; exact h0), Option.bind_some, gd_nI (by omega) (by omega), nI_1]
    · intro j hj
      show upd P (2 + 3 * k) (nI (md (s (2 + 3 * k)).toInt (dayN r))) (2 + 3 * j) = _
      by_cases hjk : j = k
      · subst hjk; rw [pk_us]
      · rw [pk_un (by omega)]; exact hP j (by omega)
    · intro i hi
      show upd P (2 + 3 * k) (nI (md (s (2 + 3 * k)).toInt (dayN r))) i = _
      rw [pk_un (hi k (by omega))]; exact hQ i (fun j hj => hi j (by omega))) (by
    intro w hw
    obtain ⟨w1, P⟩ := w
    obtain ⟨rfl, hP, hQ⟩ := hw
    dsimp only at hP hQ
    refine ⟨P, ?_, hP, hQ⟩
    unfold fb_X9_rates_44
    dsimp only
    rw [if_pos (show P 1 ≤ nI n by rw [hQ 1 (by omega), h1]; exact nI_le (Nat.le_refl _) (by omega))]) (x := ((0 : Int32), s)) ⟨rfl, fun j hj => absurd hj (by omega), fun i _ => rfl⟩
  exact ⟨q, g1, g2⟩
theorem turn104 {r : Nat} {s p : Nat → Int32} {x2 th un : Int32} (hr : r < 4) (h0 : s 0 = nI r) : lp (fb_X9_rates_104 x2 th p un) 100000 ((0 : Int32), s) = some (upd (upd (upd s 38 (nI (md (s 38).toInt (dayN r)))) 41 (nI (md (s 41).toInt (dayN r)))) 44 (nI (md (s 44).toInt (dayN r)))) := by
  have step : ∀ (c : Nat) (s : Nat → Int32), c < 3 → s 0 = nI r → fb_X9_rates_104 x2 th p un (nI c, s) = some (.inl (nI (c + 1), upd s (38 + 3 * c) (nI (md (s (38 + 3 * c)).toInt (dayN r))))) := by
    intro c s hc h0
    unfold fb_X9_rates_104
    simp only [nm]
    rw [if_neg (show ¬ (3 : Int32) ≤ nI c from nI_ge (b := 3) hc (by omega)), ix0, gd_nI (by omega) (by omega), nI_clamp (by omega), around_eq _ hr h0, Option.bind_some, gd_nI (by omega) (by omega), nI_1]
  refine lp_inl (n := 99999) (step 0 s (by omega) h0) (lp_inl (n := 99998) (step 1 _ (by omega) (by rw [pk_un (by omega)]; exact h0)) (lp_inl (n := 99997) (step 2 _ (by omega) (by rw [pk_un (by omega), pk_un (by omega)]; exact h0)) ?_))
  have fin : ∀ s : Nat → Int32, lp (fb_X9_rates_104 x2 th p un) (99996 + 1) (nI 3, s) = some s := fun s => lp_inr (by unfold fb_X9_rates_104; rfl) _
  rw [fin]
  rw [pk_un (show 38 + 3 * 1 ≠ 38 + 3 * 0 by omega), pk_un (show 38 + 3 * 2 ≠ 38 + 3 * 1 by omega), pk_un (show 38 + 3 * 2 ≠ 38 + 3 * 0 by omega)]
theorem tape0 {n W : Nat} {f l u : Nat → Nat} {F L U s : Nat → Int32} (hn : n ≤ 6) (hW : W = sm l n) (h1 : s 1 = nI n) (hk : ∀ k, k < n → F k = nI (f k) ∧ L k = nI (l k) ∧ U k = nI (u k) ∧ s (2 + 3 * k) = nI (f k) ∧ s (2 + 3 * k + 1) = nI (l k) ∧ s (2 + 3 * k + 2) = nI (u k) ∧ f k < 2592000 ∧ 1 ≤ l k ∧ l k ≤ 40 ∧ u k ≤ 15) : f_X9_tape s = some (nI (48 * W)) ∧ W ≤ 240 := by
  have hb : sm l n ≤ 40 * n := sm_le (fun k h => (hk k h).2.2.2.2.2.2.2.2.1)
  rw [hW]
  exact ⟨tape_eq hn h1 (fun k h => (hk k h).2.2.2.2.1) (fun k h => (hk k h).2.2.2.2.2.2.2.2.1), by omega⟩
/-- a chaser's place is brought into another day -/
theorem ch_turn {c d : Nat} {p sp o : Int32} {s s' : Nat → Int32} (h : ChR c p sp o s) (h0 : 0 < d) (hd : d ≤ 2592000) (h1 : s' (38 + 3 * c) = nI (md (s (38 + 3 * c)).toInt d)) (h2 : s' (38 + 3 * c + 1) = s (38 + 3 * c + 1)) (h3 : s' (38 + 3 * c + 2) = s (38 + 3 * c + 2)) : ChR c (nI (md p.toInt d)) sp o s' := by
  obtain ⟨q, a1, rfl, a3, a4, a5, a6⟩ := h
  have := md_lt (x := (nI q).toInt) h0
  exact ⟨md (nI q).toInt d, by omega, rfl, by rw [h1, a3], by rw [h2]; exact a4, by rw [h3]; exact a5, a6⟩
theorem sim_rates {t : Nat} (ht : t < 512) (x1 : Int32) {σ : FV} {μ : MV} (h : Rel t σ μ) : ∃ (r : Int32) (σ' : FV) (μ' : MV), fcS_rates x1 σ = some (r, σ') ∧ mdS_rates x1 μ = some (r, μ') ∧ Rel (t + 1) σ' μ' := by
  obtain ⟨⟨rate, F, L, U, sg, wd, hd, cell, waits, bits, held, readings, broken, errors, jumps, streak, frame, number, user, course, wf, wc, wm, wh, p0, s0, o0, p1, s1, o1, p2, s2, o2⟩, next, known, R, Im, pl, sp, off, sn, sf, seen⟩ := σ
  obtain ⟨thrown, s, past, undos, kept, isk, seen', sn', sf'⟩ := μ
  have hm := rel_mono _ _ _ h
  obtain ⟨⟨hT, hR, hW, hc0, hc1, hc2⟩, hH, hI, hS⟩ := h
  dsimp only at hT hR hW hc0 hc1 hc2 hH hI hS
  unfold fcS_rates mdS_rates f_X8_rates f_X9_rates
  dsimp only
  simp only [lt4]
  rcases inC x1 0 3 with ⟨e, hb⟩ | ⟨e, g1, g2, g3⟩
  · rw [e, cA hb]
    simp only [Option.bind_some, if_true]
    exact ⟨_, _, _, rfl, rfl, hm⟩
  rw [e, if_neg g1, if_pos g3]
  simp only [Option.bind_some, d10, if_false, nm]
  obtain ⟨nx, kn, R', past', un, a1, a2, a3⟩ := add_notes (v := (rate, F, L, U, sg, wd, hd, cell, waits, bits, held, readings, broken, errors, jumps, streak, frame, number, user, course, wf, wc, wm, wh, p0, s0, o0, p1, s1, o1, p2, s2, o2)) hH ⟨hT, hR, hW, hc0, hc1, hc2⟩
  have hH' := HsR_m a3 (show 9600 * t ≤ 9600 * (t + 1) by omega)
  have hI' := ImR_m hI (show 9600 * t ≤ 9600 * (t + 1) by omega)
  have hR' := RdR_m hR (show 9600 * t ≤ 9600 * (t + 1) by omega)
  obtain ⟨r, n, W, hh, f, l, u, hr, hn, hWW, hhW, rfl, rfl, rfl, rfl, e0, e1, e20, hk⟩ := hT
  obtain ⟨r', hr', rfl⟩ := nI_of2 (M := 3) (n := 3) rfl g1 g3
  rw [e0]
  have eA : nI r' = nI r ↔ r' = r := nI_eq (by omega) (by omega)
  have eB : nI r = nI r' ↔ r' = r := (nI_eq (by omega) (by omega)).trans eq_comm
  simp only [eA, eB]
  by_cases hrr : r' = r
  · rw [if_pos hrr, if_pos hrr]
    exact ⟨_, _, _, rfl, rfl, hm⟩
  rw [if_neg hrr, if_neg hrr, a1, a2]
  simp only [Option.bind_some]
  obtain ⟨d0, d1⟩ := day_pos r'
  obtain ⟨F', w1, w2⟩ := wrap_eq (F := F) d0 d1 hn
  obtain ⟨sA, b1, b2, b3⟩ := turn44 (s := upd s 0 (nI r')) (p := past') (x2 := nI r) (th := 0) (un := un) (show r' < 4 by omega) hn pk_us (by rw [pk_un (by omega)]; exact e1)
  have b3' : ∀ i, i ≠ 0 → (∀ k, k < n → i ≠ 2 + 3 * k) → sA i = s i := fun i h1 h2 => by rw [b3 i h2, pk_un h1]
  have b0 : sA 0 = nI r' := by rw [b3 0 (by omega), pk_us]
  rw [b1, Option.bind_some, around_eq _ (show r' < 4 by omega) b0, Option.bind_some, turn104 (show r' < 4 by omega) (by rw [pk_un (by omega)]; exact b0), Option.bind_some, b3' 34 (by omega) (by omega)]
  unfold f_X4_turnTo
  rw [day4_eq (show r' < 4 by omega), Option.bind_some, w1, Option.bind_some, floor_eq _ d0 (by omega), floor_eq _ d0 (by omega), floor_eq _ d0 (by omega), floor_eq _ d0 (by omega)]
  simp only [Option.bind_some]
  obtain ⟨⟨w, hw1, rfl⟩, hw2, hw3, hw4, hw5⟩ := hW
  have hmw := md_lt (x := (nI w).toInt) d0
  have c34 : s 34 = nI w := hw2
  have sE : ∀ i, i ≠ 0 → i ≠ 34 → i ≠ 38 → i ≠ 41 → i ≠ 44 → (∀ k, k < n → i ≠ 2 + 3 * k) → (upd (upd (upd (upd sA 34 (nI (md (s 34).toInt (dayN r')))) 38 (nI (md ((upd sA 34 (nI (md (s 34).toInt (dayN r')))) 38).toInt (dayN r')))) 41 (nI (md ((upd sA 34 (nI (md (s 34).toInt (dayN r')))) 41).toInt (dayN r')))) 44 (nI (md ((upd sA 34 (nI (md (s 34).toInt (dayN r')))) 44).toInt (dayN r')))) i = s i := fun i h1 h2 h3 h4 h5 h6 => by
    rw [pk_un h5, pk_un h4, pk_un h3, pk_un h2]; exact b3' i h1 h6
  have p38 : (upd sA 34 (nI (md (s 34).toInt (dayN r')))) 38 = s 38 := by rw [pk_un (by omega)]; exact b3' 38 (by omega) (by omega)
  have p41 : (upd sA 34 (nI (md (s 34).toInt (dayN r')))) 41 = s 41 := by rw [pk_un (by omega)]; exact b3' 41 (by omega) (by omega)
  have p44 : (upd sA 34 (nI (md (s 34).toInt (dayN r')))) 44 = s 44 := by rw [pk_un (by omega)]; exact b3' 44 (by omega) (by omega)
  refine ⟨_, _, _, rfl, rfl, ⟨?_, ?_, ?_, ?_, ?_, ?_⟩, hH', hI', hS⟩
  · refine ⟨r', n, W, hh, fun k => md (nI (f k)).toInt (dayN r'), l, u, by omega, hn, hWW, hhW, rfl, rfl, rfl, rfl, ?_, ?_, ?_, fun k hkn => ?_⟩
    · try dsimp only
      simp (disch := omega) only [pk_un]; exact b0
    · try dsimp only
      rw [sE 1 (by omega) (by omega) (by omega) (by omega) (by omega) (by omega)]; exact e1
    · try dsimp only
      rw [sE 20 (by omega) (by omega) (by omega) (by omega) (by omega) (by omega)]; exact e20
    · obtain ⟨k1, k2, k3, k4, k5, k6, k7, k8⟩ := hk k hkn
      have hmk := md_lt (x := (nI (f k)).toInt) d0
      have w3 := w2 k hkn
      rw [k1] at w3
      refine ⟨w3, k2, k3, ?_, ?_, ?_, by show md (nI (f k)).toInt (dayN r') < 2592000; omega, k8⟩
      · try dsimp only
        simp (disch := omega) only [pk_un]; rw [b2 k hkn, pk_un (by omega), k4]
      · try dsimp only
        rw [sE _ (by omega) (by omega) (by omega) (by omega) (by omega) (by omega)]; exact k5
      · try dsimp only
        rw [sE _ (by omega) (by omega) (by omega) (by omega) (by omega) (by omega)]; exact k6
  · exact RdR_c hR' (fun j h1 h2 => sE j (by omega) (by omega) (by omega) (by omega) (by omega) (by omega)) (fun j h1 h2 => sE j (by omega) (by omega) (by omega) (by omega) (by omega) (by omega))
  · refine ⟨⟨_, by omega, rfl⟩, ?_, ?_, ?_, ?_⟩
    · try dsimp only
      simp (disch := omega) only [pk_un, pk_us]; rw [c34]
    · try dsimp only
      rw [sE _ (by omega) (by omega) (by omega) (by omega) (by omega) (by omega)]; exact hw3
    · try dsimp only
      rw [sE _ (by omega) (by omega) (by omega) (by omega) (by omega) (by omega)]; exact hw4
    · try dsimp only
      rw [sE _ (by omega) (by omega) (by omega) (by omega) (by omega) (by omega)]; exact hw5
  · refine ch_turn hc0 d0 d1 ?_ (sE (38 + 3 * 0 + 1) (by omega) (by omega) (by omega) (by omega) (by omega) (by omega)) (sE (38 + 3 * 0 + 2) (by omega) (by omega) (by omega) (by omega) (by omega) (by omega))
    rw [show (38 + 3 * 0 : Nat) = 38 from rfl]
    dsimp only
    rw [pk_un (by omega), pk_un (by omega), pk_us, p38]
  · refine ch_turn hc1 d0 d1 ?_ (sE (38 + 3 * 1 + 1) (by omega) (by omega) (by omega) (by omega) (by omega) (by omega)) (sE (38 + 3 * 1 + 2) (by omega) (by omega) (by omega) (by omega) (by omega) (by omega))
    rw [show (38 + 3 * 1 : Nat) = 41 from rfl]
    dsimp only
    rw [pk_un (by omega), pk_us, p41]
  · refine ch_turn hc2 d0 d1 ?_ (sE (38 + 3 * 2 + 1) (by omega) (by omega) (by omega) (by omega) (by omega) (by omega)) (sE (38 + 3 * 2 + 2) (by omega) (by omega) (by omega) (by omega) (by omega) (by omega))
    rw [show (38 + 3 * 2 : Nat) = 44 from rfl]
    dsimp only
    rw [pk_us, p44]
theorem isFr {r : Nat} {x : Int32} {s : Nat → Int32} (hr : r < 4) (h0 : s 0 = nI r) : (f_X8_isFrame x (nI r) = some 0 ∧ f_X9_isFrame x s = some 0) ∨ (∃ f, f < dayN r ∧ x = nI f ∧ f_X8_isFrame x (nI r) = some 1 ∧ f_X9_isFrame x s = some 1) := by
  obtain ⟨d0, d1⟩ := day_pos r
  have e1 : nI (dayN r) - (1 : Int32) = nI (dayN r - 1) := sub_nI (b := 1) (by omega)
  unfold f_X8_isFrame f_X9_isFrame
  rw [day4_eq hr, day9_eq hr h0, Option.bind_some, Option.bind_some, e1]
  rcases inC x 0 (nI (dayN r - 1)) with ⟨e, hb⟩ | ⟨e, g1, g2, g3⟩
  · left
    rw [e]
    refine ⟨?_, rfl⟩
    by_cases h1 : x < 0
    · rw [if_pos h1]
    · rw [if_neg h1, if_pos]
      rcases hb with hb | hb
      · exact absurd hb h1
      · have h2 := lt_iff.mp hb
        rw [nI_toInt (by omega)] at h2
        apply le_iff.mpr; rw [nI_toInt (by omega)]; omega
  · right
    obtain ⟨f, hf, rfl⟩ := nI_of2 (M := nI (dayN r - 1)) (n := dayN r - 1) (nI_toInt (by omega)) g1 g3
    refine ⟨f, by omega, rfl, ?_, by rw [e]; rfl⟩
    rw [if_neg g1, if_neg (nI_ge (by omega) (by omega))]
theorem sim_lays {t : Nat} (ht : t < 512) (x1 x2 x3 : Int32) {σ : FV} {μ : MV} (h : Rel t σ μ) : ∃ (r : Int32) (σ' : FV) (μ' : MV), fcS_lays x1 x2 x3 σ = some (r, σ') ∧ mdS_lays x1 x2 x3 μ = some (r, μ') ∧ Rel (t + 1) σ' μ' := by
  obtain ⟨⟨rate, F, L, U, sg, wd, hd, cell, waits, bits, held, readings, broken, errors, jumps, streak, frame, number, user, course, wf, wc, wm, wh, p0, s0, o0, p1, s1, o1, p2, s2, o2⟩, next, known, R, Im, pl, sp, off, sn, sf, seen⟩ := σ
  obtain ⟨thrown, s, past, undos, kept, isk, seen', sn', sf'⟩ := μ
  have hm := rel_mono _ _ _ h
  obtain ⟨⟨hT, hR, hW, hc0, hc1, hc2⟩, hH, hI, hS⟩ := h
  dsimp only at hT hR hW hc0 hc1 hc2 hH hI hS
  obtain ⟨nx, kn, R', past', un, a1, a2, a3⟩ := add_notes (v := (rate, F, L, U, sg, wd, hd, cell, waits, bits, held, readings, broken, errors, jumps, streak, frame, number, user, course, wf, wc, wm, wh, p0, s0, o0, p1, s1, o1, p2, s2, o2)) hH ⟨hT, hR, hW, hc0, hc1, hc2⟩
  have hH' := HsR_m a3 (show 9600 * t ≤ 9600 * (t + 1) by omega)
  have hI' := ImR_m hI (show 9600 * t ≤ 9600 * (t + 1) by omega)
  have hR' := RdR_m hR (show 9600 * t ≤ 9600 * (t + 1) by omega)
  obtain ⟨r, n, W, hh, f, l, u, hr, hn, hWW, hhW, rfl, rfl, rfl, rfl, e0, e1, e20, hk⟩ := hT
  unfold fcS_lays mdS_lays f_X8_lays f_X9_lays
  dsimp only
  rcases isFr (x := x1) hr e0 with ⟨i1, i2⟩ | ⟨fr, hfr, rfl, i1, i2⟩
  · rw [i1, i2]
    simp only [Option.bind_some, if_true]
    exact ⟨_, _, _, rfl, rfl, hm⟩
  rw [i1, i2]
  simp only [Option.bind_some, d10, if_false]
  rcases inC x2 1 40 with ⟨e, hb⟩ | ⟨e, g1, g2, g3⟩
  · rw [e, cB hb]
    simp only [Option.bind_some, if_true]
    exact ⟨_, _, _, rfl, rfl, hm⟩
  rw [e, if_neg g1, if_neg g2]
  simp only [Option.bind_some, d10, if_false]
  rcases inC x3 0 15 with ⟨e', hb⟩ | ⟨e', g1', g2', g3'⟩
  · rw [e', cA hb]
    simp only [Option.bind_some, if_true]
    exact ⟨_, _, _, rfl, rfl, hm⟩
  rw [e', if_neg g1', if_pos g3']
  simp only [Option.bind_some, d10, if_false]
  have c6 : nI n < (6 : Int32) ↔ n < 6 := nI_ltI (b := 6) (by omega) (by omega)
  have c6' : nI n = (6 : Int32) ↔ n = 6 := nI_eq (b := 6) (by omega) (by omega)
  by_cases h6 : n = 6
  · rw [if_neg (fun h => absurd (c6.mp h) (by omega)), if_pos (show s 1 = 6 by rw [e1]; exact c6'.mpr h6)]
    exact ⟨_, _, _, rfl, rfl, hm⟩
  rw [if_pos (c6.mpr (by omega)), if_neg (show ¬ s 1 = 6 by rw [e1]; exact fun h => h6 (c6'.mp h)), a1, a2]
  simp only [Option.bind_some]
  unfold f_X5_append
  simp only [nm]
  rw [if_neg (nI_pos (by omega)), if_pos (c6.mpr (by omega)), gd_nI (by omega) (by omega), gd_nI (by omega) (by omega), gd_nI (by omega) (by omega), nI_clamp (by omega)]
  simp only [nm, Option.bind_some]
  rw [e1, ix3, ix1 (2 + 3 * n), ix2 (2 + 3 * n), gd_nI (by omega) (by omega), gd_nI (by omega) (by omega), gd_nI (by omega) (by omega), nI_clamp (by omega), nI_clamp (by omega), nI_clamp (by omega)]
  simp (disch := omega) only [pk_un, pk_us]
  try rw [e1]
  rw [nI_1]
  obtain ⟨d0, d1⟩ := day_pos r
  obtain ⟨ln, hln, rfl⟩ := nI_of2 (M := 40) (n := 40) rfl (fun h => g1 (lt_iff.mpr (by have := lt_iff.mp h; have h2 : (0 : Int32).toInt = 0 := rfl; have h3 : (1 : Int32).toInt = 1 := rfl; omega))) g3
  obtain ⟨us, hus, rfl⟩ := nI_of2 (M := 15) (n := 15) rfl g1' g3'
  have hl1 : 1 ≤ ln := by
    apply Nat.le_of_not_lt; intro h
    apply g1; exact nI_lt (b := 1) h (by omega)
  have hsm : sm (fun k => if k = n then ln else l k) n = sm l n := sm_congr (fun k hkn => by show (if k = n then ln else l k) = l k; rw [if_neg (by omega)])
  refine ⟨_, _, _, rfl, rfl, ⟨?_, ?_, ?_, ?_, ?_, ?_⟩, hH', hI', hS⟩
  · refine ⟨r, n + 1, W + ln, hh, fun k => if k = n then fr else f k, fun k => if k = n then ln else l k, fun k => if k = n then us else u k, hr, by omega, ?_, by omega, rfl, rfl, nI_add W ln, rfl, ?_, ?_, ?_, fun k hkn => ?_⟩
    · rw [sm_s, hsm, if_pos rfl, hWW]
    · try dsimp only
      simp (disch := omega) only [pk_un]; exact e0
    · dsimp only
      rw [pk_us]
    · try dsimp only
      simp (disch := omega) only [pk_un]; exact e20
    · by_cases hkn' : k = n
      · subst hkn'
        dsimp only
        rw [if_pos rfl, if_pos rfl, if_pos rfl]
        refine ⟨pk_us, pk_us, pk_us, ?_, ?_, ?_, by omega, hl1, hln, hus⟩
        · try dsimp only
          simp (disch := omega) only [pk_un, pk_us]
        · try dsimp only
          simp (disch := omega) only [pk_un, pk_us]
        · try dsimp only
          simp (disch := omega) only [pk_un, pk_us]
      · obtain ⟨k1, k2, k3, k4, k5, k6, k7⟩ := hk k (by omega)
        dsimp only
        rw [if_neg hkn', if_neg hkn', if_neg hkn', pk_un hkn', pk_un hkn', pk_un hkn']
        refine ⟨k1, k2, k3, ?_, ?_, ?_, k7⟩
        · try dsimp only
          simp (disch := omega) only [pk_un]; exact k4
        · try dsimp only
          simp (disch := omega) only [pk_un]; exact k5
        · try dsimp only
          simp (disch := omega) only [pk_un]; exact k6
  · exact RdR_c hR' (fun j h1 h2 => by simp (disch := omega) only [pk_un]) (fun j h1 h2 => by simp (disch := omega) only [pk_un])
  · exact WhR_c hW (fun j h1 h2 => by simp (disch := omega) only [pk_un])
  · exact ChR_c hc0 (fun j h1 h2 => by simp (disch := omega) only [pk_un])
  · exact ChR_c hc1 (fun j h1 h2 => by simp (disch := omega) only [pk_un])
  · exact ChR_c hc2 (fun j h1 h2 => by simp (disch := omega) only [pk_un])
theorem sim_winds {t : Nat} (ht : t < 512) (x1 : Int32) {σ : FV} {μ : MV} (h : Rel t σ μ) : ∃ (r : Int32) (σ' : FV) (μ' : MV), fcS_winds x1 σ = some (r, σ') ∧ mdS_winds x1 μ = some (r, μ') ∧ Rel (t + 1) σ' μ' := by
  obtain ⟨⟨rate, F, L, U, sg, wd, hd, cell, waits, bits, held, readings, broken, errors, jumps, streak, frame, number, user, course, wf, wc, wm, wh, p0, s0, o0, p1, s1, o1, p2, s2, o2⟩, next, known, R, Im, pl, sp, off, sn, sf, seen⟩ := σ
  obtain ⟨thrown, s, past, undos, kept, isk, seen', sn', sf'⟩ := μ
  have hm := rel_mono _ _ _ h
  obtain ⟨⟨hT, hR, hW, hc0, hc1, hc2⟩, hH, hI, hS⟩ := h
  dsimp only at hT hR hW hc0 hc1 hc2 hH hI hS
  obtain ⟨nx, kn, R', past', un, a1, a2, a3⟩ := add_notes (v := (rate, F, L, U, sg, wd, hd, cell, waits, bits, held, readings, broken, errors, jumps, streak, frame, number, user, course, wf, wc, wm, wh, p0, s0, o0, p1, s1, o1, p2, s2, o2)) hH ⟨hT, hR, hW, hc0, hc1, hc2⟩
  have hH' := HsR_m a3 (show 9600 * t ≤ 9600 * (t + 1) by omega)
  have hI' := ImR_m hI (show 9600 * t ≤ 9600 * (t + 1) by omega)
  have hR' := RdR_m hR (show 9600 * t ≤ 9600 * (t + 1) by omega)
  obtain ⟨r, n, W, hh, f, l, u, hr, hn, hWW, hhW, rfl, rfl, rfl, rfl, e0, e1, e20, hk⟩ := hT
  obtain ⟨tp, hWb⟩ := tape0 hn hWW e1 hk
  unfold fcS_winds mdS_winds f_X8_winds f_X9_winds f_X5_bitsInAll
  dsimp only
  rw [tp, show (48 : Int32) * nI W = nI (48 * W) from pk_mul 48 W]
  simp only [Option.bind_some]
  rcases inC x1 0 (nI (48 * W)) with ⟨e, hb⟩ | ⟨e, g1, g2, g3⟩
  · rw [e, cA hb]
    simp only [Option.bind_some, if_true]
    exact ⟨_, _, _, rfl, rfl, hm⟩
  rw [e, if_neg g1, if_pos g3]
  simp only [Option.bind_some, d10, if_false, nm]
  obtain ⟨x, hx, rfl⟩ := nI_of2 (M := nI (48 * W)) (n := 48 * W) (nI_toInt (by omega)) g1 g3
  rw [e20]
  have eA : nI x = nI hh ↔ x = hh := nI_eq (by omega) (by omega)
  have eB : nI hh = nI x ↔ x = hh := (nI_eq (by omega) (by omega)).trans eq_comm
  simp only [eA, eB]
  by_cases hrr : x = hh
  · rw [if_pos hrr, if_pos hrr]
    exact ⟨_, _, _, rfl, rfl, hm⟩
  rw [if_neg hrr, if_neg hrr, a1, a2]
  simp only [Option.bind_some]
  refine ⟨_, _, _, rfl, rfl, ⟨⟨r, n, W, x, f, l, u, hr, hn, hWW, hx, rfl, rfl, rfl, rfl, ?_, ?_, (show (upd s 20 (nI x)) 20 = nI x from pk_us), fun k hkn => ?_⟩, RdR_c hR' (fun j h1 h2 => pk_un (by omega)) (fun j h1 h2 => pk_un (by omega)), WhR_c hW (fun j h1 h2 => pk_un (by omega)), ChR_c hc0 (fun j h1 h2 => pk_un (by omega)), ChR_c hc1 (fun j h1 h2 => pk_un (by omega)), ChR_c hc2 (fun j h1 h2 => pk_un (by omega))⟩, hH', hI', hS⟩
  · try dsimp only
    rw [pk_un (by omega)]; exact e0
  · try dsimp only
    rw [pk_un (by omega)]; exact e1
  · try dsimp only
    rw [pk_un (by omega), pk_un (by omega), pk_un (by omega)]; exact hk k hkn
