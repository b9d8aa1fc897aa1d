/-! a word is found, and what comes of it -/
def HC (rcell rwaits rerrors wframe wcourse wmissed : Int32) (r3 : Int32 × Int64 × Int32 × Int32 × Int32 × Int32 × Int32 × Int32 × Int32 × Int32 × Int32) : Option (Int32 × Int32 × Int64 × Int32 × Int32 × Int32 × Int32 × Int32 × Int32 × Int32 × Int32 × Int32 × Int32 × Int32 × Int32 × Int32) := (if r3.1 = (0 : Int32) then (some (rcell, rwaits, r3.2.1, r3.2.2.1, r3.2.2.2.1, r3.2.2.2.2.1, rerrors, r3.2.2.2.2.2.1, r3.2.2.2.2.2.2.1, r3.2.2.2.2.2.2.2.1, r3.2.2.2.2.2.2.2.2.1, r3.2.2.2.2.2.2.2.2.2.1, r3.2.2.2.2.2.2.2.2.2.2, wframe, wcourse, wmissed)) else ((f_X3_isLocked r3.2.2.2.2.2.2.1).bind fun r5 => (if r5 = (0 : Int32) then (some (rcell, rwaits, r3.2.1, r3.2.2.1, r3.2.2.2.1, r3.2.2.2.2.1, rerrors, r3.2.2.2.2.2.1, r3.2.2.2.2.2.2.1, r3.2.2.2.2.2.2.2.1, r3.2.2.2.2.2.2.2.2.1, r3.2.2.2.2.2.2.2.2.2.1, r3.2.2.2.2.2.2.2.2.2.2, wframe, wcourse, wmissed)) else ((f_X6_standAt r3.2.2.2.2.2.2.2.1 r3.2.2.2.2.2.2.2.2.2.2 wframe wcourse wmissed).bind fun r7 => (some (rcell, rwaits, r3.2.1, r3.2.2.1, r3.2.2.2.1, r3.2.2.2.2.1, rerrors, r3.2.2.2.2.2.1, r3.2.2.2.2.2.2.1, r3.2.2.2.2.2.2.2.1, r3.2.2.2.2.2.2.2.2.1, r3.2.2.2.2.2.2.2.2.2.1, r3.2.2.2.2.2.2.2.2.2.2, r7.1, r7.2.1, r7.2.2))))))
theorem HB_0 {way rate rcell rwaits : Int32} {rbits : Int64} {rheld rreadings rbroken rerrors rjumps rstreak rframe rnumber ruser rcourse wframe wcourse wmissed : Int32} (h : way = 0) : HB way rate rcell rwaits rbits rheld rreadings rbroken rerrors rjumps rstreak rframe rnumber ruser rcourse wframe wcourse wmissed = some (rcell, rwaits, rbits, rheld, rreadings, rbroken, rerrors, rjumps, rstreak, rframe, rnumber, ruser, rcourse, wframe, wcourse, wmissed) := by
  unfold HB; rw [if_pos h]
theorem HB_1 {way rate rcell rwaits : Int32} {rbits : Int64} {rheld rreadings rbroken rerrors rjumps rstreak rframe rnumber ruser rcourse wframe wcourse wmissed : Int32} (h : ¬ way = 0) : HB way rate rcell rwaits rbits rheld rreadings rbroken rerrors rjumps rstreak rframe rnumber ruser rcourse wframe wcourse wmissed = (f_X3_accept way rate rbits rheld rreadings rbroken rjumps rstreak rframe rnumber ruser rcourse).bind (HC rcell rwaits rerrors wframe wcourse wmissed) := by
  unfold HB; rw [if_neg h]; rfl
theorem d10 : ((1 : Int32) = 0) ↔ False := by decide
theorem d01 : ((0 : Int32) = 1) ↔ False := by decide
theorem read_eq {q : Nat} (hq : q < 2 ^ 31) : f_X3_hasRead (nI q) = some (if q = 0 then 0 else 1) := by
  unfold f_X3_hasRead
  have e : nI q ≤ (0 : Int32) ↔ q = 0 := by
    rw [show (0 : Int32) = nI 0 from rfl, nI_leI (by omega) (by omega)]; omega
  simp only [e]
  split <;> rfl
theorem lt3 {x : Int32} : x < 3 ↔ x ≤ 2 := by
  rw [lt_iff, le_iff]; show x.toInt < 3 ↔ x.toInt ≤ 2; omega
/-- does it follow -/
theorem follow_eq {r W q x : Nat} {way ni jumps streak frame : Int32} {s : Nat → Int32} (hr : r < 4) (hq : q < 2 ^ 31) (h0 : s 0 = nI r) (h24 : s 24 = nI q) (h27 : s 27 = jumps) (h28 : s 28 = streak) (h29 : s 29 = (if q = 0 then 0 else 1)) (h30 : q ≠ 0 → s 30 = frame) (hx : x < 2592000) : ∃ (J K : Int32) (s1 : Nat → Int32), f_X3_follow (nI x) way (nI (dayN r)) (nI q) jumps streak frame = some (J, K) ∧ f_X9_finds_108 (nI W) way ni (nI x) s = f_X9_finds_231 (nI W) way ni (nI x) K 28 s1 ∧ s1 24 = nI (q + 1) ∧ s1 27 = J ∧ ∀ j, j ≠ 24 → j ≠ 27 → s1 j = s j := by
  obtain ⟨d0, d1⟩ := day_pos r
  unfold f_X9_finds_108
  have hne : ¬ nI x = (-9 : Int32) := by
    intro h
    have h2 := eq_iff.mp h
    rw [nI_toInt (by omega), show (-9 : Int32).toInt = -9 by decide] at h2
    omega
  rw [if_neg hne, h24, nI_1]
  simp only [nm]
  rw [pk_un (show 29 ≠ 24 by omega), h29]
  unfold f_X3_follow
  rw [read_eq hq, Option.bind_some]
  have t0 : ∀ s1 : Nat → Int32, s1 27 = jumps → s1 28 = streak → s1 29 = s 29 → s1 24 = nI (q + 1) → (∀ j, j ≠ 24 → j ≠ 27 → s1 j = s j) → ∀ y z : Int32, ∃ s2 : Nat → Int32, f_X9_finds_205 (nI W) way ni (nI x) y z (s1 27) 27 s1 = f_X9_finds_231 (nI W) way ni (nI x) (if y = 0 then 1 else streak + 1) 28 s2 ∧ s2 24 = nI (q + 1) ∧ s2 27 = jumps + z ∧ ∀ j, j ≠ 24 → j ≠ 27 → s2 j = s j := by
    intro s1 a1 a2 a3 a4 a5 y z
    unfold f_X9_finds_205
    simp only [nm]
    rw [show (27 : Int32) = nI 27 from rfl, gd_nI (by omega) (by omega), nI_clamp (by omega), a1, pk_un (show 28 ≠ 27 by omega), a2]
    refine ⟨upd s1 27 (jumps + z), ?_, ?_, pk_us, fun j h1 h2 => ?_⟩
    · split <;> rfl
    · rw [pk_un (by omega)]; exact a4
    · rw [pk_un h2]; exact a5 j h1 h2
  have b1 : (upd s 24 (nI (q + 1))) 27 = jumps := by rw [pk_un (by omega)]; exact h27
  have b2 : (upd s 24 (nI (q + 1))) 28 = streak := by rw [pk_un (by omega)]; exact h28
  have b3 : (upd s 24 (nI (q + 1))) 29 = s 29 := pk_un (by omega)
  have b5 : ∀ j, j ≠ 24 → j ≠ 27 → (upd s 24 (nI (q + 1))) j = s j := fun j h1 h2 => pk_un h1
  have t1 := t0 _ b1 b2 b3 pk_us b5
  by_cases hq0 : q = 0
  · simp only [if_pos hq0, d01, if_true, if_false]
    unfold f_X9_finds_173 f_X9_finds_174 f_X3_follow_25 f_X3_follow_26 f_X9_finds_204
    rw [read_eq hq, Option.bind_some, b3, h29]
    unfold f_X3_follow_50
    simp only [if_pos hq0, d01, if_true, if_false]
    obtain ⟨s2, c1, c2, c3, c4⟩ := t1 0 0
    rw [if_pos rfl] at c1
    exact ⟨_, _, s2, rfl, c1, c2, by rw [c3]; exact Int32.add_zero _, c4⟩
  · simp only [if_neg hq0, d10, if_true, if_false]
    rw [floor_eq _ d0 (by omega), Option.bind_some, pk_un (show 30 ≠ 24 by omega), h30 hq0, around_eq _ hr (by rw [pk_un (by omega)]; exact h0), Option.bind_some]
    by_cases hf : nI x = nI (md (frame + way).toInt (dayN r))
    · rw [if_pos hf, if_pos hf]
      unfold f_X9_finds_174 f_X3_follow_26 f_X9_finds_204 f_X3_follow_50
      rw [read_eq hq, Option.bind_some, b3, h29]
      simp only [if_neg hq0, d10, if_true, if_false, nm]
      obtain ⟨s2, c1, c2, c3, c4⟩ := t1 1 0
      rw [if_neg (show ¬ (1 : Int32) = 0 by decide)] at c1
      exact ⟨_, _, s2, rfl, c1, c2, by rw [c3]; exact Int32.add_zero _, c4⟩
    · rw [if_neg hf, if_neg hf]
      unfold f_X9_finds_173 f_X9_finds_174 f_X3_follow_25 f_X3_follow_26 f_X3_follow_50
      rw [read_eq hq, Option.bind_some, b3, h29]
      simp only [if_neg hq0, d10, if_true, if_false, nm]
      obtain ⟨s2, c1, c2, c3, c4⟩ := t1 0 1
      rw [if_pos rfl] at c1
      exact ⟨_, _, s2, rfl, c1, c2, c3, c4⟩
theorem acc_eq {r W M q : Nat} {way cell waits held broken errors jumps streak frame number user course wf wc wm wh : Int32} {bits : Int64} {s : Nat → Int32} (hr : r < 4) (hW : W < 2 ^ 32) (hq : q ≤ M) (hM : M + 1 < 2 ^ 31) (h0 : s 0 = nI r) (h21 : s 21 = cell) (h22 : s 22 = waits) (h23 : s 23 = 0) (h24 : s 24 = nI q) (h25 : s 25 = broken) (h26 : s 26 = errors) (h27 : s 27 = jumps) (h28 : s 28 = streak) (h29 : s 29 = (if q = 0 then 0 else 1)) (h30 : q ≠ 0 → s 30 = frame ∧ s 31 = number ∧ s 32 = user ∧ s 33 = course) (hWh : WhR wf wc wm wh s) : ∃ q16 s', (f_X3_accept_26 way (nI r) (lN W) bits held (nI q) broken jumps streak frame number user course).bind (HC cell waits errors wf wc wm) = some q16 ∧ f_X9_finds (nI W) way s = some s' ∧ RdT (M + 1) q16 s' ∧ WhT wh q16 s' ∧ Stay s s' := by
  obtain ⟨⟨w, hw1, rfl⟩, hw2, hw3, hw4, hw5⟩ := hWh
  rw [finds_eq hr hW h0]
  unfold f_X3_accept_26
  rw [numIn_eq hr hW]
  simp only [f_X3_letGo, Option.bind_some]
  have hfr : f_X2_frameOf (nI r) (if okN r W then nI (niN W) else -9) = some (if okN r W then frN r (niN W) else -9) := by
    by_cases hk : okN r W
    · rw [if_pos hk, if_pos hk]; exact frame2_eq hr (niN_lt W)
    · rw [if_neg hk, if_neg hk]; exact frame2_neg hr
  rw [hfr, Option.bind_some]
  have hy : (if okN r W then frN r (niN W) else -9) = (-9 : Int32) ∨ (∃ x, x < 2592000 ∧ (if okN r W then frN r (niN W) else -9) = nI x ∧ okN r W) := by
    by_cases hk : okN r W
    · rw [if_pos hk]
      rcases frN_is (n := niN W) hr with h | ⟨f, h1, h2⟩
      · exact .inl h
      · exact .inr ⟨f, h1, h2, hk⟩
    · exact .inl (if_neg hk)
  rcases hy with hy | ⟨x, hx, hy, hk⟩
  · rw [hy, if_pos rfl]
    unfold f_X9_finds_108
    rw [if_pos rfl]
    simp only [nm, Option.bind_some, HC, if_true]
    refine ⟨_, _, rfl, rfl, ⟨0, 0, q, by omega, by omega, by omega, rfl, rfl, rfl, ?_, ?_, ?_, ?_, ?_, ?_, ?_, ?_, ?_, ?_, fun j hj => absurd hj (by omega)⟩, ⟨⟨w, hw1, rfl⟩, ?_, ?_, ?_, ?_⟩, fun j hj => pk_un (by omega)⟩
    · rw [pk_un (by omega)]; exact h21
    · rw [pk_un (by omega)]; exact h22
    · rw [pk_un (by omega)]; exact h23
    · rw [pk_un (by omega)]; exact h24
    · rw [pk_us, h25]
    · rw [pk_un (by omega)]; exact h26
    · rw [pk_un (by omega)]; exact h27
    · rw [pk_un (by omega)]; exact h28
    · rw [pk_un (by omega)]; exact h29
    · rw [pk_un (by omega), pk_un (by omega), pk_un (by omega), pk_un (by omega)]; exact h30
    · rw [pk_un (by omega)]; exact hw2
    · rw [pk_un (by omega)]; exact hw3
    · rw [pk_un (by omega)]; exact hw4
    · rw [pk_un (by omega)]; exact hw5
  · have hne : ¬ nI x = (-9 : Int32) := by
      intro h
      have h2 := eq_iff.mp h
      rw [nI_toInt (by omega), show (-9 : Int32).toInt = -9 by decide] at h2
      omega
    rw [hy, if_neg hne, if_pos hk, dayOf2_eq hr, Option.bind_some]
    obtain ⟨J, K, s1, f1, f2, f3, f4, f5⟩ := follow_eq (W := W) (way := way) (ni := nI (niN W)) hr (show q < 2 ^ 31 by omega) h0 h24 h27 h28 h29 (fun h => (h30 h).1) hx
    rw [f1, f2, Option.bind_some]
    simp only [nm, nI_1]
    unfold f_X7_userIn f_X9_finds_231
    simp only [nm, Option.bind_some, HC, d10, if_false]
    have hu1 : (Int64.toInt32 (q_lushr (lN W) (28 : Int32))) &&& (15 : Int32) = nI (W / 2 ^ 28 % 16) := by
      rw [show (28 : Int32) = nI 28 from rfl, lu_lN (by omega) (by omega), lN_i, a15]
    have hu2 : (q_ushr (nI W) (28 : Int32)) &&& (15 : Int32) = nI (W / 2 ^ 28 % 16) := by
      rw [show (28 : Int32) = nI 28 from rfl, us_nI hW (by omega), a15]
    rw [hu1, hu2, show (28 : Int32) = nI 28 from rfl, gd_nI (by omega) (by omega), nI_clamp (by omega)]
    unfold f_X3_isLocked
    have e28 : ∀ a b c d e : Int32, (upd (upd (upd (upd (upd (upd s1 28 K) 29 a) 30 b) 31 c) 32 d) 33 e) 28 = K := fun a b c d e => by
      rw [pk_un (by omega), pk_un (by omega), pk_un (by omega), pk_un (by omega), pk_un (by omega), pk_us]
    rw [e28]
    simp only [lt3]
    by_cases hK : K ≤ 2
    · rw [if_pos hK, if_pos hK, Option.bind_some, if_pos rfl]
      refine ⟨_, _, rfl, rfl, ⟨0, 0, q + 1, by omega, by omega, by omega, rfl, rfl, rfl, ?_, ?_, ?_, ?_, ?_, ?_, ?_, ?_, ?_, ?_, fun j hj => absurd hj (by omega)⟩, ⟨⟨w, hw1, rfl⟩, ?_, ?_, ?_, ?_⟩, fun j hj => ?_⟩
      · simp (disch := omega) only [pk_un, f5]; exact h21
      · simp (disch := omega) only [pk_un, f5]; exact h22
      · simp (disch := omega) only [pk_un, f5]; exact h23
      · simp (disch := omega) only [pk_un]; exact f3
      · simp (disch := omega) only [pk_un, f5]; exact h25
      · simp (disch := omega) only [pk_un, f5]; exact h26
      · simp (disch := omega) only [pk_un]; exact f4
      · simp (disch := omega) only [pk_un, pk_us]
      · simp (disch := omega) only [pk_un, pk_us]; rw [if_neg (by omega)]
      · intro _; simp (disch := omega) only [pk_un, pk_us, and_self]
      · simp (disch := omega) only [pk_un, f5]; exact hw2
      · simp (disch := omega) only [pk_un, f5]; exact hw3
      · simp (disch := omega) only [pk_un, f5]; exact hw4
      · simp (disch := omega) only [pk_un, f5]; exact hw5
      · rw [pk_un (by omega), pk_un (by omega), pk_un (by omega), pk_un (by omega), pk_un (by omega), pk_un (by omega)]; exact f5 j (by omega) (by omega)
    · rw [if_neg hK, if_neg hK, Option.bind_some, if_neg (show ¬ (1 : Int32) = 0 by decide)]
      simp only [f_X6_standAt, Option.bind_some]
      refine ⟨_, _, rfl, rfl, ⟨0, 0, q + 1, by omega, by omega, by omega, rfl, rfl, rfl, ?_, ?_, ?_, ?_, ?_, ?_, ?_, ?_, ?_, ?_, fun j hj => absurd hj (by omega)⟩, ⟨⟨x, hx, rfl⟩, ?_, ?_, ?_, ?_⟩, fun j hj => ?_⟩
      · simp (disch := omega) only [pk_un, f5]; exact h21
      · simp (disch := omega) only [pk_un, f5]; exact h22
      · simp (disch := omega) only [pk_un, f5]; exact h23
      · simp (disch := omega) only [pk_un]; exact f3
      · simp (disch := omega) only [pk_un, f5]; exact h25
      · simp (disch := omega) only [pk_un, f5]; exact h26
      · simp (disch := omega) only [pk_un]; exact f4
      · simp (disch := omega) only [pk_un, pk_us]
      · simp (disch := omega) only [pk_un, pk_us]; rw [if_neg (by omega)]
      · intro _; simp (disch := omega) only [pk_un, pk_us, and_self]
      · simp (disch := omega) only [pk_un, pk_us]
      · simp (disch := omega) only [pk_un, pk_us]
      · simp (disch := omega) only [pk_un, pk_us]
      · simp (disch := omega) only [pk_un, f5]; exact hw5
      · rw [pk_un (by omega), pk_un (by omega), pk_un (by omega), pk_un (by omega), pk_un (by omega), pk_un (by omega), pk_un (by omega), pk_un (by omega), pk_un (by omega)]; exact f5 j (by omega) (by omega)
theorem bind_id {α : Type} (x : Option α) : (x.bind fun r => some r) = x := by cases x <;> rfl
theorem t118_1 {W : Int32} {s2 : Nat → Int32} (hw : lp (fb_X9_tells_123 1 s2) 100000 ((0 : Int32), (0 : Int32)) = some W) : f_X9_tells_118 1 s2 = f_X9_finds W 1 (upd s2 23 0) := by
  unfold f_X9_tells_118
  rw [hw, Option.bind_some]
  simp only [nm, d10, if_false]
  exact bind_id _
theorem t118_0 {W : Int32} {s2 : Nat → Int32} (hw : lp (fb_X9_tells_123 0 s2) 100000 ((0 : Int32), (0 : Int32)) = some W) : f_X9_tells_118 0 s2 = f_X9_finds W (-1) (upd s2 23 0) := by
  unfold f_X9_tells_118
  rw [hw, Option.bind_some]
  simp only [nm, if_true]
  exact bind_id _
def rvN (B : Nat) : Nat := sb (fun k => bt B (47 - k)) 32
theorem rvN_lt (B : Nat) : rvN B < 2 ^ 32 := sb_lt (fun k => bt_lt _ _) 32
theorem t118f {B' : Nat} {s2 : Nat → Int32} (h : ∀ j, j < 48 → s2 (47 + j) = nI (bt B' j)) : f_X9_tells_118 1 s2 = f_X9_finds (nI (B' % 2 ^ 32)) 1 (upd s2 23 0) := by
  have hw := word32 (x2 := 1) (s := s2) (g := bt B') (fun k hk => by rw [if_neg (show ¬ (1 : Int32) = 0 by decide)]; exact h k (by omega)) (fun k => bt_lt _ _)
  rw [← sb_mod] at hw
  exact t118_1 hw
theorem t118b {B' : Nat} {s2 : Nat → Int32} (h : ∀ j, j < 48 → s2 (47 + j) = nI (bt B' j)) : f_X9_tells_118 0 s2 = f_X9_finds (nI (rvN B')) (-1) (upd s2 23 0) := t118_0 (word32 (x2 := 0) (s := s2) (g := fun k => bt B' (47 - k)) (fun k hk => by rw [if_pos rfl]; exact h _ (by omega)) (fun k => bt_lt _ _))
theorem accf {B' : Nat} (hB : B' < 2 ^ 48) (rate held readings broken jumps streak frame number user course : Int32) : f_X3_accept 1 rate (lN B') held readings broken jumps streak frame number user course = f_X3_accept_26 1 rate (lN (B' % 2 ^ 32)) (lN B') held readings broken jumps streak frame number user course := by
  unfold f_X3_accept
  rw [if_pos rfl, show (4294967295 : Int64) = lN (2 ^ 32 - 1) from rfl, an_lN, nmask]
theorem turn_rv {B' : Nat} (hB : B' < 2 ^ 48) : f_X7_turned (lN (B' / 2 ^ 16)) = some (lN (rvN B')) := by
  have hsb : sb (fun k => bt (B' / 2 ^ 16) (31 - k)) 32 = rvN B' := sb_congr (fun k hk => by
    show bt (B' / 2 ^ 16) (31 - k) = bt B' (47 - k)
    rw [btS, show 16 + (31 - k) = 47 - k by omega])
  rw [← hsb]
  exact turned_eq (by omega)
theorem accb {B' : Nat} (hB : B' < 2 ^ 48) (rate held readings broken jumps streak frame number user course : Int32) : f_X3_accept (-1) rate (lN B') held readings broken jumps streak frame number user course = f_X3_accept_26 (-1) rate (lN (rvN B')) (lN B') held readings broken jumps streak frame number user course := by
  unfold f_X3_accept
  rw [if_neg (by decide), show (16 : Int32) = nI 16 from rfl, lu_lN (by omega) (by omega), turn_rv hB, Option.bind_some]
theorem isS_f {B' : Nat} {s2 : Nat → Int32} (hB2 : B' < 2 ^ 48) (p3' : ∀ j, j < 48 → s2 (47 + j) = nI (bt B' j)) : (f_X9_isSync (32 : Int32) 1 s2 = some 1 ∧ B' / 2 ^ 32 = 49148) ∨ (f_X9_isSync (32 : Int32) 1 s2 = some 0 ∧ ¬ B' / 2 ^ 32 = 49148) := by
  have sf := isSync_eq (a := 32) (x2 := 1) (s := s2) (g := fun k => bt B' (32 + k)) (t := fun k => bt 49148 k) (by omega) (fun k hk => ⟨by rw [show 47 + 32 + k = 47 + (32 + k) by omega]; exact p3' _ (by omega), bt_lt _ _⟩) (fun k hk => by rw [if_neg (show ¬ (1 : Int32) = 0 by decide)])
  rw [sync_fwd hB2] at sf
  rw [show (32 : Int32) = nI 32 from rfl]
  exact sf
theorem isS_b {B' : Nat} {s2 : Nat → Int32} (p3' : ∀ j, j < 48 → s2 (47 + j) = nI (bt B' j)) : (f_X9_isSync (0 : Int32) 0 s2 = some 1 ∧ B' % 2 ^ 16 = 16381) ∨ (f_X9_isSync (0 : Int32) 0 s2 = some 0 ∧ ¬ B' % 2 ^ 16 = 16381) := by
  have sk := isSync_eq (a := 0) (x2 := 0) (s := s2) (g := fun k => bt B' k) (t := fun k => bt 49148 (15 - k)) (by omega) (fun k hk => ⟨by rw [show 47 + 0 + k = 47 + k by omega]; exact p3' _ (by omega), bt_lt _ _⟩) (fun k hk => by rw [if_pos rfl])
  rw [sync_bwd] at sk
  rw [nI_0] at sk
  exact sk
theorem tells_all {r N b : Nat} {cell waits held readings broken errors jumps streak frame number user course wf wc wm wh : Int32} {bits : Int64} {s : Nat → Int32} (hr : r < 4) (hb : b < 2) (hN : N + 1 < 2 ^ 31) (h0 : s 0 = nI r) (hR : RdR N cell waits bits held readings broken errors jumps streak frame number user course s) (hWh : WhR wf wc wm wh s) : ∃ r4, f_X3_tell (lN b) bits held = some r4 ∧ ∃ q16 s', HB r4.1 (nI r) cell waits r4.2.1 r4.2.2 readings broken errors jumps streak frame number user course wf wc wm = some q16 ∧ f_X9_tells (nI b) s = some s' ∧ RdT (N + 1) q16 s' ∧ WhT wh q16 s' ∧ Stay s s' := by
  obtain ⟨B, h, q, hB, hh, hq, rfl, rfl, rfl, h21, h22, h23, h24, h25, h26, h27, h28, h29, h30, hbits⟩ := hR
  obtain ⟨way, t1, t2⟩ := tell_eq hb hB hh
  obtain ⟨s2, p1, p2, p3, p4⟩ := push_eq hb hB hh h23 hbits
  refine ⟨_, t1, ?_⟩
  rw [p1]
  have hB2 : B / 2 + b * 2 ^ 47 < 2 ^ 48 := by
    have hb2 : b * 2 ^ 47 ≤ 1 * 2 ^ 47 := Nat.mul_le_mul_right _ (by omega)
    omega
  generalize B / 2 + b * 2 ^ 47 = B' at *
  have hW2 : WhR wf wc wm wh s2 := WhR_c hWh (fun j h1 h2 => p4 j (by omega) (by omega))
  have none0 : tlT s2 = some s2 → way = 0 → ∃ q16 s', HB way (nI r) cell waits (lN B') (nI (min (h + 1) 48)) (nI q) broken errors jumps streak frame number user course wf wc wm = some q16 ∧ tlT s2 = some s' ∧ RdT (N + 1) q16 s' ∧ WhT wh q16 s' ∧ Stay s s' := by
    intro ht hw
    refine ⟨_, _, HB_0 hw, ht, ⟨B', min (h + 1) 48, q, hB2, by omega, by omega, rfl, rfl, rfl, ?_, ?_, p2, ?_, ?_, ?_, ?_, ?_, ?_, ?_, p3⟩, hW2, fun j hj => p4 j (by omega) (by omega)⟩
    · rw [p4 _ (by omega) (by omega)]; exact h21
    · rw [p4 _ (by omega) (by omega)]; exact h22
    · rw [p4 _ (by omega) (by omega)]; exact h24
    · rw [p4 _ (by omega) (by omega)]; exact h25
    · rw [p4 _ (by omega) (by omega)]; exact h26
    · rw [p4 _ (by omega) (by omega)]; exact h27
    · rw [p4 _ (by omega) (by omega)]; exact h28
    · rw [p4 _ (by omega) (by omega)]; exact h29
    · rw [p4 _ (by omega) (by omega), p4 _ (by omega) (by omega), p4 _ (by omega) (by omega), p4 _ (by omega) (by omega)]; exact h30
  have full : ∀ (W : Nat) (w : Int32), W < 2 ^ 32 → ∃ q16 s', (f_X3_accept_26 w (nI r) (lN W) (lN B') (nI (min (h + 1) 48)) (nI q) broken jumps streak frame number user course).bind (HC cell waits errors wf wc wm) = some q16 ∧ f_X9_finds (nI W) w (upd s2 23 0) = some s' ∧ RdT (N + 1) q16 s' ∧ WhT wh q16 s' ∧ Stay s s' := by
    intro W w hW
    have hs3 : ∀ j, j ≠ 23 → j < 47 → (upd s2 23 0) j = s j := fun j h1 h2 => by rw [pk_un h1]; exact p4 j h1 (by omega)
    obtain ⟨q16, s', a1, a2, a3, a4, a5⟩ := acc_eq (way := w) (held := nI (min (h + 1) 48)) (bits := lN B') (cell := cell) (waits := waits) (broken := broken) (errors := errors) (jumps := jumps) (streak := streak) (frame := frame) (number := number) (user := user) (course := course) (wf := wf) (wc := wc) (wm := wm) (wh := wh) (s := upd s2 23 0) hr hW hq hN (by rw [hs3 _ (by omega) (by omega)]; exact h0) (by rw [hs3 _ (by omega) (by omega)]; exact h21) (by rw [hs3 _ (by omega) (by omega)]; exact h22) pk_us (by rw [hs3 _ (by omega) (by omega)]; exact h24) (by rw [hs3 _ (by omega) (by omega)]; exact h25) (by rw [hs3 _ (by omega) (by omega)]; exact h26) (by rw [hs3 _ (by omega) (by omega)]; exact h27) (by rw [hs3 _ (by omega) (by omega)]; exact h28) (by rw [hs3 _ (by omega) (by omega)]; exact h29) (by rw [hs3 _ (by omega) (by omega), hs3 _ (by omega) (by omega), hs3 _ (by omega) (by omega), hs3 _ (by omega) (by omega)]; exact h30) (WhR_c hWh (fun j h1 h2 => hs3 j (by omega) (by omega)))
    exact ⟨q16, s', a1, a2, a3, a4, fun j hj => by rw [a5 j hj]; exact hs3 j (by omega) (by omega)⟩
  have e48 : (48 : Int32) ≤ s2 23 ↔ 48 ≤ h + 1 := by
    rw [p2, show (48 : Int32) = nI 48 from rfl, nI_leI (by omega) (by omega)]; omega
  rcases t2 with ⟨c1, hw⟩ | ⟨c1, t2⟩
  · refine none0 ?_ hw
    unfold tlT
    rw [if_neg (fun h => absurd (e48.mp h) (by omega))]
  · have hm : min (h + 1) 48 = 48 := by omega
    have p3' : ∀ j, j < 48 → s2 (47 + j) = nI (bt B' j) := fun j hj => by
      have := p3 j (by omega)
      rw [hm] at this
      rw [this, show 48 - 48 + j = j by omega]
    have sf' := isS_f hB2 p3'
    have sk' := isS_b p3'
    have tl : tlT s2 = ((f_X9_isSync (32 : Int32) (1 : Int32) s2).bind fun r7 => (if r7 = (0 : Int32) then ((f_X9_isSync (0 : Int32) (0 : Int32) s2).bind fun r19 => (if r19 = (0 : Int32) then (some s2) else (f_X9_tells_118 r7 s2))) else (f_X9_tells_118 r7 s2))) := by
      unfold tlT; rw [if_pos (e48.mpr c1)]
    rcases t2 with ⟨c2, hw⟩ | ⟨c2, ⟨c3, hw⟩ | ⟨c3, hw⟩⟩
    · rcases sf' with ⟨g1, _⟩ | ⟨_, g2⟩
      · rw [tl, g1, Option.bind_some, if_neg (show ¬ (1 : Int32) = 0 by decide)]
        rw [t118f p3']
        subst hw
        dsimp only
        rw [HB_1 (by decide), accf hB2]
        obtain ⟨q16, s', a1, a2, a3⟩ := full (B' % 2 ^ 32) 1 (by omega)
        rw [a2]
        exact ⟨q16, s', a1, rfl, a3⟩
      · exact absurd c2 g2
    · rcases sf' with ⟨_, g2⟩ | ⟨g1, _⟩
      · exact absurd g2 c2
      rcases sk' with ⟨k1, _⟩ | ⟨_, k2⟩
      · rw [tl, g1, Option.bind_some, if_pos rfl, k1, Option.bind_some, if_neg (show ¬ (1 : Int32) = 0 by decide)]
        rw [t118b p3']
        subst hw
        dsimp only
        rw [HB_1 (by decide), accb hB2]
        obtain ⟨q16, s', a1, a2, a3⟩ := full (rvN B') (-1) (rvN_lt B')
        rw [a2]
        exact ⟨q16, s', a1, rfl, a3⟩
      · exact absurd c3 k2
    · rcases sf' with ⟨_, g2⟩ | ⟨g1, _⟩
      · exact absurd g2 c2
      rcases sk' with ⟨_, k2⟩ | ⟨k1, _⟩
      · exact absurd k2 c3
      · exact none0 (by rw [tl, g1, Option.bind_some, if_pos rfl, k1, Option.bind_some, if_pos rfl]) hw
theorem hear_eq {r N : Nat} {d cell waits held readings broken errors jumps streak frame number user course wf wc wm wh : Int32} {bits : Int64} {s : Nat → Int32} (hr : r < 4) (hN : N + 1 < 2 ^ 31) (h0 : s 0 = nI r) (hR : RdR N cell waits bits held readings broken errors jumps streak frame number user course s) (hWh : WhR wf wc wm wh s) : ∃ q16 s', f_X4_hear d (nI r) cell waits bits held readings broken errors jumps streak frame number user course wf wc wm = some q16 ∧ f_X9_comes d s = some s' ∧ RdT (N + 1) q16 s' ∧ WhT wh q16 s' ∧ Stay s s' := by
  have h21 : s 21 = cell := by obtain ⟨B, h, q, _, _, _, _, _, _, h21, _⟩ := hR; exact h21
  have h22 : s 22 = waits := by obtain ⟨B, h, q, _, _, _, _, _, _, _, h22, _⟩ := hR; exact h22
  have h26 : s 26 = errors := by obtain ⟨B, h, q, _, _, _, _, _, _, _, _, _, _, _, h26, _⟩ := hR; exact h26
  rw [hear_red]
  unfold f_X3_take f_X9_comes
  rw [h21, h22]
  have fin : ∀ (b : Nat) (x : Int32) (s4 : Nat → Int32), b < 2 → s4 21 = cell → (∀ j, j ≠ 21 → j ≠ 22 → j ≠ 26 → s4 j = s j) → ∃ c, f_X3_adapt x cell = some c ∧ ∃ r4, f_X3_tell (lN b) bits held = some r4 ∧ ∃ q16 s', HB r4.1 (nI r) c (s4 22) r4.2.1 r4.2.2 readings broken (s4 26) jumps streak frame number user course wf wc wm = some q16 ∧ ((f_X9_cell x s4).bind fun r9 => ((f_X9_tells (nI b) r9).bind fun r10 => (some r10))) = some s' ∧ RdT (N + 1) q16 s' ∧ WhT wh q16 s' ∧ Stay s s' := by
    intro b x s4 hb h421 h4
    obtain ⟨s5, c1, c2, c3⟩ := cell_eq x s4
    have h5 : ∀ j, j ≠ 21 → j ≠ 22 → j ≠ 26 → s5 j = s j := fun j a1 a2 a3 => by rw [c3 j a1]; exact h4 j a1 a2 a3
    have R5 := RdR_set hR h5
    rw [c3 22 (by omega), c3 26 (by omega)] at R5
    obtain ⟨r4, t1, q16, s', t2, t3, t4, t5, t6⟩ := tells_all hr hb hN (by rw [h5 0 (by omega) (by omega) (by omega)]; exact h0) R5 (WhR_c hWh (fun j a1 a2 => h5 j (by omega) (by omega) (by omega)))
    rw [h421] at c2
    refine ⟨_, c2, r4, t1, q16, s', t2, ?_, t4, t5, fun j hj => by rw [t6 j hj]; exact h5 j (by omega) (by omega) (by omega)⟩
    rw [c1, Option.bind_some, t3]; rfl
  by_cases c1 : (4 : Int32) * d ≤ (3 : Int32) * cell
  · rw [if_pos c1, if_pos c1]
    by_cases c2 : waits = 0
    · rw [if_pos c2, if_pos c2, Option.bind_some, HB_0 rfl]
      simp only [nm]
      have R := RdR_set (s' := upd s 22 d) hR (fun x h1 h2 h3 => pk_un h2)
      rw [pk_un (show 21 ≠ 22 by omega), pk_us, pk_un (show 26 ≠ 22 by omega), h21, h26] at R
      exact ⟨_, _, rfl, rfl, RdR_m R (by omega), WhR_c hWh (fun j a1 a2 => pk_un (by omega)), fun j hj => pk_un (by omega)⟩
    · rw [if_neg c2, if_neg c2]
      simp only [nm]
      obtain ⟨c, a1, r4, a2, q16, s', a3, a4, a5⟩ := fin 1 (waits + d) (upd s 22 0) (by omega) (by rw [pk_un (by omega)]; exact h21) (fun j b1 b2 b3 => pk_un b2)
      rw [pk_us, pk_un (show 26 ≠ 22 by omega), h26] at a3
      rw [a1, Option.bind_some, show (1 : Int64) = lN 1 from rfl, a2, Option.bind_some, Option.bind_some]
      exact ⟨q16, s', a3, a4, a5⟩
  · rw [if_neg c1, if_neg c1]
    by_cases c2 : waits ≤ 0
    · rw [if_pos c2, if_pos c2]
      obtain ⟨c, a1, r4, a2, q16, s', a3, a4, a5⟩ := fin 0 d s (by omega) h21 (fun j b1 b2 b3 => rfl)
      rw [h22, h26] at a3
      rw [a1, Option.bind_some, show (0 : Int64) = lN 0 from rfl, a2, Option.bind_some, Option.bind_some]
      exact ⟨q16, s', a3, a4, a5⟩
    · rw [if_neg c2, if_neg c2]
      simp only [nm]
      obtain ⟨c, a1, r4, a2, q16, s', a3, a4, a5⟩ := fin 0 d (upd (upd s 22 0) 26 (s 26 + 1)) (by omega) (by rw [pk_un (by omega), pk_un (by omega)]; exact h21) (fun j b1 b2 b3 => by rw [pk_un b3, pk_un b2])
      rw [pk_un (show 22 ≠ 26 by omega), pk_us, pk_us, h26] at a3
      rw [a1, Option.bind_some, show (0 : Int64) = lN 0 from rfl, a2, Option.bind_some, Option.bind_some, pk_un (show 26 ≠ 22 by omega)]
      exact ⟨q16, s', a3, a4, a5⟩
