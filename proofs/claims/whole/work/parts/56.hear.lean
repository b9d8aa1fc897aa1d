/-! a length of time is heard: the class's hear, the reference's comes -/
theorem lcmp0 {x y : Int64} : lg_cmp x y = 0 ↔ x = y := by
  unfold lg_cmp
  by_cases h : x = y
  · subst h
    rw [if_neg (by intro h; exact absurd (Int64.lt_iff_toInt_lt.mp h) (by omega)), if_pos rfl]
    exact ⟨fun _ => rfl, fun _ => rfl⟩
  · constructor
    · intro h2
      split at h2
      · exact absurd h2 (by decide)
      · exact absurd h2 (by decide)
    · intro h2; exact absurd h2 h
theorem btS (n a k : Nat) : bt (n / 2 ^ a) k = bt n (a + k) := by
  unfold bt; rw [Nat.div_div_eq_div_mul, ← Nat.pow_add]
theorem eq16 {n m : Nat} (hn : n < 2 ^ 16) (hm : m < 2 ^ 16) : (∀ k, k < 16 → bt n k = bt m k) ↔ n = m := by
  constructor
  · intro h
    rw [← Nat.mod_eq_of_lt hn, ← Nat.mod_eq_of_lt hm, sb_mod, sb_mod]
    exact sb_congr h
  · intro h; subst h; exact fun _ _ => rfl
theorem btM {n k : Nat} (hk : k < 16) : bt (n % 2 ^ 16) k = bt n k := by
  apply bt_eq
  rw [Nat.testBit_mod_two_pow]; simp [hk]
theorem sync_fwd {B : Nat} (hB : B < 2 ^ 48) : (∀ k, k < 16 → bt B (32 + k) = bt 49148 k) ↔ B / 2 ^ 32 = 49148 := by
  rw [← eq16 (n := B / 2 ^ 32) (m := 49148) (by omega) (by omega)]
  constructor
  · intro h k hk; rw [btS]; exact h k hk
  · intro h k hk; rw [← btS]; exact h k hk
theorem sync_bwd {B : Nat} : (∀ k, k < 16 → bt B k = bt 49148 (15 - k)) ↔ B % 2 ^ 16 = 16381 := by
  have hd : ∀ k : Fin 16, bt 49148 (15 - k.1) = bt 16381 k.1 := by decide +kernel
  rw [← eq16 (n := B % 2 ^ 16) (m := 16381) (by omega) (by omega)]
  constructor
  · intro h k hk; rw [btM hk, h k hk]; exact hd ⟨k, hk⟩
  · intro h k hk; have := h k hk; rw [btM hk] at this; rw [this]; exact (hd ⟨k, hk⟩).symm
theorem isSync_eq {a : Nat} {x2 : Int32} {s : Nat → Int32} {g t : Nat → Nat} (ha : a ≤ 32) (hs : ∀ k, k < 16 → s (47 + a + k) = nI (g k) ∧ g k < 2) (ht : ∀ k, k < 16 → t k = if x2 = 0 then bt 49148 (15 - k) else bt 49148 k) : (f_X9_isSync (nI a) x2 s = some 1 ∧ ∀ k, k < 16 → g k = t k) ∨ (f_X9_isSync (nI a) x2 s = some 0 ∧ ¬ ∀ k, k < 16 → g k = t k) := by
  have h47 : (47 : Int32) + nI a = nI (47 + a) := nI_add 47 a
  obtain ⟨r, g1, g2⟩ := lp_0 (body := fb_X9_isSync_5 (nI a) x2 s) (fun k w => w.2 = nI k ∧ ((w.1 = 1 ∧ ∀ j, j < k → g j = t j) ∨ (w.1 = 0 ∧ ¬ ∀ j, j < k → g j = t j))) (fun r => (r = 1 ∧ ∀ j, j < 16 → g j = t j) ∨ (r = 0 ∧ ¬ ∀ j, j < 16 → g j = t j)) 16 (by omega) (by
    intro k hk w hw
    obtain ⟨w1, w2⟩ := w
    obtain ⟨rfl, hw⟩ := hw
    dsimp only at hw
    have hno : ∀ y : Prop, (¬ ∀ j, j < k → g j = t j) → ¬ ∀ j, j < k + 1 → g j = t j := fun _ h h2 => h (fun j hj => h2 j (by omega))
    unfold fb_X9_isSync_5
    simp only []
    rw [if_neg (show ¬ (16 : Int32) ≤ nI k from nI_ge (b := 16) hk (by omega))]
    rcases hw with ⟨rfl, hw⟩ | ⟨rfl, hw⟩
    · rw [if_neg (by decide), h47, nI_add, gd_nI (by omega) (by omega), nI_clamp (by omega), (hs k hk).1]
      have hg := (hs k hk).2
      have htk := ht k hk
      have htl : t k < 2 := by rw [htk]; split <;> exact bt_lt _ _
      have main : ∀ y0 : Nat, y0 < 16 → bt 49148 y0 = t k → ∃ x', f_X9_isSync_42 (nI a) x2 s (nI k) (nI y0) (nI (g k)) = some (.inl x') ∧ x'.2 = nI (k + 1) ∧ ((x'.1 = 1 ∧ ∀ j, j < k + 1 → g j = t j) ∨ (x'.1 = 0 ∧ ¬ ∀ j, j < k + 1 → g j = t j)) := by
        intro y0 hy hty
        unfold f_X9_isSync_42 f_X9_isSync_52 f_X9_isSync_53
        rw [sync_eq hy, Option.bind_some, hty]
        simp only [nm]
        rw [nI_1]
        have e : nI (g k) = nI (t k) ↔ g k = t k := nI_eq (by omega) (by omega)
        simp only [e]
        by_cases hc : g k = t k
        · rw [if_pos hc]
          refine ⟨_, rfl, rfl, .inl ⟨rfl, fun j hj => ?_⟩⟩
          by_cases hjk : j = k
          · subst hjk; exact hc
          · exact hw j (by omega)
        · rw [if_neg hc]
          exact ⟨_, rfl, rfl, .inr ⟨rfl, fun h => hc (h k (by omega))⟩⟩
      by_cases hx : x2 = 0
      · rw [if_pos hx, show (15 : Int32) - nI k = nI (15 - k) from sub_nI (a := 15) (by omega)]
        exact main (15 - k) (by omega) (by rw [htk, if_pos hx])
      · rw [if_neg hx]
        exact main k hk (by rw [htk, if_neg hx])
    · rw [if_pos rfl]
      unfold f_X9_isSync_52 f_X9_isSync_53
      simp only [nm]
      rw [nI_1]
      exact ⟨_, rfl, rfl, .inr ⟨rfl, hno True hw⟩⟩) (by
    intro w hw
    obtain ⟨w1, w2⟩ := w
    obtain ⟨rfl, hw⟩ := hw
    exact ⟨w1, by unfold fb_X9_isSync_5; rfl, hw⟩) (x := ((1 : Int32), (0 : Int32))) ⟨rfl, .inl ⟨rfl, fun j hj => absurd hj (by omega)⟩⟩
  unfold f_X9_isSync
  rw [g1, Option.bind_some]
  rcases g2 with ⟨rfl, h⟩ | ⟨rfl, h⟩
  · exact .inl ⟨rfl, h⟩
  · exact .inr ⟨rfl, h⟩
/-- the word out of the bits that are held -/
theorem word32 {x2 : Int32} {s : Nat → Int32} {g : Nat → Nat} (hs : ∀ k, k < 32 → (if x2 = 0 then s (47 + (47 - k)) else s (47 + k)) = nI (g k)) (hg : ∀ k, g k < 2) : lp (fb_X9_tells_123 x2 s) 100000 ((0 : Int32), (0 : Int32)) = some (nI (sb g 32)) := by
  obtain ⟨r, g1, g2⟩ := lp_0 (body := fb_X9_tells_123 x2 s) (fun k w => w = (nI (sb g k), nI k)) (fun r => r = nI (sb g 32)) 32 (by omega) (by
    intro k hk w hw
    subst hw
    have hlt := sb_lt hg k
    have hgk := hg k
    have hp : 2 ^ k ≤ 2 ^ 31 := Nat.pow_le_pow_right (by omega) (by omega)
    have hpk : g k * 2 ^ k ≤ 1 * 2 ^ k := Nat.mul_le_mul_right _ (by omega)
    refine ⟨_, ?_, rfl⟩
    unfold fb_X9_tells_123
    simp only []
    rw [if_neg (show ¬ (32 : Int32) ≤ nI k from nI_ge (b := 32) hk (by omega))]
    have main : ∀ y0 : Nat, y0 < 48 → s (47 + y0) = nI (g k) → f_X9_tells_151 x2 s (nI k) (nI y0) (47 : Int32) (nI (sb g k)) = some (.inl (nI (sb g (k + 1)), nI (k + 1))) := by
      intro y0 hy hv
      unfold f_X9_tells_151
      simp only [nm]
      rw [show (47 : Int32) + nI y0 = nI (47 + y0) from nI_add 47 y0, gd_nI (by omega) (by omega), nI_clamp (by omega), hv, sl_nI hk (by omega), or_nI, or_top hlt, nI_1, sb_s]
    have hv := hs k hk
    by_cases hx : x2 = 0
    · rw [if_pos hx] at hv
      rw [if_pos hx, show (47 : Int32) - nI k = nI (47 - k) from sub_nI (a := 47) (by omega)]
      exact main (47 - k) (by omega) hv
    · rw [if_neg hx] at hv
      rw [if_neg hx]
      exact main k (by omega) hv) (by
    intro w hw
    subst hw
    exact ⟨_, by unfold fb_X9_tells_123; rfl, rfl⟩) (x := ((0 : Int32), (0 : Int32))) rfl
  rw [g1, g2]
def tn (D : Nat) : Nat → Nat := fun n => Nat.rec 0 (fun k a => 2 * a + bt D k) n
theorem tn_s (D n : Nat) : tn D (n + 1) = 2 * tn D n + bt D n := rfl
theorem tn_sb (D n : Nat) : tn D n = sb (fun k => bt D (n - 1 - k)) n := by
  induction n with
  | zero => rfl
  | succ n ih =>
    rw [tn_s, sb_front, ih, Nat.add_comm]
    have h1 : bt D n = bt D (n + 1 - 1 - 0) := by congr 1
    have h2 : sb (fun k => bt D (n - 1 - k)) n = sb (fun k => bt D (n + 1 - 1 - (k + 1))) n := sb_congr (fun k hk => by
      show bt D (n - 1 - k) = bt D (n + 1 - 1 - (k + 1))
      rw [show n + 1 - 1 - (k + 1) = n - 1 - k by omega])
    rw [← h1, h2]
theorem turned_eq {D : Nat} (hD : D < 2 ^ 32) : f_X7_turned (lN D) = some (lN (sb (fun k => bt D (31 - k)) 32)) := by
  have hlt : ∀ n, tn D n < 2 ^ n := fun n => by rw [tn_sb]; exact sb_lt (fun k => bt_lt _ _) n
  obtain ⟨r, g1, g2⟩ := lp_0 (body := fb_X7_turned_5 (lN D)) (fun k w => w = (lN (tn D k), nI k)) (fun r => r = lN (tn D 32)) 32 (by omega) (by
    intro k hk w hw
    subst hw
    have h1 := hlt k
    have hp : 2 ^ k ≤ 2 ^ 31 := Nat.pow_le_pow_right (by omega) (by omega)
    refine ⟨_, ?_, rfl⟩
    unfold fb_X7_turned_5
    simp only [nm]
    rw [if_neg (show ¬ (32 : Int32) ≤ nI k from nI_ge (b := 32) hk (by omega)), show (1 : Int32) = nI 1 from rfl, lshl_lN (by omega) (by omega), lu_lN (by omega) (by omega), show (1 : Int64) = lN 1 from rfl, an_lN, Nat.and_one_is_mod, or_lN, nI_add, show D / 2 ^ k % 2 = bt D k from rfl]
    have hb := bt_lt D k
    have hor := or_top (a := bt D k) (b := tn D k) (n := 1) (by omega)
    rw [Nat.or_comm, hor, tn_s, show bt D k + tn D k * 2 ^ 1 = 2 * tn D k + bt D k by omega]) (by
    intro w hw
    subst hw
    exact ⟨_, by unfold fb_X7_turned_5; rfl, rfl⟩) (x := ((0 : Int64), (0 : Int32))) rfl
  unfold f_X7_turned
  rw [g1, g2, tn_sb]; rfl
theorem RdR_set {N : Nat} {a b : Int32} {c : Int64} {d e f g h i j k l m : Int32} {s s' : Nat → Int32} (H : RdR N a b c d e f g h i j k l m s) (hs : ∀ x, x ≠ 21 → x ≠ 22 → x ≠ 26 → s' x = s x) : RdR N (s' 21) (s' 22) c d e f (s' 26) h i j k l m s' := by
  obtain ⟨B, x, q, h1, h2, h3, h4, h5, h6, h7, h8, h9, h10, h11, h12, h13, h14, h15, h16, h17⟩ := H
  refine ⟨B, x, q, h1, h2, h3, h4, h5, h6, rfl, rfl, ?_, ?_, ?_, rfl, ?_, ?_, ?_, ?_, ?_⟩
  · rw [hs 23 (by omega) (by omega) (by omega)]; exact h9
  · rw [hs 24 (by omega) (by omega) (by omega)]; exact h10
  · rw [hs 25 (by omega) (by omega) (by omega)]; exact h11
  · rw [hs 27 (by omega) (by omega) (by omega)]; exact h13
  · rw [hs 28 (by omega) (by omega) (by omega)]; exact h14
  · rw [hs 29 (by omega) (by omega) (by omega)]; exact h15
  · rw [hs 30 (by omega) (by omega) (by omega), hs 31 (by omega) (by omega) (by omega), hs 32 (by omega) (by omega) (by omega), hs 33 (by omega) (by omega) (by omega)]; exact h16
  · intro y hy; rw [hs _ (by omega) (by omega) (by omega)]; exact h17 y hy
theorem cell_eq (x : Int32) (s : Nat → Int32) : ∃ s1, f_X9_cell x s = some s1 ∧ f_X3_adapt x (s 21) = some (s1 21) ∧ ∀ j, j ≠ 21 → s1 j = s j := by
  unfold f_X9_cell f_X3_adapt q_max
  simp only [nm, pk_us]
  generalize ((3 : Int32) * s 21 + x) / 4 = v
  by_cases h : (1 : Int32) ≤ v
  · rw [if_pos h]
    refine ⟨_, rfl, ?_, fun j hj => by rw [pk_un hj, pk_un hj]⟩
    rw [pk_us]
    by_cases h2 : (1 : Int32) < v
    · rw [if_pos h2]
    · rw [if_neg h2]
      have : (1 : Int32) = v := eq_iff.mpr (Int.le_antisymm (le_iff.mp h) (Int.not_lt.mp (fun h => h2 (lt_iff.mpr h))))
      rw [this]
  · rw [if_neg h]
    refine ⟨_, rfl, ?_, fun j hj => by rw [pk_un hj, pk_un hj]⟩
    rw [pk_us, if_neg]
    intro h2; exact h (le_iff.mpr (Int.le_of_lt (lt_iff.mp h2)))
/-- what stays of a row while something is heard -/
def Stay (s s' : Nat → Int32) : Prop := ∀ j, j ≤ 20 ∨ (37 ≤ j ∧ j ≤ 46) → s' j = s j
/-- after take: what hear goes on with -/
def HB (way rate rcell rwaits : Int32) (rbits : Int64) (rheld rreadings rbroken rerrors rjumps rstreak rframe rnumber ruser rcourse wframe wcourse wmissed : Int32) : Option (Int32 × Int32 × Int64 × Int32 × Int32 × Int32 × Int32 × Int32 × Int32 × Int32 × Int32 × Int32 × Int32 × Int32 × Int32 × Int32) := (if way = (0 : Int32) then (some (rcell, rwaits, rbits, rheld, rreadings, rbroken, rerrors, rjumps, rstreak, rframe, rnumber, ruser, rcourse, wframe, wcourse, wmissed)) else ((f_X3_accept way rate rbits rheld rreadings rbroken rjumps rstreak rframe rnumber ruser rcourse).bind fun r3 => (if r3.1 = (0 : Int32) then (some (rcell, rwaits, r3.2.1, r3.2.2.1, r3.2.2.2.1, r3.2.2.2.2.1, rerrors, r3.2.2.2.2.2.1, r3.2.2.2.2.2.2.1, r3.2.2.2.2.2.2.2.1, r3.2.2.2.2.2.2.2.2.1, r3.2.2.2.2.2.2.2.2.2.1, r3.2.2.2.2.2.2.2.2.2.2, wframe, wcourse, wmissed)) else ((f_X3_isLocked r3.2.2.2.2.2.2.1).bind fun r5 => (if r5 = (0 : Int32) then (some (rcell, rwaits, r3.2.1, r3.2.2.1, r3.2.2.2.1, r3.2.2.2.2.1, rerrors, r3.2.2.2.2.2.1, r3.2.2.2.2.2.2.1, r3.2.2.2.2.2.2.2.1, r3.2.2.2.2.2.2.2.2.1, r3.2.2.2.2.2.2.2.2.2.1, r3.2.2.2.2.2.2.2.2.2.2, wframe, wcourse, wmissed)) else ((f_X6_standAt r3.2.2.2.2.2.2.2.1 r3.2.2.2.2.2.2.2.2.2.2 wframe wcourse wmissed).bind fun r7 => (some (rcell, rwaits, r3.2.1, r3.2.2.1, r3.2.2.2.1, r3.2.2.2.2.1, rerrors, r3.2.2.2.2.2.1, r3.2.2.2.2.2.2.1, r3.2.2.2.2.2.2.2.1, r3.2.2.2.2.2.2.2.2.1, r3.2.2.2.2.2.2.2.2.2.1, r3.2.2.2.2.2.2.2.2.2.2, r7.1, r7.2.1, r7.2.2))))))))
theorem hear_red (x1 rate rcell rwaits : Int32) (rbits : Int64) (rheld rreadings rbroken rerrors rjumps rstreak rframe rnumber ruser rcourse wframe wcourse wmissed : Int32) : f_X4_hear x1 rate rcell rwaits rbits rheld rreadings rbroken rerrors rjumps rstreak rframe rnumber ruser rcourse wframe wcourse wmissed = (f_X3_take x1 rcell rwaits rbits rheld rerrors).bind fun r1 => HB r1.1 rate r1.2.1 r1.2.2.1 r1.2.2.2.1 r1.2.2.2.2.1 rreadings rbroken r1.2.2.2.2.2 rjumps rstreak rframe rnumber ruser rcourse wframe wcourse wmissed := rfl
abbrev RdT (N : Nat) (q : Int32 × Int32 × Int64 × Int32 × Int32 × Int32 × Int32 × Int32 × Int32 × Int32 × Int32 × Int32 × Int32 × Int32 × Int32 × Int32) (s : Nat → Int32) : Prop := RdR N q.1 q.2.1 q.2.2.1 q.2.2.2.1 q.2.2.2.2.1 q.2.2.2.2.2.1 q.2.2.2.2.2.2.1 q.2.2.2.2.2.2.2.1 q.2.2.2.2.2.2.2.2.1 q.2.2.2.2.2.2.2.2.2.1 q.2.2.2.2.2.2.2.2.2.2.1 q.2.2.2.2.2.2.2.2.2.2.2.1 q.2.2.2.2.2.2.2.2.2.2.2.2.1 s
abbrev WhT (o : Int32) (q : Int32 × Int32 × Int64 × Int32 × Int32 × Int32 × Int32 × Int32 × Int32 × Int32 × Int32 × Int32 × Int32 × Int32 × Int32 × Int32) (s : Nat → Int32) : Prop := WhR q.2.2.2.2.2.2.2.2.2.2.2.2.2.1 q.2.2.2.2.2.2.2.2.2.2.2.2.2.2.1 q.2.2.2.2.2.2.2.2.2.2.2.2.2.2.2 o s

theorem tell_eq {b B h : Nat} (hb : b < 2) (hB : B < 2 ^ 48) (hh : h ≤ 48) : ∃ way : Int32, f_X3_tell (lN b) (lN B) (nI h) = some (way, lN (B / 2 + b * 2 ^ 47), nI (min (h + 1) 48)) ∧ ((h + 1 < 48 ∧ way = 0) ∨ (48 ≤ h + 1 ∧ (((B / 2 + b * 2 ^ 47) / 2 ^ 32 = 49148 ∧ way = 1) ∨ ((B / 2 + b * 2 ^ 47) / 2 ^ 32 ≠ 49148 ∧ (((B / 2 + b * 2 ^ 47) % 2 ^ 16 = 16381 ∧ way = -1) ∨ ((B / 2 + b * 2 ^ 47) % 2 ^ 16 ≠ 16381 ∧ way = 0)))))) := by
  unfold f_X3_tell
  have hv : q_lushr (lN B) (1 : Int32) ||| q_lshl (lN b) (47 : Int32) = lN (B / 2 + b * 2 ^ 47) := by
    have hb2 : b * 2 ^ 47 ≤ 1 * 2 ^ 47 := Nat.mul_le_mul_right _ (by omega)
    rw [show (1 : Int32) = nI 1 from rfl, show (47 : Int32) = nI 47 from rfl, lu_lN (by omega) (by omega), lshl_lN (by omega) (by omega), or_lN, or_top (by omega), show B / 2 ^ 1 = B / 2 by rfl]
  have hm : q_min (nI h + 1) 48 = nI (min (h + 1) 48) := by
    unfold q_min
    rw [nI_1]
    have e : (48 : Int32) < nI (h + 1) ↔ 48 < h + 1 := nI_ltI (a := 48) (by omega) (by omega)
    simp only [e]
    split
    · rw [show min (h + 1) 48 = 48 by omega]; rfl
    · rw [show min (h + 1) 48 = h + 1 by omega]
  simp only [nm]
  rw [hv, hm]
  have hB2 : B / 2 + b * 2 ^ 47 < 2 ^ 48 := by
    have hb2 : b * 2 ^ 47 ≤ 1 * 2 ^ 47 := Nat.mul_le_mul_right _ (by omega)
    omega
  generalize B / 2 + b * 2 ^ 47 = B' at *
  have e1 : (48 : Int32) ≤ nI (min (h + 1) 48) ↔ 48 ≤ h + 1 := by
    rw [show (48 : Int32) = nI 48 from rfl, nI_leI (by omega) (by omega)]; omega
  have e2 : lg_cmp (q_lushr (lN B') 32) 49148 = 0 ↔ B' / 2 ^ 32 = 49148 := by
    rw [lcmp0, show (32 : Int32) = nI 32 from rfl, lu_lN (by omega) (by omega), show (49148 : Int64) = lN 49148 from rfl, pk_lEQ (by omega) (by omega)]
  have e3 : lg_cmp (lN B' &&& 65535) 16381 = 0 ↔ B' % 2 ^ 16 = 16381 := by
    rw [lcmp0, show (65535 : Int64) = lN (2 ^ 16 - 1) from rfl, an_lN, nmask, show (16381 : Int64) = lN 16381 from rfl, pk_lEQ (by omega) (by omega)]
  simp only [e1, e2, e3]
  by_cases c1 : 48 ≤ h + 1
  · rw [if_pos c1]
    by_cases c2 : B' / 2 ^ 32 = 49148
    · rw [if_pos c2]; exact ⟨1, rfl, .inr ⟨c1, .inl ⟨c2, rfl⟩⟩⟩
    · rw [if_neg c2]
      by_cases c3 : B' % 2 ^ 16 = 16381
      · rw [if_pos c3]; exact ⟨-1, rfl, .inr ⟨c1, .inr ⟨c2, .inl ⟨c3, rfl⟩⟩⟩⟩
      · rw [if_neg c3]; exact ⟨0, rfl, .inr ⟨c1, .inr ⟨c2, .inr ⟨c3, rfl⟩⟩⟩⟩
  · rw [if_neg c1]; exact ⟨0, rfl, .inl ⟨by omega, rfl⟩⟩
/-- the reference's tells, past the push -/
def tlT (s : Nat → Int32) : Option (Nat → Int32) := (if (48 : Int32) ≤ (s 23) then ((f_X9_isSync (32 : Int32) (1 : Int32) s).bind fun r7 => (if r7 = (0 : Int32) then ((f_X9_isSync (0 : Int32) (0 : Int32) s).bind fun r19 => (if r19 = (0 : Int32) then (some s) else (f_X9_tells_118 r7 s))) else (f_X9_tells_118 r7 s))) else (some s))
theorem push_57 {b h : Nat} {s : Nat → Int32} (hh : h < 48) (h23 : s 23 = nI h) : ∃ s2, f_X9_tells_57 (nI b) s = tlT s2 ∧ s2 23 = nI (h + 1) ∧ s2 (47 + h) = nI b ∧ ∀ j, j ≠ 23 → j ≠ 47 + h → s2 j = s j := by
  unfold f_X9_tells_57
  simp only [nm]
  rw [h23, show (47 : Int32) + nI h = nI (47 + h) from nI_add 47 h, gd_nI (by omega) (by omega), nI_clamp (by omega), pk_un (show 23 ≠ 47 + h by omega), h23, nI_1]
  refine ⟨upd (upd s (47 + h) (nI b)) 23 (nI (h + 1)), rfl, pk_us, ?_, fun j h1 h2 => ?_⟩
  · rw [pk_un (by omega), pk_us]
  · rw [pk_un h1, pk_un h2]
theorem bt_push {B b k : Nat} (hB : B < 2 ^ 48) (hb : b < 2) (hk : k ≤ 47) : bt (B / 2 + b * 2 ^ 47) k = if k = 47 then b else bt B (k + 1) := by
  have h := Nat.testBit_two_pow_mul_add b (show B / 2 < 2 ^ 47 by omega) k
  rw [Nat.add_comm, Nat.mul_comm] at h
  have e : bt (B / 2 + b * 2 ^ 47) k = if k < 47 then bt (B / 2) k else bt b (k - 47) := by
    split at h
    · rw [if_pos (by assumption)]; apply bt_eq; rw [Nat.add_comm]; rw [Nat.add_comm] at h; exact h
    · rw [if_neg (by assumption)]; apply bt_eq; rw [Nat.add_comm]; rw [Nat.add_comm] at h; exact h
  rw [e]
  by_cases h47 : k = 47
  · subst h47; rw [if_neg (by omega), if_pos rfl]; unfold bt; omega
  · rw [if_pos (by omega), if_neg h47, show B / 2 = B / 2 ^ 1 by rfl, btS, Nat.add_comm]
theorem push_eq {b h B : Nat} {s : Nat → Int32} (hb : b < 2) (hB : B < 2 ^ 48) (hh : h ≤ 48) (h23 : s 23 = nI h) (hs : ∀ j, j < h → s (47 + j) = nI (bt B (48 - h + j))) : ∃ s2, f_X9_tells (nI b) s = tlT s2 ∧ s2 23 = nI (min (h + 1) 48) ∧ (∀ j, j < min (h + 1) 48 → s2 (47 + j) = nI (bt (B / 2 + b * 2 ^ 47) (48 - min (h + 1) 48 + j))) ∧ ∀ j, j ≠ 23 → j < 47 ∨ 95 ≤ j → s2 j = s j := by
  unfold f_X9_tells
  have e48 : nI h = (48 : Int32) ↔ h = 48 := nI_eq (b := 48) (by omega) (by omega)
  rw [h23]
  simp only [e48]
  by_cases h48 : h = 48
  · subst h48
    rw [if_pos rfl]
    obtain ⟨r, g1, g2⟩ := lp_0 (body := fb_X9_tells_14 (nI b)) (fun k w => w.1 = nI k ∧ ∀ i, w.2 i = if 47 ≤ i ∧ i < 47 + k then s (i + 1) else s i) (fun r => ∀ i, r i = if 47 ≤ i ∧ i < 47 + 47 then s (i + 1) else s i) 47 (by omega) (by
      intro k hk w hw
      obtain ⟨w1, P⟩ := w
      obtain ⟨rfl, hP⟩ := hw
      dsimp only at hP
      refine ⟨(nI (k + 1), upd P (47 + k) (s (47 + k + 1))), ?_, rfl, ?_⟩
      · unfold fb_X9_tells_14
        simp only [nm]
        rw [if_neg (show ¬ (47 : Int32) ≤ nI k from nI_ge (b := 47) hk (by omega)), show (47 : Int32) + nI k = nI (47 + k) from nI_add 47 k, nI_1, nI_1, gd_nI (by omega) (by omega), gd_nI (by omega) (by omega), nI_clamp (by omega), nI_clamp (by omega), hP (47 + k + 1), if_neg (by omega)]
      · intro i
        show upd P (47 + k) (s (47 + k + 1)) i = _
        by_cases hi : i = 47 + k
        · subst hi; rw [pk_us, if_pos (by omega)]
        · rw [pk_un hi, hP i]
          by_cases h3 : 47 ≤ i ∧ i < 47 + k
          · rw [if_pos h3, if_pos (by omega)]
          · rw [if_neg h3, if_neg (by omega)]) (by
      intro w hw
      obtain ⟨w1, P⟩ := w
      obtain ⟨rfl, hP⟩ := hw
      exact ⟨P, by unfold fb_X9_tells_14; rfl, hP⟩) (x := ((0 : Int32), s)) ⟨rfl, fun i => by rw [if_neg (by omega)]⟩
    rw [g1, Option.bind_some]
    simp only [nm]
    have hr23 : r 23 = nI 48 := by rw [g2, if_neg (by omega)]; exact h23
    rw [hr23, show nI 48 - (1 : Int32) = nI 47 from rfl]
    obtain ⟨s2, p1, p2, p3, p4⟩ := push_57 (b := b) (h := 47) (s := upd r 23 (nI 47)) (by omega) pk_us
    refine ⟨s2, p1, p2, fun j hj => ?_, fun j h1 h2 => ?_⟩
    · by_cases h47 : j = 47
      · subst h47; rw [p3, bt_push hB hb (by omega), if_pos (by omega)]
      · rw [p4 _ (by omega) (by omega), pk_un (by omega), g2, if_pos (by omega), show 47 + j + 1 = 47 + (j + 1) by omega, hs (j + 1) (by omega), bt_push hB hb (by omega), if_neg (by omega)]
        rw [show 48 - 48 + (j + 1) = 48 - min (48 + 1) 48 + j + 1 by omega]
    · rw [p4 j h1 (by omega), pk_un h1, g2, if_neg (by omega)]
  · rw [if_neg h48]
    obtain ⟨s2, p1, p2, p3, p4⟩ := push_57 (b := b) (h := h) (s := s) (by omega) h23
    have hm : min (h + 1) 48 = h + 1 := by omega
    rw [hm]
    refine ⟨s2, p1, p2, fun j hj => ?_, fun j h1 h2 => p4 j h1 (by omega)⟩
    by_cases hjh : j = h
    · subst hjh; rw [p3, bt_push hB hb (by omega), if_pos (by omega)]
    · rw [p4 _ (by omega) (by omega), hs j (by omega), bt_push hB hb (by omega), if_neg (by omega), show 48 - (h + 1) + j + 1 = 48 - h + j by omega]
