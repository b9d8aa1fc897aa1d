/-! chasers: the way, the wanted speed, a step -/
theorem add_toInt {a b : Int32} {x y : Int} (ha : a.toInt = x) (hb : b.toInt = y) (h1 : -2 ^ 31 ≤ x + y) (h2 : x + y < 2 ^ 31) : (a + b).toInt = x + y := by
  rw [Int32.toInt_add, ha, hb]; exact Int.bmod_eq_of_le (by omega) (by omega)
theorem sub_toInt {a b : Int32} {x y : Int} (ha : a.toInt = x) (hb : b.toInt = y) (h1 : -2 ^ 31 ≤ x - y) (h2 : x - y < 2 ^ 31) : (a - b).toInt = x - y := by
  rw [Int32.toInt_sub, ha, hb]; exact Int.bmod_eq_of_le (by omega) (by omega)
theorem ix0 (c : Nat) : (38 : Int32) + 3 * nI c = nI (38 + 3 * c) := by rw [show (38 : Int32) = nI 38 from rfl, show (3 : Int32) = nI 3 from rfl, pk_mul, nI_add]
theorem ix1 (n : Nat) : nI n + (1 : Int32) = nI (n + 1) := nI_1 n
theorem ix2 (n : Nat) : nI n + (2 : Int32) = nI (n + 2) := nI_add n 2
def wyI (d m : Nat) : Int32 := if 2 * m ≤ d then nI m else nI m - nI d
def wyN (d m : Nat) : Nat := if 2 * m ≤ d then m else d - m
theorem wayTo_eq {f p d : Nat} {o : Int32} (hf : f < 2592000) (hp : p < 2592000) (h1 : -99999 ≤ o.toInt) (h2 : o.toInt ≤ 99999) (h0 : 0 < d) (hd : d ≤ 2592000) : f_X0_wayTo (nI f) (nI d) (nI p) o = some (wyI d (md (f + o.toInt - p) d)) := by
  have hm := md_lt (x := f + o.toInt - p) h0
  have e1 : ((nI f + o) - nI p).toInt = f + o.toInt - p := sub_toInt (add_toInt (nI_toInt (by omega)) rfl (by omega) (by omega)) (nI_toInt (by omega)) (by omega) (by omega)
  unfold f_X0_wayTo wyI
  rw [floor_eq _ h0 (by omega), e1, Option.bind_some, show (2 : Int32) = nI 2 from rfl, pk_mul]
  have e2 : nI (2 * md (f + o.toInt - p) d) ≤ nI d ↔ 2 * md (f + o.toInt - p) d ≤ d := nI_leI (by omega) (by omega)
  simp only [e2]
  split <;> rfl
theorem wayOf_eq {c r f p : Nat} {o : Int32} {s : Nat → Int32} (hc : c < 3) (hr : r < 4) (h0 : s 0 = nI r) (hw : s 34 = nI f) (hp0 : s (38 + 3 * c) = nI p) (ho : s (38 + 3 * c + 2) = o) (hf : f < 2592000) (hp : p < 2592000) (h1 : -99999 ≤ o.toInt) (h2 : o.toInt ≤ 99999) : f_X9_wayOf (nI c) s = some (wyI (dayN r) (md (f + o.toInt - p) (dayN r))) := by
  obtain ⟨d0, d1⟩ := day_pos r
  unfold f_X9_wayOf
  rw [ix0, ix2, gd_nI (by omega) (by omega), nI_clamp (by omega), ho, hw, around_eq _ hr h0, Option.bind_some, gd_nI (by omega) (by omega), nI_clamp (by omega), hp0, around_eq _ hr h0, Option.bind_some, day9_eq hr h0, Option.bind_some, Option.bind_some]
  have e1 : (nI f + o).toInt = f + o.toInt := add_toInt (nI_toInt (by omega)) rfl (by omega) (by omega)
  have hm0 := md_lt (x := f + o.toInt) d0
  have e2 : (nI (md (f + o.toInt) (dayN r)) - nI p).toInt = (md (f + o.toInt) (dayN r) : Int) - p := sub_toInt (nI_toInt (by omega)) (nI_toInt (by omega)) (by omega) (by omega)
  have e3 : md ((md (f + o.toInt) (dayN r) : Int) - p) (dayN r) = md (f + o.toInt - p) (dayN r) := by
    unfold md
    rw [Int.toNat_of_nonneg (Int.emod_nonneg _ (by omega)), Int.emod_sub_emod]
  rw [e1, e2, e3]
  have hm := md_lt (x := f + o.toInt - p) d0
  unfold wyI
  have e4 : (2 : Int32) * nI (md (f + o.toInt - p) (dayN r)) ≤ nI (dayN r) ↔ 2 * md (f + o.toInt - p) (dayN r) ≤ dayN r := by
    rw [show (2 : Int32) = nI 2 from rfl, pk_mul]; exact nI_leI (by omega) (by omega)
  simp only [e4]
  split <;> rfl
/-- a way's size -/
theorem wy_abs {d m : Nat} (hm : m < d) (hd : d ≤ 2592000) : q_abs (wyI d m) = nI (wyN d m) ∧ f_X9_size (wyI d m) = some (nI (wyN d m)) ∧ wyN d m < 2592001 := by
  unfold wyI wyN
  by_cases h : 2 * m ≤ d
  · rw [if_pos h, if_pos h]
    unfold q_abs f_X9_size
    rw [if_pos (nI_pos' (by omega)), if_pos (nI_pos' (by omega))]
    exact ⟨rfl, rfl, by omega⟩
  · rw [if_neg h, if_neg h]
    have e1 : (nI m - nI d).toInt = (m : Int) - d := sub_toInt (nI_toInt (by omega)) (nI_toInt (by omega)) (by omega) (by omega)
    have e2 : ¬ (0 : Int32) ≤ nI m - nI d := by
      rw [le_iff, e1]; show ¬ (0 : Int) ≤ _; omega
    have e3 : (0 : Int32) - (nI m - nI d) = nI (d - m) := by
      apply eq_iff.mpr
      rw [sub_toInt (x := 0) rfl e1 (by omega) (by omega), nI_toInt (by omega)]; omega
    unfold q_abs f_X9_size
    rw [if_neg e2, if_neg e2, e3, ← Int32.zero_sub, e3]
    exact ⟨rfl, rfl, by omega⟩
def tri (k : Nat) : Nat := k * (k + 1) / 2
theorem tri_mono {a b : Nat} (h : a ≤ b) : tri a ≤ tri b := Nat.div_le_div_right (Nat.mul_le_mul h (by omega))
theorem tri_lt {a : Nat} (h : a ≤ 200) : a * (a + 1) < 2 ^ 31 := by
  have : a * (a + 1) ≤ 200 * 201 := Nat.mul_le_mul h (by omega)
  omega
theorem top_ex (m : Nat) : ∃ e, e ≤ 99 ∧ (∀ k, k < e → tri (k + 1) ≤ m) ∧ (e = 99 ∨ m < tri (e + 1)) := by
  obtain ⟨k, h1, h2⟩ := pk_least (fun k => k = 99 ∨ m < tri (k + 1)) ⟨99, .inl rfl⟩
  refine ⟨k, ?_, ?_, h1⟩
  · apply Nat.le_of_not_lt; intro h; exact h2 99 h (.inl rfl)
  · intro j hj
    have h3 := h2 j hj
    apply Nat.le_of_not_lt
    intro h4; exact h3 (.inr h4)
theorem lin_eq {x1 way : Int32} {s : Nat → Int32} {m e : Nat} (hs : f_X9_size way = some (nI m)) (hm : m < 2 ^ 31) (he : e ≤ 99) (h1 : ∀ k, k < e → tri (k + 1) ≤ m) (h2 : e = 99 ∨ m < tri (e + 1)) : lp (fb_X9_steps_8 x1 way s) 100000 0 = some (nI e) := by
  have body : ∀ k, k ≤ 99 → fb_X9_steps_8 x1 way s (nI k) = if 99 ≤ k then some (.inr (nI k)) else if m < tri (k + 1) then some (.inr (nI k)) else some (.inl (nI (k + 1))) := by
    intro k hk
    unfold fb_X9_steps_8
    rw [hs]
    simp only [Option.bind_some, nm, nl, nI_add, pk_mul]
    have hb : (k + 1) * (k + 2) < 2 ^ 31 := tri_lt (a := k + 1) (by omega)
    rw [div_nI hb (by omega) (by omega)]
    have e1 : nI 99 ≤ nI k ↔ 99 ≤ k := nI_leI (by omega) (by omega)
    have e2 : nI m < nI ((k + 1) * (k + 2) / 2) ↔ m < tri (k + 1) := nI_ltI hm (by omega)
    simp only [e1, e2]
  obtain ⟨r, h3, h4⟩ := lp_0 (body := fb_X9_steps_8 x1 way s) (fun k w => w = nI k) (fun r => r = nI e) e (by omega) (by
    intro i hi x hx
    subst hx
    refine ⟨_, ?_, rfl⟩
    have := h1 i hi
    rw [body i (by omega), if_neg (by omega), if_neg (by omega)]) (by
    intro x hx
    subst hx
    refine ⟨_, ?_, rfl⟩
    rw [body e he]
    rcases h2 with h | h
    · rw [if_pos (by omega)]
    · rw [if_pos h]; split <;> rfl) (x := (0 : Int32)) rfl
  rw [h3, h4]
theorem bin_eq {x0 : Int32} {m e : Nat} (hm : m < 2 ^ 31) (he : e ≤ 99) (h1 : ∀ k, k < e → tri (k + 1) ≤ m) (h2 : e = 99 ∨ m < tri (e + 1)) : lp (fb_X0_wantedFor_10 x0 (nI m)) 100000 ((0 : Int32), (64 : Int32)) = some (nI e) := by
  have ok : ∀ k, k ≤ e → tri k ≤ m := by
    intro k hk
    cases k with
    | zero => exact Nat.zero_le _
    | succ k => exact h1 k (by omega)
  have no : ∀ k, e < k → k ≤ 99 → m < tri k := by
    intro k hk h9
    rcases h2 with h | h
    · omega
    · exact Nat.lt_of_lt_of_le h (tri_mono (by omega))
  have body : ∀ k g, k ≤ e → 0 < g → g ≤ 64 → fb_X0_wantedFor_10 x0 (nI m) (nI k, nI g) = some (.inl (nI (if k + g ≤ e then k + g else k), nI (g / 2))) := by
    intro k g hk h0 hg
    unfold fb_X0_wantedFor_10 f_X0_wantedFor_42
    simp only [nm, nl, nI_add, pk_mul]
    rw [div_nI (tri_lt (a := k + g) (by omega)) (by omega) (by omega), div_nI (a := g) (by omega) (by omega) (by omega)]
    have e0 : nI g ≤ nI 0 ↔ g ≤ 0 := nI_leI (by omega) (by omega)
    have e1 : nI 99 < nI (k + g) ↔ 99 < k + g := nI_ltI (by omega) (by omega)
    have hb := tri_lt (a := k + g) (by omega)
    have e2 : nI m < nI ((k + g) * (k + g + 1) / 2) ↔ m < tri (k + g) := nI_ltI hm (by omega)
    simp only [e0, e1, e2]
    rw [if_neg (by omega)]
    by_cases h3 : k + g ≤ e
    · have := ok (k + g) h3
      rw [if_neg (by omega), if_neg (by omega), if_pos h3]
    · rw [if_neg h3]
      by_cases h4 : 99 < k + g
      · rw [if_pos h4]
      · rw [if_neg h4, if_pos (no (k + g) (by omega) (by omega))]
  have fin : ∀ k n, k ≤ e → e < k + 1 → lp (fb_X0_wantedFor_10 x0 (nI m)) (n + 1) (nI k, nI 0) = some (nI e) := by
    intro k n h3 h4
    have : k = e := by omega
    subst this
    exact lp_inr (by unfold fb_X0_wantedFor_10; rfl) n
  have step : ∀ j, j ≤ 7 → ∀ k, k ≤ e → e < k + 2 ^ j → ∀ n, lp (fb_X0_wantedFor_10 x0 (nI m)) (n + j + 1) (nI k, nI (2 ^ j / 2)) = some (nI e) := by
    intro j
    induction j with
    | zero => intro _ k h3 h4 n; exact fin k n h3 (by simpa using h4)
    | succ j ih =>
      intro hj k h3 h4 n
      have hp : 2 ^ j ≤ 2 ^ 6 := Nat.pow_le_pow_right (by omega) (by omega)
      have hq := Nat.two_pow_pos j
      have hg : 2 ^ (j + 1) / 2 = 2 ^ j := by rw [Nat.pow_succ]; omega
      rw [hg]
      refine lp_inl (body k (2 ^ j) h3 hq (by omega)) ?_
      rw [Nat.pow_succ] at h4
      refine ih (by omega) _ ?_ ?_ n
      · split <;> omega
      · split <;> omega
  exact step 7 (by omega) 0 (by omega) (by omega) 99992
/-- both look for the same speed -/
theorem want_eq {x1 : Int32} {s : Nat → Int32} {d m : Nat} (hm : m < d) (hd : d ≤ 2592000) : ∃ e, lp (fb_X9_steps_8 x1 (wyI d m) s) 100000 0 = some (nI e) ∧ f_X0_wantedFor (wyI d m) = some (if 0 ≤ wyI d m then nI e else -(nI e)) := by
  obtain ⟨a1, a2, a3⟩ := wy_abs hm hd
  obtain ⟨e, h1, h2, h3⟩ := top_ex (wyN d m)
  refine ⟨e, lin_eq a2 (by omega) h1 h2 h3, ?_⟩
  unfold f_X0_wantedFor
  simp only [nm]
  rw [a1, bin_eq (by omega) h1 h2 h3, Option.bind_some]
  split <;> rfl
/-- what a chaser is to a row of numbers -/
def ChR (c : Nat) (p sp o : Int32) (s : Nat → Int32) : Prop := ∃ q : Nat, q < 2592000 ∧ p = nI q ∧ s (38 + 3 * c) = nI q ∧ s (38 + 3 * c + 1) = sp ∧ s (38 + 3 * c + 2) = o ∧ -99999 ≤ o.toInt ∧ o.toInt ≤ 99999
theorem step_eq {c r f : Nat} {p sp o : Int32} {s : Nat → Int32} (hc : c < 3) (hr : r < 4) (h0 : s 0 = nI r) (hw : s 34 = nI f) (hf : f < 2592000) (h : ChR c p sp o s) : ∃ (p' sp' : Int32) (s' : Nat → Int32), f_X0_step (nI f) (nI (dayN r)) p sp o = some (p', sp') ∧ f_X9_steps (nI c) s = some s' ∧ ChR c p' sp' o s' ∧ ∀ j, j ≠ 38 + 3 * c → j ≠ 38 + 3 * c + 1 → s' j = s j := by
  obtain ⟨q, hq, rfl, a1, a2, a3, a4, a5⟩ := h
  obtain ⟨d0, d1⟩ := day_pos r
  have hm := md_lt (x := f + o.toInt - q) d0
  obtain ⟨e, w1, w2⟩ := want_eq (x1 := nI c) (s := s) hm d1
  unfold f_X0_step f_X9_steps
  rw [wayTo_eq hf hq a4 a5 d0 d1, wayOf_eq hc hr h0 hw a1 a3 hf hq a4 a5, Option.bind_some, Option.bind_some, w1, w2, Option.bind_some, Option.bind_some]
  generalize hW : (if 0 ≤ wyI (dayN r) (md (f + o.toInt - q) (dayN r)) then nI e else -(nI e)) = W
  have e36 : f_X9_steps_36 (nI c) (wyI (dayN r) (md (f + o.toInt - q) (dayN r))) (nI e) s = f_X9_steps_46 (nI c) W s := by
    unfold f_X9_steps_36
    rw [← hW]
    split <;> rfl
  rw [e36]
  obtain ⟨C, hC1, hC2⟩ : ∃ C, f_J6_compare_7cf53 W sp = some C ∧ f_X9_steps_46 (nI c) W s = f_X9_steps_103 (nI (38 + 3 * c)) C sp (nI (38 + 3 * c + 1)) s := by
    unfold f_J6_compare_7cf53 f_X9_steps_46
    simp only [nm]
    rw [ix0, ix1, gd_nI (by omega) (by omega), gd_nI (by omega) (by omega), gd_nI (by omega) (by omega), nI_clamp (by omega), a2]
    by_cases hx : W ≤ sp
    · rw [if_pos hx]
      by_cases hy : sp ≤ W
      · have : W = sp := eq_iff.mpr (by have := le_iff.mp hx; have := le_iff.mp hy; omega)
        exact ⟨0, by rw [if_pos hy, if_pos this], by rw [if_pos hy]⟩
      · exact ⟨-1, by rw [if_neg hy], by rw [if_neg hy]⟩
    · rw [if_neg hx]
      have hy : sp ≤ W := le_iff.mpr (Int.le_of_lt (Int.not_le.mp (fun h => hx (le_iff.mpr h))))
      have hz : ¬ W = sp := by intro h; apply hx; rw [h]; exact le_iff.mpr (Int.le_refl _)
      exact ⟨1, by rw [if_pos hy, if_neg hz], rfl⟩
  rw [hC1, hC2, Option.bind_some]
  simp only [nm]
  rw [floor_eq _ d0 (by omega), Option.bind_some]
  unfold f_X9_steps_103
  simp only [nm]
  rw [ix1, gd_nI (by omega) (by omega), gd_nI (by omega) (by omega), gd_nI (by omega) (by omega), nI_clamp (by omega), nI_clamp (by omega), pk_us, pk_un (by omega), a1, around_eq _ hr (by rw [pk_un (by omega)]; exact h0), Option.bind_some, gd_nI (by omega) (by omega)]
  have hm2 := md_lt (x := (nI q + (sp + C)).toInt) d0
  refine ⟨_, _, _, rfl, rfl, ⟨_, by omega, rfl, pk_us, ?_, ?_, a4, a5⟩, ?_⟩
  · rw [pk_un (by omega), pk_us]
  · rw [pk_un (by omega), pk_un (by omega)]; exact a3
  · intro j h1 h2
    rw [pk_un h1, pk_un h2]
theorem there_eq {c r f : Nat} {p sp o : Int32} {s : Nat → Int32} (hc : c < 3) (hr : r < 4) (h0 : s 0 = nI r) (hw : s 34 = nI f) (hf : f < 2592000) (h : ChR c p sp o s) : ∃ b : Int32, (b = 0 ∨ b = 1) ∧ f_X0_isAt (nI f) (nI (dayN r)) p sp o = some b ∧ f_X9_isThere (nI c) s = some b := by
  obtain ⟨q, hq, rfl, a1, a2, a3, a4, a5⟩ := h
  obtain ⟨d0, d1⟩ := day_pos r
  unfold f_X0_isAt f_X9_isThere
  rw [wayTo_eq hf hq a4 a5 d0 d1, wayOf_eq hc hr h0 hw a1 a3 hf hq a4 a5, Option.bind_some, Option.bind_some]
  rw [ix0, ix1, gd_nI (by omega) (by omega), nI_clamp (by omega), a2]
  by_cases h1 : sp = 0
  · rw [if_pos h1, if_pos h1]
    split
    · exact ⟨1, .inr rfl, rfl, rfl⟩
    · exact ⟨0, .inl rfl, rfl, rfl⟩
  · rw [if_neg h1, if_neg h1]
    split
    · exact ⟨0, .inl rfl, rfl, rfl⟩
    · exact ⟨0, .inl rfl, rfl, rfl⟩
