/-! the tape: how long, which word, which bit -/
theorem ix3 (k : Nat) : (2 : Int32) + 3 * nI k = nI (2 + 3 * k) := by rw [show (2 : Int32) = nI 2 from rfl, show (3 : Int32) = nI 3 from rfl, pk_mul, nI_add]
theorem tape_eq {n : Nat} {l : Nat → Nat} {s : Nat → Int32} (hn : n ≤ 6) (h1 : s 1 = nI n) (hl : ∀ k, k < n → s (2 + 3 * k + 1) = nI (l k)) (hb : ∀ k, k < n → l k ≤ 40) : f_X9_tape s = some (nI (48 * sm l n)) := by
  obtain ⟨r, g1, g2⟩ := lp_0 (body := fb_X9_tape_4 s) (fun k w => w = (nI (48 * sm l k), nI k)) (fun r => r = nI (48 * sm l n)) n (by omega) (by
    intro k hk w hw
    subst hw
    refine ⟨_, ?_, rfl⟩
    unfold fb_X9_tape_4
    simp only [nm]
    rw [h1, if_neg (nI_ge hk (by omega)), ix3, ix1, gd_nI (by omega) (by omega), nI_clamp (by omega), hl k hk, nI_1, show (48 : Int32) = nI 48 from rfl, pk_mul, nI_add, sm_s, Nat.mul_add]) (by
    intro w hw
    subst hw
    refine ⟨_, ?_, rfl⟩
    unfold fb_X9_tape_4
    simp only []
    rw [h1, if_pos (nI_le (Nat.le_refl _) (by omega))]) (x := ((0 : Int32), (0 : Int32))) rfl
  unfold f_X9_tape
  rw [g1, g2]; rfl
theorem bit_eq {r n h : Nat} {f l u : Nat → Nat} {F L U s : Nat → Int32} (hr : r < 4) (hn : n ≤ 6) (h0 : s 0 = nI r) (hk : ∀ k, k < n → F k = nI (f k) ∧ L k = nI (l k) ∧ U k = nI (u k) ∧ s (2 + 3 * k) = nI (f k) ∧ s (2 + 3 * k + 1) = nI (l k) ∧ s (2 + 3 * k + 2) = nI (u k) ∧ f k < 2592000 ∧ 1 ≤ l k ∧ l k ≤ 40 ∧ u k ≤ 15) (hh : h < 48 * sm l n) : ∃ W, W < 2 ^ 32 ∧ f_X5_wordAt (nI (h / 48)) (nI r) F L U (nI n) = some (lN (wv W)) ∧ f_X9_bitAt (nI h) s = some (nI (bt (wv W) (h % 48))) := by
  have hbound : sm l n ≤ 40 * n := sm_le (fun k h => (hk k h).2.2.2.2.2.2.2.2.1)
  obtain ⟨q, q', g1, g2, i, left, hi, hl, rfl, rfl, hsum⟩ := lp_two0 (b := fb_X5_wordAt_5 (nI r) F L U (nI n)) (b' := fb_X9_bitAt_4 s) (fun i w w' => ∃ left, w = (nI (left / 48), nI i) ∧ w' = (nI left, nI i) ∧ left + 48 * sm l i = h ∧ i ≤ n) (fun q q' => ∃ i left, i < n ∧ left < 48 * l i ∧ q = .inl (nI (left / 48), nI i) ∧ q' = (nI left, nI i) ∧ left + 48 * sm l i = h) 6 (by omega) (by
    intro i hi w w' hw
    obtain ⟨left, rfl, rfl, hsum, hin⟩ := hw
    have hlt : i < n := by
      apply Nat.lt_of_le_of_ne hin
      intro he; subst he; omega
    obtain ⟨a1, a2, a3, a4, a5, a6, a7, a8, a9, a10⟩ := hk i hlt
    have e1 : nI (l i) ≤ nI (left / 48) ↔ l i ≤ left / 48 := nI_leI (by omega) (by omega)
    have e2 : nI left < (48 : Int32) * nI (l i) ↔ left < 48 * l i := by
      rw [show (48 : Int32) = nI 48 from rfl, pk_mul]; exact nI_ltI (by omega) (by omega)
    by_cases hc : left < 48 * l i
    · refine .inr ⟨_, _, fun m => lp_inr ?_ _, fun m => lp_inr ?_ _, i, left, hlt, hc, rfl, rfl, hsum⟩
      · unfold fb_X5_wordAt_5
        simp only []
        rw [if_neg (nI_ge hlt (by omega)), if_neg (show ¬ (6 : Int32) ≤ nI i from nI_ge (b := 6) (by omega) (by omega)), gd_nI (by omega) (by omega), nI_clamp (by omega), a2]
        simp only [e1]
        rw [if_neg (by omega)]
      · unfold fb_X9_bitAt_4
        simp only []
        rw [ix3, ix1, gd_nI (by omega) (by omega), nI_clamp (by omega), a5]
        simp only [e2]
        rw [if_pos hc]
    · refine .inl ⟨by omega, (nI ((left - 48 * l i) / 48), nI (i + 1)), (nI (left - 48 * l i), nI (i + 1)), ?_, ?_, left - 48 * l i, rfl, rfl, ?_, by omega⟩
      · unfold fb_X5_wordAt_5
        simp only [nm]
        rw [if_neg (nI_ge hlt (by omega)), if_neg (show ¬ (6 : Int32) ≤ nI i from nI_ge (b := 6) (by omega) (by omega)), gd_nI (by omega) (by omega), nI_clamp (by omega), a2]
        simp only [e1]
        rw [if_pos (by omega), gd_nI (by omega) (by omega), sub_nI (by omega), nI_1, show left / 48 - l i = (left - 48 * l i) / 48 by omega]
      · unfold fb_X9_bitAt_4
        simp only [nm]
        rw [ix3, ix1, gd_nI (by omega) (by omega), nI_clamp (by omega), a5]
        simp only [e2]
        rw [if_neg hc, gd_nI (by omega) (by omega), show (48 : Int32) = nI 48 from rfl, pk_mul, sub_nI (by omega), nI_1]
      · rw [sm_s, Nat.mul_add]; omega) (x := (nI (h / 48), (0 : Int32))) (y := (nI h, (0 : Int32))) ⟨h, rfl, rfl, rfl, Nat.zero_le _⟩
  obtain ⟨a1, a2, a3, a4, a5, a6, a7, a8, a9, a10⟩ := hk i hi
  obtain ⟨d0, d1⟩ := day_pos r
  have hm := md_lt (x := (nI (f i) + nI (left / 48)).toInt) d0
  obtain ⟨W, w1, w2, w3⟩ := word_eq (s := s) hr h0 (f := md (nI (f i) + nI (left / 48)).toInt (dayN r)) (by omega) (nI (u i))
  refine ⟨W, w1, ?_, ?_⟩
  · unfold f_X5_wordAt
    rw [g1, Option.bind_some]
    simp only [Sum.elim_inl]
    rw [gd_nI (by omega) (by omega), dayOf2_eq hr, Option.bind_some, nI_clamp (by omega), a1, floor_eq _ d0 (by omega), Option.bind_some, gd_nI (by omega) (by omega), a3, w3]; rfl
  · have hlm : h % 48 = left % 48 := by omega
    unfold f_X9_bitAt
    rw [g2, Option.bind_some]
    simp only [nm]
    rw [ix3, ix2, gd_nI (by omega) (by omega), nI_clamp (by omega), a4, show (48 : Int32) = nI 48 from rfl, div_nI (by omega) (by omega) (by omega), around_eq _ hr h0, Option.bind_some, rem_nI (by omega) (by omega) (by omega), bt_wv w1, hlm, nI_clamp (by omega), a6, gd_nI (by omega) (by omega), w2]
    have e3 : (32 : Int32) ≤ nI (left % 48) ↔ 32 ≤ left % 48 := nI_leI (a := 32) (by omega) (by omega)
    simp only [e3, Option.bind_some]
    by_cases hc : 32 ≤ left % 48
    · rw [if_pos hc, if_neg (by omega), show (32 : Int32) = nI 32 from rfl, sub_nI hc, sync_eq (by omega)]; rfl
    · rw [if_neg hc, if_pos (by omega), us_nI w1 (by omega), and1]; rfl
