/-! numbers: both sides of the frames and their numbers -/
theorem nl (n : Nat) : (OfNat.ofNat n : Int32) = nI n := rfl
theorem div_nI {a d : Nat} (ha : a < 2 ^ 31) (h0 : 0 < d) (hd : d < 2 ^ 31) : nI a / nI d = nI (a / d) := pk_div ha h0 hd
theorem rem_nI {a d : Nat} (ha : a < 2 ^ 31) (h0 : 0 < d) (hd : d < 2 ^ 31) : q_rem (nI a) (nI d) = nI (a % d) := pk_rem ha h0 hd
theorem sub_nI {a b : Nat} (h : b ≤ a) : nI a - nI b = nI (a - b) := pk_sub h
theorem some_if {α : Type} {c : Prop} [Decidable c] {x y : α} : (if c then some x else some y) = some (if c then x else y) := by split <;> rfl
theorem dv_nI {α : Type} {d : Nat} (h0 : 0 < d) (hd : d < 2 ^ 31) (f : Option α) : dv (nI d) f = f := by unfold dv; rw [if_neg (nI_ne0 h0 hd)]
def secN (r : Nat) : Nat := if r = 0 then 24 else if r = 1 then 25 else 30
def dayN (r : Nat) : Nat := if r = 0 then 2073600 else if r = 1 then 2160000 else if r = 2 then 2592000 else 2589408
theorem r4 {r : Nat} (h : r < 4) : r = 0 ∨ r = 1 ∨ r = 2 ∨ r = 3 := by omega
theorem second_eq {r : Nat} (h : r < 4) : f_X9_second (nI r) = some (nI (secN r)) := by rcases r4 h with rfl | rfl | rfl | rfl <;> rfl
theorem asec_eq {r : Nat} (h : r < 4) : f_X2_framesASecond (nI r) = some (nI (secN r)) := by rcases r4 h with rfl | rfl | rfl | rfl <;> rfl
theorem dayOf9_eq {r : Nat} (h : r < 4) : f_X9_dayOf (nI r) = some (nI (dayN r)) := by rcases r4 h with rfl | rfl | rfl | rfl <;> rfl
theorem dayOf2_eq {r : Nat} (h : r < 4) : f_X2_dayOf (nI r) = some (nI (dayN r)) := by rcases r4 h with rfl | rfl | rfl | rfl <;> rfl
theorem day_pos (r : Nat) : 0 < dayN r ∧ dayN r ≤ 2592000 := by unfold dayN; split; omega; split; omega; split <;> omega
theorem day4_eq {r : Nat} (h : r < 4) : f_X4_day (nI r) = some (nI (dayN r)) := by unfold f_X4_day; rw [dayOf2_eq h]; rfl
theorem day9_eq {r : Nat} {s : Nat → Int32} (h : r < 4) (h0 : s 0 = nI r) : f_X9_day s = some (nI (dayN r)) := by unfold f_X9_day; rw [h0, dayOf9_eq h]; rfl
/-- how many numbers are left out up to a frame -/
def outN (r f : Nat) : Nat := if r = 3 then 18 * (f / 17982) + 2 * (if f % 17982 < 1800 then 0 else (f % 17982 - 1800) / 1798 + 1) else 0
theorem outN_le {r f : Nat} (h : f < 2592000) : outN r f ≤ 3000 := by
  unfold outN
  split
  · split <;> omega
  · omega
theorem out_eq {r f : Nat} (h : r < 4) (hf : f < 2592000) : f_X2_leftOutUpTo (nI r) (nI f) = some (nI (outN r f)) := by
  by_cases h3 : r = 3
  · subst h3
    by_cases h1 : f % 17982 < 1800
    · have h2 : ¬ 1800 ≤ f % 17982 := by omega
      simp (disch := omega) only [f_X2_leftOutUpTo, f_X2_leftOutUpTo_41, nm, outN, nl, div_nI, rem_nI, nI_leI, nI_eq, pk_mul, nI_add, h1, h2, if_true, if_false]
    · have h2 : 1800 ≤ f % 17982 := by omega
      simp (disch := omega) only [f_X2_leftOutUpTo, f_X2_leftOutUpTo_41, nm, outN, nl, div_nI, rem_nI, nI_leI, nI_eq, sub_nI, pk_mul, nI_add, h1, h2, if_true, if_false]
  · simp (disch := omega) only [f_X2_leftOutUpTo, outN, nl, nI_eq, h3, if_false]
theorem rank_eq {r f : Nat} (h : r < 4) (hf : f < 2592000) : f_X9_rank (nI r) (nI f) = some (nI (f + outN r f)) := by
  by_cases h3 : r = 3
  · subst h3
    by_cases h1 : f % 17982 < 1800
    · have h2 : ¬ 1800 ≤ f % 17982 := by omega
      simp (disch := omega) only [f_X9_rank, nm, outN, nl, div_nI, rem_nI, nI_leI, pk_mul, nI_add, h1, h2, if_true, if_false, Nat.le_refl]
      congr 2
    · have h2 : 1800 ≤ f % 17982 := by omega
      simp (disch := omega) only [f_X9_rank, nm, outN, nl, div_nI, rem_nI, nI_leI, sub_nI, pk_mul, nI_add, h1, h2, if_true, if_false, Nat.le_refl]
      congr 2; omega
  · have h4 : ¬ 3 ≤ r := by omega
    simp (disch := omega) only [f_X9_rank, outN, nl, nI_leI, h3, h4, if_false, Nat.add_zero]
def numN (r f : Nat) : Nat := (f + outN r f) / secN r / 3600 * 1000000 + (f + outN r f) / secN r / 60 % 60 * 10000 + (f + outN r f) / secN r % 60 * 100 + (f + outN r f) % secN r
theorem sec_pos (r : Nat) : 24 ≤ secN r ∧ secN r ≤ 30 := by unfold secN; split; omega; split <;> omega
theorem number2_eq {r f : Nat} (h : r < 4) (hf : f < 2592000) : f_X2_numberOf (nI r) (nI f) = some (nI (numN r f)) := by
  have ho := outN_le (r := r) hf
  obtain ⟨s1, s2⟩ := sec_pos r
  unfold f_X2_numberOf numN
  rw [asec_eq h, Option.bind_some, out_eq h hf, Option.bind_some]
  simp only [nm]
  generalize hk : f + outN r f = k
  have hkb : k < 2600000 := by omega
  generalize secN r = d at *
  have hq : k / d ≤ k := Nat.div_le_self k d
  have hm : k % d < d := Nat.mod_lt k (by omega)
  rw [nI_add, hk, dv_nI (by omega) (by omega), div_nI (by omega) (by omega) (by omega), dv_nI (by omega) (by omega), rem_nI (a := k) (d := d) (by omega) (by omega) (by omega)]
  generalize k / d = q at *
  generalize k % d = m at *
  rw [nl 60, nl 1000000, nl 10000, nl 100, div_nI (a := q) (by omega) (by omega) (by omega), div_nI (by omega) (by omega) (by omega), rem_nI (by omega) (by omega) (by omega), rem_nI (by omega) (by omega) (by omega), pk_mul, pk_mul, pk_mul, nI_add, nI_add, nI_add]
  rw [show q / 60 / 60 = q / 3600 by omega]
theorem number9_eq {r f : Nat} (h : r < 4) (hf : f < 2592000) : f_X9_numberOf (nI r) (nI f) = some (nI (numN r f)) := by
  have ho := outN_le (r := r) hf
  obtain ⟨s1, s2⟩ := sec_pos r
  unfold f_X9_numberOf numN
  rw [rank_eq h hf, Option.bind_some, second_eq h, Option.bind_some]
  simp only [nm]
  generalize hk : f + outN r f = k
  have hkb : k < 2600000 := by omega
  generalize secN r = d at *
  have hq : k / d ≤ k := Nat.div_le_self k d
  have hm : k % d < d := Nat.mod_lt k (by omega)
  rw [dv_nI (by omega) (by omega), div_nI (by omega) (by omega) (by omega), dv_nI (by omega) (by omega), rem_nI (a := k) (d := d) (by omega) (by omega) (by omega)]
  generalize k / d = q at *
  generalize k % d = m at *
  rw [nl 60, nl 3600, nl 1000000, nl 10000, nl 100, div_nI (a := q) (by omega) (by omega) (by omega), div_nI (by omega) (by omega) (by omega), rem_nI (by omega) (by omega) (by omega), rem_nI (by omega) (by omega) (by omega), pk_mul, pk_mul, pk_mul, nI_add, nI_add, nI_add]

theorem num_lt {r f : Nat} (hf : f < 2592000) : numN r f < 200000000 := by
  have ho := outN_le (r := r) hf
  obtain ⟨s1, s2⟩ := sec_pos r
  unfold numN
  have hk : f + outN r f < 2600000 := by omega
  generalize f + outN r f = k at *
  have hq : k / secN r ≤ k / 24 := Nat.div_le_div_left s1 (by omega)
  have hm : k % secN r < secN r := Nat.mod_lt k (by omega)
  omega
/-- rest in a day -/
def fm (x d : Int32) : Int32 := if 0 ≤ q_rem x d then q_rem x d else q_rem x d + d
def md (x : Int) (d : Nat) : Nat := (x % (d : Int)).toNat
theorem md_lt {x : Int} {d : Nat} (h : 0 < d) : md x d < d := by
  unfold md
  have h1 := Int.emod_lt_of_pos x (show (0 : Int) < d by omega)
  have h2 := Int.emod_nonneg x (show (d : Int) ≠ 0 by omega)
  omega
theorem remT (x : Int32) {d : Nat} (h0 : 0 < d) (hd : d < 2 ^ 31) : (q_rem x (nI d)).toInt = x.toInt.tmod d := by
  have hx1 := Int32.toInt_lt x
  have hx2 := Int32.le_toInt x
  have h1 : (x.toInt.tmod d) = x.toInt - d * (x.toInt.tdiv d) := Int.tmod_def _ _
  have h3 : (x.toInt.tmod d) < d := Int.tmod_lt_of_pos _ (by omega)
  have h4 : -(d : Int) < (x.toInt.tmod d) := Int.lt_tmod_of_pos _ (by omega)
  unfold q_rem
  rw [Int32.toInt_sub, Int32.toInt_mul, Int32.toInt_div, nI_toInt hd, Int.bmod_mul_bmod, Int.sub_bmod_bmod, Int.mul_comm, ← h1]
  exact Int.bmod_eq_of_le (by omega) (by omega)
theorem fm_eq (x : Int32) {d : Nat} (h0 : 0 < d) (hd : d < 2 ^ 31) : fm x (nI d) = nI (md x.toInt d) := by
  have hr := remT x h0 hd
  have h1 : x.toInt = (x.toInt.tmod d) + d * (x.toInt.tdiv d) := by have := Int.tmod_def x.toInt d; omega
  have h3 : (x.toInt.tmod d) < d := Int.tmod_lt_of_pos _ (by omega)
  have h4 : -(d : Int) < (x.toInt.tmod d) := Int.lt_tmod_of_pos _ (by omega)
  have h5 : x.toInt % d = (x.toInt.tmod d) % d := by
    conv => lhs; rw [h1]
    exact Int.add_mul_emod_self_left _ _ _
  have hmd := md_lt (x := x.toInt) h0
  unfold fm
  apply Int32.toInt_inj.mp
  rw [nI_toInt (by omega)]
  unfold md
  rw [h5]
  by_cases hc : (0 : Int32) ≤ q_rem x (nI d)
  · rw [if_pos hc, hr]
    have := Int32.le_iff_toInt_le.mp hc
    rw [hr] at this
    rw [Int.emod_eq_of_lt this h3]
    exact (Int.toNat_of_nonneg this).symm
  · rw [if_neg hc, Int32.toInt_add, hr, nI_toInt hd]
    have h6 : (x.toInt.tmod d) < 0 := by
      apply Int.not_le.mp
      intro h
      apply hc
      apply Int32.le_iff_toInt_le.mpr
      rw [hr]; exact h
    rw [← Int.add_emod_right, Int.emod_eq_of_lt (by omega) (by omega), Int.toNat_of_nonneg (by omega)]
    exact Int.bmod_eq_of_le (by omega) (by omega)
theorem xor_sign (x : Int32) {d : Nat} (hd : d < 2 ^ 31) : (0 : Int32) ≤ x ^^^ nI d ↔ (0 : Int32) ≤ x := by
  have h1 : (nI d).toBitVec.msb = false := by
    rw [BitVec.msb_eq_false_iff_two_mul_lt]
    rw [pk_tn (by omega)]; omega
  have key : ∀ y : Int32, (0 : Int32) ≤ y ↔ y.toBitVec.msb = false := by
    intro y
    rw [Int32.le_iff_toInt_le]
    show (0 : Int) ≤ y.toBitVec.toInt ↔ _
    rw [BitVec.msb_eq_toInt]
    by_cases h : y.toBitVec.toInt < 0
    · simp [h]
    · simp [h]
  rw [key, key, Int32.toBitVec_xor, BitVec.msb_xor, h1, Bool.xor_false]
theorem floor_eq (x : Int32) {d : Nat} (h0 : 0 < d) (hd : d < 2 ^ 31) : f_J9_floorMod_7cf53 x (nI d) = some (nI (md x.toInt d)) := by
  rw [← fm_eq x h0 hd]
  unfold f_J9_floorMod_7cf53 fm
  rw [dv_nI h0 hd]
  simp only [nm, xor_sign x hd]
  have hr := remT x h0 hd
  by_cases hx : (0 : Int32) ≤ x
  · have h2 := Int32.le_iff_toInt_le.mp hx
    have h3 : (0 : Int32) ≤ q_rem x (nI d) := by
      apply Int32.le_iff_toInt_le.mpr
      rw [hr]; exact Int.tmod_nonneg _ h2
    rw [if_pos hx, if_pos h3]
  · rw [if_neg hx]
    have h2 : x.toInt < 0 := by
      apply Int.not_le.mp; intro h; exact hx (Int32.le_iff_toInt_le.mpr h)
    by_cases hz : q_rem x (nI d) = 0
    · rw [if_pos hz, hz, if_pos (by decide)]
    · rw [if_neg hz, if_neg]
      intro h3
      have h4 := Int32.le_iff_toInt_le.mp h3
      apply hz
      apply Int32.toInt_inj.mp
      rw [hr] at h4 ⊢
      have h5 : x.toInt.tmod d ≤ 0 := by
        have h6 := Int.tmod_nonneg (a := -x.toInt) (d : Int) (by omega)
        rw [Int.neg_tmod] at h6; omega
      exact Int.le_antisymm h5 h4
theorem around_eq (x : Int32) {r : Nat} {s : Nat → Int32} (h : r < 4) (hs : s 0 = nI r) : f_X9_around x s = some (nI (md x.toInt (dayN r))) := by
  obtain ⟨d0, d1⟩ := day_pos r
  rw [← fm_eq x d0 (by omega)]
  unfold f_X9_around fm
  rw [day9_eq h hs, Option.bind_some, dv_nI d0 (by omega)]
  simp only [nm, Option.bind_some]
  split <;> rfl
/-- a number's frame -/
def frN (r n : Nat) : Int32 := if secN r ≤ n % 100 then -9 else if 59 < n / 100 % 100 then -9 else if 59 < n / 10000 % 100 then -9 else if n / 1000000 ≤ 23 then (if r = 3 then (if n / 10000 % 100 % 10 = 0 then nI ((60 * (60 * (n / 1000000) + n / 10000 % 100) + n / 100 % 100) * 30 + n % 100 - 2 * ((60 * (n / 1000000) + n / 10000 % 100) - (60 * (n / 1000000) + n / 10000 % 100) / 10)) else if n / 100 % 100 = 0 then (if 2 ≤ n % 100 then nI ((60 * (60 * (n / 1000000) + n / 10000 % 100) + n / 100 % 100) * 30 + n % 100 - 2 * ((60 * (n / 1000000) + n / 10000 % 100) - (60 * (n / 1000000) + n / 10000 % 100) / 10)) else -9) else nI ((60 * (60 * (n / 1000000) + n / 10000 % 100) + n / 100 % 100) * 30 + n % 100 - 2 * ((60 * (n / 1000000) + n / 10000 % 100) - (60 * (n / 1000000) + n / 10000 % 100) / 10))) else nI ((60 * (60 * (n / 1000000) + n / 10000 % 100) + n / 100 % 100) * secN r + n % 100)) else -9
theorem frN_is {r n : Nat} (h : r < 4) : frN r n = -9 ∨ ∃ f, f < 2592000 ∧ frN r n = nI f := by
  obtain ⟨s1, s2⟩ := sec_pos r
  unfold frN
  split; exact .inl rfl
  split; exact .inl rfl
  split; exact .inl rfl
  split
  · split
    · rename_i h3; subst h3
      split; exact .inr ⟨_, by omega, rfl⟩
      split
      · split; exact .inr ⟨_, by omega, rfl⟩
        exact .inl rfl
      · exact .inr ⟨_, by omega, rfl⟩
    · refine .inr ⟨_, ?_, rfl⟩
      have : (60 * (60 * (n / 1000000) + n / 10000 % 100) + n / 100 % 100) * secN r ≤ (60 * (60 * (n / 1000000) + n / 10000 % 100) + n / 100 % 100) * 30 := Nat.mul_le_mul_left _ s2
      omega
  · exact .inl rfl
theorem frame9_eq {r n : Nat} (h : r < 4) (hn : n < 2 ^ 31) : f_X9_frameOf (nI r) (nI n) = some (frN r n) := by
  obtain ⟨s1, s2⟩ := sec_pos r
  unfold f_X9_frameOf frN
  simp (disch := omega) only [second_eq h, Option.bind_some, nm, nl, div_nI, rem_nI, nI_leI, nI_ltI]
  split; rfl
  split; rfl
  split; rfl
  split
  · by_cases h3 : r = 3
    · subst h3
      simp (disch := omega) only [f_X9_frameOf_116, show secN 3 = 30 from rfl, nl, pk_mul, nI_add, nI_eq, div_nI, sub_nI, if_true, Nat.le_refl, Nat.le_zero]
      split; rfl
      split
      · split <;> rfl
      · rfl
    · have h4 : ¬ 3 ≤ r := by omega
      simp (disch := omega) only [pk_mul, nI_add, h3, h4, if_false]
  · rfl
theorem frame2_eq {r n : Nat} (h : r < 4) (hn : n < 2 ^ 31) : f_X2_frameOf (nI r) (nI n) = some (frN r n) := by
  obtain ⟨s1, s2⟩ := sec_pos r
  unfold f_X2_frameOf frN
  simp (disch := omega) only [asec_eq h, Option.bind_some, nm, nl, div_nI, rem_nI, nI_leI, nI_ltI, Nat.not_lt_zero, if_false]
  split; rfl
  split; rfl
  split; rfl
  split
  · by_cases h3 : r = 3
    · subst h3
      simp (disch := omega) only [f_X2_frameOf_121, show secN 3 = 30 from rfl, nl, pk_mul, nI_add, nI_eq, div_nI, rem_nI, sub_nI, if_true, show (60 * (n / 1000000) + n / 10000 % 100) % 10 = n / 10000 % 100 % 10 by omega]
      split; rfl
      split
      · split <;> rfl
      · rfl
    · simp (disch := omega) only [pk_mul, nI_add, nI_eq, h3, if_false]
  · rfl
theorem frame2_neg {r : Nat} (h : r < 4) : f_X2_frameOf (nI r) (-9) = some (-9) := by
  rcases r4 h with rfl | rfl | rfl | rfl <;> rfl
