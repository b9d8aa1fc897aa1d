/-! numbers: both sides of the frames and their numbers -/
theorem nl (n : Nat) : (OfNat.ofNat n : Int32) = nI n := rfl
theorem div_nI {a d : Nat} (ha : a < 2 ^ 31) (h0 : 0 < d) (hd : d < 2 ^ 31) : nI a / nI d = nI (a / d) := pk_div ha h0 hd
theorem rem_nI {a d : Nat} (ha : a < 2 ^ 31) (h0 : 0 < d) (hd : d < 2 ^ 31) : q_rem (nI a) (nI d) = nI (a % d) := pk_rem ha h0 hd
theorem sub_nI {a b : Nat} (h : b ≤ a) : nI a - nI b = nI (a - b) := pk_sub h
theorem some_if {α : Type} {c : Prop} [Decidable c] {x y : α} : (if c then some x else some y) = some (if c then x else y) := by split <;> rfl
theorem dv_nI {α : Type} {d : Nat} (h0 : 0 < d) (hd : d < 2 ^ 31) (f : Option α) : dv (nI d) f = f := by unfold dv; rw [if_neg (nI_ne0 h0 hd)]
def secN (r : Nat) : Nat := if r = 0 then 24 else if r = 1 then 25 else 30
def dayN (r : Nat) : Nat := if r = 0 then 2073600 else if r = 1 then 2160000 else if r = 2 then 2592000 else 2589408
theorem r4 {r : Nat} (h : r < 4) : r = 0 ∨ r = 1 ∨ r = 2 ∨ r = 3 := by omega
theorem second_eq {r : Nat} (h : r < 4) : f_X9_second (nI r) = some (nI (secN r)) := by rcases r4 h with rfl | rfl | rfl | rfl <;> rfl
theorem asec_eq {r : Nat} (h : r < 4) : f_X2_framesASecond (nI r) = some (nI (secN r)) := by rcases r4 h with rfl | rfl | rfl | rfl <;> rfl
theorem dayOf9_eq {r : Nat} (h : r < 4) : f_X9_dayOf (nI r) = some (nI (dayN r)) := by rcases r4 h with rfl | rfl | rfl | rfl <;> rfl
theorem dayOf2_eq {r : Nat} (h : r < 4) : f_X2_dayOf (nI r) = some (nI (dayN r)) := by rcases r4 h with rfl | rfl | rfl | rfl <;> rfl
theorem day_pos (r : Nat) : 0 < dayN r ∧ dayN r ≤ 2592000 := by unfold dayN; split; omega; split; omega; split <;> omega
theorem day4_eq {r : Nat} (h : r < 4) : f_X4_day (nI r) = some (nI (dayN r)) := by unfold f_X4_day; rw [dayOf2_eq h]; rfl
theorem day9_eq {r : Nat} {s : Nat → Int32} (h : r < 4) (h0 : s 0 = nI r) : f_X9_day s = some (nI (dayN r)) := by unfold f_X9_day; rw [h0, dayOf9_eq h]; rfl
/-- how many numbers are left out up to a frame -/
def outN (r f : Nat) : Nat := if r = 3 then 18 * (f / 17982) + 2 * (if f % 17982 < 1800 then 0 else (f % 17982 - 1800) / 1798 + 1) else 0
theorem outN_le {r f : Nat} (h : f < 2592000) : outN r f ≤ 3000 := by
  unfold outN
  split
  · split <;> omega
  · omega
theorem out_eq {r f : Nat} (h : r < 4) (hf : f < 2592000) : f_X2_leftOutUpTo (nI r) (nI f) = some (nI (outN r f)) := by
  by_cases h3 : r = 3
  · subst h3
    by_cases h1 : f % 17982 < 1800
    · have h2 : ¬ 1800 ≤ f % 17982 := by omega
      simp (disch := omega) only [f_X2_leftOutUpTo, f_X2_leftOutUpTo_41, nm, outN, nl, div_nI, rem_nI, nI_leI, nI_eq, pk_mul, nI_add, h1, h2, if_true, if_false]
    · have h2 : 1800 ≤ f % 17982 := by omega
      simp (disch := omega) only [f_X2_leftOutUpTo, f_X2_leftOutUpTo_41, nm, outN, nl, div_nI, rem_nI, nI_leI, nI_eq, sub_nI, pk_mul, nI_add, h1, h2, if_true, if_false]
  · simp (disch := omega) only [f_X2_leftOutUpTo, outN, nl, nI_eq, h3, if_false]
theorem rank_eq {r f : Nat} (h : r < 4) (hf : f < 2592000) : f_X9_rank (nI r) (nI f) = some (nI (f + outN r f)) := by
  by_cases h3 : r = 3
  · subst h3
    by_cases h1 : f % 17982 < 1800
    · have h2 : ¬ 1800 ≤ f % 17982 := by omega
      simp (disch := omega) only [f_X9_rank, nm, outN, nl, div_nI, rem_nI, nI_leI, pk_mul, nI_add, h1, h2, if_true, if_false, Nat.le_refl]
      congr 2
    · have h2 : 1800 ≤ f % 17982 := by omega
      simp (disch := omega) only [f_X9_rank, nm, outN, nl, div_nI, rem_nI, nI_leI, sub_nI, pk_mul, nI_add, h1, h2, if_true, if_false, Nat.le_refl]
      congr 2; omega
  · have h4 : ¬ 3 ≤ r := by omega
    simp (disch := omega) only [f_X9_rank, outN, nl, nI_leI, h3, h4, if_false, Nat.add_zero]
def numN (r f : Nat) : Nat := (f + outN r f) / secN r / 3600 * 1000000 + (f + outN r f) / secN r / 60 % 60 * 10000 + (f + outN r f) / secN r % 60 * 100 + (f + outN r f) % secN r
theorem sec_pos (r : Nat) : 24 ≤ secN r ∧ secN r ≤ 30 := by unfold secN; split; omega; split <;> omega
theorem number2_eq {r f : Nat} (h : r < 4) (hf : f < 2592000) : f_X2_numberOf (nI r) (nI f) = some (nI (numN r f)) := by
  have ho := outN_le (r := r) hf
  obtain ⟨s1, s2⟩ := sec_pos r
  unfold f_X2_numberOf numN
  rw [asec_eq h, Option.bind_some, out_eq h hf, Option.bind_some]
  simp only [nm]
  generalize hk : f + outN r f = k
  have hkb : k < 2600000 := by omega
  generalize secN r = d at *
  have hq : k / d ≤ k := Nat.div_le_self k d
  have hm : k % d < d := Nat.mod_lt k (by omega)
  rw [nI_add, hk, dv_nI (by omega) (by omega), div_nI (by omega) (by omega) (by omega), dv_nI (by omega) (by omega), rem_nI (a := k) (d := d) (by omega) (by omega) (by omega)]
  generalize k / d = q at *
  generalize k % d = m at *
  rw [nl 60, nl 1000000, nl 10000, nl 100, div_nI (a := q) (by omega) (by omega) (by omega), div_nI (by omega) (by omega) (by omega), rem_nI (by omega) (by omega) (by omega), rem_nI (by omega) (by omega) (by omega), pk_mul, pk_mul, pk_mul, nI_add, nI_add, nI_add]
  congr 3
  omega
theorem number9_eq {r f : Nat} (h : r < 4) (hf : f < 2592000) : f_X9_numberOf (nI r) (nI f) = some (nI (numN r f)) := by
  have ho := outN_le (r := r) hf
  obtain ⟨s1, s2⟩ := sec_pos r
  unfold f_X9_numberOf numN
  rw [rank_eq h hf, Option.bind_some, second_eq h, Option.bind_some]
  simp only [nm]
  generalize hk : f + outN r f = k
  have hkb : k < 2600000 := by omega
  generalize secN r = d at *
  have hq : k / d ≤ k := Nat.div_le_self k d
  have hm : k % d < d := Nat.mod_lt k (by omega)
  rw [dv_nI (by omega) (by omega), div_nI (by omega) (by omega) (by omega), dv_nI (by omega) (by omega), rem_nI (a := k) (d := d) (by omega) (by omega) (by omega)]
  generalize k / d = q at *
  generalize k % d = m at *
  rw [nl 60, nl 3600, nl 1000000, nl 10000, nl 100, div_nI (a := q) (by omega) (by omega) (by omega), div_nI (by omega) (by omega) (by omega), rem_nI (by omega) (by omega) (by omega), rem_nI (by omega) (by omega) (by omega), pk_mul, pk_mul, pk_mul, nI_add, nI_add, nI_add]
theorem numN_lt {r f : Nat} (h : r < 4) (hf : f < dayN r) : numN r f < 24000000 ∧ numN r f % 100 < 60 ∧ numN r f / 1000000 < 24 := by
  sorry
