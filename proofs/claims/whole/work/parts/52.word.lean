/-! words: how many bits are 1, what a word says -/
theorem and_h {k p c y m : Nat} (hp : p < 2 ^ k) (hc : c < 2 ^ k) : (2 ^ k * y + p) &&& (2 ^ k * m + c) = 2 ^ k * (y &&& m) + (p &&& c) := by
  apply Nat.eq_of_testBit_eq
  intro j
  rw [Nat.testBit_and, Nat.testBit_two_pow_mul_add _ hp, Nat.testBit_two_pow_mul_add _ hc, Nat.testBit_two_pow_mul_add _ (Nat.and_lt_two_pow p hc)]
  split
  · rw [Nat.testBit_and]
  · rw [Nat.testBit_and]
theorem and16 {p c y m : Nat} (hp : p < 16) (hc : c < 16) : (p + 16 * y) &&& (c + 16 * m) = (p &&& c) + 16 * (y &&& m) := by
  have h := and_h (k := 4) (y := y) (m := m) hp hc
  rw [Nat.add_comm p, Nat.add_comm c, Nat.add_comm (p &&& c)]
  exact h
def H8 (a0 a1 a2 a3 a4 a5 a6 a7 : Nat) : Nat := a0 + 16 * (a1 + 16 * (a2 + 16 * (a3 + 16 * (a4 + 16 * (a5 + 16 * (a6 + 16 * a7))))))
theorem H8_and {a0 a1 a2 a3 a4 a5 a6 a7 c0 c1 c2 c3 c4 c5 c6 c7 : Nat} (h0 : a0 < 16) (h1 : a1 < 16) (h2 : a2 < 16) (h3 : a3 < 16) (h4 : a4 < 16) (h5 : a5 < 16) (h6 : a6 < 16) (k0 : c0 < 16) (k1 : c1 < 16) (k2 : c2 < 16) (k3 : c3 < 16) (k4 : c4 < 16) (k5 : c5 < 16) (k6 : c6 < 16) : H8 a0 a1 a2 a3 a4 a5 a6 a7 &&& H8 c0 c1 c2 c3 c4 c5 c6 c7 = H8 (a0 &&& c0) (a1 &&& c1) (a2 &&& c2) (a3 &&& c3) (a4 &&& c4) (a5 &&& c5) (a6 &&& c6) (a7 &&& c7) := by
  unfold H8
  rw [and16 h0 k0, and16 h1 k1, and16 h2 k2, and16 h3 k3, and16 h4 k4, and16 h5 k5, and16 h6 k6]
def pc (a : Nat) : Nat := a % 2 + a / 2 % 2 + a / 4 % 2 + a / 8 % 2
theorem nib1 {a b : Nat} (ha : a < 16) (hb : b < 2) : (a / 2 + 8 * b) &&& 5 = a / 2 &&& 5 ∧ (a / 2 &&& 5) ≤ a ∧ a - (a / 2 &&& 5) ≤ 10 ∧ ((a - (a / 2 &&& 5)) &&& 3) + (a - (a / 2 &&& 5)) / 4 = pc a ∧ pc a ≤ 4 := by
  have : ∀ a : Fin 16, ∀ b : Fin 2, (a.1 / 2 + 8 * b.1) &&& 5 = a.1 / 2 &&& 5 ∧ (a.1 / 2 &&& 5) ≤ a.1 ∧ a.1 - (a.1 / 2 &&& 5) ≤ 10 ∧ ((a.1 - (a.1 / 2 &&& 5)) &&& 3) + (a.1 - (a.1 / 2 &&& 5)) / 4 = pc a.1 ∧ pc a.1 ≤ 4 := by decide +kernel
  exact this ⟨a, ha⟩ ⟨b, hb⟩
theorem nib2 {e f : Nat} (he : e ≤ 10) (hf : f < 4) : (e / 4 + 4 * f) &&& 3 = e / 4 ∧ (e &&& 3) < 4 := by
  have : ∀ a : Fin 11, ∀ b : Fin 4, (a.1 / 4 + 4 * b.1) &&& 3 = a.1 / 4 ∧ (a.1 &&& 3) < 4 := by decide +kernel
  exact this ⟨e, by omega⟩ ⟨f, hf⟩
theorem nib3 {e : Nat} (he : e ≤ 8) : e &&& 15 = e ∧ e &&& 0 = 0 := by
  have : ∀ a : Fin 9, a.1 &&& 15 = a.1 ∧ a.1 &&& 0 = 0 := by decide +kernel
  exact this ⟨e, by omega⟩
def pc8 (n : Nat) : Nat := pc (n / 2 ^ 0 % 16) + pc (n / 2 ^ 4 % 16) + pc (n / 2 ^ 8 % 16) + pc (n / 2 ^ 12 % 16) + pc (n / 2 ^ 16 % 16) + pc (n / 2 ^ 20 % 16) + pc (n / 2 ^ 24 % 16) + pc (n / 2 ^ 28 % 16)
theorem pop1 {n a0 a1 a2 a3 a4 a5 a6 a7 : Nat} (b0 : a0 < 16) (b1 : a1 < 16) (b2 : a2 < 16) (b3 : a3 < 16) (b4 : a4 < 16) (b5 : a5 < 16) (b6 : a6 < 16) (b7 : a7 < 16) (hN : n = H8 a0 a1 a2 a3 a4 a5 a6 a7) : (n / 2 &&& 1431655765) ≤ n ∧ n - (n / 2 &&& 1431655765) = H8 (a0 - (a0 / 2 &&& 5)) (a1 - (a1 / 2 &&& 5)) (a2 - (a2 / 2 &&& 5)) (a3 - (a3 / 2 &&& 5)) (a4 - (a4 / 2 &&& 5)) (a5 - (a5 / 2 &&& 5)) (a6 - (a6 / 2 &&& 5)) (a7 - (a7 / 2 &&& 5)) := by
  have hh : n / 2 = H8 (a0 / 2 + 8 * (a1 % 2)) (a1 / 2 + 8 * (a2 % 2)) (a2 / 2 + 8 * (a3 % 2)) (a3 / 2 + 8 * (a4 % 2)) (a4 / 2 + 8 * (a5 % 2)) (a5 / 2 + 8 * (a6 % 2)) (a6 / 2 + 8 * (a7 % 2)) (a7 / 2 + 8 * (0 % 2)) := by rw [hN]; unfold H8; omega
  obtain ⟨m0, l0, e0, g0, p0⟩ := nib1 (b := a1 % 2) b0 (by omega)
  obtain ⟨m1, l1, e1, g1, p1⟩ := nib1 (b := a2 % 2) b1 (by omega)
  obtain ⟨m2, l2, e2, g2, p2⟩ := nib1 (b := a3 % 2) b2 (by omega)
  obtain ⟨m3, l3, e3, g3, p3⟩ := nib1 (b := a4 % 2) b3 (by omega)
  obtain ⟨m4, l4, e4, g4, p4⟩ := nib1 (b := a5 % 2) b4 (by omega)
  obtain ⟨m5, l5, e5, g5, p5⟩ := nib1 (b := a6 % 2) b5 (by omega)
  obtain ⟨m6, l6, e6, g6, p6⟩ := nib1 (b := a7 % 2) b6 (by omega)
  obtain ⟨m7, l7, e7, g7, p7⟩ := nib1 (b := 0 % 2) b7 (by omega)
  have h1 : n / 2 &&& 1431655765 = H8 (a0 / 2 &&& 5) (a1 / 2 &&& 5) (a2 / 2 &&& 5) (a3 / 2 &&& 5) (a4 / 2 &&& 5) (a5 / 2 &&& 5) (a6 / 2 &&& 5) (a7 / 2 &&& 5) := by
    rw [hh, show 1431655765 = H8 5 5 5 5 5 5 5 5 from rfl, H8_and (by omega) (by omega) (by omega) (by omega) (by omega) (by omega) (by omega) (by omega) (by omega) (by omega) (by omega) (by omega) (by omega) (by omega), m0, m1, m2, m3, m4, m5, m6, m7]
  clear hh m0 m1 m2 m3 m4 m5 m6 m7 e0 e1 e2 e3 e4 e5 e6 e7 g0 g1 g2 g3 g4 g5 g6 g7 p0 p1 p2 p3 p4 p5 p6 p7
  generalize a0 / 2 &&& 5 = c0 at *
  generalize a1 / 2 &&& 5 = c1 at *
  generalize a2 / 2 &&& 5 = c2 at *
  generalize a3 / 2 &&& 5 = c3 at *
  generalize a4 / 2 &&& 5 = c4 at *
  generalize a5 / 2 &&& 5 = c5 at *
  generalize a6 / 2 &&& 5 = c6 at *
  generalize a7 / 2 &&& 5 = c7 at *
  rw [h1, hN]
  constructor
  · unfold H8; omega
  · unfold H8; omega
theorem qt4 {u w y : Nat} (h : u ≤ 10) : (u + 16 * (w + 16 * y)) / 4 = (u / 4 + 4 * (w % 4)) + 16 * ((w + 16 * y) / 4) := by omega
theorem qt4' {u w : Nat} (h : u ≤ 10) : (u + 16 * w) / 4 = (u / 4 + 4 * (w % 4)) + 16 * (w / 4) := by omega
theorem H8_add {a0 a1 a2 a3 a4 a5 a6 a7 c0 c1 c2 c3 c4 c5 c6 c7 : Nat} : H8 a0 a1 a2 a3 a4 a5 a6 a7 + H8 c0 c1 c2 c3 c4 c5 c6 c7 = H8 (a0 + c0) (a1 + c1) (a2 + c2) (a3 + c3) (a4 + c4) (a5 + c5) (a6 + c6) (a7 + c7) := by unfold H8; omega
theorem pop2 {v u0 u1 u2 u3 u4 u5 u6 u7 : Nat} (e0 : u0 ≤ 10) (e1 : u1 ≤ 10) (e2 : u2 ≤ 10) (e3 : u3 ≤ 10) (e4 : u4 ≤ 10) (e5 : u5 ≤ 10) (e6 : u6 ≤ 10) (e7 : u7 ≤ 10) (hN : v = H8 u0 u1 u2 u3 u4 u5 u6 u7) : (v &&& 858993459) + (v / 4 &&& 858993459) = H8 ((u0 &&& 3) + u0 / 4) ((u1 &&& 3) + u1 / 4) ((u2 &&& 3) + u2 / 4) ((u3 &&& 3) + u3 / 4) ((u4 &&& 3) + u4 / 4) ((u5 &&& 3) + u5 / 4) ((u6 &&& 3) + u6 / 4) ((u7 &&& 3) + u7 / 4) := by
  have k1 : v / 4 = H8 (u0 / 4 + 4 * (u1 % 4)) (u1 / 4 + 4 * (u2 % 4)) (u2 / 4 + 4 * (u3 % 4)) (u3 / 4 + 4 * (u4 % 4)) (u4 / 4 + 4 * (u5 % 4)) (u5 / 4 + 4 * (u6 % 4)) (u6 / 4 + 4 * (u7 % 4)) (u7 / 4) := by
    rw [hN]; unfold H8
    rw [qt4 e0, qt4 e1, qt4 e2, qt4 e3, qt4 e4, qt4 e5, qt4' e6]
  obtain ⟨q0, t0⟩ := nib2 (f := u1 % 4) e0 (by omega)
  obtain ⟨q1, t1⟩ := nib2 (f := u2 % 4) e1 (by omega)
  obtain ⟨q2, t2⟩ := nib2 (f := u3 % 4) e2 (by omega)
  obtain ⟨q3, t3⟩ := nib2 (f := u4 % 4) e3 (by omega)
  obtain ⟨q4, t4⟩ := nib2 (f := u5 % 4) e4 (by omega)
  obtain ⟨q5, t5⟩ := nib2 (f := u6 % 4) e5 (by omega)
  obtain ⟨q6, t6⟩ := nib2 (f := u7 % 4) e6 (by omega)
  have q7 : u7 / 4 &&& 3 = u7 / 4 := (nib2 (f := 0) e7 (by omega)).1
  have k2 : v / 4 &&& 858993459 = H8 (u0 / 4) (u1 / 4) (u2 / 4) (u3 / 4) (u4 / 4) (u5 / 4) (u6 / 4) (u7 / 4) := by
    rw [k1, show 858993459 = H8 3 3 3 3 3 3 3 3 from rfl, H8_and (by omega) (by omega) (by omega) (by omega) (by omega) (by omega) (by omega) (by omega) (by omega) (by omega) (by omega) (by omega) (by omega) (by omega), q0, q1, q2, q3, q4, q5, q6, q7]
  have k3 : v &&& 858993459 = H8 (u0 &&& 3) (u1 &&& 3) (u2 &&& 3) (u3 &&& 3) (u4 &&& 3) (u5 &&& 3) (u6 &&& 3) (u7 &&& 3) := by
    rw [hN, show 858993459 = H8 3 3 3 3 3 3 3 3 from rfl, H8_and (by omega) (by omega) (by omega) (by omega) (by omega) (by omega) (by omega) (by omega) (by omega) (by omega) (by omega) (by omega) (by omega) (by omega)]
  rw [k2, k3, H8_add]
theorem pop3 {v x0 x1 x2 x3 x4 x5 x6 x7 : Nat} (p0 : x0 ≤ 4) (p1 : x1 ≤ 4) (p2 : x2 ≤ 4) (p3 : x3 ≤ 4) (p4 : x4 ≤ 4) (p5 : x5 ≤ 4) (p6 : x6 ≤ 4) (p7 : x7 ≤ 4) (hN : v = H8 x0 x1 x2 x3 x4 x5 x6 x7) : v < 2 ^ 32 ∧ (v + v / 16) &&& 252645135 = (x0 + x1) + 256 * (x2 + x3) + 65536 * (x4 + x5) + 16777216 * (x6 + x7) := by
  have k5 : v + v / 16 = H8 (x0 + x1) (x1 + x2) (x2 + x3) (x3 + x4) (x4 + x5) (x5 + x6) (x6 + x7) x7 := by rw [hN]; unfold H8; omega
  refine ⟨by rw [hN]; unfold H8; omega, ?_⟩
  rw [k5, show 252645135 = H8 15 0 15 0 15 0 15 0 from rfl, H8_and (by omega) (by omega) (by omega) (by omega) (by omega) (by omega) (by omega) (by omega) (by omega) (by omega) (by omega) (by omega) (by omega) (by omega), (nib3 (e := x0 + x1) (by omega)).1, (nib3 (e := x1 + x2) (by omega)).2, (nib3 (e := x2 + x3) (by omega)).1, (nib3 (e := x3 + x4) (by omega)).2, (nib3 (e := x4 + x5) (by omega)).1, (nib3 (e := x5 + x6) (by omega)).2, (nib3 (e := x6 + x7) (by omega)).1, (nib3 (e := x7) (by omega)).2]
  unfold H8; omega
theorem pop4a {v A B C D : Nat} (hA : A ≤ 8) (hB : B ≤ 8) (hC : C ≤ 8) (hD : D ≤ 8) (hv : v = A + 256 * B + 65536 * C + 16777216 * D) : v < 2 ^ 32 ∧ v + v / 2 ^ 8 < 2 ^ 32 ∧ (v + v / 2 ^ 8 + (v + v / 2 ^ 8) / 2 ^ 16) % 2 ^ 6 = A + B + C + D := by
  have q1 : v / 2 ^ 8 = B + 256 * C + 65536 * D := by omega
  rw [q1]
  have q2 : (v + (B + 256 * C + 65536 * D)) / 2 ^ 16 = (C + D) + 256 * D := by omega
  rw [q2]
  omega
theorem pop4 {v x0 x1 x2 x3 x4 x5 x6 x7 : Nat} (p0 : x0 ≤ 4) (p1 : x1 ≤ 4) (p2 : x2 ≤ 4) (p3 : x3 ≤ 4) (p4 : x4 ≤ 4) (p5 : x5 ≤ 4) (p6 : x6 ≤ 4) (p7 : x7 ≤ 4) (hv : v = (x0 + x1) + 256 * (x2 + x3) + 65536 * (x4 + x5) + 16777216 * (x6 + x7)) : v < 2 ^ 32 ∧ v + v / 2 ^ 8 < 2 ^ 32 ∧ (v + v / 2 ^ 8 + (v + v / 2 ^ 8) / 2 ^ 16) % 2 ^ 6 = x0 + x1 + x2 + x3 + x4 + x5 + x6 + x7 := by
  obtain ⟨h1, h2, h3⟩ := pop4a (A := x0 + x1) (B := x2 + x3) (C := x4 + x5) (D := x6 + x7) (by omega) (by omega) (by omega) (by omega) hv
  exact ⟨h1, h2, by rw [h3]; omega⟩
theorem popN {n : Nat} (hn : n < 2 ^ 32) : n = H8 (n / 2 ^ 0 % 16) (n / 2 ^ 4 % 16) (n / 2 ^ 8 % 16) (n / 2 ^ 12 % 16) (n / 2 ^ 16 % 16) (n / 2 ^ 20 % 16) (n / 2 ^ 24 % 16) (n / 2 ^ 28 % 16) := by unfold H8; omega
theorem pop_eq {n : Nat} (hn : n < 2 ^ 32) : f_J6_bitCount_0f7a4 (nI n) = some (nI (pc8 n)) ∧ pc8 n ≤ 32 := by
  unfold pc8
  have hN := popN hn
  have b0 : n / 2 ^ 0 % 16 < 16 := Nat.mod_lt _ (by omega)
  have b1 : n / 2 ^ 4 % 16 < 16 := Nat.mod_lt _ (by omega)
  have b2 : n / 2 ^ 8 % 16 < 16 := Nat.mod_lt _ (by omega)
  have b3 : n / 2 ^ 12 % 16 < 16 := Nat.mod_lt _ (by omega)
  have b4 : n / 2 ^ 16 % 16 < 16 := Nat.mod_lt _ (by omega)
  have b5 : n / 2 ^ 20 % 16 < 16 := Nat.mod_lt _ (by omega)
  have b6 : n / 2 ^ 24 % 16 < 16 := Nat.mod_lt _ (by omega)
  have b7 : n / 2 ^ 28 % 16 < 16 := Nat.mod_lt _ (by omega)
  generalize n / 2 ^ 0 % 16 = a0 at *
  generalize n / 2 ^ 4 % 16 = a1 at *
  generalize n / 2 ^ 8 % 16 = a2 at *
  generalize n / 2 ^ 12 % 16 = a3 at *
  generalize n / 2 ^ 16 % 16 = a4 at *
  generalize n / 2 ^ 20 % 16 = a5 at *
  generalize n / 2 ^ 24 % 16 = a6 at *
  generalize n / 2 ^ 28 % 16 = a7 at *
  obtain ⟨hle, h2⟩ := pop1 b0 b1 b2 b3 b4 b5 b6 b7 hN
  obtain ⟨m0, l0, e0, g0, p0⟩ := nib1 (b := 0) b0 (by omega)
  obtain ⟨m1, l1, e1, g1, p1⟩ := nib1 (b := 0) b1 (by omega)
  obtain ⟨m2, l2, e2, g2, p2⟩ := nib1 (b := 0) b2 (by omega)
  obtain ⟨m3, l3, e3, g3, p3⟩ := nib1 (b := 0) b3 (by omega)
  obtain ⟨m4, l4, e4, g4, p4⟩ := nib1 (b := 0) b4 (by omega)
  obtain ⟨m5, l5, e5, g5, p5⟩ := nib1 (b := 0) b5 (by omega)
  obtain ⟨m6, l6, e6, g6, p6⟩ := nib1 (b := 0) b6 (by omega)
  obtain ⟨m7, l7, e7, g7, p7⟩ := nib1 (b := 0) b7 (by omega)
  have k4 := pop2 e0 e1 e2 e3 e4 e5 e6 e7 h2
  rw [g0, g1, g2, g3, g4, g5, g6, g7] at k4
  obtain ⟨hv2b, k6⟩ := pop3 p0 p1 p2 p3 p4 p5 p6 p7 k4
  obtain ⟨v1, hv1⟩ : ∃ v, n - (n / 2 &&& 1431655765) = v := ⟨_, rfl⟩
  rw [hv1] at k6 hv2b
  obtain ⟨v2, hv2⟩ : ∃ v, (v1 &&& 858993459) + (v1 / 4 &&& 858993459) = v := ⟨_, rfl⟩
  rw [hv2] at k6 hv2b
  obtain ⟨w1, w2, w3⟩ := pop4 p0 p1 p2 p3 p4 p5 p6 p7 k6
  have hv1b : v1 < 2 ^ 32 := by omega
  refine ⟨?_, by clear hN h2 k4 k6 w3; omega⟩
  unfold f_J6_bitCount_0f7a4
  simp only [nm]
  have z1 : nI n - (q_ushr (nI n) 1 &&& 1431655765) = nI v1 := by
    rw [show (1 : Int32) = nI 1 from rfl, show (1431655765 : Int32) = nI 1431655765 from rfl, us_nI hn (by omega), an_nI, show n / 2 ^ 1 = n / 2 by rfl, sub_nI hle, hv1]
  have z2 : (nI v1 &&& 858993459) + (q_ushr (nI v1) 2 &&& 858993459) = nI v2 := by
    rw [show (2 : Int32) = nI 2 from rfl, show (858993459 : Int32) = nI 858993459 from rfl, us_nI hv1b (by omega), an_nI, an_nI, nI_add, show v1 / 2 ^ 2 = v1 / 4 by rfl, hv2]
  obtain ⟨v3, hv3⟩ : ∃ v, (v2 + v2 / 16) &&& 252645135 = v := ⟨_, rfl⟩
  rw [hv3] at w1 w2 w3
  have z3 : (nI v2 + q_ushr (nI v2) 4) &&& 252645135 = nI v3 := by
    rw [show (4 : Int32) = nI 4 from rfl, show (252645135 : Int32) = nI 252645135 from rfl, us_nI hv2b (by omega), nI_add, an_nI, show v2 / 2 ^ 4 = v2 / 16 by rfl, hv3]
  rw [z1, z2, z3, show (8 : Int32) = nI 8 from rfl, show (16 : Int32) = nI 16 from rfl, us_nI (n := v3) (k := 8) w1 (by omega), nI_add, us_nI w2 (by omega), nI_add, show (63 : Int32) = nI 63 from rfl, an_nI, show (63 : Nat) = 2 ^ 6 - 1 from rfl, nmask, w3]
def ps (n : Nat) : Nat → Nat := fun k => Nat.rec 0 (fun i a => a + bt n i) k
theorem ps_s (n k : Nat) : ps n (k + 1) = ps n k + bt n k := rfl
theorem ps4 (n k : Nat) : ps n (k + 4) = ps n k + pc (n / 2 ^ k % 16) := by
  rw [ps_s, ps_s, ps_s, ps_s]
  unfold bt pc
  rw [show 2 ^ (k + 1) = 2 ^ k * 2 by rw [Nat.pow_succ], show 2 ^ (k + 2) = 2 ^ k * 4 by rw [Nat.pow_succ, Nat.pow_succ]; omega, show 2 ^ (k + 3) = 2 ^ k * 8 by rw [Nat.pow_succ, Nat.pow_succ, Nat.pow_succ]; omega, ← Nat.div_div_eq_div_mul, ← Nat.div_div_eq_div_mul, ← Nat.div_div_eq_div_mul]
  omega
theorem ps32 (n : Nat) : ps n 32 = pc8 n := by
  rw [ps4 n 28, ps4 n 24, ps4 n 20, ps4 n 16, ps4 n 12, ps4 n 8, ps4 n 4, ps4 n 0]
  unfold pc8
  show 0 + _ + _ + _ + _ + _ + _ + _ + _ = _
  omega
theorem even_eq {n : Nat} (hn : n < 2 ^ 32) : f_X9_isEven (nI n) = some (if pc8 n % 2 = 0 then 1 else 0) := by
  obtain ⟨r, h1, h2⟩ := lp_0 (body := fb_X9_isEven_4 (nI n)) (fun k w => w = (nI ((1 + ps n k) % 2), nI k)) (fun r => r = nI ((1 + ps n 32) % 2)) 32 (by omega) (by
    intro i hi x hx
    subst hx
    have hb := bt_lt n i
    refine ⟨_, ?_, rfl⟩
    unfold fb_X9_isEven_4
    simp only [us_nI hn hi, and1]
    rw [show n / 2 ^ i % 2 = bt n i from rfl, show (32 : Int32) = nI 32 from rfl, if_neg (nI_ge hi (by omega)), ps_s]
    unfold f_X9_isEven_25 f_X9_isEven_33
    simp only [nm, nl, nI_add]
    have hp : ps n i % 2 = 0 ∨ ps n i % 2 = 1 := by omega
    rcases (show bt n i = 0 ∨ bt n i = 1 by omega) with hb0 | hb0 <;> rcases hp with hp | hp
    · rw [hb0, show (1 + ps n i) % 2 = 1 by omega, show (1 + (ps n i + 0)) % 2 = 1 by omega]; rfl
    · rw [hb0, show (1 + ps n i) % 2 = 0 by omega, show (1 + (ps n i + 0)) % 2 = 0 by omega]; rfl
    · rw [hb0, show (1 + ps n i) % 2 = 1 by omega, show (1 + (ps n i + 1)) % 2 = 0 by omega]; rfl
    · rw [hb0, show (1 + ps n i) % 2 = 0 by omega, show (1 + (ps n i + 1)) % 2 = 1 by omega]; rfl) (by
    intro x hx
    subst hx
    exact ⟨_, by unfold fb_X9_isEven_4; rfl, rfl⟩) (x := ((1 : Int32), (0 : Int32))) rfl
  unfold f_X9_isEven
  rw [h1, Option.bind_some, h2, ps32]
  by_cases h : pc8 n % 2 = 0
  · rw [if_pos h, show (1 + pc8 n) % 2 = 1 by omega]; rfl
  · rw [if_neg h, show (1 + pc8 n) % 2 = 0 by omega]; rfl
theorem nI_self (D : Int32) : D = nI D.toBitVec.toNat := by
  apply Int32.toBitVec_inj.mp
  show D.toBitVec = BitVec.ofNat 32 D.toBitVec.toNat
  rw [BitVec.ofNat_toNat, BitVec.setWidth_eq]
theorem low64 {N : Nat} (hN : N < 2 ^ 32) : ((nI N).toInt64 &&& 4294967295) = lN N := by
  apply Int64.toBitVec_inj.mp
  apply BitVec.eq_of_toNat_eq
  rw [Int64.toBitVec_and, BitVec.toNat_and, Int32.toBitVec_toInt64]
  show ((BitVec.ofNat 32 N).signExtend 64).toNat &&& (2 ^ 32 - 1) = (BitVec.ofNat 64 N).toNat
  rw [nmask, BitVec.toNat_signExtend, BitVec.toNat_setWidth, BitVec.toNat_ofNat, BitVec.toNat_ofNat, Nat.mod_eq_of_lt hN]
  split <;> omega
def wv (W : Nat) : Nat := W + 49148 * 2 ^ 32
theorem word_eq {r f : Nat} {s : Nat → Int32} (h : r < 4) (hs : s 0 = nI r) (hf : f < 2592000) (u : Int32) : ∃ W, W < 2 ^ 32 ∧ f_X9_wordOf (nI f) u s = some (nI W) ∧ f_X7_wordOf (nI r) (nI f) u = some (lN (wv W)) := by
  have key : ∀ D : Int32, ∃ W, W < 2 ^ 32 ∧ ((f_X9_isEven D).bind fun r10 => if r10 = (0 : Int32) then some (D ||| (134217728 : Int32)) else some D) = some (nI W) ∧ ((f_J6_bitCount_0f7a4 D).bind fun r8 => nm (q_rem r8 (2 : Int32)) fun v9 => some (((Int32.toInt64 (D ||| (v9 <<< ((27 : Int32) &&& 31)))) &&& (4294967295 : Int64)) ||| (211089052663808 : Int64))) = some (lN (wv W)) := by
    intro D
    obtain ⟨N, hN⟩ : ∃ N, D.toBitVec.toNat = N := ⟨_, rfl⟩
    have hN2 : N < 2 ^ 32 := by rw [← hN]; exact D.toBitVec.isLt
    rw [nI_self D, hN]
    obtain ⟨b1, b2⟩ := pop_eq hN2
    rw [even_eq hN2, b1, Option.bind_some, Option.bind_some]
    simp only [nm]
    rw [show (2 : Int32) = nI 2 from rfl, rem_nI (by omega) (by omega) (by omega)]
    by_cases hp : pc8 N % 2 = 0
    · refine ⟨N, hN2, ?_, ?_⟩
      · rw [if_pos hp]; rfl
      · rw [hp, show (nI 0 <<< ((27 : Int32) &&& 31)) = nI 0 from rfl, or_nI, Nat.or_zero, low64 hN2, show (211089052663808 : Int64) = lN (49148 * 2 ^ 32) from rfl, or_lN, or_top hN2]; rfl
    · have hM : N ||| 134217728 < 2 ^ 32 := Nat.or_lt_two_pow hN2 (by omega)
      refine ⟨N ||| 134217728, hM, ?_, ?_⟩
      · rw [if_neg hp, if_pos rfl, show (134217728 : Int32) = nI 134217728 from rfl, or_nI]
      · rw [show pc8 N % 2 = 1 by omega, show (nI 1 <<< ((27 : Int32) &&& 31)) = nI 134217728 from rfl, or_nI, low64 hM, show (211089052663808 : Int64) = lN (49148 * 2 ^ 32) from rfl, or_lN, or_top hM]; rfl
  unfold f_X9_wordOf f_X7_wordOf
  rw [hs, number9_eq h hf, number2_eq h hf]
  simp only [Option.bind_some, f_X9_figures, f_X7_digits, nm]
  by_cases h3 : nI r = (3 : Int32)
  · rw [if_pos h3, if_pos h3]
    unfold f_X9_wordOf_78 f_X7_wordOf_64
    exact key _
  · rw [if_neg h3, if_neg h3]
    unfold f_X9_wordOf_78 f_X7_wordOf_64
    exact key _
theorem bt_wv {W i : Nat} (hW : W < 2 ^ 32) : bt (wv W) i = if i < 32 then bt W i else bt 49148 (i - 32) := by
  have h := Nat.testBit_two_pow_mul_add 49148 hW i
  have h1 : wv W = 2 ^ 32 * 49148 + W := by unfold wv; omega
  rw [← h1] at h
  split at h
  · rw [if_pos (by assumption)]; exact bt_eq h
  · rw [if_neg (by assumption)]; exact bt_eq h
theorem bitOf_eq {M i : Nat} (hM : M < 2 ^ 63) (hi : i < 64) : f_X7_bitOf (lN M) (nI i) = some (nI (bt M i)) := by
  unfold f_X7_bitOf
  rw [lu_lN (by omega) hi, lN_i, and1]; rfl
theorem sync_eq {k : Nat} (hk : k < 16) : f_X9_sync (nI k) = some (nI (bt 49148 k)) := by
  have : ∀ k : Fin 16, f_X9_sync (nI k.1) = some (nI (bt 49148 k.1)) := by decide +kernel
  exact this ⟨k, hk⟩
/-- what a word's number is, whether it is one -/
abbrev okN (r N : Nat) : Prop := pc8 N % 2 = 0 ∧ N % 16 < 10 ∧ N / 2 ^ 6 % 16 < 10 ∧ N / 2 ^ 13 % 16 < 10 ∧ N / 2 ^ 20 % 16 < 10 ∧ N / 2 ^ 26 % 2 = (if r = 3 then 1 else 0)
def niN (N : Nat) : Nat := 1000000 * (N / 2 ^ 20 % 16 + 10 * (N / 2 ^ 24 % 4)) + 10000 * (N / 2 ^ 13 % 16 + 10 * (N / 2 ^ 17 % 8)) + 100 * (N / 2 ^ 6 % 16 + 10 * (N / 2 ^ 10 % 8)) + (N % 16 + 10 * (N / 2 ^ 4 % 4))
theorem niN_lt (N : Nat) : niN N < 2 ^ 31 := by unfold niN; omega
theorem a15 {n : Nat} : nI n &&& 15 = nI (n % 16) := by rw [show (15 : Int32) = nI (2 ^ 4 - 1) from rfl, an_nI, nmask]
theorem a7 {n : Nat} : nI n &&& 7 = nI (n % 8) := by rw [show (7 : Int32) = nI (2 ^ 3 - 1) from rfl, an_nI, nmask]
theorem a3 {n : Nat} : nI n &&& 3 = nI (n % 4) := by rw [show (3 : Int32) = nI (2 ^ 2 - 1) from rfl, an_nI, nmask]
theorem two_eq {N : Nat} (hN : N < 2 ^ 32) : f_X9_two (nI N) 20 3 = some (nI (N / 2 ^ 20 % 16 + 10 * (N / 2 ^ 24 % 4))) ∧ f_X9_two (nI N) 13 7 = some (nI (N / 2 ^ 13 % 16 + 10 * (N / 2 ^ 17 % 8))) ∧ f_X9_two (nI N) 6 7 = some (nI (N / 2 ^ 6 % 16 + 10 * (N / 2 ^ 10 % 8))) ∧ f_X9_two (nI N) 0 3 = some (nI (N % 16 + 10 * (N / 2 ^ 4 % 4))) := by
  unfold f_X9_two
  rw [show (20 : Int32) + 4 = nI 24 from rfl, show (13 : Int32) + 4 = nI 17 from rfl, show (6 : Int32) + 4 = nI 10 from rfl, show (0 : Int32) + 4 = nI 4 from rfl, show (20 : Int32) = nI 20 from rfl, show (13 : Int32) = nI 13 from rfl, show (6 : Int32) = nI 6 from rfl, show (0 : Int32) = nI 0 from rfl, show (10 : Int32) = nI 10 from rfl, us_nI hN (by omega), us_nI hN (by omega), us_nI hN (by omega), us_nI hN (by omega), us_nI hN (by omega), us_nI hN (by omega), us_nI hN (by omega), us_nI hN (by omega)]
  simp only [a15, a7, a3, pk_mul, nI_add, Nat.pow_zero, Nat.div_one, and_self]
theorem ni_eq {N : Nat} : ((1000000 : Int32) * nI (N / 2 ^ 20 % 16 + 10 * (N / 2 ^ 24 % 4)) + (10000 : Int32) * nI (N / 2 ^ 13 % 16 + 10 * (N / 2 ^ 17 % 8)) + (100 : Int32) * nI (N / 2 ^ 6 % 16 + 10 * (N / 2 ^ 10 % 8)) + nI (N % 16 + 10 * (N / 2 ^ 4 % 4))) = nI (niN N) := by
  rw [show (1000000 : Int32) = nI 1000000 from rfl, show (10000 : Int32) = nI 10000 from rfl, show (100 : Int32) = nI 100 from rfl]
  simp only [pk_mul, nI_add]; rfl
theorem fig_eq {N : Nat} (hN : N < 2 ^ 32) : f_X9_areFigures (nI N) = some (if N % 16 < 10 ∧ N / 2 ^ 6 % 16 < 10 ∧ N / 2 ^ 13 % 16 < 10 ∧ N / 2 ^ 20 % 16 < 10 then 1 else 0) := by
  unfold f_X9_areFigures
  rw [show (6 : Int32) = nI 6 from rfl, show (13 : Int32) = nI 13 from rfl, show (20 : Int32) = nI 20 from rfl, us_nI hN (by omega), us_nI hN (by omega), us_nI hN (by omega), show (10 : Int32) = nI 10 from rfl]
  simp only [a15]
  have e2 : ∀ m, (nI 10 ≤ nI (m % 16) ↔ 10 ≤ m % 16) := fun m => nI_leI (by omega) (by omega)
  simp only [e2]
  repeat' split
  all_goals first | rfl | (exfalso; omega)
theorem b26_eq {N : Nat} (hN : N < 2 ^ 32) : q_ushr (nI N) 26 &&& 1 = nI (N / 2 ^ 26 % 2) := by
  rw [show (26 : Int32) = nI 26 from rfl, us_nI hN (by omega), and1]
theorem numIn_eq {r N : Nat} (h : r < 4) (hN : N < 2 ^ 32) : f_X7_numberIn (lN N) (nI r) = some (if okN r N then nI (niN N) else -9) := by
  unfold f_X7_numberIn
  obtain ⟨b1, b2⟩ := pop_eq hN
  obtain ⟨t1, t2, t3, t4⟩ := two_eq hN
  unfold f_X9_two at t1 t2 t3 t4
  rw [show (20 : Int32) + 4 = 24 from rfl] at t1
  rw [show (13 : Int32) + 4 = 17 from rfl] at t2
  rw [show (6 : Int32) + 4 = 10 from rfl] at t3
  rw [show (0 : Int32) + 4 = 4 from rfl, show (0 : Int32) = nI 0 from rfl, us_nI hN (by omega), Nat.pow_zero, Nat.div_one] at t4
  have s1 : q_ushr (nI N) 6 &&& 15 = nI (N / 2 ^ 6 % 16) := by rw [show (6 : Int32) = nI 6 from rfl, us_nI hN (by omega), a15]
  have s2 : q_ushr (nI N) 13 &&& 15 = nI (N / 2 ^ 13 % 16) := by rw [show (13 : Int32) = nI 13 from rfl, us_nI hN (by omega), a15]
  have s3 : q_ushr (nI N) 20 &&& 15 = nI (N / 2 ^ 20 % 16) := by rw [show (20 : Int32) = nI 20 from rfl, us_nI hN (by omega), a15]
  simp only [nm, lN_i, b1, Option.bind_some, f_X7_numberIn_92]
  rw [Option.some.inj t1, Option.some.inj t2, Option.some.inj t3, Option.some.inj t4, ni_eq, s1, s2, s3, b26_eq hN, a15]
  have e1 : (q_rem (nI (pc8 N)) 2 = 0) ↔ pc8 N % 2 = 0 := by
    rw [show (2 : Int32) = nI 2 from rfl, rem_nI (by omega) (by omega) (by omega), show (0 : Int32) = nI 0 from rfl, nI_eq (by omega) (by omega)]
  have e2 : ∀ m, ((9 : Int32) < nI (m % 16) ↔ 9 < m % 16) := fun m => nI_ltI (a := 9) (by omega) (by omega)
  have e3 : ∀ m, (nI (m % 16) ≤ (9 : Int32) ↔ m % 16 ≤ 9) := fun m => nI_leI (b := 9) (by omega) (by omega)
  have e4 : ∀ m, (nI (m % 2) = (1 : Int32) ↔ m % 2 = 1) := fun m => nI_eq (b := 1) (by omega) (by omega)
  have e5 : ∀ m, (nI (m % 2) = (0 : Int32) ↔ m % 2 = 0) := fun m => nI_eq (b := 0) (by omega) (by omega)
  have e6 : nI r = (3 : Int32) ↔ r = 3 := nI_eq (b := 3) (by omega) (by omega)
  simp only [e1, e2, e3, e4, e5, e6]
  unfold okN
  by_cases h3 : r = 3
  · simp only [h3, if_true]
    repeat' split
    all_goals first | rfl | (exfalso; omega)
  · simp only [h3, if_false]
    repeat' split
    all_goals first | rfl | (exfalso; omega)
theorem finds_eq {r N : Nat} {way : Int32} {s : Nat → Int32} (h : r < 4) (hN : N < 2 ^ 32) (hs : s 0 = nI r) : f_X9_finds (nI N) way s = f_X9_finds_108 (nI N) way (nI (niN N)) (if okN r N then frN r (niN N) else -9) s := by
  obtain ⟨t1, t2, t3, t4⟩ := two_eq hN
  unfold f_X9_finds
  rw [t1, t2, t3, t4, even_eq hN]
  simp only [Option.bind_some, nm]
  rw [ni_eq, b26_eq hN, hs]
  unfold f_X9_finds_71 f_X9_finds_85 f_X9_finds_86
  rw [fig_eq hN, hs, frame9_eq h (niN_lt N)]
  simp only [Option.bind_some]
  generalize f_X9_finds_108 (nI N) way (nI (niN N)) = G
  have e4 : (nI (N / 2 ^ 26 % 2) = (1 : Int32) ↔ N / 2 ^ 26 % 2 = 1) := nI_eq (b := 1) (by omega) (by omega)
  have e5 : (nI (N / 2 ^ 26 % 2) = (0 : Int32) ↔ N / 2 ^ 26 % 2 = 0) := nI_eq (b := 0) (by omega) (by omega)
  have e6 : nI r = (3 : Int32) ↔ r = 3 := nI_eq (b := 3) (by omega) (by omega)
  have e8 : ∀ (c : Prop) [Decidable c], ((if c then (1 : Int32) else 0) = 0 ↔ ¬ c) := by
    intro c _; by_cases hc : c
    · rw [if_pos hc]; exact ⟨fun h => absurd h (by decide), fun h => absurd hc h⟩
    · rw [if_neg hc]; exact ⟨fun _ => hc, fun _ => rfl⟩
  simp only [e4, e5, e6, e8]
  unfold okN
  have e10 : ((1 : Int32) = 0) = False := by decide
  simp only [e10, if_false, if_true]
  by_cases h3 : r = 3
  · simp only [h3, if_true]
    repeat' split
    all_goals first | rfl | (exfalso; omega)
  · simp only [h3, if_false]
    repeat' split
    all_goals first | rfl | (exfalso; omega)
