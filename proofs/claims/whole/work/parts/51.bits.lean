/-! bits: words, sums of bits, loops -/
theorem lp_run {σ ρ : Type} {body : σ → Option (σ ⊕ ρ)} (I : Nat → σ → Prop) (Q : ρ → Prop) (e : Nat) (hs : ∀ i, i < e → ∀ x, I i x → ∃ x', body x = some (.inl x') ∧ I (i + 1) x') (hx : ∀ x, I e x → ∃ r, body x = some (.inr r) ∧ Q r) : ∀ (d n k : Nat) (x : σ), k + d = e → d < n → I k x → ∃ r, lp body n x = some r ∧ Q r := by
  intro d
  induction d with
  | zero =>
    intro n k x hk hn h
    obtain ⟨m, rfl⟩ : ∃ m, n = m + 1 := ⟨n - 1, by omega⟩
    have hke : k = e := by omega
    subst hke
    obtain ⟨r, h1, h2⟩ := hx x h
    refine ⟨r, ?_, h2⟩
    rw [lp_succ, h1]; rfl
  | succ d ih =>
    intro n k x hk hn h
    obtain ⟨m, rfl⟩ : ∃ m, n = m + 1 := ⟨n - 1, by omega⟩
    obtain ⟨x', h1, h2⟩ := hs k (by omega) x h
    obtain ⟨r, h3, h4⟩ := ih m (k + 1) x' (by omega) (by omega) h2
    refine ⟨r, ?_, h4⟩
    rw [lp_succ, h1]; exact h3
/-- a loop from 0 on -/
theorem lp_0 {σ ρ : Type} {body : σ → Option (σ ⊕ ρ)} (I : Nat → σ → Prop) (Q : ρ → Prop) (e : Nat) (he : e < 100000) (hs : ∀ i, i < e → ∀ x, I i x → ∃ x', body x = some (.inl x') ∧ I (i + 1) x') (hx : ∀ x, I e x → ∃ r, body x = some (.inr r) ∧ Q r) {x : σ} (h : I 0 x) : ∃ r, lp body 100000 x = some r ∧ Q r := lp_run I Q e hs hx e 100000 0 x (by omega) he h
theorem lp_inr {σ ρ : Type} {body : σ → Option (σ ⊕ ρ)} {x : σ} {r : ρ} (h : body x = some (.inr r)) (n : Nat) : lp body (n + 1) x = some r := by rw [lp_succ, h]; rfl
theorem lp_inl {σ ρ : Type} {body : σ → Option (σ ⊕ ρ)} {x x' : σ} {r : ρ} (h : body x = some (.inl x')) {n : Nat} (h2 : lp body n x' = some r) : lp body (n + 1) x = some r := by rw [lp_succ, h]; exact h2
/-- two loops side by side -/
theorem lp_two {σ ρ σ' ρ' : Type} {b : σ → Option (σ ⊕ ρ)} {b' : σ' → Option (σ' ⊕ ρ')} (I : Nat → σ → σ' → Prop) (Q : ρ → ρ' → Prop) (e : Nat) (hs : ∀ i, i ≤ e → ∀ x y, I i x y → (i < e ∧ ∃ x' y', b x = some (.inl x') ∧ b' y = some (.inl y') ∧ I (i + 1) x' y') ∨ (∃ r r', (∀ n, lp b (n + 2) x = some r) ∧ (∀ n, lp b' (n + 2) y = some r') ∧ Q r r')) : ∀ (d n m k : Nat) (x : σ) (y : σ'), k + d = e → d + 1 < n → d + 1 < m → I k x y → ∃ r r', lp b n x = some r ∧ lp b' m y = some r' ∧ Q r r' := by
  intro d
  induction d with
  | zero =>
    intro n m k x y hk hn hm h
    obtain ⟨n', rfl⟩ : ∃ m, n = m + 2 := ⟨n - 2, by omega⟩
    obtain ⟨m', rfl⟩ : ∃ q, m = q + 2 := ⟨m - 2, by omega⟩
    rcases hs k (by omega) x y h with ⟨hh, _⟩ | ⟨r, r', h1, h2, h3⟩
    · omega
    · exact ⟨r, r', h1 n', h2 m', h3⟩
  | succ d ih =>
    intro n m k x y hk hn hm h
    obtain ⟨n', rfl⟩ : ∃ m, n = m + 2 := ⟨n - 2, by omega⟩
    obtain ⟨m', rfl⟩ : ∃ q, m = q + 2 := ⟨m - 2, by omega⟩
    rcases hs k (by omega) x y h with ⟨_, x', y', h1, h2, h3⟩ | ⟨r, r', h1, h2, h3⟩
    · obtain ⟨r, r', h4, h5, h6⟩ := ih (n' + 1) (m' + 1) (k + 1) x' y' (by omega) (by omega) (by omega) h3
      exact ⟨r, r', lp_inl h1 h4, lp_inl h2 h5, h6⟩
    · exact ⟨r, r', h1 n', h2 m', h3⟩
theorem lp_two0 {σ ρ σ' ρ' : Type} {b : σ → Option (σ ⊕ ρ)} {b' : σ' → Option (σ' ⊕ ρ')} (I : Nat → σ → σ' → Prop) (Q : ρ → ρ' → Prop) (e : Nat) (he : e < 90000) (hs : ∀ i, i ≤ e → ∀ x y, I i x y → (i < e ∧ ∃ x' y', b x = some (.inl x') ∧ b' y = some (.inl y') ∧ I (i + 1) x' y') ∨ (∃ r r', (∀ n, lp b (n + 2) x = some r) ∧ (∀ n, lp b' (n + 2) y = some r') ∧ Q r r')) {x : σ} {y : σ'} (h : I 0 x y) : ∃ r r', lp b 100000 x = some r ∧ lp b' 100000 y = some r' ∧ Q r r' := lp_two I Q e hs e 100000 100000 0 x y (by omega) (by omega) (by omega) h
theorem gd_nI {α : Type} {n N : Nat} (h : n < N) (hN : N < 2 ^ 31) (f : Option α) : gd (nI n) N f = f := by unfold gd; rw [if_neg (nI_in h hN)]
theorem le_iff {a b : Int32} : a ≤ b ↔ a.toInt ≤ b.toInt := Int32.le_iff_toInt_le
theorem lt_iff {a b : Int32} : a < b ↔ a.toInt < b.toInt := Int32.lt_iff_toInt_lt
theorem eq_iff {a b : Int32} : a = b ↔ a.toInt = b.toInt := Int32.toInt_inj.symm
theorem in_eq (x : Int32) (a b : Int32) : f_X9_in x a b = some (if a ≤ x ∧ x ≤ b then 1 else 0) := by
  unfold f_X9_in
  simp only [le_iff, lt_iff]
  by_cases h : x.toInt < a.toInt
  · rw [if_pos h, if_neg (by omega)]
  · rw [if_neg h]
    by_cases h2 : b.toInt < x.toInt
    · rw [if_pos h2, if_neg (by omega)]
    · rw [if_neg h2, if_pos (by omega)]
def bt (n i : Nat) : Nat := n / 2 ^ i % 2
theorem bt_lt (n i : Nat) : bt n i < 2 := Nat.mod_lt _ (by omega)
theorem bt_tb (n i : Nat) : n.testBit i = decide (bt n i = 1) := by rw [Nat.testBit_eq_decide_div_mod_eq]; rfl
theorem bt_eq {a b i j : Nat} (h : a.testBit i = b.testBit j) : bt a i = bt b j := by
  rw [bt_tb, bt_tb] at h
  have h1 := bt_lt a i
  have h2 := bt_lt b j
  have h3 : bt a i = 1 ↔ bt b j = 1 := by
    constructor
    · intro h4; rw [h4] at h; simpa using h.symm
    · intro h4; rw [h4] at h; simpa using h
  omega
theorem us_nI {n k : Nat} (hn : n < 2 ^ 32) (hk : k < 32) : q_ushr (nI n) (nI k) = nI (n / 2 ^ k) := by
  unfold q_ushr
  refine pk_ushrN hn (nI k) k ?_
  have : ∀ k : Fin 32, (((nI k.1).toUInt32 &&& Int32.toUInt32 31).toBitVec % 32).toNat = k.1 := by decide +kernel
  exact this ⟨k, hk⟩
theorem sl_nI {n k : Nat} (hk : k < 32) (hn : n * 2 ^ k < 2 ^ 32) : nI n <<< (nI k &&& 31) = nI (n * 2 ^ k) := by
  refine pk_shlN (nI k &&& 31) k ?_ hn
  have : ∀ k : Fin 32, ((nI k.1 &&& 31).toBitVec.smod 32).toNat = k.1 := by decide +kernel
  exact this ⟨k, hk⟩
theorem an_nI {a b : Nat} : nI a &&& nI b = nI (a &&& b) := by
  apply Int32.toBitVec_inj.mp
  show BitVec.ofNat 32 a &&& BitVec.ofNat 32 b = BitVec.ofNat 32 (a &&& b)
  rw [BitVec.ofNat_and]
theorem or_nI {a b : Nat} : nI a ||| nI b = nI (a ||| b) := by
  apply Int32.toBitVec_inj.mp
  show BitVec.ofNat 32 a ||| BitVec.ofNat 32 b = BitVec.ofNat 32 (a ||| b)
  rw [BitVec.ofNat_or]
theorem an_lN {a b : Nat} : lN a &&& lN b = lN (a &&& b) := by
  apply Int64.toBitVec_inj.mp
  show BitVec.ofNat 64 a &&& BitVec.ofNat 64 b = BitVec.ofNat 64 (a &&& b)
  rw [BitVec.ofNat_and]
theorem or_lN {a b : Nat} : lN a ||| lN b = lN (a ||| b) := by
  apply Int64.toBitVec_inj.mp
  show BitVec.ofNat 64 a ||| BitVec.ofNat 64 b = BitVec.ofNat 64 (a ||| b)
  rw [BitVec.ofNat_or]
theorem lls (k : Nat) (hk : k < 64) : ((nI k).toInt64.toUInt64 &&& Int64.toUInt64 63) = UInt64.ofNat k := by
  have : ∀ k : Fin 64, ((nI k.1).toInt64.toUInt64 &&& Int64.toUInt64 63) = UInt64.ofNat k.1 := by decide +kernel
  exact this ⟨k, hk⟩
theorem lu_lN {n k : Nat} (hn : n < 2 ^ 64) (hk : k < 64) : q_lushr (lN n) (nI k) = lN (n / 2 ^ k) := by
  unfold q_lushr
  rw [lls k hk]
  apply Int64.toBitVec_inj.mp
  apply BitVec.eq_of_toNat_eq
  show ((UInt64.toBitVec ((lN n).toUInt64 >>> UInt64.ofNat k))).toNat = (BitVec.ofNat 64 (n / 2 ^ k)).toNat
  have h1 : n / 2 ^ k < 2 ^ 64 := Nat.lt_of_le_of_lt (Nat.div_le_self _ _) hn
  rw [BitVec.toNat_ofNat, Nat.mod_eq_of_lt h1]
  show ((lN n).toUInt64 >>> UInt64.ofNat k).toNat = _
  rw [UInt64.toNat_shiftRight]
  have h2 : (UInt64.ofNat k).toNat = k := by rw [UInt64.toNat_ofNat']; omega
  have h3 : ((lN n).toUInt64).toNat = n := by
    show (BitVec.ofNat 64 n).toNat = n
    rw [BitVec.toNat_ofNat, Nat.mod_eq_of_lt hn]
  rw [h2, h3, Nat.mod_eq_of_lt hk, Nat.shiftRight_eq_div_pow]
theorem lshl_lN {n k : Nat} (hk : k < 64) (hn : n * 2 ^ k < 2 ^ 64) : q_lshl (lN n) (nI k) = lN (n * 2 ^ k) := by
  unfold q_lshl
  have h0 : ∀ k : Fin 64, ((nI k.1).toInt64 &&& 63) = lN k.1 := by decide +kernel
  rw [h0 ⟨k, hk⟩]
  apply Int64.toBitVec_inj.mp
  rw [Int64.toBitVec_shiftLeft]
  have h1 : ∀ k : Fin 64, (lN k.1).toBitVec.smod 64 = BitVec.ofNat 64 k.1 := by decide +kernel
  rw [h1 ⟨k, hk⟩]
  apply BitVec.eq_of_toNat_eq
  show (BitVec.ofNat 64 n <<< BitVec.ofNat 64 k).toNat = (BitVec.ofNat 64 (n * 2 ^ k)).toNat
  have h3 : n < 2 ^ 64 := Nat.lt_of_le_of_lt (Nat.le_mul_of_pos_right n (Nat.two_pow_pos k)) hn
  rw [BitVec.shiftLeft_eq', BitVec.toNat_shiftLeft, BitVec.toNat_ofNat, BitVec.toNat_ofNat, BitVec.toNat_ofNat, Nat.mod_eq_of_lt h3, Nat.mod_eq_of_lt (show k < 2 ^ 64 by omega), Nat.shiftLeft_eq]
/-- one bit, asked by & 1 -/
theorem and1 {n : Nat} : nI n &&& 1 = nI (n % 2) := by
  rw [show (1 : Int32) = nI 1 from rfl, an_nI, Nat.and_one_is_mod]
theorem nmask (n k : Nat) : n &&& (2 ^ k - 1) = n % 2 ^ k := Nat.and_two_pow_sub_one_eq_mod n k
/-! sums of bits -/
def sb (f : Nat → Nat) : Nat → Nat := fun n => Nat.rec 0 (fun k a => a + f k * 2 ^ k) n
theorem sb_0 (f : Nat → Nat) : sb f 0 = 0 := rfl
theorem sb_s (f : Nat → Nat) (n : Nat) : sb f (n + 1) = sb f n + f n * 2 ^ n := rfl
theorem sb_lt {f : Nat → Nat} (h : ∀ k, f k < 2) (n : Nat) : sb f n < 2 ^ n := by
  induction n with
  | zero => rw [sb_0]; omega
  | succ n ih =>
    rw [sb_s, Nat.pow_succ]
    have := h n
    have : f n * 2 ^ n ≤ 1 * 2 ^ n := Nat.mul_le_mul_right _ (by omega)
    omega
theorem sb_mod (n k : Nat) : n % 2 ^ k = sb (bt n) k := by
  induction k with
  | zero => rw [sb_0, Nat.pow_zero, Nat.mod_one]
  | succ k ih =>
    rw [sb_s, ← ih, Nat.mod_pow_succ, Nat.mul_comm]; rfl
theorem sb_congr {f g : Nat → Nat} {n : Nat} (h : ∀ k, k < n → f k = g k) : sb f n = sb g n := by
  induction n with
  | zero => rfl
  | succ n ih => rw [sb_s, sb_s, ih (fun k hk => h k (by omega)), h n (by omega)]
theorem sb_front (f : Nat → Nat) (n : Nat) : sb f (n + 1) = f 0 + 2 * sb (fun k => f (k + 1)) n := by
  induction n with
  | zero => rw [sb_s, sb_0, sb_0, Nat.pow_zero]; omega
  | succ n ih =>
    rw [sb_s, ih, sb_s, Nat.pow_succ, Nat.mul_add]
    have : f (n + 1) * (2 ^ n * 2) = 2 * (f (n + 1) * 2 ^ n) := by rw [← Nat.mul_assoc, Nat.mul_comm]
    omega
theorem or_top {a b n : Nat} (ha : a < 2 ^ n) : a ||| b * 2 ^ n = a + b * 2 ^ n := by
  have h := Nat.two_pow_add_eq_or_of_lt ha b
  rw [Nat.mul_comm b, Nat.or_comm, ← h, Nat.add_comm]
