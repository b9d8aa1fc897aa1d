/-! what ties the class's values to the reference's -/
def sm (l : Nat → Nat) : Nat → Nat := fun n => Nat.rec 0 (fun k a => a + l k) n
theorem sm_s (l : Nat → Nat) (n : Nat) : sm l (n + 1) = sm l n + l n := rfl
theorem sm_le {l : Nat → Nat} {n : Nat} (h : ∀ k, k < n → l k ≤ 40) : sm l n ≤ 40 * n := by
  induction n with
  | zero => exact Nat.le_refl _
  | succ n ih => rw [sm_s]; have := ih (fun k hk => h k (by omega)); have := h n (by omega); omega
theorem sm_congr {l l' : Nat → Nat} {n : Nat} (h : ∀ k, k < n → l k = l' k) : sm l n = sm l' n := by
  induction n with
  | zero => rfl
  | succ n ih => rw [sm_s, sm_s, ih (fun k hk => h k (by omega)), h n (by omega)]
def TpR (rate : Int32) (F L U : Nat → Int32) (sg wd hd : Int32) (s : Nat → Int32) : Prop := ∃ (r n W h : Nat) (f l u : Nat → Nat), r < 4 ∧ n ≤ 6 ∧ W = sm l n ∧ h ≤ 48 * W ∧ rate = nI r ∧ sg = nI n ∧ wd = nI W ∧ hd = nI h ∧ s 0 = nI r ∧ s 1 = nI n ∧ s 20 = nI h ∧ ∀ k, k < n → F k = nI (f k) ∧ L k = nI (l k) ∧ U k = nI (u k) ∧ s (2 + 3 * k) = nI (f k) ∧ s (2 + 3 * k + 1) = nI (l k) ∧ s (2 + 3 * k + 2) = nI (u k) ∧ f k < 2592000 ∧ 1 ≤ l k ∧ l k ≤ 40 ∧ u k ≤ 15
def RdR (N : Nat) (cell waits : Int32) (bits : Int64) (held readings broken errors jumps streak frame number user course : Int32) (s : Nat → Int32) : Prop := ∃ (B h q : Nat), B < 2 ^ 48 ∧ h ≤ 48 ∧ q ≤ N ∧ bits = lN B ∧ held = nI h ∧ readings = nI q ∧ s 21 = cell ∧ s 22 = waits ∧ s 23 = nI h ∧ s 24 = nI q ∧ s 25 = broken ∧ s 26 = errors ∧ s 27 = jumps ∧ s 28 = streak ∧ s 29 = (if q = 0 then 0 else 1) ∧ (q ≠ 0 → s 30 = frame ∧ s 31 = number ∧ s 32 = user ∧ s 33 = course) ∧ ∀ j, j < h → s (47 + j) = nI (bt B (48 - h + j))
def WhR (f c m o : Int32) (s : Nat → Int32) : Prop := (∃ q, q < 2592000 ∧ f = nI q) ∧ s 34 = f ∧ s 35 = c ∧ s 36 = m ∧ s 37 = o
theorem TpR_c {rate : Int32} {F L U : Nat → Int32} {sg wd hd : Int32} {s s' : Nat → Int32} (h : TpR rate F L U sg wd hd s) (hs : ∀ j, j ≤ 20 → s' j = s j) : TpR rate F L U sg wd hd s' := by
  obtain ⟨r, n, W, x, f, l, u, h1, h2, h3, h4, h5, h6, h7, h8, h9, h10, h11, h12⟩ := h
  refine ⟨r, n, W, x, f, l, u, h1, h2, h3, h4, h5, h6, h7, h8, by rw [hs 0 (by omega)]; exact h9, by rw [hs 1 (by omega)]; exact h10, by rw [hs 20 (by omega)]; exact h11, fun k hk => ?_⟩
  obtain ⟨a1, a2, a3, a4, a5, a6, a7⟩ := h12 k hk
  exact ⟨a1, a2, a3, by rw [hs _ (by omega)]; exact a4, by rw [hs _ (by omega)]; exact a5, by rw [hs _ (by omega)]; exact a6, a7⟩
theorem TpR_a {rate : Int32} {F L U F' L' U' : Nat → Int32} {sg wd hd : Int32} {s : Nat → Int32} (h : TpR rate F L U sg wd hd s) (h1 : ∀ k, k < 6 → F' k = F k) (h2 : ∀ k, k < 6 → L' k = L k) (h3 : ∀ k, k < 6 → U' k = U k) : TpR rate F' L' U' sg wd hd s := by
  obtain ⟨r, n, W, x, f, l, u, g1, g2, g3, g4, g5, g6, g7, g8, g9, g10, g11, g12⟩ := h
  refine ⟨r, n, W, x, f, l, u, g1, g2, g3, g4, g5, g6, g7, g8, g9, g10, g11, fun k hk => ?_⟩
  rw [h1 k (by omega), h2 k (by omega), h3 k (by omega)]
  exact g12 k hk
theorem RdR_c {N : Nat} {a b : Int32} {c : Int64} {d e f g h i j k l m : Int32} {s s' : Nat → Int32} (H : RdR N a b c d e f g h i j k l m s) (hs : ∀ j, 21 ≤ j → j ≤ 33 → s' j = s j) (ht : ∀ j, 47 ≤ j → j < 95 → s' j = s j) : RdR N a b c d e f g h i j k l m s' := by
  unfold RdR at *
  rw [hs 21 (by omega) (by omega), hs 22 (by omega) (by omega), hs 23 (by omega) (by omega), hs 24 (by omega) (by omega), hs 25 (by omega) (by omega), hs 26 (by omega) (by omega), hs 27 (by omega) (by omega), hs 28 (by omega) (by omega), hs 29 (by omega) (by omega), hs 30 (by omega) (by omega), hs 31 (by omega) (by omega), hs 32 (by omega) (by omega), hs 33 (by omega) (by omega)]
  obtain ⟨B, x, q, h1, h2, h3, h4, h5, h6, h7, h8, h9, h10, h11, h12, h13, h14, h15, h16, h17⟩ := H
  exact ⟨B, x, q, h1, h2, h3, h4, h5, h6, h7, h8, h9, h10, h11, h12, h13, h14, h15, h16, fun y hy => by rw [ht _ (by omega) (by omega)]; exact h17 y hy⟩
theorem RdR_m {N M : Nat} {a b : Int32} {c : Int64} {d e f g h i j k l m : Int32} {s : Nat → Int32} (H : RdR N a b c d e f g h i j k l m s) (hm : N ≤ M) : RdR M a b c d e f g h i j k l m s := by
  obtain ⟨B, x, q, h1, h2, h3, h4⟩ := H
  exact ⟨B, x, q, h1, h2, Nat.le_trans h3 hm, h4⟩
theorem WhR_c {f c m o : Int32} {s s' : Nat → Int32} (H : WhR f c m o s) (hs : ∀ j, 34 ≤ j → j ≤ 37 → s' j = s j) : WhR f c m o s' := by
  unfold WhR at *
  rw [hs 34 (by omega) (by omega), hs 35 (by omega) (by omega), hs 36 (by omega) (by omega), hs 37 (by omega) (by omega)]
  exact H
theorem ChR_c {c : Nat} {p sp o : Int32} {s s' : Nat → Int32} (H : ChR c p sp o s) (hs : ∀ j, 38 + 3 * c ≤ j → j ≤ 38 + 3 * c + 2 → s' j = s j) : ChR c p sp o s' := by
  unfold ChR at *
  rw [hs (38 + 3 * c) (by omega) (by omega), hs (38 + 3 * c + 1) (by omega) (by omega), hs (38 + 3 * c + 2) (by omega) (by omega)]
  exact H
def StR (N : Nat) (v : SV) (s : Nat → Int32) : Prop := TpR v.1 v.2.1 v.2.2.1 v.2.2.2.1 v.2.2.2.2.1 v.2.2.2.2.2.1 v.2.2.2.2.2.2.1 s ∧ RdR N v.2.2.2.2.2.2.2.1 v.2.2.2.2.2.2.2.2.1 v.2.2.2.2.2.2.2.2.2.1 v.2.2.2.2.2.2.2.2.2.2.1 v.2.2.2.2.2.2.2.2.2.2.2.1 v.2.2.2.2.2.2.2.2.2.2.2.2.1 v.2.2.2.2.2.2.2.2.2.2.2.2.2.1 v.2.2.2.2.2.2.2.2.2.2.2.2.2.2.1 v.2.2.2.2.2.2.2.2.2.2.2.2.2.2.2.1 v.2.2.2.2.2.2.2.2.2.2.2.2.2.2.2.2.1 v.2.2.2.2.2.2.2.2.2.2.2.2.2.2.2.2.2.1 v.2.2.2.2.2.2.2.2.2.2.2.2.2.2.2.2.2.2.1 v.2.2.2.2.2.2.2.2.2.2.2.2.2.2.2.2.2.2.2.1 s ∧ WhR v.2.2.2.2.2.2.2.2.2.2.2.2.2.2.2.2.2.2.2.2.1 v.2.2.2.2.2.2.2.2.2.2.2.2.2.2.2.2.2.2.2.2.2.1 v.2.2.2.2.2.2.2.2.2.2.2.2.2.2.2.2.2.2.2.2.2.2.1 v.2.2.2.2.2.2.2.2.2.2.2.2.2.2.2.2.2.2.2.2.2.2.2.1 s ∧ ChR 0 v.2.2.2.2.2.2.2.2.2.2.2.2.2.2.2.2.2.2.2.2.2.2.2.2.1 v.2.2.2.2.2.2.2.2.2.2.2.2.2.2.2.2.2.2.2.2.2.2.2.2.2.1 v.2.2.2.2.2.2.2.2.2.2.2.2.2.2.2.2.2.2.2.2.2.2.2.2.2.2.1 s ∧ ChR 1 v.2.2.2.2.2.2.2.2.2.2.2.2.2.2.2.2.2.2.2.2.2.2.2.2.2.2.2.1 v.2.2.2.2.2.2.2.2.2.2.2.2.2.2.2.2.2.2.2.2.2.2.2.2.2.2.2.2.1 v.2.2.2.2.2.2.2.2.2.2.2.2.2.2.2.2.2.2.2.2.2.2.2.2.2.2.2.2.2.1 s ∧ ChR 2 v.2.2.2.2.2.2.2.2.2.2.2.2.2.2.2.2.2.2.2.2.2.2.2.2.2.2.2.2.2.2.1 v.2.2.2.2.2.2.2.2.2.2.2.2.2.2.2.2.2.2.2.2.2.2.2.2.2.2.2.2.2.2.2.1 v.2.2.2.2.2.2.2.2.2.2.2.2.2.2.2.2.2.2.2.2.2.2.2.2.2.2.2.2.2.2.2.2 s
theorem StR_c {N : Nat} {v : SV} {s s' : Nat → Int32} (H : StR N v s) (hs : ∀ j, j < 95 → s' j = s j) : StR N v s' := by
  obtain ⟨h1, h2, h3, h4, h5, h6⟩ := H
  exact ⟨TpR_c h1 (fun j hj => hs j (by omega)), RdR_c h2 (fun j _ hj => hs j (by omega)) (fun j _ hj => hs j hj), WhR_c h3 (fun j _ hj => hs j (by omega)), ChR_c h4 (fun j _ hj => hs j (by omega)), ChR_c h5 (fun j _ hj => hs j (by omega)), ChR_c h6 (fun j _ hj => hs j (by omega))⟩
theorem StR_m {N M : Nat} {v : SV} {s : Nat → Int32} (H : StR N v s) (hm : N ≤ M) : StR M v s := by
  obtain ⟨h1, h2, h3⟩ := H
  exact ⟨h1, RdR_m h2 hm, h3⟩
def cpV (v w : SV) : SV := (v.1, va_cpy v.2.1 w.2.1 0 0 6, va_cpy v.2.2.1 w.2.2.1 0 0 6, va_cpy v.2.2.2.1 w.2.2.2.1 0 0 6, v.2.2.2.2)
theorem StR_cp {N : Nat} {v w : SV} {s : Nat → Int32} (H : StR N v s) : StR N (cpV v w) s := by
  obtain ⟨h1, h2⟩ := H
  exact ⟨TpR_a h1 (fun k hk => sb_cpy0 hk) (fun k hk => sb_cpy0 hk) (fun k hk => sb_cpy0 hk), h2⟩
def HsR (N : Nat) (next known : Int32) (R : Nat → Option SV) (past : Nat → Int32) (undos : Int32) : Prop := ∃ u x : Nat, u ≤ 8 ∧ x ≤ 8 ∧ known = nI u ∧ undos = nI u ∧ next = nI x ∧ ∀ j, j < u → ∃ v, R ((x + 8 - u + j) % 8) = some v ∧ StR N v (fun i => past (95 * j + i))
def ImR (N : Nat) (Im : Nat → Option SV) (kept isk : Nat → Int32) : Prop := ∀ i, i < 2 → (isk i = 0 ∧ Im i = none) ∨ (isk i = 1 ∧ ∃ v, Im i = some v ∧ StR N v (fun k => kept (95 * i + k)))
def SeR (sn sf : Nat → Int32) (seen : Int32) (seen' : Int32) (sn' sf' : Nat → Int32) : Prop := ∃ n : Nat, n ≤ 6 ∧ seen = nI n ∧ seen' = nI n ∧ ∀ k, k < n → sn k = sn' k ∧ sf k = sf' k ∧ ∃ m : Nat, m < 2 ^ 31 ∧ sn' k = nI m
theorem HsR_m {N M : Nat} {a b : Int32} {R : Nat → Option SV} {p : Nat → Int32} {c : Int32} (H : HsR N a b R p c) (hm : N ≤ M) : HsR M a b R p c := by
  obtain ⟨u, x, h1, h2, h3, h4, h5, h6⟩ := H
  refine ⟨u, x, h1, h2, h3, h4, h5, fun j hj => ?_⟩
  obtain ⟨v, g1, g2⟩ := h6 j hj
  exact ⟨v, g1, StR_m g2 hm⟩
theorem ImR_m {N M : Nat} {Im : Nat → Option SV} {k i : Nat → Int32} (H : ImR N Im k i) (hm : N ≤ M) : ImR M Im k i := by
  intro j hj
  rcases H j hj with h | ⟨h1, v, h2, h3⟩
  · exact .inl h
  · exact .inr ⟨h1, v, h2, StR_m h3 hm⟩
def Rel (t : Nat) (σ : FV) (μ : MV) : Prop := StR (9600 * t) σ.1 μ.2.1 ∧ HsR (9600 * t) σ.2.1 σ.2.2.1 σ.2.2.2.1 μ.2.2.1 μ.2.2.2.1 ∧ ImR (9600 * t) σ.2.2.2.2.1 μ.2.2.2.2.1 μ.2.2.2.2.2.1 ∧ SeR σ.2.2.2.2.2.2.2.2.1 σ.2.2.2.2.2.2.2.2.2.1 σ.2.2.2.2.2.2.2.2.2.2 μ.2.2.2.2.2.2.1 μ.2.2.2.2.2.2.2.1 μ.2.2.2.2.2.2.2.2
theorem rel_mono : ∀ (t : Nat) (σ : FV) (μ : MV), Rel t σ μ → Rel (t + 1) σ μ := by
  intro t σ μ ⟨h1, h2, h3, h4⟩
  exact ⟨StR_m h1 (by omega), HsR_m h2 (by omega), ImR_m h3 (by omega), h4⟩
theorem rel_0 : Rel 0 sg0 mu0 := by
  refine ⟨⟨⟨1, 0, 0, 0, fun _ => 0, fun _ => 0, fun _ => 0, by omega, by omega, rfl, by omega, rfl, rfl, rfl, rfl, rfl, rfl, rfl, fun k hk => absurd hk (by omega)⟩, ⟨0, 0, 0, by omega, by omega, by omega, rfl, rfl, rfl, rfl, rfl, rfl, rfl, rfl, rfl, rfl, rfl, rfl, fun h => absurd rfl h, fun k hk => absurd hk (by omega)⟩, ⟨⟨0, by omega, rfl⟩, rfl, rfl, rfl, rfl⟩, ⟨0, by omega, rfl, rfl, rfl, rfl, by decide, by decide⟩, ⟨0, by omega, rfl, rfl, rfl, rfl, by decide, by decide⟩, ⟨0, by omega, rfl, rfl, rfl, rfl, by decide, by decide⟩⟩, ⟨0, 0, by omega, by omega, rfl, rfl, rfl, fun k hk => absurd hk (by omega)⟩, fun i _ => .inl ⟨rfl, rfl⟩, ⟨0, by omega, rfl, rfl, fun k hk => absurd hk (by omega)⟩⟩
theorem ix95 (u k : Nat) : (95 : Int32) * nI u + nI k = nI (95 * u + k) := by rw [show (95 : Int32) = nI 95 from rfl, pk_mul, nI_add]
theorem notes_49 {u : Nat} {s past : Nat → Int32} (hu : u < 8) : ∃ p', f_X9_notes_49 s past (nI u) = some (p', nI (u + 1)) ∧ ∀ i, p' i = if 95 * u ≤ i ∧ i < 95 * u + 95 then s (i - 95 * u) else past i := by
  obtain ⟨r, h1, h2⟩ := lp_0 (body := fb_X9_notes_51 s (nI u)) (fun k w => w.1 = nI k ∧ ∀ i, w.2 i = if 95 * u ≤ i ∧ i < 95 * u + k then s (i - 95 * u) else past i) (fun r => ∀ i, r i = if 95 * u ≤ i ∧ i < 95 * u + 95 then s (i - 95 * u) else past i) 95 (by omega) (by
    intro k hk w hw
    obtain ⟨w1, P⟩ := w
    obtain ⟨rfl, hP⟩ := hw
    dsimp only at hP
    refine ⟨(nI (k + 1), upd P (95 * u + k) (s k)), ?_, rfl, ?_⟩
    · unfold fb_X9_notes_51
      simp only [nm]
      rw [if_neg (show ¬ (95 : Int32) ≤ nI k from nI_ge (b := 95) hk (by omega)), gd_nI hk (by omega), ix95, gd_nI (by omega) (by omega), nI_clamp (by omega), nI_clamp (by omega), nI_1]
    · intro i
      show upd P (95 * u + k) (s k) i = _
      by_cases hi : i = 95 * u + k
      · subst hi; rw [pk_us, if_pos (by omega), show 95 * u + k - 95 * u = k by omega]
      · rw [pk_un hi, hP i]
        by_cases h3 : 95 * u ≤ i ∧ i < 95 * u + k
        · rw [if_pos h3, if_pos (by omega)]
        · rw [if_neg h3, if_neg (by omega)]) (by
    intro w hw
    obtain ⟨w1, P⟩ := w
    obtain ⟨rfl, hP⟩ := hw
    dsimp only at hP
    exact ⟨P, by unfold fb_X9_notes_51; rfl, hP⟩) (x := ((0 : Int32), past)) ⟨rfl, fun i => by rw [if_neg (by omega)]⟩
  refine ⟨r, ?_, h2⟩
  unfold f_X9_notes_49
  rw [h1, Option.bind_some]
  simp only [nm]
  rw [nI_1]
theorem notes_11 {s past : Nat → Int32} {un : Int32} : ∃ p', lp (fb_X9_notes_11 s un) 100000 ((0 : Int32), past) = some p' ∧ ∀ i, i < 665 → p' i = past (i + 95) := by
  obtain ⟨r, h1, h2⟩ := lp_0 (body := fb_X9_notes_11 s un) (fun k w => w.1 = nI k ∧ ∀ i, w.2 i = if i < k then past (i + 95) else past i) (fun r => ∀ i, i < 665 → r i = past (i + 95)) 665 (by omega) (by
    intro k hk w hw
    obtain ⟨w1, P⟩ := w
    obtain ⟨rfl, hP⟩ := hw
    dsimp only at hP
    refine ⟨(nI (k + 1), upd P k (past (k + 95))), ?_, rfl, ?_⟩
    · unfold fb_X9_notes_11
      simp only [nm]
      rw [if_neg (show ¬ (665 : Int32) ≤ nI k from nI_ge (b := 665) hk (by omega)), show nI k + (95 : Int32) = nI (k + 95) from nI_add k 95, gd_nI (by omega) (by omega), gd_nI (by omega) (by omega), nI_clamp (by omega), nI_clamp (by omega), nI_1, hP (k + 95), if_neg (by omega)]
    · intro i
      show upd P k (past (k + 95)) i = _
      by_cases hi : i = k
      · subst hi; rw [pk_us, if_pos (by omega)]
      · rw [pk_un hi, hP i]
        by_cases h3 : i < k
        · rw [if_pos h3, if_pos (by omega)]
        · rw [if_neg h3, if_neg (by omega)]) (by
    intro w hw
    obtain ⟨w1, P⟩ := w
    obtain ⟨rfl, hP⟩ := hw
    dsimp only at hP
    exact ⟨P, by unfold fb_X9_notes_11; rfl, fun i hi => by rw [hP i, if_pos hi]⟩) (x := ((0 : Int32), past)) ⟨rfl, fun i => by rw [if_neg (by omega)]⟩
  exact ⟨r, h1, h2⟩
theorem add_red {x k : Nat} {known : Int32} {R : Nat → Option SV} {v : SV} (hx : x ≤ 8) (hk : k = x % 8) : f_X1_add (nI x) known R v = some (nI k + 1, q_min (known + 1) 8, va_up R k (some (cpV v ((R k).getD sv0)))) := by
  have hm : md (nI x).toInt 8 = k := by
    unfold md; rw [nI_toInt (by omega)]; omega
  unfold f_X1_add
  rw [show (8 : Int32) = nI 8 from rfl, floor_eq _ (by omega) (by omega), hm, Option.bind_some, gd_nI (by omega) (by omega), nI_clamp (by omega)]
  rfl
theorem va_us {α : Type} {f : Nat → α} {k : Nat} {x : α} : va_up f k x k = x := by unfold va_up; rw [if_pos rfl]
theorem va_un {α : Type} {f : Nat → α} {k j : Nat} {x : α} (h : j ≠ k) : va_up f k x j = f j := by unfold va_up; rw [if_neg h]
theorem add_notes {N : Nat} {next known undos : Int32} {R : Nat → Option SV} {past s : Nat → Int32} {v : SV} (hH : HsR N next known R past undos) (hS : StR N v s) : ∃ (nx kn : Int32) (R' : Nat → Option SV) (past' : Nat → Int32) (un : Int32), f_X1_add next known R v = some (nx, kn, R') ∧ f_X9_notes s past undos = some (past', un) ∧ HsR N nx kn R' past' un := by
  obtain ⟨u, x, hu, hx, rfl, rfl, rfl, hj⟩ := hH
  rw [add_red hx rfl]
  have hmin : q_min (nI u + 1) 8 = nI (min (u + 1) 8) := by
    unfold q_min
    rw [nI_1]
    have e : (8 : Int32) < nI (u + 1) ↔ 8 < u + 1 := nI_ltI (a := 8) (by omega) (by omega)
    simp only [e]
    split
    · rw [show min (u + 1) 8 = 8 by omega]; rfl
    · rw [show min (u + 1) 8 = u + 1 by omega]
  rw [hmin, nI_1]
  unfold f_X9_notes
  have e8 : nI u = (8 : Int32) ↔ u = 8 := nI_eq (b := 8) (by omega) (by omega)
  by_cases h8 : u = 8
  · subst h8
    obtain ⟨q, q1, q2⟩ := notes_11 (s := s) (past := past) (un := nI 8)
    obtain ⟨p, p1, p2⟩ := notes_49 (s := s) (past := q) (u := 7) (by omega)
    rw [if_pos (show nI 8 = (8 : Int32) from rfl), q1, Option.bind_some]
    simp only [nm]
    rw [show nI 8 - (1 : Int32) = nI 7 from rfl, p1]
    refine ⟨_, _, _, _, _, rfl, rfl, 8, x % 8 + 1, by omega, by omega, rfl, rfl, rfl, fun j hj8 => ?_⟩
    by_cases h7 : j = 7
    · subst h7
      refine ⟨_, by rw [show (x % 8 + 1 + 8 - 8 + 7) % 8 = x % 8 by omega]; exact va_us, StR_c (StR_cp hS) (fun i hi => ?_)⟩
      show p (95 * 7 + i) = s i
      rw [p2, if_pos (by omega), show 95 * 7 + i - 95 * 7 = i by omega]
    · obtain ⟨w, w1, w2⟩ := hj (j + 1) (by omega)
      have i1 : (x % 8 + 1 + 8 - 8 + j) % 8 = (x + 8 - 8 + (j + 1)) % 8 := by omega
      have i2 : (x % 8 + 1 + 8 - 8 + j) % 8 ≠ x % 8 := by omega
      refine ⟨w, ?_, StR_c w2 (fun i hi => ?_)⟩
      · rw [va_un i2, i1]; exact w1
      · show p (95 * j + i) = past (95 * (j + 1) + i)
        have i3 : 95 * j + i + 95 = 95 * (j + 1) + i := by omega
        rw [p2, if_neg (by omega), q2 _ (by omega), i3]
  · obtain ⟨p, p1, p2⟩ := notes_49 (s := s) (past := past) (u := u) (by omega)
    rw [if_neg (fun h => h8 (e8.mp h)), p1]
    refine ⟨_, _, _, _, _, rfl, rfl, u + 1, x % 8 + 1, by omega, by omega, by rw [show min (u + 1) 8 = u + 1 by omega], rfl, rfl, fun j hj8 => ?_⟩
    by_cases h7 : j = u
    · subst h7
      refine ⟨_, by rw [show (x % 8 + 1 + 8 - (j + 1) + j) % 8 = x % 8 by omega]; exact va_us, StR_c (StR_cp hS) (fun i hi => ?_)⟩
      show p (95 * j + i) = s i
      rw [p2, if_pos (by omega), show 95 * j + i - 95 * j = i by omega]
    · obtain ⟨w, w1, w2⟩ := hj j (by omega)
      have i1 : (x % 8 + 1 + 8 - (u + 1) + j) % 8 = (x + 8 - u + j) % 8 := by omega
      have i2 : (x % 8 + 1 + 8 - (u + 1) + j) % 8 ≠ x % 8 := by omega
      refine ⟨w, ?_, StR_c w2 (fun i hi => ?_)⟩
      · rw [va_un i2, i1]; exact w1
      · show p (95 * j + i) = past (95 * j + i)
        rw [p2, if_neg (by omega)]
