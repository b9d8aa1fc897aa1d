/-! the tape is played: both loops -/
abbrev Q16 : Type := Int32 × Int32 × Int64 × Int32 × Int32 × Int32 × Int32 × Int32 × Int32 × Int32 × Int32 × Int32 × Int32 × Int32 × Int32 × Int32
theorem hear_q {r N : Nat} {d wh : Int32} {q : Q16} {s : Nat → Int32} (hr : r < 4) (hN : N + 1 < 2 ^ 31) (h0 : s 0 = nI r) (hR : RdT N q s) (hW : WhT wh q s) : ∃ q' s', f_X4_hear d (nI r) q.1 q.2.1 q.2.2.1 q.2.2.2.1 q.2.2.2.2.1 q.2.2.2.2.2.1 q.2.2.2.2.2.2.1 q.2.2.2.2.2.2.2.1 q.2.2.2.2.2.2.2.2.1 q.2.2.2.2.2.2.2.2.2.1 q.2.2.2.2.2.2.2.2.2.2.1 q.2.2.2.2.2.2.2.2.2.2.2.1 q.2.2.2.2.2.2.2.2.2.2.2.2.1 q.2.2.2.2.2.2.2.2.2.2.2.2.2.1 q.2.2.2.2.2.2.2.2.2.2.2.2.2.2.1 q.2.2.2.2.2.2.2.2.2.2.2.2.2.2.2 = some q' ∧ f_X9_comes d s = some s' ∧ RdT (N + 1) q' s' ∧ WhT wh q' s' ∧ Stay s s' := hear_eq hr hN h0 hR hW
/-- one bit's edges -/
theorem edges_eq {r N b : Nat} {x1 x2 x3 x4 : Int32} {F L U : Nat → Int32} {sg v5 v8 hd hd' wh : Int32} {v6 : Int64} {B : Nat} {q : Q16} {s past : Nat → Int32} {thrown undos y : Int32} (hr : r < 4) (hN : N + 2 < 2 ^ 31) (h0 : s 0 = nI r) (hR : RdT N q s) (hW : WhT wh q s) (hb : f_X7_bitOf v6 (q_rem (nI B) (48 : Int32)) = some (nI b)) (hb2 : b < 2) (hh : (if x4 = 0 then nI B + 1 else nI B) = hd') : ∃ q' s', f_X4_play_73 x1 x2 x3 x4 (nI r) F L U sg v5 v6 v8 (nI B) hd q.1 q.2.1 q.2.2.1 q.2.2.2.1 q.2.2.2.2.1 q.2.2.2.2.2.1 q.2.2.2.2.2.2.1 q.2.2.2.2.2.2.2.1 q.2.2.2.2.2.2.2.2.1 q.2.2.2.2.2.2.2.2.2.1 q.2.2.2.2.2.2.2.2.2.2.1 q.2.2.2.2.2.2.2.2.2.2.2.1 q.2.2.2.2.2.2.2.2.2.2.2.2.1 q.2.2.2.2.2.2.2.2.2.2.2.2.2.1 q.2.2.2.2.2.2.2.2.2.2.2.2.2.2.1 q.2.2.2.2.2.2.2.2.2.2.2.2.2.2.2 = some (.inl (v5, v6, v8 + 1, hd', q')) ∧ (if nI b = (0 : Int32) then ((f_X9_comes ((2 : Int32) * (x2 + (q_rem (v8 * x3) (5 : Int32)))) s).bind fun r24 => (f_X9_plays_191 x2 x3 x4 y thrown past undos v8 r24)) else ((f_X9_comes (x2 + (q_rem (v8 * x3) (5 : Int32))) s).bind fun r21 => ((f_X9_comes (x2 + (q_rem (v8 * x3) (5 : Int32))) r21).bind fun r22 => (f_X9_plays_191 x2 x3 x4 y thrown past undos v8 r22)))) = some (.inl (v8 + 1, s')) ∧ RdT (N + 2) q' s' ∧ WhT wh q' s' ∧ Stay s s' := by
  unfold f_X4_play_73
  simp only [nm]
  rw [hb, Option.bind_some]
  have e119 : ∀ q' : Q16, f_X4_play_119 x1 x2 x3 x4 (nI r) F L U sg v5 v6 v8 (nI B) hd q'.1 q'.2.1 q'.2.2.1 q'.2.2.2.1 q'.2.2.2.2.1 q'.2.2.2.2.2.1 q'.2.2.2.2.2.2.1 q'.2.2.2.2.2.2.2.1 q'.2.2.2.2.2.2.2.2.1 q'.2.2.2.2.2.2.2.2.2.1 q'.2.2.2.2.2.2.2.2.2.2.1 q'.2.2.2.2.2.2.2.2.2.2.2.1 q'.2.2.2.2.2.2.2.2.2.2.2.2.1 q'.2.2.2.2.2.2.2.2.2.2.2.2.2.1 q'.2.2.2.2.2.2.2.2.2.2.2.2.2.2.1 q'.2.2.2.2.2.2.2.2.2.2.2.2.2.2.2 = some (.inl (v5, v6, v8 + 1, hd', q')) := by
    intro q'
    unfold f_X4_play_119 f_X4_play_137
    simp only [nm]
    by_cases hx : x4 = 0
    · rw [if_pos hx] at hh ⊢
      rw [hh]
    · rw [if_neg hx] at hh ⊢
      rw [hh]
  have e0 : nI b = (0 : Int32) ↔ b = 0 := nI_eq (b := 0) (by omega) (by omega)
  simp only [e0]
  by_cases hb0 : b = 0
  · rw [if_pos hb0, if_pos hb0]
    obtain ⟨q1, s1, a1, a2, a3, a4, a5⟩ := hear_q (d := (2 : Int32) * (x2 + (q_rem (v8 * x3) (5 : Int32)))) hr (by omega) h0 hR hW
    rw [a1, a2, Option.bind_some, Option.bind_some]
    exact ⟨q1, s1, e119 q1, rfl, RdR_m a3 (by omega), a4, a5⟩
  · rw [if_neg hb0, if_neg hb0]
    obtain ⟨q1, s1, a1, a2, a3, a4, a5⟩ := hear_q (d := x2 + (q_rem (v8 * x3) (5 : Int32))) hr (by omega) h0 hR hW
    obtain ⟨q2, s2, b1, b2, b3, b4, b5⟩ := hear_q (d := x2 + (q_rem (v8 * x3) (5 : Int32))) hr (by omega) (by rw [a5 0 (by omega)]; exact h0) a3 a4
    rw [a1, a2, Option.bind_some, Option.bind_some, b1, b2, Option.bind_some, Option.bind_some]
    exact ⟨q2, s2, e119 q2, rfl, b3, b4, fun j hj => by rw [b5 j hj]; exact a5 j hj⟩
theorem play_eq {r n h m N : Nat} {f l u : Nat → Nat} {F L U s past : Nat → Int32} {x2 x3 x4 wh thrown undos : Int32} {q : Q16} (hr : r < 4) (hn : n ≤ 6) (hN : N + 9700 < 2 ^ 31) (h0 : s 0 = nI r) (h20 : s 20 = nI h) (hk : ∀ k, k < n → F k = nI (f k) ∧ L k = nI (l k) ∧ U k = nI (u k) ∧ s (2 + 3 * k) = nI (f k) ∧ s (2 + 3 * k + 1) = nI (l k) ∧ s (2 + 3 * k + 2) = nI (u k) ∧ f k < 2592000 ∧ 1 ≤ l k ∧ l k ≤ 40 ∧ u k ≤ 15) (hhW : h ≤ 48 * sm l n) (hm : m ≤ 4800) (hx : (x4 = 0 ∧ h + m ≤ 48 * sm l n) ∨ (x4 = 1 ∧ m ≤ h)) (hR : RdT N q s) (hW : WhT wh q s) : ∃ (q' : Q16) (s' : Nat → Int32) (h' : Nat), f_X4_play (nI m) x2 x3 x4 (nI r) F L U (nI n) (nI h) q.1 q.2.1 q.2.2.1 q.2.2.2.1 q.2.2.2.2.1 q.2.2.2.2.2.1 q.2.2.2.2.2.2.1 q.2.2.2.2.2.2.2.1 q.2.2.2.2.2.2.2.2.1 q.2.2.2.2.2.2.2.2.2.1 q.2.2.2.2.2.2.2.2.2.2.1 q.2.2.2.2.2.2.2.2.2.2.2.1 q.2.2.2.2.2.2.2.2.2.2.2.2.1 q.2.2.2.2.2.2.2.2.2.2.2.2.2.1 q.2.2.2.2.2.2.2.2.2.2.2.2.2.2.1 q.2.2.2.2.2.2.2.2.2.2.2.2.2.2.2 = some (nI h', q') ∧ lp (fb_X9_plays_107 x2 x3 x4 (nI m) thrown past undos) 100000 ((0 : Int32), s) = some s' ∧ h' ≤ 48 * sm l n ∧ s' 20 = nI h' ∧ (∀ j, j ≤ 19 ∨ (37 ≤ j ∧ j ≤ 46) → s' j = s j) ∧ RdT (N + 2 * m) q' s' ∧ WhT wh q' s' := by
  have hbound : sm l n ≤ 40 * n := sm_le (fun k h => (hk k h).2.2.2.2.2.2.2.2.1)
  have hx0 : x4 = 0 → h + m ≤ 48 * sm l n := by
    intro h0
    rcases hx with ⟨_, h⟩ | ⟨h1, _⟩
    · exact h
    · rw [h0] at h1; exact absurd h1 (by decide)
  have hx1 : x4 = 1 → m ≤ h := by
    intro h0
    rcases hx with ⟨h1, _⟩ | ⟨_, h⟩
    · rw [h0] at h1; exact absurd h1 (by decide)
    · exact h
  obtain ⟨a, b, g1, g2, h', q', rfl, p1, p2, p3, p4, p5⟩ := lp_two0 (b := fb_X4_play_9 (nI m) x2 x3 x4 (nI r) F L U (nI n)) (b' := fb_X9_plays_107 x2 x3 x4 (nI m) thrown past undos) (fun i w w' => ∃ (pl : Int32) (wd : Int64) (hd : Nat) (q1 : Q16) (s1 : Nat → Int32), w = (pl, wd, nI i, nI hd, q1) ∧ w' = (nI i, s1) ∧ (pl = -1 ∨ ∃ p, p < 2 ^ 30 ∧ pl = nI p ∧ f_X5_wordAt (nI p) (nI r) F L U (nI n) = some wd) ∧ s1 20 = nI hd ∧ (∀ j, j ≤ 19 ∨ (37 ≤ j ∧ j ≤ 46) → s1 j = s j) ∧ RdT (N + 2 * i) q1 s1 ∧ WhT wh q1 s1 ∧ i ≤ m ∧ ((x4 = 0 ∧ hd = h + i) ∨ (x4 = 1 ∧ hd + i = h))) (fun a b => ∃ h' q', a = (nI h', q') ∧ h' ≤ 48 * sm l n ∧ b 20 = nI h' ∧ (∀ j, j ≤ 19 ∨ (37 ≤ j ∧ j ≤ 46) → b j = s j) ∧ RdT (N + 2 * m) q' b ∧ WhT wh q' b) m (by omega) (by
    intro i hi w w' hw
    obtain ⟨pl, wd, hd, q1, s1, rfl, rfl, c1, c2, c3, c4, c5, c6, c7⟩ := hw
    by_cases him : i = m
    · subst him
      refine .inr ⟨(nI hd, q1), s1, fun k => lp_inr ?_ _, fun k => lp_inr ?_ _, hd, q1, rfl, ?_, c2, c3, c4, c5⟩
      · unfold fb_X4_play_9
        dsimp only
        rw [if_pos (nI_le (Nat.le_refl _) (by omega))]
      · unfold fb_X9_plays_107
        dsimp only
        rw [if_pos (nI_le (Nat.le_refl _) (by omega))]
      · rcases c7 with ⟨e, c7⟩ | ⟨e, c7⟩
        · have := hx0 e; omega
        · omega
    · have hlt : i < m := by omega
      obtain ⟨B, hB1, hB2, hB3, hB4, hB5⟩ : ∃ B : Nat, B < 48 * sm l n ∧ (if x4 = 0 then nI hd else nI hd - 1) = nI B ∧ nI hd - x4 = nI B ∧ (∃ h2 : Nat, (if x4 = 0 then nI B + 1 else nI B) = nI h2 ∧ nI B + (1 - x4) = nI h2 ∧ ((x4 = 0 ∧ h2 = h + (i + 1)) ∨ (x4 = 1 ∧ h2 + (i + 1) = h))) ∧ True := by
        rcases c7 with ⟨rfl, rfl⟩ | ⟨rfl, c7⟩
        · have hx2 := hx0 rfl
          refine ⟨h + i, by omega, if_pos rfl, by rw [Int32.sub_zero], ⟨h + i + 1, by rw [if_pos rfl, nI_1], by rw [Int32.sub_zero, nI_1], .inl ⟨rfl, by omega⟩⟩, trivial⟩
        · have hx2 := hx1 rfl
          have e1 : nI hd - (1 : Int32) = nI (hd - 1) := sub_nI (b := 1) (by omega)
          refine ⟨hd - 1, by omega, by rw [if_neg (by decide)]; exact e1, e1, ⟨hd - 1, if_neg (by decide), by rw [Int32.sub_self, Int32.add_zero], .inr ⟨rfl, by omega⟩⟩, trivial⟩
      obtain ⟨h2, e1, e2, e3⟩ := hB4
      obtain ⟨W, w1, w2, w3⟩ := bit_eq (s := upd s1 20 (nI B)) (F := F) (L := L) (U := U) (f := f) (l := l) (u := u) hr hn (by rw [pk_un (by omega), c3 0 (by omega)]; exact h0) (fun k hkn => by
        obtain ⟨k1, k2, k3, k4, k5, k6, k7⟩ := hk k hkn
        exact ⟨k1, k2, k3, by rw [pk_un (by omega), c3 _ (by omega)]; exact k4, by rw [pk_un (by omega), c3 _ (by omega)]; exact k5, by rw [pk_un (by omega), c3 _ (by omega)]; exact k6, k7⟩) hB1
      have hrem : q_rem (nI B) (48 : Int32) = nI (B % 48) := rem_nI (d := 48) (by omega) (by omega) (by omega)
      have hdiv : nI B / (48 : Int32) = nI (B / 48) := div_nI (d := 48) (by omega) (by omega) (by omega)
      have hbit : f_X7_bitOf (lN (wv W)) (q_rem (nI B) (48 : Int32)) = some (nI (bt (wv W) (B % 48))) := by
        rw [hrem]; exact bitOf_eq (by unfold wv; omega) (by omega)
      have hs2 : ∀ j, j ≠ 20 → (upd (upd s1 20 (nI B)) 20 (nI h2)) j = s1 j := fun j hj => by rw [pk_un hj, pk_un hj]
      obtain ⟨q2, s2, d1, d2, d3, d4, d5⟩ := edges_eq (x1 := nI m) (x2 := x2) (x3 := x3) (x4 := x4) (F := F) (L := L) (U := U) (sg := nI n) (v5 := nI (B / 48)) (v8 := nI i) (hd := nI hd) (hd' := nI h2) (wh := wh) (v6 := lN (wv W)) (B := B) (q := q1) (s := upd (upd s1 20 (nI B)) 20 (nI h2)) (past := past) (thrown := thrown) (undos := undos) (y := nI m) (N := N + 2 * i) hr (by omega) (by rw [hs2 0 (by omega), c3 0 (by omega)]; exact h0) (RdR_c c4 (fun j a1 a2 => hs2 j (by omega)) (fun j a1 a2 => hs2 j (by omega))) (WhR_c c5 (fun j a1 a2 => hs2 j (by omega))) hbit (bt_lt _ _) e1
      refine .inl ⟨hlt, (nI (B / 48), lN (wv W), nI (i + 1), nI h2, q2), (nI (i + 1), s2), ?_, ?_, nI (B / 48), lN (wv W), h2, q2, s2, rfl, rfl, .inr ⟨B / 48, by omega, rfl, w2⟩, ?_, ?_, RdR_m d3 (by omega), d4, by omega, e3⟩
      · unfold fb_X4_play_9
        dsimp only
        rw [if_neg (nI_ge hlt (by omega))]
        have e39 : f_X4_play_39 (nI m) x2 x3 x4 (nI r) F L U (nI n) pl wd (nI i) (nI B) (nI hd) q1.1 q1.2.1 q1.2.2.1 q1.2.2.2.1 q1.2.2.2.2.1 q1.2.2.2.2.2.1 q1.2.2.2.2.2.2.1 q1.2.2.2.2.2.2.2.1 q1.2.2.2.2.2.2.2.2.1 q1.2.2.2.2.2.2.2.2.2.1 q1.2.2.2.2.2.2.2.2.2.2.1 q1.2.2.2.2.2.2.2.2.2.2.2.1 q1.2.2.2.2.2.2.2.2.2.2.2.2.1 q1.2.2.2.2.2.2.2.2.2.2.2.2.2.1 q1.2.2.2.2.2.2.2.2.2.2.2.2.2.2.1 q1.2.2.2.2.2.2.2.2.2.2.2.2.2.2.2 = some (.inl (nI (B / 48), lN (wv W), nI (i + 1), nI h2, q2)) := by
          rw [← nI_1 i]
          unfold f_X4_play_39
          rw [hdiv]
          by_cases hpl : nI (B / 48) = pl
          · rw [if_pos hpl]
            rcases c1 with hp | ⟨p, hp1, hp2, hp3⟩
            · exfalso
              rw [hp] at hpl
              have := eq_iff.mp hpl
              rw [nI_toInt (by omega), show (-1 : Int32).toInt = -1 by decide] at this
              omega
            · have hpp : B / 48 = p := (nI_eq (by omega) (by omega)).mp (hpl.trans hp2)
              rw [hpp] at w2
              have hwd : wd = lN (wv W) := Option.some.inj (hp3.symm.trans w2)
              rw [← hpl, hwd]
              exact d1
          · rw [if_neg hpl]
            simp only [nm]
            rw [w2, Option.bind_some]
            exact d1
        by_cases hx4 : x4 = 0
        · rw [if_pos hx4] at hB2 ⊢
          rw [hB2] at e39 ⊢
          exact e39
        · rw [if_neg hx4] at hB2 ⊢
          rw [hB2]
          exact e39
      · unfold fb_X9_plays_107
        dsimp only
        simp only [nm]
        rw [if_neg (nI_ge hlt (by omega)), c2, hB3, pk_us, w3, Option.bind_some, e2, ← nI_1 i]
        exact d2
      · rw [d5 20 (by omega), pk_us]
      · intro j hj
        rw [d5 j (by omega), hs2 j (by omega)]; exact c3 j hj) (x := ((-1 : Int32), (0 : Int64), (0 : Int32), nI h, q)) (y := ((0 : Int32), s)) ⟨-1, 0, h, q, s, rfl, rfl, .inl rfl, h20, fun j hj => rfl, hR, hW, Nat.zero_le _, by rcases hx with ⟨rfl, _⟩ | ⟨rfl, _⟩; exact .inl ⟨rfl, rfl⟩; exact .inr ⟨rfl, rfl⟩⟩
  refine ⟨q', b, h', ?_, g2, p1, p2, p3, p4, p5⟩
  unfold f_X4_play
  have g1' : lp (fb_X4_play_9 (nI m) x2 x3 x4 (nI r) F L U (nI n)) 100000 ((-1 : Int32), (0 : Int64), (0 : Int32), nI h, q.1, q.2.1, q.2.2.1, q.2.2.2.1, q.2.2.2.2.1, q.2.2.2.2.2.1, q.2.2.2.2.2.2.1, q.2.2.2.2.2.2.2.1, q.2.2.2.2.2.2.2.2.1, q.2.2.2.2.2.2.2.2.2.1, q.2.2.2.2.2.2.2.2.2.2.1, q.2.2.2.2.2.2.2.2.2.2.2.1, q.2.2.2.2.2.2.2.2.2.2.2.2.1, q.2.2.2.2.2.2.2.2.2.2.2.2.2.1, q.2.2.2.2.2.2.2.2.2.2.2.2.2.2.1, q.2.2.2.2.2.2.2.2.2.2.2.2.2.2.2) = some (nI h', q') := g1
  rw [g1']
  rfl
