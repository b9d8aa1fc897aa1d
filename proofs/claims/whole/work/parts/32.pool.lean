/-! the values of a State, pools of States, the cells of a FrameClocks -/
abbrev SV : Type := Int32 × (Nat → Int32) × (Nat → Int32) × (Nat → Int32) × Int32 × Int32 × Int32 × Int32 × Int32 × Int64 × Int32 × Int32 × Int32 × Int32 × Int32 × Int32 × Int32 × Int32 × Int32 × Int32 × Int32 × Int32 × Int32 × Int32 × Int32 × Int32 × Int32 × Int32 × Int32 × Int32 × Int32 × Int32 × Int32
def stV (z : ClassId × ClassId × ClassId) (a : Nat → Nat) (v : SV) : va_W := stW z a v.1 v.2.1 v.2.2.1 v.2.2.2.1 v.2.2.2.2.1 v.2.2.2.2.2.1 v.2.2.2.2.2.2.1 v.2.2.2.2.2.2.2.1 v.2.2.2.2.2.2.2.2.1 v.2.2.2.2.2.2.2.2.2.1 v.2.2.2.2.2.2.2.2.2.2.1 v.2.2.2.2.2.2.2.2.2.2.2.1 v.2.2.2.2.2.2.2.2.2.2.2.2.1 v.2.2.2.2.2.2.2.2.2.2.2.2.2.1 v.2.2.2.2.2.2.2.2.2.2.2.2.2.2.1 v.2.2.2.2.2.2.2.2.2.2.2.2.2.2.2.1 v.2.2.2.2.2.2.2.2.2.2.2.2.2.2.2.2.1 v.2.2.2.2.2.2.2.2.2.2.2.2.2.2.2.2.2.1 v.2.2.2.2.2.2.2.2.2.2.2.2.2.2.2.2.2.2.1 v.2.2.2.2.2.2.2.2.2.2.2.2.2.2.2.2.2.2.2.1 v.2.2.2.2.2.2.2.2.2.2.2.2.2.2.2.2.2.2.2.2.1 v.2.2.2.2.2.2.2.2.2.2.2.2.2.2.2.2.2.2.2.2.2.1 v.2.2.2.2.2.2.2.2.2.2.2.2.2.2.2.2.2.2.2.2.2.2.1 v.2.2.2.2.2.2.2.2.2.2.2.2.2.2.2.2.2.2.2.2.2.2.2.1 v.2.2.2.2.2.2.2.2.2.2.2.2.2.2.2.2.2.2.2.2.2.2.2.2.1 v.2.2.2.2.2.2.2.2.2.2.2.2.2.2.2.2.2.2.2.2.2.2.2.2.2.1 v.2.2.2.2.2.2.2.2.2.2.2.2.2.2.2.2.2.2.2.2.2.2.2.2.2.2.1 v.2.2.2.2.2.2.2.2.2.2.2.2.2.2.2.2.2.2.2.2.2.2.2.2.2.2.2.1 v.2.2.2.2.2.2.2.2.2.2.2.2.2.2.2.2.2.2.2.2.2.2.2.2.2.2.2.2.1 v.2.2.2.2.2.2.2.2.2.2.2.2.2.2.2.2.2.2.2.2.2.2.2.2.2.2.2.2.2.1 v.2.2.2.2.2.2.2.2.2.2.2.2.2.2.2.2.2.2.2.2.2.2.2.2.2.2.2.2.2.2.1 v.2.2.2.2.2.2.2.2.2.2.2.2.2.2.2.2.2.2.2.2.2.2.2.2.2.2.2.2.2.2.2.1 v.2.2.2.2.2.2.2.2.2.2.2.2.2.2.2.2.2.2.2.2.2.2.2.2.2.2.2.2.2.2.2.2
/-- the values of a new State -/
def sv0 : SV := (1, (fun _ => 0), (fun _ => 0), (fun _ => 0), 0, 0, 0, 40, 0, 0, 0, 0, 0, 0, 0, 0, 0, 0, 0, 0, 0, 1, 0, 5, 0, 0, 0, 0, 0, 0, 0, 0, 0)
def plS (z : ClassId × ClassId × ClassId) (o : Option ((Nat → Nat) × SV)) : va_W := match o with
  | none => []
  | some p => stV z p.1 p.2
def plW (z : ClassId × ClassId × ClassId) (P : Nat → Option ((Nat → Nat) × SV)) : Nat → va_W
  | 0 => []
  | n + 1 => plW z P n ++ plS z (P n)
/-- what the pool's places hold, without where -/
def pv (P : Nat → Option ((Nat → Nat) × SV)) : Nat → Option SV := fun i => (P i).map Prod.snd
/-- where they are -/
def rfs (P : Nat → Option ((Nat → Nat) × SV)) : Nat → Option Nat := fun i => (P i).map (fun p => p.1 0)
theorem plW_congr {z : ClassId × ClassId × ClassId} {P Q : Nat → Option ((Nat → Nat) × SV)} : ∀ n : Nat, (∀ i, i < n → P i = Q i) → plW z P n = plW z Q n
  | 0, _ => rfl
  | n + 1, h => by rw [plW, plW, plW_congr n (fun i hi => h i (by omega)), h n (by omega)]
theorem plW_take {z : ClassId × ClassId × ClassId} {P : Nat → Option ((Nat → Nat) × SV)} {i : Nat} : ∀ n : Nat, i < n → (plW z P n).Perm (plS z (P i) ++ plW z (va_up P i none) n)
  | 0, h => absurd h (Nat.not_lt_zero i)
  | n + 1, h => by
    rw [plW, plW]
    by_cases hi : i = n
    · subst hi
      rw [va_up_self, show plW z (va_up P i none) i = plW z P i from plW_congr i (fun j hj => va_up_ne _ _ (by omega))]
      show (plW z P i ++ plS z (P i)).Perm (plS z (P i) ++ (plW z P i ++ []))
      rw [List.append_nil]
      exact List.perm_append_comm
    · rw [va_up_ne _ _ (Ne.symm hi), ← List.append_assoc]
      exact (plW_take n (by omega)).append_right _
theorem plW_put {z : ClassId × ClassId × ClassId} {P : Nat → Option ((Nat → Nat) × SV)} {i n : Nat} (o : Option ((Nat → Nat) × SV)) (h : i < n) : (plS z o ++ plW z (va_up P i none) n).Perm (plW z (va_up P i o) n) := by
  have h1 := plW_take (z := z) (P := va_up P i o) n h
  rw [va_up_self, bx_uu] at h1
  exact h1.symm
theorem pv_up (P : Nat → Option ((Nat → Nat) × SV)) (i : Nat) (p : (Nat → Nat) × SV) : pv (va_up P i (some p)) = va_up (pv P) i (some p.2) := by
  funext j
  by_cases h : j = i
  · subst h; simp [pv, va_up]
  · simp [pv, va_up, h]
theorem rfs_up (P : Nat → Option ((Nat → Nat) × SV)) (i : Nat) (p : (Nat → Nat) × SV) : rfs (va_up P i (some p)) = va_up (rfs P) i (some (p.1 0)) := by
  funext j
  by_cases h : j = i
  · subst h; simp [rfs, va_up]
  · simp [rfs, va_up, h]
theorem up_same {α : Type} {f : Nat → α} {i : Nat} {v : α} (h : f i = v) : va_up f i v = f := by
  funext j
  by_cases hj : j = i
  · subst hj; simp [va_up, h]
  · simp [va_up, hj]
def hiW (z : ClassId × ClassId × ClassId) (h1 h2 : Nat) (next known : Int32) (g : Nat → Option Nat) : va_W := [(h1, .inr (1, [.ref h2, .int next, .int known])), (h2, .inl (z.2.2, 8, .inr (.inr (.inr (.inr g)))))]
def fcW (z : ClassId × ClassId × ClassId) (fa a : Nat → Nat) (rate : Int32) (tfirst : Nat → Int32) (tlength : Nat → Int32) (tuser : Nat → Int32) (tsegments : Int32) (twords : Int32) (thead : Int32) (rcell : Int32) (rwaits : Int32) (rbits : Int64) (rheld : Int32) (rreadings : Int32) (rbroken : Int32) (rerrors : Int32) (rjumps : Int32) (rstreak : Int32) (rframe : Int32) (rnumber : Int32) (ruser : Int32) (rcourse : Int32) (wframe : Int32) (wcourse : Int32) (wmissed : Int32) (whold : Int32) (p0 : Int32) (s0 : Int32) (o0 : Int32) (p1 : Int32) (s1 : Int32) (o1 : Int32) (p2 : Int32) (s2 : Int32) (o2 : Int32) (next known : Int32) (P Im : Nat → Option ((Nat → Nat) × SV)) (place speed offset : Int32) (sn sf : Nat → Int32) (seen : Int32) : va_W := (fa 0, .inr (6, [.ref (a 0), .ref (fa 1), .ref (fa 3), .ref (fa 4), .ref (fa 5), .ref (fa 6), .int seen])) :: stW z a rate tfirst tlength tuser tsegments twords thead rcell rwaits rbits rheld rreadings rbroken rerrors rjumps rstreak rframe rnumber ruser rcourse wframe wcourse wmissed whold p0 s0 o0 p1 s1 o1 p2 s2 o2 ++ [(fa 1, .inr (1, [.ref (fa 2), .int next, .int known])), (fa 2, .inl (z.2.2, 8, .inr (.inr (.inr (.inr (rfs P)))))), (fa 3, .inl (z.2.2, 2, .inr (.inr (.inr (.inr (rfs Im)))))), (fa 4, .inr (0, [.int place, .int speed, .int offset])), (fa 5, .inl (z.1, 6, .inl sn)), (fa 6, .inl (z.1, 6, .inl sf))]
def poW (z : ClassId × ClassId × ClassId) (P Im : Nat → Option ((Nat → Nat) × SV)) : va_W := plW z P 8 ++ plW z Im 2
section QF
variable {X : qX} {R0 : Room} {cc : ByteArray} {nL : Nat} {own : String} {ret0 : Option FieldType} {k n pc : Nat} {ws : va_W} {lv : List (Nat × Value)} {st0 : List Value}
variable {y : MethodName} {bytes : ByteArray} {maxL nA index : Nat} {ret : Option FieldType} {rm : Room} {w0 : va_W} {Po : Option Value → va_W → Prop} {b : Nat} {C : String}
/-- a virtual call whose callee has some of the caller's cells, in any order -/
theorem a_callVP (pc' : Nat) (wr : va_W) (q0 ci : Nat) {T : u_T} {N : Nat} {fs : List Value} (As rest : List Value) (hC : Ok X R0 cc nL own ret0) (hM : Ct X.1.2.1 X.2.2.2.1 X.2.2.2.2 y bytes maxL ret rm (.ref b :: As) w0 Po) (cw : Cw R0 own index y bytes maxL ret nA rm)
    (h2 : Cond.instanceMethod y ∈ wB) (h3 : Cond.selects C y y ∈ wB) (hn : As.length = nA) (hst : st0 = As.reverse ++ .ref b :: rest) (hcat : (rest.map fun v => v.category).sum ≤ 8) (hdec : decode cc pc = .ok (.invokevirtual index, 3)) (hp : pc + 3 = pc') (hf : k + rm.cells ≤ R0.cells ∧ n + rm.slots ≤ R0.slots)
    (hperm : ws.Perm (w0 ++ wr)) (he : w0[q0]? = some (b, .inr (ci, fs))) (hcl : vwCl[ci]? = some (C, T, N))
    (kk : ∀ (r : Option Value) (w1 : va_W), Po r w1 → At X (k + rm.cells) (n + rm.slots) pc' (w1 ++ wr) lv (r.toList ++ rest)) : At X k n pc ws lv st0 := by
  refine a_perm (w0 ++ wr) hperm ?_
  intro H locs ls hP hD hS hl
  have hP0 : va_P X.2.2.2.1 vwCl w0 H := fun i q hq => hP i q (by rw [List.getElem?_append_left (List.getElem?_eq_some_iff.mp hq).1]; exact hq)
  have hD0 : ∀ A : Nat → Prop, (∀ q ∈ w0, A q.1) → va_D A w0 := fun A hA => by
    refine ⟨fun i j x y hx hy hxy => hD.1 i j x y (by rw [List.getElem?_append_left (List.getElem?_eq_some_iff.mp hx).1]; exact hx) (by rw [List.getElem?_append_left (List.getElem?_eq_some_iff.mp hy).1]; exact hy) hxy, fun i q hq => hA q (List.mem_of_getElem? hq)⟩
  have hF : ∀ q, va_A w0 H.size q → X.2.2.1.2.2.1 q := by
    intro q h
    rcases h with ⟨k', e', h⟩ | h
    · exact hD.2 k' (q, e') (by rw [List.getElem?_append_left (List.getElem?_eq_some_iff.mp h).1]; exact h)
    · exact hC.2.2.2.2.2.2.1 q (Nat.le_trans hS.1 h)
  have hPre : ∀ U : State, U.heap = H → X.2.1.1.WarmedH U.vm → qP X.2.2.2.1 X.2.2.2.2 (.ref b :: As) w0 H.size (Value.ref b :: As).toArray U := fun U hU hW => ⟨rfl, by rw [hU], by rw [hU]; exact hP0, hC.2.2.2.2.2.1.warm hW, hD0 _ (fun _ _ => trivial)⟩
  have hr := va_runV (As := As) (rest := rest) (cells := k) (slots := n) (locs := locs) (p := X.1.1) (e := X.1.2.2.1) (below := X.2.1.2.2.2) (meth := X.2.2.1.1) (g := F0 X.2.1.2.1 pc ls st0) ⟨hC.1, hC.2.1, hC.2.2.1, hC.2.2.2.1, hC.2.2.2.2.1⟩ (hM H.size) ⟨cw.callB hC, hC.2.2.2.2.1 _ h2, hC.2.2.2.2.1 _ h3⟩ ⟨q_blind, va_recv hC.2.2.2.2.2.1.1 hP0 hcl he, hPre⟩ rfl hn (by rw [← hC.2.2.1]; exact hl.1) hst (by show 2 * 0 + _ ≤ 8; omega) hdec (by rw [hC.2.2.2.2.2.2.2.2.2]; exact hf)
  refine w_back hr hS hF (fun r w1 H1 locs1 hp1 hP1 hD1 hz1 hk1 hS1 => ?_)
  have hPr : ∀ (i : Nat) (q : Nat × va_E), wr[i]? = some q → (w0 ++ wr)[w0.length + i]? = some q := fun i q hq => by
    rw [List.getElem?_append_right (by omega), Nat.add_sub_cancel_left]; exact hq
  have hap : ∀ (i : Nat) (q : Nat × va_E), wr[i]? = some q → q.1 < H.size ∧ ¬ va_A w0 H.size q.1 := by
    intro i q hq
    have hlt := (hP _ q (hPr i q hq)).lt
    refine ⟨hlt, fun h => ?_⟩
    rcases h with ⟨j, e', h⟩ | h
    · have hj := (List.getElem?_eq_some_iff.mp h).1
      have := hD.1 j (w0.length + i) (q.1, e') q (by rw [List.getElem?_append_left hj]; exact h) (hPr i q hq) rfl
      omega
    · omega
  subst hp
  refine kk r w1 hp1 H1 locs1 ls (va_P.app hP1 (fun i q hq => (hP _ q (hPr i q hq)).kept (hk1 q.1 (hap i q hq).1 (hap i q hq).2))) (va_D.app (hD1.weaken (fun _ q _ h => hF q.1 h)) ⟨fun i j x y hx hy hxy => ?_, fun i q hq => hD.2 _ q (hPr i q hq)⟩ (fun i j x y hx hy hxy => ?_)) hS1 hl
  · have := hD.1 _ _ x y (hPr i x hx) (hPr j y hy) hxy
    omega
  · exact (hap j y hy).2 (by rw [← hxy]; exact hD1.2 i x hx)
end QF
