/-! calls in the calculus of places -/
def q_pick (Xs : va_W) (is : List Nat) : va_W := is.filterMap (fun i => Xs[i]?)
theorem w_back {p : Program} {l : Launch} {e : Env} {R : Room} {s : State} {m : MethodId} {args : Array Value} {below : List Frame} {meth : Method} {c : Code} {H : Heap} {locs : List Loc} {k n mc ms pc : Nat} {Q : State → Prop} {ls : Array Slot} {st0 rest : List Value} {D : va_G} {Po : Option Value → va_W → Prop} {A0 A1 : Nat → Prop} {H0 : Heap} {a : Array Value}
    (hr : va_Run p l e R s m args below meth c H locs k n mc ms (F0 m pc ls st0) rest (qQ D Po A1 a) A1) (hS : va_S A0 H0 H locs) (hA : ∀ q, A1 q → A0 q)
    (kk : ∀ (r : Option Value) (w1 : va_W) (H1 : Heap) (locs1 : List Loc), Po r w1 → va_P D vwCl w1 H1 → va_D A1 w1 → H.size ≤ H1.size → (∀ q : Nat, q < H.size → ¬ A1 q → H1[q]? = H[q]?) → va_S A0 H0 H1 locs1 → W p l e R s m args below meth c H1 locs1 (k + mc) (n + ms) Q (F0 m (pc + 3) ls (r.toList ++ rest))) : W p l e R s m args below meth c H locs k n Q (F0 m pc ls st0) := by
  intro T hT X
  obtain ⟨v, st₀, t, T', L, h0, X', hL, e1, e2, ⟨r, w1, hv, hp, hP1, hD1, hz, hk⟩, st⟩ := hr T hT X
  cases hv
  rw [h0] at hz hk
  obtain ⟨t2, a1, b1⟩ := kk v w1 T'.heap (locs ++ L) hp (by rw [e1]; exact hP1) hD1 (by rw [e1]; exact hz) (fun q h1 h2 => by rw [e1]; exact hk q h1 h2)
    ⟨Nat.le_trans hS.1 (by rw [e1]; exact hz), fun q h1 h2 => by rw [e1, hk q (Nat.lt_of_lt_of_le h1 hS.1) (fun z => h2 (hA q z))]; exact hS.2.1 q h1 h2, fun q hq => by
      rcases List.mem_append.mp hq with h | h
      · exact hS.2.2 q h
      · exact hA _ (hL q h)⟩ T' rfl X'
  exact ⟨t2, st t2 a1, b1⟩
theorem q_blind {D : va_G} {z : ClassId × ClassId × ClassId} {av : List Value} {w0 : va_W} {sz : Nat} : FrameBlind (qP D z av w0 sz) := fun a U g mk q => by
  obtain ⟨q0, q1, qP, qK, qD⟩ := q
  exact ⟨q0, q1, qP, qK.same rfl, qD⟩
theorem wB_code {y : MethodName} {bytes : ByteArray} {maxL : Nat} {ret : Option FieldType} (h5 : Cond.code y bytes maxL ret ∈ wB) : GoodIn wB (Cond.code y bytes maxL ret :: wB) := fun w hw => by
  rcases List.mem_cons.mp hw with h | h
  · subst h; exact ⟨h5, good_of_word (wB_good _ h5).2⟩
  · exact ⟨h, good_of_word (wB_good _ h).2⟩
section QC
variable {X : qX} {R0 : Room} {cc : ByteArray} {nL : Nat} {own : String} {ret0 : Option FieldType} {k n pc : Nat} {ws : va_W} {lv : List (Nat × Value)} {st0 : List Value}
variable {y : MethodName} {bytes : ByteArray} {maxL nA index : Nat} {ret : Option FieldType} {rm : Room} {As rest : List Value} {w0 : va_W} {Po : Option Value → va_W → Prop} {b : Nat} {C : String}
/-- a call's room, words and names, all that is not of the cells -/
def Cw (R0 : Room) (own : String) (index : Nat) (y : MethodName) (bytes : ByteArray) (maxL : Nat) (ret : Option FieldType) (nA : Nat) (rm : Room) : Prop :=
  Cond.methodLink own index y ∈ wB ∧ Cond.initialized y.cls ∈ wB ∧ Cond.code y bytes maxL ret ∈ wB ∧ (y.cls ≠ "java/lang/invoke/MethodHandle" ∧ y.cls ≠ "java/lang/invoke/VarHandle" ∧ (parseMethodDescriptor y.desc).map (fun d => d.parameters.length) = some nA) ∧ (rm.frames + 1 ≤ R0.frames ∧ 8 + (maxL + 11) + rm.locals ≤ R0.locals)
theorem Cw.callB (hC : Ok X R0 cc nL own ret0) (h : Cw R0 own index y bytes maxL ret nA rm) : CallB X.1.2.2.2 X.2.1.1 X.2.1.2.2.1 own index y bytes maxL ret (Cond.code y bytes maxL ret :: wB) rm rm.cells rm.slots nA := by
  obtain ⟨h1, h4, h5, hd, hR⟩ := h
  refine callB_of nA hC.2.2.2.2.1 (wB_code h5) rfl rfl rfl (hC.2.2.2.2.1 _ h4) (hC.2.2.2.2.1 _ h1) hd ?_
  rw [hC.2.2.2.2.2.2.2.2.2]
  exact hR
set_option maxHeartbeats 1000000 in
/-- behind a call: the cells that the callee didn't have, and its own -/
theorem a_after (pc' : Nat) (Xs pl : va_W) (isC isR : List Nat) {H : Heap} {locs : List Loc} {ls : Array Slot} {a : Array Value}
    (hC : Ok X R0 cc nL own ret0) (hP : va_P X.2.2.2.1 vwCl ws H) (hD : va_D X.2.2.1.2.2.1 ws) (hS : va_S X.2.2.1.2.2.1 X.2.1.1.heap H locs) (hl : lv_has ls X.2.2.1.2.1.maxLocals lv)
    (hws : ws = Xs ++ pl) (hiC : isC.map (fun i => Xs[i]?) = w0.map some) (hiR : isR.map (fun i => Xs[i]?) = (q_pick Xs isR).map some) (hnd : va_nd isR = true) (hdis : ∀ i ∈ isR, i ∉ isC) (hp : pc + 3 = pc')
    (hr : va_Run X.1.1 X.1.2.1 X.1.2.2.1 X.1.2.2.2 X.2.1.1 X.2.1.2.1 X.2.1.2.2.1 X.2.1.2.2.2 X.2.2.1.1 X.2.2.1.2.1 H locs k n rm.cells rm.slots (F0 X.2.1.2.1 pc ls st0) rest (qQ X.2.2.2.1 Po (va_A w0 H.size) a) (va_A w0 H.size))
    (kk : ∀ (r : Option Value) (w1 : va_W), Po r w1 → At X (k + rm.cells) (n + rm.slots) pc' ((q_pick Xs isR ++ w1) ++ pl) lv (r.toList ++ rest)) :
    W X.1.1 X.1.2.1 X.1.2.2.1 X.1.2.2.2 X.2.1.1 X.2.1.2.1 X.2.1.2.2.1 X.2.1.2.2.2 X.2.2.1.1 X.2.2.1.2.1 H locs k n X.2.2.1.2.2.2 (F0 X.2.1.2.1 pc ls st0) := by
  subst hws
  subst hp
  have hF : ∀ q, va_A w0 H.size q → X.2.2.1.2.2.1 q := by
    intro q h
    rcases h with ⟨k', e', h⟩ | h
    · obtain ⟨i, h1, h2⟩ := va_in_of isC hiC h
      exact hD.2 i (q, e') (by rw [List.getElem?_append_left (List.getElem?_eq_some_iff.mp h2).1]; exact h2)
    · exact hC.2.2.2.2.2.2.1 q (Nat.le_trans hS.1 h)
  refine w_back hr hS hF (fun r w1 H1 locs1 hp1 hP1 hD1 hz1 hk1 hS1 => ?_)
  obtain ⟨hP2, hD2⟩ := va_joinQ hP hD isC isR hiC hiR hnd hdis hk1 hF hP1 hD1
  exact kk r w1 hp1 H1 locs1 ls hP2 hD2 hS1 hl
theorem a_pre {H : Heap} {locs : List Loc} (Xs pl : va_W) (isC : List Nat) (hC : Ok X R0 cc nL own ret0) (hP : va_P X.2.2.2.1 vwCl ws H) (hD : va_D X.2.2.1.2.2.1 ws) (hws : ws = Xs ++ pl) (hiC : isC.map (fun i => Xs[i]?) = w0.map some) (hndC : va_nd isC = true) {av : List Value} : va_P X.2.2.2.1 vwCl w0 H ∧ ∀ U : State, U.heap = H → X.2.1.1.WarmedH U.vm → qP X.2.2.2.1 X.2.2.2.2 av w0 H.size av.toArray U := by
  subst hws
  have at' : ∀ (k : Nat) (q : Nat × va_E), w0[k]? = some q → ∃ i, isC[k]? = some i ∧ (Xs ++ pl)[i]? = some q := fun k q h => by
    obtain ⟨i, h1, h2⟩ := va_in_of isC hiC h
    exact ⟨i, h1, by rw [List.getElem?_append_left (List.getElem?_eq_some_iff.mp h2).1]; exact h2⟩
  have hPc : va_P X.2.2.2.1 vwCl w0 H := fun k q h => by
    obtain ⟨i, -, h2⟩ := at' k q h
    exact hP i q h2
  have hDc : va_D (fun _ => True) w0 := by
    refine ⟨fun i j x y hx hy hxy => ?_, fun _ _ _ => trivial⟩
    obtain ⟨i', e1, h1⟩ := at' i x hx
    obtain ⟨j', e2, h2⟩ := at' j y hy
    have := hD.1 i' j' x y h1 h2 hxy
    subst this
    exact va_nd_inj isC hndC i j i' e1 e2
  exact ⟨hPc, fun U hU hW => ⟨rfl, by rw [hU], by rw [hU]; exact hPc, hC.2.2.2.2.2.1.warm hW, hDc⟩⟩
set_option maxHeartbeats 1000000 in
theorem a_callV (pc' : Nat) (Xs pl : va_W) (isC isR : List Nat) (q0 ci : Nat) {T : u_T} {N : Nat} {fs : List Value} (As rest : List Value) (hC : Ok X R0 cc nL own ret0) (hM : Ct X.1.2.1 X.2.2.2.1 X.2.2.2.2 y bytes maxL ret rm (.ref b :: As) w0 Po) (cw : Cw R0 own index y bytes maxL ret nA rm)
    (h2 : Cond.instanceMethod y ∈ wB) (h3 : Cond.selects C y y ∈ wB) (hn : As.length = nA) (hst : st0 = As.reverse ++ .ref b :: rest) (hcat : (rest.map fun v => v.category).sum ≤ 8) (hdec : decode cc pc = .ok (.invokevirtual index, 3)) (hp : pc + 3 = pc') (hf : k + rm.cells ≤ R0.cells ∧ n + rm.slots ≤ R0.slots)
    (hws : ws = Xs ++ pl) (hiC : isC.map (fun i => Xs[i]?) = w0.map some) (hndC : va_nd isC = true) (hiR : isR.map (fun i => Xs[i]?) = (q_pick Xs isR).map some) (hnd : va_nd isR = true) (hdis : ∀ i ∈ isR, i ∉ isC) (he : w0[q0]? = some (b, .inr (ci, fs))) (hcl : vwCl[ci]? = some (C, T, N))
    (kk : ∀ (r : Option Value) (w1 : va_W), Po r w1 → At X (k + rm.cells) (n + rm.slots) pc' ((q_pick Xs isR ++ w1) ++ pl) lv (r.toList ++ rest)) : At X k n pc ws lv st0 := by
  intro H locs ls hP hD hS hl
  obtain ⟨hPc, hPre⟩ := a_pre (locs := locs) Xs pl isC hC hP hD hws hiC hndC (av := .ref b :: As)
  refine a_after pc' Xs pl isC isR hC hP hD hS hl hws hiC hiR hnd hdis hp (va_runV (As := As) (rest := rest) ⟨hC.1, hC.2.1, hC.2.2.1, hC.2.2.2.1, hC.2.2.2.2.1⟩ (hM H.size) ⟨cw.callB hC, hC.2.2.2.2.1 _ h2, hC.2.2.2.2.1 _ h3⟩ ⟨q_blind, va_recv hC.2.2.2.2.2.1.1 hPc hcl he, hPre⟩ rfl hn (by rw [← hC.2.2.1]; exact hl.1) hst (by show 2 * 0 + _ ≤ 8; omega) hdec (by rw [hC.2.2.2.2.2.2.2.2.2]; exact hf)) kk
set_option maxHeartbeats 1000000 in
theorem a_callS (pc' : Nat) (Xs pl : va_W) (isC isR : List Nat) (As rest : List Value) (hC : Ok X R0 cc nL own ret0) (hM : Ct X.1.2.1 X.2.2.2.1 X.2.2.2.2 y bytes maxL ret rm As w0 Po) (cw : Cw R0 own index y bytes maxL ret nA rm)
    (h2 : Cond.static y ∈ wB) (hn : As.length = nA) (hst : st0 = As.reverse ++ rest) (hcat : (rest.map fun v => v.category).sum ≤ 8) (hdec : decode cc pc = .ok (.invokestatic index, 3)) (hp : pc + 3 = pc') (hf : k + rm.cells ≤ R0.cells ∧ n + rm.slots ≤ R0.slots)
    (hws : ws = Xs ++ pl) (hiC : isC.map (fun i => Xs[i]?) = w0.map some) (hndC : va_nd isC = true) (hiR : isR.map (fun i => Xs[i]?) = (q_pick Xs isR).map some) (hnd : va_nd isR = true) (hdis : ∀ i ∈ isR, i ∉ isC)
    (kk : ∀ (r : Option Value) (w1 : va_W), Po r w1 → At X (k + rm.cells) (n + rm.slots) pc' ((q_pick Xs isR ++ w1) ++ pl) lv (r.toList ++ rest)) : At X k n pc ws lv st0 := by
  intro H locs ls hP hD hS hl
  obtain ⟨hPc, hPre⟩ := a_pre (locs := locs) Xs pl isC hC hP hD hws hiC hndC (av := As)
  refine a_after pc' Xs pl isC isR hC hP hD hS hl hws hiC hiR hnd hdis hp (va_runS (As := As) (rest := rest) ⟨hC.1, hC.2.1, hC.2.2.1, hC.2.2.2.1, hC.2.2.2.2.1⟩ (hM H.size) ⟨cw.callB hC, hC.2.2.2.2.1 _ h2⟩ ⟨q_blind, hPre⟩ rfl hn (by rw [← hC.2.2.1]; exact hl.1) hst (by show 2 * 0 + _ ≤ 8; omega) hdec (by rw [hC.2.2.2.2.2.2.2.2.2]; exact hf)) kk
/-- a static call that has no cells and makes none -/
theorem a_call0 (pc' : Nat) (As rest : List Value) (r0 : Value) (hC : Ok X R0 cc nL own ret0) (hM : Ct X.1.2.1 X.2.2.2.1 X.2.2.2.2 y bytes maxL ret rm As [] (fun r w => r = some r0 ∧ w = [])) (cw : Cw R0 own index y bytes maxL ret nA rm)
    (h2 : Cond.static y ∈ wB) (hn : As.length = nA) (hst : st0 = As.reverse ++ rest) (hcat : (rest.map fun v => v.category).sum ≤ 8) (hdec : decode cc pc = .ok (.invokestatic index, 3)) (hp : pc + 3 = pc') (hm0 : rm.cells = 0) (hs0 : rm.slots = 0) (hf : k ≤ R0.cells ∧ n ≤ R0.slots)
    (kk : At X k n pc' ws lv (r0 :: rest)) : At X k n pc ws lv st0 := by
  refine a_callS pc' [] ws [] [] As rest hC hM cw h2 hn hst hcat hdec hp (by rw [hm0, hs0]; exact hf) rfl rfl rfl rfl rfl (fun _ h => by cases h) (fun r w1 hpo => ?_)
  obtain ⟨rfl, rfl⟩ := hpo
  rw [hm0, hs0]
  exact kk
/-- a virtual call whose end is known, cells for cells -/
theorem a_callVd (pc' : Nat) (Xs pl : va_W) (isC isR isP : List Nat) (X' ws' : va_W) (q0 ci : Nat) {T : u_T} {N : Nat} {fs : List Value} (As rest : List Value) (r0 : Option Value) (w1 : va_W) (st' : List Value) (hC : Ok X R0 cc nL own ret0) (hM : Ct X.1.2.1 X.2.2.2.1 X.2.2.2.2 y bytes maxL ret rm (.ref b :: As) w0 (fun r w => r = r0 ∧ w = w1)) (cw : Cw R0 own index y bytes maxL ret nA rm)
    (h2 : Cond.instanceMethod y ∈ wB) (h3 : Cond.selects C y y ∈ wB) (hn : As.length = nA) (hst : st0 = As.reverse ++ .ref b :: rest) (hcat : (rest.map fun v => v.category).sum ≤ 8) (hdec : decode cc pc = .ok (.invokevirtual index, 3)) (hp : pc + 3 = pc') (hm0 : rm.cells = 0) (hs0 : rm.slots = 0) (hf : k ≤ R0.cells ∧ n ≤ R0.slots)
    (hws : ws = Xs ++ pl) (hiC : isC.map (fun i => Xs[i]?) = w0.map some) (hndC : va_nd isC = true) (hiR : isR.map (fun i => Xs[i]?) = (q_pick Xs isR).map some) (hnd : va_nd isR = true) (hdis : ∀ i ∈ isR, i ∉ isC) (he : w0[q0]? = some (b, .inr (ci, fs))) (hcl : vwCl[ci]? = some (C, T, N))
    (hiP : isP.map (fun i => (q_pick Xs isR ++ w1)[i]?) = X'.map some) (hndP : va_nd isP = true) (hws' : X' ++ pl = ws') (hst' : r0.toList ++ rest = st')
    (kk : At X k n pc' ws' lv st') : At X k n pc ws lv st0 := by
  refine a_callV pc' Xs pl isC isR q0 ci As rest hC hM cw h2 h3 hn hst hcat hdec hp (by rw [hm0, hs0]; exact hf) hws hiC hndC hiR hnd hdis he hcl (fun r w hpo => ?_)
  obtain ⟨rfl, rfl⟩ := hpo
  rw [hm0, hs0]
  subst hst'
  subst hws'
  exact fun H locs ls hP hD hS hl => kk H locs ls (hP.part isP hiP) (hD.part isP hndP hiP) hS hl
/-- the same, where the callee has all the caller's cells -/
theorem a_callVs (pc' : Nat) (ws' : va_W) (q0 ci : Nat) {T : u_T} {N : Nat} {fs : List Value} (As rest : List Value) (r0 : Option Value) (st' : List Value) (hC : Ok X R0 cc nL own ret0) (hM : Ct X.1.2.1 X.2.2.2.1 X.2.2.2.2 y bytes maxL ret rm (.ref b :: As) ws (fun r w => r = r0 ∧ w = ws')) (cw : Cw R0 own index y bytes maxL ret nA rm)
    (h2 : Cond.instanceMethod y ∈ wB) (h3 : Cond.selects C y y ∈ wB) (hn : As.length = nA) (hst : st0 = As.reverse ++ .ref b :: rest) (hcat : (rest.map fun v => v.category).sum ≤ 8) (hdec : decode cc pc = .ok (.invokevirtual index, 3)) (hp : pc + 3 = pc') (hm0 : rm.cells = 0) (hs0 : rm.slots = 0) (hf : k ≤ R0.cells ∧ n ≤ R0.slots)
    (he : ws[q0]? = some (b, .inr (ci, fs))) (hcl : vwCl[ci]? = some (C, T, N)) (hst' : r0.toList ++ rest = st')
    (kk : At X k n pc' ws' lv st') : At X k n pc ws lv st0 := by
  intro H locs ls hP hD hS hl
  have hF : ∀ q, va_A ws H.size q → X.2.2.1.2.2.1 q := by
    intro q h
    rcases h with ⟨k', e', h⟩ | h
    · exact hD.2 k' (q, e') h
    · exact hC.2.2.2.2.2.2.1 q (Nat.le_trans hS.1 h)
  have hPre : ∀ U : State, U.heap = H → X.2.1.1.WarmedH U.vm → qP X.2.2.2.1 X.2.2.2.2 (.ref b :: As) ws H.size (Value.ref b :: As).toArray U := fun U hU hW => ⟨rfl, by rw [hU], by rw [hU]; exact hP, hC.2.2.2.2.2.1.warm hW, hD.1, fun _ _ _ => trivial⟩
  have hr := va_runV (As := As) (rest := rest) (cells := k) (slots := n) (locs := locs) (p := X.1.1) (e := X.1.2.2.1) (below := X.2.1.2.2.2) (meth := X.2.2.1.1) (g := F0 X.2.1.2.1 pc ls st0) ⟨hC.1, hC.2.1, hC.2.2.1, hC.2.2.2.1, hC.2.2.2.2.1⟩ (hM H.size) ⟨cw.callB hC, hC.2.2.2.2.1 _ h2, hC.2.2.2.2.1 _ h3⟩ ⟨q_blind, va_recv hC.2.2.2.2.2.1.1 hP hcl he, hPre⟩ rfl hn (by rw [← hC.2.2.1]; exact hl.1) hst (by show 2 * 0 + _ ≤ 8; omega) hdec (by rw [hC.2.2.2.2.2.2.2.2.2, hm0, hs0]; exact hf)
  refine w_back hr hS hF (fun r w1 H1 locs1 hp1 hP1 hD1 hz1 hk1 hS1 => ?_)
  obtain ⟨rfl, rfl⟩ := hp1
  rw [hm0, hs0]
  subst hst'
  subst hp
  exact kk H1 locs1 ls hP1 (hD1.weaken (fun k q _ h => hF q.1 h)) hS1 hl
end QC
/-! loops, choices, names in pure functions -/
def lp {σ ρ : Type} (body : σ → Option (σ ⊕ ρ)) (n : Nat) : σ → Option ρ := Nat.rec (fun _ => none) (fun _ ih x => (body x).bind (fun o => Sum.elim ih some o)) n
theorem lp_succ {σ ρ : Type} (body : σ → Option (σ ⊕ ρ)) (n : Nat) (x : σ) : lp body (n + 1) x = (body x).bind (fun o => Sum.elim (lp body n) some o) := rfl
theorem lp_zero {σ ρ : Type} (body : σ → Option (σ ⊕ ρ)) (x : σ) : lp body 0 x = none := rfl
theorem bd {α β : Type} {x : Option α} {f : α → Option β} {r : β} (h : x.bind f = some r) : ∃ a, x = some a ∧ f a = some r := Option.bind_eq_some_iff.mp h
theorem lp_walk {σ ρ : Type} {body : σ → Option (σ ⊕ ρ)} {Wh : σ → Prop} {We : ρ → Prop} (step : ∀ x o, body x = some o → Sum.elim Wh We o → Wh x) : ∀ (n : Nat) (x : σ) (r : ρ), lp body n x = some r → We r → Wh x := by
  intro n
  induction n with
  | zero => intro x r h; cases h
  | succ n ih =>
    intro x r h hr
    obtain ⟨o, h1, h2⟩ := bd h
    cases o with
    | inl x' => exact step x _ h1 (ih x' r h2 hr)
    | inr r' =>
      have : r' = r := Option.some.inj h2
      subst this
      exact step x _ h1 hr
def nm {α β : Type} (e : α) (f : α → Option β) : Option β := f e
theorem nmx {α β : Type} {e : α} {f : α → Option β} {r : β} (h : nm e f = some r) : ∃ x, x = e ∧ f x = some r := ⟨e, rfl, h⟩
theorem ifp {α : Type} {c : Prop} [Decidable c] {x y : Option α} {r : α} (hc : c) (h : (if c then x else y) = some r) : x = some r := by rw [if_pos hc] at h; exact h
theorem ifn {α : Type} {c : Prop} [Decidable c] {x y : Option α} {r : α} (hc : ¬ c) (h : (if c then x else y) = some r) : y = some r := by rw [if_neg hc] at h; exact h
/-- a place of an array: out of it nothing is answered -/
def gd {α : Type} (i : Int32) (n : Nat) (f : Option α) : Option α := if i < 0 ∨ n ≤ i.toNatClampNeg then none else f
theorem gdx {α : Type} {i : Int32} {n : Nat} {f : Option α} {r : α} (h : gd i n f = some r) : vp_in i n ∧ f = some r := by
  unfold gd at h
  by_cases hc : i < 0 ∨ n ≤ i.toNatClampNeg
  · rw [if_pos hc] at h; cases h
  · rw [if_neg hc] at h; exact ⟨hc, h⟩
def dv {α : Type} (y : Int32) (f : Option α) : Option α := if y = 0 then none else f
theorem dvx {α : Type} {y : Int32} {f : Option α} {r : α} (h : dv y f = some r) : ¬ y = 0 ∧ f = some r := by
  unfold dv at h
  by_cases hc : y = 0
  · rw [if_pos hc] at h; cases h
  · rw [if_neg hc] at h; exact ⟨hc, h⟩
