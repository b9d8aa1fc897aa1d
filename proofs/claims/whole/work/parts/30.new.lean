/-! making objects and arrays, constructors' calls, answers that are references -/
section QE
variable {X : qX} {R0 : Room} {cc : ByteArray} {nL : Nat} {own : String} {ret : Option FieldType} {k n pc : Nat} {ws : va_W} {lv : List (Nat × Value)} {st : List Value}
theorem a_ws (ws' : va_W) (h : ws = ws') (kk : At X k n pc ws' lv st) : At X k n pc ws lv st := by subst h; exact kk
theorem a_kn (k' n' : Nat) (h1 : k = k') (h2 : n = n') (kk : At X k' n' pc ws lv st) : At X k n pc ws lv st := by subst h1; subst h2; exact kk
theorem a_st (st' : List Value) (h : st = st') (kk : At X k n pc ws lv st') : At X k n pc ws lv st := by subst h; exact kk
theorem a_new (pc' ci : Nat) (fs : List Value) {C : String} {T : u_T} {N index : Nat} (ty0 : Nat → FieldType) (hC : Ok X R0 cc nL own ret) (hin : ∀ w ∈ u_ws C T N, w ∈ wB) (hty : ∀ k, k < N → parseFieldDescriptor (T k).2.2.1 = some (ty0 k)) (h1 : Cond.classLink own index C ∈ wB) (h2 : Cond.instantiable C N ∈ wB) (h3 : Cond.initialized C ∈ wB) (hc : vwCl[ci]? = some (C, T, N)) (hfs : ∀ j, j < N → defaultValue (ty0 j) = vp_V fs j) (hk : k + 1 ≤ R0.cells) (hn : n + N ≤ R0.slots) (hd : decode cc pc = .ok (.new index, 3)) (hp : pc + 3 = pc') (kk : ∀ q : Nat, At X (k + 1) (n + N) pc' (ws ++ [(q, .inr (ci, fs))]) lv (.ref q :: st)) : At X k n pc ws lv st := fun H locs ls hP hD hS hl => va_new hC.1 hC.2.1 hC.2.2.2.2.1 hin ty0 hty hC.2.2.2.1 (hC.2.2.2.2.1 _ h1) (hC.2.2.2.2.1 _ h2) (hC.2.2.2.2.1 _ h3) hC.2.2.2.2.2.1.1 hP hD hS hC.2.2.2.2.2.2.1 hc hfs (by rw [hC.2.2.2.2.2.2.2.2.2]; exact hk) (by rw [hC.2.2.2.2.2.2.2.2.2]; exact hn) hd (fun q H1 hP1 hD1 hS1 => by subst hp; exact kk q H1 locs ls hP1 hD1 hS1 hl)
theorem a_newi (pc' N : Nat) {v : Int32} (hC : Ok X R0 cc nL own ret) (h1 : Cond.arrayClass .int ∈ wB) (h0 : ¬ v < 0) (hN : v.toNatClampNeg = N) (hb : N * 4 ≤ 536870912) (hk : k + 1 ≤ R0.cells) (hn : n + N ≤ R0.slots) (hd : decode cc pc = .ok (.newarray .int, 2)) (hp : pc + 2 = pc') (kk : ∀ q : Nat, At X (k + 1) (n + N) pc' (ws ++ [(q, .inl (X.2.2.2.2.1, N, .inl (fun _ => 0)))]) lv (.ref q :: st)) : At X k n pc ws lv (.int v :: st) := fun H locs ls hP hD hS hl => va_newa (atype := .int) hC.1 hC.2.1 (hC.2.2.2.2.1 _ h1) rfl hC.2.2.2.2.2.1.1 hP hD hS hC.2.2.2.2.2.2.1 (a0 := (N, .inl (fun _ => 0))) (fun cA => rfl) h0 hN hb (by rw [hC.2.2.2.2.2.2.2.2.2]; exact hk) (by rw [hC.2.2.2.2.2.2.2.2.2]; exact hn) hd (fun q cA H1 hK1 hP1 hD1 hS1 => by
    have e1 : X.2.1.1.vm.findClass ("[" ++ FieldType.int.toString) = some cA := (hK1.2 3 (cA, .int) rfl).2
    have e2 : X.2.1.1.vm.findClass ("[" ++ FieldType.int.toString) = some X.2.2.2.2.1 := (hC.2.2.2.2.2.1.1.2 0 (X.2.2.2.2.1, .int) rfl).2
    obtain rfl := Option.some.inj (e2.symm.trans e1)
    subst hp
    exact kk q H1 locs ls hP1 hD1 hS1 hl)
theorem a_newz (pc' N : Nat) {v : Int32} (hC : Ok X R0 cc nL own ret) (h1 : Cond.arrayClass .boolean ∈ wB) (h0 : ¬ v < 0) (hN : v.toNatClampNeg = N) (hb : N * 1 ≤ 536870912) (hk : k + 1 ≤ R0.cells) (hn : n + N ≤ R0.slots) (hd : decode cc pc = .ok (.newarray .boolean, 2)) (hp : pc + 2 = pc') (kk : ∀ q : Nat, At X (k + 1) (n + N) pc' (ws ++ [(q, .inl (X.2.2.2.2.2.1, N, .inl (fun _ => 0)))]) lv (.ref q :: st)) : At X k n pc ws lv (.int v :: st) := fun H locs ls hP hD hS hl => va_newa (atype := .boolean) hC.1 hC.2.1 (hC.2.2.2.2.1 _ h1) rfl hC.2.2.2.2.2.1.1 hP hD hS hC.2.2.2.2.2.2.1 (a0 := (N, .inl (fun _ => 0))) (fun cA => rfl) h0 hN hb (by rw [hC.2.2.2.2.2.2.2.2.2]; exact hk) (by rw [hC.2.2.2.2.2.2.2.2.2]; exact hn) hd (fun q cA H1 hK1 hP1 hD1 hS1 => by
    have e1 : X.2.1.1.vm.findClass ("[" ++ FieldType.boolean.toString) = some cA := (hK1.2 3 (cA, .boolean) rfl).2
    have e2 : X.2.1.1.vm.findClass ("[" ++ FieldType.boolean.toString) = some X.2.2.2.2.2.1 := (hC.2.2.2.2.2.1.1.2 1 (X.2.2.2.2.2.1, .boolean) rfl).2
    obtain rfl := Option.some.inj (e2.symm.trans e1)
    subst hp
    exact kk q H1 locs ls hP1 hD1 hS1 hl)
theorem a_newq (pc' N : Nat) {index : Nat} {v : Int32} (hC : Ok X R0 cc nL own ret) (h1 : Cond.classLink own index "FrameClocks$State" ∈ wB) (h0 : ¬ v < 0) (hN : v.toNatClampNeg = N) (hb : N * 4 ≤ 536870912) (hk : k + 1 ≤ R0.cells) (hn : n + N ≤ R0.slots) (hd : decode cc pc = .ok (.anewarray index, 3)) (hp : pc + 3 = pc') (kk : ∀ q : Nat, At X (k + 1) (n + N) pc' (ws ++ [(q, .inl (X.2.2.2.2.2.2, N, .inr (.inr (.inr (.inr (fun _ => none))))))]) lv (.ref q :: st)) : At X k n pc ws lv (.int v :: st) := fun H locs ls hP hD hS hl => va_newq hC.1 hC.2.1 hC.2.2.2.1 (hC.2.2.2.2.1 _ h1) hC.2.2.2.2.2.1.2.1 hC.2.2.2.2.2.1.1 hP hD hS hC.2.2.2.2.2.2.1 h0 hN hb (by rw [hC.2.2.2.2.2.2.2.2.2]; exact hk) (by rw [hC.2.2.2.2.2.2.2.2.2]; exact hn) hd (fun q cA H1 hK1 hP1 hD1 hS1 => by
    obtain ⟨kA, comp, -, -, -, e1⟩ := (hK1.2 3 (cA, .object "FrameClocks$State") rfl).2
    obtain ⟨kA', comp', -, -, -, e2⟩ := (hC.2.2.2.2.2.1.1.2 2 (X.2.2.2.2.2.2, .object "FrameClocks$State") rfl).2
    obtain rfl := Option.some.inj (e2.symm.trans e1)
    subst hp
    exact kk q H1 locs ls hP1 hD1 hS1 hl)
theorem a_aret {mc ms : Nat} {Po : Option Value → va_W → Prop} {v : Value} {rn : String} (hC : Ok X R0 cc nL own (some (.object rn))) (hR : Rt X mc ms Po) (hq : Po (some v) ws) (hv : v = .null ∨ ∃ a, v = .ref a) (hk : k ≤ mc) (hn : n ≤ ms) (hd : decode cc pc = .ok (.areturn, 1)) : At X k n pc ws lv [v] := by
  intro H locs ls hP hD hS hl
  refine W.widen hk hn ?_
  rw [hR]
  exact W.aret hC.1 hC.2.1 hC.2.2.2.2.2.2.2.1 (Or.inl ⟨rn, rfl⟩) hv (fun t ht hW => ⟨_, ws, rfl, hq, by rw [ht]; exact hP, hD, hS.F ht⟩) hS.2.2 hd hC.2.2.2.2.2.2.2.2.1
variable {y : MethodName} {bytes : ByteArray} {maxL nA index : Nat} {rm : Room} {w0 : va_W} {Po : Option Value → va_W → Prop} {b : Nat} {host : String} {st0 : List Value}
set_option maxHeartbeats 1000000 in
/-- a private constructor of a nest mate, without arguments -/
theorem a_callIN (pc' : Nat) (Xs pl : va_W) (isC isR : List Nat) (hC : Ok X R0 cc nL own ret) (hM : Ct X.1.2.1 X.2.2.2.1 X.2.2.2.2 y bytes maxL none rm [.ref b] w0 Po) (hnest : va_Nw (.methodLinkNest own index y host) X.2.1.1)
    (h2 : Cond.instanceMethod y ∈ wB) (h4 : Cond.initialized y.cls ∈ wB) (h5 : Cond.code y bytes maxL none ∈ wB) (hy : y.name = "<init>") (hds : y.cls ≠ "java/lang/invoke/MethodHandle" ∧ y.cls ≠ "java/lang/invoke/VarHandle" ∧ (parseMethodDescriptor y.desc).map (fun d => d.parameters.length) = some 0) (hroom : rm.frames + 1 ≤ R0.frames ∧ 8 + (maxL + 11) + rm.locals ≤ R0.locals)
    (hcat : (st.map fun v => v.category).sum ≤ 8) (hdec : decode cc pc = .ok (.invokespecial index, 3)) (hp : pc + 3 = pc') (hf : k + rm.cells ≤ R0.cells ∧ n + rm.slots ≤ R0.slots)
    (hws : ws = Xs ++ pl) (hiC : isC.map (fun i => Xs[i]?) = w0.map some) (hndC : va_nd isC = true) (hiR : isR.map (fun i => Xs[i]?) = (q_pick Xs isR).map some) (hnd : va_nd isR = true) (hdis : ∀ i ∈ isR, i ∉ isC)
    (kk : ∀ (r : Option Value) (w1 : va_W), Po r w1 → At X (k + rm.cells) (n + rm.slots) pc' ((q_pick Xs isR ++ w1) ++ pl) lv (r.toList ++ st)) : At X k n pc ws lv (.ref b :: st) := by
  intro H locs ls hP hD hS hl
  obtain ⟨hPc, hPre⟩ := a_pre (locs := locs) Xs pl isC hC hP hD hws hiC hndC (av := [.ref b])
  refine a_after pc' Xs pl isC isR hC hP hD hS hl hws hiC hiR hnd hdis hp (va_runIN (As := []) (rest := st) ⟨hC.1, hC.2.1, hC.2.2.1, hC.2.2.2.1, hC.2.2.2.2.1⟩ (hM H.size) ⟨va_cnB 0 hC.2.2.2.2.1 (wB_code h5) rfl rfl rfl hnest (hC.2.2.2.2.1 _ h4) hds (by rw [hC.2.2.2.2.2.2.2.2.2]; exact hroom), hy, hC.2.2.2.2.1 _ h2⟩ ⟨q_blind, hPre⟩ rfl rfl (by rw [← hC.2.2.1]; exact hl.1) rfl (by show 2 * 0 + _ ≤ 8; omega) hdec (by rw [hC.2.2.2.2.2.2.2.2.2]; exact hf)) kk
set_option maxHeartbeats 1000000 in
/-- a constructor that all may call, without arguments -/
theorem a_callI (pc' : Nat) (Xs pl : va_W) (isC isR : List Nat) (hC : Ok X R0 cc nL own ret) (hM : Ct X.1.2.1 X.2.2.2.1 X.2.2.2.2 y bytes maxL none rm [.ref b] w0 Po) (cw : Cw R0 own index y bytes maxL none 0 rm)
    (h2 : Cond.instanceMethod y ∈ wB) (hy : y.name = "<init>") (hcat : (st.map fun v => v.category).sum ≤ 8) (hdec : decode cc pc = .ok (.invokespecial index, 3)) (hp : pc + 3 = pc') (hf : k + rm.cells ≤ R0.cells ∧ n + rm.slots ≤ R0.slots)
    (hws : ws = Xs ++ pl) (hiC : isC.map (fun i => Xs[i]?) = w0.map some) (hndC : va_nd isC = true) (hiR : isR.map (fun i => Xs[i]?) = (q_pick Xs isR).map some) (hnd : va_nd isR = true) (hdis : ∀ i ∈ isR, i ∉ isC)
    (kk : ∀ (r : Option Value) (w1 : va_W), Po r w1 → At X (k + rm.cells) (n + rm.slots) pc' ((q_pick Xs isR ++ w1) ++ pl) lv (r.toList ++ st)) : At X k n pc ws lv (.ref b :: st) := by
  intro H locs ls hP hD hS hl
  obtain ⟨hPc, hPre⟩ := a_pre (locs := locs) Xs pl isC hC hP hD hws hiC hndC (av := [.ref b])
  refine a_after pc' Xs pl isC isR hC hP hD hS hl hws hiC hiR hnd hdis hp (va_runI (As := []) (rest := st) ⟨hC.1, hC.2.1, hC.2.2.1, hC.2.2.2.1, hC.2.2.2.2.1⟩ (hM H.size) ⟨cw.callB hC, hy, hC.2.2.2.2.1 _ h2⟩ ⟨q_blind, hPre⟩ rfl rfl (by rw [← hC.2.2.1]; exact hl.1) rfl (by show 2 * 0 + _ ≤ 8; omega) hdec (by rw [hC.2.2.2.2.2.2.2.2.2]; exact hf)) kk
/-- the cells in another order -/
theorem va_D_iff {A : Nat → Prop} {ws : va_W} : va_D A ws ↔ (ws.map Prod.fst).Nodup ∧ ∀ q ∈ ws, A q.1 := by
  constructor
  · intro h
    refine ⟨?_, fun q hq => ?_⟩
    · rw [List.nodup_iff_pairwise_ne, List.pairwise_map]
      rw [List.pairwise_iff_getElem]
      intro i j hi hj hij e
      have := h.1 i j ws[i] ws[j] (List.getElem?_eq_getElem hi) (List.getElem?_eq_getElem hj) e
      omega
    · obtain ⟨i, hi⟩ := List.getElem?_of_mem hq
      exact h.2 i q hi
  · intro ⟨h1, h2⟩
    refine ⟨fun i j x y hx hy hxy => ?_, fun i q hq => h2 q (List.mem_of_getElem? hq)⟩
    rw [List.nodup_iff_pairwise_ne, List.pairwise_map, List.pairwise_iff_getElem] at h1
    obtain ⟨hi, ei⟩ := List.getElem?_eq_some_iff.mp hx
    obtain ⟨hj, ej⟩ := List.getElem?_eq_some_iff.mp hy
    rcases Nat.lt_trichotomy i j with h | h | h
    · exact absurd (by rw [ei, ej]; exact hxy) (h1 i j hi hj h)
    · exact h
    · exact absurd (by rw [ei, ej]; exact hxy.symm) (h1 j i hj hi h)
theorem a_perm (ws' : va_W) (h : ws.Perm ws') (kk : At X k n pc ws' lv st) : At X k n pc ws lv st := fun H locs ls hP hD hS hl => kk H locs ls (fun i q hq => by
    obtain ⟨j, hj⟩ := List.getElem?_of_mem (h.mem_iff.mpr (List.mem_of_getElem? hq))
    exact hP j q hj) (by
    rw [va_D_iff] at hD ⊢
    exact ⟨(h.map Prod.fst).nodup_iff.mp hD.1, fun q hq => hD.2 q (h.mem_iff.mpr hq)⟩) hS hl
end QE
