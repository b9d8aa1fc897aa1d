/-! THE CLAIM OUT OF ONE WALK OF THE LAW'S BODY. Your part is whole_start (and what it stands on); all else here is the same for every law, but numbers. -/
def R_law : String := "FrameClocksLaw"
def lw_P (b : Addr) (xs : List Int32) (args : Array Value) (s : State) : Prop := args = #[.ref b] ∧ s.IntsAt b xs ∧ xs.length ≤ 2560 ∧ (Jvm.Cond.and given_1 narrow_1).before args s = true
def lw_Q (_ : Array Value) (s : State) (o : Outcome) (t : State) : Prop := o = .returned (some (.int 1)) ∧ Framed s o t [] 600000 7302250
def lw_Z (below : List Frame) (a : Array Value) (s : State) : State → Prop := fun t => ∃ o, t.status = .running ∧ Ended t below o ∧ lw_Q a s o t
/-- the law's own end, with 1 on the stack, nothing written that was there before, its room as the claim has it -/
theorem lw_ret {p : Program} {l : Launch} {e : Env} {s : State} {m : MethodId} {below : List Frame} {meth : Method} {c : Code} {b : Nat} (hx : p.tables.exec = Jvm.exec) (hb : c.code = code) (hr : meth.sig.returnType = ret) (hlocks : meth.locks = false) {pc : Nat} {H : Heap} {ls : Array Slot} (hdg : decode code pc = .ok (.ireturn, 1)) : W p l e room_1 s m #[Value.ref b] below meth c H [] 600000 7302250 (lw_Z below #[Value.ref b] s) (F0 m pc ls [.int 1]) := by
  intro T hT X
  obtain ⟨fs, hret, hrun, hended, hW, hframe⟩ := X.leave (v := some (.int 1)) (hlocks := hlocks) (fun h => by rw [hr] at h; cases h)
  have hmeth' : T.vm.method? m = some meth := X.method'
  refine ⟨T.setFrames fs, ?_, .returned (some (.int 1)), hrun, hended, rfl, ⟨_, rfl⟩, hW, hframe⟩
  jvm_step X.here [X.here.top, hx, hb, hdg, hmeth', hr, ret, narrow_b1]
  (try refine ⟨rfl, ?_⟩); (try refine ⟨rfl, ?_⟩)
  first | (intro acts; rw [hret _ acts rfl rfl rfl]) | rw [hret _ _ rfl rfl rfl]
  exact Steps.refl _
/-- what holds at the law's entry: the machine, the code, the tables' words (any of lw_tbl by 'hts w (by decide +kernel)'), the script of L ints xs at the cell b, what the Statement gives of the start (any of its parts by flat_of_before) -/
def lw_At (p : Program) (s : State) (m : MethodId) (meth : Method) (c : Code) (b L : Nat) (xs : Nat → Int32) : Prop :=
  p.tables.exec = Jvm.exec ∧ c.code = code ∧ meth.sig.returnType = ret ∧ c.maxLocals = 4 ∧ s.vm.findClass R_law = some m.cls ∧ (∀ w ∈ lw_tbl, w.before #[Value.ref b] s = true) ∧ va_X b L xs s s.heap ∧ b < s.heap.size ∧ meth.locks = false ∧ (Jvm.Cond.and given_1 narrow_1).before #[Value.ref b] s = true
set_option maxRecDepth 100000 in
set_option maxHeartbeats 4000000 in
theorem law_loop {X : qX} {b L : Nat} {xs : Nat → Int32} {Rel : Nat → FV → MV → Prop} (hsim : Sim Rel) (hmono : ∀ t σ μ, Rel t σ μ → Rel (t + 1) σ μ) (hL : L ≤ 2560) (hC : Ok X room_1 cL_law 4 RL (some .boolean)) (hX : va_X b L xs X.2.1.1 X.2.1.1.heap) (hbl : b < X.2.1.1.heap.size) (hbA : ¬ X.2.2.1.2.2.1 b) (hQ : ∀ (k n : Nat) (ws : va_W) (lv : List (Nat × Value)), k ≤ 600000 → n ≤ 7302250 → At X k n 807 ws lv [.int 1]) (fa a ma : Nat → Nat) :
    ∀ (d t : Nat), 5 * t ≤ L → L + 1 ≤ 5 * t + d → ∀ (σ : FV) (μ : MV) (P Im : Nat → Option ((Nat → Nat) × SV)), Rel t σ μ → pv P = σ.2.2.2.1 → pv Im = σ.2.2.2.2.1 → ∀ x3 : Int32, x3 = nI (5 * t) → At X (24 + 10 * t) (1160 + 57 * t) 18 (fcV X.2.2.2.2 fa a σ P Im ++ poW X.2.2.2.2 P Im ++ mdV X.2.2.2.2 ma μ) [(0, .ref b), (1, .ref (fa 0)), (2, .ref (ma 0)), (3, .int x3)] [] := by
  intro d
  induction d with
  | zero => intro t h1 h2; omega
  | succ d ih =>
    intro t h1 h2 σ μ P Im hrel hPv hIv x3 ex3
    have hkb : 24 + 10 * t + 10 ≤ 600000 := by omega
    have hnb : 1160 + 57 * t + 57 ≤ 7302250 := by omega
    refine a_iload_n 19 3 hC dL_law_18 rfl rfl rfl ?_
    refine a_aload_n 20 0 hC dL_law_19 rfl rfl rfl ?_
    refine a_slen 21 hC hX hbl hbA dL_law_20 rfl ?_
    refine a_iconst 22 (v := (5 : Int32)) hC dL_law_21 rfl (by decide) ?_
    refine a_isub 23 hC dL_law_22 rfl ?_
    refine a_icmp_gt 806 26 hC dL_law_23 (by decide) rfl (fun c1 => ?_) (fun c1 => ?_)
    · refine a_iconst 807 (v := (1 : Int32)) hC dL_law_806 rfl (by decide) ?_
      exact hQ _ _ _ _ (by omega) (by omega)
    · have h5 : 5 * t + 5 ≤ L := by
        have e1 : (nI L - 5).toInt = (L : Int) - 5 := pk_sub_toInt (b := 5) (by omega) (by omega)
        have e2 : x3.toInt = (5 * t : Nat) := by rw [ex3]; exact nI_toInt (by omega)
        have e3 : ¬ (nI L - 5).toInt < x3.toInt := fun q => c1 (Int32.lt_iff_toInt_lt.mpr q)
        rw [e1, e2] at e3
        omega
      have hin : ∀ j : Nat, j < 5 → vp_in (x3 + nI j) L := fun j hj => by rw [ex3, nI_add]; exact vp_in_nI (by omega) (by omega)
      have hin0 : vp_in x3 L := by rw [ex3]; exact vp_in_nI (by omega) (by omega)
      have back : ∀ (σ' : FV) (μ' : MV), Rel (t + 1) σ' μ' → ∀ P' Im' : Nat → Option ((Nat → Nat) × SV), pv P' = σ'.2.2.2.1 → pv Im' = σ'.2.2.2.2.1 → At X (24 + 10 * t + 10) (1160 + 57 * t + 57) 800 (fcV X.2.2.2.2 fa a σ' P' Im' ++ poW X.2.2.2.2 P' Im' ++ mdV X.2.2.2.2 ma μ') [(0, .ref b), (1, .ref (fa 0)), (2, .ref (ma 0)), (3, .int x3)] [] := by
        intro σ' μ' hr P' Im' hP' hI'
        refine a_iinc 803 3 [(0, .ref b), (1, .ref (fa 0)), (2, .ref (ma 0)), (3, .int (x3 + 5))] [1, 2, 3, 0] hC dL_law_800 rfl rfl (v := x3 + 5) rfl (by decide) rfl ?_
        refine a_goto 18 hC dL_law_803 (by decide) ?_
        refine a_kn (24 + 10 * (t + 1)) (1160 + 57 * (t + 1)) (by omega) (by omega) ?_
        exact ih (t + 1) (by omega) (by omega) σ' μ' P' Im' hr hP' hI' (x3 + 5) (by rw [ex3]; exact nI_add (5 * t) 5)
      refine a_aload_n 27 0 hC dL_law_26 rfl rfl rfl ?_
      refine a_iload_n 28 3 hC dL_law_27 rfl rfl rfl ?_
      refine a_sld 29 hC hX hbl hbA hin0 dL_law_28 rfl ?_
      refine a_bipush 31 (v := (31 : Int32)) hC dL_law_29 rfl (by decide) ?_
      refine a_iand 32 hC dL_law_31 rfl ?_
      obtain ⟨j, hj, ej⟩ := pk_andE (xs x3.toNatClampNeg) (m := 31) 5 (by decide)
      match j, hj, ej with
      | 0, _, ej =>
        refine a_tswI (v := (0 : Int32)) 152 hC dL_law_32 ej (by decide) (by decide) rfl (by decide) ?_
        obtain ⟨r, σ', μ', e1, e2, hr⟩ := hsim t (by omega) 0 (by decide) (xs (x3 + (1 : Int32)).toNatClampNeg) 0 0 0 σ μ hrel
        exact lo_rates hC hX hbl hbA fa a ma σ μ P Im hPv hIv x3 (hin 1 (by decide)) _ _ hkb hnb r σ' μ' e1 e2 (back σ' μ' hr)
      | 1, _, ej =>
        refine a_tswI (v := (1 : Int32)) 175 hC dL_law_32 ej (by decide) (by decide) rfl (by decide) ?_
        obtain ⟨r, σ', μ', e1, e2, hr⟩ := hsim t (by omega) 1 (by decide) (xs (x3 + (1 : Int32)).toNatClampNeg) 0 0 0 σ μ hrel
        exact lo_number hC hX hbl hbA fa a ma σ μ P Im hPv hIv x3 (hin 1 (by decide)) _ _ hkb hnb r σ' μ' e1 e2 (back σ' μ' hr)
      | 2, _, ej =>
        refine a_tswI (v := (2 : Int32)) 198 hC dL_law_32 ej (by decide) (by decide) rfl (by decide) ?_
        obtain ⟨r, σ', μ', e1, e2, hr⟩ := hsim t (by omega) 2 (by decide) (xs (x3 + (1 : Int32)).toNatClampNeg) 0 0 0 σ μ hrel
        exact lo_frame hC hX hbl hbA fa a ma σ μ P Im hPv hIv x3 (hin 1 (by decide)) _ _ hkb hnb r σ' μ' e1 e2 (back σ' μ' hr)
      | 3, _, ej =>
        refine a_tswI (v := (3 : Int32)) 221 hC dL_law_32 ej (by decide) (by decide) rfl (by decide) ?_
        obtain ⟨r, σ', μ', e1, e2, hr⟩ := hsim t (by omega) 3 (by decide) (xs (x3 + (1 : Int32)).toNatClampNeg) (xs (x3 + (2 : Int32)).toNatClampNeg) 0 0 σ μ hrel
        exact lo_dropped hC hX hbl hbA fa a ma σ μ P Im hPv hIv x3 (hin 1 (by decide)) (hin 2 (by decide)) _ _ hkb hnb r σ' μ' e1 e2 (back σ' μ' hr)
      | 4, _, ej =>
        refine a_tswI (v := (4 : Int32)) 254 hC dL_law_32 ej (by decide) (by decide) rfl (by decide) ?_
        obtain ⟨r, σ', μ', e1, e2, hr⟩ := hsim t (by omega) 4 (by decide) (xs (x3 + (1 : Int32)).toNatClampNeg) (xs (x3 + (2 : Int32)).toNatClampNeg) (xs (x3 + (3 : Int32)).toNatClampNeg) 0 σ μ hrel
        exact lo_lays hC hX hbl hbA fa a ma σ μ P Im hPv hIv x3 (hin 1 (by decide)) (hin 2 (by decide)) (hin 3 (by decide)) _ _ hkb hnb r σ' μ' e1 e2 (back σ' μ' hr)
      | 5, _, ej =>
        refine a_tswI (v := (5 : Int32)) 297 hC dL_law_32 ej (by decide) (by decide) rfl (by decide) ?_
        obtain ⟨r, σ', μ', e1, e2, hr⟩ := hsim t (by omega) 5 (by decide) (xs (x3 + (1 : Int32)).toNatClampNeg) 0 0 0 σ μ hrel
        exact lo_winds hC hX hbl hbA fa a ma σ μ P Im hPv hIv x3 (hin 1 (by decide)) _ _ hkb hnb r σ' μ' e1 e2 (back σ' μ' hr)
      | 6, _, ej =>
        refine a_tswI (v := (6 : Int32)) 320 hC dL_law_32 ej (by decide) (by decide) rfl (by decide) ?_
        obtain ⟨r, σ', μ', e1, e2, hr⟩ := hsim t (by omega) 6 (by decide) (xs (x3 + (1 : Int32)).toNatClampNeg) 0 0 0 σ μ hrel
        exact lo_bit hC hX hbl hbA fa a ma σ μ P Im hPv hIv x3 (hin 1 (by decide)) _ _ hkb hnb r σ' μ' e1 e2 (back σ' μ' hr)
      | 7, _, ej =>
        refine a_tswI (v := (7 : Int32)) 343 hC dL_law_32 ej (by decide) (by decide) rfl (by decide) ?_
        obtain ⟨r, σ', μ', e1, e2, hr⟩ := hsim t (by omega) 7 (by decide) (xs (x3 + (1 : Int32)).toNatClampNeg) (xs (x3 + (2 : Int32)).toNatClampNeg) (xs (x3 + (3 : Int32)).toNatClampNeg) (xs (x3 + (4 : Int32)).toNatClampNeg) σ μ hrel
        exact lo_plays hC hX hbl hbA fa a ma σ μ P Im hPv hIv x3 (hin 1 (by decide)) (hin 2 (by decide)) (hin 3 (by decide)) (hin 4 (by decide)) _ _ hkb hnb r σ' μ' e1 e2 (back σ' μ' hr)
      | 8, _, ej =>
        refine a_tswI (v := (8 : Int32)) 396 hC dL_law_32 ej (by decide) (by decide) rfl (by decide) ?_
        obtain ⟨r, σ', μ', e1, e2, hr⟩ := hsim t (by omega) 8 (by decide) (xs (x3 + (1 : Int32)).toNatClampNeg) 0 0 0 σ μ hrel
        exact lo_edge hC hX hbl hbA fa a ma σ μ P Im hPv hIv x3 (hin 1 (by decide)) _ _ hkb hnb r σ' μ' e1 e2 (back σ' μ' hr)
      | 9, _, ej =>
        refine a_tswI (v := (9 : Int32)) 419 hC dL_law_32 ej (by decide) (by decide) rfl (by decide) ?_
        obtain ⟨r, σ', μ', e1, e2, hr⟩ := hsim t (by omega) 9 (by decide) 0 0 0 0 σ μ hrel
        exact lo_begins hC hX hbl hbA fa a ma σ μ P Im hPv hIv x3 _ _ hkb hnb r σ' μ' e1 e2 (back σ' μ' hr)
      | 10, _, ej =>
        refine a_tswI (v := (10 : Int32)) 432 hC dL_law_32 ej (by decide) (by decide) rfl (by decide) ?_
        obtain ⟨r, σ', μ', e1, e2, hr⟩ := hsim t (by omega) 10 (by decide) (xs (x3 + (1 : Int32)).toNatClampNeg) 0 0 0 σ μ hrel
        exact lo_reader hC hX hbl hbA fa a ma σ μ P Im hPv hIv x3 (hin 1 (by decide)) _ _ hkb hnb r σ' μ' e1 e2 (back σ' μ' hr)
      | 11, _, ej =>
        refine a_tswI (v := (11 : Int32)) 455 hC dL_law_32 ej (by decide) (by decide) rfl (by decide) ?_
        obtain ⟨r, σ', μ', e1, e2, hr⟩ := hsim t (by omega) 11 (by decide) (xs (x3 + (1 : Int32)).toNatClampNeg) 0 0 0 σ μ hrel
        exact lo_reading hC hX hbl hbA fa a ma σ μ P Im hPv hIv x3 (hin 1 (by decide)) _ _ hkb hnb r σ' μ' e1 e2 (back σ' μ' hr)
      | 12, _, ej =>
        refine a_tswI (v := (12 : Int32)) 478 hC dL_law_32 ej (by decide) (by decide) rfl (by decide) ?_
        obtain ⟨r, σ', μ', e1, e2, hr⟩ := hsim t (by omega) 12 (by decide) 0 0 0 0 σ μ hrel
        exact lo_misses hC hX hbl hbA fa a ma σ μ P Im hPv hIv x3 _ _ hkb hnb r σ' μ' e1 e2 (back σ' μ' hr)
      | 13, _, ej =>
        refine a_tswI (v := (13 : Int32)) 491 hC dL_law_32 ej (by decide) (by decide) rfl (by decide) ?_
        obtain ⟨r, σ', μ', e1, e2, hr⟩ := hsim t (by omega) 13 (by decide) (xs (x3 + (1 : Int32)).toNatClampNeg) 0 0 0 σ μ hrel
        exact lo_holds hC hX hbl hbA fa a ma σ μ P Im hPv hIv x3 (hin 1 (by decide)) _ _ hkb hnb r σ' μ' e1 e2 (back σ' μ' hr)
      | 14, _, ej =>
        refine a_tswI (v := (14 : Int32)) 514 hC dL_law_32 ej (by decide) (by decide) rfl (by decide) ?_
        obtain ⟨r, σ', μ', e1, e2, hr⟩ := hsim t (by omega) 14 (by decide) (xs (x3 + (1 : Int32)).toNatClampNeg) 0 0 0 σ μ hrel
        exact lo_wheel hC hX hbl hbA fa a ma σ μ P Im hPv hIv x3 (hin 1 (by decide)) _ _ hkb hnb r σ' μ' e1 e2 (back σ' μ' hr)
      | 15, _, ej =>
        refine a_tswI (v := (15 : Int32)) 537 hC dL_law_32 ej (by decide) (by decide) rfl (by decide) ?_
        obtain ⟨r, σ', μ', e1, e2, hr⟩ := hsim t (by omega) 15 (by decide) (xs (x3 + (1 : Int32)).toNatClampNeg) (xs (x3 + (2 : Int32)).toNatClampNeg) 0 0 σ μ hrel
        exact lo_offsets hC hX hbl hbA fa a ma σ μ P Im hPv hIv x3 (hin 1 (by decide)) (hin 2 (by decide)) _ _ hkb hnb r σ' μ' e1 e2 (back σ' μ' hr)
      | 16, _, ej =>
        refine a_tswI (v := (16 : Int32)) 570 hC dL_law_32 ej (by decide) (by decide) rfl (by decide) ?_
        obtain ⟨r, σ', μ', e1, e2, hr⟩ := hsim t (by omega) 16 (by decide) (xs (x3 + (1 : Int32)).toNatClampNeg) (xs (x3 + (2 : Int32)).toNatClampNeg) 0 0 σ μ hrel
        exact lo_chases hC hX hbl hbA fa a ma σ μ P Im hPv hIv x3 (hin 1 (by decide)) (hin 2 (by decide)) _ _ hkb hnb r σ' μ' e1 e2 (back σ' μ' hr)
      | 17, _, ej =>
        refine a_tswI (v := (17 : Int32)) 603 hC dL_law_32 ej (by decide) (by decide) rfl (by decide) ?_
        obtain ⟨r, σ', μ', e1, e2, hr⟩ := hsim t (by omega) 17 (by decide) (xs (x3 + (1 : Int32)).toNatClampNeg) (xs (x3 + (2 : Int32)).toNatClampNeg) 0 0 σ μ hrel
        exact lo_chaser hC hX hbl hbA fa a ma σ μ P Im hPv hIv x3 (hin 1 (by decide)) (hin 2 (by decide)) _ _ hkb hnb r σ' μ' e1 e2 (back σ' μ' hr)
      | 18, _, ej =>
        refine a_tswI (v := (18 : Int32)) 636 hC dL_law_32 ej (by decide) (by decide) rfl (by decide) ?_
        obtain ⟨r, σ', μ', e1, e2, hr⟩ := hsim t (by omega) 18 (by decide) (xs (x3 + (1 : Int32)).toNatClampNeg) 0 0 0 σ μ hrel
        exact lo_there hC hX hbl hbA fa a ma σ μ P Im hPv hIv x3 (hin 1 (by decide)) _ _ hkb hnb r σ' μ' e1 e2 (back σ' μ' hr)
      | 19, _, ej =>
        refine a_tswI (v := (19 : Int32)) 659 hC dL_law_32 ej (by decide) (by decide) rfl (by decide) ?_
        obtain ⟨r, σ', μ', e1, e2, hr⟩ := hsim t (by omega) 19 (by decide) 0 0 0 0 σ μ hrel
        exact lo_undo hC hX hbl hbA fa a ma σ μ P Im hPv hIv x3 _ _ hkb hnb r σ' μ' e1 e2 (back σ' μ' hr)
      | 20, _, ej =>
        refine a_tswI (v := (20 : Int32)) 672 hC dL_law_32 ej (by decide) (by decide) rfl (by decide) ?_
        obtain ⟨r, σ', μ', e1, e2, hr⟩ := hsim t (by omega) 20 (by decide) (xs (x3 + (1 : Int32)).toNatClampNeg) (xs (x3 + (2 : Int32)).toNatClampNeg) 0 0 σ μ hrel
        exact lo_sees hC hX hbl hbA fa a ma σ μ P Im hPv hIv x3 (hin 1 (by decide)) (hin 2 (by decide)) _ _ hkb hnb r σ' μ' e1 e2 (back σ' μ' hr)
      | 21, _, ej =>
        refine a_tswI (v := (21 : Int32)) 705 hC dL_law_32 ej (by decide) (by decide) rfl (by decide) ?_
        obtain ⟨r, σ', μ', e1, e2, hr⟩ := hsim t (by omega) 21 (by decide) 0 0 0 0 σ μ hrel
        exact lo_forget hC hX hbl hbA fa a ma σ μ P Im hPv hIv x3 _ _ hkb hnb r σ' μ' e1 e2 (back σ' μ' hr)
      | 22, _, ej =>
        refine a_tswI (v := (22 : Int32)) 718 hC dL_law_32 ej (by decide) (by decide) rfl (by decide) ?_
        obtain ⟨r, σ', μ', e1, e2, hr⟩ := hsim t (by omega) 22 (by decide) 0 0 0 0 σ μ hrel
        exact lo_unseen hC hX hbl hbA fa a ma σ μ P Im hPv hIv x3 _ _ hkb hnb r σ' μ' e1 e2 (back σ' μ' hr)
      | 23, _, ej =>
        refine a_tswI (v := (23 : Int32)) 731 hC dL_law_32 ej (by decide) (by decide) rfl (by decide) ?_
        obtain ⟨r, σ', μ', e1, e2, hr⟩ := hsim t (by omega) 23 (by decide) (xs (x3 + (1 : Int32)).toNatClampNeg) 0 0 0 σ μ hrel
        exact lo_keep hC hX hbl hbA fa a ma σ μ P Im hPv hIv x3 (hin 1 (by decide)) _ _ hkb hnb r σ' μ' e1 e2 (back σ' μ' hr)
      | 24, _, ej =>
        refine a_tswI (v := (24 : Int32)) 754 hC dL_law_32 ej (by decide) (by decide) rfl (by decide) ?_
        obtain ⟨r, σ', μ', e1, e2, hr⟩ := hsim t (by omega) 24 (by decide) (xs (x3 + (1 : Int32)).toNatClampNeg) 0 0 0 σ μ hrel
        exact lo_back hC hX hbl hbA fa a ma σ μ P Im hPv hIv x3 (hin 1 (by decide)) _ _ hkb hnb r σ' μ' e1 e2 (back σ' μ' hr)
      | 25, _, ej =>
        refine a_tswI (v := (25 : Int32)) 777 hC dL_law_32 ej (by decide) (by decide) rfl (by decide) ?_
        obtain ⟨r, σ', μ', e1, e2, hr⟩ := hsim t (by omega) 25 (by decide) (xs (x3 + (1 : Int32)).toNatClampNeg) 0 0 0 σ μ hrel
        exact lo_count hC hX hbl hbA fa a ma σ μ P Im hPv hIv x3 (hin 1 (by decide)) _ _ hkb hnb r σ' μ' e1 e2 (back σ' μ' hr)
      | j + 26, hj, ej =>
        refine a_tswO 800 hC dL_law_32 (Or.inr (by rw [ej, nI_toInt (by omega)]; omega)) (by decide) ?_
        refine a_widen (by omega) (by omega) (back σ μ (hmono t σ μ hrel) P Im hPv hIv)
def sg0 : FV := (sv0, (0, 0, (fun _ => none), (fun _ => none), 0, 0, 0, (fun _ => 0), (fun _ => 0), 0))
def mu0 : MV := (0, (upd (upd (upd (upd (fun _ => 0) 0 1) 21 40) 35 1) 37 5), (fun _ => 0), 0, (fun _ => 0), (fun _ => 0), 0, (fun _ => 0), (fun _ => 0))
set_option maxRecDepth 100000 in
set_option maxHeartbeats 4000000 in
theorem law_start {X : qX} {b L : Nat} {xs : Nat → Int32} {Rel : Nat → FV → MV → Prop} (hsim : Sim Rel) (hmono : ∀ t σ μ, Rel t σ μ → Rel (t + 1) σ μ) (h0 : Rel 0 sg0 mu0) (hL : L ≤ 2560) (hC : Ok X room_1 cL_law 4 RL (some .boolean)) (hX : va_X b L xs X.2.1.1 X.2.1.1.heap) (hbl : b < X.2.1.1.heap.size) (hbA : ¬ X.2.2.1.2.2.1 b) (hQ : ∀ (k n : Nat) (ws : va_W) (lv : List (Nat × Value)), k ≤ 600000 → n ≤ 7302250 → At X k n 807 ws lv [.int 1]) : At X 0 0 0 [] [(0, .ref b)] [] := by
  refine a_new 3 6 [.null, .null, .null, .null, .null, .null, .int 0] tyX8 hC inB_X8 tyX8_ok wq36 wq37 wq23 rfl (fun j hj => by rcases (show j = 0 ∨ j = 1 ∨ j = 2 ∨ j = 3 ∨ j = 4 ∨ j = 5 ∨ j = 6 by omega) with rfl | rfl | rfl | rfl | rfl | rfl | rfl <;> rfl) (Nat.le_of_ble_eq_true rfl) (Nat.le_of_ble_eq_true rfl) dL_law_0 rfl (fun q0 => ?_)
  refine a_dup 4 hC dL_law_3 rfl rfl ?_
  refine a_callI 7 [(q0, .inr (6, [.null, .null, .null, .null, .null, .null, .int 0]))] [] [0] [] hC (c_X8_init X.1.2.1 X.2.2.2.1 X.2.2.2.2 q0) ⟨wq38, wq23, wq40, ds_X8_init, by decide, by decide⟩ wq39 rfl (Nat.le_of_ble_eq_true rfl) dL_law_4 rfl ⟨(Nat.le_of_ble_eq_true rfl), (Nat.le_of_ble_eq_true rfl)⟩ rfl rfl rfl rfl rfl (by decide) (fun r w hpo => ?_)
  obtain ⟨rfl, fa, a, rfl, rfl⟩ := hpo
  refine a_ws (fcV X.2.2.2.2 fa a sg0 (fun _ => none) (fun _ => none) ++ poW X.2.2.2.2 (fun _ => none) (fun _ => none)) rfl ?_
  refine a_st [.ref (fa 0)] rfl ?_
  refine a_kn 17 92 rfl rfl ?_
  refine a_astore_n 8 [(0, .ref b), (1, .ref (fa 0))] [1, 0] hC dL_law_7 rfl rfl (by decide) rfl ?_
  refine a_new 11 7 [.int 0, .null, .null, .int 0, .null, .null, .int 0, .null, .null] tyX9 hC inB_X9 tyX9_ok wq594 wq595 wq30 rfl (fun j hj => by rcases (show j = 0 ∨ j = 1 ∨ j = 2 ∨ j = 3 ∨ j = 4 ∨ j = 5 ∨ j = 6 ∨ j = 7 ∨ j = 8 by omega) with rfl | rfl | rfl | rfl | rfl | rfl | rfl | rfl | rfl <;> rfl) (Nat.le_of_ble_eq_true rfl) (Nat.le_of_ble_eq_true rfl) dL_law_8 rfl (fun q8 => ?_)
  refine a_dup 12 hC dL_law_11 rfl rfl ?_
  refine a_callI 15 (fcV X.2.2.2.2 fa a sg0 (fun _ => none) (fun _ => none) ++ poW X.2.2.2.2 (fun _ => none) (fun _ => none) ++ [(q8, .inr (7, [.int 0, .null, .null, .int 0, .null, .null, .int 0, .null, .null]))]) [] [17] [0, 1, 2, 3, 4, 5, 6, 7, 8, 9, 10, 11, 12, 13, 14, 15, 16] hC (c_X9_init X.1.2.1 X.2.2.2.1 X.2.2.2.2 q8) ⟨wq596, wq30, wq598, ds_X9_init, by decide, by decide⟩ wq597 rfl (Nat.le_of_ble_eq_true rfl) dL_law_12 rfl ⟨(Nat.le_of_ble_eq_true rfl), (Nat.le_of_ble_eq_true rfl)⟩ rfl rfl rfl rfl rfl (by decide) (fun r w hpo => ?_)
  obtain ⟨rfl, ma, rfl, rfl⟩ := hpo
  refine a_ws (fcV X.2.2.2.2 fa a sg0 (fun _ => none) (fun _ => none) ++ poW X.2.2.2.2 (fun _ => none) (fun _ => none) ++ mdV X.2.2.2.2 ma mu0) rfl ?_
  refine a_st [.ref (ma 0)] rfl ?_
  refine a_kn 24 1160 rfl rfl ?_
  refine a_astore_n 16 [(0, .ref b), (1, .ref (fa 0)), (2, .ref (ma 0))] [1, 2, 0] hC dL_law_15 rfl rfl (by decide) rfl ?_
  refine a_iconst 17 (v := (0 : Int32)) hC dL_law_16 rfl (by decide) ?_
  refine a_istore_n 18 [(0, .ref b), (1, .ref (fa 0)), (2, .ref (ma 0)), (3, .int 0)] [1, 2, 3, 0] hC dL_law_17 rfl rfl (by decide) rfl ?_
  exact law_loop hsim hmono hL hC hX hbl hbA hQ fa a ma (L + 1) 0 (by omega) (by omega) sg0 mu0 (fun _ => none) (fun _ => none) h0 rfl rfl 0 rfl
set_option maxRecDepth 100000 in
set_option maxHeartbeats 4000000 in
theorem whole_of {p : Program} {e : Env} {s : State} {m : MethodId} {below : List Frame} {meth : Method} {c : Code} (l : Launch) {b L : Nat} {xs : Nat → Int32} {Rel : Nat → FV → MV → Prop} (hsim : Sim Rel) (hmono : ∀ t σ μ, Rel t σ μ → Rel (t + 1) σ μ) (h0 : Rel 0 sg0 mu0) (hL : L ≤ 2560) (C0 : lw_At p s m meth c b L xs) : W p l e room_1 s m #[Value.ref b] below meth c s.heap [] 0 0 (lw_Z below #[Value.ref b] s) (entryFrame m ([Value.ref b] : List Value).toArray 4) := by
  obtain ⟨hx, hb, hr, hml, hown, hts, hX, hbl, hlocks, hgv⟩ := C0
  have htB : ∀ w ∈ wB, w.before #[Value.ref b] s = true := fun w h => hts w (wB_good w h).1
  have hnw : ∀ w : Cond, w ∈ lw_tbl → w.onTables = true → va_Nw w s := fun w h1 h2 => va_Nw.of h2 (hts w h1)
  obtain ⟨c0, iS0, hKn0⟩ := u_known (C := RX0) (T := TX0) (N := 3) (n := 3) htB inB_X0 (htB _ wq165)
  obtain ⟨c1, iS1, hKn1⟩ := u_known (C := RX1) (T := TX1) (N := 3) (n := 3) htB inB_X1 (htB _ wq211)
  obtain ⟨c2, iS2, hKn2⟩ := u_known (C := RX3) (T := TX3) (N := 13) (n := 13) htB inB_X3 (htB _ wq80)
  obtain ⟨c3, iS3, hKn3⟩ := u_known (C := RX4) (T := TX4) (N := 7) (n := 7) htB inB_X4 (htB _ wq45)
  obtain ⟨c4, iS4, hKn4⟩ := u_known (C := RX5) (T := TX5) (N := 6) (n := 6) htB inB_X5 (htB _ wq51)
  obtain ⟨c5, iS5, hKn5⟩ := u_known (C := RX6) (T := TX6) (N := 4) (n := 4) htB inB_X6 (htB _ wq141)
  obtain ⟨c6, iS6, hKn6⟩ := u_known (C := RX8) (T := TX8) (N := 7) (n := 7) htB inB_X8 (htB _ wq37)
  obtain ⟨c7, iS7, hKn7⟩ := u_known (C := RX9) (T := TX9) (N := 9) (n := 9) htB inB_X9 (htB _ wq595)
  obtain ⟨D, hKc⟩ : ∃ D : va_G, ∀ (k : Nat) (q : vw_C), vwCl[k]? = some q → u_Kn s q.1 q.2.1 q.2.2 (D.1 k) (D.2 k) := by
    refine ⟨(fun k => if k = 0 then c0 else if k = 1 then c1 else if k = 2 then c2 else if k = 3 then c3 else if k = 4 then c4 else if k = 5 then c5 else if k = 6 then c6 else c7, fun k => if k = 0 then iS0 else if k = 1 then iS1 else if k = 2 then iS2 else if k = 3 then iS3 else if k = 4 then iS4 else if k = 5 then iS5 else if k = 6 then iS6 else iS7), ?_⟩
    intro k q hq
    match k, hq with
    | 0, hq => cases hq; exact hKn0
    | 1, hq => cases hq; exact hKn1
    | 2, hq => cases hq; exact hKn2
    | 3, hq => cases hq; exact hKn3
    | 4, hq => cases hq; exact hKn4
    | 5, hq => cases hq; exact hKn5
    | 6, hq => cases hq; exact hKn6
    | 7, hq => cases hq; exact hKn7
    | k + 8, hq => simp [vwCl] at hq
  obtain ⟨zI, kI, compI, fI, gI, kindI⟩ := Cond.arrayClass_spec (htB _ wq78)
  obtain ⟨zZ, kZ, compZ, fZ, gZ, kindZ⟩ := Cond.arrayClass_spec (htB _ wq628)
  obtain ⟨compS, zS, kS, fcS_, iS_, gS, kindS, fS⟩ := Cond.arrayOver_spec (hts (Cond.arrayOver (.object "FrameClocks$State")) (List.mem_of_getElem? (i := 217) (by decide +kernel)))
  have hK : va_K D vwCl (qT (zI, zZ, zS)) s := by
    refine ⟨hKc, fun k q hq => ?_⟩
    match k, hq with
    | 0, hq => cases hq; exact ⟨fun n z => ⟨fun k h => (by cases h), kI, gI, compI, kindI⟩, fI⟩
    | 1, hq => cases hq; exact ⟨fun n z => ⟨fun k h => (by cases h), kZ, gZ, compZ, kindZ⟩, fZ⟩
    | 2, hq => cases hq; exact ⟨fun n z => ⟨fun k h => (by cases h), kS, gS, compS, kindS⟩, kS, compS, gS, kindS, fcS_, fS⟩
    | k + 3, hq => simp [qT] at hq
  have hN : qN s := ⟨va_AO.of (hts (Cond.arrayOver (.object "FrameClocks$State")) (List.mem_of_getElem? (i := 217) (by decide +kernel))), hnw _ (List.mem_of_getElem? (i := 46) (by decide +kernel)) rfl, hnw _ (List.mem_of_getElem? (i := 212) (by decide +kernel)) rfl, hnw _ (List.mem_of_getElem? (i := 230) (by decide +kernel)) rfl, hnw _ (List.mem_of_getElem? (i := 264) (by decide +kernel)) rfl, hnw _ (List.mem_of_getElem? (i := 52) (by decide +kernel)) rfl, hnw _ (List.mem_of_getElem? (i := 81) (by decide +kernel)) rfl, hnw _ (List.mem_of_getElem? (i := 142) (by decide +kernel)) rfl, hnw _ (List.mem_of_getElem? (i := 166) (by decide +kernel)) rfl⟩
  have K := law_start (X := ((p, l, e, room_1), (s, m, #[Value.ref b], below), (meth, c, (fun q => s.heap.size ≤ q), lw_Z below #[Value.ref b] s), (D, (zI, zZ, zS)))) hsim hmono h0 hL ⟨hx, hb, hml, hown, htB, ⟨hK, hN⟩, fun q h => h, hr, hlocks, rfl⟩ hX hbl (Nat.not_le.mpr hbl) (fun k n ws lv hk hn H locs ls hP hD hS hl => by
    refine va_forget (fun q hq => hS.2.2 q hq) ?_
    refine W.widen (k := 600000) (n := 7302250) hk hn ?_
    exact lw_ret hx hb hr hlocks dL_law_807)
  have hl := lv_entry ([.ref b]) (n := 4) (Nat.le_of_ble_eq_true rfl)
  rw [lg_entry_eq]
  exact K s.heap [] _ (fun k q h => by simp at h) ⟨fun i j p q h => by simp at h, fun k q h => by simp at h⟩ va_S.rf (by show lv_has _ c.maxLocals _; rw [hml]; exact hl)
