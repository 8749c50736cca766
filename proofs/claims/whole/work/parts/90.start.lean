section BGN
theorem nst_in : ∀ w ∈ nstW, w ∈ lw_tbl := by decide +kernel
theorem exc_in : ∀ c ∈ excL, Cond.castable c c ∈ lw_tbl := by decide +kernel
theorem dc_in : ∀ x ∈ dcL, Cond.declares x ∈ lw_tbl := by decide +kernel
theorem str_in : ∀ q ∈ strL, Cond.stringRef RX5 q.1 q.2 ∈ lw_tbl := by decide +kernel
theorem nc_in : ∀ q ∈ ncL, Cond.not (.castable q.1 q.2) ∈ flatC (Jvm.Cond.and given_1 narrow_1) := by decide +kernel
theorem zs_in : (Cond.laysStatic Bundle.tN "UNASSIGNED_STACK" Bundle.steD ∈ lw_tbl ∧ Cond.laysStatic Bundle.tN "SUPPRESSED_SENTINEL" Bundle.listD ∈ lw_tbl ∧ Cond.initialized Bundle.tN ∈ lw_tbl) ∧ Cond.isRef (.static Bundle.tN "UNASSIGNED_STACK" Bundle.steD) ∈ flatC (Jvm.Cond.and given_1 narrow_1) ∧ Cond.isRef (.static Bundle.tN "SUPPRESSED_SENTINEL" Bundle.listD) ∈ flatC (Jvm.Cond.and given_1 narrow_1) := by decide +kernel
theorem ins_in : (Cond.instantiable RX0 4 ∈ lw_tbl ∧ Cond.instantiable RX1 1 ∈ lw_tbl ∧ Cond.instantiable RX2 17 ∈ lw_tbl ∧ Cond.instantiable RX3 2 ∈ lw_tbl ∧ Cond.instantiable RX4 4 ∈ lw_tbl ∧ Cond.instantiable RX5 5 ∈ lw_tbl ∧ Cond.instantiable RX6 15 ∈ lw_tbl) ∧ Cond.arrayClass .int ∈ lw_tbl ∧ Cond.arrayClass .long ∈ lw_tbl ∧ Cond.arrayOver (.object "BarredRungs$State") ∈ lw_tbl := by decide +kernel
theorem flags_st {l : Launch} (hflags : l.flags = flags0) : l.stackTraces = false := by
  unfold Launch.stackTraces
  rw [hflags]
  decide +kernel
theorem at_K {s : State} {args : Array Value} (hts : ∀ w ∈ lw_tbl, w.before args s = true) : ∃ g : GG, va_K g.1 vwCl (tyL g) s := by
  obtain ⟨⟨i0, i1, i2, i3, i4, i5, i6⟩, a1, a2, a3⟩ := ins_in
  obtain ⟨c0, x0, k0⟩ := u_known (C := RX0) (T := TX0) (N := 4) hts inX0 (hts _ i0)
  obtain ⟨c1, x1, k1⟩ := u_known (C := RX1) (T := TX1) (N := 1) hts inX1 (hts _ i1)
  obtain ⟨c2, x2, k2⟩ := u_known (C := RX2) (T := TX2) (N := 17) hts inX2 (hts _ i2)
  obtain ⟨c3, x3, k3⟩ := u_known (C := RX3) (T := TX3) (N := 2) hts inX3 (hts _ i3)
  obtain ⟨c4, x4, k4⟩ := u_known (C := RX4) (T := TX4) (N := 4) hts inX4 (hts _ i4)
  obtain ⟨c5, x5, k5⟩ := u_known (C := RX5) (T := TX5) (N := 5) hts inX5 (hts _ i5)
  obtain ⟨c6, x6, k6⟩ := u_known (C := RX6) (T := TX6) (N := 15) hts inX6 (hts _ i6)
  obtain ⟨cI, kI, pI, n1, n2, n3⟩ := Cond.arrayClass_spec (hts _ a1)
  obtain ⟨cJ, kJ, pJ, m1, m2, m3⟩ := Cond.arrayClass_spec (hts _ a2)
  obtain ⟨pO, cO, kO, o1, o2, o3, o4, o5⟩ := Cond.arrayOver_spec (hts _ a3)
  refine ⟨((fun c => match c with | 0 => c0 | 1 => c1 | 2 => c2 | 3 => c3 | 4 => c4 | 5 => c5 | _ => c6, fun c => match c with | 0 => x0 | 1 => x1 | 2 => x2 | 3 => x3 | 4 => x4 | 5 => x5 | _ => x6), cI, cO, cJ), fun c q h => ?_, fun k q h => ?_⟩
  · match c, h with
    | 0, h => cases h; exact k0
    | 1, h => cases h; exact k1
    | 2, h => cases h; exact k2
    | 3, h => cases h; exact k3
    | 4, h => cases h; exact k4
    | 5, h => cases h; exact k5
    | 6, h => cases h; exact k6
    | n + 7, h => cases h
  · match k, h with
    | 0, h => cases h; exact ⟨fun N z => ⟨fun k h => (by cases h), kI, n2, pI, n3⟩, n1⟩
    | 1, h => cases h; exact ⟨fun N z => ⟨fun k h => (by cases h), kO, o3, pO, o4⟩, kO, pO, o3, o4, o1, o5⟩
    | 2, h => cases h; exact ⟨fun N z => ⟨fun k h => (by cases h), kJ, m2, pJ, m3⟩, m1⟩
    | n + 3, h => cases h
theorem at_N {s : State} {args : Array Value} (hts : ∀ w ∈ lw_tbl, w.before args s = true) : Nst s := fun w hw => va_Nw.of (nst_tab w hw) (hts w (nst_in w hw))
theorem at_X {s : State} {args : Array Value} (hts : ∀ w ∈ lw_tbl, w.before args s = true) (hgv : (Jvm.Cond.and given_1 narrow_1).before args s = true) : Xt s := by
  refine ⟨⟨fun c hc => va_Nw.of rfl (hts _ (exc_in c hc)), fun x hx => va_Nw.of rfl (hts _ (dc_in x hx))⟩, fun q hq => va_Nc.of (flat_of_before _ hgv _ (nc_in q hq)), fun q hq => ?_⟩
  obtain ⟨cC, kC, hfc, -⟩ := Cond.instantiable_spec (hts _ ins_in.1.2.2.2.2.2.1)
  have h1 := hts _ (str_in q hq)
  obtain ⟨k, cf, i, a, -, -, -, -, -, h2⟩ := Cond.stringRef_spec hfc h1
  exact ⟨a, vk_R.of h1 h2⟩
theorem at_Z {s : State} {args : Array Value} (hts : ∀ w ∈ lw_tbl, w.before args s = true) (hgv : (Jvm.Cond.and given_1 narrow_1).before args s = true) : Zs (fun q => s.heap.size ≤ q) s s.heap := by
  obtain ⟨⟨z1, z2, z3⟩, z4, z5⟩ := zs_in
  exact ⟨vx_Zqof (hts _ z1) (hts _ z3) (flat_of_before _ hgv _ z4) (fun a h q => absurd h (Nat.not_lt.mpr q)), vx_Zqof (hts _ z2) (hts _ z3) (flat_of_before _ hgv _ z5) (fun a h q => absurd h (Nat.not_lt.mpr q))⟩
end BGN
section WST
set_option maxRecDepth 100000 in
set_option maxHeartbeats 8000000 in
/-- YOUR PART: from the entry, for every script of at most 2048 ints, the law comes to its end with true ('hflags': the launch's flags, for a law that throws: no stack traces) -/
theorem whole_start {p : Program} {e : Env} {s : State} {m : MethodId} {below : List Frame} {meth : Method} {c : Code} (l : Launch) (hflags : l.flags = flags0) {b L : Nat} {xs : Nat → Int32} (hL : L ≤ 2048) (C0 : lw_At p s m meth c b L xs) : W p l e room_1 s m #[Value.ref b] below meth c s.heap [] 0 0 (lw_Z below #[Value.ref b] s) (entryFrame m ([Value.ref b] : List Value).toArray 9) := by
  obtain ⟨hx, hb, hr, hml, hown, hts0, hXs, hbl, hlocks, hgv⟩ := C0
  have hst := flags_st hflags
  obtain ⟨g, hK⟩ := at_K hts0
  have hN := at_N hts0
  have hX := at_X hts0 hgv
  have hZ := at_Z hts0 hgv
  have hO : va_AO "BarredRungs$State" s := va_AO.of (hts0 _ ins_in.2.2.2)
  have hts : ∀ w ∈ wsL_law, w.before #[Value.ref b] s = true := fun w h => hts0 w (wsL_law_in w h)
  have hA : ∀ q : Nat, s.heap.size ≤ q → s.heap.size ≤ q := fun q h => h
  have LC : LCx p s m #[Value.ref b] c b L xs g (fun q => s.heap.size ≤ q) := ⟨hx, hb, hml, hown, hts, hK, hN, hX, hA, hXs, hbl, Nat.not_le.mpr hbl, hZ⟩
  have hl := lv_entry [.ref b] (n := 9) (Nat.le_of_ble_eq_true rfl)
  rw [lg_entry_eq]
  have hP : va_P g.1 vwCl [] s.heap := fun k q h => by cases h
  have hD : va_D (fun q => s.heap.size ≤ q) [] := ⟨(fun i j p q h => by cases h), (fun k q h => by cases h)⟩
  have hS : va_S (fun q => s.heap.size ≤ q) s.heap s.heap [] := va_S.rf
  refine va_new (ci := 5) (fs := [.null, .null, .null, .null, .null]) (C := RX5) (T := TX5) (N := 5) hx hb hts inlX5 tyX5 tyX5_ok hown (hts (.classLink RL 8 RX5) (List.mem_of_getElem? (i := 0) rfl)) (hts (.instantiable RX5 5) (List.mem_of_getElem? (i := 1) rfl)) (hts (.initialized RX5) (List.mem_of_getElem? (i := 2) rfl)) hK hP hD hS hA rfl (by decide) (Nat.le_of_ble_eq_true rfl) (Nat.le_of_ble_eq_true rfl) dL_law_0 (fun q5 H hP hD hS => ?_)
  refine W.widen (k := 1) (n := 5) (Nat.le_of_ble_eq_true rfl) (Nat.le_of_ble_eq_true rfl) ?_
  refine lv_dup hx hb dL_law_3 rfl ?_
  refine aftN (va_runI (As := []) (rest := [.ref q5]) ⟨hx, hb, hml, hown, hts⟩ (nX5_init l g q5 H.size) (cwI 0 hts gL_law_X5_init rfl rfl rfl (hts (.initialized RX5) (List.mem_of_getElem? (i := 2) rfl)) (hts (.methodLink RL 73 yX5_init) (List.mem_of_getElem? (i := 7) rfl)) (hts (.instanceMethod yX5_init) (List.mem_of_getElem? (i := 8) rfl)) rfl hdX5_init ⟨Nat.le_of_ble_eq_true rfl, Nat.le_of_ble_eq_true rfl⟩) ⟨PgN_blind _ _ _ _, fun U hU hW => PgN_pre hK hN hO hP.right hD.right U hU hW⟩ rfl rfl hl.1 rfl (lv_room (Nat.le_of_ble_eq_true rfl)) dL_law_4 ⟨Nat.le_of_ble_eq_true rfl, Nat.le_of_ble_eq_true rfl⟩) hP hD hS hA (fun s5 H locs hi5 hP7 hD7 hS7 => ?_)
  subst hi5
  have hP := hP7
  have hD := hD7
  have hS := hS7
  refine W.widen (k := 92) (n := 922) (Nat.le_of_ble_eq_true rfl) (Nat.le_of_ble_eq_true rfl) ?_
  refine lv_astore_n (lv' := [(1, .ref (s5.1 0 0)), (0, .ref b)]) hx hb dL_law_7 rfl hl (by decide) rfl (fun ls hl => ?_)
  refine va_new (ci := 6) (fs := [.int 0, .null, .null, .int 0, .null, .int 0, .null, .int 0, .int 0, .int 0, .int 0, .null, .int 0, .int 0, .long 0]) (C := RX6) (T := TX6) (N := 15) hx hb hts inlX6 tyX6 tyX6_ok hown (hts (.classLink RL 74 RX6) (List.mem_of_getElem? (i := 3) rfl)) (hts (.instantiable RX6 15) (List.mem_of_getElem? (i := 4) rfl)) (hts (.initialized RX6) (List.mem_of_getElem? (i := 5) rfl)) hK hP hD hS hA rfl (by decide) (Nat.le_of_ble_eq_true rfl) (Nat.le_of_ble_eq_true rfl) dL_law_8 (fun q6 H hP hD hS => ?_)
  refine W.widen (k := 93) (n := 937) (Nat.le_of_ble_eq_true rfl) (Nat.le_of_ble_eq_true rfl) ?_
  refine lv_dup hx hb dL_law_11 rfl ?_
  refine aftN (va_runI (As := []) (rest := [.ref q6]) ⟨hx, hb, hml, hown, hts⟩ (nX6_init l g q6 H.size) (cwI 0 hts gL_law_X6_init rfl rfl rfl (hts (.initialized RX6) (List.mem_of_getElem? (i := 5) rfl)) (hts (.methodLink RL 76 yX6_init) (List.mem_of_getElem? (i := 72) rfl)) (hts (.instanceMethod yX6_init) (List.mem_of_getElem? (i := 73) rfl)) rfl hdX6_init ⟨Nat.le_of_ble_eq_true rfl, Nat.le_of_ble_eq_true rfl⟩) ⟨PgN_blind _ _ _ _, fun U hU hW => PgN_pre hK hN hO hP.right hD.right U hU hW⟩ rfl rfl hl.1 rfl (lv_room (Nat.le_of_ble_eq_true rfl)) dL_law_12 ⟨Nat.le_of_ble_eq_true rfl, Nat.le_of_ble_eq_true rfl⟩) hP hD hS hA (fun s6 H locs hi6 hP8 hD8 hS8 => ?_)
  subst hi6
  have hP := hP8
  have hD := hD8
  have hS := hS8
  refine W.widen (k := 98) (n := 1461) (Nat.le_of_ble_eq_true rfl) (Nat.le_of_ble_eq_true rfl) ?_
  refine lv_astore_n (lv' := [(2, .ref (s6 0)), (1, .ref (s5.1 0 0)), (0, .ref b)]) hx hb dL_law_15 rfl hl (by decide) rfl (fun ls hl => ?_)
  refine lv_iconst (v := 1) hx hb dL_law_16 (by decide) ?_
  refine va_newa (atype := .long) hx hb (hts (.arrayClass .long) (List.mem_of_getElem? (i := 6) rfl)) rfl hK hP hD hS hA (a0 := (1, .inr (.inl (fun _ => 0)))) (fun _ => rfl) (by decide) (by decide) (by decide) (Nat.le_of_ble_eq_true rfl) (Nat.le_of_ble_eq_true rfl) dL_law_17 (fun o cA H hKn hP hD hS => ?_)
  have ec : cA = g.2.2.2 := arr_one hK (i := 2) rfl hKn (by decide)
  subst ec
  refine W.widen (k := 99) (n := 1462) (Nat.le_of_ble_eq_true rfl) (Nat.le_of_ble_eq_true rfl) ?_
  refine lv_astore_n (lv' := [(3, .ref o), (2, .ref (s6 0)), (1, .ref (s5.1 0 0)), (0, .ref b)]) hx hb dL_law_19 rfl hl (by decide) rfl (fun ls hl => ?_)
  refine lv_iconst (v := 0) hx hb dL_law_20 (by decide) ?_
  refine lv_istore (lv' := [(4, .int 0), (3, .ref o), (2, .ref (s6 0)), (1, .ref (s5.1 0 0)), (0, .ref b)]) hx hb dL_law_21 hl (by decide) rfl (fun ls hl => ?_)
  have pm : ((([] ++ wBR g s5.1 Tx0 Is0 Wa0 St0 (Hi0 s5.2)) ++ cMo g s6 Mo0) ++ [(o, (.inl (g.2.2.2, 1, .inr (.inl (fun _ => 0))) : va_E))]).Perm (wLaw g s5.1 s6 o Tx0 Is0 Wa0 St0 (Hi0 s5.2) Mo0 (fun _ => 0)) := by
    refine List.perm_append_comm.trans ?_
    exact List.Perm.append_left _ List.perm_append_comm
  refine law_loop hst LC ops_J s5.1 s6 o hL (fun H locs ls hS => ?_) 513 0 0 99 1462 rfl (by omega) (Nat.zero_le _) (by decide) (by decide) (J_0 s5.2) (hP.perm pm) (hD.perm pm) hS (lv_sub hl [4, 3, 2, 1, 0] rfl)
  refine va_forget (fun q hq => hS.2.2 q hq) ?_
  exact lw_ret (s := s) (d0 := s.drawn) (Drawn.sameBut.refl s.drawn lw_cs) hx hb hr hlocks dL_law_1389
end WST
