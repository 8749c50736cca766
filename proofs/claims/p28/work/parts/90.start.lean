section WST
set_option maxRecDepth 100000 in
set_option maxHeartbeats 8000000 in
theorem whole_start {p : Program} {e : Env} {s : State} {m : MethodId} {below : List Frame} {meth : Method} {c : Code} (l : Launch) (hflags : l.flags = flags0) {b L : Nat} {xs : Nat → Int32} (hL : L ≤ 260) (C0 : lw_At p s m meth c b L xs) : W p l e room_1 s m #[Value.ref b] below meth c s.heap [] 0 0 (lw_Z below #[Value.ref b] s) (entryFrame m ([Value.ref b] : List Value).toArray 16) := by
  obtain ⟨hx, hb, hr, hml, hown, hts0, hXs, hbl, hlocks, hgv⟩ := C0
  have hst := flags_st hflags
  obtain ⟨g, hK⟩ := at_K hts0
  have hN := at_N hts0
  have hX := at_X hts0 hgv
  have hZ := at_Z hts0 hgv
  have hO : va_AO "BarredRungs$State" s := va_AO.of (hts0 _ ins_in.2.2)
  have hts : ∀ w ∈ wsL_law, w.before #[Value.ref b] s = true := fun w h => hts0 w (wsL_law_in w h)
  have hA : ∀ q : Nat, s.heap.size ≤ q → s.heap.size ≤ q := fun q h => h
  have LC : LCx p s m #[Value.ref b] c b L xs g (fun q => s.heap.size ≤ q) := ⟨hx, hb, hml, hown, hts, hK, hN, hX, hA, hXs, hbl, Nat.not_le.mpr hbl, hZ⟩
  have hl := lv_entry [.ref b] (n := 16) (Nat.le_of_ble_eq_true rfl)
  rw [lg_entry_eq]
  have hP : va_P g.1 vwCl [] s.heap := fun k q h => by cases h
  have hD : va_D (fun q => s.heap.size ≤ q) [] := ⟨(fun i j p q h => by cases h), (fun k q h => by cases h)⟩
  have hS : va_S (fun q => s.heap.size ≤ q) s.heap s.heap [] := va_S.rf
  refine va_new (ci := 5) (fs := [.null, .null, .null, .null, .null]) (C := RX5) (T := TX5) (N := 5) hx hb hts inlX5 tyX5 tyX5_ok hown (hts (.classLink RL 11 RX5) (List.mem_of_getElem? (i := 0) rfl)) (hts (.instantiable RX5 5) (List.mem_of_getElem? (i := 1) rfl)) (hts (.initialized RX5) (List.mem_of_getElem? (i := 2) rfl)) hK hP hD hS hA rfl (by decide) (Nat.le_of_ble_eq_true rfl) (Nat.le_of_ble_eq_true rfl) dL_law_0 (fun q5 H hP hD hS => ?_)
  refine W.widen (k := 1) (n := 5) (Nat.le_of_ble_eq_true rfl) (Nat.le_of_ble_eq_true rfl) ?_
  refine lv_dup hx hb dL_law_3 rfl ?_
  refine aftN (va_runI (As := []) (rest := [.ref q5]) ⟨hx, hb, hml, hown, hts⟩ (nX5_init l g q5 H.size) (cwI 0 hts gL_law_X5_init rfl rfl rfl (hts (.initialized RX5) (List.mem_of_getElem? (i := 2) rfl)) (hts (.methodLink RL 179 yX5_init) (List.mem_of_getElem? (i := 5) rfl)) (hts (.instanceMethod yX5_init) (List.mem_of_getElem? (i := 6) rfl)) rfl hdX5_init ⟨Nat.le_of_ble_eq_true rfl, Nat.le_of_ble_eq_true rfl⟩) ⟨PgN_blind _ _ _ _, fun U hU hW => PgN_pre hK hN hO hP.right hD.right U hU hW⟩ rfl rfl hl.1 rfl (lv_room (Nat.le_of_ble_eq_true rfl)) dL_law_4 ⟨Nat.le_of_ble_eq_true rfl, Nat.le_of_ble_eq_true rfl⟩) hP hD hS hA (fun s5 H locs hi5 hP7 hD7 hS7 => ?_)
  subst hi5
  have hP := hP7
  have hD := hD7
  have hS := hS7
  refine W.widen (k := 92) (n := 922) (Nat.le_of_ble_eq_true rfl) (Nat.le_of_ble_eq_true rfl) ?_
  refine lv_astore_n (lv' := [(1, .ref (s5.1 0 0)), (0, .ref b)]) hx hb dL_law_7 rfl hl (by decide) rfl (fun ls hl => ?_)
  refine lv_bipush (v := 10) hx hb dL_law_8 (by decide) ?_
  refine va_newa (atype := .int) hx hb (hts (.arrayClass .int) (List.mem_of_getElem? (i := 3) rfl)) rfl hK hP hD hS hA (a0 := (10, .inl (fun _ => 0))) (fun _ => rfl) (by decide) (by decide) (by decide) (Nat.le_of_ble_eq_true rfl) (Nat.le_of_ble_eq_true rfl) dL_law_10 (fun aq cA H hKn hP hD hS => ?_)
  have ec : cA = g.2.1 := arr_one hK (i := 0) rfl hKn (by decide)
  subst ec
  refine W.widen (k := 93) (n := 932) (Nat.le_of_ble_eq_true rfl) (Nat.le_of_ble_eq_true rfl) ?_
  refine lv_astore_n (lv' := [(2, .ref aq), (1, .ref (s5.1 0 0)), (0, .ref b)]) hx hb dL_law_12 rfl hl (by decide) rfl (fun ls hl => ?_)
  refine lv_bipush (v := 24) hx hb dL_law_13 (by decide) ?_
  refine va_newa (atype := .int) hx hb (hts (.arrayClass .int) (List.mem_of_getElem? (i := 3) rfl)) rfl hK hP hD hS hA (a0 := (24, .inl (fun _ => 0))) (fun _ => rfl) (by decide) (by decide) (by decide) (Nat.le_of_ble_eq_true rfl) (Nat.le_of_ble_eq_true rfl) dL_law_15 (fun aw cA H hKn hP hD hS => ?_)
  have ec : cA = g.2.1 := arr_one hK (i := 0) rfl hKn (by decide)
  subst ec
  refine W.widen (k := 94) (n := 956) (Nat.le_of_ble_eq_true rfl) (Nat.le_of_ble_eq_true rfl) ?_
  refine lv_astore_n (lv' := [(3, .ref aw), (2, .ref aq), (1, .ref (s5.1 0 0)), (0, .ref b)]) hx hb dL_law_17 rfl hl (by decide) rfl (fun ls hl => ?_)
  refine lv_bipush (v := 21) hx hb dL_law_18 (by decide) ?_
  refine va_newa (atype := .int) hx hb (hts (.arrayClass .int) (List.mem_of_getElem? (i := 3) rfl)) rfl hK hP hD hS hA (a0 := (21, .inl (fun _ => 0))) (fun _ => rfl) (by decide) (by decide) (by decide) (Nat.le_of_ble_eq_true rfl) (Nat.le_of_ble_eq_true rfl) dL_law_20 (fun ac cA H hKn hP hD hS => ?_)
  have ec : cA = g.2.1 := arr_one hK (i := 0) rfl hKn (by decide)
  subst ec
  refine W.widen (k := 95) (n := 977) (Nat.le_of_ble_eq_true rfl) (Nat.le_of_ble_eq_true rfl) ?_
  refine lv_astore (lv' := [(4, .ref ac), (3, .ref aw), (2, .ref aq), (1, .ref (s5.1 0 0)), (0, .ref b)]) hx hb dL_law_22 hl (by decide) rfl (fun ls hl => ?_)
  refine lv_bipush (v := 24) hx hb dL_law_24 (by decide) ?_
  refine va_newa (atype := .int) hx hb (hts (.arrayClass .int) (List.mem_of_getElem? (i := 3) rfl)) rfl hK hP hD hS hA (a0 := (24, .inl (fun _ => 0))) (fun _ => rfl) (by decide) (by decide) (by decide) (Nat.le_of_ble_eq_true rfl) (Nat.le_of_ble_eq_true rfl) dL_law_26 (fun al cA H hKn hP hD hS => ?_)
  have ec : cA = g.2.1 := arr_one hK (i := 0) rfl hKn (by decide)
  subst ec
  refine W.widen (k := 96) (n := 1001) (Nat.le_of_ble_eq_true rfl) (Nat.le_of_ble_eq_true rfl) ?_
  refine lv_astore (lv' := [(5, .ref al), (4, .ref ac), (3, .ref aw), (2, .ref aq), (1, .ref (s5.1 0 0)), (0, .ref b)]) hx hb dL_law_28 hl (by decide) rfl (fun ls hl => ?_)
  have pm : ((((([] ++ wBR g s5.1 Tx0 Is0 Wa0 St0 (Hi0 s5.2)) ++ cAr g aq 10 (fun _ => 0)) ++ cAr g aw 24 (fun _ => 0)) ++ cAr g ac 21 (fun _ => 0)) ++ cAr g al 24 (fun _ => 0) : va_W).Perm (cAr g aq 10 (fun _ => 0) ++ (cAr g aw 24 (fun _ => 0) ++ (cAr g ac 21 (fun _ => 0) ++ (cAr g al 24 (fun _ => 0) ++ wBR g s5.1 Tx0 Is0 Wa0 St0 (Hi0 s5.2))))) := by
    rw [List.nil_append, List.append_assoc, List.append_assoc, List.append_assoc]
    exact catl_perm ((by decide : [0, 1, 2, 3, 4].Perm [1, 2, 3, 4, 0]).map (pick [wBR g s5.1 Tx0 Is0 Wa0 St0 (Hi0 s5.2), cAr g aq 10 (fun _ => 0), cAr g aw 24 (fun _ => 0), cAr g ac 21 (fun _ => 0), cAr g al 24 (fun _ => 0)]))
  have hP := hP.perm pm
  have hD := hD.perm pm
  refine lv_aload_n hx hb dL_law_30 rfl (lv_at hl 3 rfl) ?_
  refine lv_iconst (v := 3) hx hb dL_law_31 (by decide) ?_
  refine lv_iconst (v := 3) hx hb dL_law_32 (by decide) ?_
  refine va_iast hx hb hK hP hD hS 0 0 rfl rfl (inb_in (i := 3) (n := 10) (by decide)) dL_law_33 (fun H locs hP hD hS => ?_)
  have hP : va_P g.1 vwCl (cAr g aq 10 (upd (fun _ => 0) 3 3) ++ (cAr g aw 24 (fun _ => 0) ++ (cAr g ac 21 (fun _ => 0) ++ (cAr g al 24 (fun _ => 0) ++ wBR g s5.1 Tx0 Is0 Wa0 St0 (Hi0 s5.2))))) H := hP
  have hD : va_D (fun q => s.heap.size ≤ q) (cAr g aq 10 (upd (fun _ => 0) 3 3) ++ (cAr g aw 24 (fun _ => 0) ++ (cAr g ac 21 (fun _ => 0) ++ (cAr g al 24 (fun _ => 0) ++ wBR g s5.1 Tx0 Is0 Wa0 St0 (Hi0 s5.2))))) := hD
  refine lv_aload_n hx hb dL_law_34 rfl (lv_at hl 3 rfl) ?_
  refine lv_iconst (v := 4) hx hb dL_law_35 (by decide) ?_
  refine lv_bipush (v := 7) hx hb dL_law_36 (by decide) ?_
  refine va_iast hx hb hK hP hD hS 0 0 rfl rfl (inb_in (i := 4) (n := 10) (by decide)) dL_law_38 (fun H locs hP hD hS => ?_)
  have hP : va_P g.1 vwCl (cAr g aq 10 (upd (upd (fun _ => 0) 3 3) 4 7) ++ (cAr g aw 24 (fun _ => 0) ++ (cAr g ac 21 (fun _ => 0) ++ (cAr g al 24 (fun _ => 0) ++ wBR g s5.1 Tx0 Is0 Wa0 St0 (Hi0 s5.2))))) H := hP
  have hD : va_D (fun q => s.heap.size ≤ q) (cAr g aq 10 (upd (upd (fun _ => 0) 3 3) 4 7) ++ (cAr g aw 24 (fun _ => 0) ++ (cAr g ac 21 (fun _ => 0) ++ (cAr g al 24 (fun _ => 0) ++ wBR g s5.1 Tx0 Is0 Wa0 St0 (Hi0 s5.2))))) := hD
  refine lv_iconst (v := 0) hx hb dL_law_39 (by decide) ?_
  refine lv_istore (lv' := [(6, .int 0), (5, .ref al), (4, .ref ac), (3, .ref aw), (2, .ref aq), (1, .ref (s5.1 0 0)), (0, .ref b)]) hx hb dL_law_40 hl (by decide) rfl (fun ls hl => ?_)
  refine lv_iload hx hb dL_law_42 (lv_at hl 0 rfl) ?_
  refine lv_iconst (v := 3) hx hb dL_law_44 (by decide) ?_
  refine lv_icmp_ge (tgt := 85) hx hb dL_law_45 (by decide) (fun c9 => absurd c9 (by decide)) (fun _ => ?_)
  refine lv_aload hx hb dL_law_48 (lv_at hl 2 rfl) ?_
  refine lv_bipush (v := 7) hx hb dL_law_50 (by decide) ?_
  refine lv_iload hx hb dL_law_52 (lv_at hl 0 rfl) ?_
  refine lv_imul hx hb dL_law_54 ?_
  refine lv_eqi (z := 0) (by decide) ?_
  refine lv_iconst (v := -1) hx hb dL_law_55 (by decide) ?_
  refine va_iast hx hb hK hP hD hS 2 0 rfl rfl (inb_in (i := 0) (n := 21) (by decide)) dL_law_56 (fun H locs hP hD hS => ?_)
  have hP : va_P g.1 vwCl (cAr g aq 10 (upd (upd (fun _ => 0) 3 3) 4 7) ++ (cAr g aw 24 (fun _ => 0) ++ (cAr g ac 21 (upd (fun _ => 0) 0 (-1)) ++ (cAr g al 24 (fun _ => 0) ++ wBR g s5.1 Tx0 Is0 Wa0 St0 (Hi0 s5.2))))) H := hP
  have hD : va_D (fun q => s.heap.size ≤ q) (cAr g aq 10 (upd (upd (fun _ => 0) 3 3) 4 7) ++ (cAr g aw 24 (fun _ => 0) ++ (cAr g ac 21 (upd (fun _ => 0) 0 (-1)) ++ (cAr g al 24 (fun _ => 0) ++ wBR g s5.1 Tx0 Is0 Wa0 St0 (Hi0 s5.2))))) := hD
  refine lv_aload hx hb dL_law_57 (lv_at hl 2 rfl) ?_
  refine lv_bipush (v := 7) hx hb dL_law_59 (by decide) ?_
  refine lv_iload hx hb dL_law_61 (lv_at hl 0 rfl) ?_
  refine lv_imul hx hb dL_law_63 ?_
  refine lv_eqi (z := 0) (by decide) ?_
  refine lv_iconst (v := 1) hx hb dL_law_64 (by decide) ?_
  refine lv_iadd hx hb dL_law_65 ?_
  refine lv_eqi (z := 1) (by decide) ?_
  refine lv_iconst (v := -1) hx hb dL_law_66 (by decide) ?_
  refine va_iast hx hb hK hP hD hS 2 0 rfl rfl (inb_in (i := 1) (n := 21) (by decide)) dL_law_67 (fun H locs hP hD hS => ?_)
  have hP : va_P g.1 vwCl (cAr g aq 10 (upd (upd (fun _ => 0) 3 3) 4 7) ++ (cAr g aw 24 (fun _ => 0) ++ (cAr g ac 21 (upd (upd (fun _ => 0) 0 (-1)) 1 (-1)) ++ (cAr g al 24 (fun _ => 0) ++ wBR g s5.1 Tx0 Is0 Wa0 St0 (Hi0 s5.2))))) H := hP
  have hD : va_D (fun q => s.heap.size ≤ q) (cAr g aq 10 (upd (upd (fun _ => 0) 3 3) 4 7) ++ (cAr g aw 24 (fun _ => 0) ++ (cAr g ac 21 (upd (upd (fun _ => 0) 0 (-1)) 1 (-1)) ++ (cAr g al 24 (fun _ => 0) ++ wBR g s5.1 Tx0 Is0 Wa0 St0 (Hi0 s5.2))))) := hD
  refine lv_aload hx hb dL_law_68 (lv_at hl 2 rfl) ?_
  refine lv_bipush (v := 7) hx hb dL_law_70 (by decide) ?_
  refine lv_iload hx hb dL_law_72 (lv_at hl 0 rfl) ?_
  refine lv_imul hx hb dL_law_74 ?_
  refine lv_eqi (z := 0) (by decide) ?_
  refine lv_iconst (v := 2) hx hb dL_law_75 (by decide) ?_
  refine lv_iadd hx hb dL_law_76 ?_
  refine lv_eqi (z := 2) (by decide) ?_
  refine lv_iconst (v := -1) hx hb dL_law_77 (by decide) ?_
  refine va_iast hx hb hK hP hD hS 2 0 rfl rfl (inb_in (i := 2) (n := 21) (by decide)) dL_law_78 (fun H locs hP hD hS => ?_)
  have hP : va_P g.1 vwCl (cAr g aq 10 (upd (upd (fun _ => 0) 3 3) 4 7) ++ (cAr g aw 24 (fun _ => 0) ++ (cAr g ac 21 (upd (upd (upd (fun _ => 0) 0 (-1)) 1 (-1)) 2 (-1)) ++ (cAr g al 24 (fun _ => 0) ++ wBR g s5.1 Tx0 Is0 Wa0 St0 (Hi0 s5.2))))) H := hP
  have hD : va_D (fun q => s.heap.size ≤ q) (cAr g aq 10 (upd (upd (fun _ => 0) 3 3) 4 7) ++ (cAr g aw 24 (fun _ => 0) ++ (cAr g ac 21 (upd (upd (upd (fun _ => 0) 0 (-1)) 1 (-1)) 2 (-1)) ++ (cAr g al 24 (fun _ => 0) ++ wBR g s5.1 Tx0 Is0 Wa0 St0 (Hi0 s5.2))))) := hD
  refine lv_iinc (v := 1) (lv' := [(6, .int 1), (5, .ref al), (4, .ref ac), (3, .ref aw), (2, .ref aq), (1, .ref (s5.1 0 0)), (0, .ref b)]) hx hb dL_law_79 hl (k := 0) rfl (by decide) (by decide) rfl (fun ls hl => ?_)
  refine lv_goto (tgt := 42) hx hb dL_law_82 (by decide) ?_
  refine lv_iload hx hb dL_law_42 (lv_at hl 0 rfl) ?_
  refine lv_iconst (v := 3) hx hb dL_law_44 (by decide) ?_
  refine lv_icmp_ge (tgt := 85) hx hb dL_law_45 (by decide) (fun c9 => absurd c9 (by decide)) (fun _ => ?_)
  refine lv_aload hx hb dL_law_48 (lv_at hl 2 rfl) ?_
  refine lv_bipush (v := 7) hx hb dL_law_50 (by decide) ?_
  refine lv_iload hx hb dL_law_52 (lv_at hl 0 rfl) ?_
  refine lv_imul hx hb dL_law_54 ?_
  refine lv_eqi (z := 7) (by decide) ?_
  refine lv_iconst (v := -1) hx hb dL_law_55 (by decide) ?_
  refine va_iast hx hb hK hP hD hS 2 0 rfl rfl (inb_in (i := 7) (n := 21) (by decide)) dL_law_56 (fun H locs hP hD hS => ?_)
  have hP : va_P g.1 vwCl (cAr g aq 10 (upd (upd (fun _ => 0) 3 3) 4 7) ++ (cAr g aw 24 (fun _ => 0) ++ (cAr g ac 21 (upd (upd (upd (upd (fun _ => 0) 0 (-1)) 1 (-1)) 2 (-1)) 7 (-1)) ++ (cAr g al 24 (fun _ => 0) ++ wBR g s5.1 Tx0 Is0 Wa0 St0 (Hi0 s5.2))))) H := hP
  have hD : va_D (fun q => s.heap.size ≤ q) (cAr g aq 10 (upd (upd (fun _ => 0) 3 3) 4 7) ++ (cAr g aw 24 (fun _ => 0) ++ (cAr g ac 21 (upd (upd (upd (upd (fun _ => 0) 0 (-1)) 1 (-1)) 2 (-1)) 7 (-1)) ++ (cAr g al 24 (fun _ => 0) ++ wBR g s5.1 Tx0 Is0 Wa0 St0 (Hi0 s5.2))))) := hD
  refine lv_aload hx hb dL_law_57 (lv_at hl 2 rfl) ?_
  refine lv_bipush (v := 7) hx hb dL_law_59 (by decide) ?_
  refine lv_iload hx hb dL_law_61 (lv_at hl 0 rfl) ?_
  refine lv_imul hx hb dL_law_63 ?_
  refine lv_eqi (z := 7) (by decide) ?_
  refine lv_iconst (v := 1) hx hb dL_law_64 (by decide) ?_
  refine lv_iadd hx hb dL_law_65 ?_
  refine lv_eqi (z := 8) (by decide) ?_
  refine lv_iconst (v := -1) hx hb dL_law_66 (by decide) ?_
  refine va_iast hx hb hK hP hD hS 2 0 rfl rfl (inb_in (i := 8) (n := 21) (by decide)) dL_law_67 (fun H locs hP hD hS => ?_)
  have hP : va_P g.1 vwCl (cAr g aq 10 (upd (upd (fun _ => 0) 3 3) 4 7) ++ (cAr g aw 24 (fun _ => 0) ++ (cAr g ac 21 (upd (upd (upd (upd (upd (fun _ => 0) 0 (-1)) 1 (-1)) 2 (-1)) 7 (-1)) 8 (-1)) ++ (cAr g al 24 (fun _ => 0) ++ wBR g s5.1 Tx0 Is0 Wa0 St0 (Hi0 s5.2))))) H := hP
  have hD : va_D (fun q => s.heap.size ≤ q) (cAr g aq 10 (upd (upd (fun _ => 0) 3 3) 4 7) ++ (cAr g aw 24 (fun _ => 0) ++ (cAr g ac 21 (upd (upd (upd (upd (upd (fun _ => 0) 0 (-1)) 1 (-1)) 2 (-1)) 7 (-1)) 8 (-1)) ++ (cAr g al 24 (fun _ => 0) ++ wBR g s5.1 Tx0 Is0 Wa0 St0 (Hi0 s5.2))))) := hD
  refine lv_aload hx hb dL_law_68 (lv_at hl 2 rfl) ?_
  refine lv_bipush (v := 7) hx hb dL_law_70 (by decide) ?_
  refine lv_iload hx hb dL_law_72 (lv_at hl 0 rfl) ?_
  refine lv_imul hx hb dL_law_74 ?_
  refine lv_eqi (z := 7) (by decide) ?_
  refine lv_iconst (v := 2) hx hb dL_law_75 (by decide) ?_
  refine lv_iadd hx hb dL_law_76 ?_
  refine lv_eqi (z := 9) (by decide) ?_
  refine lv_iconst (v := -1) hx hb dL_law_77 (by decide) ?_
  refine va_iast hx hb hK hP hD hS 2 0 rfl rfl (inb_in (i := 9) (n := 21) (by decide)) dL_law_78 (fun H locs hP hD hS => ?_)
  have hP : va_P g.1 vwCl (cAr g aq 10 (upd (upd (fun _ => 0) 3 3) 4 7) ++ (cAr g aw 24 (fun _ => 0) ++ (cAr g ac 21 (upd (upd (upd (upd (upd (upd (fun _ => 0) 0 (-1)) 1 (-1)) 2 (-1)) 7 (-1)) 8 (-1)) 9 (-1)) ++ (cAr g al 24 (fun _ => 0) ++ wBR g s5.1 Tx0 Is0 Wa0 St0 (Hi0 s5.2))))) H := hP
  have hD : va_D (fun q => s.heap.size ≤ q) (cAr g aq 10 (upd (upd (fun _ => 0) 3 3) 4 7) ++ (cAr g aw 24 (fun _ => 0) ++ (cAr g ac 21 (upd (upd (upd (upd (upd (upd (fun _ => 0) 0 (-1)) 1 (-1)) 2 (-1)) 7 (-1)) 8 (-1)) 9 (-1)) ++ (cAr g al 24 (fun _ => 0) ++ wBR g s5.1 Tx0 Is0 Wa0 St0 (Hi0 s5.2))))) := hD
  refine lv_iinc (v := 2) (lv' := [(6, .int 2), (5, .ref al), (4, .ref ac), (3, .ref aw), (2, .ref aq), (1, .ref (s5.1 0 0)), (0, .ref b)]) hx hb dL_law_79 hl (k := 0) rfl (by decide) (by decide) rfl (fun ls hl => ?_)
  refine lv_goto (tgt := 42) hx hb dL_law_82 (by decide) ?_
  refine lv_iload hx hb dL_law_42 (lv_at hl 0 rfl) ?_
  refine lv_iconst (v := 3) hx hb dL_law_44 (by decide) ?_
  refine lv_icmp_ge (tgt := 85) hx hb dL_law_45 (by decide) (fun c9 => absurd c9 (by decide)) (fun _ => ?_)
  refine lv_aload hx hb dL_law_48 (lv_at hl 2 rfl) ?_
  refine lv_bipush (v := 7) hx hb dL_law_50 (by decide) ?_
  refine lv_iload hx hb dL_law_52 (lv_at hl 0 rfl) ?_
  refine lv_imul hx hb dL_law_54 ?_
  refine lv_eqi (z := 14) (by decide) ?_
  refine lv_iconst (v := -1) hx hb dL_law_55 (by decide) ?_
  refine va_iast hx hb hK hP hD hS 2 0 rfl rfl (inb_in (i := 14) (n := 21) (by decide)) dL_law_56 (fun H locs hP hD hS => ?_)
  have hP : va_P g.1 vwCl (cAr g aq 10 (upd (upd (fun _ => 0) 3 3) 4 7) ++ (cAr g aw 24 (fun _ => 0) ++ (cAr g ac 21 (upd (upd (upd (upd (upd (upd (upd (fun _ => 0) 0 (-1)) 1 (-1)) 2 (-1)) 7 (-1)) 8 (-1)) 9 (-1)) 14 (-1)) ++ (cAr g al 24 (fun _ => 0) ++ wBR g s5.1 Tx0 Is0 Wa0 St0 (Hi0 s5.2))))) H := hP
  have hD : va_D (fun q => s.heap.size ≤ q) (cAr g aq 10 (upd (upd (fun _ => 0) 3 3) 4 7) ++ (cAr g aw 24 (fun _ => 0) ++ (cAr g ac 21 (upd (upd (upd (upd (upd (upd (upd (fun _ => 0) 0 (-1)) 1 (-1)) 2 (-1)) 7 (-1)) 8 (-1)) 9 (-1)) 14 (-1)) ++ (cAr g al 24 (fun _ => 0) ++ wBR g s5.1 Tx0 Is0 Wa0 St0 (Hi0 s5.2))))) := hD
  refine lv_aload hx hb dL_law_57 (lv_at hl 2 rfl) ?_
  refine lv_bipush (v := 7) hx hb dL_law_59 (by decide) ?_
  refine lv_iload hx hb dL_law_61 (lv_at hl 0 rfl) ?_
  refine lv_imul hx hb dL_law_63 ?_
  refine lv_eqi (z := 14) (by decide) ?_
  refine lv_iconst (v := 1) hx hb dL_law_64 (by decide) ?_
  refine lv_iadd hx hb dL_law_65 ?_
  refine lv_eqi (z := 15) (by decide) ?_
  refine lv_iconst (v := -1) hx hb dL_law_66 (by decide) ?_
  refine va_iast hx hb hK hP hD hS 2 0 rfl rfl (inb_in (i := 15) (n := 21) (by decide)) dL_law_67 (fun H locs hP hD hS => ?_)
  have hP : va_P g.1 vwCl (cAr g aq 10 (upd (upd (fun _ => 0) 3 3) 4 7) ++ (cAr g aw 24 (fun _ => 0) ++ (cAr g ac 21 (upd (upd (upd (upd (upd (upd (upd (upd (fun _ => 0) 0 (-1)) 1 (-1)) 2 (-1)) 7 (-1)) 8 (-1)) 9 (-1)) 14 (-1)) 15 (-1)) ++ (cAr g al 24 (fun _ => 0) ++ wBR g s5.1 Tx0 Is0 Wa0 St0 (Hi0 s5.2))))) H := hP
  have hD : va_D (fun q => s.heap.size ≤ q) (cAr g aq 10 (upd (upd (fun _ => 0) 3 3) 4 7) ++ (cAr g aw 24 (fun _ => 0) ++ (cAr g ac 21 (upd (upd (upd (upd (upd (upd (upd (upd (fun _ => 0) 0 (-1)) 1 (-1)) 2 (-1)) 7 (-1)) 8 (-1)) 9 (-1)) 14 (-1)) 15 (-1)) ++ (cAr g al 24 (fun _ => 0) ++ wBR g s5.1 Tx0 Is0 Wa0 St0 (Hi0 s5.2))))) := hD
  refine lv_aload hx hb dL_law_68 (lv_at hl 2 rfl) ?_
  refine lv_bipush (v := 7) hx hb dL_law_70 (by decide) ?_
  refine lv_iload hx hb dL_law_72 (lv_at hl 0 rfl) ?_
  refine lv_imul hx hb dL_law_74 ?_
  refine lv_eqi (z := 14) (by decide) ?_
  refine lv_iconst (v := 2) hx hb dL_law_75 (by decide) ?_
  refine lv_iadd hx hb dL_law_76 ?_
  refine lv_eqi (z := 16) (by decide) ?_
  refine lv_iconst (v := -1) hx hb dL_law_77 (by decide) ?_
  refine va_iast hx hb hK hP hD hS 2 0 rfl rfl (inb_in (i := 16) (n := 21) (by decide)) dL_law_78 (fun H locs hP hD hS => ?_)
  have hP : va_P g.1 vwCl (cAr g aq 10 (upd (upd (fun _ => 0) 3 3) 4 7) ++ (cAr g aw 24 (fun _ => 0) ++ (cAr g ac 21 (upd (upd (upd (upd (upd (upd (upd (upd (upd (fun _ => 0) 0 (-1)) 1 (-1)) 2 (-1)) 7 (-1)) 8 (-1)) 9 (-1)) 14 (-1)) 15 (-1)) 16 (-1)) ++ (cAr g al 24 (fun _ => 0) ++ wBR g s5.1 Tx0 Is0 Wa0 St0 (Hi0 s5.2))))) H := hP
  have hD : va_D (fun q => s.heap.size ≤ q) (cAr g aq 10 (upd (upd (fun _ => 0) 3 3) 4 7) ++ (cAr g aw 24 (fun _ => 0) ++ (cAr g ac 21 (upd (upd (upd (upd (upd (upd (upd (upd (upd (fun _ => 0) 0 (-1)) 1 (-1)) 2 (-1)) 7 (-1)) 8 (-1)) 9 (-1)) 14 (-1)) 15 (-1)) 16 (-1)) ++ (cAr g al 24 (fun _ => 0) ++ wBR g s5.1 Tx0 Is0 Wa0 St0 (Hi0 s5.2))))) := hD
  refine lv_iinc (v := 3) (lv' := [(6, .int 3), (5, .ref al), (4, .ref ac), (3, .ref aw), (2, .ref aq), (1, .ref (s5.1 0 0)), (0, .ref b)]) hx hb dL_law_79 hl (k := 0) rfl (by decide) (by decide) rfl (fun ls hl => ?_)
  refine lv_goto (tgt := 42) hx hb dL_law_82 (by decide) ?_
  refine lv_iload hx hb dL_law_42 (lv_at hl 0 rfl) ?_
  refine lv_iconst (v := 3) hx hb dL_law_44 (by decide) ?_
  refine lv_icmp_ge (tgt := 85) hx hb dL_law_45 (by decide) (fun _ => ?_) (fun c9 => absurd (by decide) c9)
  refine lv_iconst (v := 0) hx hb dL_law_85 (by decide) ?_
  refine lv_istore (lv' := [(6, .int 0), (5, .ref al), (4, .ref ac), (3, .ref aw), (2, .ref aq), (1, .ref (s5.1 0 0)), (0, .ref b)]) hx hb dL_law_86 hl (by decide) rfl (fun ls hl => ?_)
  refine law_loop hst LC aq aw ac al s5.1 hL (fun H locs ls hS => ?_) 40 0 (vq := q_0) (vw := fun _ => 0) (vc := c_0) (vl := fun _ => 0) 96 1001 rfl (by decide) (by decide) (Inv_0 s5.2) hP hD hS (lv_sub hl [6, 5, 4, 3, 2, 1, 0] rfl)
  refine va_forget (fun q hq => hS.2.2 q hq) ?_
  exact lw_ret (s := s) (d0 := s.drawn) (Drawn.sameBut.refl s.drawn lw_cs) hx hb hr hlocks dL_law_579
end WST
