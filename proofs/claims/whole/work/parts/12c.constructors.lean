section CTO
abbrev rX6_init : Room := { frames := 1, cells := 5, slots := 524, locals := 23 }
theorem hdX6_init : yX6_init.cls ≠ "java/lang/invoke/MethodHandle" ∧ yX6_init.cls ≠ "java/lang/invoke/VarHandle" ∧ (parseMethodDescriptor yX6_init.desc).map (fun d => d.parameters.length) = some 0 := by decide +kernel
def ar0 : AI := upd (upd (fun _ => 0) 3 3) 4 7
def ar9 : AI := (mo_set (mo_set (mo_set (mo_set (mo_set (mo_set (mo_set (mo_set (mo_set ar0 0 0 (-1)) 0 1 (-1)) 0 2 (-1)) 1 0 (-1)) 1 1 (-1)) 1 2 (-1)) 2 0 (-1)) 2 1 (-1)) 2 2 (-1))
def Mo0 : Mo := (0, ar9, (fun _ => 0), 0, (fun _ => 0), 0, (fun _ => 0), 0, 0, 0, 0, (fun _ => 0), 0, 0, 0)
set_option maxRecDepth 100000 in
set_option maxHeartbeats 8000000 in
theorem nX6_init (l : Launch) (g : GG) : CN (ι := Nat → Nat) l g yX6_init wsX6_init rX6_init 6 [.int 0, .null, .null, .int 0, .null, .int 0, .null, .int 0, .int 0, .int 0, .int 0, .null, .int 0, .int 0, .long 0] (fun a => cMo g a Mo0) (fun a => a 0) 5 524 := by
  refine CN_of (cc := cX6_init) (maxL := 2) (by decide +kernel) rfl (by decide) rfl ?_
  intro p e su m args below meth c A Q ls q hx hb hml hown hts hK hN hO hA hin hP hD hS hl hend
  have hinX6 : ∀ w ∈ u_ws RX6 TX6 15, w ∈ wsX6_init := fun _ h9 => List.mem_cons_of_mem _ (List.mem_append_right _ h9)
  refine lv_aload_n hx hb dX6_init_0 rfl (lv_at hl 0 rfl) ?_
  refine W.objInit hx hb hown (hts (.methodLink RX6 1 objectInit) (List.mem_of_getElem? (i := 1) rfl)) (hts (.instanceMethod objectInit) (List.mem_of_getElem? (i := 2) rfl)) (hts (.code objectInit ⟨#[0xb1]⟩ 1 none) (List.mem_of_getElem? (i := 3) rfl)) rfl (by rw [hml]; exact hl.1) rfl dX6_init_1 (Nat.le_of_ble_eq_true rfl) (Nat.le_of_ble_eq_true rfl) ?_
  refine W.eq (g2 := F0 m 4 ls []) rfl ?_
  refine lv_aload_n hx hb dX6_init_4 rfl (lv_at hl 0 rfl) ?_
  refine lv_bipush (v := 55) hx hb dX6_init_5 (by decide) ?_
  refine va_newa (atype := .int) hx hb (hts (.arrayClass .int) (List.mem_of_getElem? (i := 4) rfl)) rfl hK hP hD hS hA (a0 := (55, .inl (fun _ => 0))) (fun _ => rfl) (by decide) (by decide) (by decide) (Nat.le_of_ble_eq_true rfl) (Nat.le_of_ble_eq_true rfl) dX6_init_7 (fun a1 cA H hKn hP hD hS => ?_)
  have ec : cA = g.2.1 := arr_one hK (i := 0) rfl hKn (by decide)
  subst ec
  have hP : va_P g.1 vwCl ([(q, .inr (6, [.int 0, .null, .null, .int 0, .null, .int 0, .null, .int 0, .int 0, .int 0, .int 0, .null, .int 0, .int 0, .long 0]))] ++ ([(a1, .inl (g.2.1, 55, .inl (fun _ => 0)))])) H := hP
  have hD : va_D A ([(q, .inr (6, [.int 0, .null, .null, .int 0, .null, .int 0, .null, .int 0, .int 0, .int 0, .int 0, .null, .int 0, .int 0, .long 0]))] ++ ([(a1, .inl (g.2.1, 55, .inl (fun _ => 0)))])) := hD
  refine W.widen (k := 1) (n := 55) (by decide) (by decide) ?_
  refine va_putF (D := g.1) (ci := 6) (v := .ref a1) (ty := (.array .int)) (C := RX6) (T := TX6) (N := 15) hx hb hts hinX6 tyX6 tyX6_ok nmX6 hown hK hP hD hS 0 rfl rfl 1 (by decide) (hts (.fieldLink RX6 7 "BarredRungsModel" "state" "[I") (List.mem_of_getElem? (i := 5) rfl)) (fun _ h9 => h9) rfl hin rfl (by decide +kernel) rfl rfl (Nat.le_of_ble_eq_true rfl) dX6_init_9 (fun H locs hP hD hS => ?_)
  have hP : va_P g.1 vwCl ([(q, .inr (6, [.int 0, .ref a1, .null, .int 0, .null, .int 0, .null, .int 0, .int 0, .int 0, .int 0, .null, .int 0, .int 0, .long 0]))] ++ ([(a1, .inl (g.2.1, 55, .inl (fun _ => 0)))])) H := hP
  have hD : va_D A ([(q, .inr (6, [.int 0, .ref a1, .null, .int 0, .null, .int 0, .null, .int 0, .int 0, .int 0, .int 0, .null, .int 0, .int 0, .long 0]))] ++ ([(a1, .inl (g.2.1, 55, .inl (fun _ => 0)))])) := hD
  refine lv_aload_n hx hb dX6_init_12 rfl (lv_at hl 0 rfl) ?_
  refine lv_sipush (v := 330) hx hb dX6_init_13 (by decide) ?_
  refine va_newa (atype := .int) hx hb (hts (.arrayClass .int) (List.mem_of_getElem? (i := 4) rfl)) rfl hK hP hD hS hA (a0 := (330, .inl (fun _ => 0))) (fun _ => rfl) (by decide) (by decide) (by decide) (Nat.le_of_ble_eq_true rfl) (Nat.le_of_ble_eq_true rfl) dX6_init_16 (fun a2 cA H hKn hP hD hS => ?_)
  have ec : cA = g.2.1 := arr_one hK (i := 0) rfl hKn (by decide)
  subst ec
  have hP : va_P g.1 vwCl ([(q, .inr (6, [.int 0, .ref a1, .null, .int 0, .null, .int 0, .null, .int 0, .int 0, .int 0, .int 0, .null, .int 0, .int 0, .long 0]))] ++ ([(a1, .inl (g.2.1, 55, .inl (fun _ => 0)))] ++ ([(a2, .inl (g.2.1, 330, .inl (fun _ => 0)))]))) H := hP
  have hD : va_D A ([(q, .inr (6, [.int 0, .ref a1, .null, .int 0, .null, .int 0, .null, .int 0, .int 0, .int 0, .int 0, .null, .int 0, .int 0, .long 0]))] ++ ([(a1, .inl (g.2.1, 55, .inl (fun _ => 0)))] ++ ([(a2, .inl (g.2.1, 330, .inl (fun _ => 0)))]))) := hD
  refine W.widen (k := 2) (n := 385) (by decide) (by decide) ?_
  refine va_putF (D := g.1) (ci := 6) (v := .ref a2) (ty := (.array .int)) (C := RX6) (T := TX6) (N := 15) hx hb hts hinX6 tyX6 tyX6_ok nmX6 hown hK hP hD hS 0 rfl rfl 2 (by decide) (hts (.fieldLink RX6 13 "BarredRungsModel" "saved" "[I") (List.mem_of_getElem? (i := 6) rfl)) (fun _ h9 => h9) rfl hin rfl (by decide +kernel) rfl rfl (Nat.le_of_ble_eq_true rfl) dX6_init_18 (fun H locs hP hD hS => ?_)
  have hP : va_P g.1 vwCl ([(q, .inr (6, [.int 0, .ref a1, .ref a2, .int 0, .null, .int 0, .null, .int 0, .int 0, .int 0, .int 0, .null, .int 0, .int 0, .long 0]))] ++ ([(a1, .inl (g.2.1, 55, .inl (fun _ => 0)))] ++ ([(a2, .inl (g.2.1, 330, .inl (fun _ => 0)))]))) H := hP
  have hD : va_D A ([(q, .inr (6, [.int 0, .ref a1, .ref a2, .int 0, .null, .int 0, .null, .int 0, .int 0, .int 0, .int 0, .null, .int 0, .int 0, .long 0]))] ++ ([(a1, .inl (g.2.1, 55, .inl (fun _ => 0)))] ++ ([(a2, .inl (g.2.1, 330, .inl (fun _ => 0)))]))) := hD
  refine lv_aload_n hx hb dX6_init_21 rfl (lv_at hl 0 rfl) ?_
  refine lv_bipush (v := 55) hx hb dX6_init_22 (by decide) ?_
  refine va_newa (atype := .int) hx hb (hts (.arrayClass .int) (List.mem_of_getElem? (i := 4) rfl)) rfl hK hP hD hS hA (a0 := (55, .inl (fun _ => 0))) (fun _ => rfl) (by decide) (by decide) (by decide) (Nat.le_of_ble_eq_true rfl) (Nat.le_of_ble_eq_true rfl) dX6_init_24 (fun a3 cA H hKn hP hD hS => ?_)
  have ec : cA = g.2.1 := arr_one hK (i := 0) rfl hKn (by decide)
  subst ec
  have hP : va_P g.1 vwCl ([(q, .inr (6, [.int 0, .ref a1, .ref a2, .int 0, .null, .int 0, .null, .int 0, .int 0, .int 0, .int 0, .null, .int 0, .int 0, .long 0]))] ++ ([(a1, .inl (g.2.1, 55, .inl (fun _ => 0)))] ++ ([(a2, .inl (g.2.1, 330, .inl (fun _ => 0)))] ++ ([(a3, .inl (g.2.1, 55, .inl (fun _ => 0)))])))) H := hP
  have hD : va_D A ([(q, .inr (6, [.int 0, .ref a1, .ref a2, .int 0, .null, .int 0, .null, .int 0, .int 0, .int 0, .int 0, .null, .int 0, .int 0, .long 0]))] ++ ([(a1, .inl (g.2.1, 55, .inl (fun _ => 0)))] ++ ([(a2, .inl (g.2.1, 330, .inl (fun _ => 0)))] ++ ([(a3, .inl (g.2.1, 55, .inl (fun _ => 0)))])))) := hD
  refine W.widen (k := 3) (n := 440) (by decide) (by decide) ?_
  refine va_putF (D := g.1) (ci := 6) (v := .ref a3) (ty := (.array .int)) (C := RX6) (T := TX6) (N := 15) hx hb hts hinX6 tyX6 tyX6_ok nmX6 hown hK hP hD hS 0 rfl rfl 4 (by decide) (hts (.fieldLink RX6 16 "BarredRungsModel" "snapshot" "[I") (List.mem_of_getElem? (i := 7) rfl)) (fun _ h9 => h9) rfl hin rfl (by decide +kernel) rfl rfl (Nat.le_of_ble_eq_true rfl) dX6_init_26 (fun H locs hP hD hS => ?_)
  have hP : va_P g.1 vwCl ([(q, .inr (6, [.int 0, .ref a1, .ref a2, .int 0, .ref a3, .int 0, .null, .int 0, .int 0, .int 0, .int 0, .null, .int 0, .int 0, .long 0]))] ++ ([(a1, .inl (g.2.1, 55, .inl (fun _ => 0)))] ++ ([(a2, .inl (g.2.1, 330, .inl (fun _ => 0)))] ++ ([(a3, .inl (g.2.1, 55, .inl (fun _ => 0)))])))) H := hP
  have hD : va_D A ([(q, .inr (6, [.int 0, .ref a1, .ref a2, .int 0, .ref a3, .int 0, .null, .int 0, .int 0, .int 0, .int 0, .null, .int 0, .int 0, .long 0]))] ++ ([(a1, .inl (g.2.1, 55, .inl (fun _ => 0)))] ++ ([(a2, .inl (g.2.1, 330, .inl (fun _ => 0)))] ++ ([(a3, .inl (g.2.1, 55, .inl (fun _ => 0)))])))) := hD
  refine lv_aload_n hx hb dX6_init_29 rfl (lv_at hl 0 rfl) ?_
  refine lv_bipush (v := 60) hx hb dX6_init_30 (by decide) ?_
  refine va_newa (atype := .int) hx hb (hts (.arrayClass .int) (List.mem_of_getElem? (i := 4) rfl)) rfl hK hP hD hS hA (a0 := (60, .inl (fun _ => 0))) (fun _ => rfl) (by decide) (by decide) (by decide) (Nat.le_of_ble_eq_true rfl) (Nat.le_of_ble_eq_true rfl) dX6_init_32 (fun a4 cA H hKn hP hD hS => ?_)
  have ec : cA = g.2.1 := arr_one hK (i := 0) rfl hKn (by decide)
  subst ec
  have hP : va_P g.1 vwCl ([(q, .inr (6, [.int 0, .ref a1, .ref a2, .int 0, .ref a3, .int 0, .null, .int 0, .int 0, .int 0, .int 0, .null, .int 0, .int 0, .long 0]))] ++ ([(a1, .inl (g.2.1, 55, .inl (fun _ => 0)))] ++ ([(a2, .inl (g.2.1, 330, .inl (fun _ => 0)))] ++ ([(a3, .inl (g.2.1, 55, .inl (fun _ => 0)))] ++ ([(a4, .inl (g.2.1, 60, .inl (fun _ => 0)))]))))) H := hP
  have hD : va_D A ([(q, .inr (6, [.int 0, .ref a1, .ref a2, .int 0, .ref a3, .int 0, .null, .int 0, .int 0, .int 0, .int 0, .null, .int 0, .int 0, .long 0]))] ++ ([(a1, .inl (g.2.1, 55, .inl (fun _ => 0)))] ++ ([(a2, .inl (g.2.1, 330, .inl (fun _ => 0)))] ++ ([(a3, .inl (g.2.1, 55, .inl (fun _ => 0)))] ++ ([(a4, .inl (g.2.1, 60, .inl (fun _ => 0)))]))))) := hD
  refine W.widen (k := 4) (n := 500) (by decide) (by decide) ?_
  refine va_putF (D := g.1) (ci := 6) (v := .ref a4) (ty := (.array .int)) (C := RX6) (T := TX6) (N := 15) hx hb hts hinX6 tyX6 tyX6_ok nmX6 hown hK hP hD hS 0 rfl rfl 6 (by decide) (hts (.fieldLink RX6 19 "BarredRungsModel" "buffer" "[I") (List.mem_of_getElem? (i := 8) rfl)) (fun _ h9 => h9) rfl hin rfl (by decide +kernel) rfl rfl (Nat.le_of_ble_eq_true rfl) dX6_init_34 (fun H locs hP hD hS => ?_)
  have hP : va_P g.1 vwCl ([(q, .inr (6, [.int 0, .ref a1, .ref a2, .int 0, .ref a3, .int 0, .ref a4, .int 0, .int 0, .int 0, .int 0, .null, .int 0, .int 0, .long 0]))] ++ ([(a1, .inl (g.2.1, 55, .inl (fun _ => 0)))] ++ ([(a2, .inl (g.2.1, 330, .inl (fun _ => 0)))] ++ ([(a3, .inl (g.2.1, 55, .inl (fun _ => 0)))] ++ ([(a4, .inl (g.2.1, 60, .inl (fun _ => 0)))]))))) H := hP
  have hD : va_D A ([(q, .inr (6, [.int 0, .ref a1, .ref a2, .int 0, .ref a3, .int 0, .ref a4, .int 0, .int 0, .int 0, .int 0, .null, .int 0, .int 0, .long 0]))] ++ ([(a1, .inl (g.2.1, 55, .inl (fun _ => 0)))] ++ ([(a2, .inl (g.2.1, 330, .inl (fun _ => 0)))] ++ ([(a3, .inl (g.2.1, 55, .inl (fun _ => 0)))] ++ ([(a4, .inl (g.2.1, 60, .inl (fun _ => 0)))]))))) := hD
  refine lv_aload_n hx hb dX6_init_37 rfl (lv_at hl 0 rfl) ?_
  refine lv_bipush (v := 24) hx hb dX6_init_38 (by decide) ?_
  refine va_newa (atype := .int) hx hb (hts (.arrayClass .int) (List.mem_of_getElem? (i := 4) rfl)) rfl hK hP hD hS hA (a0 := (24, .inl (fun _ => 0))) (fun _ => rfl) (by decide) (by decide) (by decide) (Nat.le_of_ble_eq_true rfl) (Nat.le_of_ble_eq_true rfl) dX6_init_40 (fun a5 cA H hKn hP hD hS => ?_)
  have ec : cA = g.2.1 := arr_one hK (i := 0) rfl hKn (by decide)
  subst ec
  have hP : va_P g.1 vwCl ([(q, .inr (6, [.int 0, .ref a1, .ref a2, .int 0, .ref a3, .int 0, .ref a4, .int 0, .int 0, .int 0, .int 0, .null, .int 0, .int 0, .long 0]))] ++ ([(a1, .inl (g.2.1, 55, .inl (fun _ => 0)))] ++ ([(a2, .inl (g.2.1, 330, .inl (fun _ => 0)))] ++ ([(a3, .inl (g.2.1, 55, .inl (fun _ => 0)))] ++ ([(a4, .inl (g.2.1, 60, .inl (fun _ => 0)))] ++ ([(a5, .inl (g.2.1, 24, .inl (fun _ => 0)))])))))) H := hP
  have hD : va_D A ([(q, .inr (6, [.int 0, .ref a1, .ref a2, .int 0, .ref a3, .int 0, .ref a4, .int 0, .int 0, .int 0, .int 0, .null, .int 0, .int 0, .long 0]))] ++ ([(a1, .inl (g.2.1, 55, .inl (fun _ => 0)))] ++ ([(a2, .inl (g.2.1, 330, .inl (fun _ => 0)))] ++ ([(a3, .inl (g.2.1, 55, .inl (fun _ => 0)))] ++ ([(a4, .inl (g.2.1, 60, .inl (fun _ => 0)))] ++ ([(a5, .inl (g.2.1, 24, .inl (fun _ => 0)))])))))) := hD
  refine W.widen (k := 5) (n := 524) (by decide) (by decide) ?_
  refine va_putF (D := g.1) (ci := 6) (v := .ref a5) (ty := (.array .int)) (C := RX6) (T := TX6) (N := 15) hx hb hts hinX6 tyX6 tyX6_ok nmX6 hown hK hP hD hS 0 rfl rfl 11 (by decide) (hts (.fieldLink RX6 22 "BarredRungsModel" "links" "[I") (List.mem_of_getElem? (i := 9) rfl)) (fun _ h9 => h9) rfl hin rfl (by decide +kernel) rfl rfl (Nat.le_of_ble_eq_true rfl) dX6_init_42 (fun H locs hP hD hS => ?_)
  have hP : va_P g.1 vwCl ([(q, .inr (6, [.int 0, .ref a1, .ref a2, .int 0, .ref a3, .int 0, .ref a4, .int 0, .int 0, .int 0, .int 0, .ref a5, .int 0, .int 0, .long 0]))] ++ ([(a1, .inl (g.2.1, 55, .inl (fun _ => 0)))] ++ ([(a2, .inl (g.2.1, 330, .inl (fun _ => 0)))] ++ ([(a3, .inl (g.2.1, 55, .inl (fun _ => 0)))] ++ ([(a4, .inl (g.2.1, 60, .inl (fun _ => 0)))] ++ ([(a5, .inl (g.2.1, 24, .inl (fun _ => 0)))])))))) H := hP
  have hD : va_D A ([(q, .inr (6, [.int 0, .ref a1, .ref a2, .int 0, .ref a3, .int 0, .ref a4, .int 0, .int 0, .int 0, .int 0, .ref a5, .int 0, .int 0, .long 0]))] ++ ([(a1, .inl (g.2.1, 55, .inl (fun _ => 0)))] ++ ([(a2, .inl (g.2.1, 330, .inl (fun _ => 0)))] ++ ([(a3, .inl (g.2.1, 55, .inl (fun _ => 0)))] ++ ([(a4, .inl (g.2.1, 60, .inl (fun _ => 0)))] ++ ([(a5, .inl (g.2.1, 24, .inl (fun _ => 0)))])))))) := hD
  refine lv_aload_n hx hb dX6_init_45 rfl (lv_at hl 0 rfl) ?_
  refine va_get (D := g.1) (ci := 6) (v := .ref a1) (C := RX6) (T := TX6) (N := 15) hx hb hts hinX6 hown hK hP 0 rfl rfl 1 (by decide) (hts (.fieldLink RX6 7 "BarredRungsModel" "state" "[I") (List.mem_of_getElem? (i := 5) rfl)) (fun _ h9 => h9) rfl dX6_init_46 ?_
  refine lv_iconst (v := 3) hx hb dX6_init_49 (by decide) ?_
  refine lv_iconst (v := 3) hx hb dX6_init_50 (by decide) ?_
  refine va_iast hx hb hK hP hD hS 1 0 rfl rfl (inb_in (i := 3) (n := 55) (by decide)) dX6_init_51 (fun H locs hP hD hS => ?_)
  have hP : va_P g.1 vwCl ([(q, .inr (6, [.int 0, .ref a1, .ref a2, .int 0, .ref a3, .int 0, .ref a4, .int 0, .int 0, .int 0, .int 0, .ref a5, .int 0, .int 0, .long 0]))] ++ ([(a1, .inl (g.2.1, 55, .inl (upd (fun _ => 0) 3 3)))] ++ ([(a2, .inl (g.2.1, 330, .inl (fun _ => 0)))] ++ ([(a3, .inl (g.2.1, 55, .inl (fun _ => 0)))] ++ ([(a4, .inl (g.2.1, 60, .inl (fun _ => 0)))] ++ ([(a5, .inl (g.2.1, 24, .inl (fun _ => 0)))])))))) H := hP
  have hD : va_D A ([(q, .inr (6, [.int 0, .ref a1, .ref a2, .int 0, .ref a3, .int 0, .ref a4, .int 0, .int 0, .int 0, .int 0, .ref a5, .int 0, .int 0, .long 0]))] ++ ([(a1, .inl (g.2.1, 55, .inl (upd (fun _ => 0) 3 3)))] ++ ([(a2, .inl (g.2.1, 330, .inl (fun _ => 0)))] ++ ([(a3, .inl (g.2.1, 55, .inl (fun _ => 0)))] ++ ([(a4, .inl (g.2.1, 60, .inl (fun _ => 0)))] ++ ([(a5, .inl (g.2.1, 24, .inl (fun _ => 0)))])))))) := hD
  refine lv_aload_n hx hb dX6_init_52 rfl (lv_at hl 0 rfl) ?_
  refine va_get (D := g.1) (ci := 6) (v := .ref a1) (C := RX6) (T := TX6) (N := 15) hx hb hts hinX6 hown hK hP 0 rfl rfl 1 (by decide) (hts (.fieldLink RX6 7 "BarredRungsModel" "state" "[I") (List.mem_of_getElem? (i := 5) rfl)) (fun _ h9 => h9) rfl dX6_init_53 ?_
  refine lv_iconst (v := 4) hx hb dX6_init_56 (by decide) ?_
  refine lv_bipush (v := 7) hx hb dX6_init_57 (by decide) ?_
  refine va_iast hx hb hK hP hD hS 1 0 rfl rfl (inb_in (i := 4) (n := 55) (by decide)) dX6_init_59 (fun H locs hP hD hS => ?_)
  have hP : va_P g.1 vwCl ([(q, .inr (6, [.int 0, .ref a1, .ref a2, .int 0, .ref a3, .int 0, .ref a4, .int 0, .int 0, .int 0, .int 0, .ref a5, .int 0, .int 0, .long 0]))] ++ ([(a1, .inl (g.2.1, 55, .inl (upd (upd (fun _ => 0) 3 3) 4 7)))] ++ ([(a2, .inl (g.2.1, 330, .inl (fun _ => 0)))] ++ ([(a3, .inl (g.2.1, 55, .inl (fun _ => 0)))] ++ ([(a4, .inl (g.2.1, 60, .inl (fun _ => 0)))] ++ ([(a5, .inl (g.2.1, 24, .inl (fun _ => 0)))])))))) H := hP
  have hD : va_D A ([(q, .inr (6, [.int 0, .ref a1, .ref a2, .int 0, .ref a3, .int 0, .ref a4, .int 0, .int 0, .int 0, .int 0, .ref a5, .int 0, .int 0, .long 0]))] ++ ([(a1, .inl (g.2.1, 55, .inl (upd (upd (fun _ => 0) 3 3) 4 7)))] ++ ([(a2, .inl (g.2.1, 330, .inl (fun _ => 0)))] ++ ([(a3, .inl (g.2.1, 55, .inl (fun _ => 0)))] ++ ([(a4, .inl (g.2.1, 60, .inl (fun _ => 0)))] ++ ([(a5, .inl (g.2.1, 24, .inl (fun _ => 0)))])))))) := hD
  obtain ⟨am, eam⟩ : ∃ am : Nat → Nat, am = (fun i => if i = 0 then q else if i = 1 then a1 else if i = 2 then a2 else if i = 3 then a3 else if i = 4 then a4 else if i = 5 then a5 else 0) := ⟨_, rfl⟩
  have eq0 : am 0 = q := by rw [eam]; rfl
  have hP : va_P g.1 vwCl (cMo g am ((0, ar0, (fun _ => 0), 0, (fun _ => 0), 0, (fun _ => 0), 0, 0, 0, 0, (fun _ => 0), 0, 0, 0) : Mo)) H := by rw [eam]; exact hP
  have hD : va_D A (cMo g am ((0, ar0, (fun _ => 0), 0, (fun _ => 0), 0, (fun _ => 0), 0, 0, 0, 0, (fun _ => 0), 0, 0, 0) : Mo)) := by rw [eam]; exact hD
  rw [← eq0] at hl
  refine lv_iconst (v := 0) hx hb dX6_init_60 (by decide) ?_
  refine lv_istore_n (lv' := [(1, .int 0), (0, .ref (am 0))]) hx hb dX6_init_61 rfl hl (by decide) rfl (fun ls hl => ?_)
  refine lv_iload_n hx hb dX6_init_62 rfl (lv_at hl 0 rfl) ?_
  refine lv_iconst (v := 3) hx hb dX6_init_63 (by decide) ?_
  refine lv_icmp_ge (tgt := 94) hx hb dX6_init_64 (by decide) (fun c9 => absurd c9 (by decide)) (fun _ => ?_)
  refine lv_aload_n hx hb dX6_init_67 rfl (lv_at hl 1 rfl) ?_
  refine lv_iload_n hx hb dX6_init_68 rfl (lv_at hl 0 rfl) ?_
  refine lv_iconst (v := 0) hx hb dX6_init_69 (by decide) ?_
  refine lv_iconst (v := -1) hx hb dX6_init_70 (by decide) ?_
  have hs : fX6_setOf ((0, ar0, (fun _ => 0), 0, (fun _ => 0), 0, (fun _ => 0), 0, 0, 0, 0, (fun _ => 0), 0, 0, 0) : Mo) 0 0 (-1) = some ((0, (mo_set ar0 0 0 (-1)), (fun _ => 0), 0, (fun _ => 0), 0, (fun _ => 0), 0, 0, 0, 0, (fun _ => 0), 0, 0, 0) : Mo) := rfl
  refine aft_w (st1 := []) rfl (runV (As := [.int 0, .int 0, .int (-1)]) (rest := []) ⟨hx, hb, hml, hown, hts⟩ (kX6_setOf l g am hs) (cwV 3 hts gX6_init_X6_setOf rfl rfl rfl hdX6_setOf ⟨Nat.le_of_ble_eq_true rfl, Nat.le_of_ble_eq_true rfl⟩) hK hN hP hD (va_recv hK hP (ci := 6) (q0 := 0) rfl rfl) rfl hl.1 rfl (Nat.le_of_ble_eq_true rfl) dX6_init_71 ⟨Nat.le_of_ble_eq_true rfl, Nat.le_of_ble_eq_true rfl⟩) hD hS hA (fun H locs hP hD hS => ?_)
  refine lv_aload_n hx hb dX6_init_74 rfl (lv_at hl 1 rfl) ?_
  refine lv_iload_n hx hb dX6_init_75 rfl (lv_at hl 0 rfl) ?_
  refine lv_iconst (v := 1) hx hb dX6_init_76 (by decide) ?_
  refine lv_iconst (v := -1) hx hb dX6_init_77 (by decide) ?_
  have hs : fX6_setOf ((0, (mo_set ar0 0 0 (-1)), (fun _ => 0), 0, (fun _ => 0), 0, (fun _ => 0), 0, 0, 0, 0, (fun _ => 0), 0, 0, 0) : Mo) 0 1 (-1) = some ((0, (mo_set (mo_set ar0 0 0 (-1)) 0 1 (-1)), (fun _ => 0), 0, (fun _ => 0), 0, (fun _ => 0), 0, 0, 0, 0, (fun _ => 0), 0, 0, 0) : Mo) := rfl
  refine aft_w (st1 := []) rfl (runV (As := [.int 0, .int 1, .int (-1)]) (rest := []) ⟨hx, hb, hml, hown, hts⟩ (kX6_setOf l g am hs) (cwV 3 hts gX6_init_X6_setOf rfl rfl rfl hdX6_setOf ⟨Nat.le_of_ble_eq_true rfl, Nat.le_of_ble_eq_true rfl⟩) hK hN hP hD (va_recv hK hP (ci := 6) (q0 := 0) rfl rfl) rfl hl.1 rfl (Nat.le_of_ble_eq_true rfl) dX6_init_78 ⟨Nat.le_of_ble_eq_true rfl, Nat.le_of_ble_eq_true rfl⟩) hD hS hA (fun H locs hP hD hS => ?_)
  refine lv_aload_n hx hb dX6_init_81 rfl (lv_at hl 1 rfl) ?_
  refine lv_iload_n hx hb dX6_init_82 rfl (lv_at hl 0 rfl) ?_
  refine lv_iconst (v := 2) hx hb dX6_init_83 (by decide) ?_
  refine lv_iconst (v := -1) hx hb dX6_init_84 (by decide) ?_
  have hs : fX6_setOf ((0, (mo_set (mo_set ar0 0 0 (-1)) 0 1 (-1)), (fun _ => 0), 0, (fun _ => 0), 0, (fun _ => 0), 0, 0, 0, 0, (fun _ => 0), 0, 0, 0) : Mo) 0 2 (-1) = some ((0, (mo_set (mo_set (mo_set ar0 0 0 (-1)) 0 1 (-1)) 0 2 (-1)), (fun _ => 0), 0, (fun _ => 0), 0, (fun _ => 0), 0, 0, 0, 0, (fun _ => 0), 0, 0, 0) : Mo) := rfl
  refine aft_w (st1 := []) rfl (runV (As := [.int 0, .int 2, .int (-1)]) (rest := []) ⟨hx, hb, hml, hown, hts⟩ (kX6_setOf l g am hs) (cwV 3 hts gX6_init_X6_setOf rfl rfl rfl hdX6_setOf ⟨Nat.le_of_ble_eq_true rfl, Nat.le_of_ble_eq_true rfl⟩) hK hN hP hD (va_recv hK hP (ci := 6) (q0 := 0) rfl rfl) rfl hl.1 rfl (Nat.le_of_ble_eq_true rfl) dX6_init_85 ⟨Nat.le_of_ble_eq_true rfl, Nat.le_of_ble_eq_true rfl⟩) hD hS hA (fun H locs hP hD hS => ?_)
  refine lv_iinc (v := 1) (lv' := [(1, .int 1), (0, .ref (am 0))]) hx hb dX6_init_88 hl (k := 0) rfl (by decide) (by decide) rfl (fun ls hl => ?_)
  refine lv_goto (tgt := 62) hx hb dX6_init_91 (by decide) ?_
  refine lv_iload_n hx hb dX6_init_62 rfl (lv_at hl 0 rfl) ?_
  refine lv_iconst (v := 3) hx hb dX6_init_63 (by decide) ?_
  refine lv_icmp_ge (tgt := 94) hx hb dX6_init_64 (by decide) (fun c9 => absurd c9 (by decide)) (fun _ => ?_)
  refine lv_aload_n hx hb dX6_init_67 rfl (lv_at hl 1 rfl) ?_
  refine lv_iload_n hx hb dX6_init_68 rfl (lv_at hl 0 rfl) ?_
  refine lv_iconst (v := 0) hx hb dX6_init_69 (by decide) ?_
  refine lv_iconst (v := -1) hx hb dX6_init_70 (by decide) ?_
  have hs : fX6_setOf ((0, (mo_set (mo_set (mo_set ar0 0 0 (-1)) 0 1 (-1)) 0 2 (-1)), (fun _ => 0), 0, (fun _ => 0), 0, (fun _ => 0), 0, 0, 0, 0, (fun _ => 0), 0, 0, 0) : Mo) 1 0 (-1) = some ((0, (mo_set (mo_set (mo_set (mo_set ar0 0 0 (-1)) 0 1 (-1)) 0 2 (-1)) 1 0 (-1)), (fun _ => 0), 0, (fun _ => 0), 0, (fun _ => 0), 0, 0, 0, 0, (fun _ => 0), 0, 0, 0) : Mo) := rfl
  refine aft_w (st1 := []) rfl (runV (As := [.int 1, .int 0, .int (-1)]) (rest := []) ⟨hx, hb, hml, hown, hts⟩ (kX6_setOf l g am hs) (cwV 3 hts gX6_init_X6_setOf rfl rfl rfl hdX6_setOf ⟨Nat.le_of_ble_eq_true rfl, Nat.le_of_ble_eq_true rfl⟩) hK hN hP hD (va_recv hK hP (ci := 6) (q0 := 0) rfl rfl) rfl hl.1 rfl (Nat.le_of_ble_eq_true rfl) dX6_init_71 ⟨Nat.le_of_ble_eq_true rfl, Nat.le_of_ble_eq_true rfl⟩) hD hS hA (fun H locs hP hD hS => ?_)
  refine lv_aload_n hx hb dX6_init_74 rfl (lv_at hl 1 rfl) ?_
  refine lv_iload_n hx hb dX6_init_75 rfl (lv_at hl 0 rfl) ?_
  refine lv_iconst (v := 1) hx hb dX6_init_76 (by decide) ?_
  refine lv_iconst (v := -1) hx hb dX6_init_77 (by decide) ?_
  have hs : fX6_setOf ((0, (mo_set (mo_set (mo_set (mo_set ar0 0 0 (-1)) 0 1 (-1)) 0 2 (-1)) 1 0 (-1)), (fun _ => 0), 0, (fun _ => 0), 0, (fun _ => 0), 0, 0, 0, 0, (fun _ => 0), 0, 0, 0) : Mo) 1 1 (-1) = some ((0, (mo_set (mo_set (mo_set (mo_set (mo_set ar0 0 0 (-1)) 0 1 (-1)) 0 2 (-1)) 1 0 (-1)) 1 1 (-1)), (fun _ => 0), 0, (fun _ => 0), 0, (fun _ => 0), 0, 0, 0, 0, (fun _ => 0), 0, 0, 0) : Mo) := rfl
  refine aft_w (st1 := []) rfl (runV (As := [.int 1, .int 1, .int (-1)]) (rest := []) ⟨hx, hb, hml, hown, hts⟩ (kX6_setOf l g am hs) (cwV 3 hts gX6_init_X6_setOf rfl rfl rfl hdX6_setOf ⟨Nat.le_of_ble_eq_true rfl, Nat.le_of_ble_eq_true rfl⟩) hK hN hP hD (va_recv hK hP (ci := 6) (q0 := 0) rfl rfl) rfl hl.1 rfl (Nat.le_of_ble_eq_true rfl) dX6_init_78 ⟨Nat.le_of_ble_eq_true rfl, Nat.le_of_ble_eq_true rfl⟩) hD hS hA (fun H locs hP hD hS => ?_)
  refine lv_aload_n hx hb dX6_init_81 rfl (lv_at hl 1 rfl) ?_
  refine lv_iload_n hx hb dX6_init_82 rfl (lv_at hl 0 rfl) ?_
  refine lv_iconst (v := 2) hx hb dX6_init_83 (by decide) ?_
  refine lv_iconst (v := -1) hx hb dX6_init_84 (by decide) ?_
  have hs : fX6_setOf ((0, (mo_set (mo_set (mo_set (mo_set (mo_set ar0 0 0 (-1)) 0 1 (-1)) 0 2 (-1)) 1 0 (-1)) 1 1 (-1)), (fun _ => 0), 0, (fun _ => 0), 0, (fun _ => 0), 0, 0, 0, 0, (fun _ => 0), 0, 0, 0) : Mo) 1 2 (-1) = some ((0, (mo_set (mo_set (mo_set (mo_set (mo_set (mo_set ar0 0 0 (-1)) 0 1 (-1)) 0 2 (-1)) 1 0 (-1)) 1 1 (-1)) 1 2 (-1)), (fun _ => 0), 0, (fun _ => 0), 0, (fun _ => 0), 0, 0, 0, 0, (fun _ => 0), 0, 0, 0) : Mo) := rfl
  refine aft_w (st1 := []) rfl (runV (As := [.int 1, .int 2, .int (-1)]) (rest := []) ⟨hx, hb, hml, hown, hts⟩ (kX6_setOf l g am hs) (cwV 3 hts gX6_init_X6_setOf rfl rfl rfl hdX6_setOf ⟨Nat.le_of_ble_eq_true rfl, Nat.le_of_ble_eq_true rfl⟩) hK hN hP hD (va_recv hK hP (ci := 6) (q0 := 0) rfl rfl) rfl hl.1 rfl (Nat.le_of_ble_eq_true rfl) dX6_init_85 ⟨Nat.le_of_ble_eq_true rfl, Nat.le_of_ble_eq_true rfl⟩) hD hS hA (fun H locs hP hD hS => ?_)
  refine lv_iinc (v := 2) (lv' := [(1, .int 2), (0, .ref (am 0))]) hx hb dX6_init_88 hl (k := 0) rfl (by decide) (by decide) rfl (fun ls hl => ?_)
  refine lv_goto (tgt := 62) hx hb dX6_init_91 (by decide) ?_
  refine lv_iload_n hx hb dX6_init_62 rfl (lv_at hl 0 rfl) ?_
  refine lv_iconst (v := 3) hx hb dX6_init_63 (by decide) ?_
  refine lv_icmp_ge (tgt := 94) hx hb dX6_init_64 (by decide) (fun c9 => absurd c9 (by decide)) (fun _ => ?_)
  refine lv_aload_n hx hb dX6_init_67 rfl (lv_at hl 1 rfl) ?_
  refine lv_iload_n hx hb dX6_init_68 rfl (lv_at hl 0 rfl) ?_
  refine lv_iconst (v := 0) hx hb dX6_init_69 (by decide) ?_
  refine lv_iconst (v := -1) hx hb dX6_init_70 (by decide) ?_
  have hs : fX6_setOf ((0, (mo_set (mo_set (mo_set (mo_set (mo_set (mo_set ar0 0 0 (-1)) 0 1 (-1)) 0 2 (-1)) 1 0 (-1)) 1 1 (-1)) 1 2 (-1)), (fun _ => 0), 0, (fun _ => 0), 0, (fun _ => 0), 0, 0, 0, 0, (fun _ => 0), 0, 0, 0) : Mo) 2 0 (-1) = some ((0, (mo_set (mo_set (mo_set (mo_set (mo_set (mo_set (mo_set ar0 0 0 (-1)) 0 1 (-1)) 0 2 (-1)) 1 0 (-1)) 1 1 (-1)) 1 2 (-1)) 2 0 (-1)), (fun _ => 0), 0, (fun _ => 0), 0, (fun _ => 0), 0, 0, 0, 0, (fun _ => 0), 0, 0, 0) : Mo) := rfl
  refine aft_w (st1 := []) rfl (runV (As := [.int 2, .int 0, .int (-1)]) (rest := []) ⟨hx, hb, hml, hown, hts⟩ (kX6_setOf l g am hs) (cwV 3 hts gX6_init_X6_setOf rfl rfl rfl hdX6_setOf ⟨Nat.le_of_ble_eq_true rfl, Nat.le_of_ble_eq_true rfl⟩) hK hN hP hD (va_recv hK hP (ci := 6) (q0 := 0) rfl rfl) rfl hl.1 rfl (Nat.le_of_ble_eq_true rfl) dX6_init_71 ⟨Nat.le_of_ble_eq_true rfl, Nat.le_of_ble_eq_true rfl⟩) hD hS hA (fun H locs hP hD hS => ?_)
  refine lv_aload_n hx hb dX6_init_74 rfl (lv_at hl 1 rfl) ?_
  refine lv_iload_n hx hb dX6_init_75 rfl (lv_at hl 0 rfl) ?_
  refine lv_iconst (v := 1) hx hb dX6_init_76 (by decide) ?_
  refine lv_iconst (v := -1) hx hb dX6_init_77 (by decide) ?_
  have hs : fX6_setOf ((0, (mo_set (mo_set (mo_set (mo_set (mo_set (mo_set (mo_set ar0 0 0 (-1)) 0 1 (-1)) 0 2 (-1)) 1 0 (-1)) 1 1 (-1)) 1 2 (-1)) 2 0 (-1)), (fun _ => 0), 0, (fun _ => 0), 0, (fun _ => 0), 0, 0, 0, 0, (fun _ => 0), 0, 0, 0) : Mo) 2 1 (-1) = some ((0, (mo_set (mo_set (mo_set (mo_set (mo_set (mo_set (mo_set (mo_set ar0 0 0 (-1)) 0 1 (-1)) 0 2 (-1)) 1 0 (-1)) 1 1 (-1)) 1 2 (-1)) 2 0 (-1)) 2 1 (-1)), (fun _ => 0), 0, (fun _ => 0), 0, (fun _ => 0), 0, 0, 0, 0, (fun _ => 0), 0, 0, 0) : Mo) := rfl
  refine aft_w (st1 := []) rfl (runV (As := [.int 2, .int 1, .int (-1)]) (rest := []) ⟨hx, hb, hml, hown, hts⟩ (kX6_setOf l g am hs) (cwV 3 hts gX6_init_X6_setOf rfl rfl rfl hdX6_setOf ⟨Nat.le_of_ble_eq_true rfl, Nat.le_of_ble_eq_true rfl⟩) hK hN hP hD (va_recv hK hP (ci := 6) (q0 := 0) rfl rfl) rfl hl.1 rfl (Nat.le_of_ble_eq_true rfl) dX6_init_78 ⟨Nat.le_of_ble_eq_true rfl, Nat.le_of_ble_eq_true rfl⟩) hD hS hA (fun H locs hP hD hS => ?_)
  refine lv_aload_n hx hb dX6_init_81 rfl (lv_at hl 1 rfl) ?_
  refine lv_iload_n hx hb dX6_init_82 rfl (lv_at hl 0 rfl) ?_
  refine lv_iconst (v := 2) hx hb dX6_init_83 (by decide) ?_
  refine lv_iconst (v := -1) hx hb dX6_init_84 (by decide) ?_
  have hs : fX6_setOf ((0, (mo_set (mo_set (mo_set (mo_set (mo_set (mo_set (mo_set (mo_set ar0 0 0 (-1)) 0 1 (-1)) 0 2 (-1)) 1 0 (-1)) 1 1 (-1)) 1 2 (-1)) 2 0 (-1)) 2 1 (-1)), (fun _ => 0), 0, (fun _ => 0), 0, (fun _ => 0), 0, 0, 0, 0, (fun _ => 0), 0, 0, 0) : Mo) 2 2 (-1) = some ((0, (mo_set (mo_set (mo_set (mo_set (mo_set (mo_set (mo_set (mo_set (mo_set ar0 0 0 (-1)) 0 1 (-1)) 0 2 (-1)) 1 0 (-1)) 1 1 (-1)) 1 2 (-1)) 2 0 (-1)) 2 1 (-1)) 2 2 (-1)), (fun _ => 0), 0, (fun _ => 0), 0, (fun _ => 0), 0, 0, 0, 0, (fun _ => 0), 0, 0, 0) : Mo) := rfl
  refine aft_w (st1 := []) rfl (runV (As := [.int 2, .int 2, .int (-1)]) (rest := []) ⟨hx, hb, hml, hown, hts⟩ (kX6_setOf l g am hs) (cwV 3 hts gX6_init_X6_setOf rfl rfl rfl hdX6_setOf ⟨Nat.le_of_ble_eq_true rfl, Nat.le_of_ble_eq_true rfl⟩) hK hN hP hD (va_recv hK hP (ci := 6) (q0 := 0) rfl rfl) rfl hl.1 rfl (Nat.le_of_ble_eq_true rfl) dX6_init_85 ⟨Nat.le_of_ble_eq_true rfl, Nat.le_of_ble_eq_true rfl⟩) hD hS hA (fun H locs hP hD hS => ?_)
  refine lv_iinc (v := 3) (lv' := [(1, .int 3), (0, .ref (am 0))]) hx hb dX6_init_88 hl (k := 0) rfl (by decide) (by decide) rfl (fun ls hl => ?_)
  refine lv_goto (tgt := 62) hx hb dX6_init_91 (by decide) ?_
  refine lv_iload_n hx hb dX6_init_62 rfl (lv_at hl 0 rfl) ?_
  refine lv_iconst (v := 3) hx hb dX6_init_63 (by decide) ?_
  refine lv_icmp_ge (tgt := 94) hx hb dX6_init_64 (by decide) (fun _ => ?_) (fun c9 => absurd (by decide) c9)
  exact hend am _ _ _ _ eq0 hP hD hS dX6_init_94
end CTO
