def fX1_around_L10 (st : St) : Nat → Int32 → Int32 → Int32 → Option (Int32)
  | 0, _, _, _ => none
  | n + 1, v3_2, v4_3, v5_4 =>
    (if (24 : Int32) ≤ v5_4 then
    (some v3_2)
    else
    (if v4_3 = (0 : Int32) then
    (some v3_2)
    else
    (bd (fX2_linksOfAll st v4_3) fun (r8 : Int32) =>
    (pl ((r8 &&& (v3_2 ^^^ (-1 : Int32)))) fun (x9 : Int32) =>
    (pl ((v3_2 ||| x9)) fun (x10 : Int32) =>
    (pl ((v5_4 + (1 : Int32))) fun (x11 : Int32) =>
    (fX1_around_L10 st n x10 x9 x11)))))))
def fX1_around (is : Is) (st : St) (p2 : Int32) : Option (Int32) :=
(pl (((1 : Int32) <<< (p2 &&& 31))) fun (x1 : Int32) =>
(bd (fX1_around_L10 st 1000 x1 x1 (0 : Int32)) fun (v3_12 : Int32) =>
(some v3_12)))
abbrev rX1_around : Room := { frames := 2, cells := 0, slots := 0, locals := 44 }
theorem hdX1_around : yX1_around.cls = RX1 ∧ yX1_around.cls ≠ "java/lang/invoke/MethodHandle" ∧ yX1_around.cls ≠ "java/lang/invoke/VarHandle" ∧ (parseMethodDescriptor yX1_around.desc).map (fun d => d.parameters.length) = some 2 := by decide +kernel
set_option maxRecDepth 100000 in
set_option maxHeartbeats 8000000 in
theorem kX1_around (l : Launch) (g : GG) (a b : Nat → Nat) {is : Is} {st : St} {p2 : Int32} {res : Int32} (h : fX1_around is st p2 = some res) : Cg l g yX1_around wsX1_around rX1_around [.ref (a 0), .ref (b 0), .int p2] (cIs g a is ++ (cSt g b st)) (some (.int res)) (cIs g a is ++ (cSt g b st)) := by
  refine Cg_of (cc := cX1_around) (maxL := 6) (ret := (some .int)) (by decide +kernel) rfl (Nat.le_of_ble_eq_true rfl) ?_
  intro p e su m args below meth c A Q ls hx hb hml hown hts hK hN hA hnm hP hD hS hl hend
  have hinX2 : ∀ w ∈ u_ws RX2 TX2 17, w ∈ wsX1_around := fun _ h9 => List.mem_cons_of_mem _ (List.mem_append_right _ h9)
  unfold fX1_around at h
  have hl : lv_has ls 6 [(0, .ref (a 0)), (1, .ref (b 0)), (2, .int p2)] := hl
  refine lv_iconst (v := 1) hx hb dX1_around_0 (by decide) ?_
  refine lv_iload_n hx hb dX1_around_1 rfl (lv_at hl 2 rfl) ?_
  refine lv_ishl hx hb dX1_around_2 ?_
  obtain ⟨x1, ex1, h⟩ := pl_ex h
  refine lv_eqi ex1 ?_
  refine lv_istore_n (lv' := [(3, .int x1), (0, .ref (a 0)), (1, .ref (b 0)), (2, .int p2)]) hx hb dX1_around_3 rfl hl (by decide) rfl (fun ls hl => ?_)
  refine lv_iload_n hx hb dX1_around_4 rfl (lv_at hl 0 rfl) ?_
  refine lv_istore (lv' := [(4, .int x1), (3, .int x1), (0, .ref (a 0)), (1, .ref (b 0)), (2, .int p2)]) hx hb dX1_around_5 hl (by decide) rfl (fun ls hl => ?_)
  refine lv_iconst (v := 0) hx hb dX1_around_7 (by decide) ?_
  refine lv_istore (lv' := [(5, .int (0 : Int32)), (4, .int x1), (3, .int x1), (0, .ref (a 0)), (1, .ref (b 0)), (2, .int p2)]) hx hb dX1_around_8 hl (by decide) rfl (fun ls hl => ?_)
  have L10 : ∀ (n : Nat) (v3_2 : Int32) (v4_3 : Int32) (v5_4 : Int32) (y3_5 : Int32) (H : Heap) (locs : List Loc) (ls : Array Slot), fX1_around_L10 st n v3_2 v4_3 v5_4 = some y3_5 → va_P g.1 vwCl (cIs g a is ++ (cSt g b st)) H → va_D A (cIs g a is ++ (cSt g b st)) → va_S A su.heap H locs → lv_has ls 6 [(1, .ref (b 0)), (3, .int v3_2), (4, .int v4_3), (5, .int v5_4)] → (∀ (H : Heap) (locs : List Loc) (ls : Array Slot), va_P g.1 vwCl (cIs g a is ++ (cSt g b st)) H → va_D A (cIs g a is ++ (cSt g b st)) → va_S A su.heap H locs → lv_has ls 6 [(3, .int y3_5)] → W p l e rX1_around su m args below meth c H locs 0 0 Q (F0 m 45 ls [])) → W p l e rX1_around su m args below meth c H locs 0 0 Q (F0 m 10 ls []) := by
    intro n
    induction n with
    | zero => intro v3_2 v4_3 v5_4 y3_5 H locs ls h hP hD hS hl kx; cases h
    | succ n ih =>
      intro v3_2 v4_3 v5_4 y3_5 H locs ls h hP hD hS hl kx
      rw [fX1_around_L10] at h
      refine lv_iload hx hb dX1_around_10 (lv_at hl 3 rfl) ?_
      refine lv_bipush (v := 24) hx hb dX1_around_12 (by decide) ?_
      refine lv_icmp_ge (tgt := 45) hx hb dX1_around_14 (by decide) (fun c6 => ?_) (fun c6 => ?_)
      · have h := if_t c6 h
        cases some_i h
        exact kx _ _ _ hP hD hS (lv_sub hl [1] rfl)
      · have h := if_f c6 h
        refine lv_iload hx hb dX1_around_17 (lv_at hl 2 rfl) ?_
        refine lv_if_eq (tgt := 45) hx hb dX1_around_19 (by decide) (fun c7 => ?_) (fun c7 => ?_)
        · have h := if_t c7 h
          cases some_i h
          exact kx _ _ _ hP hD hS (lv_sub hl [1] rfl)
        · have h := if_f c7 h
          refine lv_aload_n hx hb dX1_around_22 rfl (lv_at hl 0 rfl) ?_
          refine lv_iload hx hb dX1_around_23 (lv_at hl 2 rfl) ?_
          obtain ⟨r8, kr8, h⟩ := bd_ex h
          have hP8 : va_P g.1 vwCl ((cIs g a is) ++ ((cSt g b st) ++ [])) H := hP
          have hD8 : va_D A ((cIs g a is) ++ ((cSt g b st) ++ [])) := hD
          refine aft_f (st1 := [.int r8]) rfl (cIs g a is) [] (runV (As := [.int v4_3]) (rest := []) ⟨hx, hb, hml, hown, hts⟩ (kX2_linksOfAll l g b kr8) (cwV 1 hts gX1_around_X2_linksOfAll rfl rfl rfl hdX2_linksOfAll ⟨Nat.le_of_ble_eq_true rfl, Nat.le_of_ble_eq_true rfl⟩) hK hN hP8.right.left hD8.right.left (va_recv hK hP (ci := 2) (q0 := 2) rfl rfl) rfl hl.1 rfl (Nat.le_of_ble_eq_true rfl) dX1_around_25 ⟨Nat.zero_le _, Nat.zero_le _⟩) hP8 hD8 hS hA (fun H locs hP hD hS => ?_)
          have hP : va_P g.1 vwCl (cIs g a is ++ (cSt g b st)) H := hP
          have hD : va_D A (cIs g a is ++ (cSt g b st)) := hD
          refine lv_iload_n hx hb dX1_around_28 rfl (lv_at hl 1 rfl) ?_
          refine lv_iconst (v := -1) hx hb dX1_around_29 (by decide) ?_
          refine lv_ixor hx hb dX1_around_30 ?_
          refine lv_iand hx hb dX1_around_31 ?_
          obtain ⟨x9, ex9, h⟩ := pl_ex h
          refine lv_eqi ex9 ?_
          refine lv_istore (lv' := [(4, .int x9), (1, .ref (b 0)), (3, .int v3_2), (5, .int v5_4)]) hx hb dX1_around_32 hl (by decide) rfl (fun ls hl => ?_)
          refine lv_iload_n hx hb dX1_around_34 rfl (lv_at hl 2 rfl) ?_
          refine lv_iload hx hb dX1_around_35 (lv_at hl 0 rfl) ?_
          refine lv_ior hx hb dX1_around_37 ?_
          obtain ⟨x10, ex10, h⟩ := pl_ex h
          refine lv_eqi ex10 ?_
          refine lv_istore_n (lv' := [(3, .int x10), (4, .int x9), (1, .ref (b 0)), (5, .int v5_4)]) hx hb dX1_around_38 rfl hl (by decide) rfl (fun ls hl => ?_)
          obtain ⟨x11, ex11, h⟩ := pl_ex h
          refine lv_iinc (v := x11) (lv' := [(5, .int x11), (3, .int x10), (4, .int x9), (1, .ref (b 0))]) hx hb dX1_around_39 hl (k := 3) rfl (by rw [← ex11]; rfl) (by decide) rfl (fun ls hl => ?_)
          refine lv_goto (tgt := 10) hx hb dX1_around_42 (by decide) ?_
          exact ih x10 x9 x11 _ _ _ _ h hP hD hS (lv_sub hl [3, 1, 2, 0] rfl) kx
  obtain ⟨v3_12, kv3_12, h⟩ := bd_ex h
  refine L10 1000 x1 x1 (0 : Int32) v3_12 _ _ _ kv3_12 hP hD hS (lv_sub hl [4, 2, 1, 0] rfl) (fun H locs ls hP hD hS hl => ?_)
  refine lv_iload_n hx hb dX1_around_45 rfl (lv_at hl 0 rfl) ?_
  cases some_i h
  exact hend _ _ _ _ _ hP hD hS (RetOK.i dX1_around_46)
def fX1_rootOf_L4 (is : Is) : Nat → Int32 → Int32 → Option (Int32)
  | 0, _, _ => none
  | n + 1, v2_1, v3_2 =>
    (if (24 : Int32) ≤ v3_2 then
    (some v2_1)
    else
    (if v2_1 < (0 : Int32) then
    (some v2_1)
    else
    (if (24 : Int32) ≤ v2_1 then
    (some v2_1)
    else
    (ck (inb v2_1 24)
    (if (Is_parents is v2_1.toNatClampNeg) = v2_1 then
    (some v2_1)
    else
    (ck (inb v2_1 24)
    (pl ((Is_parents is v2_1.toNatClampNeg)) fun (x7 : Int32) =>
    (pl ((v3_2 + (1 : Int32))) fun (x8 : Int32) =>
    (fX1_rootOf_L4 is n x7 x8)))))))))
def fX1_rootOf (is : Is) (p1 : Int32) : Option (Int32) :=
(fX1_rootOf_L4 is 1000 p1 (0 : Int32))
abbrev rX1_rootOf : Room := { frames := 0, cells := 0, slots := 0, locals := 0 }
theorem hdX1_rootOf : yX1_rootOf.cls = RX1 ∧ yX1_rootOf.cls ≠ "java/lang/invoke/MethodHandle" ∧ yX1_rootOf.cls ≠ "java/lang/invoke/VarHandle" ∧ (parseMethodDescriptor yX1_rootOf.desc).map (fun d => d.parameters.length) = some 1 := by decide +kernel
set_option maxRecDepth 100000 in
set_option maxHeartbeats 8000000 in
theorem kX1_rootOf (l : Launch) (g : GG) (a : Nat → Nat) {is : Is} {p1 : Int32} {res : Int32} (h : fX1_rootOf is p1 = some res) : Cg l g yX1_rootOf wsX1_rootOf rX1_rootOf [.ref (a 0), .int p1] (cIs g a is) (some (.int res)) (cIs g a is) := by
  refine Cg_of (cc := cX1_rootOf) (maxL := 4) (ret := (some .int)) (by decide +kernel) rfl (Nat.le_of_ble_eq_true rfl) ?_
  intro p e su m args below meth c A Q ls hx hb hml hown hts hK hN hA hnm hP hD hS hl hend
  have hinX1 : ∀ w ∈ u_ws RX1 TX1 1, w ∈ wsX1_rootOf := fun _ h9 => List.mem_cons_of_mem _ (List.mem_append_right _ h9)
  unfold fX1_rootOf at h
  have hl : lv_has ls 4 [(0, .ref (a 0)), (1, .int p1)] := hl
  refine lv_iload_n hx hb dX1_rootOf_0 rfl (lv_at hl 1 rfl) ?_
  refine lv_istore_n (lv' := [(2, .int p1), (0, .ref (a 0)), (1, .int p1)]) hx hb dX1_rootOf_1 rfl hl (by decide) rfl (fun ls hl => ?_)
  refine lv_iconst (v := 0) hx hb dX1_rootOf_2 (by decide) ?_
  refine lv_istore_n (lv' := [(3, .int (0 : Int32)), (2, .int p1), (0, .ref (a 0)), (1, .int p1)]) hx hb dX1_rootOf_3 rfl hl (by decide) rfl (fun ls hl => ?_)
  have L4 : ∀ (n : Nat) (v2_1 : Int32) (v3_2 : Int32) (H : Heap) (locs : List Loc) (ls : Array Slot), fX1_rootOf_L4 is n v2_1 v3_2 = some res → va_P g.1 vwCl (cIs g a is) H → va_D A (cIs g a is) → va_S A su.heap H locs → lv_has ls 4 [(0, .ref (a 0)), (2, .int v2_1), (3, .int v3_2)] → W p l e rX1_rootOf su m args below meth c H locs 0 0 Q (F0 m 4 ls []) := by
    intro n
    induction n with
    | zero => intro v2_1 v3_2 H locs ls h hP hD hS hl; cases h
    | succ n ih =>
      intro v2_1 v3_2 H locs ls h hP hD hS hl
      rw [fX1_rootOf_L4] at h
      refine lv_iload_n hx hb dX1_rootOf_4 rfl (lv_at hl 2 rfl) ?_
      refine lv_bipush (v := 24) hx hb dX1_rootOf_5 (by decide) ?_
      refine lv_icmp_ge (tgt := 45) hx hb dX1_rootOf_7 (by decide) (fun c3 => ?_) (fun c3 => ?_)
      · have h := if_t c3 h
        refine lv_iload_n hx hb dX1_rootOf_45 rfl (lv_at hl 1 rfl) ?_
        cases some_i h
        exact hend _ _ _ _ _ hP hD hS (RetOK.i dX1_rootOf_46)
      · have h := if_f c3 h
        refine lv_iload_n hx hb dX1_rootOf_10 rfl (lv_at hl 1 rfl) ?_
        refine lv_if_lt (tgt := 45) hx hb dX1_rootOf_11 (by decide) (fun c4 => ?_) (fun c4 => ?_)
        · have h := if_t c4 h
          refine lv_iload_n hx hb dX1_rootOf_45 rfl (lv_at hl 1 rfl) ?_
          cases some_i h
          exact hend _ _ _ _ _ hP hD hS (RetOK.i dX1_rootOf_46)
        · have h := if_f c4 h
          refine lv_iload_n hx hb dX1_rootOf_14 rfl (lv_at hl 1 rfl) ?_
          refine lv_bipush (v := 24) hx hb dX1_rootOf_15 (by decide) ?_
          refine lv_icmp_ge (tgt := 45) hx hb dX1_rootOf_17 (by decide) (fun c5 => ?_) (fun c5 => ?_)
          · have h := if_t c5 h
            refine lv_iload_n hx hb dX1_rootOf_45 rfl (lv_at hl 1 rfl) ?_
            cases some_i h
            exact hend _ _ _ _ _ hP hD hS (RetOK.i dX1_rootOf_46)
          · have h := if_f c5 h
            refine lv_aload_n hx hb dX1_rootOf_20 rfl (lv_at hl 0 rfl) ?_
            refine va_get (D := g.1) (ci := 1) (v := .ref (a 1)) (C := RX1) (T := TX1) (N := 1) hx hb hts hinX1 hown hK hP 0 rfl rfl 0 (by decide) (hts (.fieldLink RX1 9 "BarredRungs$Islands" "parents" "[I") (List.mem_of_getElem? (i := 1) rfl)) (fun _ h9 => h9) rfl dX1_rootOf_21 ?_
            refine lv_iload_n hx hb dX1_rootOf_24 rfl (lv_at hl 1 rfl) ?_
            obtain ⟨hi9, h⟩ := ck_ex h
            refine va_iald hx hb hK hP 1 0 rfl rfl (inb_in hi9) dX1_rootOf_25 ?_
            refine lv_iload_n hx hb dX1_rootOf_26 rfl (lv_at hl 1 rfl) ?_
            refine lv_icmp_ne (tgt := 32) hx hb dX1_rootOf_27 (by decide) (fun c6 => ?_) (fun c6 => ?_)
            · have h := if_f c6 h
              refine lv_aload_n hx hb dX1_rootOf_32 rfl (lv_at hl 0 rfl) ?_
              refine va_get (D := g.1) (ci := 1) (v := .ref (a 1)) (C := RX1) (T := TX1) (N := 1) hx hb hts hinX1 hown hK hP 0 rfl rfl 0 (by decide) (hts (.fieldLink RX1 9 "BarredRungs$Islands" "parents" "[I") (List.mem_of_getElem? (i := 1) rfl)) (fun _ h9 => h9) rfl dX1_rootOf_33 ?_
              refine lv_iload_n hx hb dX1_rootOf_36 rfl (lv_at hl 1 rfl) ?_
              obtain ⟨hi9, h⟩ := ck_ex h
              refine va_iald hx hb hK hP 1 0 rfl rfl (inb_in hi9) dX1_rootOf_37 ?_
              obtain ⟨x7, ex7, h⟩ := pl_ex h
              refine lv_eqi ex7 ?_
              refine lv_istore_n (lv' := [(2, .int x7), (0, .ref (a 0)), (3, .int v3_2)]) hx hb dX1_rootOf_38 rfl hl (by decide) rfl (fun ls hl => ?_)
              obtain ⟨x8, ex8, h⟩ := pl_ex h
              refine lv_iinc (v := x8) (lv' := [(3, .int x8), (2, .int x7), (0, .ref (a 0))]) hx hb dX1_rootOf_39 hl (k := 2) rfl (by rw [← ex8]; rfl) (by decide) rfl (fun ls hl => ?_)
              refine lv_goto (tgt := 4) hx hb dX1_rootOf_42 (by decide) ?_
              exact ih x7 x8 _ _ _ h hP hD hS (lv_sub hl [2, 1, 0] rfl)
            · have h := if_t c6 h
              refine lv_iload_n hx hb dX1_rootOf_30 rfl (lv_at hl 1 rfl) ?_
              cases some_i h
              exact hend _ _ _ _ _ hP hD hS (RetOK.i dX1_rootOf_31)
  exact L4 1000 p1 (0 : Int32) _ _ _ h hP hD hS (lv_sub hl [2, 1, 0] rfl)
def fX1_join (is : Is) (p1 : Int32) (p2 : Int32) : Option (Int32 × Is) :=
(bd (fX1_rootOf is p1) fun (r1 : Int32) =>
(bd (fX1_rootOf is p2) fun (r2 : Int32) =>
(if r1 = r2 then
(some ((0 : Int32), is))
else
(if r1 < (0 : Int32) then
(some ((0 : Int32), is))
else
(if r1 < (24 : Int32) then
(ck (inb r1 24)
(pl (Is_set_parents is (upd (Is_parents is) r1.toNatClampNeg r2)) fun (is6 : Is) =>
(some ((1 : Int32), is6))))
else
(some ((0 : Int32), is)))))))
abbrev rX1_join : Room := { frames := 1, cells := 0, slots := 0, locals := 23 }
theorem hdX1_join : yX1_join.cls = RX1 ∧ yX1_join.cls ≠ "java/lang/invoke/MethodHandle" ∧ yX1_join.cls ≠ "java/lang/invoke/VarHandle" ∧ (parseMethodDescriptor yX1_join.desc).map (fun d => d.parameters.length) = some 2 := by decide +kernel
set_option maxRecDepth 100000 in
set_option maxHeartbeats 8000000 in
theorem kX1_join (l : Launch) (g : GG) (a : Nat → Nat) {is : Is} {p1 : Int32} {p2 : Int32} {res : Int32} {is' : Is} (h : fX1_join is p1 p2 = some (res, is')) : Cg l g yX1_join wsX1_join rX1_join [.ref (a 0), .int p1, .int p2] (cIs g a is) (some (.int res)) (cIs g a is') := by
  refine Cg_of (cc := cX1_join) (maxL := 5) (ret := (some .boolean)) (by decide +kernel) rfl (Nat.le_of_ble_eq_true rfl) ?_
  intro p e su m args below meth c A Q ls hx hb hml hown hts hK hN hA hnm hP hD hS hl hend
  have hinX1 : ∀ w ∈ u_ws RX1 TX1 1, w ∈ wsX1_join := fun _ h9 => List.mem_cons_of_mem _ (List.mem_append_right _ h9)
  unfold fX1_join at h
  have hl : lv_has ls 5 [(0, .ref (a 0)), (1, .int p1), (2, .int p2)] := hl
  refine lv_aload_n hx hb dX1_join_0 rfl (lv_at hl 0 rfl) ?_
  refine lv_iload_n hx hb dX1_join_1 rfl (lv_at hl 1 rfl) ?_
  obtain ⟨r1, kr1, h⟩ := bd_ex h
  refine aft_w (st1 := [.int r1]) rfl (runV (As := [.int p1]) (rest := []) ⟨hx, hb, hml, hown, hts⟩ (kX1_rootOf l g a kr1) (cwV 1 hts gX1_join_X1_rootOf rfl rfl rfl hdX1_rootOf ⟨Nat.le_of_ble_eq_true rfl, Nat.le_of_ble_eq_true rfl⟩) hK hN hP hD (va_recv hK hP (ci := 1) (q0 := 0) rfl rfl) rfl hl.1 rfl (Nat.le_of_ble_eq_true rfl) dX1_join_2 ⟨Nat.zero_le _, Nat.zero_le _⟩) hD hS hA (fun H locs hP hD hS => ?_)
  refine lv_istore_n (lv' := [(3, .int r1), (0, .ref (a 0)), (1, .int p1), (2, .int p2)]) hx hb dX1_join_5 rfl hl (by decide) rfl (fun ls hl => ?_)
  refine lv_aload_n hx hb dX1_join_6 rfl (lv_at hl 1 rfl) ?_
  refine lv_iload_n hx hb dX1_join_7 rfl (lv_at hl 3 rfl) ?_
  obtain ⟨r2, kr2, h⟩ := bd_ex h
  refine aft_w (st1 := [.int r2]) rfl (runV (As := [.int p2]) (rest := []) ⟨hx, hb, hml, hown, hts⟩ (kX1_rootOf l g a kr2) (cwV 1 hts gX1_join_X1_rootOf rfl rfl rfl hdX1_rootOf ⟨Nat.le_of_ble_eq_true rfl, Nat.le_of_ble_eq_true rfl⟩) hK hN hP hD (va_recv hK hP (ci := 1) (q0 := 0) rfl rfl) rfl hl.1 rfl (Nat.le_of_ble_eq_true rfl) dX1_join_8 ⟨Nat.zero_le _, Nat.zero_le _⟩) hD hS hA (fun H locs hP hD hS => ?_)
  refine lv_istore (lv' := [(4, .int r2), (3, .int r1), (0, .ref (a 0)), (1, .int p1), (2, .int p2)]) hx hb dX1_join_11 hl (by decide) rfl (fun ls hl => ?_)
  refine lv_iload_n hx hb dX1_join_13 rfl (lv_at hl 1 rfl) ?_
  refine lv_iload hx hb dX1_join_14 (lv_at hl 0 rfl) ?_
  refine lv_icmp_eq (tgt := 29) hx hb dX1_join_16 (by decide) (fun c3 => ?_) (fun c3 => ?_)
  · have h := if_t c3 h
    refine lv_iconst (v := 0) hx hb dX1_join_29 (by decide) ?_
    cases some_i h
    exact hend _ _ _ _ _ hP hD hS (RetOK.z dX1_join_30 (Or.inl rfl))
  · have h := if_f c3 h
    refine lv_iload_n hx hb dX1_join_19 rfl (lv_at hl 1 rfl) ?_
    refine lv_if_lt (tgt := 29) hx hb dX1_join_20 (by decide) (fun c4 => ?_) (fun c4 => ?_)
    · have h := if_t c4 h
      refine lv_iconst (v := 0) hx hb dX1_join_29 (by decide) ?_
      cases some_i h
      exact hend _ _ _ _ _ hP hD hS (RetOK.z dX1_join_30 (Or.inl rfl))
    · have h := if_f c4 h
      refine lv_iload_n hx hb dX1_join_23 rfl (lv_at hl 1 rfl) ?_
      refine lv_bipush (v := 24) hx hb dX1_join_24 (by decide) ?_
      refine lv_icmp_lt (tgt := 31) hx hb dX1_join_26 (by decide) (fun c5 => ?_) (fun c5 => ?_)
      · have h := if_t c5 h
        refine lv_aload_n hx hb dX1_join_31 rfl (lv_at hl 2 rfl) ?_
        refine va_get (D := g.1) (ci := 1) (v := .ref (a 1)) (C := RX1) (T := TX1) (N := 1) hx hb hts hinX1 hown hK hP 0 rfl rfl 0 (by decide) (hts (.fieldLink RX1 9 "BarredRungs$Islands" "parents" "[I") (List.mem_of_getElem? (i := 1) rfl)) (fun _ h9 => h9) rfl dX1_join_32 ?_
        refine lv_iload_n hx hb dX1_join_35 rfl (lv_at hl 1 rfl) ?_
        refine lv_iload hx hb dX1_join_36 (lv_at hl 0 rfl) ?_
        obtain ⟨hi9, h⟩ := ck_ex h
        obtain ⟨is6, eis6, h⟩ := pl_ex h
        refine va_iast hx hb hK hP hD hS 1 0 rfl rfl (inb_in hi9) dX1_join_38 (fun H locs hP hD hS => ?_)
        have hP : va_P g.1 vwCl (cIs g a is6) H := by rw [← eis6]; exact hP
        have hD : va_D A (cIs g a is6) := by rw [← eis6]; exact hD
        refine lv_iconst (v := 1) hx hb dX1_join_39 (by decide) ?_
        cases some_i h
        exact hend _ _ _ _ _ hP hD hS (RetOK.z dX1_join_40 (Or.inr rfl))
      · have h := if_f c5 h
        refine lv_iconst (v := 0) hx hb dX1_join_29 (by decide) ?_
        cases some_i h
        exact hend _ _ _ _ _ hP hD hS (RetOK.z dX1_join_30 (Or.inl rfl))
def fX1_byJoining_L4 : Nat → Int32 → Is → Option (Is)
  | 0, _, _ => none
  | n + 1, v3_1, is2 =>
    (if (24 : Int32) ≤ v3_1 then
    (some is2)
    else
    (ck (inb v3_1 24)
    (pl (Is_set_parents is2 (upd (Is_parents is2) v3_1.toNatClampNeg v3_1)) fun (is5 : Is) =>
    (pl ((v3_1 + (1 : Int32))) fun (x6 : Int32) =>
    (fX1_byJoining_L4 n x6 is5)))))
def fX1_byJoining_L36 (st : St) (v3_9 : Int32) : Nat → Int32 → Int32 → Is → Option (Int32 × Is)
  | 0, _, _, _ => none
  | n + 1, v2_14, v4_15, is16 =>
    (if v3_9 ≤ v4_15 then
    (some (v2_14, is16))
    else
    (bd (fX2_linksOf st v3_9) fun (r20 : Int32) =>
    (bd (fX5_has r20 v4_15) fun (r21 : Int32) =>
    (if r21 = (0 : Int32) then
    (pl ((v4_15 + (1 : Int32))) fun (x23 : Int32) =>
    (fX1_byJoining_L36 st v3_9 n v2_14 x23 is16))
    else
    (bd2 (fX1_join is16 v3_9 v4_15) fun (r24 : Int32) (is25 : Is) =>
    (if r24 = (0 : Int32) then
    (pl ((v4_15 + (1 : Int32))) fun (x27 : Int32) =>
    (fX1_byJoining_L36 st v3_9 n v2_14 x27 is25))
    else
    (pl ((v2_14 + (1 : Int32))) fun (x28 : Int32) =>
    (pl ((v4_15 + (1 : Int32))) fun (x29 : Int32) =>
    (fX1_byJoining_L36 st v3_9 n x28 x29 is25)))))))))
def fX1_byJoining_L25 (st : St) : Nat → Int32 → Int32 → Is → Option (Int32 × Is)
  | 0, _, _, _ => none
  | n + 1, v2_8, v3_9, is10 =>
    (if (St_words st) ≤ v3_9 then
    (some (v2_8, is10))
    else
    (bd2 (fX1_byJoining_L36 st v3_9 1000 v2_8 (0 : Int32) is10) fun (v2_30 : Int32) (is31 : Is) =>
    (pl ((v3_9 + (1 : Int32))) fun (x32 : Int32) =>
    (fX1_byJoining_L25 st n v2_30 x32 is31))))
def fX1_byJoining (is : Is) (st : St) : Option (Int32 × Is) :=
(bd (fX1_byJoining_L4 1000 (0 : Int32) is) fun (is7 : Is) =>
(bd2 (fX1_byJoining_L25 st 1000 (0 : Int32) (0 : Int32) is7) fun (v2_33 : Int32) (is34 : Is) =>
(some (((St_words st) - v2_33), is34))))
abbrev rX1_byJoining : Room := { frames := 2, cells := 0, slots := 0, locals := 47 }
theorem hdX1_byJoining : yX1_byJoining.cls = RX1 ∧ yX1_byJoining.cls ≠ "java/lang/invoke/MethodHandle" ∧ yX1_byJoining.cls ≠ "java/lang/invoke/VarHandle" ∧ (parseMethodDescriptor yX1_byJoining.desc).map (fun d => d.parameters.length) = some 1 := by decide +kernel
set_option maxRecDepth 100000 in
set_option maxHeartbeats 8000000 in
theorem kX1_byJoining (l : Launch) (g : GG) (a b : Nat → Nat) {is : Is} {st : St} {res : Int32} {is' : Is} (h : fX1_byJoining is st = some (res, is')) : Cg l g yX1_byJoining wsX1_byJoining rX1_byJoining [.ref (a 0), .ref (b 0)] (cIs g a is ++ (cSt g b st)) (some (.int res)) (cIs g a is' ++ (cSt g b st)) := by
  refine Cg_of (cc := cX1_byJoining) (maxL := 5) (ret := (some .int)) (by decide +kernel) rfl (Nat.le_of_ble_eq_true rfl) ?_
  intro p e su m args below meth c A Q ls hx hb hml hown hts hK hN hA hnm hP hD hS hl hend
  have hinX1 : ∀ w ∈ u_ws RX1 TX1 1, w ∈ wsX1_byJoining := fun _ h9 => List.mem_cons_of_mem _ (List.mem_append_left _ (List.mem_append_right _ h9))
  have hinX2 : ∀ w ∈ u_ws RX2 TX2 17, w ∈ wsX1_byJoining := fun _ h9 => List.mem_cons_of_mem _ (List.mem_append_right _ h9)
  unfold fX1_byJoining at h
  have hl : lv_has ls 5 [(0, .ref (a 0)), (1, .ref (b 0))] := hl
  refine lv_iconst (v := 0) hx hb dX1_byJoining_0 (by decide) ?_
  refine lv_istore_n (lv' := [(2, .int (0 : Int32)), (0, .ref (a 0)), (1, .ref (b 0))]) hx hb dX1_byJoining_1 rfl hl (by decide) rfl (fun ls hl => ?_)
  refine lv_iconst (v := 0) hx hb dX1_byJoining_2 (by decide) ?_
  refine lv_istore_n (lv' := [(3, .int (0 : Int32)), (2, .int (0 : Int32)), (0, .ref (a 0)), (1, .ref (b 0))]) hx hb dX1_byJoining_3 rfl hl (by decide) rfl (fun ls hl => ?_)
  have L4 : ∀ (n : Nat) (v3_1 : Int32) (is2 : Is) (is3 : Is) (H : Heap) (locs : List Loc) (ls : Array Slot), fX1_byJoining_L4 n v3_1 is2 = some is3 → va_P g.1 vwCl (cIs g a is2 ++ (cSt g b st)) H → va_D A (cIs g a is2 ++ (cSt g b st)) → va_S A su.heap H locs → lv_has ls 5 [(0, .ref (a 0)), (1, .ref (b 0)), (2, .int (0 : Int32)), (3, .int v3_1)] → (∀ (H : Heap) (locs : List Loc) (ls : Array Slot), va_P g.1 vwCl (cIs g a is3 ++ (cSt g b st)) H → va_D A (cIs g a is3 ++ (cSt g b st)) → va_S A su.heap H locs → lv_has ls 5 [(0, .ref (a 0)), (1, .ref (b 0)), (2, .int (0 : Int32))] → W p l e rX1_byJoining su m args below meth c H locs 0 0 Q (F0 m 23 ls [])) → W p l e rX1_byJoining su m args below meth c H locs 0 0 Q (F0 m 4 ls []) := by
    intro n
    induction n with
    | zero => intro v3_1 is2 is3 H locs ls h hP hD hS hl kx; cases h
    | succ n ih =>
      intro v3_1 is2 is3 H locs ls h hP hD hS hl kx
      rw [fX1_byJoining_L4] at h
      refine lv_iload_n hx hb dX1_byJoining_4 rfl (lv_at hl 3 rfl) ?_
      refine lv_bipush (v := 24) hx hb dX1_byJoining_5 (by decide) ?_
      refine lv_icmp_ge (tgt := 23) hx hb dX1_byJoining_7 (by decide) (fun c4 => ?_) (fun c4 => ?_)
      · have h := if_t c4 h
        cases some_i h
        exact kx _ _ _ hP hD hS (lv_sub hl [0, 1, 2] rfl)
      · have h := if_f c4 h
        refine lv_aload_n hx hb dX1_byJoining_10 rfl (lv_at hl 0 rfl) ?_
        refine va_get (D := g.1) (ci := 1) (v := .ref (a 1)) (C := RX1) (T := TX1) (N := 1) hx hb hts hinX1 hown hK hP 0 rfl rfl 0 (by decide) (hts (.fieldLink RX1 9 "BarredRungs$Islands" "parents" "[I") (List.mem_of_getElem? (i := 1) rfl)) (fun _ h9 => h9) rfl dX1_byJoining_11 ?_
        refine lv_iload_n hx hb dX1_byJoining_14 rfl (lv_at hl 3 rfl) ?_
        refine lv_iload_n hx hb dX1_byJoining_15 rfl (lv_at hl 3 rfl) ?_
        obtain ⟨hi9, h⟩ := ck_ex h
        obtain ⟨is5, eis5, h⟩ := pl_ex h
        refine va_iast hx hb hK hP hD hS 1 0 rfl rfl (inb_in hi9) dX1_byJoining_16 (fun H locs hP hD hS => ?_)
        have hP : va_P g.1 vwCl (cIs g a is5 ++ (cSt g b st)) H := by rw [← eis5]; exact hP
        have hD : va_D A (cIs g a is5 ++ (cSt g b st)) := by rw [← eis5]; exact hD
        obtain ⟨x6, ex6, h⟩ := pl_ex h
        refine lv_iinc (v := x6) (lv' := [(3, .int x6), (0, .ref (a 0)), (1, .ref (b 0)), (2, .int (0 : Int32))]) hx hb dX1_byJoining_17 hl (k := 3) rfl (by rw [← ex6]; rfl) (by decide) rfl (fun ls hl => ?_)
        refine lv_goto (tgt := 4) hx hb dX1_byJoining_20 (by decide) ?_
        exact ih x6 is5 _ _ _ _ h hP hD hS (lv_sub hl [1, 2, 3, 0] rfl) kx
  obtain ⟨is7, kis7, h⟩ := bd_ex h
  refine L4 1000 (0 : Int32) is is7 _ _ _ kis7 hP hD hS (lv_sub hl [2, 3, 1, 0] rfl) (fun H locs ls hP hD hS hl => ?_)
  refine lv_iconst (v := 0) hx hb dX1_byJoining_23 (by decide) ?_
  refine lv_istore_n (lv' := [(3, .int (0 : Int32)), (0, .ref (a 0)), (1, .ref (b 0)), (2, .int (0 : Int32))]) hx hb dX1_byJoining_24 rfl hl (by decide) rfl (fun ls hl => ?_)
  have L25 : ∀ (n : Nat) (v2_8 : Int32) (v3_9 : Int32) (is10 : Is) (y2_11 : Int32) (is12 : Is) (H : Heap) (locs : List Loc) (ls : Array Slot), fX1_byJoining_L25 st n v2_8 v3_9 is10 = some (y2_11, is12) → va_P g.1 vwCl (cIs g a is10 ++ (cSt g b st)) H → va_D A (cIs g a is10 ++ (cSt g b st)) → va_S A su.heap H locs → lv_has ls 5 [(0, .ref (a 0)), (1, .ref (b 0)), (2, .int v2_8), (3, .int v3_9)] → (∀ (H : Heap) (locs : List Loc) (ls : Array Slot), va_P g.1 vwCl (cIs g a is12 ++ (cSt g b st)) H → va_D A (cIs g a is12 ++ (cSt g b st)) → va_S A su.heap H locs → lv_has ls 5 [(1, .ref (b 0)), (2, .int y2_11)] → W p l e rX1_byJoining su m args below meth c H locs 0 0 Q (F0 m 80 ls [])) → W p l e rX1_byJoining su m args below meth c H locs 0 0 Q (F0 m 25 ls []) := by
    intro n
    induction n with
    | zero => intro v2_8 v3_9 is10 y2_11 is12 H locs ls h hP hD hS hl kx; cases h
    | succ n ih =>
      intro v2_8 v3_9 is10 y2_11 is12 H locs ls h hP hD hS hl kx
      rw [fX1_byJoining_L25] at h
      refine lv_iload_n hx hb dX1_byJoining_25 rfl (lv_at hl 3 rfl) ?_
      refine lv_aload_n hx hb dX1_byJoining_26 rfl (lv_at hl 1 rfl) ?_
      refine va_get (D := g.1) (ci := 2) (v := .int (St_words st)) (C := RX2) (T := TX2) (N := 17) hx hb hts hinX2 hown hK hP 2 rfl rfl 9 (by decide) (hts (.fieldLink RX1 15 "BarredRungs$State" "words" "I") (List.mem_of_getElem? (i := 2) rfl)) (fun _ h9 => h9) rfl dX1_byJoining_27 ?_
      refine lv_icmp_ge (tgt := 80) hx hb dX1_byJoining_30 (by decide) (fun c13 => ?_) (fun c13 => ?_)
      · have h := if_t c13 h
        cases some_i h
        exact kx _ _ _ hP hD hS (lv_sub hl [1, 2] rfl)
      · have h := if_f c13 h
        refine lv_iconst (v := 0) hx hb dX1_byJoining_33 (by decide) ?_
        refine lv_istore (lv' := [(4, .int (0 : Int32)), (0, .ref (a 0)), (1, .ref (b 0)), (2, .int v2_8), (3, .int v3_9)]) hx hb dX1_byJoining_34 hl (by decide) rfl (fun ls hl => ?_)
        have L36 : ∀ (n : Nat) (v2_14 : Int32) (v4_15 : Int32) (is16 : Is) (y2_17 : Int32) (is18 : Is) (H : Heap) (locs : List Loc) (ls : Array Slot), fX1_byJoining_L36 st v3_9 n v2_14 v4_15 is16 = some (y2_17, is18) → va_P g.1 vwCl (cIs g a is16 ++ (cSt g b st)) H → va_D A (cIs g a is16 ++ (cSt g b st)) → va_S A su.heap H locs → lv_has ls 5 [(0, .ref (a 0)), (1, .ref (b 0)), (2, .int v2_14), (3, .int v3_9), (4, .int v4_15)] → (∀ (H : Heap) (locs : List Loc) (ls : Array Slot), va_P g.1 vwCl (cIs g a is18 ++ (cSt g b st)) H → va_D A (cIs g a is18 ++ (cSt g b st)) → va_S A su.heap H locs → lv_has ls 5 [(0, .ref (a 0)), (1, .ref (b 0)), (2, .int y2_17), (3, .int v3_9)] → W p l e rX1_byJoining su m args below meth c H locs 0 0 Q (F0 m 74 ls [])) → W p l e rX1_byJoining su m args below meth c H locs 0 0 Q (F0 m 36 ls []) := by
          intro n
          induction n with
          | zero => intro v2_14 v4_15 is16 y2_17 is18 H locs ls h hP hD hS hl kx; cases h
          | succ n ih =>
            intro v2_14 v4_15 is16 y2_17 is18 H locs ls h hP hD hS hl kx
            rw [fX1_byJoining_L36] at h
            refine lv_iload hx hb dX1_byJoining_36 (lv_at hl 4 rfl) ?_
            refine lv_iload_n hx hb dX1_byJoining_38 rfl (lv_at hl 3 rfl) ?_
            refine lv_icmp_ge (tgt := 74) hx hb dX1_byJoining_39 (by decide) (fun c19 => ?_) (fun c19 => ?_)
            · have h := if_t c19 h
              cases some_i h
              exact kx _ _ _ hP hD hS (lv_sub hl [0, 1, 2, 3] rfl)
            · have h := if_f c19 h
              refine lv_aload_n hx hb dX1_byJoining_42 rfl (lv_at hl 1 rfl) ?_
              refine lv_iload_n hx hb dX1_byJoining_43 rfl (lv_at hl 3 rfl) ?_
              obtain ⟨r20, kr20, h⟩ := bd_ex h
              have hP8 : va_P g.1 vwCl ((cIs g a is16) ++ ((cSt g b st) ++ [])) H := hP
              have hD8 : va_D A ((cIs g a is16) ++ ((cSt g b st) ++ [])) := hD
              refine aft_f (st1 := [.int r20]) rfl (cIs g a is16) [] (runV (As := [.int v3_9]) (rest := []) ⟨hx, hb, hml, hown, hts⟩ (kX2_linksOf l g b kr20) (cwV 1 hts gX1_byJoining_X2_linksOf rfl rfl rfl hdX2_linksOf ⟨Nat.le_of_ble_eq_true rfl, Nat.le_of_ble_eq_true rfl⟩) hK hN hP8.right.left hD8.right.left (va_recv hK hP (ci := 2) (q0 := 2) rfl rfl) rfl hl.1 rfl (Nat.le_of_ble_eq_true rfl) dX1_byJoining_44 ⟨Nat.zero_le _, Nat.zero_le _⟩) hP8 hD8 hS hA (fun H locs hP hD hS => ?_)
              have hP : va_P g.1 vwCl (cIs g a is16 ++ (cSt g b st)) H := hP
              have hD : va_D A (cIs g a is16 ++ (cSt g b st)) := hD
              refine lv_iload hx hb dX1_byJoining_47 (lv_at hl 4 rfl) ?_
              obtain ⟨r21, kr21, h⟩ := bd_ex h
              refine aft_e (st1 := [.int r21]) rfl (runSN (As := [.int r20, .int v4_15]) (rest := []) ⟨hx, hb, hml, hown, hts⟩ (kX5_has l g kr21) ⟨va_cnB 2 hts gX1_byJoining_X5_has_n25 rfl rfl rfl (hN _ (List.mem_of_getElem? (i := 4) rfl)) (hts (.initialized RX5) (List.mem_of_getElem? (i := 15) rfl)) hdX5_has.2 ⟨Nat.le_of_ble_eq_true rfl, Nat.le_of_ble_eq_true rfl⟩, (hts (.static yX5_has) (List.mem_of_getElem? (i := 14) rfl)), trivial⟩ hK hN nilP (nilD (A := A)) rfl hl.1 rfl (Nat.le_of_ble_eq_true rfl) dX1_byJoining_49 ⟨Nat.zero_le _, Nat.zero_le _⟩) hP hS hA (fun H locs hP hS => ?_)
              refine lv_if_eq (tgt := 68) hx hb dX1_byJoining_52 (by decide) (fun c22 => ?_) (fun c22 => ?_)
              · have h := if_t c22 h
                obtain ⟨x23, ex23, h⟩ := pl_ex h
                refine lv_iinc (v := x23) (lv' := [(4, .int x23), (0, .ref (a 0)), (1, .ref (b 0)), (2, .int v2_14), (3, .int v3_9)]) hx hb dX1_byJoining_68 hl (k := 4) rfl (by rw [← ex23]; rfl) (by decide) rfl (fun ls hl => ?_)
                refine lv_goto (tgt := 36) hx hb dX1_byJoining_71 (by decide) ?_
                exact ih v2_14 x23 is16 _ _ _ _ _ h hP hD hS (lv_sub hl [1, 2, 3, 4, 0] rfl) kx
              · have h := if_f c22 h
                refine lv_aload_n hx hb dX1_byJoining_55 rfl (lv_at hl 0 rfl) ?_
                refine lv_iload_n hx hb dX1_byJoining_56 rfl (lv_at hl 3 rfl) ?_
                refine lv_iload hx hb dX1_byJoining_57 (lv_at hl 4 rfl) ?_
                obtain ⟨r24, is25, kr24, h⟩ := bd2_ex h
                have hP8 : va_P g.1 vwCl ([] ++ ((cIs g a is16) ++ (cSt g b st))) H := hP
                have hD8 : va_D A ([] ++ ((cIs g a is16) ++ (cSt g b st))) := hD
                refine aft_f (st1 := [.int r24]) rfl [] (cSt g b st) (runV (As := [.int v3_9, .int v4_15]) (rest := []) ⟨hx, hb, hml, hown, hts⟩ (kX1_join l g a kr24) (cwV 2 hts gX1_byJoining_X1_join rfl rfl rfl hdX1_join ⟨Nat.le_of_ble_eq_true rfl, Nat.le_of_ble_eq_true rfl⟩) hK hN hP8.right.left hD8.right.left (va_recv hK hP (ci := 1) (q0 := 0) rfl rfl) rfl hl.1 rfl (Nat.le_of_ble_eq_true rfl) dX1_byJoining_59 ⟨Nat.zero_le _, Nat.zero_le _⟩) hP8 hD8 hS hA (fun H locs hP hD hS => ?_)
                have hP : va_P g.1 vwCl (cIs g a is25 ++ (cSt g b st)) H := hP
                have hD : va_D A (cIs g a is25 ++ (cSt g b st)) := hD
                refine lv_if_eq (tgt := 68) hx hb dX1_byJoining_62 (by decide) (fun c26 => ?_) (fun c26 => ?_)
                · have h := if_t c26 h
                  obtain ⟨x27, ex27, h⟩ := pl_ex h
                  refine lv_iinc (v := x27) (lv' := [(4, .int x27), (0, .ref (a 0)), (1, .ref (b 0)), (2, .int v2_14), (3, .int v3_9)]) hx hb dX1_byJoining_68 hl (k := 4) rfl (by rw [← ex27]; rfl) (by decide) rfl (fun ls hl => ?_)
                  refine lv_goto (tgt := 36) hx hb dX1_byJoining_71 (by decide) ?_
                  exact ih v2_14 x27 is25 _ _ _ _ _ h hP hD hS (lv_sub hl [1, 2, 3, 4, 0] rfl) kx
                · have h := if_f c26 h
                  obtain ⟨x28, ex28, h⟩ := pl_ex h
                  refine lv_iinc (v := x28) (lv' := [(2, .int x28), (0, .ref (a 0)), (1, .ref (b 0)), (3, .int v3_9), (4, .int v4_15)]) hx hb dX1_byJoining_65 hl (k := 2) rfl (by rw [← ex28]; rfl) (by decide) rfl (fun ls hl => ?_)
                  obtain ⟨x29, ex29, h⟩ := pl_ex h
                  refine lv_iinc (v := x29) (lv' := [(4, .int x29), (2, .int x28), (0, .ref (a 0)), (1, .ref (b 0)), (3, .int v3_9)]) hx hb dX1_byJoining_68 hl (k := 4) rfl (by rw [← ex29]; rfl) (by decide) rfl (fun ls hl => ?_)
                  refine lv_goto (tgt := 36) hx hb dX1_byJoining_71 (by decide) ?_
                  exact ih x28 x29 is25 _ _ _ _ _ h hP hD hS (lv_sub hl [2, 3, 1, 4, 0] rfl) kx
        obtain ⟨v2_30, is31, kv2_30, h⟩ := bd2_ex h
        refine L36 1000 v2_8 (0 : Int32) is10 v2_30 is31 _ _ _ kv2_30 hP hD hS (lv_sub hl [1, 2, 3, 4, 0] rfl) (fun H locs ls hP hD hS hl => ?_)
        obtain ⟨x32, ex32, h⟩ := pl_ex h
        refine lv_iinc (v := x32) (lv' := [(3, .int x32), (0, .ref (a 0)), (1, .ref (b 0)), (2, .int v2_30)]) hx hb dX1_byJoining_74 hl (k := 3) rfl (by rw [← ex32]; rfl) (by decide) rfl (fun ls hl => ?_)
        refine lv_goto (tgt := 25) hx hb dX1_byJoining_77 (by decide) ?_
        exact ih v2_30 x32 is31 _ _ _ _ _ h hP hD hS (lv_sub hl [1, 2, 3, 0] rfl) kx
  obtain ⟨v2_33, is34, kv2_33, h⟩ := bd2_ex h
  refine L25 1000 (0 : Int32) (0 : Int32) is7 v2_33 is34 _ _ _ kv2_33 hP hD hS (lv_sub hl [1, 2, 3, 0] rfl) (fun H locs ls hP hD hS hl => ?_)
  refine lv_aload_n hx hb dX1_byJoining_80 rfl (lv_at hl 0 rfl) ?_
  refine va_get (D := g.1) (ci := 2) (v := .int (St_words st)) (C := RX2) (T := TX2) (N := 17) hx hb hts hinX2 hown hK hP 2 rfl rfl 9 (by decide) (hts (.fieldLink RX1 15 "BarredRungs$State" "words" "I") (List.mem_of_getElem? (i := 2) rfl)) (fun _ h9 => h9) rfl dX1_byJoining_81 ?_
  refine lv_iload_n hx hb dX1_byJoining_84 rfl (lv_at hl 1 rfl) ?_
  refine lv_isub hx hb dX1_byJoining_85 ?_
  cases some_i h
  exact hend _ _ _ _ _ hP hD hS (RetOK.i dX1_byJoining_86)
def fX1_byWalking_L7 (is : Is) (st : St) : Nat → Int32 → Int32 → Int32 → Option (Int32)
  | 0, _, _, _ => none
  | n + 1, v2_1, v3_2, v4_3 =>
    (if (St_words st) ≤ v4_3 then
    (some v3_2)
    else
    (bd (fX5_has v2_1 v4_3) fun (r6 : Int32) =>
    (if r6 = (0 : Int32) then
    (bd (fX1_around is st v4_3) fun (r9 : Int32) =>
    (pl ((v2_1 ||| r9)) fun (x10 : Int32) =>
    (pl ((v3_2 + (1 : Int32))) fun (x11 : Int32) =>
    (pl ((v4_3 + (1 : Int32))) fun (x12 : Int32) =>
    (fX1_byWalking_L7 is st n x10 x11 x12)))))
    else
    (pl ((v4_3 + (1 : Int32))) fun (x8 : Int32) =>
    (fX1_byWalking_L7 is st n v2_1 v3_2 x8)))))
def fX1_byWalking (is : Is) (st : St) : Option (Int32) :=
(bd (fX1_byWalking_L7 is st 1000 (0 : Int32) (0 : Int32) (0 : Int32)) fun (v3_13 : Int32) =>
(some v3_13))
abbrev rX1_byWalking : Room := { frames := 3, cells := 0, slots := 0, locals := 69 }
theorem hdX1_byWalking : yX1_byWalking.cls = RX1 ∧ yX1_byWalking.cls ≠ "java/lang/invoke/MethodHandle" ∧ yX1_byWalking.cls ≠ "java/lang/invoke/VarHandle" ∧ (parseMethodDescriptor yX1_byWalking.desc).map (fun d => d.parameters.length) = some 1 := by decide +kernel
set_option maxRecDepth 100000 in
set_option maxHeartbeats 8000000 in
theorem kX1_byWalking (l : Launch) (g : GG) (a b : Nat → Nat) {is : Is} {st : St} {res : Int32} (h : fX1_byWalking is st = some res) : Cg l g yX1_byWalking wsX1_byWalking rX1_byWalking [.ref (a 0), .ref (b 0)] (cIs g a is ++ (cSt g b st)) (some (.int res)) (cIs g a is ++ (cSt g b st)) := by
  refine Cg_of (cc := cX1_byWalking) (maxL := 5) (ret := (some .int)) (by decide +kernel) rfl (Nat.le_of_ble_eq_true rfl) ?_
  intro p e su m args below meth c A Q ls hx hb hml hown hts hK hN hA hnm hP hD hS hl hend
  have hinX2 : ∀ w ∈ u_ws RX2 TX2 17, w ∈ wsX1_byWalking := fun _ h9 => List.mem_cons_of_mem _ (List.mem_append_right _ h9)
  unfold fX1_byWalking at h
  have hl : lv_has ls 5 [(0, .ref (a 0)), (1, .ref (b 0))] := hl
  refine lv_iconst (v := 0) hx hb dX1_byWalking_0 (by decide) ?_
  refine lv_istore_n (lv' := [(2, .int (0 : Int32)), (0, .ref (a 0)), (1, .ref (b 0))]) hx hb dX1_byWalking_1 rfl hl (by decide) rfl (fun ls hl => ?_)
  refine lv_iconst (v := 0) hx hb dX1_byWalking_2 (by decide) ?_
  refine lv_istore_n (lv' := [(3, .int (0 : Int32)), (2, .int (0 : Int32)), (0, .ref (a 0)), (1, .ref (b 0))]) hx hb dX1_byWalking_3 rfl hl (by decide) rfl (fun ls hl => ?_)
  refine lv_iconst (v := 0) hx hb dX1_byWalking_4 (by decide) ?_
  refine lv_istore (lv' := [(4, .int (0 : Int32)), (3, .int (0 : Int32)), (2, .int (0 : Int32)), (0, .ref (a 0)), (1, .ref (b 0))]) hx hb dX1_byWalking_5 hl (by decide) rfl (fun ls hl => ?_)
  have L7 : ∀ (n : Nat) (v2_1 : Int32) (v3_2 : Int32) (v4_3 : Int32) (y3_4 : Int32) (H : Heap) (locs : List Loc) (ls : Array Slot), fX1_byWalking_L7 is st n v2_1 v3_2 v4_3 = some y3_4 → va_P g.1 vwCl (cIs g a is ++ (cSt g b st)) H → va_D A (cIs g a is ++ (cSt g b st)) → va_S A su.heap H locs → lv_has ls 5 [(0, .ref (a 0)), (1, .ref (b 0)), (2, .int v2_1), (3, .int v3_2), (4, .int v4_3)] → (∀ (H : Heap) (locs : List Loc) (ls : Array Slot), va_P g.1 vwCl (cIs g a is ++ (cSt g b st)) H → va_D A (cIs g a is ++ (cSt g b st)) → va_S A su.heap H locs → lv_has ls 5 [(3, .int y3_4)] → W p l e rX1_byWalking su m args below meth c H locs 0 0 Q (F0 m 44 ls [])) → W p l e rX1_byWalking su m args below meth c H locs 0 0 Q (F0 m 7 ls []) := by
    intro n
    induction n with
    | zero => intro v2_1 v3_2 v4_3 y3_4 H locs ls h hP hD hS hl kx; cases h
    | succ n ih =>
      intro v2_1 v3_2 v4_3 y3_4 H locs ls h hP hD hS hl kx
      rw [fX1_byWalking_L7] at h
      refine lv_iload hx hb dX1_byWalking_7 (lv_at hl 4 rfl) ?_
      refine lv_aload_n hx hb dX1_byWalking_9 rfl (lv_at hl 1 rfl) ?_
      refine va_get (D := g.1) (ci := 2) (v := .int (St_words st)) (C := RX2) (T := TX2) (N := 17) hx hb hts hinX2 hown hK hP 2 rfl rfl 9 (by decide) (hts (.fieldLink RX1 15 "BarredRungs$State" "words" "I") (List.mem_of_getElem? (i := 1) rfl)) (fun _ h9 => h9) rfl dX1_byWalking_10 ?_
      refine lv_icmp_ge (tgt := 44) hx hb dX1_byWalking_13 (by decide) (fun c5 => ?_) (fun c5 => ?_)
      · have h := if_t c5 h
        cases some_i h
        exact kx _ _ _ hP hD hS (lv_sub hl [3] rfl)
      · have h := if_f c5 h
        refine lv_iload_n hx hb dX1_byWalking_16 rfl (lv_at hl 2 rfl) ?_
        refine lv_iload hx hb dX1_byWalking_17 (lv_at hl 4 rfl) ?_
        obtain ⟨r6, kr6, h⟩ := bd_ex h
        refine aft_e (st1 := [.int r6]) rfl (runSN (As := [.int v2_1, .int v4_3]) (rest := []) ⟨hx, hb, hml, hown, hts⟩ (kX5_has l g kr6) ⟨va_cnB 2 hts gX1_byWalking_X5_has_n25 rfl rfl rfl (hN _ (List.mem_of_getElem? (i := 4) rfl)) (hts (.initialized RX5) (List.mem_of_getElem? (i := 3) rfl)) hdX5_has.2 ⟨Nat.le_of_ble_eq_true rfl, Nat.le_of_ble_eq_true rfl⟩, (hts (.static yX5_has) (List.mem_of_getElem? (i := 2) rfl)), trivial⟩ hK hN nilP (nilD (A := A)) rfl hl.1 rfl (Nat.le_of_ble_eq_true rfl) dX1_byWalking_19 ⟨Nat.zero_le _, Nat.zero_le _⟩) hP hS hA (fun H locs hP hS => ?_)
        refine lv_if_ne (tgt := 38) hx hb dX1_byWalking_22 (by decide) (fun c7 => ?_) (fun c7 => ?_)
        · have h := if_f c7 h
          obtain ⟨x8, ex8, h⟩ := pl_ex h
          refine lv_iinc (v := x8) (lv' := [(4, .int x8), (0, .ref (a 0)), (1, .ref (b 0)), (2, .int v2_1), (3, .int v3_2)]) hx hb dX1_byWalking_38 hl (k := 4) rfl (by rw [← ex8]; rfl) (by decide) rfl (fun ls hl => ?_)
          refine lv_goto (tgt := 7) hx hb dX1_byWalking_41 (by decide) ?_
          exact ih v2_1 v3_2 x8 _ _ _ _ h hP hD hS (lv_sub hl [1, 2, 3, 4, 0] rfl) kx
        · have h := if_t c7 h
          refine lv_iload_n hx hb dX1_byWalking_25 rfl (lv_at hl 2 rfl) ?_
          refine lv_aload_n hx hb dX1_byWalking_26 rfl (lv_at hl 0 rfl) ?_
          refine lv_aload_n hx hb dX1_byWalking_27 rfl (lv_at hl 1 rfl) ?_
          refine lv_iload hx hb dX1_byWalking_28 (lv_at hl 4 rfl) ?_
          obtain ⟨r9, kr9, h⟩ := bd_ex h
          refine aft_w (st1 := [.int r9, .int v2_1]) rfl (runV (As := [.ref (b 0), .int v4_3]) (rest := [.int v2_1]) ⟨hx, hb, hml, hown, hts⟩ (kX1_around l g a b kr9) (cwV 2 hts gX1_byWalking_X1_around rfl rfl rfl hdX1_around ⟨Nat.le_of_ble_eq_true rfl, Nat.le_of_ble_eq_true rfl⟩) hK hN hP hD (va_recv hK hP (ci := 1) (q0 := 0) rfl rfl) rfl hl.1 rfl (Nat.le_of_ble_eq_true rfl) dX1_byWalking_30 ⟨Nat.zero_le _, Nat.zero_le _⟩) hD hS hA (fun H locs hP hD hS => ?_)
          refine lv_ior hx hb dX1_byWalking_33 ?_
          obtain ⟨x10, ex10, h⟩ := pl_ex h
          refine lv_eqi ex10 ?_
          refine lv_istore_n (lv' := [(2, .int x10), (0, .ref (a 0)), (1, .ref (b 0)), (3, .int v3_2), (4, .int v4_3)]) hx hb dX1_byWalking_34 rfl hl (by decide) rfl (fun ls hl => ?_)
          obtain ⟨x11, ex11, h⟩ := pl_ex h
          refine lv_iinc (v := x11) (lv' := [(3, .int x11), (2, .int x10), (0, .ref (a 0)), (1, .ref (b 0)), (4, .int v4_3)]) hx hb dX1_byWalking_35 hl (k := 3) rfl (by rw [← ex11]; rfl) (by decide) rfl (fun ls hl => ?_)
          obtain ⟨x12, ex12, h⟩ := pl_ex h
          refine lv_iinc (v := x12) (lv' := [(4, .int x12), (3, .int x11), (2, .int x10), (0, .ref (a 0)), (1, .ref (b 0))]) hx hb dX1_byWalking_38 hl (k := 4) rfl (by rw [← ex12]; rfl) (by decide) rfl (fun ls hl => ?_)
          refine lv_goto (tgt := 7) hx hb dX1_byWalking_41 (by decide) ?_
          exact ih x10 x11 x12 _ _ _ _ h hP hD hS (lv_sub hl [3, 4, 2, 1, 0] rfl) kx
  obtain ⟨v3_13, kv3_13, h⟩ := bd_ex h
  refine L7 1000 (0 : Int32) (0 : Int32) (0 : Int32) v3_13 _ _ _ kv3_13 hP hD hS (lv_sub hl [3, 4, 2, 1, 0] rfl) (fun H locs ls hP hD hS hl => ?_)
  refine lv_iload_n hx hb dX1_byWalking_44 rfl (lv_at hl 0 rfl) ?_
  cases some_i h
  exact hend _ _ _ _ _ hP hD hS (RetOK.i dX1_byWalking_45)
def fX3_codeAt (tx : Tx) (p1 : Int32) : Option (Int32) :=
(if p1 < (0 : Int32) then
(some (0 : Int32))
else
(if (Tx_length tx) ≤ p1 then
(some (0 : Int32))
else
(if (60 : Int32) ≤ p1 then
(some (0 : Int32))
else
(ck (inb p1 60)
(some (Tx_codes tx p1.toNatClampNeg))))))
abbrev rX3_codeAt : Room := { frames := 0, cells := 0, slots := 0, locals := 0 }
theorem hdX3_codeAt : yX3_codeAt.cls = RX3 ∧ yX3_codeAt.cls ≠ "java/lang/invoke/MethodHandle" ∧ yX3_codeAt.cls ≠ "java/lang/invoke/VarHandle" ∧ (parseMethodDescriptor yX3_codeAt.desc).map (fun d => d.parameters.length) = some 1 := by decide +kernel
set_option maxRecDepth 100000 in
set_option maxHeartbeats 8000000 in
theorem kX3_codeAt (l : Launch) (g : GG) (a : Nat → Nat) {tx : Tx} {p1 : Int32} {res : Int32} (h : fX3_codeAt tx p1 = some res) : Cg l g yX3_codeAt wsX3_codeAt rX3_codeAt [.ref (a 0), .int p1] (cTx g a tx) (some (.int res)) (cTx g a tx) := by
  refine Cg_of (cc := cX3_codeAt) (maxL := 2) (ret := (some .int)) (by decide +kernel) rfl (Nat.le_of_ble_eq_true rfl) ?_
  intro p e su m args below meth c A Q ls hx hb hml hown hts hK hN hA hnm hP hD hS hl hend
  have hinX3 : ∀ w ∈ u_ws RX3 TX3 2, w ∈ wsX3_codeAt := fun _ h9 => List.mem_cons_of_mem _ (List.mem_append_right _ h9)
  unfold fX3_codeAt at h
  have hl : lv_has ls 2 [(0, .ref (a 0)), (1, .int p1)] := hl
  refine lv_iload_n hx hb dX3_codeAt_0 rfl (lv_at hl 1 rfl) ?_
  refine lv_if_lt (tgt := 27) hx hb dX3_codeAt_1 (by decide) (fun c1 => ?_) (fun c1 => ?_)
  · have h := if_t c1 h
    refine lv_iconst (v := 0) hx hb dX3_codeAt_27 (by decide) ?_
    cases some_i h
    exact hend _ _ _ _ _ hP hD hS (RetOK.i dX3_codeAt_28)
  · have h := if_f c1 h
    refine lv_iload_n hx hb dX3_codeAt_4 rfl (lv_at hl 1 rfl) ?_
    refine lv_aload_n hx hb dX3_codeAt_5 rfl (lv_at hl 0 rfl) ?_
    refine va_get (D := g.1) (ci := 3) (v := .int (Tx_length tx)) (C := RX3) (T := TX3) (N := 2) hx hb hts hinX3 hown hK hP 0 rfl rfl 1 (by decide) (hts (.fieldLink RX3 15 "BarredRungs$Text" "length" "I") (List.mem_of_getElem? (i := 1) rfl)) (fun _ h9 => h9) rfl dX3_codeAt_6 ?_
    refine lv_icmp_ge (tgt := 27) hx hb dX3_codeAt_9 (by decide) (fun c2 => ?_) (fun c2 => ?_)
    · have h := if_t c2 h
      refine lv_iconst (v := 0) hx hb dX3_codeAt_27 (by decide) ?_
      cases some_i h
      exact hend _ _ _ _ _ hP hD hS (RetOK.i dX3_codeAt_28)
    · have h := if_f c2 h
      refine lv_iload_n hx hb dX3_codeAt_12 rfl (lv_at hl 1 rfl) ?_
      refine lv_bipush (v := 60) hx hb dX3_codeAt_13 (by decide) ?_
      refine lv_icmp_ge (tgt := 27) hx hb dX3_codeAt_15 (by decide) (fun c3 => ?_) (fun c3 => ?_)
      · have h := if_t c3 h
        refine lv_iconst (v := 0) hx hb dX3_codeAt_27 (by decide) ?_
        cases some_i h
        exact hend _ _ _ _ _ hP hD hS (RetOK.i dX3_codeAt_28)
      · have h := if_f c3 h
        refine lv_aload_n hx hb dX3_codeAt_18 rfl (lv_at hl 0 rfl) ?_
        refine va_get (D := g.1) (ci := 3) (v := .ref (a 1)) (C := RX3) (T := TX3) (N := 2) hx hb hts hinX3 hown hK hP 0 rfl rfl 0 (by decide) (hts (.fieldLink RX3 11 "BarredRungs$Text" "codes" "[I") (List.mem_of_getElem? (i := 2) rfl)) (fun _ h9 => h9) rfl dX3_codeAt_19 ?_
        refine lv_iload_n hx hb dX3_codeAt_22 rfl (lv_at hl 1 rfl) ?_
        obtain ⟨hi9, h⟩ := ck_ex h
        refine va_iald hx hb hK hP 1 0 rfl rfl (inb_in hi9) dX3_codeAt_23 ?_
        refine lv_goto (tgt := 28) hx hb dX3_codeAt_24 (by decide) ?_
        cases some_i h
        exact hend _ _ _ _ _ hP hD hS (RetOK.i dX3_codeAt_28)
def fX3_dueAfter (p0 : Int32) (p1 : Int32) (p2 : Int32) : Option (Int32) :=
(if p1 < (97 : Int32) then
(if p0 = (-1 : Int32) then
(some (-1 : Int32))
else
(if p0 = (0 : Int32) then
(if p2 = (1 : Int32) then
(if p1 = (44 : Int32) then
(some (5 : Int32))
else
(some (-1 : Int32)))
else
(if p1 = (59 : Int32) then
(some (5 : Int32))
else
(some (-1 : Int32))))
else
(if p0 = (5 : Int32) then
(if p2 = (1 : Int32) then
(some (-1 : Int32))
else
(if p1 = (116 : Int32) then
(some (0 : Int32))
else
(if p1 < (48 : Int32) then
(some (-1 : Int32))
else
(if (51 : Int32) ≤ p1 then
(some (-1 : Int32))
else
(some (4 : Int32))))))
else
(some (-1 : Int32)))))
else
(if (104 : Int32) < p1 then
(if p0 = (-1 : Int32) then
(some (-1 : Int32))
else
(if p0 = (0 : Int32) then
(if p2 = (1 : Int32) then
(if p1 = (44 : Int32) then
(some (5 : Int32))
else
(some (-1 : Int32)))
else
(if p1 = (59 : Int32) then
(some (5 : Int32))
else
(some (-1 : Int32))))
else
(if p0 = (5 : Int32) then
(if p2 = (1 : Int32) then
(some (-1 : Int32))
else
(if p1 = (116 : Int32) then
(some (0 : Int32))
else
(if p1 < (48 : Int32) then
(some (-1 : Int32))
else
(if (51 : Int32) ≤ p1 then
(some (-1 : Int32))
else
(some (4 : Int32))))))
else
(some (-1 : Int32)))))
else
(if p0 = (-1 : Int32) then
(some (-1 : Int32))
else
(if p0 = (0 : Int32) then
(if p2 = (1 : Int32) then
(if p1 = (44 : Int32) then
(some (5 : Int32))
else
(some (-1 : Int32)))
else
(if p1 = (59 : Int32) then
(some (5 : Int32))
else
(some (-1 : Int32))))
else
(if p0 = (5 : Int32) then
(if p2 = (1 : Int32) then
(some (3 : Int32))
else
(if p1 = (116 : Int32) then
(some (0 : Int32))
else
(if p1 < (48 : Int32) then
(some (-1 : Int32))
else
(if (51 : Int32) ≤ p1 then
(some (-1 : Int32))
else
(some (4 : Int32))))))
else
(some (p0 - (1 : Int32))))))))
abbrev rX3_dueAfter : Room := { frames := 0, cells := 0, slots := 0, locals := 0 }
theorem hdX3_dueAfter : yX3_dueAfter.cls = RX3 ∧ yX3_dueAfter.cls ≠ "java/lang/invoke/MethodHandle" ∧ yX3_dueAfter.cls ≠ "java/lang/invoke/VarHandle" ∧ (parseMethodDescriptor yX3_dueAfter.desc).map (fun d => d.parameters.length) = some 3 := by decide +kernel
set_option maxRecDepth 100000 in
set_option maxHeartbeats 8000000 in
theorem kX3_dueAfter (l : Launch) (g : GG) {p0 : Int32} {p1 : Int32} {p2 : Int32} {res : Int32} (h : fX3_dueAfter p0 p1 p2 = some res) : Cg l g yX3_dueAfter wsX3_dueAfter rX3_dueAfter [.int p0, .int p1, .int p2] [] (some (.int res)) [] := by
  refine Cg_of (cc := cX3_dueAfter) (maxL := 4) (ret := (some .int)) (by decide +kernel) rfl (Nat.le_of_ble_eq_true rfl) ?_
  intro p e su m args below meth c A Q ls hx hb hml hown hts hK hN hA hnm hP hD hS hl hend
  unfold fX3_dueAfter at h
  have hl : lv_has ls 4 [(0, .int p0), (1, .int p1), (2, .int p2)] := hl
  refine lv_iload_n hx hb dX3_dueAfter_0 rfl (lv_at hl 1 rfl) ?_
  refine lv_bipush (v := 97) hx hb dX3_dueAfter_1 (by decide) ?_
  refine lv_icmp_lt (tgt := 16) hx hb dX3_dueAfter_3 (by decide) (fun c1 => ?_) (fun c1 => ?_)
  · have h := if_t c1 h
    refine lv_iconst (v := 0) hx hb dX3_dueAfter_16 (by decide) ?_
    refine lv_istore_n (lv' := [(3, .int (0 : Int32)), (0, .int p0), (1, .int p1), (2, .int p2)]) hx hb dX3_dueAfter_17 rfl hl (by decide) rfl (fun ls hl => ?_)
    refine lv_iload_n hx hb dX3_dueAfter_18 rfl (lv_at hl 1 rfl) ?_
    refine lv_iconst (v := -1) hx hb dX3_dueAfter_19 (by decide) ?_
    refine lv_icmp_ne (tgt := 25) hx hb dX3_dueAfter_20 (by decide) (fun c2 => ?_) (fun c2 => ?_)
    · have h := if_f c2 h
      refine lv_iload_n hx hb dX3_dueAfter_25 rfl (lv_at hl 1 rfl) ?_
      refine lv_if_ne (tgt := 51) hx hb dX3_dueAfter_26 (by decide) (fun c3 => ?_) (fun c3 => ?_)
      · have h := if_f c3 h
        refine lv_iload_n hx hb dX3_dueAfter_51 rfl (lv_at hl 1 rfl) ?_
        refine lv_iconst (v := 5) hx hb dX3_dueAfter_52 (by decide) ?_
        refine lv_icmp_eq (tgt := 68) hx hb dX3_dueAfter_53 (by decide) (fun c4 => ?_) (fun c4 => ?_)
        · have h := if_t c4 h
          refine lv_iload_n hx hb dX3_dueAfter_68 rfl (lv_at hl 3 rfl) ?_
          refine lv_iconst (v := 1) hx hb dX3_dueAfter_69 (by decide) ?_
          refine lv_icmp_ne (tgt := 83) hx hb dX3_dueAfter_70 (by decide) (fun c5 => ?_) (fun c5 => ?_)
          · have h := if_f c5 h
            refine lv_iload_n hx hb dX3_dueAfter_83 rfl (lv_at hl 2 rfl) ?_
            refine lv_bipush (v := 116) hx hb dX3_dueAfter_84 (by decide) ?_
            refine lv_icmp_ne (tgt := 91) hx hb dX3_dueAfter_86 (by decide) (fun c6 => ?_) (fun c6 => ?_)
            · have h := if_f c6 h
              refine lv_iload_n hx hb dX3_dueAfter_91 rfl (lv_at hl 2 rfl) ?_
              refine lv_bipush (v := 48) hx hb dX3_dueAfter_92 (by decide) ?_
              refine lv_icmp_lt (tgt := 107) hx hb dX3_dueAfter_94 (by decide) (fun c7 => ?_) (fun c7 => ?_)
              · have h := if_t c7 h
                refine lv_iconst (v := -1) hx hb dX3_dueAfter_107 (by decide) ?_
                cases some_i h
                exact hend _ _ _ _ _ hP hD hS (RetOK.i dX3_dueAfter_108)
              · have h := if_f c7 h
                refine lv_iload_n hx hb dX3_dueAfter_97 rfl (lv_at hl 2 rfl) ?_
                refine lv_bipush (v := 51) hx hb dX3_dueAfter_98 (by decide) ?_
                refine lv_icmp_ge (tgt := 107) hx hb dX3_dueAfter_100 (by decide) (fun c8 => ?_) (fun c8 => ?_)
                · have h := if_t c8 h
                  refine lv_iconst (v := -1) hx hb dX3_dueAfter_107 (by decide) ?_
                  cases some_i h
                  exact hend _ _ _ _ _ hP hD hS (RetOK.i dX3_dueAfter_108)
                · have h := if_f c8 h
                  refine lv_iconst (v := 4) hx hb dX3_dueAfter_103 (by decide) ?_
                  refine lv_goto (tgt := 108) hx hb dX3_dueAfter_104 (by decide) ?_
                  cases some_i h
                  exact hend _ _ _ _ _ hP hD hS (RetOK.i dX3_dueAfter_108)
            · have h := if_t c6 h
              refine lv_iconst (v := 0) hx hb dX3_dueAfter_89 (by decide) ?_
              cases some_i h
              exact hend _ _ _ _ _ hP hD hS (RetOK.i dX3_dueAfter_90)
          · have h := if_t c5 h
            refine lv_iload_n hx hb dX3_dueAfter_73 rfl (lv_at hl 0 rfl) ?_
            refine lv_if_eq (tgt := 81) hx hb dX3_dueAfter_74 (by decide) (fun c9 => ?_) (fun c9 => ?_)
            rotate_left
            · exact absurd c9 (by decide)
            refine lv_iconst (v := -1) hx hb dX3_dueAfter_81 (by decide) ?_
            cases some_i h
            exact hend _ _ _ _ _ hP hD hS (RetOK.i dX3_dueAfter_82)
        · have h := if_f c4 h
          refine lv_iload_n hx hb dX3_dueAfter_56 rfl (lv_at hl 0 rfl) ?_
          refine lv_if_eq (tgt := 66) hx hb dX3_dueAfter_57 (by decide) (fun c10 => ?_) (fun c10 => ?_)
          rotate_left
          · exact absurd c10 (by decide)
          refine lv_iconst (v := -1) hx hb dX3_dueAfter_66 (by decide) ?_
          cases some_i h
          exact hend _ _ _ _ _ hP hD hS (RetOK.i dX3_dueAfter_67)
      · have h := if_t c3 h
        refine lv_iload_n hx hb dX3_dueAfter_29 rfl (lv_at hl 2 rfl) ?_
        refine lv_iload_n hx hb dX3_dueAfter_30 rfl (lv_at hl 3 rfl) ?_
        refine lv_iconst (v := 1) hx hb dX3_dueAfter_31 (by decide) ?_
        refine lv_icmp_ne (tgt := 40) hx hb dX3_dueAfter_32 (by decide) (fun c11 => ?_) (fun c11 => ?_)
        · have h := if_f c11 h
          refine lv_bipush (v := 59) hx hb dX3_dueAfter_40 (by decide) ?_
          refine lv_icmp_ne (tgt := 49) hx hb dX3_dueAfter_42 (by decide) (fun c12 => ?_) (fun c12 => ?_)
          · have h := if_f c12 h
            refine lv_iconst (v := -1) hx hb dX3_dueAfter_49 (by decide) ?_
            cases some_i h
            exact hend _ _ _ _ _ hP hD hS (RetOK.i dX3_dueAfter_50)
          · have h := if_t c12 h
            refine lv_iconst (v := 5) hx hb dX3_dueAfter_45 (by decide) ?_
            refine lv_goto (tgt := 50) hx hb dX3_dueAfter_46 (by decide) ?_
            cases some_i h
            exact hend _ _ _ _ _ hP hD hS (RetOK.i dX3_dueAfter_50)
        · have h := if_t c11 h
          refine lv_bipush (v := 44) hx hb dX3_dueAfter_35 (by decide) ?_
          refine lv_goto (tgt := 42) hx hb dX3_dueAfter_37 (by decide) ?_
          refine lv_icmp_ne (tgt := 49) hx hb dX3_dueAfter_42 (by decide) (fun c13 => ?_) (fun c13 => ?_)
          · have h := if_f c13 h
            refine lv_iconst (v := -1) hx hb dX3_dueAfter_49 (by decide) ?_
            cases some_i h
            exact hend _ _ _ _ _ hP hD hS (RetOK.i dX3_dueAfter_50)
          · have h := if_t c13 h
            refine lv_iconst (v := 5) hx hb dX3_dueAfter_45 (by decide) ?_
            refine lv_goto (tgt := 50) hx hb dX3_dueAfter_46 (by decide) ?_
            cases some_i h
            exact hend _ _ _ _ _ hP hD hS (RetOK.i dX3_dueAfter_50)
    · have h := if_t c2 h
      refine lv_iconst (v := -1) hx hb dX3_dueAfter_23 (by decide) ?_
      cases some_i h
      exact hend _ _ _ _ _ hP hD hS (RetOK.i dX3_dueAfter_24)
  · have h := if_f c1 h
    refine lv_iload_n hx hb dX3_dueAfter_6 rfl (lv_at hl 1 rfl) ?_
    refine lv_bipush (v := 104) hx hb dX3_dueAfter_7 (by decide) ?_
    refine lv_icmp_gt (tgt := 16) hx hb dX3_dueAfter_9 (by decide) (fun c14 => ?_) (fun c14 => ?_)
    · have h := if_t c14 h
      refine lv_iconst (v := 0) hx hb dX3_dueAfter_16 (by decide) ?_
      refine lv_istore_n (lv' := [(3, .int (0 : Int32)), (0, .int p0), (1, .int p1), (2, .int p2)]) hx hb dX3_dueAfter_17 rfl hl (by decide) rfl (fun ls hl => ?_)
      refine lv_iload_n hx hb dX3_dueAfter_18 rfl (lv_at hl 1 rfl) ?_
      refine lv_iconst (v := -1) hx hb dX3_dueAfter_19 (by decide) ?_
      refine lv_icmp_ne (tgt := 25) hx hb dX3_dueAfter_20 (by decide) (fun c15 => ?_) (fun c15 => ?_)
      · have h := if_f c15 h
        refine lv_iload_n hx hb dX3_dueAfter_25 rfl (lv_at hl 1 rfl) ?_
        refine lv_if_ne (tgt := 51) hx hb dX3_dueAfter_26 (by decide) (fun c16 => ?_) (fun c16 => ?_)
        · have h := if_f c16 h
          refine lv_iload_n hx hb dX3_dueAfter_51 rfl (lv_at hl 1 rfl) ?_
          refine lv_iconst (v := 5) hx hb dX3_dueAfter_52 (by decide) ?_
          refine lv_icmp_eq (tgt := 68) hx hb dX3_dueAfter_53 (by decide) (fun c17 => ?_) (fun c17 => ?_)
          · have h := if_t c17 h
            refine lv_iload_n hx hb dX3_dueAfter_68 rfl (lv_at hl 3 rfl) ?_
            refine lv_iconst (v := 1) hx hb dX3_dueAfter_69 (by decide) ?_
            refine lv_icmp_ne (tgt := 83) hx hb dX3_dueAfter_70 (by decide) (fun c18 => ?_) (fun c18 => ?_)
            · have h := if_f c18 h
              refine lv_iload_n hx hb dX3_dueAfter_83 rfl (lv_at hl 2 rfl) ?_
              refine lv_bipush (v := 116) hx hb dX3_dueAfter_84 (by decide) ?_
              refine lv_icmp_ne (tgt := 91) hx hb dX3_dueAfter_86 (by decide) (fun c19 => ?_) (fun c19 => ?_)
              · have h := if_f c19 h
                refine lv_iload_n hx hb dX3_dueAfter_91 rfl (lv_at hl 2 rfl) ?_
                refine lv_bipush (v := 48) hx hb dX3_dueAfter_92 (by decide) ?_
                refine lv_icmp_lt (tgt := 107) hx hb dX3_dueAfter_94 (by decide) (fun c20 => ?_) (fun c20 => ?_)
                · have h := if_t c20 h
                  refine lv_iconst (v := -1) hx hb dX3_dueAfter_107 (by decide) ?_
                  cases some_i h
                  exact hend _ _ _ _ _ hP hD hS (RetOK.i dX3_dueAfter_108)
                · have h := if_f c20 h
                  refine lv_iload_n hx hb dX3_dueAfter_97 rfl (lv_at hl 2 rfl) ?_
                  refine lv_bipush (v := 51) hx hb dX3_dueAfter_98 (by decide) ?_
                  refine lv_icmp_ge (tgt := 107) hx hb dX3_dueAfter_100 (by decide) (fun c21 => ?_) (fun c21 => ?_)
                  · have h := if_t c21 h
                    refine lv_iconst (v := -1) hx hb dX3_dueAfter_107 (by decide) ?_
                    cases some_i h
                    exact hend _ _ _ _ _ hP hD hS (RetOK.i dX3_dueAfter_108)
                  · have h := if_f c21 h
                    refine lv_iconst (v := 4) hx hb dX3_dueAfter_103 (by decide) ?_
                    refine lv_goto (tgt := 108) hx hb dX3_dueAfter_104 (by decide) ?_
                    cases some_i h
                    exact hend _ _ _ _ _ hP hD hS (RetOK.i dX3_dueAfter_108)
              · have h := if_t c19 h
                refine lv_iconst (v := 0) hx hb dX3_dueAfter_89 (by decide) ?_
                cases some_i h
                exact hend _ _ _ _ _ hP hD hS (RetOK.i dX3_dueAfter_90)
            · have h := if_t c18 h
              refine lv_iload_n hx hb dX3_dueAfter_73 rfl (lv_at hl 0 rfl) ?_
              refine lv_if_eq (tgt := 81) hx hb dX3_dueAfter_74 (by decide) (fun c22 => ?_) (fun c22 => ?_)
              rotate_left
              · exact absurd c22 (by decide)
              refine lv_iconst (v := -1) hx hb dX3_dueAfter_81 (by decide) ?_
              cases some_i h
              exact hend _ _ _ _ _ hP hD hS (RetOK.i dX3_dueAfter_82)
          · have h := if_f c17 h
            refine lv_iload_n hx hb dX3_dueAfter_56 rfl (lv_at hl 0 rfl) ?_
            refine lv_if_eq (tgt := 66) hx hb dX3_dueAfter_57 (by decide) (fun c23 => ?_) (fun c23 => ?_)
            rotate_left
            · exact absurd c23 (by decide)
            refine lv_iconst (v := -1) hx hb dX3_dueAfter_66 (by decide) ?_
            cases some_i h
            exact hend _ _ _ _ _ hP hD hS (RetOK.i dX3_dueAfter_67)
        · have h := if_t c16 h
          refine lv_iload_n hx hb dX3_dueAfter_29 rfl (lv_at hl 2 rfl) ?_
          refine lv_iload_n hx hb dX3_dueAfter_30 rfl (lv_at hl 3 rfl) ?_
          refine lv_iconst (v := 1) hx hb dX3_dueAfter_31 (by decide) ?_
          refine lv_icmp_ne (tgt := 40) hx hb dX3_dueAfter_32 (by decide) (fun c24 => ?_) (fun c24 => ?_)
          · have h := if_f c24 h
            refine lv_bipush (v := 59) hx hb dX3_dueAfter_40 (by decide) ?_
            refine lv_icmp_ne (tgt := 49) hx hb dX3_dueAfter_42 (by decide) (fun c25 => ?_) (fun c25 => ?_)
            · have h := if_f c25 h
              refine lv_iconst (v := -1) hx hb dX3_dueAfter_49 (by decide) ?_
              cases some_i h
              exact hend _ _ _ _ _ hP hD hS (RetOK.i dX3_dueAfter_50)
            · have h := if_t c25 h
              refine lv_iconst (v := 5) hx hb dX3_dueAfter_45 (by decide) ?_
              refine lv_goto (tgt := 50) hx hb dX3_dueAfter_46 (by decide) ?_
              cases some_i h
              exact hend _ _ _ _ _ hP hD hS (RetOK.i dX3_dueAfter_50)
          · have h := if_t c24 h
            refine lv_bipush (v := 44) hx hb dX3_dueAfter_35 (by decide) ?_
            refine lv_goto (tgt := 42) hx hb dX3_dueAfter_37 (by decide) ?_
            refine lv_icmp_ne (tgt := 49) hx hb dX3_dueAfter_42 (by decide) (fun c26 => ?_) (fun c26 => ?_)
            · have h := if_f c26 h
              refine lv_iconst (v := -1) hx hb dX3_dueAfter_49 (by decide) ?_
              cases some_i h
              exact hend _ _ _ _ _ hP hD hS (RetOK.i dX3_dueAfter_50)
            · have h := if_t c26 h
              refine lv_iconst (v := 5) hx hb dX3_dueAfter_45 (by decide) ?_
              refine lv_goto (tgt := 50) hx hb dX3_dueAfter_46 (by decide) ?_
              cases some_i h
              exact hend _ _ _ _ _ hP hD hS (RetOK.i dX3_dueAfter_50)
      · have h := if_t c15 h
        refine lv_iconst (v := -1) hx hb dX3_dueAfter_23 (by decide) ?_
        cases some_i h
        exact hend _ _ _ _ _ hP hD hS (RetOK.i dX3_dueAfter_24)
    · have h := if_f c14 h
      refine lv_iconst (v := 1) hx hb dX3_dueAfter_12 (by decide) ?_
      refine lv_goto (tgt := 17) hx hb dX3_dueAfter_13 (by decide) ?_
      refine lv_istore_n (lv' := [(3, .int (1 : Int32)), (0, .int p0), (1, .int p1), (2, .int p2)]) hx hb dX3_dueAfter_17 rfl hl (by decide) rfl (fun ls hl => ?_)
      refine lv_iload_n hx hb dX3_dueAfter_18 rfl (lv_at hl 1 rfl) ?_
      refine lv_iconst (v := -1) hx hb dX3_dueAfter_19 (by decide) ?_
      refine lv_icmp_ne (tgt := 25) hx hb dX3_dueAfter_20 (by decide) (fun c27 => ?_) (fun c27 => ?_)
      · have h := if_f c27 h
        refine lv_iload_n hx hb dX3_dueAfter_25 rfl (lv_at hl 1 rfl) ?_
        refine lv_if_ne (tgt := 51) hx hb dX3_dueAfter_26 (by decide) (fun c28 => ?_) (fun c28 => ?_)
        · have h := if_f c28 h
          refine lv_iload_n hx hb dX3_dueAfter_51 rfl (lv_at hl 1 rfl) ?_
          refine lv_iconst (v := 5) hx hb dX3_dueAfter_52 (by decide) ?_
          refine lv_icmp_eq (tgt := 68) hx hb dX3_dueAfter_53 (by decide) (fun c29 => ?_) (fun c29 => ?_)
          · have h := if_t c29 h
            refine lv_iload_n hx hb dX3_dueAfter_68 rfl (lv_at hl 3 rfl) ?_
            refine lv_iconst (v := 1) hx hb dX3_dueAfter_69 (by decide) ?_
            refine lv_icmp_ne (tgt := 83) hx hb dX3_dueAfter_70 (by decide) (fun c30 => ?_) (fun c30 => ?_)
            · have h := if_f c30 h
              refine lv_iload_n hx hb dX3_dueAfter_83 rfl (lv_at hl 2 rfl) ?_
              refine lv_bipush (v := 116) hx hb dX3_dueAfter_84 (by decide) ?_
              refine lv_icmp_ne (tgt := 91) hx hb dX3_dueAfter_86 (by decide) (fun c31 => ?_) (fun c31 => ?_)
              · have h := if_f c31 h
                refine lv_iload_n hx hb dX3_dueAfter_91 rfl (lv_at hl 2 rfl) ?_
                refine lv_bipush (v := 48) hx hb dX3_dueAfter_92 (by decide) ?_
                refine lv_icmp_lt (tgt := 107) hx hb dX3_dueAfter_94 (by decide) (fun c32 => ?_) (fun c32 => ?_)
                · have h := if_t c32 h
                  refine lv_iconst (v := -1) hx hb dX3_dueAfter_107 (by decide) ?_
                  cases some_i h
                  exact hend _ _ _ _ _ hP hD hS (RetOK.i dX3_dueAfter_108)
                · have h := if_f c32 h
                  refine lv_iload_n hx hb dX3_dueAfter_97 rfl (lv_at hl 2 rfl) ?_
                  refine lv_bipush (v := 51) hx hb dX3_dueAfter_98 (by decide) ?_
                  refine lv_icmp_ge (tgt := 107) hx hb dX3_dueAfter_100 (by decide) (fun c33 => ?_) (fun c33 => ?_)
                  · have h := if_t c33 h
                    refine lv_iconst (v := -1) hx hb dX3_dueAfter_107 (by decide) ?_
                    cases some_i h
                    exact hend _ _ _ _ _ hP hD hS (RetOK.i dX3_dueAfter_108)
                  · have h := if_f c33 h
                    refine lv_iconst (v := 4) hx hb dX3_dueAfter_103 (by decide) ?_
                    refine lv_goto (tgt := 108) hx hb dX3_dueAfter_104 (by decide) ?_
                    cases some_i h
                    exact hend _ _ _ _ _ hP hD hS (RetOK.i dX3_dueAfter_108)
              · have h := if_t c31 h
                refine lv_iconst (v := 0) hx hb dX3_dueAfter_89 (by decide) ?_
                cases some_i h
                exact hend _ _ _ _ _ hP hD hS (RetOK.i dX3_dueAfter_90)
            · have h := if_t c30 h
              refine lv_iload_n hx hb dX3_dueAfter_73 rfl (lv_at hl 0 rfl) ?_
              refine lv_if_eq (tgt := 81) hx hb dX3_dueAfter_74 (by decide) (fun c34 => ?_) (fun c34 => ?_)
              · exact absurd c34 (by decide)
              refine lv_iconst (v := 3) hx hb dX3_dueAfter_77 (by decide) ?_
              refine lv_goto (tgt := 82) hx hb dX3_dueAfter_78 (by decide) ?_
              cases some_i h
              exact hend _ _ _ _ _ hP hD hS (RetOK.i dX3_dueAfter_82)
          · have h := if_f c29 h
            refine lv_iload_n hx hb dX3_dueAfter_56 rfl (lv_at hl 0 rfl) ?_
            refine lv_if_eq (tgt := 66) hx hb dX3_dueAfter_57 (by decide) (fun c35 => ?_) (fun c35 => ?_)
            · exact absurd c35 (by decide)
            refine lv_iload_n hx hb dX3_dueAfter_60 rfl (lv_at hl 1 rfl) ?_
            refine lv_iconst (v := 1) hx hb dX3_dueAfter_61 (by decide) ?_
            refine lv_isub hx hb dX3_dueAfter_62 ?_
            refine lv_goto (tgt := 67) hx hb dX3_dueAfter_63 (by decide) ?_
            cases some_i h
            exact hend _ _ _ _ _ hP hD hS (RetOK.i dX3_dueAfter_67)
        · have h := if_t c28 h
          refine lv_iload_n hx hb dX3_dueAfter_29 rfl (lv_at hl 2 rfl) ?_
          refine lv_iload_n hx hb dX3_dueAfter_30 rfl (lv_at hl 3 rfl) ?_
          refine lv_iconst (v := 1) hx hb dX3_dueAfter_31 (by decide) ?_
          refine lv_icmp_ne (tgt := 40) hx hb dX3_dueAfter_32 (by decide) (fun c36 => ?_) (fun c36 => ?_)
          · have h := if_f c36 h
            refine lv_bipush (v := 59) hx hb dX3_dueAfter_40 (by decide) ?_
            refine lv_icmp_ne (tgt := 49) hx hb dX3_dueAfter_42 (by decide) (fun c37 => ?_) (fun c37 => ?_)
            · have h := if_f c37 h
              refine lv_iconst (v := -1) hx hb dX3_dueAfter_49 (by decide) ?_
              cases some_i h
              exact hend _ _ _ _ _ hP hD hS (RetOK.i dX3_dueAfter_50)
            · have h := if_t c37 h
              refine lv_iconst (v := 5) hx hb dX3_dueAfter_45 (by decide) ?_
              refine lv_goto (tgt := 50) hx hb dX3_dueAfter_46 (by decide) ?_
              cases some_i h
              exact hend _ _ _ _ _ hP hD hS (RetOK.i dX3_dueAfter_50)
          · have h := if_t c36 h
            refine lv_bipush (v := 44) hx hb dX3_dueAfter_35 (by decide) ?_
            refine lv_goto (tgt := 42) hx hb dX3_dueAfter_37 (by decide) ?_
            refine lv_icmp_ne (tgt := 49) hx hb dX3_dueAfter_42 (by decide) (fun c38 => ?_) (fun c38 => ?_)
            · have h := if_f c38 h
              refine lv_iconst (v := -1) hx hb dX3_dueAfter_49 (by decide) ?_
              cases some_i h
              exact hend _ _ _ _ _ hP hD hS (RetOK.i dX3_dueAfter_50)
            · have h := if_t c38 h
              refine lv_iconst (v := 5) hx hb dX3_dueAfter_45 (by decide) ?_
              refine lv_goto (tgt := 50) hx hb dX3_dueAfter_46 (by decide) ?_
              cases some_i h
              exact hend _ _ _ _ _ hP hD hS (RetOK.i dX3_dueAfter_50)
      · have h := if_t c27 h
        refine lv_iconst (v := -1) hx hb dX3_dueAfter_23 (by decide) ?_
        cases some_i h
        exact hend _ _ _ _ _ hP hD hS (RetOK.i dX3_dueAfter_24)
def fX3_empty (tx : Tx) : Option (Tx) :=
(pl (Tx_set_length tx (0 : Int32)) fun (tx1 : Tx) =>
(some tx1))
abbrev rX3_empty : Room := { frames := 0, cells := 0, slots := 0, locals := 0 }
theorem hdX3_empty : yX3_empty.cls = RX3 ∧ yX3_empty.cls ≠ "java/lang/invoke/MethodHandle" ∧ yX3_empty.cls ≠ "java/lang/invoke/VarHandle" ∧ (parseMethodDescriptor yX3_empty.desc).map (fun d => d.parameters.length) = some 0 := by decide +kernel
set_option maxRecDepth 100000 in
set_option maxHeartbeats 8000000 in
theorem kX3_empty (l : Launch) (g : GG) (a : Nat → Nat) {tx : Tx} {tx' : Tx} (h : fX3_empty tx = some tx') : Cg l g yX3_empty wsX3_empty rX3_empty [.ref (a 0)] (cTx g a tx) (none) (cTx g a tx') := by
  refine Cg_of (cc := cX3_empty) (maxL := 1) (ret := none) (by decide +kernel) rfl (Nat.le_of_ble_eq_true rfl) ?_
  intro p e su m args below meth c A Q ls hx hb hml hown hts hK hN hA hnm hP hD hS hl hend
  have hinX3 : ∀ w ∈ u_ws RX3 TX3 2, w ∈ wsX3_empty := fun _ h9 => List.mem_cons_of_mem _ (List.mem_append_right _ h9)
  unfold fX3_empty at h
  have hl : lv_has ls 1 [(0, .ref (a 0))] := hl
  refine lv_aload_n hx hb dX3_empty_0 rfl (lv_at hl 0 rfl) ?_
  refine lv_iconst (v := 0) hx hb dX3_empty_1 (by decide) ?_
  obtain ⟨tx1, etx1, h⟩ := pl_ex h
  refine va_put (D := g.1) (ci := 3) (v := .int (0 : Int32)) (ty := .int) (C := RX3) (T := TX3) (N := 2) hx hb hts hinX3 tyX3 tyX3_ok nmX3 hown hK hP hD hS 0 rfl rfl 1 (by decide) (hts (.fieldLink RX3 15 "BarredRungs$Text" "length" "I") (List.mem_of_getElem? (i := 1) rfl)) (fun _ h9 => h9) rfl (by decide +kernel) rfl rfl (Nat.le_of_ble_eq_true rfl) dX3_empty_2 (fun H locs hP hD hS => ?_)
  have hP : va_P g.1 vwCl (cTx g a tx1) H := by rw [← etx1]; exact hP
  have hD : va_D A (cTx g a tx1) := by rw [← etx1]; exact hD
  cases some_i h
  exact hend _ _ _ _ _ hP hD hS (RetOK.v dX3_empty_5)
def fX3_isFull (tx : Tx) : Option (Int32) :=
(if (Tx_length tx) < (60 : Int32) then
(some (0 : Int32))
else
(some (1 : Int32)))
abbrev rX3_isFull : Room := { frames := 0, cells := 0, slots := 0, locals := 0 }
theorem hdX3_isFull : yX3_isFull.cls = RX3 ∧ yX3_isFull.cls ≠ "java/lang/invoke/MethodHandle" ∧ yX3_isFull.cls ≠ "java/lang/invoke/VarHandle" ∧ (parseMethodDescriptor yX3_isFull.desc).map (fun d => d.parameters.length) = some 0 := by decide +kernel
set_option maxRecDepth 100000 in
set_option maxHeartbeats 8000000 in
theorem kX3_isFull (l : Launch) (g : GG) (a : Nat → Nat) {tx : Tx} {res : Int32} (h : fX3_isFull tx = some res) : Cg l g yX3_isFull wsX3_isFull rX3_isFull [.ref (a 0)] (cTx g a tx) (some (.int res)) (cTx g a tx) := by
  refine Cg_of (cc := cX3_isFull) (maxL := 1) (ret := (some .boolean)) (by decide +kernel) rfl (Nat.le_of_ble_eq_true rfl) ?_
  intro p e su m args below meth c A Q ls hx hb hml hown hts hK hN hA hnm hP hD hS hl hend
  have hinX3 : ∀ w ∈ u_ws RX3 TX3 2, w ∈ wsX3_isFull := fun _ h9 => List.mem_cons_of_mem _ (List.mem_append_right _ h9)
  unfold fX3_isFull at h
  have hl : lv_has ls 1 [(0, .ref (a 0))] := hl
  refine lv_aload_n hx hb dX3_isFull_0 rfl (lv_at hl 0 rfl) ?_
  refine va_get (D := g.1) (ci := 3) (v := .int (Tx_length tx)) (C := RX3) (T := TX3) (N := 2) hx hb hts hinX3 hown hK hP 0 rfl rfl 1 (by decide) (hts (.fieldLink RX3 15 "BarredRungs$Text" "length" "I") (List.mem_of_getElem? (i := 1) rfl)) (fun _ h9 => h9) rfl dX3_isFull_1 ?_
  refine lv_bipush (v := 60) hx hb dX3_isFull_4 (by decide) ?_
  refine lv_icmp_lt (tgt := 13) hx hb dX3_isFull_6 (by decide) (fun c1 => ?_) (fun c1 => ?_)
  · have h := if_t c1 h
    refine lv_iconst (v := 0) hx hb dX3_isFull_13 (by decide) ?_
    cases some_i h
    exact hend _ _ _ _ _ hP hD hS (RetOK.z dX3_isFull_14 (Or.inl rfl))
  · have h := if_f c1 h
    refine lv_iconst (v := 1) hx hb dX3_isFull_9 (by decide) ?_
    refine lv_goto (tgt := 14) hx hb dX3_isFull_10 (by decide) ?_
    cases some_i h
    exact hend _ _ _ _ _ hP hD hS (RetOK.z dX3_isFull_14 (Or.inr rfl))
def fX3_isWhole_L4 (tx : Tx) (p1 : Int32) : Nat → Int32 → Int32 → Option (Int32)
  | 0, _, _ => none
  | n + 1, v2_1, v3_2 =>
    (if (Tx_length tx) ≤ v3_2 then
    (some v2_1)
    else
    (bd (fX3_codeAt tx v3_2) fun (r5 : Int32) =>
    (bd (fX3_dueAfter v2_1 r5 p1) fun (r6 : Int32) =>
    (pl ((v3_2 + (1 : Int32))) fun (x7 : Int32) =>
    (fX3_isWhole_L4 tx p1 n r6 x7)))))
def fX3_isWhole (tx : Tx) (p1 : Int32) : Option (Int32) :=
(bd (fX3_isWhole_L4 tx p1 1000 (5 : Int32) (0 : Int32)) fun (v2_8 : Int32) =>
(if v2_8 = (0 : Int32) then
(some (1 : Int32))
else
(some (0 : Int32))))
abbrev rX3_isWhole : Room := { frames := 1, cells := 0, slots := 0, locals := 23 }
theorem hdX3_isWhole : yX3_isWhole.cls = RX3 ∧ yX3_isWhole.cls ≠ "java/lang/invoke/MethodHandle" ∧ yX3_isWhole.cls ≠ "java/lang/invoke/VarHandle" ∧ (parseMethodDescriptor yX3_isWhole.desc).map (fun d => d.parameters.length) = some 1 := by decide +kernel
set_option maxRecDepth 100000 in
set_option maxHeartbeats 8000000 in
theorem kX3_isWhole (l : Launch) (g : GG) (a : Nat → Nat) {tx : Tx} {p1 : Int32} {res : Int32} (h : fX3_isWhole tx p1 = some res) : Cg l g yX3_isWhole wsX3_isWhole rX3_isWhole [.ref (a 0), .int p1] (cTx g a tx) (some (.int res)) (cTx g a tx) := by
  refine Cg_of (cc := cX3_isWhole) (maxL := 4) (ret := (some .boolean)) (by decide +kernel) rfl (Nat.le_of_ble_eq_true rfl) ?_
  intro p e su m args below meth c A Q ls hx hb hml hown hts hK hN hA hnm hP hD hS hl hend
  have hinX3 : ∀ w ∈ u_ws RX3 TX3 2, w ∈ wsX3_isWhole := fun _ h9 => List.mem_cons_of_mem _ (List.mem_append_right _ h9)
  unfold fX3_isWhole at h
  have hl : lv_has ls 4 [(0, .ref (a 0)), (1, .int p1)] := hl
  refine lv_iconst (v := 5) hx hb dX3_isWhole_0 (by decide) ?_
  refine lv_istore_n (lv' := [(2, .int (5 : Int32)), (0, .ref (a 0)), (1, .int p1)]) hx hb dX3_isWhole_1 rfl hl (by decide) rfl (fun ls hl => ?_)
  refine lv_iconst (v := 0) hx hb dX3_isWhole_2 (by decide) ?_
  refine lv_istore_n (lv' := [(3, .int (0 : Int32)), (2, .int (5 : Int32)), (0, .ref (a 0)), (1, .int p1)]) hx hb dX3_isWhole_3 rfl hl (by decide) rfl (fun ls hl => ?_)
  have L4 : ∀ (n : Nat) (v2_1 : Int32) (v3_2 : Int32) (y2_3 : Int32) (H : Heap) (locs : List Loc) (ls : Array Slot), fX3_isWhole_L4 tx p1 n v2_1 v3_2 = some y2_3 → va_P g.1 vwCl (cTx g a tx) H → va_D A (cTx g a tx) → va_S A su.heap H locs → lv_has ls 4 [(0, .ref (a 0)), (1, .int p1), (2, .int v2_1), (3, .int v3_2)] → (∀ (H : Heap) (locs : List Loc) (ls : Array Slot), va_P g.1 vwCl (cTx g a tx) H → va_D A (cTx g a tx) → va_S A su.heap H locs → lv_has ls 4 [(2, .int y2_3)] → W p l e rX3_isWhole su m args below meth c H locs 0 0 Q (F0 m 29 ls [])) → W p l e rX3_isWhole su m args below meth c H locs 0 0 Q (F0 m 4 ls []) := by
    intro n
    induction n with
    | zero => intro v2_1 v3_2 y2_3 H locs ls h hP hD hS hl kx; cases h
    | succ n ih =>
      intro v2_1 v3_2 y2_3 H locs ls h hP hD hS hl kx
      rw [fX3_isWhole_L4] at h
      refine lv_iload_n hx hb dX3_isWhole_4 rfl (lv_at hl 3 rfl) ?_
      refine lv_aload_n hx hb dX3_isWhole_5 rfl (lv_at hl 0 rfl) ?_
      refine va_get (D := g.1) (ci := 3) (v := .int (Tx_length tx)) (C := RX3) (T := TX3) (N := 2) hx hb hts hinX3 hown hK hP 0 rfl rfl 1 (by decide) (hts (.fieldLink RX3 15 "BarredRungs$Text" "length" "I") (List.mem_of_getElem? (i := 1) rfl)) (fun _ h9 => h9) rfl dX3_isWhole_6 ?_
      refine lv_icmp_ge (tgt := 29) hx hb dX3_isWhole_9 (by decide) (fun c4 => ?_) (fun c4 => ?_)
      · have h := if_t c4 h
        cases some_i h
        exact kx _ _ _ hP hD hS (lv_sub hl [2] rfl)
      · have h := if_f c4 h
        refine lv_iload_n hx hb dX3_isWhole_12 rfl (lv_at hl 2 rfl) ?_
        refine lv_aload_n hx hb dX3_isWhole_13 rfl (lv_at hl 0 rfl) ?_
        refine lv_iload_n hx hb dX3_isWhole_14 rfl (lv_at hl 3 rfl) ?_
        obtain ⟨r5, kr5, h⟩ := bd_ex h
        refine aft_w (st1 := [.int r5, .int v2_1]) rfl (runV (As := [.int v3_2]) (rest := [.int v2_1]) ⟨hx, hb, hml, hown, hts⟩ (kX3_codeAt l g a kr5) (cwV 1 hts gX3_isWhole_X3_codeAt rfl rfl rfl hdX3_codeAt ⟨Nat.le_of_ble_eq_true rfl, Nat.le_of_ble_eq_true rfl⟩) hK hN hP hD (va_recv hK hP (ci := 3) (q0 := 0) rfl rfl) rfl hl.1 rfl (Nat.le_of_ble_eq_true rfl) dX3_isWhole_15 ⟨Nat.zero_le _, Nat.zero_le _⟩) hD hS hA (fun H locs hP hD hS => ?_)
        refine lv_iload_n hx hb dX3_isWhole_18 rfl (lv_at hl 1 rfl) ?_
        obtain ⟨r6, kr6, h⟩ := bd_ex h
        refine aft_e (st1 := [.int r6]) rfl (runS (As := [.int v2_1, .int r5, .int p1]) (rest := []) ⟨hx, hb, hml, hown, hts⟩ (kX3_dueAfter l g kr6) (va_cwS 3 hts gX3_isWhole_X3_dueAfter rfl rfl rfl hdX3_dueAfter.2 ⟨Nat.le_of_ble_eq_true rfl, Nat.le_of_ble_eq_true rfl⟩) hK hN nilP (nilD (A := A)) rfl hl.1 rfl (Nat.le_of_ble_eq_true rfl) dX3_isWhole_19 ⟨Nat.zero_le _, Nat.zero_le _⟩) hP hS hA (fun H locs hP hS => ?_)
        refine lv_istore_n (lv' := [(2, .int r6), (0, .ref (a 0)), (1, .int p1), (3, .int v3_2)]) hx hb dX3_isWhole_22 rfl hl (by decide) rfl (fun ls hl => ?_)
        obtain ⟨x7, ex7, h⟩ := pl_ex h
        refine lv_iinc (v := x7) (lv' := [(3, .int x7), (2, .int r6), (0, .ref (a 0)), (1, .int p1)]) hx hb dX3_isWhole_23 hl (k := 3) rfl (by rw [← ex7]; rfl) (by decide) rfl (fun ls hl => ?_)
        refine lv_goto (tgt := 4) hx hb dX3_isWhole_26 (by decide) ?_
        exact ih r6 x7 _ _ _ _ h hP hD hS (lv_sub hl [2, 3, 1, 0] rfl) kx
  obtain ⟨v2_8, kv2_8, h⟩ := bd_ex h
  refine L4 1000 (5 : Int32) (0 : Int32) v2_8 _ _ _ kv2_8 hP hD hS (lv_sub hl [2, 3, 1, 0] rfl) (fun H locs ls hP hD hS hl => ?_)
  refine lv_iload_n hx hb dX3_isWhole_29 rfl (lv_at hl 0 rfl) ?_
  refine lv_if_ne (tgt := 37) hx hb dX3_isWhole_30 (by decide) (fun c9 => ?_) (fun c9 => ?_)
  · have h := if_f c9 h
    refine lv_iconst (v := 0) hx hb dX3_isWhole_37 (by decide) ?_
    cases some_i h
    exact hend _ _ _ _ _ hP hD hS (RetOK.z dX3_isWhole_38 (Or.inl rfl))
  · have h := if_t c9 h
    refine lv_iconst (v := 1) hx hb dX3_isWhole_33 (by decide) ?_
    refine lv_goto (tgt := 38) hx hb dX3_isWhole_34 (by decide) ?_
    cases some_i h
    exact hend _ _ _ _ _ hP hD hS (RetOK.z dX3_isWhole_38 (Or.inr rfl))
def fX3_take (tx : Tx) (p1 : Int32) : Option (Tx) :=
(if (Tx_length tx) < (0 : Int32) then
(some tx)
else
(if (60 : Int32) ≤ (Tx_length tx) then
(some tx)
else
(ck (inb (Tx_length tx) 60)
(pl (Tx_set_codes tx (upd (Tx_codes tx) (Tx_length tx).toNatClampNeg p1)) fun (tx3 : Tx) =>
(pl (Tx_set_length tx3 ((Tx_length tx3) + (1 : Int32))) fun (tx4 : Tx) =>
(some tx4))))))
abbrev rX3_take : Room := { frames := 0, cells := 0, slots := 0, locals := 0 }
theorem hdX3_take : yX3_take.cls = RX3 ∧ yX3_take.cls ≠ "java/lang/invoke/MethodHandle" ∧ yX3_take.cls ≠ "java/lang/invoke/VarHandle" ∧ (parseMethodDescriptor yX3_take.desc).map (fun d => d.parameters.length) = some 1 := by decide +kernel
set_option maxRecDepth 100000 in
set_option maxHeartbeats 8000000 in
theorem kX3_take (l : Launch) (g : GG) (a : Nat → Nat) {tx : Tx} {p1 : Int32} {tx' : Tx} (h : fX3_take tx p1 = some tx') : Cg l g yX3_take wsX3_take rX3_take [.ref (a 0), .int p1] (cTx g a tx) (none) (cTx g a tx') := by
  refine Cg_of (cc := cX3_take) (maxL := 2) (ret := none) (by decide +kernel) rfl (Nat.le_of_ble_eq_true rfl) ?_
  intro p e su m args below meth c A Q ls hx hb hml hown hts hK hN hA hnm hP hD hS hl hend
  have hinX3 : ∀ w ∈ u_ws RX3 TX3 2, w ∈ wsX3_take := fun _ h9 => List.mem_cons_of_mem _ (List.mem_append_right _ h9)
  unfold fX3_take at h
  have hl : lv_has ls 2 [(0, .ref (a 0)), (1, .int p1)] := hl
  refine lv_aload_n hx hb dX3_take_0 rfl (lv_at hl 0 rfl) ?_
  refine va_get (D := g.1) (ci := 3) (v := .int (Tx_length tx)) (C := RX3) (T := TX3) (N := 2) hx hb hts hinX3 hown hK hP 0 rfl rfl 1 (by decide) (hts (.fieldLink RX3 15 "BarredRungs$Text" "length" "I") (List.mem_of_getElem? (i := 1) rfl)) (fun _ h9 => h9) rfl dX3_take_1 ?_
  refine lv_if_lt (tgt := 36) hx hb dX3_take_4 (by decide) (fun c1 => ?_) (fun c1 => ?_)
  · have h := if_t c1 h
    cases some_i h
    exact hend _ _ _ _ _ hP hD hS (RetOK.v dX3_take_36)
  · have h := if_f c1 h
    refine lv_aload_n hx hb dX3_take_7 rfl (lv_at hl 0 rfl) ?_
    refine va_get (D := g.1) (ci := 3) (v := .int (Tx_length tx)) (C := RX3) (T := TX3) (N := 2) hx hb hts hinX3 hown hK hP 0 rfl rfl 1 (by decide) (hts (.fieldLink RX3 15 "BarredRungs$Text" "length" "I") (List.mem_of_getElem? (i := 1) rfl)) (fun _ h9 => h9) rfl dX3_take_8 ?_
    refine lv_bipush (v := 60) hx hb dX3_take_11 (by decide) ?_
    refine lv_icmp_ge (tgt := 36) hx hb dX3_take_13 (by decide) (fun c2 => ?_) (fun c2 => ?_)
    · have h := if_t c2 h
      cases some_i h
      exact hend _ _ _ _ _ hP hD hS (RetOK.v dX3_take_36)
    · have h := if_f c2 h
      refine lv_aload_n hx hb dX3_take_16 rfl (lv_at hl 0 rfl) ?_
      refine va_get (D := g.1) (ci := 3) (v := .ref (a 1)) (C := RX3) (T := TX3) (N := 2) hx hb hts hinX3 hown hK hP 0 rfl rfl 0 (by decide) (hts (.fieldLink RX3 11 "BarredRungs$Text" "codes" "[I") (List.mem_of_getElem? (i := 2) rfl)) (fun _ h9 => h9) rfl dX3_take_17 ?_
      refine lv_aload_n hx hb dX3_take_20 rfl (lv_at hl 0 rfl) ?_
      refine va_get (D := g.1) (ci := 3) (v := .int (Tx_length tx)) (C := RX3) (T := TX3) (N := 2) hx hb hts hinX3 hown hK hP 0 rfl rfl 1 (by decide) (hts (.fieldLink RX3 15 "BarredRungs$Text" "length" "I") (List.mem_of_getElem? (i := 1) rfl)) (fun _ h9 => h9) rfl dX3_take_21 ?_
      refine lv_iload_n hx hb dX3_take_24 rfl (lv_at hl 1 rfl) ?_
      obtain ⟨hi9, h⟩ := ck_ex h
      obtain ⟨tx3, etx3, h⟩ := pl_ex h
      refine va_iast hx hb hK hP hD hS 1 0 rfl rfl (inb_in hi9) dX3_take_25 (fun H locs hP hD hS => ?_)
      have hP : va_P g.1 vwCl (cTx g a tx3) H := by rw [← etx3]; exact hP
      have hD : va_D A (cTx g a tx3) := by rw [← etx3]; exact hD
      refine lv_aload_n hx hb dX3_take_26 rfl (lv_at hl 0 rfl) ?_
      refine lv_dup hx hb dX3_take_27 rfl ?_
      refine va_get (D := g.1) (ci := 3) (v := .int (Tx_length tx3)) (C := RX3) (T := TX3) (N := 2) hx hb hts hinX3 hown hK hP 0 rfl rfl 1 (by decide) (hts (.fieldLink RX3 15 "BarredRungs$Text" "length" "I") (List.mem_of_getElem? (i := 1) rfl)) (fun _ h9 => h9) rfl dX3_take_28 ?_
      refine lv_iconst (v := 1) hx hb dX3_take_31 (by decide) ?_
      refine lv_iadd hx hb dX3_take_32 ?_
      obtain ⟨tx4, etx4, h⟩ := pl_ex h
      refine va_put (D := g.1) (ci := 3) (v := .int ((Tx_length tx3) + (1 : Int32))) (ty := .int) (C := RX3) (T := TX3) (N := 2) hx hb hts hinX3 tyX3 tyX3_ok nmX3 hown hK hP hD hS 0 rfl rfl 1 (by decide) (hts (.fieldLink RX3 15 "BarredRungs$Text" "length" "I") (List.mem_of_getElem? (i := 1) rfl)) (fun _ h9 => h9) rfl (by decide +kernel) rfl rfl (Nat.le_of_ble_eq_true rfl) dX3_take_33 (fun H locs hP hD hS => ?_)
      have hP : va_P g.1 vwCl (cTx g a tx4) H := by rw [← etx4]; exact hP
      have hD : va_D A (cTx g a tx4) := by rw [← etx4]; exact hD
      cases some_i h
      exact hend _ _ _ _ _ hP hD hS (RetOK.v dX3_take_36)
def fX3_wordCode_L4 (tx : Tx) (p1 : Int32) : Nat → Int32 → Int32 → Option (Int32)
  | 0, _, _ => none
  | n + 1, v2_1, v3_2 =>
    (if (4 : Int32) ≤ v3_2 then
    (some v2_1)
    else
    (bd (fX3_codeAt tx (p1 + v3_2)) fun (r5 : Int32) =>
    (pl (((v2_1 <<< ((3 : Int32) &&& 31)) ||| ((r5 - (97 : Int32)) &&& (7 : Int32)))) fun (x6 : Int32) =>
    (pl ((v3_2 + (1 : Int32))) fun (x7 : Int32) =>
    (fX3_wordCode_L4 tx p1 n x6 x7)))))
def fX3_wordCode (tx : Tx) (p1 : Int32) : Option (Int32) :=
(bd (fX3_wordCode_L4 tx p1 1000 (0 : Int32) (0 : Int32)) fun (v2_8 : Int32) =>
(some v2_8))
abbrev rX3_wordCode : Room := { frames := 1, cells := 0, slots := 0, locals := 21 }
theorem hdX3_wordCode : yX3_wordCode.cls = RX3 ∧ yX3_wordCode.cls ≠ "java/lang/invoke/MethodHandle" ∧ yX3_wordCode.cls ≠ "java/lang/invoke/VarHandle" ∧ (parseMethodDescriptor yX3_wordCode.desc).map (fun d => d.parameters.length) = some 1 := by decide +kernel
set_option maxRecDepth 100000 in
set_option maxHeartbeats 8000000 in
theorem kX3_wordCode (l : Launch) (g : GG) (a : Nat → Nat) {tx : Tx} {p1 : Int32} {res : Int32} (h : fX3_wordCode tx p1 = some res) : Cg l g yX3_wordCode wsX3_wordCode rX3_wordCode [.ref (a 0), .int p1] (cTx g a tx) (some (.int res)) (cTx g a tx) := by
  refine Cg_of (cc := cX3_wordCode) (maxL := 4) (ret := (some .int)) (by decide +kernel) rfl (Nat.le_of_ble_eq_true rfl) ?_
  intro p e su m args below meth c A Q ls hx hb hml hown hts hK hN hA hnm hP hD hS hl hend
  have hinX3 : ∀ w ∈ u_ws RX3 TX3 2, w ∈ wsX3_wordCode := fun _ h9 => List.mem_cons_of_mem _ (List.mem_append_right _ h9)
  unfold fX3_wordCode at h
  have hl : lv_has ls 4 [(0, .ref (a 0)), (1, .int p1)] := hl
  refine lv_iconst (v := 0) hx hb dX3_wordCode_0 (by decide) ?_
  refine lv_istore_n (lv' := [(2, .int (0 : Int32)), (0, .ref (a 0)), (1, .int p1)]) hx hb dX3_wordCode_1 rfl hl (by decide) rfl (fun ls hl => ?_)
  refine lv_iconst (v := 0) hx hb dX3_wordCode_2 (by decide) ?_
  refine lv_istore_n (lv' := [(3, .int (0 : Int32)), (2, .int (0 : Int32)), (0, .ref (a 0)), (1, .int p1)]) hx hb dX3_wordCode_3 rfl hl (by decide) rfl (fun ls hl => ?_)
  have L4 : ∀ (n : Nat) (v2_1 : Int32) (v3_2 : Int32) (y2_3 : Int32) (H : Heap) (locs : List Loc) (ls : Array Slot), fX3_wordCode_L4 tx p1 n v2_1 v3_2 = some y2_3 → va_P g.1 vwCl (cTx g a tx) H → va_D A (cTx g a tx) → va_S A su.heap H locs → lv_has ls 4 [(0, .ref (a 0)), (1, .int p1), (2, .int v2_1), (3, .int v3_2)] → (∀ (H : Heap) (locs : List Loc) (ls : Array Slot), va_P g.1 vwCl (cTx g a tx) H → va_D A (cTx g a tx) → va_S A su.heap H locs → lv_has ls 4 [(2, .int y2_3)] → W p l e rX3_wordCode su m args below meth c H locs 0 0 Q (F0 m 33 ls [])) → W p l e rX3_wordCode su m args below meth c H locs 0 0 Q (F0 m 4 ls []) := by
    intro n
    induction n with
    | zero => intro v2_1 v3_2 y2_3 H locs ls h hP hD hS hl kx; cases h
    | succ n ih =>
      intro v2_1 v3_2 y2_3 H locs ls h hP hD hS hl kx
      rw [fX3_wordCode_L4] at h
      refine lv_iload_n hx hb dX3_wordCode_4 rfl (lv_at hl 3 rfl) ?_
      refine lv_iconst (v := 4) hx hb dX3_wordCode_5 (by decide) ?_
      refine lv_icmp_ge (tgt := 33) hx hb dX3_wordCode_6 (by decide) (fun c4 => ?_) (fun c4 => ?_)
      · have h := if_t c4 h
        cases some_i h
        exact kx _ _ _ hP hD hS (lv_sub hl [2] rfl)
      · have h := if_f c4 h
        refine lv_iload_n hx hb dX3_wordCode_9 rfl (lv_at hl 2 rfl) ?_
        refine lv_iconst (v := 3) hx hb dX3_wordCode_10 (by decide) ?_
        refine lv_ishl hx hb dX3_wordCode_11 ?_
        refine lv_aload_n hx hb dX3_wordCode_12 rfl (lv_at hl 0 rfl) ?_
        refine lv_iload_n hx hb dX3_wordCode_13 rfl (lv_at hl 1 rfl) ?_
        refine lv_iload_n hx hb dX3_wordCode_14 rfl (lv_at hl 3 rfl) ?_
        refine lv_iadd hx hb dX3_wordCode_15 ?_
        obtain ⟨r5, kr5, h⟩ := bd_ex h
        refine aft_w (st1 := [.int r5, .int (v2_1 <<< ((3 : Int32) &&& 31))]) rfl (runV (As := [.int (p1 + v3_2)]) (rest := [.int (v2_1 <<< ((3 : Int32) &&& 31))]) ⟨hx, hb, hml, hown, hts⟩ (kX3_codeAt l g a kr5) (cwV 1 hts gX3_wordCode_X3_codeAt rfl rfl rfl hdX3_codeAt ⟨Nat.le_of_ble_eq_true rfl, Nat.le_of_ble_eq_true rfl⟩) hK hN hP hD (va_recv hK hP (ci := 3) (q0 := 0) rfl rfl) rfl hl.1 rfl (Nat.le_of_ble_eq_true rfl) dX3_wordCode_16 ⟨Nat.zero_le _, Nat.zero_le _⟩) hD hS hA (fun H locs hP hD hS => ?_)
        refine lv_bipush (v := 97) hx hb dX3_wordCode_19 (by decide) ?_
        refine lv_isub hx hb dX3_wordCode_21 ?_
        refine lv_bipush (v := 7) hx hb dX3_wordCode_22 (by decide) ?_
        refine lv_iand hx hb dX3_wordCode_24 ?_
        refine lv_ior hx hb dX3_wordCode_25 ?_
        obtain ⟨x6, ex6, h⟩ := pl_ex h
        refine lv_eqi ex6 ?_
        refine lv_istore_n (lv' := [(2, .int x6), (0, .ref (a 0)), (1, .int p1), (3, .int v3_2)]) hx hb dX3_wordCode_26 rfl hl (by decide) rfl (fun ls hl => ?_)
        obtain ⟨x7, ex7, h⟩ := pl_ex h
        refine lv_iinc (v := x7) (lv' := [(3, .int x7), (2, .int x6), (0, .ref (a 0)), (1, .int p1)]) hx hb dX3_wordCode_27 hl (k := 3) rfl (by rw [← ex7]; rfl) (by decide) rfl (fun ls hl => ?_)
        refine lv_goto (tgt := 4) hx hb dX3_wordCode_30 (by decide) ?_
        exact ih x6 x7 _ _ _ _ h hP hD hS (lv_sub hl [2, 3, 1, 0] rfl) kx
  obtain ⟨v2_8, kv2_8, h⟩ := bd_ex h
  refine L4 1000 (0 : Int32) (0 : Int32) v2_8 _ _ _ kv2_8 hP hD hS (lv_sub hl [2, 3, 1, 0] rfl) (fun H locs ls hP hD hS hl => ?_)
  refine lv_iload_n hx hb dX3_wordCode_33 rfl (lv_at hl 0 rfl) ?_
  cases some_i h
  exact hend _ _ _ _ _ hP hD hS (RetOK.i dX3_wordCode_34)
def fX4_lookAhead_L2 (st : St) : Nat → Int32 → Wa → Option (Wa)
  | 0, _, _ => none
  | n + 1, v2_1, wa2 =>
    (if (32 : Int32) ≤ v2_1 then
    (some wa2)
    else
    (bd (fX2_barredAfter st v2_1) fun (r5 : Int32) =>
    (ck (inb v2_1 32)
    (pl (Wa_set_barred wa2 (upd (Wa_barred wa2) v2_1.toNatClampNeg r5)) fun (wa6 : Wa) =>
    (ck (inb v2_1 32)
    (pl (Wa_set_known wa6 (upd (Wa_known wa6) v2_1.toNatClampNeg (0 : Int32))) fun (wa7 : Wa) =>
    (pl ((v2_1 + (1 : Int32))) fun (x8 : Int32) =>
    (fX4_lookAhead_L2 st n x8 wa7))))))))
def fX4_lookAhead (wa : Wa) (st : St) : Option (Wa) :=
(bd (fX4_lookAhead_L2 st 1000 (0 : Int32) wa) fun (wa9 : Wa) =>
(some wa9))
abbrev rX4_lookAhead : Room := { frames := 2, cells := 0, slots := 0, locals := 46 }
theorem hdX4_lookAhead : yX4_lookAhead.cls = RX4 ∧ yX4_lookAhead.cls ≠ "java/lang/invoke/MethodHandle" ∧ yX4_lookAhead.cls ≠ "java/lang/invoke/VarHandle" ∧ (parseMethodDescriptor yX4_lookAhead.desc).map (fun d => d.parameters.length) = some 1 := by decide +kernel
set_option maxRecDepth 100000 in
set_option maxHeartbeats 8000000 in
theorem kX4_lookAhead (l : Launch) (g : GG) (a b : Nat → Nat) {wa : Wa} {st : St} {wa' : Wa} (h : fX4_lookAhead wa st = some wa') : Cg l g yX4_lookAhead wsX4_lookAhead rX4_lookAhead [.ref (a 0), .ref (b 0)] (cWa g a wa ++ (cSt g b st)) (none) (cWa g a wa' ++ (cSt g b st)) := by
  refine Cg_of (cc := cX4_lookAhead) (maxL := 3) (ret := none) (by decide +kernel) rfl (Nat.le_of_ble_eq_true rfl) ?_
  intro p e su m args below meth c A Q ls hx hb hml hown hts hK hN hA hnm hP hD hS hl hend
  have hinX4 : ∀ w ∈ u_ws RX4 TX4 4, w ∈ wsX4_lookAhead := fun _ h9 => List.mem_cons_of_mem _ (List.mem_append_left _ (List.mem_append_right _ h9))
  have hinX2 : ∀ w ∈ u_ws RX2 TX2 17, w ∈ wsX4_lookAhead := fun _ h9 => List.mem_cons_of_mem _ (List.mem_append_right _ h9)
  unfold fX4_lookAhead at h
  have hl : lv_has ls 3 [(0, .ref (a 0)), (1, .ref (b 0))] := hl
  refine lv_iconst (v := 0) hx hb dX4_lookAhead_0 (by decide) ?_
  refine lv_istore_n (lv' := [(2, .int (0 : Int32)), (0, .ref (a 0)), (1, .ref (b 0))]) hx hb dX4_lookAhead_1 rfl hl (by decide) rfl (fun ls hl => ?_)
  have L2 : ∀ (n : Nat) (v2_1 : Int32) (wa2 : Wa) (wa3 : Wa) (H : Heap) (locs : List Loc) (ls : Array Slot), fX4_lookAhead_L2 st n v2_1 wa2 = some wa3 → va_P g.1 vwCl (cWa g a wa2 ++ (cSt g b st)) H → va_D A (cWa g a wa2 ++ (cSt g b st)) → va_S A su.heap H locs → lv_has ls 3 [(0, .ref (a 0)), (1, .ref (b 0)), (2, .int v2_1)] → (∀ (H : Heap) (locs : List Loc) (ls : Array Slot), va_P g.1 vwCl (cWa g a wa3 ++ (cSt g b st)) H → va_D A (cWa g a wa3 ++ (cSt g b st)) → va_S A su.heap H locs → lv_has ls 3 [] → W p l e rX4_lookAhead su m args below meth c H locs 0 0 Q (F0 m 32 ls [])) → W p l e rX4_lookAhead su m args below meth c H locs 0 0 Q (F0 m 2 ls []) := by
    intro n
    induction n with
    | zero => intro v2_1 wa2 wa3 H locs ls h hP hD hS hl kx; cases h
    | succ n ih =>
      intro v2_1 wa2 wa3 H locs ls h hP hD hS hl kx
      rw [fX4_lookAhead_L2] at h
      refine lv_iload_n hx hb dX4_lookAhead_2 rfl (lv_at hl 2 rfl) ?_
      refine lv_bipush (v := 32) hx hb dX4_lookAhead_3 (by decide) ?_
      refine lv_icmp_ge (tgt := 32) hx hb dX4_lookAhead_5 (by decide) (fun c4 => ?_) (fun c4 => ?_)
      · have h := if_t c4 h
        cases some_i h
        exact kx _ _ _ hP hD hS (lv_sub hl [] rfl)
      · have h := if_f c4 h
        refine lv_aload_n hx hb dX4_lookAhead_8 rfl (lv_at hl 0 rfl) ?_
        refine va_get (D := g.1) (ci := 4) (v := .ref (a 1)) (C := RX4) (T := TX4) (N := 4) hx hb hts hinX4 hown hK hP 0 rfl rfl 0 (by decide) (hts (.fieldLink RX4 9 "BarredRungs$Ways" "barred" "[I") (List.mem_of_getElem? (i := 1) rfl)) (fun _ h9 => h9) rfl dX4_lookAhead_9 ?_
        refine lv_iload_n hx hb dX4_lookAhead_12 rfl (lv_at hl 2 rfl) ?_
        refine lv_aload_n hx hb dX4_lookAhead_13 rfl (lv_at hl 1 rfl) ?_
        refine lv_iload_n hx hb dX4_lookAhead_14 rfl (lv_at hl 2 rfl) ?_
        obtain ⟨r5, kr5, h⟩ := bd_ex h
        have hP8 : va_P g.1 vwCl ((cWa g a wa2) ++ ((cSt g b st) ++ [])) H := hP
        have hD8 : va_D A ((cWa g a wa2) ++ ((cSt g b st) ++ [])) := hD
        refine aft_f (st1 := [.int r5, .int v2_1, .ref (a 1)]) rfl (cWa g a wa2) [] (runV (As := [.int v2_1]) (rest := [.int v2_1, .ref (a 1)]) ⟨hx, hb, hml, hown, hts⟩ (kX2_barredAfter l g b kr5) (cwV 1 hts gX4_lookAhead_X2_barredAfter rfl rfl rfl hdX2_barredAfter ⟨Nat.le_of_ble_eq_true rfl, Nat.le_of_ble_eq_true rfl⟩) hK hN hP8.right.left hD8.right.left (va_recv hK hP (ci := 2) (q0 := 5) rfl rfl) rfl hl.1 rfl (Nat.le_of_ble_eq_true rfl) dX4_lookAhead_15 ⟨Nat.zero_le _, Nat.zero_le _⟩) hP8 hD8 hS hA (fun H locs hP hD hS => ?_)
        have hP : va_P g.1 vwCl (cWa g a wa2 ++ (cSt g b st)) H := hP
        have hD : va_D A (cWa g a wa2 ++ (cSt g b st)) := hD
        obtain ⟨hi9, h⟩ := ck_ex h
        obtain ⟨wa6, ewa6, h⟩ := pl_ex h
        refine va_iast hx hb hK hP hD hS 1 0 rfl rfl (inb_in hi9) dX4_lookAhead_18 (fun H locs hP hD hS => ?_)
        have hP : va_P g.1 vwCl (cWa g a wa6 ++ (cSt g b st)) H := by rw [← ewa6]; exact hP
        have hD : va_D A (cWa g a wa6 ++ (cSt g b st)) := by rw [← ewa6]; exact hD
        refine lv_aload_n hx hb dX4_lookAhead_19 rfl (lv_at hl 0 rfl) ?_
        refine va_get (D := g.1) (ci := 4) (v := .ref (a 2)) (C := RX4) (T := TX4) (N := 4) hx hb hts hinX4 hown hK hP 0 rfl rfl 1 (by decide) (hts (.fieldLink RX4 15 "BarredRungs$Ways" "known" "[I") (List.mem_of_getElem? (i := 2) rfl)) (fun _ h9 => h9) rfl dX4_lookAhead_20 ?_
        refine lv_iload_n hx hb dX4_lookAhead_23 rfl (lv_at hl 2 rfl) ?_
        refine lv_iconst (v := 0) hx hb dX4_lookAhead_24 (by decide) ?_
        obtain ⟨hi9, h⟩ := ck_ex h
        obtain ⟨wa7, ewa7, h⟩ := pl_ex h
        refine va_iast hx hb hK hP hD hS 2 0 rfl rfl (inb_in hi9) dX4_lookAhead_25 (fun H locs hP hD hS => ?_)
        have hP : va_P g.1 vwCl (cWa g a wa7 ++ (cSt g b st)) H := by rw [← ewa7]; exact hP
        have hD : va_D A (cWa g a wa7 ++ (cSt g b st)) := by rw [← ewa7]; exact hD
        obtain ⟨x8, ex8, h⟩ := pl_ex h
        refine lv_iinc (v := x8) (lv' := [(2, .int x8), (0, .ref (a 0)), (1, .ref (b 0))]) hx hb dX4_lookAhead_26 hl (k := 2) rfl (by rw [← ex8]; rfl) (by decide) rfl (fun ls hl => ?_)
        refine lv_goto (tgt := 2) hx hb dX4_lookAhead_29 (by decide) ?_
        exact ih x8 wa7 _ _ _ _ h hP hD hS (lv_sub hl [1, 2, 0] rfl) kx
  obtain ⟨wa9, kwa9, h⟩ := bd_ex h
  refine L2 1000 (0 : Int32) wa wa9 _ _ _ kwa9 hP hD hS (lv_sub hl [1, 2, 0] rfl) (fun H locs ls hP hD hS hl => ?_)
  cases some_i h
  exact hend _ _ _ _ _ hP hD hS (RetOK.v dX4_lookAhead_32)
def fX4_startAtEnd_L2 (st : St) (p2 : Int32) : Nat → Int32 → Wa → Option (Wa)
  | 0, _, _ => none
  | n + 1, v3_1, wa2 =>
    (if (32 : Int32) ≤ v3_1 then
    (some wa2)
    else
    (ck (inb v3_1 32)
    (bd (fX5_has (Wa_barred wa2 v3_1.toNatClampNeg) p2) fun (r5 : Int32) =>
    (if r5 = (0 : Int32) then
    (bd (fX2_linksOf st p2) fun (r7 : Int32) =>
    (ck (inb v3_1 32)
    (pl (Wa_set_layer wa2 (upd (Wa_layer wa2) v3_1.toNatClampNeg r7)) fun (wa8 : Wa) =>
    (ck (inb v3_1 32)
    (ck (inb v3_1 32)
    (pl (Wa_set_known wa8 (upd (Wa_known wa8) v3_1.toNatClampNeg (Wa_layer wa8 v3_1.toNatClampNeg))) fun (wa9 : Wa) =>
    (pl ((v3_1 + (1 : Int32))) fun (x10 : Int32) =>
    (fX4_startAtEnd_L2 st p2 n x10 wa9))))))))
    else
    (ck (inb v3_1 32)
    (pl (Wa_set_layer wa2 (upd (Wa_layer wa2) v3_1.toNatClampNeg (0 : Int32))) fun (wa11 : Wa) =>
    (ck (inb v3_1 32)
    (ck (inb v3_1 32)
    (pl (Wa_set_known wa11 (upd (Wa_known wa11) v3_1.toNatClampNeg (Wa_layer wa11 v3_1.toNatClampNeg))) fun (wa12 : Wa) =>
    (pl ((v3_1 + (1 : Int32))) fun (x13 : Int32) =>
    (fX4_startAtEnd_L2 st p2 n x13 wa12)))))))))))
def fX4_startAtEnd (wa : Wa) (st : St) (p2 : Int32) : Option (Wa) :=
(bd (fX4_startAtEnd_L2 st p2 1000 (0 : Int32) wa) fun (wa14 : Wa) =>
(some wa14))
abbrev rX4_startAtEnd : Room := { frames := 2, cells := 0, slots := 0, locals := 42 }
theorem hdX4_startAtEnd : yX4_startAtEnd.cls = RX4 ∧ yX4_startAtEnd.cls ≠ "java/lang/invoke/MethodHandle" ∧ yX4_startAtEnd.cls ≠ "java/lang/invoke/VarHandle" ∧ (parseMethodDescriptor yX4_startAtEnd.desc).map (fun d => d.parameters.length) = some 2 := by decide +kernel
set_option maxRecDepth 100000 in
set_option maxHeartbeats 8000000 in
theorem kX4_startAtEnd (l : Launch) (g : GG) (a b : Nat → Nat) {wa : Wa} {st : St} {p2 : Int32} {wa' : Wa} (h : fX4_startAtEnd wa st p2 = some wa') : Cg l g yX4_startAtEnd wsX4_startAtEnd rX4_startAtEnd [.ref (a 0), .ref (b 0), .int p2] (cWa g a wa ++ (cSt g b st)) (none) (cWa g a wa' ++ (cSt g b st)) := by
  refine Cg_of (cc := cX4_startAtEnd) (maxL := 4) (ret := none) (by decide +kernel) rfl (Nat.le_of_ble_eq_true rfl) ?_
  intro p e su m args below meth c A Q ls hx hb hml hown hts hK hN hA hnm hP hD hS hl hend
  have hinX4 : ∀ w ∈ u_ws RX4 TX4 4, w ∈ wsX4_startAtEnd := fun _ h9 => List.mem_cons_of_mem _ (List.mem_append_left _ (List.mem_append_right _ h9))
  have hinX2 : ∀ w ∈ u_ws RX2 TX2 17, w ∈ wsX4_startAtEnd := fun _ h9 => List.mem_cons_of_mem _ (List.mem_append_right _ h9)
  unfold fX4_startAtEnd at h
  have hl : lv_has ls 4 [(0, .ref (a 0)), (1, .ref (b 0)), (2, .int p2)] := hl
  refine lv_iconst (v := 0) hx hb dX4_startAtEnd_0 (by decide) ?_
  refine lv_istore_n (lv' := [(3, .int (0 : Int32)), (0, .ref (a 0)), (1, .ref (b 0)), (2, .int p2)]) hx hb dX4_startAtEnd_1 rfl hl (by decide) rfl (fun ls hl => ?_)
  have L2 : ∀ (n : Nat) (v3_1 : Int32) (wa2 : Wa) (wa3 : Wa) (H : Heap) (locs : List Loc) (ls : Array Slot), fX4_startAtEnd_L2 st p2 n v3_1 wa2 = some wa3 → va_P g.1 vwCl (cWa g a wa2 ++ (cSt g b st)) H → va_D A (cWa g a wa2 ++ (cSt g b st)) → va_S A su.heap H locs → lv_has ls 4 [(0, .ref (a 0)), (1, .ref (b 0)), (2, .int p2), (3, .int v3_1)] → (∀ (H : Heap) (locs : List Loc) (ls : Array Slot), va_P g.1 vwCl (cWa g a wa3 ++ (cSt g b st)) H → va_D A (cWa g a wa3 ++ (cSt g b st)) → va_S A su.heap H locs → lv_has ls 4 [] → W p l e rX4_startAtEnd su m args below meth c H locs 0 0 Q (F0 m 54 ls [])) → W p l e rX4_startAtEnd su m args below meth c H locs 0 0 Q (F0 m 2 ls []) := by
    intro n
    induction n with
    | zero => intro v3_1 wa2 wa3 H locs ls h hP hD hS hl kx; cases h
    | succ n ih =>
      intro v3_1 wa2 wa3 H locs ls h hP hD hS hl kx
      rw [fX4_startAtEnd_L2] at h
      refine lv_iload_n hx hb dX4_startAtEnd_2 rfl (lv_at hl 3 rfl) ?_
      refine lv_bipush (v := 32) hx hb dX4_startAtEnd_3 (by decide) ?_
      refine lv_icmp_ge (tgt := 54) hx hb dX4_startAtEnd_5 (by decide) (fun c4 => ?_) (fun c4 => ?_)
      · have h := if_t c4 h
        cases some_i h
        exact kx _ _ _ hP hD hS (lv_sub hl [] rfl)
      · have h := if_f c4 h
        refine lv_aload_n hx hb dX4_startAtEnd_8 rfl (lv_at hl 0 rfl) ?_
        refine va_get (D := g.1) (ci := 4) (v := .ref (a 3)) (C := RX4) (T := TX4) (N := 4) hx hb hts hinX4 hown hK hP 0 rfl rfl 2 (by decide) (hts (.fieldLink RX4 18 "BarredRungs$Ways" "layer" "[I") (List.mem_of_getElem? (i := 1) rfl)) (fun _ h9 => h9) rfl dX4_startAtEnd_9 ?_
        refine lv_iload_n hx hb dX4_startAtEnd_12 rfl (lv_at hl 3 rfl) ?_
        refine lv_aload_n hx hb dX4_startAtEnd_13 rfl (lv_at hl 0 rfl) ?_
        refine va_get (D := g.1) (ci := 4) (v := .ref (a 1)) (C := RX4) (T := TX4) (N := 4) hx hb hts hinX4 hown hK hP 0 rfl rfl 0 (by decide) (hts (.fieldLink RX4 9 "BarredRungs$Ways" "barred" "[I") (List.mem_of_getElem? (i := 2) rfl)) (fun _ h9 => h9) rfl dX4_startAtEnd_14 ?_
        refine lv_iload_n hx hb dX4_startAtEnd_17 rfl (lv_at hl 3 rfl) ?_
        obtain ⟨hi9, h⟩ := ck_ex h
        refine va_iald hx hb hK hP 1 0 rfl rfl (inb_in hi9) dX4_startAtEnd_18 ?_
        refine lv_iload_n hx hb dX4_startAtEnd_19 rfl (lv_at hl 2 rfl) ?_
        obtain ⟨r5, kr5, h⟩ := bd_ex h
        refine aft_e (st1 := [.int r5, .int v3_1, .ref (a 3)]) rfl (runSN (As := [.int (Wa_barred wa2 v3_1.toNatClampNeg), .int p2]) (rest := [.int v3_1, .ref (a 3)]) ⟨hx, hb, hml, hown, hts⟩ (kX5_has l g kr5) ⟨va_cnB 2 hts gX4_startAtEnd_X5_has_n34 rfl rfl rfl (hN _ (List.mem_of_getElem? (i := 6) rfl)) (hts (.initialized RX5) (List.mem_of_getElem? (i := 5) rfl)) hdX5_has.2 ⟨Nat.le_of_ble_eq_true rfl, Nat.le_of_ble_eq_true rfl⟩, (hts (.static yX5_has) (List.mem_of_getElem? (i := 4) rfl)), trivial⟩ hK hN nilP (nilD (A := A)) rfl hl.1 rfl (Nat.le_of_ble_eq_true rfl) dX4_startAtEnd_20 ⟨Nat.zero_le _, Nat.zero_le _⟩) hP hS hA (fun H locs hP hS => ?_)
        refine lv_if_eq (tgt := 30) hx hb dX4_startAtEnd_23 (by decide) (fun c6 => ?_) (fun c6 => ?_)
        · have h := if_t c6 h
          refine lv_aload_n hx hb dX4_startAtEnd_30 rfl (lv_at hl 1 rfl) ?_
          refine lv_iload_n hx hb dX4_startAtEnd_31 rfl (lv_at hl 2 rfl) ?_
          obtain ⟨r7, kr7, h⟩ := bd_ex h
          have hP8 : va_P g.1 vwCl ((cWa g a wa2) ++ ((cSt g b st) ++ [])) H := hP
          have hD8 : va_D A ((cWa g a wa2) ++ ((cSt g b st) ++ [])) := hD
          refine aft_f (st1 := [.int r7, .int v3_1, .ref (a 3)]) rfl (cWa g a wa2) [] (runV (As := [.int p2]) (rest := [.int v3_1, .ref (a 3)]) ⟨hx, hb, hml, hown, hts⟩ (kX2_linksOf l g b kr7) (cwV 1 hts gX4_startAtEnd_X2_linksOf rfl rfl rfl hdX2_linksOf ⟨Nat.le_of_ble_eq_true rfl, Nat.le_of_ble_eq_true rfl⟩) hK hN hP8.right.left hD8.right.left (va_recv hK hP (ci := 2) (q0 := 5) rfl rfl) rfl hl.1 rfl (Nat.le_of_ble_eq_true rfl) dX4_startAtEnd_32 ⟨Nat.zero_le _, Nat.zero_le _⟩) hP8 hD8 hS hA (fun H locs hP hD hS => ?_)
          have hP : va_P g.1 vwCl (cWa g a wa2 ++ (cSt g b st)) H := hP
          have hD : va_D A (cWa g a wa2 ++ (cSt g b st)) := hD
          obtain ⟨hi9, h⟩ := ck_ex h
          obtain ⟨wa8, ewa8, h⟩ := pl_ex h
          refine va_iast hx hb hK hP hD hS 3 0 rfl rfl (inb_in hi9) dX4_startAtEnd_35 (fun H locs hP hD hS => ?_)
          have hP : va_P g.1 vwCl (cWa g a wa8 ++ (cSt g b st)) H := by rw [← ewa8]; exact hP
          have hD : va_D A (cWa g a wa8 ++ (cSt g b st)) := by rw [← ewa8]; exact hD
          refine lv_aload_n hx hb dX4_startAtEnd_36 rfl (lv_at hl 0 rfl) ?_
          refine va_get (D := g.1) (ci := 4) (v := .ref (a 2)) (C := RX4) (T := TX4) (N := 4) hx hb hts hinX4 hown hK hP 0 rfl rfl 1 (by decide) (hts (.fieldLink RX4 15 "BarredRungs$Ways" "known" "[I") (List.mem_of_getElem? (i := 3) rfl)) (fun _ h9 => h9) rfl dX4_startAtEnd_37 ?_
          refine lv_iload_n hx hb dX4_startAtEnd_40 rfl (lv_at hl 3 rfl) ?_
          refine lv_aload_n hx hb dX4_startAtEnd_41 rfl (lv_at hl 0 rfl) ?_
          refine va_get (D := g.1) (ci := 4) (v := .ref (a 3)) (C := RX4) (T := TX4) (N := 4) hx hb hts hinX4 hown hK hP 0 rfl rfl 2 (by decide) (hts (.fieldLink RX4 18 "BarredRungs$Ways" "layer" "[I") (List.mem_of_getElem? (i := 1) rfl)) (fun _ h9 => h9) rfl dX4_startAtEnd_42 ?_
          refine lv_iload_n hx hb dX4_startAtEnd_45 rfl (lv_at hl 3 rfl) ?_
          obtain ⟨hi9, h⟩ := ck_ex h
          refine va_iald hx hb hK hP 3 0 rfl rfl (inb_in hi9) dX4_startAtEnd_46 ?_
          obtain ⟨hi9, h⟩ := ck_ex h
          obtain ⟨wa9, ewa9, h⟩ := pl_ex h
          refine va_iast hx hb hK hP hD hS 2 0 rfl rfl (inb_in hi9) dX4_startAtEnd_47 (fun H locs hP hD hS => ?_)
          have hP : va_P g.1 vwCl (cWa g a wa9 ++ (cSt g b st)) H := by rw [← ewa9]; exact hP
          have hD : va_D A (cWa g a wa9 ++ (cSt g b st)) := by rw [← ewa9]; exact hD
          obtain ⟨x10, ex10, h⟩ := pl_ex h
          refine lv_iinc (v := x10) (lv' := [(3, .int x10), (0, .ref (a 0)), (1, .ref (b 0)), (2, .int p2)]) hx hb dX4_startAtEnd_48 hl (k := 3) rfl (by rw [← ex10]; rfl) (by decide) rfl (fun ls hl => ?_)
          refine lv_goto (tgt := 2) hx hb dX4_startAtEnd_51 (by decide) ?_
          exact ih x10 wa9 _ _ _ _ h hP hD hS (lv_sub hl [1, 2, 3, 0] rfl) kx
        · have h := if_f c6 h
          refine lv_iconst (v := 0) hx hb dX4_startAtEnd_26 (by decide) ?_
          refine lv_goto (tgt := 35) hx hb dX4_startAtEnd_27 (by decide) ?_
          obtain ⟨hi9, h⟩ := ck_ex h
          obtain ⟨wa11, ewa11, h⟩ := pl_ex h
          refine va_iast hx hb hK hP hD hS 3 0 rfl rfl (inb_in hi9) dX4_startAtEnd_35 (fun H locs hP hD hS => ?_)
          have hP : va_P g.1 vwCl (cWa g a wa11 ++ (cSt g b st)) H := by rw [← ewa11]; exact hP
          have hD : va_D A (cWa g a wa11 ++ (cSt g b st)) := by rw [← ewa11]; exact hD
          refine lv_aload_n hx hb dX4_startAtEnd_36 rfl (lv_at hl 0 rfl) ?_
          refine va_get (D := g.1) (ci := 4) (v := .ref (a 2)) (C := RX4) (T := TX4) (N := 4) hx hb hts hinX4 hown hK hP 0 rfl rfl 1 (by decide) (hts (.fieldLink RX4 15 "BarredRungs$Ways" "known" "[I") (List.mem_of_getElem? (i := 3) rfl)) (fun _ h9 => h9) rfl dX4_startAtEnd_37 ?_
          refine lv_iload_n hx hb dX4_startAtEnd_40 rfl (lv_at hl 3 rfl) ?_
          refine lv_aload_n hx hb dX4_startAtEnd_41 rfl (lv_at hl 0 rfl) ?_
          refine va_get (D := g.1) (ci := 4) (v := .ref (a 3)) (C := RX4) (T := TX4) (N := 4) hx hb hts hinX4 hown hK hP 0 rfl rfl 2 (by decide) (hts (.fieldLink RX4 18 "BarredRungs$Ways" "layer" "[I") (List.mem_of_getElem? (i := 1) rfl)) (fun _ h9 => h9) rfl dX4_startAtEnd_42 ?_
          refine lv_iload_n hx hb dX4_startAtEnd_45 rfl (lv_at hl 3 rfl) ?_
          obtain ⟨hi9, h⟩ := ck_ex h
          refine va_iald hx hb hK hP 3 0 rfl rfl (inb_in hi9) dX4_startAtEnd_46 ?_
          obtain ⟨hi9, h⟩ := ck_ex h
          obtain ⟨wa12, ewa12, h⟩ := pl_ex h
          refine va_iast hx hb hK hP hD hS 2 0 rfl rfl (inb_in hi9) dX4_startAtEnd_47 (fun H locs hP hD hS => ?_)
          have hP : va_P g.1 vwCl (cWa g a wa12 ++ (cSt g b st)) H := by rw [← ewa12]; exact hP
          have hD : va_D A (cWa g a wa12 ++ (cSt g b st)) := by rw [← ewa12]; exact hD
          obtain ⟨x13, ex13, h⟩ := pl_ex h
          refine lv_iinc (v := x13) (lv' := [(3, .int x13), (0, .ref (a 0)), (1, .ref (b 0)), (2, .int p2)]) hx hb dX4_startAtEnd_48 hl (k := 3) rfl (by rw [← ex13]; rfl) (by decide) rfl (fun ls hl => ?_)
          refine lv_goto (tgt := 2) hx hb dX4_startAtEnd_51 (by decide) ?_
          exact ih x13 wa12 _ _ _ _ h hP hD hS (lv_sub hl [1, 2, 3, 0] rfl) kx
  obtain ⟨wa14, kwa14, h⟩ := bd_ex h
  refine L2 1000 (0 : Int32) wa wa14 _ _ _ kwa14 hP hD hS (lv_sub hl [1, 2, 3, 0] rfl) (fun H locs ls hP hD hS hl => ?_)
  cases some_i h
  exact hend _ _ _ _ _ hP hD hS (RetOK.v dX4_startAtEnd_54)
def fX4_stepBack_L5 (st : St) (p2 : Int32) : Nat → Int32 → Int32 → Wa → Option (Int32 × Wa)
  | 0, _, _, _ => none
  | n + 1, v3_1, v4_2, wa3 =>
    (if (32 : Int32) ≤ v4_2 then
    (some (v3_1, wa3))
    else
    (pl (((v4_2 + (1 : Int32)) - (v4_2 + (1 : Int32)) / (32 : Int32) * (32 : Int32))) fun (x7 : Int32) =>
    (ck (inb x7 32)
    (ck (inb x7 32)
    (pl (((Wa_layer wa3 x7.toNatClampNeg) &&& ((Wa_barred wa3 x7.toNatClampNeg) ^^^ (-1 : Int32)))) fun (x8 : Int32) =>
    (ck (inb v4_2 32)
    (bd (fX2_linksOfAll st (x8 &&& ((Wa_barred wa3 v4_2.toNatClampNeg) ^^^ (-1 : Int32)))) fun (r9 : Int32) =>
    (pl ((x8 ||| r9)) fun (x10 : Int32) =>
    (ck (inb v4_2 32)
    (ck (inb v4_2 32)
    (pl (Wa_set_nextLayer wa3 (upd (Wa_nextLayer wa3) v4_2.toNatClampNeg ((x10 &&& ((Wa_known wa3 v4_2.toNatClampNeg) ^^^ (-1 : Int32))) &&& (((1 : Int32) <<< (p2 &&& 31)) ^^^ (-1 : Int32))))) fun (wa11 : Wa) =>
    (ck (inb v4_2 32)
    (pl ((v3_1 ||| (Wa_nextLayer wa11 v4_2.toNatClampNeg))) fun (x12 : Int32) =>
    (pl ((v4_2 + (1 : Int32))) fun (x13 : Int32) =>
    (fX4_stepBack_L5 st p2 n x12 x13 wa11)))))))))))))))
def fX4_stepBack_L105 : Nat → Int32 → Wa → Option (Wa)
  | 0, _, _ => none
  | n + 1, v4_16, wa17 =>
    (if (32 : Int32) ≤ v4_16 then
    (some wa17)
    else
    (ck (inb v4_16 32)
    (ck (inb v4_16 32)
    (pl (Wa_set_layer wa17 (upd (Wa_layer wa17) v4_16.toNatClampNeg (Wa_nextLayer wa17 v4_16.toNatClampNeg))) fun (wa20 : Wa) =>
    (ck (inb v4_16 32)
    (ck (inb v4_16 32)
    (ck (inb v4_16 32)
    (pl (Wa_set_known wa20 (upd (Wa_known wa20) v4_16.toNatClampNeg ((Wa_known wa20 v4_16.toNatClampNeg) ||| (Wa_nextLayer wa20 v4_16.toNatClampNeg)))) fun (wa21 : Wa) =>
    (pl ((v4_16 + (1 : Int32))) fun (x22 : Int32) =>
    (fX4_stepBack_L105 n x22 wa21))))))))))
def fX4_stepBack (wa : Wa) (st : St) (p2 : Int32) : Option (Int32 × Wa) :=
(bd2 (fX4_stepBack_L5 st p2 1000 (0 : Int32) (0 : Int32) wa) fun (v3_14 : Int32) (wa15 : Wa) =>
(bd (fX4_stepBack_L105 1000 (0 : Int32) wa15) fun (wa23 : Wa) =>
(if v3_14 = (0 : Int32) then
(some ((0 : Int32), wa23))
else
(some ((1 : Int32), wa23)))))
abbrev rX4_stepBack : Room := { frames := 2, cells := 0, slots := 0, locals := 44 }
theorem hdX4_stepBack : yX4_stepBack.cls = RX4 ∧ yX4_stepBack.cls ≠ "java/lang/invoke/MethodHandle" ∧ yX4_stepBack.cls ≠ "java/lang/invoke/VarHandle" ∧ (parseMethodDescriptor yX4_stepBack.desc).map (fun d => d.parameters.length) = some 2 := by decide +kernel
set_option maxRecDepth 100000 in
set_option maxHeartbeats 8000000 in
theorem kX4_stepBack (l : Launch) (g : GG) (a b : Nat → Nat) {wa : Wa} {st : St} {p2 : Int32} {res : Int32} {wa' : Wa} (h : fX4_stepBack wa st p2 = some (res, wa')) : Cg l g yX4_stepBack wsX4_stepBack rX4_stepBack [.ref (a 0), .ref (b 0), .int p2] (cWa g a wa ++ (cSt g b st)) (some (.int res)) (cWa g a wa' ++ (cSt g b st)) := by
  refine Cg_of (cc := cX4_stepBack) (maxL := 8) (ret := (some .boolean)) (by decide +kernel) rfl (Nat.le_of_ble_eq_true rfl) ?_
  intro p e su m args below meth c A Q ls hx hb hml hown hts hK hN hA hnm hP hD hS hl hend
  have hinX4 : ∀ w ∈ u_ws RX4 TX4 4, w ∈ wsX4_stepBack := fun _ h9 => List.mem_cons_of_mem _ (List.mem_append_left _ (List.mem_append_right _ h9))
  have hinX2 : ∀ w ∈ u_ws RX2 TX2 17, w ∈ wsX4_stepBack := fun _ h9 => List.mem_cons_of_mem _ (List.mem_append_right _ h9)
  unfold fX4_stepBack at h
  have hl : lv_has ls 8 [(0, .ref (a 0)), (1, .ref (b 0)), (2, .int p2)] := hl
  refine lv_iconst (v := 0) hx hb dX4_stepBack_0 (by decide) ?_
  refine lv_istore_n (lv' := [(3, .int (0 : Int32)), (0, .ref (a 0)), (1, .ref (b 0)), (2, .int p2)]) hx hb dX4_stepBack_1 rfl hl (by decide) rfl (fun ls hl => ?_)
  refine lv_iconst (v := 0) hx hb dX4_stepBack_2 (by decide) ?_
  refine lv_istore (lv' := [(4, .int (0 : Int32)), (3, .int (0 : Int32)), (0, .ref (a 0)), (1, .ref (b 0)), (2, .int p2)]) hx hb dX4_stepBack_3 hl (by decide) rfl (fun ls hl => ?_)
  have L5 : ∀ (n : Nat) (v3_1 : Int32) (v4_2 : Int32) (wa3 : Wa) (y3_4 : Int32) (wa5 : Wa) (H : Heap) (locs : List Loc) (ls : Array Slot), fX4_stepBack_L5 st p2 n v3_1 v4_2 wa3 = some (y3_4, wa5) → va_P g.1 vwCl (cWa g a wa3 ++ (cSt g b st)) H → va_D A (cWa g a wa3 ++ (cSt g b st)) → va_S A su.heap H locs → lv_has ls 8 [(0, .ref (a 0)), (1, .ref (b 0)), (2, .int p2), (3, .int v3_1), (4, .int v4_2)] → (∀ (H : Heap) (locs : List Loc) (ls : Array Slot), va_P g.1 vwCl (cWa g a wa5 ++ (cSt g b st)) H → va_D A (cWa g a wa5 ++ (cSt g b st)) → va_S A su.heap H locs → lv_has ls 8 [(0, .ref (a 0)), (3, .int y3_4)] → W p l e rX4_stepBack su m args below meth c H locs 0 0 Q (F0 m 102 ls [])) → W p l e rX4_stepBack su m args below meth c H locs 0 0 Q (F0 m 5 ls []) := by
    intro n
    induction n with
    | zero => intro v3_1 v4_2 wa3 y3_4 wa5 H locs ls h hP hD hS hl kx; cases h
    | succ n ih =>
      intro v3_1 v4_2 wa3 y3_4 wa5 H locs ls h hP hD hS hl kx
      rw [fX4_stepBack_L5] at h
      refine lv_iload hx hb dX4_stepBack_5 (lv_at hl 4 rfl) ?_
      refine lv_bipush (v := 32) hx hb dX4_stepBack_7 (by decide) ?_
      refine lv_icmp_ge (tgt := 102) hx hb dX4_stepBack_9 (by decide) (fun c6 => ?_) (fun c6 => ?_)
      · have h := if_t c6 h
        cases some_i h
        exact kx _ _ _ hP hD hS (lv_sub hl [0, 3] rfl)
      · have h := if_f c6 h
        refine lv_iload hx hb dX4_stepBack_12 (lv_at hl 4 rfl) ?_
        refine lv_iconst (v := 1) hx hb dX4_stepBack_14 (by decide) ?_
        refine lv_iadd hx hb dX4_stepBack_15 ?_
        refine lv_bipush (v := 32) hx hb dX4_stepBack_16 (by decide) ?_
        refine lv_irem hx hb dX4_stepBack_18 (by decide) ?_
        obtain ⟨x7, ex7, h⟩ := pl_ex h
        refine lv_eqi ex7 ?_
        refine lv_istore (lv' := [(5, .int x7), (0, .ref (a 0)), (1, .ref (b 0)), (2, .int p2), (3, .int v3_1), (4, .int v4_2)]) hx hb dX4_stepBack_19 hl (by decide) rfl (fun ls hl => ?_)
        refine lv_aload_n hx hb dX4_stepBack_21 rfl (lv_at hl 1 rfl) ?_
        refine va_get (D := g.1) (ci := 4) (v := .ref (a 3)) (C := RX4) (T := TX4) (N := 4) hx hb hts hinX4 hown hK hP 0 rfl rfl 2 (by decide) (hts (.fieldLink RX4 18 "BarredRungs$Ways" "layer" "[I") (List.mem_of_getElem? (i := 1) rfl)) (fun _ h9 => h9) rfl dX4_stepBack_22 ?_
        refine lv_iload hx hb dX4_stepBack_25 (lv_at hl 0 rfl) ?_
        obtain ⟨hi9, h⟩ := ck_ex h
        refine va_iald hx hb hK hP 3 0 rfl rfl (inb_in hi9) dX4_stepBack_27 ?_
        refine lv_aload_n hx hb dX4_stepBack_28 rfl (lv_at hl 1 rfl) ?_
        refine va_get (D := g.1) (ci := 4) (v := .ref (a 1)) (C := RX4) (T := TX4) (N := 4) hx hb hts hinX4 hown hK hP 0 rfl rfl 0 (by decide) (hts (.fieldLink RX4 9 "BarredRungs$Ways" "barred" "[I") (List.mem_of_getElem? (i := 2) rfl)) (fun _ h9 => h9) rfl dX4_stepBack_29 ?_
        refine lv_iload hx hb dX4_stepBack_32 (lv_at hl 0 rfl) ?_
        obtain ⟨hi9, h⟩ := ck_ex h
        refine va_iald hx hb hK hP 1 0 rfl rfl (inb_in hi9) dX4_stepBack_34 ?_
        refine lv_iconst (v := -1) hx hb dX4_stepBack_35 (by decide) ?_
        refine lv_ixor hx hb dX4_stepBack_36 ?_
        refine lv_iand hx hb dX4_stepBack_37 ?_
        obtain ⟨x8, ex8, h⟩ := pl_ex h
        refine lv_eqi ex8 ?_
        refine lv_istore (lv' := [(6, .int x8), (5, .int x7), (0, .ref (a 0)), (1, .ref (b 0)), (2, .int p2), (3, .int v3_1), (4, .int v4_2)]) hx hb dX4_stepBack_38 hl (by decide) rfl (fun ls hl => ?_)
        refine lv_iload hx hb dX4_stepBack_40 (lv_at hl 0 rfl) ?_
        refine lv_aload_n hx hb dX4_stepBack_42 rfl (lv_at hl 3 rfl) ?_
        refine lv_iload hx hb dX4_stepBack_43 (lv_at hl 0 rfl) ?_
        refine lv_aload_n hx hb dX4_stepBack_45 rfl (lv_at hl 2 rfl) ?_
        refine va_get (D := g.1) (ci := 4) (v := .ref (a 1)) (C := RX4) (T := TX4) (N := 4) hx hb hts hinX4 hown hK hP 0 rfl rfl 0 (by decide) (hts (.fieldLink RX4 9 "BarredRungs$Ways" "barred" "[I") (List.mem_of_getElem? (i := 2) rfl)) (fun _ h9 => h9) rfl dX4_stepBack_46 ?_
        refine lv_iload hx hb dX4_stepBack_49 (lv_at hl 6 rfl) ?_
        obtain ⟨hi9, h⟩ := ck_ex h
        refine va_iald hx hb hK hP 1 0 rfl rfl (inb_in hi9) dX4_stepBack_51 ?_
        refine lv_iconst (v := -1) hx hb dX4_stepBack_52 (by decide) ?_
        refine lv_ixor hx hb dX4_stepBack_53 ?_
        refine lv_iand hx hb dX4_stepBack_54 ?_
        obtain ⟨r9, kr9, h⟩ := bd_ex h
        have hP8 : va_P g.1 vwCl ((cWa g a wa3) ++ ((cSt g b st) ++ [])) H := hP
        have hD8 : va_D A ((cWa g a wa3) ++ ((cSt g b st) ++ [])) := hD
        refine aft_f (st1 := [.int r9, .int x8]) rfl (cWa g a wa3) [] (runV (As := [.int (x8 &&& ((Wa_barred wa3 v4_2.toNatClampNeg) ^^^ (-1 : Int32)))]) (rest := [.int x8]) ⟨hx, hb, hml, hown, hts⟩ (kX2_linksOfAll l g b kr9) (cwV 1 hts gX4_stepBack_X2_linksOfAll rfl rfl rfl hdX2_linksOfAll ⟨Nat.le_of_ble_eq_true rfl, Nat.le_of_ble_eq_true rfl⟩) hK hN hP8.right.left hD8.right.left (va_recv hK hP (ci := 2) (q0 := 5) rfl rfl) rfl hl.1 rfl (Nat.le_of_ble_eq_true rfl) dX4_stepBack_55 ⟨Nat.zero_le _, Nat.zero_le _⟩) hP8 hD8 hS hA (fun H locs hP hD hS => ?_)
        have hP : va_P g.1 vwCl (cWa g a wa3 ++ (cSt g b st)) H := hP
        have hD : va_D A (cWa g a wa3 ++ (cSt g b st)) := hD
        refine lv_ior hx hb dX4_stepBack_58 ?_
        obtain ⟨x10, ex10, h⟩ := pl_ex h
        refine lv_eqi ex10 ?_
        refine lv_istore (lv' := [(7, .int x10), (6, .int x8), (5, .int x7), (0, .ref (a 0)), (1, .ref (b 0)), (2, .int p2), (3, .int v3_1), (4, .int v4_2)]) hx hb dX4_stepBack_59 hl (by decide) rfl (fun ls hl => ?_)
        refine lv_aload_n hx hb dX4_stepBack_61 rfl (lv_at hl 3 rfl) ?_
        refine va_get (D := g.1) (ci := 4) (v := .ref (a 4)) (C := RX4) (T := TX4) (N := 4) hx hb hts hinX4 hown hK hP 0 rfl rfl 3 (by decide) (hts (.fieldLink RX4 21 "BarredRungs$Ways" "nextLayer" "[I") (List.mem_of_getElem? (i := 3) rfl)) (fun _ h9 => h9) rfl dX4_stepBack_62 ?_
        refine lv_iload hx hb dX4_stepBack_65 (lv_at hl 7 rfl) ?_
        refine lv_iload hx hb dX4_stepBack_67 (lv_at hl 0 rfl) ?_
        refine lv_aload_n hx hb dX4_stepBack_69 rfl (lv_at hl 3 rfl) ?_
        refine va_get (D := g.1) (ci := 4) (v := .ref (a 2)) (C := RX4) (T := TX4) (N := 4) hx hb hts hinX4 hown hK hP 0 rfl rfl 1 (by decide) (hts (.fieldLink RX4 15 "BarredRungs$Ways" "known" "[I") (List.mem_of_getElem? (i := 4) rfl)) (fun _ h9 => h9) rfl dX4_stepBack_70 ?_
        refine lv_iload hx hb dX4_stepBack_73 (lv_at hl 7 rfl) ?_
        obtain ⟨hi9, h⟩ := ck_ex h
        refine va_iald hx hb hK hP 2 0 rfl rfl (inb_in hi9) dX4_stepBack_75 ?_
        refine lv_iconst (v := -1) hx hb dX4_stepBack_76 (by decide) ?_
        refine lv_ixor hx hb dX4_stepBack_77 ?_
        refine lv_iand hx hb dX4_stepBack_78 ?_
        refine lv_iconst (v := 1) hx hb dX4_stepBack_79 (by decide) ?_
        refine lv_iload_n hx hb dX4_stepBack_80 rfl (lv_at hl 5 rfl) ?_
        refine lv_ishl hx hb dX4_stepBack_81 ?_
        refine lv_iconst (v := -1) hx hb dX4_stepBack_82 (by decide) ?_
        refine lv_ixor hx hb dX4_stepBack_83 ?_
        refine lv_iand hx hb dX4_stepBack_84 ?_
        obtain ⟨hi9, h⟩ := ck_ex h
        obtain ⟨wa11, ewa11, h⟩ := pl_ex h
        refine va_iast hx hb hK hP hD hS 4 0 rfl rfl (inb_in hi9) dX4_stepBack_85 (fun H locs hP hD hS => ?_)
        have hP : va_P g.1 vwCl (cWa g a wa11 ++ (cSt g b st)) H := by rw [← ewa11]; exact hP
        have hD : va_D A (cWa g a wa11 ++ (cSt g b st)) := by rw [← ewa11]; exact hD
        refine lv_iload_n hx hb dX4_stepBack_86 rfl (lv_at hl 6 rfl) ?_
        refine lv_aload_n hx hb dX4_stepBack_87 rfl (lv_at hl 3 rfl) ?_
        refine va_get (D := g.1) (ci := 4) (v := .ref (a 4)) (C := RX4) (T := TX4) (N := 4) hx hb hts hinX4 hown hK hP 0 rfl rfl 3 (by decide) (hts (.fieldLink RX4 21 "BarredRungs$Ways" "nextLayer" "[I") (List.mem_of_getElem? (i := 3) rfl)) (fun _ h9 => h9) rfl dX4_stepBack_88 ?_
        refine lv_iload hx hb dX4_stepBack_91 (lv_at hl 7 rfl) ?_
        obtain ⟨hi9, h⟩ := ck_ex h
        refine va_iald hx hb hK hP 4 0 rfl rfl (inb_in hi9) dX4_stepBack_93 ?_
        refine lv_ior hx hb dX4_stepBack_94 ?_
        obtain ⟨x12, ex12, h⟩ := pl_ex h
        refine lv_eqi ex12 ?_
        refine lv_istore_n (lv' := [(3, .int x12), (7, .int x10), (6, .int x8), (5, .int x7), (0, .ref (a 0)), (1, .ref (b 0)), (2, .int p2), (4, .int v4_2)]) hx hb dX4_stepBack_95 rfl hl (by decide) rfl (fun ls hl => ?_)
        obtain ⟨x13, ex13, h⟩ := pl_ex h
        refine lv_iinc (v := x13) (lv' := [(4, .int x13), (3, .int x12), (7, .int x10), (6, .int x8), (5, .int x7), (0, .ref (a 0)), (1, .ref (b 0)), (2, .int p2)]) hx hb dX4_stepBack_96 hl (k := 7) rfl (by rw [← ex13]; rfl) (by decide) rfl (fun ls hl => ?_)
        refine lv_goto (tgt := 5) hx hb dX4_stepBack_99 (by decide) ?_
        exact ih x12 x13 wa11 _ _ _ _ _ h hP hD hS (lv_sub hl [5, 6, 7, 1, 0] rfl) kx
  obtain ⟨v3_14, wa15, kv3_14, h⟩ := bd2_ex h
  refine L5 1000 (0 : Int32) (0 : Int32) wa v3_14 wa15 _ _ _ kv3_14 hP hD hS (lv_sub hl [2, 3, 4, 1, 0] rfl) (fun H locs ls hP hD hS hl => ?_)
  refine lv_iconst (v := 0) hx hb dX4_stepBack_102 (by decide) ?_
  refine lv_istore (lv' := [(4, .int (0 : Int32)), (0, .ref (a 0)), (3, .int v3_14)]) hx hb dX4_stepBack_103 hl (by decide) rfl (fun ls hl => ?_)
  have L105 : ∀ (n : Nat) (v4_16 : Int32) (wa17 : Wa) (wa18 : Wa) (H : Heap) (locs : List Loc) (ls : Array Slot), fX4_stepBack_L105 n v4_16 wa17 = some wa18 → va_P g.1 vwCl (cWa g a wa17 ++ (cSt g b st)) H → va_D A (cWa g a wa17 ++ (cSt g b st)) → va_S A su.heap H locs → lv_has ls 8 [(0, .ref (a 0)), (3, .int v3_14), (4, .int v4_16)] → (∀ (H : Heap) (locs : List Loc) (ls : Array Slot), va_P g.1 vwCl (cWa g a wa18 ++ (cSt g b st)) H → va_D A (cWa g a wa18 ++ (cSt g b st)) → va_S A su.heap H locs → lv_has ls 8 [(3, .int v3_14)] → W p l e rX4_stepBack su m args below meth c H locs 0 0 Q (F0 m 149 ls [])) → W p l e rX4_stepBack su m args below meth c H locs 0 0 Q (F0 m 105 ls []) := by
    intro n
    induction n with
    | zero => intro v4_16 wa17 wa18 H locs ls h hP hD hS hl kx; cases h
    | succ n ih =>
      intro v4_16 wa17 wa18 H locs ls h hP hD hS hl kx
      rw [fX4_stepBack_L105] at h
      refine lv_iload hx hb dX4_stepBack_105 (lv_at hl 2 rfl) ?_
      refine lv_bipush (v := 32) hx hb dX4_stepBack_107 (by decide) ?_
      refine lv_icmp_ge (tgt := 149) hx hb dX4_stepBack_109 (by decide) (fun c19 => ?_) (fun c19 => ?_)
      · have h := if_t c19 h
        cases some_i h
        exact kx _ _ _ hP hD hS (lv_sub hl [1] rfl)
      · have h := if_f c19 h
        refine lv_aload_n hx hb dX4_stepBack_112 rfl (lv_at hl 0 rfl) ?_
        refine va_get (D := g.1) (ci := 4) (v := .ref (a 3)) (C := RX4) (T := TX4) (N := 4) hx hb hts hinX4 hown hK hP 0 rfl rfl 2 (by decide) (hts (.fieldLink RX4 18 "BarredRungs$Ways" "layer" "[I") (List.mem_of_getElem? (i := 1) rfl)) (fun _ h9 => h9) rfl dX4_stepBack_113 ?_
        refine lv_iload hx hb dX4_stepBack_116 (lv_at hl 2 rfl) ?_
        refine lv_aload_n hx hb dX4_stepBack_118 rfl (lv_at hl 0 rfl) ?_
        refine va_get (D := g.1) (ci := 4) (v := .ref (a 4)) (C := RX4) (T := TX4) (N := 4) hx hb hts hinX4 hown hK hP 0 rfl rfl 3 (by decide) (hts (.fieldLink RX4 21 "BarredRungs$Ways" "nextLayer" "[I") (List.mem_of_getElem? (i := 3) rfl)) (fun _ h9 => h9) rfl dX4_stepBack_119 ?_
        refine lv_iload hx hb dX4_stepBack_122 (lv_at hl 2 rfl) ?_
        obtain ⟨hi9, h⟩ := ck_ex h
        refine va_iald hx hb hK hP 4 0 rfl rfl (inb_in hi9) dX4_stepBack_124 ?_
        obtain ⟨hi9, h⟩ := ck_ex h
        obtain ⟨wa20, ewa20, h⟩ := pl_ex h
        refine va_iast hx hb hK hP hD hS 3 0 rfl rfl (inb_in hi9) dX4_stepBack_125 (fun H locs hP hD hS => ?_)
        have hP : va_P g.1 vwCl (cWa g a wa20 ++ (cSt g b st)) H := by rw [← ewa20]; exact hP
        have hD : va_D A (cWa g a wa20 ++ (cSt g b st)) := by rw [← ewa20]; exact hD
        refine lv_aload_n hx hb dX4_stepBack_126 rfl (lv_at hl 0 rfl) ?_
        refine va_get (D := g.1) (ci := 4) (v := .ref (a 2)) (C := RX4) (T := TX4) (N := 4) hx hb hts hinX4 hown hK hP 0 rfl rfl 1 (by decide) (hts (.fieldLink RX4 15 "BarredRungs$Ways" "known" "[I") (List.mem_of_getElem? (i := 4) rfl)) (fun _ h9 => h9) rfl dX4_stepBack_127 ?_
        refine lv_iload hx hb dX4_stepBack_130 (lv_at hl 2 rfl) ?_
        refine lv_dup2_11 hx hb dX4_stepBack_132 rfl rfl ?_
        obtain ⟨hi9, h⟩ := ck_ex h
        refine va_iald hx hb hK hP 2 0 rfl rfl (inb_in hi9) dX4_stepBack_133 ?_
        refine lv_aload_n hx hb dX4_stepBack_134 rfl (lv_at hl 0 rfl) ?_
        refine va_get (D := g.1) (ci := 4) (v := .ref (a 4)) (C := RX4) (T := TX4) (N := 4) hx hb hts hinX4 hown hK hP 0 rfl rfl 3 (by decide) (hts (.fieldLink RX4 21 "BarredRungs$Ways" "nextLayer" "[I") (List.mem_of_getElem? (i := 3) rfl)) (fun _ h9 => h9) rfl dX4_stepBack_135 ?_
        refine lv_iload hx hb dX4_stepBack_138 (lv_at hl 2 rfl) ?_
        obtain ⟨hi9, h⟩ := ck_ex h
        refine va_iald hx hb hK hP 4 0 rfl rfl (inb_in hi9) dX4_stepBack_140 ?_
        refine lv_ior hx hb dX4_stepBack_141 ?_
        obtain ⟨hi9, h⟩ := ck_ex h
        obtain ⟨wa21, ewa21, h⟩ := pl_ex h
        refine va_iast hx hb hK hP hD hS 2 0 rfl rfl (inb_in hi9) dX4_stepBack_142 (fun H locs hP hD hS => ?_)
        have hP : va_P g.1 vwCl (cWa g a wa21 ++ (cSt g b st)) H := by rw [← ewa21]; exact hP
        have hD : va_D A (cWa g a wa21 ++ (cSt g b st)) := by rw [← ewa21]; exact hD
        obtain ⟨x22, ex22, h⟩ := pl_ex h
        refine lv_iinc (v := x22) (lv' := [(4, .int x22), (0, .ref (a 0)), (3, .int v3_14)]) hx hb dX4_stepBack_143 hl (k := 2) rfl (by rw [← ex22]; rfl) (by decide) rfl (fun ls hl => ?_)
        refine lv_goto (tgt := 105) hx hb dX4_stepBack_146 (by decide) ?_
        exact ih x22 wa21 _ _ _ _ h hP hD hS (lv_sub hl [1, 2, 0] rfl) kx
  obtain ⟨wa23, kwa23, h⟩ := bd_ex h
  refine L105 1000 (0 : Int32) wa15 wa23 _ _ _ kwa23 hP hD hS (lv_sub hl [1, 2, 0] rfl) (fun H locs ls hP hD hS hl => ?_)
  refine lv_iload_n hx hb dX4_stepBack_149 rfl (lv_at hl 0 rfl) ?_
  refine lv_if_eq (tgt := 157) hx hb dX4_stepBack_150 (by decide) (fun c24 => ?_) (fun c24 => ?_)
  · have h := if_t c24 h
    refine lv_iconst (v := 0) hx hb dX4_stepBack_157 (by decide) ?_
    cases some_i h
    exact hend _ _ _ _ _ hP hD hS (RetOK.z dX4_stepBack_158 (Or.inl rfl))
  · have h := if_f c24 h
    refine lv_iconst (v := 1) hx hb dX4_stepBack_153 (by decide) ?_
    refine lv_goto (tgt := 158) hx hb dX4_stepBack_154 (by decide) ?_
    cases some_i h
    exact hend _ _ _ _ _ hP hD hS (RetOK.z dX4_stepBack_158 (Or.inr rfl))
def fX4_backwards_L46 (st : St) (p2 : Int32) (p3 : Int32) : Nat → Int32 → Int32 → Wa → Option (Int32 × Wa)
  | 0, _, _, _ => none
  | n + 1, v5_5, v6_6, wa7 =>
    (if (769 : Int32) < v6_6 then
    (some ((-1 : Int32), wa7))
    else
    (ck (inb v5_5 32)
    (bd (fX5_has (Wa_layer wa7 v5_5.toNatClampNeg) p2) fun (r9 : Int32) =>
    (if r9 = (0 : Int32) then
    (bd2 (fX4_stepBack wa7 st p3) fun (r11 : Int32) (wa12 : Wa) =>
    (if r11 = (0 : Int32) then
    (some ((-1 : Int32), wa12))
    else
    (pl ((v6_6 + (1 : Int32))) fun (x14 : Int32) =>
    (fX4_backwards_L46 st p2 p3 n v5_5 x14 wa12))))
    else
    (some ((v6_6 + v5_5), wa7))))))
def fX4_backwards (wa : Wa) (st : St) (p2 : Int32) (p3 : Int32) (p4 : Int32) : Option (Int32 × Wa) :=
(bd (fX4_lookAhead wa st) fun (wa1 : Wa) =>
(if p4 = (0 : Int32) then
(if p4 = (0 : Int32) then
(bd (fX4_startAtEnd wa1 st p3) fun (wa4 : Wa) =>
(fX4_backwards_L46 st p2 p3 1000 (0 : Int32) (0 : Int32) wa4))
else
(bd (fX4_startAtEnd wa1 st p3) fun (wa15 : Wa) =>
(fX4_backwards_L46 st p2 p3 1000 (1 : Int32) (0 : Int32) wa15)))
else
(ck (inb (1 : Int32) 32)
(bd (fX5_has (Wa_barred wa1 (1 : Int32).toNatClampNeg) p2) fun (r26 : Int32) =>
(if r26 = (0 : Int32) then
(if p4 = (0 : Int32) then
(bd (fX4_startAtEnd wa1 st p3) fun (wa29 : Wa) =>
(fX4_backwards_L46 st p2 p3 1000 (0 : Int32) (0 : Int32) wa29))
else
(bd (fX4_startAtEnd wa1 st p3) fun (wa40 : Wa) =>
(fX4_backwards_L46 st p2 p3 1000 (1 : Int32) (0 : Int32) wa40)))
else
(some ((-1 : Int32), wa1)))))))
abbrev rX4_backwards : Room := { frames := 3, cells := 0, slots := 0, locals := 71 }
theorem hdX4_backwards : yX4_backwards.cls = RX4 ∧ yX4_backwards.cls ≠ "java/lang/invoke/MethodHandle" ∧ yX4_backwards.cls ≠ "java/lang/invoke/VarHandle" ∧ (parseMethodDescriptor yX4_backwards.desc).map (fun d => d.parameters.length) = some 4 := by decide +kernel
set_option maxRecDepth 100000 in
set_option maxHeartbeats 8000000 in
theorem kX4_backwards (l : Launch) (g : GG) (a b : Nat → Nat) {wa : Wa} {st : St} {p2 : Int32} {p3 : Int32} {p4 : Int32} {res : Int32} {wa' : Wa} (h : fX4_backwards wa st p2 p3 p4 = some (res, wa')) : Cg l g yX4_backwards wsX4_backwards rX4_backwards [.ref (a 0), .ref (b 0), .int p2, .int p3, .int p4] (cWa g a wa ++ (cSt g b st)) (some (.int res)) (cWa g a wa' ++ (cSt g b st)) := by
  refine Cg_of (cc := cX4_backwards) (maxL := 7) (ret := (some .int)) (by decide +kernel) rfl (Nat.le_of_ble_eq_true rfl) ?_
  intro p e su m args below meth c A Q ls hx hb hml hown hts hK hN hA hnm hP hD hS hl hend
  have hinX4 : ∀ w ∈ u_ws RX4 TX4 4, w ∈ wsX4_backwards := fun _ h9 => List.mem_cons_of_mem _ (List.mem_append_left _ (List.mem_append_right _ h9))
  have hinX2 : ∀ w ∈ u_ws RX2 TX2 17, w ∈ wsX4_backwards := fun _ h9 => List.mem_cons_of_mem _ (List.mem_append_right _ h9)
  unfold fX4_backwards at h
  have hl : lv_has ls 7 [(0, .ref (a 0)), (1, .ref (b 0)), (2, .int p2), (3, .int p3), (4, .int p4)] := hl
  refine lv_aload_n hx hb dX4_backwards_0 rfl (lv_at hl 0 rfl) ?_
  refine lv_aload_n hx hb dX4_backwards_1 rfl (lv_at hl 1 rfl) ?_
  obtain ⟨wa1, kwa1, h⟩ := bd_ex h
  refine aft_w (st1 := []) rfl (runV (As := [.ref (b 0)]) (rest := []) ⟨hx, hb, hml, hown, hts⟩ (kX4_lookAhead l g a b kwa1) (cwV 1 hts gX4_backwards_X4_lookAhead rfl rfl rfl hdX4_lookAhead ⟨Nat.le_of_ble_eq_true rfl, Nat.le_of_ble_eq_true rfl⟩) hK hN hP hD (va_recv hK hP (ci := 4) (q0 := 0) rfl rfl) rfl hl.1 rfl (Nat.le_of_ble_eq_true rfl) dX4_backwards_2 ⟨Nat.zero_le _, Nat.zero_le _⟩) hD hS hA (fun H locs hP hD hS => ?_)
  refine lv_iload hx hb dX4_backwards_5 (lv_at hl 4 rfl) ?_
  refine lv_if_eq (tgt := 25) hx hb dX4_backwards_7 (by decide) (fun c2 => ?_) (fun c2 => ?_)
  · have h := if_t c2 h
    refine lv_iload hx hb dX4_backwards_25 (lv_at hl 4 rfl) ?_
    refine lv_if_eq (tgt := 34) hx hb dX4_backwards_27 (by decide) (fun c3 => ?_) (fun c3 => ?_)
    · have h := if_t c3 h
      refine lv_iconst (v := 0) hx hb dX4_backwards_34 (by decide) ?_
      refine lv_istore (lv' := [(5, .int (0 : Int32)), (0, .ref (a 0)), (1, .ref (b 0)), (2, .int p2), (3, .int p3), (4, .int p4)]) hx hb dX4_backwards_35 hl (by decide) rfl (fun ls hl => ?_)
      refine lv_aload_n hx hb dX4_backwards_37 rfl (lv_at hl 1 rfl) ?_
      refine lv_aload_n hx hb dX4_backwards_38 rfl (lv_at hl 2 rfl) ?_
      refine lv_iload_n hx hb dX4_backwards_39 rfl (lv_at hl 4 rfl) ?_
      obtain ⟨wa4, kwa4, h⟩ := bd_ex h
      refine aft_w (st1 := []) rfl (runV (As := [.ref (b 0), .int p3]) (rest := []) ⟨hx, hb, hml, hown, hts⟩ (kX4_startAtEnd l g a b kwa4) (cwV 2 hts gX4_backwards_X4_startAtEnd rfl rfl rfl hdX4_startAtEnd ⟨Nat.le_of_ble_eq_true rfl, Nat.le_of_ble_eq_true rfl⟩) hK hN hP hD (va_recv hK hP (ci := 4) (q0 := 0) rfl rfl) rfl hl.1 rfl (Nat.le_of_ble_eq_true rfl) dX4_backwards_40 ⟨Nat.zero_le _, Nat.zero_le _⟩) hD hS hA (fun H locs hP hD hS => ?_)
      refine lv_iconst (v := 0) hx hb dX4_backwards_43 (by decide) ?_
      refine lv_istore (lv' := [(6, .int (0 : Int32)), (5, .int (0 : Int32)), (0, .ref (a 0)), (1, .ref (b 0)), (2, .int p2), (3, .int p3), (4, .int p4)]) hx hb dX4_backwards_44 hl (by decide) rfl (fun ls hl => ?_)
      have L46 : ∀ (n : Nat) (v5_5 : Int32) (v6_6 : Int32) (wa7 : Wa) (H : Heap) (locs : List Loc) (ls : Array Slot), fX4_backwards_L46 st p2 p3 n v5_5 v6_6 wa7 = some (res, wa') → va_P g.1 vwCl (cWa g a wa7 ++ (cSt g b st)) H → va_D A (cWa g a wa7 ++ (cSt g b st)) → va_S A su.heap H locs → lv_has ls 7 [(0, .ref (a 0)), (1, .ref (b 0)), (2, .int p2), (3, .int p3), (5, .int v5_5), (6, .int v6_6)] → W p l e rX4_backwards su m args below meth c H locs 0 0 Q (F0 m 46 ls []) := by
        intro n
        induction n with
        | zero => intro v5_5 v6_6 wa7 H locs ls h hP hD hS hl; cases h
        | succ n ih =>
          intro v5_5 v6_6 wa7 H locs ls h hP hD hS hl
          rw [fX4_backwards_L46] at h
          refine lv_iload hx hb dX4_backwards_46 (lv_at hl 5 rfl) ?_
          refine lv_sipush (v := 769) hx hb dX4_backwards_48 (by decide) ?_
          refine lv_icmp_gt (tgt := 91) hx hb dX4_backwards_51 (by decide) (fun c8 => ?_) (fun c8 => ?_)
          · have h := if_t c8 h
            refine lv_iconst (v := -1) hx hb dX4_backwards_91 (by decide) ?_
            cases some_i h
            exact hend _ _ _ _ _ hP hD hS (RetOK.i dX4_backwards_92)
          · have h := if_f c8 h
            refine lv_aload_n hx hb dX4_backwards_54 rfl (lv_at hl 0 rfl) ?_
            refine va_get (D := g.1) (ci := 4) (v := .ref (a 3)) (C := RX4) (T := TX4) (N := 4) hx hb hts hinX4 hown hK hP 0 rfl rfl 2 (by decide) (hts (.fieldLink RX4 18 "BarredRungs$Ways" "layer" "[I") (List.mem_of_getElem? (i := 2) rfl)) (fun _ h9 => h9) rfl dX4_backwards_55 ?_
            refine lv_iload hx hb dX4_backwards_58 (lv_at hl 4 rfl) ?_
            obtain ⟨hi9, h⟩ := ck_ex h
            refine va_iald hx hb hK hP 3 0 rfl rfl (inb_in hi9) dX4_backwards_60 ?_
            refine lv_iload_n hx hb dX4_backwards_61 rfl (lv_at hl 2 rfl) ?_
            obtain ⟨r9, kr9, h⟩ := bd_ex h
            refine aft_e (st1 := [.int r9]) rfl (runSN (As := [.int (Wa_layer wa7 v5_5.toNatClampNeg), .int p2]) (rest := []) ⟨hx, hb, hml, hown, hts⟩ (kX5_has l g kr9) ⟨va_cnB 2 hts gX4_backwards_X5_has_n34 rfl rfl rfl (hN _ (List.mem_of_getElem? (i := 6) rfl)) (hts (.initialized RX5) (List.mem_of_getElem? (i := 27) rfl)) hdX5_has.2 ⟨Nat.le_of_ble_eq_true rfl, Nat.le_of_ble_eq_true rfl⟩, (hts (.static yX5_has) (List.mem_of_getElem? (i := 26) rfl)), trivial⟩ hK hN nilP (nilD (A := A)) rfl hl.1 rfl (Nat.le_of_ble_eq_true rfl) dX4_backwards_62 ⟨Nat.zero_le _, Nat.zero_le _⟩) hP hS hA (fun H locs hP hS => ?_)
            refine lv_if_eq (tgt := 74) hx hb dX4_backwards_65 (by decide) (fun c10 => ?_) (fun c10 => ?_)
            · have h := if_t c10 h
              refine lv_aload_n hx hb dX4_backwards_74 rfl (lv_at hl 0 rfl) ?_
              refine lv_aload_n hx hb dX4_backwards_75 rfl (lv_at hl 1 rfl) ?_
              refine lv_iload_n hx hb dX4_backwards_76 rfl (lv_at hl 3 rfl) ?_
              obtain ⟨r11, wa12, kr11, h⟩ := bd2_ex h
              refine aft_w (st1 := [.int r11]) rfl (runV (As := [.ref (b 0), .int p3]) (rest := []) ⟨hx, hb, hml, hown, hts⟩ (kX4_stepBack l g a b kr11) (cwV 2 hts gX4_backwards_X4_stepBack rfl rfl rfl hdX4_stepBack ⟨Nat.le_of_ble_eq_true rfl, Nat.le_of_ble_eq_true rfl⟩) hK hN hP hD (va_recv hK hP (ci := 4) (q0 := 0) rfl rfl) rfl hl.1 rfl (Nat.le_of_ble_eq_true rfl) dX4_backwards_77 ⟨Nat.zero_le _, Nat.zero_le _⟩) hD hS hA (fun H locs hP hD hS => ?_)
              refine lv_if_ne (tgt := 85) hx hb dX4_backwards_80 (by decide) (fun c13 => ?_) (fun c13 => ?_)
              · have h := if_f c13 h
                obtain ⟨x14, ex14, h⟩ := pl_ex h
                refine lv_iinc (v := x14) (lv' := [(6, .int x14), (0, .ref (a 0)), (1, .ref (b 0)), (2, .int p2), (3, .int p3), (5, .int v5_5)]) hx hb dX4_backwards_85 hl (k := 5) rfl (by rw [← ex14]; rfl) (by decide) rfl (fun ls hl => ?_)
                refine lv_goto (tgt := 46) hx hb dX4_backwards_88 (by decide) ?_
                exact ih v5_5 x14 wa12 _ _ _ h hP hD hS (lv_sub hl [1, 2, 3, 4, 5, 0] rfl)
              · have h := if_t c13 h
                refine lv_iconst (v := -1) hx hb dX4_backwards_83 (by decide) ?_
                cases some_i h
                exact hend _ _ _ _ _ hP hD hS (RetOK.i dX4_backwards_84)
            · have h := if_f c10 h
              refine lv_iload hx hb dX4_backwards_68 (lv_at hl 5 rfl) ?_
              refine lv_iload hx hb dX4_backwards_70 (lv_at hl 4 rfl) ?_
              refine lv_iadd hx hb dX4_backwards_72 ?_
              cases some_i h
              exact hend _ _ _ _ _ hP hD hS (RetOK.i dX4_backwards_73)
      exact L46 1000 (0 : Int32) (0 : Int32) wa4 _ _ _ h hP hD hS (lv_sub hl [2, 3, 4, 5, 1, 0] rfl)
    · have h := if_f c3 h
      refine lv_iconst (v := 1) hx hb dX4_backwards_30 (by decide) ?_
      refine lv_goto (tgt := 35) hx hb dX4_backwards_31 (by decide) ?_
      refine lv_istore (lv' := [(5, .int (1 : Int32)), (0, .ref (a 0)), (1, .ref (b 0)), (2, .int p2), (3, .int p3), (4, .int p4)]) hx hb dX4_backwards_35 hl (by decide) rfl (fun ls hl => ?_)
      refine lv_aload_n hx hb dX4_backwards_37 rfl (lv_at hl 1 rfl) ?_
      refine lv_aload_n hx hb dX4_backwards_38 rfl (lv_at hl 2 rfl) ?_
      refine lv_iload_n hx hb dX4_backwards_39 rfl (lv_at hl 4 rfl) ?_
      obtain ⟨wa15, kwa15, h⟩ := bd_ex h
      refine aft_w (st1 := []) rfl (runV (As := [.ref (b 0), .int p3]) (rest := []) ⟨hx, hb, hml, hown, hts⟩ (kX4_startAtEnd l g a b kwa15) (cwV 2 hts gX4_backwards_X4_startAtEnd rfl rfl rfl hdX4_startAtEnd ⟨Nat.le_of_ble_eq_true rfl, Nat.le_of_ble_eq_true rfl⟩) hK hN hP hD (va_recv hK hP (ci := 4) (q0 := 0) rfl rfl) rfl hl.1 rfl (Nat.le_of_ble_eq_true rfl) dX4_backwards_40 ⟨Nat.zero_le _, Nat.zero_le _⟩) hD hS hA (fun H locs hP hD hS => ?_)
      refine lv_iconst (v := 0) hx hb dX4_backwards_43 (by decide) ?_
      refine lv_istore (lv' := [(6, .int (0 : Int32)), (5, .int (1 : Int32)), (0, .ref (a 0)), (1, .ref (b 0)), (2, .int p2), (3, .int p3), (4, .int p4)]) hx hb dX4_backwards_44 hl (by decide) rfl (fun ls hl => ?_)
      have L46 : ∀ (n : Nat) (v5_16 : Int32) (v6_17 : Int32) (wa18 : Wa) (H : Heap) (locs : List Loc) (ls : Array Slot), fX4_backwards_L46 st p2 p3 n v5_16 v6_17 wa18 = some (res, wa') → va_P g.1 vwCl (cWa g a wa18 ++ (cSt g b st)) H → va_D A (cWa g a wa18 ++ (cSt g b st)) → va_S A su.heap H locs → lv_has ls 7 [(0, .ref (a 0)), (1, .ref (b 0)), (2, .int p2), (3, .int p3), (5, .int v5_16), (6, .int v6_17)] → W p l e rX4_backwards su m args below meth c H locs 0 0 Q (F0 m 46 ls []) := by
        intro n
        induction n with
        | zero => intro v5_16 v6_17 wa18 H locs ls h hP hD hS hl; cases h
        | succ n ih =>
          intro v5_16 v6_17 wa18 H locs ls h hP hD hS hl
          rw [fX4_backwards_L46] at h
          refine lv_iload hx hb dX4_backwards_46 (lv_at hl 5 rfl) ?_
          refine lv_sipush (v := 769) hx hb dX4_backwards_48 (by decide) ?_
          refine lv_icmp_gt (tgt := 91) hx hb dX4_backwards_51 (by decide) (fun c19 => ?_) (fun c19 => ?_)
          · have h := if_t c19 h
            refine lv_iconst (v := -1) hx hb dX4_backwards_91 (by decide) ?_
            cases some_i h
            exact hend _ _ _ _ _ hP hD hS (RetOK.i dX4_backwards_92)
          · have h := if_f c19 h
            refine lv_aload_n hx hb dX4_backwards_54 rfl (lv_at hl 0 rfl) ?_
            refine va_get (D := g.1) (ci := 4) (v := .ref (a 3)) (C := RX4) (T := TX4) (N := 4) hx hb hts hinX4 hown hK hP 0 rfl rfl 2 (by decide) (hts (.fieldLink RX4 18 "BarredRungs$Ways" "layer" "[I") (List.mem_of_getElem? (i := 2) rfl)) (fun _ h9 => h9) rfl dX4_backwards_55 ?_
            refine lv_iload hx hb dX4_backwards_58 (lv_at hl 4 rfl) ?_
            obtain ⟨hi9, h⟩ := ck_ex h
            refine va_iald hx hb hK hP 3 0 rfl rfl (inb_in hi9) dX4_backwards_60 ?_
            refine lv_iload_n hx hb dX4_backwards_61 rfl (lv_at hl 2 rfl) ?_
            obtain ⟨r20, kr20, h⟩ := bd_ex h
            refine aft_e (st1 := [.int r20]) rfl (runSN (As := [.int (Wa_layer wa18 v5_16.toNatClampNeg), .int p2]) (rest := []) ⟨hx, hb, hml, hown, hts⟩ (kX5_has l g kr20) ⟨va_cnB 2 hts gX4_backwards_X5_has_n34 rfl rfl rfl (hN _ (List.mem_of_getElem? (i := 6) rfl)) (hts (.initialized RX5) (List.mem_of_getElem? (i := 27) rfl)) hdX5_has.2 ⟨Nat.le_of_ble_eq_true rfl, Nat.le_of_ble_eq_true rfl⟩, (hts (.static yX5_has) (List.mem_of_getElem? (i := 26) rfl)), trivial⟩ hK hN nilP (nilD (A := A)) rfl hl.1 rfl (Nat.le_of_ble_eq_true rfl) dX4_backwards_62 ⟨Nat.zero_le _, Nat.zero_le _⟩) hP hS hA (fun H locs hP hS => ?_)
            refine lv_if_eq (tgt := 74) hx hb dX4_backwards_65 (by decide) (fun c21 => ?_) (fun c21 => ?_)
            · have h := if_t c21 h
              refine lv_aload_n hx hb dX4_backwards_74 rfl (lv_at hl 0 rfl) ?_
              refine lv_aload_n hx hb dX4_backwards_75 rfl (lv_at hl 1 rfl) ?_
              refine lv_iload_n hx hb dX4_backwards_76 rfl (lv_at hl 3 rfl) ?_
              obtain ⟨r22, wa23, kr22, h⟩ := bd2_ex h
              refine aft_w (st1 := [.int r22]) rfl (runV (As := [.ref (b 0), .int p3]) (rest := []) ⟨hx, hb, hml, hown, hts⟩ (kX4_stepBack l g a b kr22) (cwV 2 hts gX4_backwards_X4_stepBack rfl rfl rfl hdX4_stepBack ⟨Nat.le_of_ble_eq_true rfl, Nat.le_of_ble_eq_true rfl⟩) hK hN hP hD (va_recv hK hP (ci := 4) (q0 := 0) rfl rfl) rfl hl.1 rfl (Nat.le_of_ble_eq_true rfl) dX4_backwards_77 ⟨Nat.zero_le _, Nat.zero_le _⟩) hD hS hA (fun H locs hP hD hS => ?_)
              refine lv_if_ne (tgt := 85) hx hb dX4_backwards_80 (by decide) (fun c24 => ?_) (fun c24 => ?_)
              · have h := if_f c24 h
                obtain ⟨x25, ex25, h⟩ := pl_ex h
                refine lv_iinc (v := x25) (lv' := [(6, .int x25), (0, .ref (a 0)), (1, .ref (b 0)), (2, .int p2), (3, .int p3), (5, .int v5_16)]) hx hb dX4_backwards_85 hl (k := 5) rfl (by rw [← ex25]; rfl) (by decide) rfl (fun ls hl => ?_)
                refine lv_goto (tgt := 46) hx hb dX4_backwards_88 (by decide) ?_
                exact ih v5_16 x25 wa23 _ _ _ h hP hD hS (lv_sub hl [1, 2, 3, 4, 5, 0] rfl)
              · have h := if_t c24 h
                refine lv_iconst (v := -1) hx hb dX4_backwards_83 (by decide) ?_
                cases some_i h
                exact hend _ _ _ _ _ hP hD hS (RetOK.i dX4_backwards_84)
            · have h := if_f c21 h
              refine lv_iload hx hb dX4_backwards_68 (lv_at hl 5 rfl) ?_
              refine lv_iload hx hb dX4_backwards_70 (lv_at hl 4 rfl) ?_
              refine lv_iadd hx hb dX4_backwards_72 ?_
              cases some_i h
              exact hend _ _ _ _ _ hP hD hS (RetOK.i dX4_backwards_73)
      exact L46 1000 (1 : Int32) (0 : Int32) wa15 _ _ _ h hP hD hS (lv_sub hl [2, 3, 4, 5, 1, 0] rfl)
  · have h := if_f c2 h
    refine lv_aload_n hx hb dX4_backwards_10 rfl (lv_at hl 0 rfl) ?_
    refine va_get (D := g.1) (ci := 4) (v := .ref (a 1)) (C := RX4) (T := TX4) (N := 4) hx hb hts hinX4 hown hK hP 0 rfl rfl 0 (by decide) (hts (.fieldLink RX4 9 "BarredRungs$Ways" "barred" "[I") (List.mem_of_getElem? (i := 1) rfl)) (fun _ h9 => h9) rfl dX4_backwards_11 ?_
    refine lv_iconst (v := 1) hx hb dX4_backwards_14 (by decide) ?_
    obtain ⟨hi9, h⟩ := ck_ex h
    refine va_iald hx hb hK hP 1 0 rfl rfl (inb_in hi9) dX4_backwards_15 ?_
    refine lv_iload_n hx hb dX4_backwards_16 rfl (lv_at hl 2 rfl) ?_
    obtain ⟨r26, kr26, h⟩ := bd_ex h
    refine aft_e (st1 := [.int r26]) rfl (runSN (As := [.int (Wa_barred wa1 (1 : Int32).toNatClampNeg), .int p2]) (rest := []) ⟨hx, hb, hml, hown, hts⟩ (kX5_has l g kr26) ⟨va_cnB 2 hts gX4_backwards_X5_has_n34 rfl rfl rfl (hN _ (List.mem_of_getElem? (i := 6) rfl)) (hts (.initialized RX5) (List.mem_of_getElem? (i := 27) rfl)) hdX5_has.2 ⟨Nat.le_of_ble_eq_true rfl, Nat.le_of_ble_eq_true rfl⟩, (hts (.static yX5_has) (List.mem_of_getElem? (i := 26) rfl)), trivial⟩ hK hN nilP (nilD (A := A)) rfl hl.1 rfl (Nat.le_of_ble_eq_true rfl) dX4_backwards_17 ⟨Nat.zero_le _, Nat.zero_le _⟩) hP hS hA (fun H locs hP hS => ?_)
    refine lv_if_eq (tgt := 25) hx hb dX4_backwards_20 (by decide) (fun c27 => ?_) (fun c27 => ?_)
    · have h := if_t c27 h
      refine lv_iload hx hb dX4_backwards_25 (lv_at hl 4 rfl) ?_
      refine lv_if_eq (tgt := 34) hx hb dX4_backwards_27 (by decide) (fun c28 => ?_) (fun c28 => ?_)
      · have h := if_t c28 h
        refine lv_iconst (v := 0) hx hb dX4_backwards_34 (by decide) ?_
        refine lv_istore (lv' := [(5, .int (0 : Int32)), (0, .ref (a 0)), (1, .ref (b 0)), (2, .int p2), (3, .int p3), (4, .int p4)]) hx hb dX4_backwards_35 hl (by decide) rfl (fun ls hl => ?_)
        refine lv_aload_n hx hb dX4_backwards_37 rfl (lv_at hl 1 rfl) ?_
        refine lv_aload_n hx hb dX4_backwards_38 rfl (lv_at hl 2 rfl) ?_
        refine lv_iload_n hx hb dX4_backwards_39 rfl (lv_at hl 4 rfl) ?_
        obtain ⟨wa29, kwa29, h⟩ := bd_ex h
        refine aft_w (st1 := []) rfl (runV (As := [.ref (b 0), .int p3]) (rest := []) ⟨hx, hb, hml, hown, hts⟩ (kX4_startAtEnd l g a b kwa29) (cwV 2 hts gX4_backwards_X4_startAtEnd rfl rfl rfl hdX4_startAtEnd ⟨Nat.le_of_ble_eq_true rfl, Nat.le_of_ble_eq_true rfl⟩) hK hN hP hD (va_recv hK hP (ci := 4) (q0 := 0) rfl rfl) rfl hl.1 rfl (Nat.le_of_ble_eq_true rfl) dX4_backwards_40 ⟨Nat.zero_le _, Nat.zero_le _⟩) hD hS hA (fun H locs hP hD hS => ?_)
        refine lv_iconst (v := 0) hx hb dX4_backwards_43 (by decide) ?_
        refine lv_istore (lv' := [(6, .int (0 : Int32)), (5, .int (0 : Int32)), (0, .ref (a 0)), (1, .ref (b 0)), (2, .int p2), (3, .int p3), (4, .int p4)]) hx hb dX4_backwards_44 hl (by decide) rfl (fun ls hl => ?_)
        have L46 : ∀ (n : Nat) (v5_30 : Int32) (v6_31 : Int32) (wa32 : Wa) (H : Heap) (locs : List Loc) (ls : Array Slot), fX4_backwards_L46 st p2 p3 n v5_30 v6_31 wa32 = some (res, wa') → va_P g.1 vwCl (cWa g a wa32 ++ (cSt g b st)) H → va_D A (cWa g a wa32 ++ (cSt g b st)) → va_S A su.heap H locs → lv_has ls 7 [(0, .ref (a 0)), (1, .ref (b 0)), (2, .int p2), (3, .int p3), (5, .int v5_30), (6, .int v6_31)] → W p l e rX4_backwards su m args below meth c H locs 0 0 Q (F0 m 46 ls []) := by
          intro n
          induction n with
          | zero => intro v5_30 v6_31 wa32 H locs ls h hP hD hS hl; cases h
          | succ n ih =>
            intro v5_30 v6_31 wa32 H locs ls h hP hD hS hl
            rw [fX4_backwards_L46] at h
            refine lv_iload hx hb dX4_backwards_46 (lv_at hl 5 rfl) ?_
            refine lv_sipush (v := 769) hx hb dX4_backwards_48 (by decide) ?_
            refine lv_icmp_gt (tgt := 91) hx hb dX4_backwards_51 (by decide) (fun c33 => ?_) (fun c33 => ?_)
            · have h := if_t c33 h
              refine lv_iconst (v := -1) hx hb dX4_backwards_91 (by decide) ?_
              cases some_i h
              exact hend _ _ _ _ _ hP hD hS (RetOK.i dX4_backwards_92)
            · have h := if_f c33 h
              refine lv_aload_n hx hb dX4_backwards_54 rfl (lv_at hl 0 rfl) ?_
              refine va_get (D := g.1) (ci := 4) (v := .ref (a 3)) (C := RX4) (T := TX4) (N := 4) hx hb hts hinX4 hown hK hP 0 rfl rfl 2 (by decide) (hts (.fieldLink RX4 18 "BarredRungs$Ways" "layer" "[I") (List.mem_of_getElem? (i := 2) rfl)) (fun _ h9 => h9) rfl dX4_backwards_55 ?_
              refine lv_iload hx hb dX4_backwards_58 (lv_at hl 4 rfl) ?_
              obtain ⟨hi9, h⟩ := ck_ex h
              refine va_iald hx hb hK hP 3 0 rfl rfl (inb_in hi9) dX4_backwards_60 ?_
              refine lv_iload_n hx hb dX4_backwards_61 rfl (lv_at hl 2 rfl) ?_
              obtain ⟨r34, kr34, h⟩ := bd_ex h
              refine aft_e (st1 := [.int r34]) rfl (runSN (As := [.int (Wa_layer wa32 v5_30.toNatClampNeg), .int p2]) (rest := []) ⟨hx, hb, hml, hown, hts⟩ (kX5_has l g kr34) ⟨va_cnB 2 hts gX4_backwards_X5_has_n34 rfl rfl rfl (hN _ (List.mem_of_getElem? (i := 6) rfl)) (hts (.initialized RX5) (List.mem_of_getElem? (i := 27) rfl)) hdX5_has.2 ⟨Nat.le_of_ble_eq_true rfl, Nat.le_of_ble_eq_true rfl⟩, (hts (.static yX5_has) (List.mem_of_getElem? (i := 26) rfl)), trivial⟩ hK hN nilP (nilD (A := A)) rfl hl.1 rfl (Nat.le_of_ble_eq_true rfl) dX4_backwards_62 ⟨Nat.zero_le _, Nat.zero_le _⟩) hP hS hA (fun H locs hP hS => ?_)
              refine lv_if_eq (tgt := 74) hx hb dX4_backwards_65 (by decide) (fun c35 => ?_) (fun c35 => ?_)
              · have h := if_t c35 h
                refine lv_aload_n hx hb dX4_backwards_74 rfl (lv_at hl 0 rfl) ?_
                refine lv_aload_n hx hb dX4_backwards_75 rfl (lv_at hl 1 rfl) ?_
                refine lv_iload_n hx hb dX4_backwards_76 rfl (lv_at hl 3 rfl) ?_
                obtain ⟨r36, wa37, kr36, h⟩ := bd2_ex h
                refine aft_w (st1 := [.int r36]) rfl (runV (As := [.ref (b 0), .int p3]) (rest := []) ⟨hx, hb, hml, hown, hts⟩ (kX4_stepBack l g a b kr36) (cwV 2 hts gX4_backwards_X4_stepBack rfl rfl rfl hdX4_stepBack ⟨Nat.le_of_ble_eq_true rfl, Nat.le_of_ble_eq_true rfl⟩) hK hN hP hD (va_recv hK hP (ci := 4) (q0 := 0) rfl rfl) rfl hl.1 rfl (Nat.le_of_ble_eq_true rfl) dX4_backwards_77 ⟨Nat.zero_le _, Nat.zero_le _⟩) hD hS hA (fun H locs hP hD hS => ?_)
                refine lv_if_ne (tgt := 85) hx hb dX4_backwards_80 (by decide) (fun c38 => ?_) (fun c38 => ?_)
                · have h := if_f c38 h
                  obtain ⟨x39, ex39, h⟩ := pl_ex h
                  refine lv_iinc (v := x39) (lv' := [(6, .int x39), (0, .ref (a 0)), (1, .ref (b 0)), (2, .int p2), (3, .int p3), (5, .int v5_30)]) hx hb dX4_backwards_85 hl (k := 5) rfl (by rw [← ex39]; rfl) (by decide) rfl (fun ls hl => ?_)
                  refine lv_goto (tgt := 46) hx hb dX4_backwards_88 (by decide) ?_
                  exact ih v5_30 x39 wa37 _ _ _ h hP hD hS (lv_sub hl [1, 2, 3, 4, 5, 0] rfl)
                · have h := if_t c38 h
                  refine lv_iconst (v := -1) hx hb dX4_backwards_83 (by decide) ?_
                  cases some_i h
                  exact hend _ _ _ _ _ hP hD hS (RetOK.i dX4_backwards_84)
              · have h := if_f c35 h
                refine lv_iload hx hb dX4_backwards_68 (lv_at hl 5 rfl) ?_
                refine lv_iload hx hb dX4_backwards_70 (lv_at hl 4 rfl) ?_
                refine lv_iadd hx hb dX4_backwards_72 ?_
                cases some_i h
                exact hend _ _ _ _ _ hP hD hS (RetOK.i dX4_backwards_73)
        exact L46 1000 (0 : Int32) (0 : Int32) wa29 _ _ _ h hP hD hS (lv_sub hl [2, 3, 4, 5, 1, 0] rfl)
      · have h := if_f c28 h
        refine lv_iconst (v := 1) hx hb dX4_backwards_30 (by decide) ?_
        refine lv_goto (tgt := 35) hx hb dX4_backwards_31 (by decide) ?_
        refine lv_istore (lv' := [(5, .int (1 : Int32)), (0, .ref (a 0)), (1, .ref (b 0)), (2, .int p2), (3, .int p3), (4, .int p4)]) hx hb dX4_backwards_35 hl (by decide) rfl (fun ls hl => ?_)
        refine lv_aload_n hx hb dX4_backwards_37 rfl (lv_at hl 1 rfl) ?_
        refine lv_aload_n hx hb dX4_backwards_38 rfl (lv_at hl 2 rfl) ?_
        refine lv_iload_n hx hb dX4_backwards_39 rfl (lv_at hl 4 rfl) ?_
        obtain ⟨wa40, kwa40, h⟩ := bd_ex h
        refine aft_w (st1 := []) rfl (runV (As := [.ref (b 0), .int p3]) (rest := []) ⟨hx, hb, hml, hown, hts⟩ (kX4_startAtEnd l g a b kwa40) (cwV 2 hts gX4_backwards_X4_startAtEnd rfl rfl rfl hdX4_startAtEnd ⟨Nat.le_of_ble_eq_true rfl, Nat.le_of_ble_eq_true rfl⟩) hK hN hP hD (va_recv hK hP (ci := 4) (q0 := 0) rfl rfl) rfl hl.1 rfl (Nat.le_of_ble_eq_true rfl) dX4_backwards_40 ⟨Nat.zero_le _, Nat.zero_le _⟩) hD hS hA (fun H locs hP hD hS => ?_)
        refine lv_iconst (v := 0) hx hb dX4_backwards_43 (by decide) ?_
        refine lv_istore (lv' := [(6, .int (0 : Int32)), (5, .int (1 : Int32)), (0, .ref (a 0)), (1, .ref (b 0)), (2, .int p2), (3, .int p3), (4, .int p4)]) hx hb dX4_backwards_44 hl (by decide) rfl (fun ls hl => ?_)
        have L46 : ∀ (n : Nat) (v5_41 : Int32) (v6_42 : Int32) (wa43 : Wa) (H : Heap) (locs : List Loc) (ls : Array Slot), fX4_backwards_L46 st p2 p3 n v5_41 v6_42 wa43 = some (res, wa') → va_P g.1 vwCl (cWa g a wa43 ++ (cSt g b st)) H → va_D A (cWa g a wa43 ++ (cSt g b st)) → va_S A su.heap H locs → lv_has ls 7 [(0, .ref (a 0)), (1, .ref (b 0)), (2, .int p2), (3, .int p3), (5, .int v5_41), (6, .int v6_42)] → W p l e rX4_backwards su m args below meth c H locs 0 0 Q (F0 m 46 ls []) := by
          intro n
          induction n with
          | zero => intro v5_41 v6_42 wa43 H locs ls h hP hD hS hl; cases h
          | succ n ih =>
            intro v5_41 v6_42 wa43 H locs ls h hP hD hS hl
            rw [fX4_backwards_L46] at h
            refine lv_iload hx hb dX4_backwards_46 (lv_at hl 5 rfl) ?_
            refine lv_sipush (v := 769) hx hb dX4_backwards_48 (by decide) ?_
            refine lv_icmp_gt (tgt := 91) hx hb dX4_backwards_51 (by decide) (fun c44 => ?_) (fun c44 => ?_)
            · have h := if_t c44 h
              refine lv_iconst (v := -1) hx hb dX4_backwards_91 (by decide) ?_
              cases some_i h
              exact hend _ _ _ _ _ hP hD hS (RetOK.i dX4_backwards_92)
            · have h := if_f c44 h
              refine lv_aload_n hx hb dX4_backwards_54 rfl (lv_at hl 0 rfl) ?_
              refine va_get (D := g.1) (ci := 4) (v := .ref (a 3)) (C := RX4) (T := TX4) (N := 4) hx hb hts hinX4 hown hK hP 0 rfl rfl 2 (by decide) (hts (.fieldLink RX4 18 "BarredRungs$Ways" "layer" "[I") (List.mem_of_getElem? (i := 2) rfl)) (fun _ h9 => h9) rfl dX4_backwards_55 ?_
              refine lv_iload hx hb dX4_backwards_58 (lv_at hl 4 rfl) ?_
              obtain ⟨hi9, h⟩ := ck_ex h
              refine va_iald hx hb hK hP 3 0 rfl rfl (inb_in hi9) dX4_backwards_60 ?_
              refine lv_iload_n hx hb dX4_backwards_61 rfl (lv_at hl 2 rfl) ?_
              obtain ⟨r45, kr45, h⟩ := bd_ex h
              refine aft_e (st1 := [.int r45]) rfl (runSN (As := [.int (Wa_layer wa43 v5_41.toNatClampNeg), .int p2]) (rest := []) ⟨hx, hb, hml, hown, hts⟩ (kX5_has l g kr45) ⟨va_cnB 2 hts gX4_backwards_X5_has_n34 rfl rfl rfl (hN _ (List.mem_of_getElem? (i := 6) rfl)) (hts (.initialized RX5) (List.mem_of_getElem? (i := 27) rfl)) hdX5_has.2 ⟨Nat.le_of_ble_eq_true rfl, Nat.le_of_ble_eq_true rfl⟩, (hts (.static yX5_has) (List.mem_of_getElem? (i := 26) rfl)), trivial⟩ hK hN nilP (nilD (A := A)) rfl hl.1 rfl (Nat.le_of_ble_eq_true rfl) dX4_backwards_62 ⟨Nat.zero_le _, Nat.zero_le _⟩) hP hS hA (fun H locs hP hS => ?_)
              refine lv_if_eq (tgt := 74) hx hb dX4_backwards_65 (by decide) (fun c46 => ?_) (fun c46 => ?_)
              · have h := if_t c46 h
                refine lv_aload_n hx hb dX4_backwards_74 rfl (lv_at hl 0 rfl) ?_
                refine lv_aload_n hx hb dX4_backwards_75 rfl (lv_at hl 1 rfl) ?_
                refine lv_iload_n hx hb dX4_backwards_76 rfl (lv_at hl 3 rfl) ?_
                obtain ⟨r47, wa48, kr47, h⟩ := bd2_ex h
                refine aft_w (st1 := [.int r47]) rfl (runV (As := [.ref (b 0), .int p3]) (rest := []) ⟨hx, hb, hml, hown, hts⟩ (kX4_stepBack l g a b kr47) (cwV 2 hts gX4_backwards_X4_stepBack rfl rfl rfl hdX4_stepBack ⟨Nat.le_of_ble_eq_true rfl, Nat.le_of_ble_eq_true rfl⟩) hK hN hP hD (va_recv hK hP (ci := 4) (q0 := 0) rfl rfl) rfl hl.1 rfl (Nat.le_of_ble_eq_true rfl) dX4_backwards_77 ⟨Nat.zero_le _, Nat.zero_le _⟩) hD hS hA (fun H locs hP hD hS => ?_)
                refine lv_if_ne (tgt := 85) hx hb dX4_backwards_80 (by decide) (fun c49 => ?_) (fun c49 => ?_)
                · have h := if_f c49 h
                  obtain ⟨x50, ex50, h⟩ := pl_ex h
                  refine lv_iinc (v := x50) (lv' := [(6, .int x50), (0, .ref (a 0)), (1, .ref (b 0)), (2, .int p2), (3, .int p3), (5, .int v5_41)]) hx hb dX4_backwards_85 hl (k := 5) rfl (by rw [← ex50]; rfl) (by decide) rfl (fun ls hl => ?_)
                  refine lv_goto (tgt := 46) hx hb dX4_backwards_88 (by decide) ?_
                  exact ih v5_41 x50 wa48 _ _ _ h hP hD hS (lv_sub hl [1, 2, 3, 4, 5, 0] rfl)
                · have h := if_t c49 h
                  refine lv_iconst (v := -1) hx hb dX4_backwards_83 (by decide) ?_
                  cases some_i h
                  exact hend _ _ _ _ _ hP hD hS (RetOK.i dX4_backwards_84)
              · have h := if_f c46 h
                refine lv_iload hx hb dX4_backwards_68 (lv_at hl 5 rfl) ?_
                refine lv_iload hx hb dX4_backwards_70 (lv_at hl 4 rfl) ?_
                refine lv_iadd hx hb dX4_backwards_72 ?_
                cases some_i h
                exact hend _ _ _ _ _ hP hD hS (RetOK.i dX4_backwards_73)
        exact L46 1000 (1 : Int32) (0 : Int32) wa40 _ _ _ h hP hD hS (lv_sub hl [2, 3, 4, 5, 1, 0] rfl)
    · have h := if_f c27 h
      refine lv_iconst (v := -1) hx hb dX4_backwards_23 (by decide) ?_
      cases some_i h
      exact hend _ _ _ _ _ hP hD hS (RetOK.i dX4_backwards_24)
def fX4_byLinksAlone_L12 (st : St) (p3 : Int32) : Nat → Int32 → Int32 → Int32 → Option (Int32)
  | 0, _, _, _ => none
  | n + 1, v4_2, v5_3, v6_4 =>
    (if (24 : Int32) ≤ v6_4 then
    (some (-1 : Int32))
    else
    (if v4_2 = (0 : Int32) then
    (some (-1 : Int32))
    else
    (bd (fX5_has v4_2 p3) fun (r7 : Int32) =>
    (if r7 = (0 : Int32) then
    (bd (fX2_linksOfAll st v4_2) fun (r9 : Int32) =>
    (pl ((r9 &&& (v5_3 ^^^ (-1 : Int32)))) fun (x10 : Int32) =>
    (pl ((v5_3 ||| x10)) fun (x11 : Int32) =>
    (pl ((v6_4 + (1 : Int32))) fun (x12 : Int32) =>
    (fX4_byLinksAlone_L12 st p3 n x10 x11 x12)))))
    else
    (some v6_4)))))
def fX4_byLinksAlone (wa : Wa) (st : St) (p2 : Int32) (p3 : Int32) : Option (Int32) :=
(pl (((1 : Int32) <<< (p2 &&& 31))) fun (x1 : Int32) =>
(fX4_byLinksAlone_L12 st p3 1000 x1 x1 (0 : Int32)))
abbrev rX4_byLinksAlone : Room := { frames := 2, cells := 0, slots := 0, locals := 44 }
theorem hdX4_byLinksAlone : yX4_byLinksAlone.cls = RX4 ∧ yX4_byLinksAlone.cls ≠ "java/lang/invoke/MethodHandle" ∧ yX4_byLinksAlone.cls ≠ "java/lang/invoke/VarHandle" ∧ (parseMethodDescriptor yX4_byLinksAlone.desc).map (fun d => d.parameters.length) = some 3 := by decide +kernel
set_option maxRecDepth 100000 in
set_option maxHeartbeats 8000000 in
theorem kX4_byLinksAlone (l : Launch) (g : GG) (a b : Nat → Nat) {wa : Wa} {st : St} {p2 : Int32} {p3 : Int32} {res : Int32} (h : fX4_byLinksAlone wa st p2 p3 = some res) : Cg l g yX4_byLinksAlone wsX4_byLinksAlone rX4_byLinksAlone [.ref (a 0), .ref (b 0), .int p2, .int p3] (cWa g a wa ++ (cSt g b st)) (some (.int res)) (cWa g a wa ++ (cSt g b st)) := by
  refine Cg_of (cc := cX4_byLinksAlone) (maxL := 7) (ret := (some .int)) (by decide +kernel) rfl (Nat.le_of_ble_eq_true rfl) ?_
  intro p e su m args below meth c A Q ls hx hb hml hown hts hK hN hA hnm hP hD hS hl hend
  have hinX2 : ∀ w ∈ u_ws RX2 TX2 17, w ∈ wsX4_byLinksAlone := fun _ h9 => List.mem_cons_of_mem _ (List.mem_append_right _ h9)
  unfold fX4_byLinksAlone at h
  have hl : lv_has ls 7 [(0, .ref (a 0)), (1, .ref (b 0)), (2, .int p2), (3, .int p3)] := hl
  refine lv_iconst (v := 1) hx hb dX4_byLinksAlone_0 (by decide) ?_
  refine lv_iload_n hx hb dX4_byLinksAlone_1 rfl (lv_at hl 2 rfl) ?_
  refine lv_ishl hx hb dX4_byLinksAlone_2 ?_
  obtain ⟨x1, ex1, h⟩ := pl_ex h
  refine lv_eqi ex1 ?_
  refine lv_istore (lv' := [(4, .int x1), (0, .ref (a 0)), (1, .ref (b 0)), (2, .int p2), (3, .int p3)]) hx hb dX4_byLinksAlone_3 hl (by decide) rfl (fun ls hl => ?_)
  refine lv_iload hx hb dX4_byLinksAlone_5 (lv_at hl 0 rfl) ?_
  refine lv_istore (lv' := [(5, .int x1), (4, .int x1), (0, .ref (a 0)), (1, .ref (b 0)), (2, .int p2), (3, .int p3)]) hx hb dX4_byLinksAlone_7 hl (by decide) rfl (fun ls hl => ?_)
  refine lv_iconst (v := 0) hx hb dX4_byLinksAlone_9 (by decide) ?_
  refine lv_istore (lv' := [(6, .int (0 : Int32)), (5, .int x1), (4, .int x1), (0, .ref (a 0)), (1, .ref (b 0)), (2, .int p2), (3, .int p3)]) hx hb dX4_byLinksAlone_10 hl (by decide) rfl (fun ls hl => ?_)
  have L12 : ∀ (n : Nat) (v4_2 : Int32) (v5_3 : Int32) (v6_4 : Int32) (H : Heap) (locs : List Loc) (ls : Array Slot), fX4_byLinksAlone_L12 st p3 n v4_2 v5_3 v6_4 = some res → va_P g.1 vwCl (cWa g a wa ++ (cSt g b st)) H → va_D A (cWa g a wa ++ (cSt g b st)) → va_S A su.heap H locs → lv_has ls 7 [(1, .ref (b 0)), (3, .int p3), (4, .int v4_2), (5, .int v5_3), (6, .int v6_4)] → W p l e rX4_byLinksAlone su m args below meth c H locs 0 0 Q (F0 m 12 ls []) := by
    intro n
    induction n with
    | zero => intro v4_2 v5_3 v6_4 H locs ls h hP hD hS hl; cases h
    | succ n ih =>
      intro v4_2 v5_3 v6_4 H locs ls h hP hD hS hl
      rw [fX4_byLinksAlone_L12] at h
      refine lv_iload hx hb dX4_byLinksAlone_12 (lv_at hl 4 rfl) ?_
      refine lv_bipush (v := 24) hx hb dX4_byLinksAlone_14 (by decide) ?_
      refine lv_icmp_ge (tgt := 62) hx hb dX4_byLinksAlone_16 (by decide) (fun c5 => ?_) (fun c5 => ?_)
      · have h := if_t c5 h
        refine lv_iconst (v := -1) hx hb dX4_byLinksAlone_62 (by decide) ?_
        cases some_i h
        exact hend _ _ _ _ _ hP hD hS (RetOK.i dX4_byLinksAlone_63)
      · have h := if_f c5 h
        refine lv_iload hx hb dX4_byLinksAlone_19 (lv_at hl 2 rfl) ?_
        refine lv_if_eq (tgt := 62) hx hb dX4_byLinksAlone_21 (by decide) (fun c6 => ?_) (fun c6 => ?_)
        · have h := if_t c6 h
          refine lv_iconst (v := -1) hx hb dX4_byLinksAlone_62 (by decide) ?_
          cases some_i h
          exact hend _ _ _ _ _ hP hD hS (RetOK.i dX4_byLinksAlone_63)
        · have h := if_f c6 h
          refine lv_iload hx hb dX4_byLinksAlone_24 (lv_at hl 2 rfl) ?_
          refine lv_iload_n hx hb dX4_byLinksAlone_26 rfl (lv_at hl 1 rfl) ?_
          obtain ⟨r7, kr7, h⟩ := bd_ex h
          refine aft_e (st1 := [.int r7]) rfl (runSN (As := [.int v4_2, .int p3]) (rest := []) ⟨hx, hb, hml, hown, hts⟩ (kX5_has l g kr7) ⟨va_cnB 2 hts gX4_byLinksAlone_X5_has_n34 rfl rfl rfl (hN _ (List.mem_of_getElem? (i := 6) rfl)) (hts (.initialized RX5) (List.mem_of_getElem? (i := 2) rfl)) hdX5_has.2 ⟨Nat.le_of_ble_eq_true rfl, Nat.le_of_ble_eq_true rfl⟩, (hts (.static yX5_has) (List.mem_of_getElem? (i := 1) rfl)), trivial⟩ hK hN nilP (nilD (A := A)) rfl hl.1 rfl (Nat.le_of_ble_eq_true rfl) dX4_byLinksAlone_27 ⟨Nat.zero_le _, Nat.zero_le _⟩) hP hS hA (fun H locs hP hS => ?_)
          refine lv_if_eq (tgt := 36) hx hb dX4_byLinksAlone_30 (by decide) (fun c8 => ?_) (fun c8 => ?_)
          · have h := if_t c8 h
            refine lv_aload_n hx hb dX4_byLinksAlone_36 rfl (lv_at hl 0 rfl) ?_
            refine lv_iload hx hb dX4_byLinksAlone_37 (lv_at hl 2 rfl) ?_
            obtain ⟨r9, kr9, h⟩ := bd_ex h
            have hP8 : va_P g.1 vwCl ((cWa g a wa) ++ ((cSt g b st) ++ [])) H := hP
            have hD8 : va_D A ((cWa g a wa) ++ ((cSt g b st) ++ [])) := hD
            refine aft_f (st1 := [.int r9]) rfl (cWa g a wa) [] (runV (As := [.int v4_2]) (rest := []) ⟨hx, hb, hml, hown, hts⟩ (kX2_linksOfAll l g b kr9) (cwV 1 hts gX4_byLinksAlone_X2_linksOfAll rfl rfl rfl hdX2_linksOfAll ⟨Nat.le_of_ble_eq_true rfl, Nat.le_of_ble_eq_true rfl⟩) hK hN hP8.right.left hD8.right.left (va_recv hK hP (ci := 2) (q0 := 5) rfl rfl) rfl hl.1 rfl (Nat.le_of_ble_eq_true rfl) dX4_byLinksAlone_39 ⟨Nat.zero_le _, Nat.zero_le _⟩) hP8 hD8 hS hA (fun H locs hP hD hS => ?_)
            have hP : va_P g.1 vwCl (cWa g a wa ++ (cSt g b st)) H := hP
            have hD : va_D A (cWa g a wa ++ (cSt g b st)) := hD
            refine lv_iload hx hb dX4_byLinksAlone_42 (lv_at hl 3 rfl) ?_
            refine lv_iconst (v := -1) hx hb dX4_byLinksAlone_44 (by decide) ?_
            refine lv_ixor hx hb dX4_byLinksAlone_45 ?_
            refine lv_iand hx hb dX4_byLinksAlone_46 ?_
            obtain ⟨x10, ex10, h⟩ := pl_ex h
            refine lv_eqi ex10 ?_
            refine lv_istore (lv' := [(4, .int x10), (1, .ref (b 0)), (3, .int p3), (5, .int v5_3), (6, .int v6_4)]) hx hb dX4_byLinksAlone_47 hl (by decide) rfl (fun ls hl => ?_)
            refine lv_iload hx hb dX4_byLinksAlone_49 (lv_at hl 3 rfl) ?_
            refine lv_iload hx hb dX4_byLinksAlone_51 (lv_at hl 0 rfl) ?_
            refine lv_ior hx hb dX4_byLinksAlone_53 ?_
            obtain ⟨x11, ex11, h⟩ := pl_ex h
            refine lv_eqi ex11 ?_
            refine lv_istore (lv' := [(5, .int x11), (4, .int x10), (1, .ref (b 0)), (3, .int p3), (6, .int v6_4)]) hx hb dX4_byLinksAlone_54 hl (by decide) rfl (fun ls hl => ?_)
            obtain ⟨x12, ex12, h⟩ := pl_ex h
            refine lv_iinc (v := x12) (lv' := [(6, .int x12), (5, .int x11), (4, .int x10), (1, .ref (b 0)), (3, .int p3)]) hx hb dX4_byLinksAlone_56 hl (k := 4) rfl (by rw [← ex12]; rfl) (by decide) rfl (fun ls hl => ?_)
            refine lv_goto (tgt := 12) hx hb dX4_byLinksAlone_59 (by decide) ?_
            exact ih x10 x11 x12 _ _ _ h hP hD hS (lv_sub hl [3, 4, 2, 1, 0] rfl)
          · have h := if_f c8 h
            refine lv_iload hx hb dX4_byLinksAlone_33 (lv_at hl 4 rfl) ?_
            cases some_i h
            exact hend _ _ _ _ _ hP hD hS (RetOK.i dX4_byLinksAlone_35)
  exact L12 1000 x1 x1 (0 : Int32) _ _ _ h hP hD hS (lv_sub hl [4, 6, 2, 1, 0] rfl)
def fX4_onward_L26 (st : St) (p3 : Int32) (p4 : Int32) : Nat → Int32 → Int32 → Wa → Option (Int32 × Wa)
  | 0, _, _, _ => none
  | n + 1, v5_4, v6_5, wa6 =>
    (if (769 : Int32) < v6_5 then
    (some ((-1 : Int32), wa6))
    else
    (if v5_4 = (0 : Int32) then
    (some ((-1 : Int32), wa6))
    else
    (pl ((v6_5 - v6_5 / (32 : Int32) * (32 : Int32))) fun (x9 : Int32) =>
    (if (0 : Int32) < v6_5 then
    (bd (fX2_linksOfAll st v5_4) fun (r11 : Int32) =>
    (ck (inb x9 32)
    (pl ((r11 &&& ((Wa_barred wa6 x9.toNatClampNeg) ^^^ (-1 : Int32)))) fun (x12 : Int32) =>
    (bd (fX5_has x12 p3) fun (r13 : Int32) =>
    (if r13 = (0 : Int32) then
    (pl (((x9 + (1 : Int32)) - (x9 + (1 : Int32)) / (32 : Int32) * (32 : Int32))) fun (x15 : Int32) =>
    (ck (inb x15 32)
    (ck (inb x15 32)
    (pl ((((v5_4 ||| x12) &&& ((Wa_barred wa6 x15.toNatClampNeg) ^^^ (-1 : Int32))) &&& ((Wa_known wa6 x15.toNatClampNeg) ^^^ (-1 : Int32)))) fun (x16 : Int32) =>
    (ck (inb x15 32)
    (ck (inb x15 32)
    (pl (Wa_set_known wa6 (upd (Wa_known wa6) x15.toNatClampNeg ((Wa_known wa6 x15.toNatClampNeg) ||| x16))) fun (wa17 : Wa) =>
    (pl ((v6_5 + (1 : Int32))) fun (x18 : Int32) =>
    (fX4_onward_L26 st p3 p4 n x16 x18 wa17)))))))))
    else
    (some (v6_5, wa6)))))))
    else
    (if p4 = (0 : Int32) then
    (bd (fX2_linksOfAll st v5_4) fun (r26 : Int32) =>
    (ck (inb x9 32)
    (pl ((r26 &&& ((Wa_barred wa6 x9.toNatClampNeg) ^^^ (-1 : Int32)))) fun (x27 : Int32) =>
    (bd (fX5_has x27 p3) fun (r28 : Int32) =>
    (if r28 = (0 : Int32) then
    (pl (((x9 + (1 : Int32)) - (x9 + (1 : Int32)) / (32 : Int32) * (32 : Int32))) fun (x30 : Int32) =>
    (ck (inb x30 32)
    (ck (inb x30 32)
    (pl ((((v5_4 ||| x27) &&& ((Wa_barred wa6 x30.toNatClampNeg) ^^^ (-1 : Int32))) &&& ((Wa_known wa6 x30.toNatClampNeg) ^^^ (-1 : Int32)))) fun (x31 : Int32) =>
    (ck (inb x30 32)
    (ck (inb x30 32)
    (pl (Wa_set_known wa6 (upd (Wa_known wa6) x30.toNatClampNeg ((Wa_known wa6 x30.toNatClampNeg) ||| x31))) fun (wa32 : Wa) =>
    (pl ((v6_5 + (1 : Int32))) fun (x33 : Int32) =>
    (fX4_onward_L26 st p3 p4 n x31 x33 wa32)))))))))
    else
    (some (v6_5, wa6)))))))
    else
    (bd (fX5_has (0 : Int32) p3) fun (r20 : Int32) =>
    (if r20 = (0 : Int32) then
    (pl (((x9 + (1 : Int32)) - (x9 + (1 : Int32)) / (32 : Int32) * (32 : Int32))) fun (x22 : Int32) =>
    (ck (inb x22 32)
    (ck (inb x22 32)
    (pl ((((v5_4 ||| (0 : Int32)) &&& ((Wa_barred wa6 x22.toNatClampNeg) ^^^ (-1 : Int32))) &&& ((Wa_known wa6 x22.toNatClampNeg) ^^^ (-1 : Int32)))) fun (x23 : Int32) =>
    (ck (inb x22 32)
    (ck (inb x22 32)
    (pl (Wa_set_known wa6 (upd (Wa_known wa6) x22.toNatClampNeg ((Wa_known wa6 x22.toNatClampNeg) ||| x23))) fun (wa24 : Wa) =>
    (pl ((v6_5 + (1 : Int32))) fun (x25 : Int32) =>
    (fX4_onward_L26 st p3 p4 n x23 x25 wa24)))))))))
    else
    (some (v6_5, wa6)))))))))
def fX4_onward (wa : Wa) (st : St) (p2 : Int32) (p3 : Int32) (p4 : Int32) : Option (Int32 × Wa) :=
(bd (fX4_lookAhead wa st) fun (wa1 : Wa) =>
(pl (((1 : Int32) <<< (p2 &&& 31))) fun (x2 : Int32) =>
(if p4 = (0 : Int32) then
(ck (inb (0 : Int32) 32)
(pl (Wa_set_known wa1 (upd (Wa_known wa1) (0 : Int32).toNatClampNeg x2)) fun (wa34 : Wa) =>
(fX4_onward_L26 st p3 p4 1000 x2 (0 : Int32) wa34)))
else
(fX4_onward_L26 st p3 p4 1000 x2 (0 : Int32) wa1))))
abbrev rX4_onward : Room := { frames := 3, cells := 0, slots := 0, locals := 68 }
theorem hdX4_onward : yX4_onward.cls = RX4 ∧ yX4_onward.cls ≠ "java/lang/invoke/MethodHandle" ∧ yX4_onward.cls ≠ "java/lang/invoke/VarHandle" ∧ (parseMethodDescriptor yX4_onward.desc).map (fun d => d.parameters.length) = some 4 := by decide +kernel
set_option maxRecDepth 100000 in
set_option maxHeartbeats 8000000 in
theorem kX4_onward (l : Launch) (g : GG) (a b : Nat → Nat) {wa : Wa} {st : St} {p2 : Int32} {p3 : Int32} {p4 : Int32} {res : Int32} {wa' : Wa} (h : fX4_onward wa st p2 p3 p4 = some (res, wa')) : Cg l g yX4_onward wsX4_onward rX4_onward [.ref (a 0), .ref (b 0), .int p2, .int p3, .int p4] (cWa g a wa ++ (cSt g b st)) (some (.int res)) (cWa g a wa' ++ (cSt g b st)) := by
  refine Cg_of (cc := cX4_onward) (maxL := 10) (ret := (some .int)) (by decide +kernel) rfl (Nat.le_of_ble_eq_true rfl) ?_
  intro p e su m args below meth c A Q ls hx hb hml hown hts hK hN hA hnm hP hD hS hl hend
  have hinX4 : ∀ w ∈ u_ws RX4 TX4 4, w ∈ wsX4_onward := fun _ h9 => List.mem_cons_of_mem _ (List.mem_append_left _ (List.mem_append_right _ h9))
  have hinX2 : ∀ w ∈ u_ws RX2 TX2 17, w ∈ wsX4_onward := fun _ h9 => List.mem_cons_of_mem _ (List.mem_append_right _ h9)
  unfold fX4_onward at h
  have hl : lv_has ls 10 [(0, .ref (a 0)), (1, .ref (b 0)), (2, .int p2), (3, .int p3), (4, .int p4)] := hl
  refine lv_aload_n hx hb dX4_onward_0 rfl (lv_at hl 0 rfl) ?_
  refine lv_aload_n hx hb dX4_onward_1 rfl (lv_at hl 1 rfl) ?_
  obtain ⟨wa1, kwa1, h⟩ := bd_ex h
  refine aft_w (st1 := []) rfl (runV (As := [.ref (b 0)]) (rest := []) ⟨hx, hb, hml, hown, hts⟩ (kX4_lookAhead l g a b kwa1) (cwV 1 hts gX4_onward_X4_lookAhead rfl rfl rfl hdX4_lookAhead ⟨Nat.le_of_ble_eq_true rfl, Nat.le_of_ble_eq_true rfl⟩) hK hN hP hD (va_recv hK hP (ci := 4) (q0 := 0) rfl rfl) rfl hl.1 rfl (Nat.le_of_ble_eq_true rfl) dX4_onward_2 ⟨Nat.zero_le _, Nat.zero_le _⟩) hD hS hA (fun H locs hP hD hS => ?_)
  refine lv_iconst (v := 1) hx hb dX4_onward_5 (by decide) ?_
  refine lv_iload_n hx hb dX4_onward_6 rfl (lv_at hl 2 rfl) ?_
  refine lv_ishl hx hb dX4_onward_7 ?_
  obtain ⟨x2, ex2, h⟩ := pl_ex h
  refine lv_eqi ex2 ?_
  refine lv_istore (lv' := [(5, .int x2), (0, .ref (a 0)), (1, .ref (b 0)), (2, .int p2), (3, .int p3), (4, .int p4)]) hx hb dX4_onward_8 hl (by decide) rfl (fun ls hl => ?_)
  refine lv_iload hx hb dX4_onward_10 (lv_at hl 5 rfl) ?_
  refine lv_if_ne (tgt := 23) hx hb dX4_onward_12 (by decide) (fun c3 => ?_) (fun c3 => ?_)
  · have h := if_f c3 h
    refine lv_iconst (v := 0) hx hb dX4_onward_23 (by decide) ?_
    refine lv_istore (lv' := [(6, .int (0 : Int32)), (5, .int x2), (0, .ref (a 0)), (1, .ref (b 0)), (2, .int p2), (3, .int p3), (4, .int p4)]) hx hb dX4_onward_24 hl (by decide) rfl (fun ls hl => ?_)
    have L26 : ∀ (n : Nat) (v5_4 : Int32) (v6_5 : Int32) (wa6 : Wa) (H : Heap) (locs : List Loc) (ls : Array Slot), fX4_onward_L26 st p3 p4 n v5_4 v6_5 wa6 = some (res, wa') → va_P g.1 vwCl (cWa g a wa6 ++ (cSt g b st)) H → va_D A (cWa g a wa6 ++ (cSt g b st)) → va_S A su.heap H locs → lv_has ls 10 [(0, .ref (a 0)), (1, .ref (b 0)), (3, .int p3), (4, .int p4), (5, .int v5_4), (6, .int v6_5)] → W p l e rX4_onward su m args below meth c H locs 0 0 Q (F0 m 26 ls []) := by
      intro n
      induction n with
      | zero => intro v5_4 v6_5 wa6 H locs ls h hP hD hS hl; cases h
      | succ n ih =>
        intro v5_4 v6_5 wa6 H locs ls h hP hD hS hl
        rw [fX4_onward_L26] at h
        refine lv_iload hx hb dX4_onward_26 (lv_at hl 5 rfl) ?_
        refine lv_sipush (v := 769) hx hb dX4_onward_28 (by decide) ?_
        refine lv_icmp_gt (tgt := 143) hx hb dX4_onward_31 (by decide) (fun c7 => ?_) (fun c7 => ?_)
        · have h := if_t c7 h
          refine lv_iconst (v := -1) hx hb dX4_onward_143 (by decide) ?_
          cases some_i h
          exact hend _ _ _ _ _ hP hD hS (RetOK.i dX4_onward_144)
        · have h := if_f c7 h
          refine lv_iload hx hb dX4_onward_34 (lv_at hl 4 rfl) ?_
          refine lv_if_eq (tgt := 143) hx hb dX4_onward_36 (by decide) (fun c8 => ?_) (fun c8 => ?_)
          · have h := if_t c8 h
            refine lv_iconst (v := -1) hx hb dX4_onward_143 (by decide) ?_
            cases some_i h
            exact hend _ _ _ _ _ hP hD hS (RetOK.i dX4_onward_144)
          · have h := if_f c8 h
            refine lv_iload hx hb dX4_onward_39 (lv_at hl 5 rfl) ?_
            refine lv_bipush (v := 32) hx hb dX4_onward_41 (by decide) ?_
            refine lv_irem hx hb dX4_onward_43 (by decide) ?_
            obtain ⟨x9, ex9, h⟩ := pl_ex h
            refine lv_eqi ex9 ?_
            refine lv_istore (lv' := [(7, .int x9), (0, .ref (a 0)), (1, .ref (b 0)), (3, .int p3), (4, .int p4), (5, .int v5_4), (6, .int v6_5)]) hx hb dX4_onward_44 hl (by decide) rfl (fun ls hl => ?_)
            refine lv_iconst (v := 0) hx hb dX4_onward_46 (by decide) ?_
            refine lv_istore (lv' := [(8, .int (0 : Int32)), (7, .int x9), (0, .ref (a 0)), (1, .ref (b 0)), (3, .int p3), (4, .int p4), (5, .int v5_4), (6, .int v6_5)]) hx hb dX4_onward_47 hl (by decide) rfl (fun ls hl => ?_)
            refine lv_iload hx hb dX4_onward_49 (lv_at hl 7 rfl) ?_
            refine lv_if_gt (tgt := 59) hx hb dX4_onward_51 (by decide) (fun c10 => ?_) (fun c10 => ?_)
            · have h := if_t c10 h
              refine lv_aload_n hx hb dX4_onward_59 rfl (lv_at hl 3 rfl) ?_
              refine lv_iload hx hb dX4_onward_60 (lv_at hl 6 rfl) ?_
              obtain ⟨r11, kr11, h⟩ := bd_ex h
              have hP8 : va_P g.1 vwCl ((cWa g a wa6) ++ ((cSt g b st) ++ [])) H := hP
              have hD8 : va_D A ((cWa g a wa6) ++ ((cSt g b st) ++ [])) := hD
              refine aft_f (st1 := [.int r11]) rfl (cWa g a wa6) [] (runV (As := [.int v5_4]) (rest := []) ⟨hx, hb, hml, hown, hts⟩ (kX2_linksOfAll l g b kr11) (cwV 1 hts gX4_onward_X2_linksOfAll rfl rfl rfl hdX2_linksOfAll ⟨Nat.le_of_ble_eq_true rfl, Nat.le_of_ble_eq_true rfl⟩) hK hN hP8.right.left hD8.right.left (va_recv hK hP (ci := 2) (q0 := 5) rfl rfl) rfl hl.1 rfl (Nat.le_of_ble_eq_true rfl) dX4_onward_62 ⟨Nat.zero_le _, Nat.zero_le _⟩) hP8 hD8 hS hA (fun H locs hP hD hS => ?_)
              have hP : va_P g.1 vwCl (cWa g a wa6 ++ (cSt g b st)) H := hP
              have hD : va_D A (cWa g a wa6 ++ (cSt g b st)) := hD
              refine lv_aload_n hx hb dX4_onward_65 rfl (lv_at hl 2 rfl) ?_
              refine va_get (D := g.1) (ci := 4) (v := .ref (a 1)) (C := RX4) (T := TX4) (N := 4) hx hb hts hinX4 hown hK hP 0 rfl rfl 0 (by decide) (hts (.fieldLink RX4 9 "BarredRungs$Ways" "barred" "[I") (List.mem_of_getElem? (i := 2) rfl)) (fun _ h9 => h9) rfl dX4_onward_66 ?_
              refine lv_iload hx hb dX4_onward_69 (lv_at hl 1 rfl) ?_
              obtain ⟨hi9, h⟩ := ck_ex h
              refine va_iald hx hb hK hP 1 0 rfl rfl (inb_in hi9) dX4_onward_71 ?_
              refine lv_iconst (v := -1) hx hb dX4_onward_72 (by decide) ?_
              refine lv_ixor hx hb dX4_onward_73 ?_
              refine lv_iand hx hb dX4_onward_74 ?_
              obtain ⟨x12, ex12, h⟩ := pl_ex h
              refine lv_eqi ex12 ?_
              refine lv_istore (lv' := [(8, .int x12), (7, .int x9), (0, .ref (a 0)), (1, .ref (b 0)), (3, .int p3), (4, .int p4), (5, .int v5_4), (6, .int v6_5)]) hx hb dX4_onward_75 hl (by decide) rfl (fun ls hl => ?_)
              refine lv_iload hx hb dX4_onward_77 (lv_at hl 0 rfl) ?_
              refine lv_iload_n hx hb dX4_onward_79 rfl (lv_at hl 4 rfl) ?_
              obtain ⟨r13, kr13, h⟩ := bd_ex h
              refine aft_e (st1 := [.int r13]) rfl (runSN (As := [.int x12, .int p3]) (rest := []) ⟨hx, hb, hml, hown, hts⟩ (kX5_has l g kr13) ⟨va_cnB 2 hts gX4_onward_X5_has_n34 rfl rfl rfl (hN _ (List.mem_of_getElem? (i := 6) rfl)) (hts (.initialized RX5) (List.mem_of_getElem? (i := 31) rfl)) hdX5_has.2 ⟨Nat.le_of_ble_eq_true rfl, Nat.le_of_ble_eq_true rfl⟩, (hts (.static yX5_has) (List.mem_of_getElem? (i := 30) rfl)), trivial⟩ hK hN nilP (nilD (A := A)) rfl hl.1 rfl (Nat.le_of_ble_eq_true rfl) dX4_onward_80 ⟨Nat.zero_le _, Nat.zero_le _⟩) hP hS hA (fun H locs hP hS => ?_)
              refine lv_if_eq (tgt := 89) hx hb dX4_onward_83 (by decide) (fun c14 => ?_) (fun c14 => ?_)
              · have h := if_t c14 h
                refine lv_iload hx hb dX4_onward_89 (lv_at hl 1 rfl) ?_
                refine lv_iconst (v := 1) hx hb dX4_onward_91 (by decide) ?_
                refine lv_iadd hx hb dX4_onward_92 ?_
                refine lv_bipush (v := 32) hx hb dX4_onward_93 (by decide) ?_
                refine lv_irem hx hb dX4_onward_95 (by decide) ?_
                obtain ⟨x15, ex15, h⟩ := pl_ex h
                refine lv_eqi ex15 ?_
                refine lv_istore (lv' := [(9, .int x15), (8, .int x12), (7, .int x9), (0, .ref (a 0)), (1, .ref (b 0)), (3, .int p3), (4, .int p4), (5, .int v5_4), (6, .int v6_5)]) hx hb dX4_onward_96 hl (by decide) rfl (fun ls hl => ?_)
                refine lv_iload hx hb dX4_onward_98 (lv_at hl 7 rfl) ?_
                refine lv_iload hx hb dX4_onward_100 (lv_at hl 1 rfl) ?_
                refine lv_ior hx hb dX4_onward_102 ?_
                refine lv_aload_n hx hb dX4_onward_103 rfl (lv_at hl 3 rfl) ?_
                refine va_get (D := g.1) (ci := 4) (v := .ref (a 1)) (C := RX4) (T := TX4) (N := 4) hx hb hts hinX4 hown hK hP 0 rfl rfl 0 (by decide) (hts (.fieldLink RX4 9 "BarredRungs$Ways" "barred" "[I") (List.mem_of_getElem? (i := 2) rfl)) (fun _ h9 => h9) rfl dX4_onward_104 ?_
                refine lv_iload hx hb dX4_onward_107 (lv_at hl 0 rfl) ?_
                obtain ⟨hi9, h⟩ := ck_ex h
                refine va_iald hx hb hK hP 1 0 rfl rfl (inb_in hi9) dX4_onward_109 ?_
                refine lv_iconst (v := -1) hx hb dX4_onward_110 (by decide) ?_
                refine lv_ixor hx hb dX4_onward_111 ?_
                refine lv_iand hx hb dX4_onward_112 ?_
                refine lv_aload_n hx hb dX4_onward_113 rfl (lv_at hl 3 rfl) ?_
                refine va_get (D := g.1) (ci := 4) (v := .ref (a 2)) (C := RX4) (T := TX4) (N := 4) hx hb hts hinX4 hown hK hP 0 rfl rfl 1 (by decide) (hts (.fieldLink RX4 15 "BarredRungs$Ways" "known" "[I") (List.mem_of_getElem? (i := 1) rfl)) (fun _ h9 => h9) rfl dX4_onward_114 ?_
                refine lv_iload hx hb dX4_onward_117 (lv_at hl 0 rfl) ?_
                obtain ⟨hi9, h⟩ := ck_ex h
                refine va_iald hx hb hK hP 2 0 rfl rfl (inb_in hi9) dX4_onward_119 ?_
                refine lv_iconst (v := -1) hx hb dX4_onward_120 (by decide) ?_
                refine lv_ixor hx hb dX4_onward_121 ?_
                refine lv_iand hx hb dX4_onward_122 ?_
                obtain ⟨x16, ex16, h⟩ := pl_ex h
                refine lv_eqi ex16 ?_
                refine lv_istore (lv' := [(5, .int x16), (9, .int x15), (8, .int x12), (7, .int x9), (0, .ref (a 0)), (1, .ref (b 0)), (3, .int p3), (4, .int p4), (6, .int v6_5)]) hx hb dX4_onward_123 hl (by decide) rfl (fun ls hl => ?_)
                refine lv_aload_n hx hb dX4_onward_125 rfl (lv_at hl 4 rfl) ?_
                refine va_get (D := g.1) (ci := 4) (v := .ref (a 2)) (C := RX4) (T := TX4) (N := 4) hx hb hts hinX4 hown hK hP 0 rfl rfl 1 (by decide) (hts (.fieldLink RX4 15 "BarredRungs$Ways" "known" "[I") (List.mem_of_getElem? (i := 1) rfl)) (fun _ h9 => h9) rfl dX4_onward_126 ?_
                refine lv_iload hx hb dX4_onward_129 (lv_at hl 1 rfl) ?_
                refine lv_dup2_11 hx hb dX4_onward_131 rfl rfl ?_
                obtain ⟨hi9, h⟩ := ck_ex h
                refine va_iald hx hb hK hP 2 0 rfl rfl (inb_in hi9) dX4_onward_132 ?_
                refine lv_iload hx hb dX4_onward_133 (lv_at hl 0 rfl) ?_
                refine lv_ior hx hb dX4_onward_135 ?_
                obtain ⟨hi9, h⟩ := ck_ex h
                obtain ⟨wa17, ewa17, h⟩ := pl_ex h
                refine va_iast hx hb hK hP hD hS 2 0 rfl rfl (inb_in hi9) dX4_onward_136 (fun H locs hP hD hS => ?_)
                have hP : va_P g.1 vwCl (cWa g a wa17 ++ (cSt g b st)) H := by rw [← ewa17]; exact hP
                have hD : va_D A (cWa g a wa17 ++ (cSt g b st)) := by rw [← ewa17]; exact hD
                obtain ⟨x18, ex18, h⟩ := pl_ex h
                refine lv_iinc (v := x18) (lv' := [(6, .int x18), (5, .int x16), (9, .int x15), (8, .int x12), (7, .int x9), (0, .ref (a 0)), (1, .ref (b 0)), (3, .int p3), (4, .int p4)]) hx hb dX4_onward_137 hl (k := 8) rfl (by rw [← ex18]; rfl) (by decide) rfl (fun ls hl => ?_)
                refine lv_goto (tgt := 26) hx hb dX4_onward_140 (by decide) ?_
                exact ih x16 x18 wa17 _ _ _ h hP hD hS (lv_sub hl [5, 6, 7, 8, 1, 0] rfl)
              · have h := if_f c14 h
                refine lv_iload hx hb dX4_onward_86 (lv_at hl 7 rfl) ?_
                cases some_i h
                exact hend _ _ _ _ _ hP hD hS (RetOK.i dX4_onward_88)
            · have h := if_f c10 h
              refine lv_iload hx hb dX4_onward_54 (lv_at hl 5 rfl) ?_
              refine lv_if_ne (tgt := 77) hx hb dX4_onward_56 (by decide) (fun c19 => ?_) (fun c19 => ?_)
              · have h := if_f c19 h
                refine lv_iload hx hb dX4_onward_77 (lv_at hl 0 rfl) ?_
                refine lv_iload_n hx hb dX4_onward_79 rfl (lv_at hl 4 rfl) ?_
                obtain ⟨r20, kr20, h⟩ := bd_ex h
                refine aft_e (st1 := [.int r20]) rfl (runSN (As := [.int (0 : Int32), .int p3]) (rest := []) ⟨hx, hb, hml, hown, hts⟩ (kX5_has l g kr20) ⟨va_cnB 2 hts gX4_onward_X5_has_n34 rfl rfl rfl (hN _ (List.mem_of_getElem? (i := 6) rfl)) (hts (.initialized RX5) (List.mem_of_getElem? (i := 31) rfl)) hdX5_has.2 ⟨Nat.le_of_ble_eq_true rfl, Nat.le_of_ble_eq_true rfl⟩, (hts (.static yX5_has) (List.mem_of_getElem? (i := 30) rfl)), trivial⟩ hK hN nilP (nilD (A := A)) rfl hl.1 rfl (Nat.le_of_ble_eq_true rfl) dX4_onward_80 ⟨Nat.zero_le _, Nat.zero_le _⟩) hP hS hA (fun H locs hP hS => ?_)
                refine lv_if_eq (tgt := 89) hx hb dX4_onward_83 (by decide) (fun c21 => ?_) (fun c21 => ?_)
                · have h := if_t c21 h
                  refine lv_iload hx hb dX4_onward_89 (lv_at hl 1 rfl) ?_
                  refine lv_iconst (v := 1) hx hb dX4_onward_91 (by decide) ?_
                  refine lv_iadd hx hb dX4_onward_92 ?_
                  refine lv_bipush (v := 32) hx hb dX4_onward_93 (by decide) ?_
                  refine lv_irem hx hb dX4_onward_95 (by decide) ?_
                  obtain ⟨x22, ex22, h⟩ := pl_ex h
                  refine lv_eqi ex22 ?_
                  refine lv_istore (lv' := [(9, .int x22), (8, .int (0 : Int32)), (7, .int x9), (0, .ref (a 0)), (1, .ref (b 0)), (3, .int p3), (4, .int p4), (5, .int v5_4), (6, .int v6_5)]) hx hb dX4_onward_96 hl (by decide) rfl (fun ls hl => ?_)
                  refine lv_iload hx hb dX4_onward_98 (lv_at hl 7 rfl) ?_
                  refine lv_iload hx hb dX4_onward_100 (lv_at hl 1 rfl) ?_
                  refine lv_ior hx hb dX4_onward_102 ?_
                  refine lv_aload_n hx hb dX4_onward_103 rfl (lv_at hl 3 rfl) ?_
                  refine va_get (D := g.1) (ci := 4) (v := .ref (a 1)) (C := RX4) (T := TX4) (N := 4) hx hb hts hinX4 hown hK hP 0 rfl rfl 0 (by decide) (hts (.fieldLink RX4 9 "BarredRungs$Ways" "barred" "[I") (List.mem_of_getElem? (i := 2) rfl)) (fun _ h9 => h9) rfl dX4_onward_104 ?_
                  refine lv_iload hx hb dX4_onward_107 (lv_at hl 0 rfl) ?_
                  obtain ⟨hi9, h⟩ := ck_ex h
                  refine va_iald hx hb hK hP 1 0 rfl rfl (inb_in hi9) dX4_onward_109 ?_
                  refine lv_iconst (v := -1) hx hb dX4_onward_110 (by decide) ?_
                  refine lv_ixor hx hb dX4_onward_111 ?_
                  refine lv_iand hx hb dX4_onward_112 ?_
                  refine lv_aload_n hx hb dX4_onward_113 rfl (lv_at hl 3 rfl) ?_
                  refine va_get (D := g.1) (ci := 4) (v := .ref (a 2)) (C := RX4) (T := TX4) (N := 4) hx hb hts hinX4 hown hK hP 0 rfl rfl 1 (by decide) (hts (.fieldLink RX4 15 "BarredRungs$Ways" "known" "[I") (List.mem_of_getElem? (i := 1) rfl)) (fun _ h9 => h9) rfl dX4_onward_114 ?_
                  refine lv_iload hx hb dX4_onward_117 (lv_at hl 0 rfl) ?_
                  obtain ⟨hi9, h⟩ := ck_ex h
                  refine va_iald hx hb hK hP 2 0 rfl rfl (inb_in hi9) dX4_onward_119 ?_
                  refine lv_iconst (v := -1) hx hb dX4_onward_120 (by decide) ?_
                  refine lv_ixor hx hb dX4_onward_121 ?_
                  refine lv_iand hx hb dX4_onward_122 ?_
                  obtain ⟨x23, ex23, h⟩ := pl_ex h
                  refine lv_eqi ex23 ?_
                  refine lv_istore (lv' := [(5, .int x23), (9, .int x22), (8, .int (0 : Int32)), (7, .int x9), (0, .ref (a 0)), (1, .ref (b 0)), (3, .int p3), (4, .int p4), (6, .int v6_5)]) hx hb dX4_onward_123 hl (by decide) rfl (fun ls hl => ?_)
                  refine lv_aload_n hx hb dX4_onward_125 rfl (lv_at hl 4 rfl) ?_
                  refine va_get (D := g.1) (ci := 4) (v := .ref (a 2)) (C := RX4) (T := TX4) (N := 4) hx hb hts hinX4 hown hK hP 0 rfl rfl 1 (by decide) (hts (.fieldLink RX4 15 "BarredRungs$Ways" "known" "[I") (List.mem_of_getElem? (i := 1) rfl)) (fun _ h9 => h9) rfl dX4_onward_126 ?_
                  refine lv_iload hx hb dX4_onward_129 (lv_at hl 1 rfl) ?_
                  refine lv_dup2_11 hx hb dX4_onward_131 rfl rfl ?_
                  obtain ⟨hi9, h⟩ := ck_ex h
                  refine va_iald hx hb hK hP 2 0 rfl rfl (inb_in hi9) dX4_onward_132 ?_
                  refine lv_iload hx hb dX4_onward_133 (lv_at hl 0 rfl) ?_
                  refine lv_ior hx hb dX4_onward_135 ?_
                  obtain ⟨hi9, h⟩ := ck_ex h
                  obtain ⟨wa24, ewa24, h⟩ := pl_ex h
                  refine va_iast hx hb hK hP hD hS 2 0 rfl rfl (inb_in hi9) dX4_onward_136 (fun H locs hP hD hS => ?_)
                  have hP : va_P g.1 vwCl (cWa g a wa24 ++ (cSt g b st)) H := by rw [← ewa24]; exact hP
                  have hD : va_D A (cWa g a wa24 ++ (cSt g b st)) := by rw [← ewa24]; exact hD
                  obtain ⟨x25, ex25, h⟩ := pl_ex h
                  refine lv_iinc (v := x25) (lv' := [(6, .int x25), (5, .int x23), (9, .int x22), (8, .int (0 : Int32)), (7, .int x9), (0, .ref (a 0)), (1, .ref (b 0)), (3, .int p3), (4, .int p4)]) hx hb dX4_onward_137 hl (k := 8) rfl (by rw [← ex25]; rfl) (by decide) rfl (fun ls hl => ?_)
                  refine lv_goto (tgt := 26) hx hb dX4_onward_140 (by decide) ?_
                  exact ih x23 x25 wa24 _ _ _ h hP hD hS (lv_sub hl [5, 6, 7, 8, 1, 0] rfl)
                · have h := if_f c21 h
                  refine lv_iload hx hb dX4_onward_86 (lv_at hl 7 rfl) ?_
                  cases some_i h
                  exact hend _ _ _ _ _ hP hD hS (RetOK.i dX4_onward_88)
              · have h := if_t c19 h
                refine lv_aload_n hx hb dX4_onward_59 rfl (lv_at hl 3 rfl) ?_
                refine lv_iload hx hb dX4_onward_60 (lv_at hl 6 rfl) ?_
                obtain ⟨r26, kr26, h⟩ := bd_ex h
                have hP8 : va_P g.1 vwCl ((cWa g a wa6) ++ ((cSt g b st) ++ [])) H := hP
                have hD8 : va_D A ((cWa g a wa6) ++ ((cSt g b st) ++ [])) := hD
                refine aft_f (st1 := [.int r26]) rfl (cWa g a wa6) [] (runV (As := [.int v5_4]) (rest := []) ⟨hx, hb, hml, hown, hts⟩ (kX2_linksOfAll l g b kr26) (cwV 1 hts gX4_onward_X2_linksOfAll rfl rfl rfl hdX2_linksOfAll ⟨Nat.le_of_ble_eq_true rfl, Nat.le_of_ble_eq_true rfl⟩) hK hN hP8.right.left hD8.right.left (va_recv hK hP (ci := 2) (q0 := 5) rfl rfl) rfl hl.1 rfl (Nat.le_of_ble_eq_true rfl) dX4_onward_62 ⟨Nat.zero_le _, Nat.zero_le _⟩) hP8 hD8 hS hA (fun H locs hP hD hS => ?_)
                have hP : va_P g.1 vwCl (cWa g a wa6 ++ (cSt g b st)) H := hP
                have hD : va_D A (cWa g a wa6 ++ (cSt g b st)) := hD
                refine lv_aload_n hx hb dX4_onward_65 rfl (lv_at hl 2 rfl) ?_
                refine va_get (D := g.1) (ci := 4) (v := .ref (a 1)) (C := RX4) (T := TX4) (N := 4) hx hb hts hinX4 hown hK hP 0 rfl rfl 0 (by decide) (hts (.fieldLink RX4 9 "BarredRungs$Ways" "barred" "[I") (List.mem_of_getElem? (i := 2) rfl)) (fun _ h9 => h9) rfl dX4_onward_66 ?_
                refine lv_iload hx hb dX4_onward_69 (lv_at hl 1 rfl) ?_
                obtain ⟨hi9, h⟩ := ck_ex h
                refine va_iald hx hb hK hP 1 0 rfl rfl (inb_in hi9) dX4_onward_71 ?_
                refine lv_iconst (v := -1) hx hb dX4_onward_72 (by decide) ?_
                refine lv_ixor hx hb dX4_onward_73 ?_
                refine lv_iand hx hb dX4_onward_74 ?_
                obtain ⟨x27, ex27, h⟩ := pl_ex h
                refine lv_eqi ex27 ?_
                refine lv_istore (lv' := [(8, .int x27), (7, .int x9), (0, .ref (a 0)), (1, .ref (b 0)), (3, .int p3), (4, .int p4), (5, .int v5_4), (6, .int v6_5)]) hx hb dX4_onward_75 hl (by decide) rfl (fun ls hl => ?_)
                refine lv_iload hx hb dX4_onward_77 (lv_at hl 0 rfl) ?_
                refine lv_iload_n hx hb dX4_onward_79 rfl (lv_at hl 4 rfl) ?_
                obtain ⟨r28, kr28, h⟩ := bd_ex h
                refine aft_e (st1 := [.int r28]) rfl (runSN (As := [.int x27, .int p3]) (rest := []) ⟨hx, hb, hml, hown, hts⟩ (kX5_has l g kr28) ⟨va_cnB 2 hts gX4_onward_X5_has_n34 rfl rfl rfl (hN _ (List.mem_of_getElem? (i := 6) rfl)) (hts (.initialized RX5) (List.mem_of_getElem? (i := 31) rfl)) hdX5_has.2 ⟨Nat.le_of_ble_eq_true rfl, Nat.le_of_ble_eq_true rfl⟩, (hts (.static yX5_has) (List.mem_of_getElem? (i := 30) rfl)), trivial⟩ hK hN nilP (nilD (A := A)) rfl hl.1 rfl (Nat.le_of_ble_eq_true rfl) dX4_onward_80 ⟨Nat.zero_le _, Nat.zero_le _⟩) hP hS hA (fun H locs hP hS => ?_)
                refine lv_if_eq (tgt := 89) hx hb dX4_onward_83 (by decide) (fun c29 => ?_) (fun c29 => ?_)
                · have h := if_t c29 h
                  refine lv_iload hx hb dX4_onward_89 (lv_at hl 1 rfl) ?_
                  refine lv_iconst (v := 1) hx hb dX4_onward_91 (by decide) ?_
                  refine lv_iadd hx hb dX4_onward_92 ?_
                  refine lv_bipush (v := 32) hx hb dX4_onward_93 (by decide) ?_
                  refine lv_irem hx hb dX4_onward_95 (by decide) ?_
                  obtain ⟨x30, ex30, h⟩ := pl_ex h
                  refine lv_eqi ex30 ?_
                  refine lv_istore (lv' := [(9, .int x30), (8, .int x27), (7, .int x9), (0, .ref (a 0)), (1, .ref (b 0)), (3, .int p3), (4, .int p4), (5, .int v5_4), (6, .int v6_5)]) hx hb dX4_onward_96 hl (by decide) rfl (fun ls hl => ?_)
                  refine lv_iload hx hb dX4_onward_98 (lv_at hl 7 rfl) ?_
                  refine lv_iload hx hb dX4_onward_100 (lv_at hl 1 rfl) ?_
                  refine lv_ior hx hb dX4_onward_102 ?_
                  refine lv_aload_n hx hb dX4_onward_103 rfl (lv_at hl 3 rfl) ?_
                  refine va_get (D := g.1) (ci := 4) (v := .ref (a 1)) (C := RX4) (T := TX4) (N := 4) hx hb hts hinX4 hown hK hP 0 rfl rfl 0 (by decide) (hts (.fieldLink RX4 9 "BarredRungs$Ways" "barred" "[I") (List.mem_of_getElem? (i := 2) rfl)) (fun _ h9 => h9) rfl dX4_onward_104 ?_
                  refine lv_iload hx hb dX4_onward_107 (lv_at hl 0 rfl) ?_
                  obtain ⟨hi9, h⟩ := ck_ex h
                  refine va_iald hx hb hK hP 1 0 rfl rfl (inb_in hi9) dX4_onward_109 ?_
                  refine lv_iconst (v := -1) hx hb dX4_onward_110 (by decide) ?_
                  refine lv_ixor hx hb dX4_onward_111 ?_
                  refine lv_iand hx hb dX4_onward_112 ?_
                  refine lv_aload_n hx hb dX4_onward_113 rfl (lv_at hl 3 rfl) ?_
                  refine va_get (D := g.1) (ci := 4) (v := .ref (a 2)) (C := RX4) (T := TX4) (N := 4) hx hb hts hinX4 hown hK hP 0 rfl rfl 1 (by decide) (hts (.fieldLink RX4 15 "BarredRungs$Ways" "known" "[I") (List.mem_of_getElem? (i := 1) rfl)) (fun _ h9 => h9) rfl dX4_onward_114 ?_
                  refine lv_iload hx hb dX4_onward_117 (lv_at hl 0 rfl) ?_
                  obtain ⟨hi9, h⟩ := ck_ex h
                  refine va_iald hx hb hK hP 2 0 rfl rfl (inb_in hi9) dX4_onward_119 ?_
                  refine lv_iconst (v := -1) hx hb dX4_onward_120 (by decide) ?_
                  refine lv_ixor hx hb dX4_onward_121 ?_
                  refine lv_iand hx hb dX4_onward_122 ?_
                  obtain ⟨x31, ex31, h⟩ := pl_ex h
                  refine lv_eqi ex31 ?_
                  refine lv_istore (lv' := [(5, .int x31), (9, .int x30), (8, .int x27), (7, .int x9), (0, .ref (a 0)), (1, .ref (b 0)), (3, .int p3), (4, .int p4), (6, .int v6_5)]) hx hb dX4_onward_123 hl (by decide) rfl (fun ls hl => ?_)
                  refine lv_aload_n hx hb dX4_onward_125 rfl (lv_at hl 4 rfl) ?_
                  refine va_get (D := g.1) (ci := 4) (v := .ref (a 2)) (C := RX4) (T := TX4) (N := 4) hx hb hts hinX4 hown hK hP 0 rfl rfl 1 (by decide) (hts (.fieldLink RX4 15 "BarredRungs$Ways" "known" "[I") (List.mem_of_getElem? (i := 1) rfl)) (fun _ h9 => h9) rfl dX4_onward_126 ?_
                  refine lv_iload hx hb dX4_onward_129 (lv_at hl 1 rfl) ?_
                  refine lv_dup2_11 hx hb dX4_onward_131 rfl rfl ?_
                  obtain ⟨hi9, h⟩ := ck_ex h
                  refine va_iald hx hb hK hP 2 0 rfl rfl (inb_in hi9) dX4_onward_132 ?_
                  refine lv_iload hx hb dX4_onward_133 (lv_at hl 0 rfl) ?_
                  refine lv_ior hx hb dX4_onward_135 ?_
                  obtain ⟨hi9, h⟩ := ck_ex h
                  obtain ⟨wa32, ewa32, h⟩ := pl_ex h
                  refine va_iast hx hb hK hP hD hS 2 0 rfl rfl (inb_in hi9) dX4_onward_136 (fun H locs hP hD hS => ?_)
                  have hP : va_P g.1 vwCl (cWa g a wa32 ++ (cSt g b st)) H := by rw [← ewa32]; exact hP
                  have hD : va_D A (cWa g a wa32 ++ (cSt g b st)) := by rw [← ewa32]; exact hD
                  obtain ⟨x33, ex33, h⟩ := pl_ex h
                  refine lv_iinc (v := x33) (lv' := [(6, .int x33), (5, .int x31), (9, .int x30), (8, .int x27), (7, .int x9), (0, .ref (a 0)), (1, .ref (b 0)), (3, .int p3), (4, .int p4)]) hx hb dX4_onward_137 hl (k := 8) rfl (by rw [← ex33]; rfl) (by decide) rfl (fun ls hl => ?_)
                  refine lv_goto (tgt := 26) hx hb dX4_onward_140 (by decide) ?_
                  exact ih x31 x33 wa32 _ _ _ h hP hD hS (lv_sub hl [5, 6, 7, 8, 1, 0] rfl)
                · have h := if_f c29 h
                  refine lv_iload hx hb dX4_onward_86 (lv_at hl 7 rfl) ?_
                  cases some_i h
                  exact hend _ _ _ _ _ hP hD hS (RetOK.i dX4_onward_88)
    exact L26 1000 x2 (0 : Int32) wa1 _ _ _ h hP hD hS (lv_sub hl [2, 3, 5, 6, 1, 0] rfl)
  · have h := if_t c3 h
    refine lv_aload_n hx hb dX4_onward_15 rfl (lv_at hl 1 rfl) ?_
    refine va_get (D := g.1) (ci := 4) (v := .ref (a 2)) (C := RX4) (T := TX4) (N := 4) hx hb hts hinX4 hown hK hP 0 rfl rfl 1 (by decide) (hts (.fieldLink RX4 15 "BarredRungs$Ways" "known" "[I") (List.mem_of_getElem? (i := 1) rfl)) (fun _ h9 => h9) rfl dX4_onward_16 ?_
    refine lv_iconst (v := 0) hx hb dX4_onward_19 (by decide) ?_
    refine lv_iload hx hb dX4_onward_20 (lv_at hl 0 rfl) ?_
    obtain ⟨hi9, h⟩ := ck_ex h
    obtain ⟨wa34, ewa34, h⟩ := pl_ex h
    refine va_iast hx hb hK hP hD hS 2 0 rfl rfl (inb_in hi9) dX4_onward_22 (fun H locs hP hD hS => ?_)
    have hP : va_P g.1 vwCl (cWa g a wa34 ++ (cSt g b st)) H := by rw [← ewa34]; exact hP
    have hD : va_D A (cWa g a wa34 ++ (cSt g b st)) := by rw [← ewa34]; exact hD
    refine lv_iconst (v := 0) hx hb dX4_onward_23 (by decide) ?_
    refine lv_istore (lv' := [(6, .int (0 : Int32)), (5, .int x2), (0, .ref (a 0)), (1, .ref (b 0)), (2, .int p2), (3, .int p3), (4, .int p4)]) hx hb dX4_onward_24 hl (by decide) rfl (fun ls hl => ?_)
    have L26 : ∀ (n : Nat) (v5_35 : Int32) (v6_36 : Int32) (wa37 : Wa) (H : Heap) (locs : List Loc) (ls : Array Slot), fX4_onward_L26 st p3 p4 n v5_35 v6_36 wa37 = some (res, wa') → va_P g.1 vwCl (cWa g a wa37 ++ (cSt g b st)) H → va_D A (cWa g a wa37 ++ (cSt g b st)) → va_S A su.heap H locs → lv_has ls 10 [(0, .ref (a 0)), (1, .ref (b 0)), (3, .int p3), (4, .int p4), (5, .int v5_35), (6, .int v6_36)] → W p l e rX4_onward su m args below meth c H locs 0 0 Q (F0 m 26 ls []) := by
      intro n
      induction n with
      | zero => intro v5_35 v6_36 wa37 H locs ls h hP hD hS hl; cases h
      | succ n ih =>
        intro v5_35 v6_36 wa37 H locs ls h hP hD hS hl
        rw [fX4_onward_L26] at h
        refine lv_iload hx hb dX4_onward_26 (lv_at hl 5 rfl) ?_
        refine lv_sipush (v := 769) hx hb dX4_onward_28 (by decide) ?_
        refine lv_icmp_gt (tgt := 143) hx hb dX4_onward_31 (by decide) (fun c38 => ?_) (fun c38 => ?_)
        · have h := if_t c38 h
          refine lv_iconst (v := -1) hx hb dX4_onward_143 (by decide) ?_
          cases some_i h
          exact hend _ _ _ _ _ hP hD hS (RetOK.i dX4_onward_144)
        · have h := if_f c38 h
          refine lv_iload hx hb dX4_onward_34 (lv_at hl 4 rfl) ?_
          refine lv_if_eq (tgt := 143) hx hb dX4_onward_36 (by decide) (fun c39 => ?_) (fun c39 => ?_)
          · have h := if_t c39 h
            refine lv_iconst (v := -1) hx hb dX4_onward_143 (by decide) ?_
            cases some_i h
            exact hend _ _ _ _ _ hP hD hS (RetOK.i dX4_onward_144)
          · have h := if_f c39 h
            refine lv_iload hx hb dX4_onward_39 (lv_at hl 5 rfl) ?_
            refine lv_bipush (v := 32) hx hb dX4_onward_41 (by decide) ?_
            refine lv_irem hx hb dX4_onward_43 (by decide) ?_
            obtain ⟨x40, ex40, h⟩ := pl_ex h
            refine lv_eqi ex40 ?_
            refine lv_istore (lv' := [(7, .int x40), (0, .ref (a 0)), (1, .ref (b 0)), (3, .int p3), (4, .int p4), (5, .int v5_35), (6, .int v6_36)]) hx hb dX4_onward_44 hl (by decide) rfl (fun ls hl => ?_)
            refine lv_iconst (v := 0) hx hb dX4_onward_46 (by decide) ?_
            refine lv_istore (lv' := [(8, .int (0 : Int32)), (7, .int x40), (0, .ref (a 0)), (1, .ref (b 0)), (3, .int p3), (4, .int p4), (5, .int v5_35), (6, .int v6_36)]) hx hb dX4_onward_47 hl (by decide) rfl (fun ls hl => ?_)
            refine lv_iload hx hb dX4_onward_49 (lv_at hl 7 rfl) ?_
            refine lv_if_gt (tgt := 59) hx hb dX4_onward_51 (by decide) (fun c41 => ?_) (fun c41 => ?_)
            · have h := if_t c41 h
              refine lv_aload_n hx hb dX4_onward_59 rfl (lv_at hl 3 rfl) ?_
              refine lv_iload hx hb dX4_onward_60 (lv_at hl 6 rfl) ?_
              obtain ⟨r42, kr42, h⟩ := bd_ex h
              have hP8 : va_P g.1 vwCl ((cWa g a wa37) ++ ((cSt g b st) ++ [])) H := hP
              have hD8 : va_D A ((cWa g a wa37) ++ ((cSt g b st) ++ [])) := hD
              refine aft_f (st1 := [.int r42]) rfl (cWa g a wa37) [] (runV (As := [.int v5_35]) (rest := []) ⟨hx, hb, hml, hown, hts⟩ (kX2_linksOfAll l g b kr42) (cwV 1 hts gX4_onward_X2_linksOfAll rfl rfl rfl hdX2_linksOfAll ⟨Nat.le_of_ble_eq_true rfl, Nat.le_of_ble_eq_true rfl⟩) hK hN hP8.right.left hD8.right.left (va_recv hK hP (ci := 2) (q0 := 5) rfl rfl) rfl hl.1 rfl (Nat.le_of_ble_eq_true rfl) dX4_onward_62 ⟨Nat.zero_le _, Nat.zero_le _⟩) hP8 hD8 hS hA (fun H locs hP hD hS => ?_)
              have hP : va_P g.1 vwCl (cWa g a wa37 ++ (cSt g b st)) H := hP
              have hD : va_D A (cWa g a wa37 ++ (cSt g b st)) := hD
              refine lv_aload_n hx hb dX4_onward_65 rfl (lv_at hl 2 rfl) ?_
              refine va_get (D := g.1) (ci := 4) (v := .ref (a 1)) (C := RX4) (T := TX4) (N := 4) hx hb hts hinX4 hown hK hP 0 rfl rfl 0 (by decide) (hts (.fieldLink RX4 9 "BarredRungs$Ways" "barred" "[I") (List.mem_of_getElem? (i := 2) rfl)) (fun _ h9 => h9) rfl dX4_onward_66 ?_
              refine lv_iload hx hb dX4_onward_69 (lv_at hl 1 rfl) ?_
              obtain ⟨hi9, h⟩ := ck_ex h
              refine va_iald hx hb hK hP 1 0 rfl rfl (inb_in hi9) dX4_onward_71 ?_
              refine lv_iconst (v := -1) hx hb dX4_onward_72 (by decide) ?_
              refine lv_ixor hx hb dX4_onward_73 ?_
              refine lv_iand hx hb dX4_onward_74 ?_
              obtain ⟨x43, ex43, h⟩ := pl_ex h
              refine lv_eqi ex43 ?_
              refine lv_istore (lv' := [(8, .int x43), (7, .int x40), (0, .ref (a 0)), (1, .ref (b 0)), (3, .int p3), (4, .int p4), (5, .int v5_35), (6, .int v6_36)]) hx hb dX4_onward_75 hl (by decide) rfl (fun ls hl => ?_)
              refine lv_iload hx hb dX4_onward_77 (lv_at hl 0 rfl) ?_
              refine lv_iload_n hx hb dX4_onward_79 rfl (lv_at hl 4 rfl) ?_
              obtain ⟨r44, kr44, h⟩ := bd_ex h
              refine aft_e (st1 := [.int r44]) rfl (runSN (As := [.int x43, .int p3]) (rest := []) ⟨hx, hb, hml, hown, hts⟩ (kX5_has l g kr44) ⟨va_cnB 2 hts gX4_onward_X5_has_n34 rfl rfl rfl (hN _ (List.mem_of_getElem? (i := 6) rfl)) (hts (.initialized RX5) (List.mem_of_getElem? (i := 31) rfl)) hdX5_has.2 ⟨Nat.le_of_ble_eq_true rfl, Nat.le_of_ble_eq_true rfl⟩, (hts (.static yX5_has) (List.mem_of_getElem? (i := 30) rfl)), trivial⟩ hK hN nilP (nilD (A := A)) rfl hl.1 rfl (Nat.le_of_ble_eq_true rfl) dX4_onward_80 ⟨Nat.zero_le _, Nat.zero_le _⟩) hP hS hA (fun H locs hP hS => ?_)
              refine lv_if_eq (tgt := 89) hx hb dX4_onward_83 (by decide) (fun c45 => ?_) (fun c45 => ?_)
              · have h := if_t c45 h
                refine lv_iload hx hb dX4_onward_89 (lv_at hl 1 rfl) ?_
                refine lv_iconst (v := 1) hx hb dX4_onward_91 (by decide) ?_
                refine lv_iadd hx hb dX4_onward_92 ?_
                refine lv_bipush (v := 32) hx hb dX4_onward_93 (by decide) ?_
                refine lv_irem hx hb dX4_onward_95 (by decide) ?_
                obtain ⟨x46, ex46, h⟩ := pl_ex h
                refine lv_eqi ex46 ?_
                refine lv_istore (lv' := [(9, .int x46), (8, .int x43), (7, .int x40), (0, .ref (a 0)), (1, .ref (b 0)), (3, .int p3), (4, .int p4), (5, .int v5_35), (6, .int v6_36)]) hx hb dX4_onward_96 hl (by decide) rfl (fun ls hl => ?_)
                refine lv_iload hx hb dX4_onward_98 (lv_at hl 7 rfl) ?_
                refine lv_iload hx hb dX4_onward_100 (lv_at hl 1 rfl) ?_
                refine lv_ior hx hb dX4_onward_102 ?_
                refine lv_aload_n hx hb dX4_onward_103 rfl (lv_at hl 3 rfl) ?_
                refine va_get (D := g.1) (ci := 4) (v := .ref (a 1)) (C := RX4) (T := TX4) (N := 4) hx hb hts hinX4 hown hK hP 0 rfl rfl 0 (by decide) (hts (.fieldLink RX4 9 "BarredRungs$Ways" "barred" "[I") (List.mem_of_getElem? (i := 2) rfl)) (fun _ h9 => h9) rfl dX4_onward_104 ?_
                refine lv_iload hx hb dX4_onward_107 (lv_at hl 0 rfl) ?_
                obtain ⟨hi9, h⟩ := ck_ex h
                refine va_iald hx hb hK hP 1 0 rfl rfl (inb_in hi9) dX4_onward_109 ?_
                refine lv_iconst (v := -1) hx hb dX4_onward_110 (by decide) ?_
                refine lv_ixor hx hb dX4_onward_111 ?_
                refine lv_iand hx hb dX4_onward_112 ?_
                refine lv_aload_n hx hb dX4_onward_113 rfl (lv_at hl 3 rfl) ?_
                refine va_get (D := g.1) (ci := 4) (v := .ref (a 2)) (C := RX4) (T := TX4) (N := 4) hx hb hts hinX4 hown hK hP 0 rfl rfl 1 (by decide) (hts (.fieldLink RX4 15 "BarredRungs$Ways" "known" "[I") (List.mem_of_getElem? (i := 1) rfl)) (fun _ h9 => h9) rfl dX4_onward_114 ?_
                refine lv_iload hx hb dX4_onward_117 (lv_at hl 0 rfl) ?_
                obtain ⟨hi9, h⟩ := ck_ex h
                refine va_iald hx hb hK hP 2 0 rfl rfl (inb_in hi9) dX4_onward_119 ?_
                refine lv_iconst (v := -1) hx hb dX4_onward_120 (by decide) ?_
                refine lv_ixor hx hb dX4_onward_121 ?_
                refine lv_iand hx hb dX4_onward_122 ?_
                obtain ⟨x47, ex47, h⟩ := pl_ex h
                refine lv_eqi ex47 ?_
                refine lv_istore (lv' := [(5, .int x47), (9, .int x46), (8, .int x43), (7, .int x40), (0, .ref (a 0)), (1, .ref (b 0)), (3, .int p3), (4, .int p4), (6, .int v6_36)]) hx hb dX4_onward_123 hl (by decide) rfl (fun ls hl => ?_)
                refine lv_aload_n hx hb dX4_onward_125 rfl (lv_at hl 4 rfl) ?_
                refine va_get (D := g.1) (ci := 4) (v := .ref (a 2)) (C := RX4) (T := TX4) (N := 4) hx hb hts hinX4 hown hK hP 0 rfl rfl 1 (by decide) (hts (.fieldLink RX4 15 "BarredRungs$Ways" "known" "[I") (List.mem_of_getElem? (i := 1) rfl)) (fun _ h9 => h9) rfl dX4_onward_126 ?_
                refine lv_iload hx hb dX4_onward_129 (lv_at hl 1 rfl) ?_
                refine lv_dup2_11 hx hb dX4_onward_131 rfl rfl ?_
                obtain ⟨hi9, h⟩ := ck_ex h
                refine va_iald hx hb hK hP 2 0 rfl rfl (inb_in hi9) dX4_onward_132 ?_
                refine lv_iload hx hb dX4_onward_133 (lv_at hl 0 rfl) ?_
                refine lv_ior hx hb dX4_onward_135 ?_
                obtain ⟨hi9, h⟩ := ck_ex h
                obtain ⟨wa48, ewa48, h⟩ := pl_ex h
                refine va_iast hx hb hK hP hD hS 2 0 rfl rfl (inb_in hi9) dX4_onward_136 (fun H locs hP hD hS => ?_)
                have hP : va_P g.1 vwCl (cWa g a wa48 ++ (cSt g b st)) H := by rw [← ewa48]; exact hP
                have hD : va_D A (cWa g a wa48 ++ (cSt g b st)) := by rw [← ewa48]; exact hD
                obtain ⟨x49, ex49, h⟩ := pl_ex h
                refine lv_iinc (v := x49) (lv' := [(6, .int x49), (5, .int x47), (9, .int x46), (8, .int x43), (7, .int x40), (0, .ref (a 0)), (1, .ref (b 0)), (3, .int p3), (4, .int p4)]) hx hb dX4_onward_137 hl (k := 8) rfl (by rw [← ex49]; rfl) (by decide) rfl (fun ls hl => ?_)
                refine lv_goto (tgt := 26) hx hb dX4_onward_140 (by decide) ?_
                exact ih x47 x49 wa48 _ _ _ h hP hD hS (lv_sub hl [5, 6, 7, 8, 1, 0] rfl)
              · have h := if_f c45 h
                refine lv_iload hx hb dX4_onward_86 (lv_at hl 7 rfl) ?_
                cases some_i h
                exact hend _ _ _ _ _ hP hD hS (RetOK.i dX4_onward_88)
            · have h := if_f c41 h
              refine lv_iload hx hb dX4_onward_54 (lv_at hl 5 rfl) ?_
              refine lv_if_ne (tgt := 77) hx hb dX4_onward_56 (by decide) (fun c50 => ?_) (fun c50 => ?_)
              · have h := if_f c50 h
                refine lv_iload hx hb dX4_onward_77 (lv_at hl 0 rfl) ?_
                refine lv_iload_n hx hb dX4_onward_79 rfl (lv_at hl 4 rfl) ?_
                obtain ⟨r51, kr51, h⟩ := bd_ex h
                refine aft_e (st1 := [.int r51]) rfl (runSN (As := [.int (0 : Int32), .int p3]) (rest := []) ⟨hx, hb, hml, hown, hts⟩ (kX5_has l g kr51) ⟨va_cnB 2 hts gX4_onward_X5_has_n34 rfl rfl rfl (hN _ (List.mem_of_getElem? (i := 6) rfl)) (hts (.initialized RX5) (List.mem_of_getElem? (i := 31) rfl)) hdX5_has.2 ⟨Nat.le_of_ble_eq_true rfl, Nat.le_of_ble_eq_true rfl⟩, (hts (.static yX5_has) (List.mem_of_getElem? (i := 30) rfl)), trivial⟩ hK hN nilP (nilD (A := A)) rfl hl.1 rfl (Nat.le_of_ble_eq_true rfl) dX4_onward_80 ⟨Nat.zero_le _, Nat.zero_le _⟩) hP hS hA (fun H locs hP hS => ?_)
                refine lv_if_eq (tgt := 89) hx hb dX4_onward_83 (by decide) (fun c52 => ?_) (fun c52 => ?_)
                · have h := if_t c52 h
                  refine lv_iload hx hb dX4_onward_89 (lv_at hl 1 rfl) ?_
                  refine lv_iconst (v := 1) hx hb dX4_onward_91 (by decide) ?_
                  refine lv_iadd hx hb dX4_onward_92 ?_
                  refine lv_bipush (v := 32) hx hb dX4_onward_93 (by decide) ?_
                  refine lv_irem hx hb dX4_onward_95 (by decide) ?_
                  obtain ⟨x53, ex53, h⟩ := pl_ex h
                  refine lv_eqi ex53 ?_
                  refine lv_istore (lv' := [(9, .int x53), (8, .int (0 : Int32)), (7, .int x40), (0, .ref (a 0)), (1, .ref (b 0)), (3, .int p3), (4, .int p4), (5, .int v5_35), (6, .int v6_36)]) hx hb dX4_onward_96 hl (by decide) rfl (fun ls hl => ?_)
                  refine lv_iload hx hb dX4_onward_98 (lv_at hl 7 rfl) ?_
                  refine lv_iload hx hb dX4_onward_100 (lv_at hl 1 rfl) ?_
                  refine lv_ior hx hb dX4_onward_102 ?_
                  refine lv_aload_n hx hb dX4_onward_103 rfl (lv_at hl 3 rfl) ?_
                  refine va_get (D := g.1) (ci := 4) (v := .ref (a 1)) (C := RX4) (T := TX4) (N := 4) hx hb hts hinX4 hown hK hP 0 rfl rfl 0 (by decide) (hts (.fieldLink RX4 9 "BarredRungs$Ways" "barred" "[I") (List.mem_of_getElem? (i := 2) rfl)) (fun _ h9 => h9) rfl dX4_onward_104 ?_
                  refine lv_iload hx hb dX4_onward_107 (lv_at hl 0 rfl) ?_
                  obtain ⟨hi9, h⟩ := ck_ex h
                  refine va_iald hx hb hK hP 1 0 rfl rfl (inb_in hi9) dX4_onward_109 ?_
                  refine lv_iconst (v := -1) hx hb dX4_onward_110 (by decide) ?_
                  refine lv_ixor hx hb dX4_onward_111 ?_
                  refine lv_iand hx hb dX4_onward_112 ?_
                  refine lv_aload_n hx hb dX4_onward_113 rfl (lv_at hl 3 rfl) ?_
                  refine va_get (D := g.1) (ci := 4) (v := .ref (a 2)) (C := RX4) (T := TX4) (N := 4) hx hb hts hinX4 hown hK hP 0 rfl rfl 1 (by decide) (hts (.fieldLink RX4 15 "BarredRungs$Ways" "known" "[I") (List.mem_of_getElem? (i := 1) rfl)) (fun _ h9 => h9) rfl dX4_onward_114 ?_
                  refine lv_iload hx hb dX4_onward_117 (lv_at hl 0 rfl) ?_
                  obtain ⟨hi9, h⟩ := ck_ex h
                  refine va_iald hx hb hK hP 2 0 rfl rfl (inb_in hi9) dX4_onward_119 ?_
                  refine lv_iconst (v := -1) hx hb dX4_onward_120 (by decide) ?_
                  refine lv_ixor hx hb dX4_onward_121 ?_
                  refine lv_iand hx hb dX4_onward_122 ?_
                  obtain ⟨x54, ex54, h⟩ := pl_ex h
                  refine lv_eqi ex54 ?_
                  refine lv_istore (lv' := [(5, .int x54), (9, .int x53), (8, .int (0 : Int32)), (7, .int x40), (0, .ref (a 0)), (1, .ref (b 0)), (3, .int p3), (4, .int p4), (6, .int v6_36)]) hx hb dX4_onward_123 hl (by decide) rfl (fun ls hl => ?_)
                  refine lv_aload_n hx hb dX4_onward_125 rfl (lv_at hl 4 rfl) ?_
                  refine va_get (D := g.1) (ci := 4) (v := .ref (a 2)) (C := RX4) (T := TX4) (N := 4) hx hb hts hinX4 hown hK hP 0 rfl rfl 1 (by decide) (hts (.fieldLink RX4 15 "BarredRungs$Ways" "known" "[I") (List.mem_of_getElem? (i := 1) rfl)) (fun _ h9 => h9) rfl dX4_onward_126 ?_
                  refine lv_iload hx hb dX4_onward_129 (lv_at hl 1 rfl) ?_
                  refine lv_dup2_11 hx hb dX4_onward_131 rfl rfl ?_
                  obtain ⟨hi9, h⟩ := ck_ex h
                  refine va_iald hx hb hK hP 2 0 rfl rfl (inb_in hi9) dX4_onward_132 ?_
                  refine lv_iload hx hb dX4_onward_133 (lv_at hl 0 rfl) ?_
                  refine lv_ior hx hb dX4_onward_135 ?_
                  obtain ⟨hi9, h⟩ := ck_ex h
                  obtain ⟨wa55, ewa55, h⟩ := pl_ex h
                  refine va_iast hx hb hK hP hD hS 2 0 rfl rfl (inb_in hi9) dX4_onward_136 (fun H locs hP hD hS => ?_)
                  have hP : va_P g.1 vwCl (cWa g a wa55 ++ (cSt g b st)) H := by rw [← ewa55]; exact hP
                  have hD : va_D A (cWa g a wa55 ++ (cSt g b st)) := by rw [← ewa55]; exact hD
                  obtain ⟨x56, ex56, h⟩ := pl_ex h
                  refine lv_iinc (v := x56) (lv' := [(6, .int x56), (5, .int x54), (9, .int x53), (8, .int (0 : Int32)), (7, .int x40), (0, .ref (a 0)), (1, .ref (b 0)), (3, .int p3), (4, .int p4)]) hx hb dX4_onward_137 hl (k := 8) rfl (by rw [← ex56]; rfl) (by decide) rfl (fun ls hl => ?_)
                  refine lv_goto (tgt := 26) hx hb dX4_onward_140 (by decide) ?_
                  exact ih x54 x56 wa55 _ _ _ h hP hD hS (lv_sub hl [5, 6, 7, 8, 1, 0] rfl)
                · have h := if_f c52 h
                  refine lv_iload hx hb dX4_onward_86 (lv_at hl 7 rfl) ?_
                  cases some_i h
                  exact hend _ _ _ _ _ hP hD hS (RetOK.i dX4_onward_88)
              · have h := if_t c50 h
                refine lv_aload_n hx hb dX4_onward_59 rfl (lv_at hl 3 rfl) ?_
                refine lv_iload hx hb dX4_onward_60 (lv_at hl 6 rfl) ?_
                obtain ⟨r57, kr57, h⟩ := bd_ex h
                have hP8 : va_P g.1 vwCl ((cWa g a wa37) ++ ((cSt g b st) ++ [])) H := hP
                have hD8 : va_D A ((cWa g a wa37) ++ ((cSt g b st) ++ [])) := hD
                refine aft_f (st1 := [.int r57]) rfl (cWa g a wa37) [] (runV (As := [.int v5_35]) (rest := []) ⟨hx, hb, hml, hown, hts⟩ (kX2_linksOfAll l g b kr57) (cwV 1 hts gX4_onward_X2_linksOfAll rfl rfl rfl hdX2_linksOfAll ⟨Nat.le_of_ble_eq_true rfl, Nat.le_of_ble_eq_true rfl⟩) hK hN hP8.right.left hD8.right.left (va_recv hK hP (ci := 2) (q0 := 5) rfl rfl) rfl hl.1 rfl (Nat.le_of_ble_eq_true rfl) dX4_onward_62 ⟨Nat.zero_le _, Nat.zero_le _⟩) hP8 hD8 hS hA (fun H locs hP hD hS => ?_)
                have hP : va_P g.1 vwCl (cWa g a wa37 ++ (cSt g b st)) H := hP
                have hD : va_D A (cWa g a wa37 ++ (cSt g b st)) := hD
                refine lv_aload_n hx hb dX4_onward_65 rfl (lv_at hl 2 rfl) ?_
                refine va_get (D := g.1) (ci := 4) (v := .ref (a 1)) (C := RX4) (T := TX4) (N := 4) hx hb hts hinX4 hown hK hP 0 rfl rfl 0 (by decide) (hts (.fieldLink RX4 9 "BarredRungs$Ways" "barred" "[I") (List.mem_of_getElem? (i := 2) rfl)) (fun _ h9 => h9) rfl dX4_onward_66 ?_
                refine lv_iload hx hb dX4_onward_69 (lv_at hl 1 rfl) ?_
                obtain ⟨hi9, h⟩ := ck_ex h
                refine va_iald hx hb hK hP 1 0 rfl rfl (inb_in hi9) dX4_onward_71 ?_
                refine lv_iconst (v := -1) hx hb dX4_onward_72 (by decide) ?_
                refine lv_ixor hx hb dX4_onward_73 ?_
                refine lv_iand hx hb dX4_onward_74 ?_
                obtain ⟨x58, ex58, h⟩ := pl_ex h
                refine lv_eqi ex58 ?_
                refine lv_istore (lv' := [(8, .int x58), (7, .int x40), (0, .ref (a 0)), (1, .ref (b 0)), (3, .int p3), (4, .int p4), (5, .int v5_35), (6, .int v6_36)]) hx hb dX4_onward_75 hl (by decide) rfl (fun ls hl => ?_)
                refine lv_iload hx hb dX4_onward_77 (lv_at hl 0 rfl) ?_
                refine lv_iload_n hx hb dX4_onward_79 rfl (lv_at hl 4 rfl) ?_
                obtain ⟨r59, kr59, h⟩ := bd_ex h
                refine aft_e (st1 := [.int r59]) rfl (runSN (As := [.int x58, .int p3]) (rest := []) ⟨hx, hb, hml, hown, hts⟩ (kX5_has l g kr59) ⟨va_cnB 2 hts gX4_onward_X5_has_n34 rfl rfl rfl (hN _ (List.mem_of_getElem? (i := 6) rfl)) (hts (.initialized RX5) (List.mem_of_getElem? (i := 31) rfl)) hdX5_has.2 ⟨Nat.le_of_ble_eq_true rfl, Nat.le_of_ble_eq_true rfl⟩, (hts (.static yX5_has) (List.mem_of_getElem? (i := 30) rfl)), trivial⟩ hK hN nilP (nilD (A := A)) rfl hl.1 rfl (Nat.le_of_ble_eq_true rfl) dX4_onward_80 ⟨Nat.zero_le _, Nat.zero_le _⟩) hP hS hA (fun H locs hP hS => ?_)
                refine lv_if_eq (tgt := 89) hx hb dX4_onward_83 (by decide) (fun c60 => ?_) (fun c60 => ?_)
                · have h := if_t c60 h
                  refine lv_iload hx hb dX4_onward_89 (lv_at hl 1 rfl) ?_
                  refine lv_iconst (v := 1) hx hb dX4_onward_91 (by decide) ?_
                  refine lv_iadd hx hb dX4_onward_92 ?_
                  refine lv_bipush (v := 32) hx hb dX4_onward_93 (by decide) ?_
                  refine lv_irem hx hb dX4_onward_95 (by decide) ?_
                  obtain ⟨x61, ex61, h⟩ := pl_ex h
                  refine lv_eqi ex61 ?_
                  refine lv_istore (lv' := [(9, .int x61), (8, .int x58), (7, .int x40), (0, .ref (a 0)), (1, .ref (b 0)), (3, .int p3), (4, .int p4), (5, .int v5_35), (6, .int v6_36)]) hx hb dX4_onward_96 hl (by decide) rfl (fun ls hl => ?_)
                  refine lv_iload hx hb dX4_onward_98 (lv_at hl 7 rfl) ?_
                  refine lv_iload hx hb dX4_onward_100 (lv_at hl 1 rfl) ?_
                  refine lv_ior hx hb dX4_onward_102 ?_
                  refine lv_aload_n hx hb dX4_onward_103 rfl (lv_at hl 3 rfl) ?_
                  refine va_get (D := g.1) (ci := 4) (v := .ref (a 1)) (C := RX4) (T := TX4) (N := 4) hx hb hts hinX4 hown hK hP 0 rfl rfl 0 (by decide) (hts (.fieldLink RX4 9 "BarredRungs$Ways" "barred" "[I") (List.mem_of_getElem? (i := 2) rfl)) (fun _ h9 => h9) rfl dX4_onward_104 ?_
                  refine lv_iload hx hb dX4_onward_107 (lv_at hl 0 rfl) ?_
                  obtain ⟨hi9, h⟩ := ck_ex h
                  refine va_iald hx hb hK hP 1 0 rfl rfl (inb_in hi9) dX4_onward_109 ?_
                  refine lv_iconst (v := -1) hx hb dX4_onward_110 (by decide) ?_
                  refine lv_ixor hx hb dX4_onward_111 ?_
                  refine lv_iand hx hb dX4_onward_112 ?_
                  refine lv_aload_n hx hb dX4_onward_113 rfl (lv_at hl 3 rfl) ?_
                  refine va_get (D := g.1) (ci := 4) (v := .ref (a 2)) (C := RX4) (T := TX4) (N := 4) hx hb hts hinX4 hown hK hP 0 rfl rfl 1 (by decide) (hts (.fieldLink RX4 15 "BarredRungs$Ways" "known" "[I") (List.mem_of_getElem? (i := 1) rfl)) (fun _ h9 => h9) rfl dX4_onward_114 ?_
                  refine lv_iload hx hb dX4_onward_117 (lv_at hl 0 rfl) ?_
                  obtain ⟨hi9, h⟩ := ck_ex h
                  refine va_iald hx hb hK hP 2 0 rfl rfl (inb_in hi9) dX4_onward_119 ?_
                  refine lv_iconst (v := -1) hx hb dX4_onward_120 (by decide) ?_
                  refine lv_ixor hx hb dX4_onward_121 ?_
                  refine lv_iand hx hb dX4_onward_122 ?_
                  obtain ⟨x62, ex62, h⟩ := pl_ex h
                  refine lv_eqi ex62 ?_
                  refine lv_istore (lv' := [(5, .int x62), (9, .int x61), (8, .int x58), (7, .int x40), (0, .ref (a 0)), (1, .ref (b 0)), (3, .int p3), (4, .int p4), (6, .int v6_36)]) hx hb dX4_onward_123 hl (by decide) rfl (fun ls hl => ?_)
                  refine lv_aload_n hx hb dX4_onward_125 rfl (lv_at hl 4 rfl) ?_
                  refine va_get (D := g.1) (ci := 4) (v := .ref (a 2)) (C := RX4) (T := TX4) (N := 4) hx hb hts hinX4 hown hK hP 0 rfl rfl 1 (by decide) (hts (.fieldLink RX4 15 "BarredRungs$Ways" "known" "[I") (List.mem_of_getElem? (i := 1) rfl)) (fun _ h9 => h9) rfl dX4_onward_126 ?_
                  refine lv_iload hx hb dX4_onward_129 (lv_at hl 1 rfl) ?_
                  refine lv_dup2_11 hx hb dX4_onward_131 rfl rfl ?_
                  obtain ⟨hi9, h⟩ := ck_ex h
                  refine va_iald hx hb hK hP 2 0 rfl rfl (inb_in hi9) dX4_onward_132 ?_
                  refine lv_iload hx hb dX4_onward_133 (lv_at hl 0 rfl) ?_
                  refine lv_ior hx hb dX4_onward_135 ?_
                  obtain ⟨hi9, h⟩ := ck_ex h
                  obtain ⟨wa63, ewa63, h⟩ := pl_ex h
                  refine va_iast hx hb hK hP hD hS 2 0 rfl rfl (inb_in hi9) dX4_onward_136 (fun H locs hP hD hS => ?_)
                  have hP : va_P g.1 vwCl (cWa g a wa63 ++ (cSt g b st)) H := by rw [← ewa63]; exact hP
                  have hD : va_D A (cWa g a wa63 ++ (cSt g b st)) := by rw [← ewa63]; exact hD
                  obtain ⟨x64, ex64, h⟩ := pl_ex h
                  refine lv_iinc (v := x64) (lv' := [(6, .int x64), (5, .int x62), (9, .int x61), (8, .int x58), (7, .int x40), (0, .ref (a 0)), (1, .ref (b 0)), (3, .int p3), (4, .int p4)]) hx hb dX4_onward_137 hl (k := 8) rfl (by rw [← ex64]; rfl) (by decide) rfl (fun ls hl => ?_)
                  refine lv_goto (tgt := 26) hx hb dX4_onward_140 (by decide) ?_
                  exact ih x62 x64 wa63 _ _ _ h hP hD hS (lv_sub hl [5, 6, 7, 8, 1, 0] rfl)
                · have h := if_f c60 h
                  refine lv_iload hx hb dX4_onward_86 (lv_at hl 7 rfl) ?_
                  cases some_i h
                  exact hend _ _ _ _ _ hP hD hS (RetOK.i dX4_onward_88)
    exact L26 1000 x2 (0 : Int32) wa34 _ _ _ h hP hD hS (lv_sub hl [2, 3, 5, 6, 1, 0] rfl)
def fX4_firstWord_L41 (st : St) (p3 : Int32) (r1 : Int32) : Nat → Int32 → Wa → Option (Wa)
  | 0, _, _ => none
  | n + 1, v6_6, wa7 =>
    (if r1 ≤ v6_6 then
    (some wa7)
    else
    (bd2 (fX4_stepBack wa7 st p3) fun (r10 : Int32) (wa11 : Wa) =>
    (pl ((v6_6 + (1 : Int32))) fun (x12 : Int32) =>
    (fX4_firstWord_L41 st p3 r1 n x12 wa11))))
def fX4_firstWord (wa : Wa) (st : St) (p2 : Int32) (p3 : Int32) (p4 : Int32) : Option (Int32 × Wa) :=
(bd2 (fX4_onward wa st p2 p3 p4) fun (r1 : Int32) (wa2 : Wa) =>
(if (0 : Int32) < r1 then
(bd (fX4_lookAhead wa2 st) fun (wa4 : Wa) =>
(bd (fX4_startAtEnd wa4 st p3) fun (wa5 : Wa) =>
(bd (fX4_firstWord_L41 st p3 r1 1000 (1 : Int32) wa5) fun (wa13 : Wa) =>
(pl (((1 : Int32) <<< (p2 &&& 31))) fun (x14 : Int32) =>
(if p4 = (0 : Int32) then
(bd (fX2_linksOf st p2) fun (r17 : Int32) =>
(ck (inb (0 : Int32) 32)
(pl ((x14 ||| (r17 &&& ((Wa_barred wa13 (0 : Int32).toNatClampNeg) ^^^ (-1 : Int32))))) fun (x18 : Int32) =>
(ck (inb (1 : Int32) 32)
(ck (inb (1 : Int32) 32)
(bd (fX5_lowest ((x18 &&& ((Wa_barred wa13 (1 : Int32).toNatClampNeg) ^^^ (-1 : Int32))) &&& (Wa_layer wa13 (1 : Int32).toNatClampNeg))) fun (r19 : Int32) =>
(some (r19, wa13))))))))
else
(ck (inb (1 : Int32) 32)
(ck (inb (1 : Int32) 32)
(bd (fX5_lowest ((x14 &&& ((Wa_barred wa13 (1 : Int32).toNatClampNeg) ^^^ (-1 : Int32))) &&& (Wa_layer wa13 (1 : Int32).toNatClampNeg))) fun (r16 : Int32) =>
(some (r16, wa13))))))))))
else
(if r1 = (0 : Int32) then
(some (p3, wa2))
else
(some ((-1 : Int32), wa2)))))
abbrev rX4_firstWord : Room := { frames := 4, cells := 0, slots := 0, locals := 97 }
theorem hdX4_firstWord : yX4_firstWord.cls = RX4 ∧ yX4_firstWord.cls ≠ "java/lang/invoke/MethodHandle" ∧ yX4_firstWord.cls ≠ "java/lang/invoke/VarHandle" ∧ (parseMethodDescriptor yX4_firstWord.desc).map (fun d => d.parameters.length) = some 4 := by decide +kernel
set_option maxRecDepth 100000 in
set_option maxHeartbeats 8000000 in
theorem kX4_firstWord (l : Launch) (g : GG) (a b : Nat → Nat) {wa : Wa} {st : St} {p2 : Int32} {p3 : Int32} {p4 : Int32} {res : Int32} {wa' : Wa} (h : fX4_firstWord wa st p2 p3 p4 = some (res, wa')) : Cg l g yX4_firstWord wsX4_firstWord rX4_firstWord [.ref (a 0), .ref (b 0), .int p2, .int p3, .int p4] (cWa g a wa ++ (cSt g b st)) (some (.int res)) (cWa g a wa' ++ (cSt g b st)) := by
  refine Cg_of (cc := cX4_firstWord) (maxL := 7) (ret := (some .int)) (by decide +kernel) rfl (Nat.le_of_ble_eq_true rfl) ?_
  intro p e su m args below meth c A Q ls hx hb hml hown hts hK hN hA hnm hP hD hS hl hend
  have hinX4 : ∀ w ∈ u_ws RX4 TX4 4, w ∈ wsX4_firstWord := fun _ h9 => List.mem_cons_of_mem _ (List.mem_append_left _ (List.mem_append_right _ h9))
  have hinX2 : ∀ w ∈ u_ws RX2 TX2 17, w ∈ wsX4_firstWord := fun _ h9 => List.mem_cons_of_mem _ (List.mem_append_right _ h9)
  unfold fX4_firstWord at h
  have hl : lv_has ls 7 [(0, .ref (a 0)), (1, .ref (b 0)), (2, .int p2), (3, .int p3), (4, .int p4)] := hl
  refine lv_aload_n hx hb dX4_firstWord_0 rfl (lv_at hl 0 rfl) ?_
  refine lv_aload_n hx hb dX4_firstWord_1 rfl (lv_at hl 1 rfl) ?_
  refine lv_iload_n hx hb dX4_firstWord_2 rfl (lv_at hl 2 rfl) ?_
  refine lv_iload_n hx hb dX4_firstWord_3 rfl (lv_at hl 3 rfl) ?_
  refine lv_iload hx hb dX4_firstWord_4 (lv_at hl 4 rfl) ?_
  obtain ⟨r1, wa2, kr1, h⟩ := bd2_ex h
  refine aft_w (st1 := [.int r1]) rfl (runV (As := [.ref (b 0), .int p2, .int p3, .int p4]) (rest := []) ⟨hx, hb, hml, hown, hts⟩ (kX4_onward l g a b kr1) (cwV 4 hts gX4_firstWord_X4_onward rfl rfl rfl hdX4_onward ⟨Nat.le_of_ble_eq_true rfl, Nat.le_of_ble_eq_true rfl⟩) hK hN hP hD (va_recv hK hP (ci := 4) (q0 := 0) rfl rfl) rfl hl.1 rfl (Nat.le_of_ble_eq_true rfl) dX4_firstWord_6 ⟨Nat.zero_le _, Nat.zero_le _⟩) hD hS hA (fun H locs hP hD hS => ?_)
  refine lv_istore (lv' := [(5, .int r1), (0, .ref (a 0)), (1, .ref (b 0)), (2, .int p2), (3, .int p3), (4, .int p4)]) hx hb dX4_firstWord_9 hl (by decide) rfl (fun ls hl => ?_)
  refine lv_iload hx hb dX4_firstWord_11 (lv_at hl 0 rfl) ?_
  refine lv_if_gt (tgt := 27) hx hb dX4_firstWord_13 (by decide) (fun c3 => ?_) (fun c3 => ?_)
  · have h := if_t c3 h
    refine lv_aload_n hx hb dX4_firstWord_27 rfl (lv_at hl 1 rfl) ?_
    refine lv_aload_n hx hb dX4_firstWord_28 rfl (lv_at hl 2 rfl) ?_
    obtain ⟨wa4, kwa4, h⟩ := bd_ex h
    refine aft_w (st1 := []) rfl (runV (As := [.ref (b 0)]) (rest := []) ⟨hx, hb, hml, hown, hts⟩ (kX4_lookAhead l g a b kwa4) (cwV 1 hts gX4_firstWord_X4_lookAhead rfl rfl rfl hdX4_lookAhead ⟨Nat.le_of_ble_eq_true rfl, Nat.le_of_ble_eq_true rfl⟩) hK hN hP hD (va_recv hK hP (ci := 4) (q0 := 0) rfl rfl) rfl hl.1 rfl (Nat.le_of_ble_eq_true rfl) dX4_firstWord_29 ⟨Nat.zero_le _, Nat.zero_le _⟩) hD hS hA (fun H locs hP hD hS => ?_)
    refine lv_aload_n hx hb dX4_firstWord_32 rfl (lv_at hl 1 rfl) ?_
    refine lv_aload_n hx hb dX4_firstWord_33 rfl (lv_at hl 2 rfl) ?_
    refine lv_iload_n hx hb dX4_firstWord_34 rfl (lv_at hl 4 rfl) ?_
    obtain ⟨wa5, kwa5, h⟩ := bd_ex h
    refine aft_w (st1 := []) rfl (runV (As := [.ref (b 0), .int p3]) (rest := []) ⟨hx, hb, hml, hown, hts⟩ (kX4_startAtEnd l g a b kwa5) (cwV 2 hts gX4_firstWord_X4_startAtEnd rfl rfl rfl hdX4_startAtEnd ⟨Nat.le_of_ble_eq_true rfl, Nat.le_of_ble_eq_true rfl⟩) hK hN hP hD (va_recv hK hP (ci := 4) (q0 := 0) rfl rfl) rfl hl.1 rfl (Nat.le_of_ble_eq_true rfl) dX4_firstWord_35 ⟨Nat.zero_le _, Nat.zero_le _⟩) hD hS hA (fun H locs hP hD hS => ?_)
    refine lv_iconst (v := 1) hx hb dX4_firstWord_38 (by decide) ?_
    refine lv_istore (lv' := [(6, .int (1 : Int32)), (5, .int r1), (0, .ref (a 0)), (1, .ref (b 0)), (2, .int p2), (3, .int p3), (4, .int p4)]) hx hb dX4_firstWord_39 hl (by decide) rfl (fun ls hl => ?_)
    have L41 : ∀ (n : Nat) (v6_6 : Int32) (wa7 : Wa) (wa8 : Wa) (H : Heap) (locs : List Loc) (ls : Array Slot), fX4_firstWord_L41 st p3 r1 n v6_6 wa7 = some wa8 → va_P g.1 vwCl (cWa g a wa7 ++ (cSt g b st)) H → va_D A (cWa g a wa7 ++ (cSt g b st)) → va_S A su.heap H locs → lv_has ls 7 [(0, .ref (a 0)), (1, .ref (b 0)), (2, .int p2), (3, .int p3), (4, .int p4), (5, .int r1), (6, .int v6_6)] → (∀ (H : Heap) (locs : List Loc) (ls : Array Slot), va_P g.1 vwCl (cWa g a wa8 ++ (cSt g b st)) H → va_D A (cWa g a wa8 ++ (cSt g b st)) → va_S A su.heap H locs → lv_has ls 7 [(0, .ref (a 0)), (1, .ref (b 0)), (2, .int p2), (4, .int p4)] → W p l e rX4_firstWord su m args below meth c H locs 0 0 Q (F0 m 61 ls [])) → W p l e rX4_firstWord su m args below meth c H locs 0 0 Q (F0 m 41 ls []) := by
      intro n
      induction n with
      | zero => intro v6_6 wa7 wa8 H locs ls h hP hD hS hl kx; cases h
      | succ n ih =>
        intro v6_6 wa7 wa8 H locs ls h hP hD hS hl kx
        rw [fX4_firstWord_L41] at h
        refine lv_iload hx hb dX4_firstWord_41 (lv_at hl 6 rfl) ?_
        refine lv_iload hx hb dX4_firstWord_43 (lv_at hl 5 rfl) ?_
        refine lv_icmp_ge (tgt := 61) hx hb dX4_firstWord_45 (by decide) (fun c9 => ?_) (fun c9 => ?_)
        · have h := if_t c9 h
          cases some_i h
          exact kx _ _ _ hP hD hS (lv_sub hl [0, 1, 2, 4] rfl)
        · have h := if_f c9 h
          refine lv_aload_n hx hb dX4_firstWord_48 rfl (lv_at hl 0 rfl) ?_
          refine lv_aload_n hx hb dX4_firstWord_49 rfl (lv_at hl 1 rfl) ?_
          refine lv_iload_n hx hb dX4_firstWord_50 rfl (lv_at hl 3 rfl) ?_
          obtain ⟨r10, wa11, kr10, h⟩ := bd2_ex h
          refine aft_w (st1 := [.int r10]) rfl (runV (As := [.ref (b 0), .int p3]) (rest := []) ⟨hx, hb, hml, hown, hts⟩ (kX4_stepBack l g a b kr10) (cwV 2 hts gX4_firstWord_X4_stepBack rfl rfl rfl hdX4_stepBack ⟨Nat.le_of_ble_eq_true rfl, Nat.le_of_ble_eq_true rfl⟩) hK hN hP hD (va_recv hK hP (ci := 4) (q0 := 0) rfl rfl) rfl hl.1 rfl (Nat.le_of_ble_eq_true rfl) dX4_firstWord_51 ⟨Nat.zero_le _, Nat.zero_le _⟩) hD hS hA (fun H locs hP hD hS => ?_)
          refine lv_pop hx hb dX4_firstWord_54 rfl ?_
          obtain ⟨x12, ex12, h⟩ := pl_ex h
          refine lv_iinc (v := x12) (lv' := [(6, .int x12), (0, .ref (a 0)), (1, .ref (b 0)), (2, .int p2), (3, .int p3), (4, .int p4), (5, .int r1)]) hx hb dX4_firstWord_55 hl (k := 6) rfl (by rw [← ex12]; rfl) (by decide) rfl (fun ls hl => ?_)
          refine lv_goto (tgt := 41) hx hb dX4_firstWord_58 (by decide) ?_
          exact ih x12 wa11 _ _ _ _ h hP hD hS (lv_sub hl [1, 2, 3, 4, 5, 6, 0] rfl) kx
    obtain ⟨wa13, kwa13, h⟩ := bd_ex h
    refine L41 1000 (1 : Int32) wa5 wa13 _ _ _ kwa13 hP hD hS (lv_sub hl [2, 3, 4, 5, 6, 1, 0] rfl) (fun H locs ls hP hD hS hl => ?_)
    refine lv_iconst (v := 1) hx hb dX4_firstWord_61 (by decide) ?_
    refine lv_iload_n hx hb dX4_firstWord_62 rfl (lv_at hl 2 rfl) ?_
    refine lv_ishl hx hb dX4_firstWord_63 ?_
    obtain ⟨x14, ex14, h⟩ := pl_ex h
    refine lv_eqi ex14 ?_
    refine lv_istore (lv' := [(6, .int x14), (0, .ref (a 0)), (1, .ref (b 0)), (2, .int p2), (4, .int p4)]) hx hb dX4_firstWord_64 hl (by decide) rfl (fun ls hl => ?_)
    refine lv_iload hx hb dX4_firstWord_66 (lv_at hl 4 rfl) ?_
    refine lv_if_ne (tgt := 90) hx hb dX4_firstWord_68 (by decide) (fun c15 => ?_) (fun c15 => ?_)
    · have h := if_f c15 h
      refine lv_iload hx hb dX4_firstWord_90 (lv_at hl 0 rfl) ?_
      refine lv_aload_n hx hb dX4_firstWord_92 rfl (lv_at hl 1 rfl) ?_
      refine va_get (D := g.1) (ci := 4) (v := .ref (a 1)) (C := RX4) (T := TX4) (N := 4) hx hb hts hinX4 hown hK hP 0 rfl rfl 0 (by decide) (hts (.fieldLink RX4 9 "BarredRungs$Ways" "barred" "[I") (List.mem_of_getElem? (i := 1) rfl)) (fun _ h9 => h9) rfl dX4_firstWord_93 ?_
      refine lv_iconst (v := 1) hx hb dX4_firstWord_96 (by decide) ?_
      obtain ⟨hi9, h⟩ := ck_ex h
      refine va_iald hx hb hK hP 1 0 rfl rfl (inb_in hi9) dX4_firstWord_97 ?_
      refine lv_iconst (v := -1) hx hb dX4_firstWord_98 (by decide) ?_
      refine lv_ixor hx hb dX4_firstWord_99 ?_
      refine lv_iand hx hb dX4_firstWord_100 ?_
      refine lv_aload_n hx hb dX4_firstWord_101 rfl (lv_at hl 1 rfl) ?_
      refine va_get (D := g.1) (ci := 4) (v := .ref (a 3)) (C := RX4) (T := TX4) (N := 4) hx hb hts hinX4 hown hK hP 0 rfl rfl 2 (by decide) (hts (.fieldLink RX4 18 "BarredRungs$Ways" "layer" "[I") (List.mem_of_getElem? (i := 2) rfl)) (fun _ h9 => h9) rfl dX4_firstWord_102 ?_
      refine lv_iconst (v := 1) hx hb dX4_firstWord_105 (by decide) ?_
      obtain ⟨hi9, h⟩ := ck_ex h
      refine va_iald hx hb hK hP 3 0 rfl rfl (inb_in hi9) dX4_firstWord_106 ?_
      refine lv_iand hx hb dX4_firstWord_107 ?_
      obtain ⟨r16, kr16, h⟩ := bd_ex h
      refine aft_e (st1 := [.int r16]) rfl (runSN (As := [.int ((x14 &&& ((Wa_barred wa13 (1 : Int32).toNatClampNeg) ^^^ (-1 : Int32))) &&& (Wa_layer wa13 (1 : Int32).toNatClampNeg))]) (rest := []) ⟨hx, hb, hml, hown, hts⟩ (kX5_lowest l g kr16) ⟨va_cnB 1 hts gX4_firstWord_X5_lowest_n53 rfl rfl rfl (hN _ (List.mem_of_getElem? (i := 7) rfl)) (hts (.initialized RX5) (List.mem_of_getElem? (i := 36) rfl)) hdX5_lowest.2 ⟨Nat.le_of_ble_eq_true rfl, Nat.le_of_ble_eq_true rfl⟩, (hts (.static yX5_lowest) (List.mem_of_getElem? (i := 55) rfl)), trivial⟩ hK hN nilP (nilD (A := A)) rfl hl.1 rfl (Nat.le_of_ble_eq_true rfl) dX4_firstWord_108 ⟨Nat.zero_le _, Nat.zero_le _⟩) hP hS hA (fun H locs hP hS => ?_)
      cases some_i h
      exact hend _ _ _ _ _ hP hD hS (RetOK.i dX4_firstWord_111)
    · have h := if_t c15 h
      refine lv_iload hx hb dX4_firstWord_71 (lv_at hl 0 rfl) ?_
      refine lv_aload_n hx hb dX4_firstWord_73 rfl (lv_at hl 2 rfl) ?_
      refine lv_iload_n hx hb dX4_firstWord_74 rfl (lv_at hl 3 rfl) ?_
      obtain ⟨r17, kr17, h⟩ := bd_ex h
      have hP8 : va_P g.1 vwCl ((cWa g a wa13) ++ ((cSt g b st) ++ [])) H := hP
      have hD8 : va_D A ((cWa g a wa13) ++ ((cSt g b st) ++ [])) := hD
      refine aft_f (st1 := [.int r17, .int x14]) rfl (cWa g a wa13) [] (runV (As := [.int p2]) (rest := [.int x14]) ⟨hx, hb, hml, hown, hts⟩ (kX2_linksOf l g b kr17) (cwV 1 hts gX4_firstWord_X2_linksOf rfl rfl rfl hdX2_linksOf ⟨Nat.le_of_ble_eq_true rfl, Nat.le_of_ble_eq_true rfl⟩) hK hN hP8.right.left hD8.right.left (va_recv hK hP (ci := 2) (q0 := 5) rfl rfl) rfl hl.1 rfl (Nat.le_of_ble_eq_true rfl) dX4_firstWord_75 ⟨Nat.zero_le _, Nat.zero_le _⟩) hP8 hD8 hS hA (fun H locs hP hD hS => ?_)
      have hP : va_P g.1 vwCl (cWa g a wa13 ++ (cSt g b st)) H := hP
      have hD : va_D A (cWa g a wa13 ++ (cSt g b st)) := hD
      refine lv_aload_n hx hb dX4_firstWord_78 rfl (lv_at hl 1 rfl) ?_
      refine va_get (D := g.1) (ci := 4) (v := .ref (a 1)) (C := RX4) (T := TX4) (N := 4) hx hb hts hinX4 hown hK hP 0 rfl rfl 0 (by decide) (hts (.fieldLink RX4 9 "BarredRungs$Ways" "barred" "[I") (List.mem_of_getElem? (i := 1) rfl)) (fun _ h9 => h9) rfl dX4_firstWord_79 ?_
      refine lv_iconst (v := 0) hx hb dX4_firstWord_82 (by decide) ?_
      obtain ⟨hi9, h⟩ := ck_ex h
      refine va_iald hx hb hK hP 1 0 rfl rfl (inb_in hi9) dX4_firstWord_83 ?_
      refine lv_iconst (v := -1) hx hb dX4_firstWord_84 (by decide) ?_
      refine lv_ixor hx hb dX4_firstWord_85 ?_
      refine lv_iand hx hb dX4_firstWord_86 ?_
      refine lv_ior hx hb dX4_firstWord_87 ?_
      obtain ⟨x18, ex18, h⟩ := pl_ex h
      refine lv_eqi ex18 ?_
      refine lv_istore (lv' := [(6, .int x18), (0, .ref (a 0)), (1, .ref (b 0)), (2, .int p2), (4, .int p4)]) hx hb dX4_firstWord_88 hl (by decide) rfl (fun ls hl => ?_)
      refine lv_iload hx hb dX4_firstWord_90 (lv_at hl 0 rfl) ?_
      refine lv_aload_n hx hb dX4_firstWord_92 rfl (lv_at hl 1 rfl) ?_
      refine va_get (D := g.1) (ci := 4) (v := .ref (a 1)) (C := RX4) (T := TX4) (N := 4) hx hb hts hinX4 hown hK hP 0 rfl rfl 0 (by decide) (hts (.fieldLink RX4 9 "BarredRungs$Ways" "barred" "[I") (List.mem_of_getElem? (i := 1) rfl)) (fun _ h9 => h9) rfl dX4_firstWord_93 ?_
      refine lv_iconst (v := 1) hx hb dX4_firstWord_96 (by decide) ?_
      obtain ⟨hi9, h⟩ := ck_ex h
      refine va_iald hx hb hK hP 1 0 rfl rfl (inb_in hi9) dX4_firstWord_97 ?_
      refine lv_iconst (v := -1) hx hb dX4_firstWord_98 (by decide) ?_
      refine lv_ixor hx hb dX4_firstWord_99 ?_
      refine lv_iand hx hb dX4_firstWord_100 ?_
      refine lv_aload_n hx hb dX4_firstWord_101 rfl (lv_at hl 1 rfl) ?_
      refine va_get (D := g.1) (ci := 4) (v := .ref (a 3)) (C := RX4) (T := TX4) (N := 4) hx hb hts hinX4 hown hK hP 0 rfl rfl 2 (by decide) (hts (.fieldLink RX4 18 "BarredRungs$Ways" "layer" "[I") (List.mem_of_getElem? (i := 2) rfl)) (fun _ h9 => h9) rfl dX4_firstWord_102 ?_
      refine lv_iconst (v := 1) hx hb dX4_firstWord_105 (by decide) ?_
      obtain ⟨hi9, h⟩ := ck_ex h
      refine va_iald hx hb hK hP 3 0 rfl rfl (inb_in hi9) dX4_firstWord_106 ?_
      refine lv_iand hx hb dX4_firstWord_107 ?_
      obtain ⟨r19, kr19, h⟩ := bd_ex h
      refine aft_e (st1 := [.int r19]) rfl (runSN (As := [.int ((x18 &&& ((Wa_barred wa13 (1 : Int32).toNatClampNeg) ^^^ (-1 : Int32))) &&& (Wa_layer wa13 (1 : Int32).toNatClampNeg))]) (rest := []) ⟨hx, hb, hml, hown, hts⟩ (kX5_lowest l g kr19) ⟨va_cnB 1 hts gX4_firstWord_X5_lowest_n53 rfl rfl rfl (hN _ (List.mem_of_getElem? (i := 7) rfl)) (hts (.initialized RX5) (List.mem_of_getElem? (i := 36) rfl)) hdX5_lowest.2 ⟨Nat.le_of_ble_eq_true rfl, Nat.le_of_ble_eq_true rfl⟩, (hts (.static yX5_lowest) (List.mem_of_getElem? (i := 55) rfl)), trivial⟩ hK hN nilP (nilD (A := A)) rfl hl.1 rfl (Nat.le_of_ble_eq_true rfl) dX4_firstWord_108 ⟨Nat.zero_le _, Nat.zero_le _⟩) hP hS hA (fun H locs hP hS => ?_)
      cases some_i h
      exact hend _ _ _ _ _ hP hD hS (RetOK.i dX4_firstWord_111)
  · have h := if_f c3 h
    refine lv_iload hx hb dX4_firstWord_16 (lv_at hl 0 rfl) ?_
    refine lv_if_ne (tgt := 25) hx hb dX4_firstWord_18 (by decide) (fun c20 => ?_) (fun c20 => ?_)
    · have h := if_f c20 h
      refine lv_iconst (v := -1) hx hb dX4_firstWord_25 (by decide) ?_
      cases some_i h
      exact hend _ _ _ _ _ hP hD hS (RetOK.i dX4_firstWord_26)
    · have h := if_t c20 h
      refine lv_iload_n hx hb dX4_firstWord_21 rfl (lv_at hl 4 rfl) ?_
      refine lv_goto (tgt := 26) hx hb dX4_firstWord_22 (by decide) ?_
      cases some_i h
      exact hend _ _ _ _ _ hP hD hS (RetOK.i dX4_firstWord_26)
