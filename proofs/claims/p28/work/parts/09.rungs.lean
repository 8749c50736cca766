def fX5_takeInWords_L10 (tx : Tx) (x1 : Int32) : Nat → Int32 → St → Option (Int32 × St)
  | 0, _, _ => none
  | n + 1, v2_2, st3 =>
    (if (Tx_length tx) ≤ v2_2 then
    (some (((St_words st3) - x1), st3))
    else
    (bd (fX3_wordCode tx v2_2) fun (r5 : Int32) =>
    (bd2 (fX2_takeIn st3 r5) fun (r6 : Int32) (st7 : St) =>
    (if r6 = (0 : Int32) then
    (some (((St_words st7) - x1), st7))
    else
    (pl ((v2_2 + (5 : Int32))) fun (x9 : Int32) =>
    (fX5_takeInWords_L10 tx x1 n x9 st7))))))
def fX5_takeInWords (tx : Tx) (is : Is) (wa : Wa) (st : St) (hi : Hi) : Option (Int32 × St) :=
(pl ((St_words st)) fun (x1 : Int32) =>
(fX5_takeInWords_L10 tx x1 1000 (0 : Int32) st))
abbrev rX5_takeInWords : Room := { frames := 5, cells := 0, slots := 0, locals := 111 }
theorem hdX5_takeInWords : yX5_takeInWords.cls = RX5 ∧ yX5_takeInWords.cls ≠ "java/lang/invoke/MethodHandle" ∧ yX5_takeInWords.cls ≠ "java/lang/invoke/VarHandle" ∧ (parseMethodDescriptor yX5_takeInWords.desc).map (fun d => d.parameters.length) = some 0 := by decide +kernel
set_option maxRecDepth 100000 in
set_option maxHeartbeats 8000000 in
theorem kX5_takeInWords (l : Launch) (g : GG) (ad : Nat → Nat → Nat) {tx : Tx} {is : Is} {wa : Wa} {st : St} {hi : Hi} {res : Int32} {st' : St} (h : fX5_takeInWords tx is wa st hi = some (res, st')) : Cg l g yX5_takeInWords wsX5_takeInWords rX5_takeInWords [.ref ((ad 0) 0)] (cRt ad ++ (cTx g (ad 1) tx ++ (cIs g (ad 2) is ++ (cWa g (ad 3) wa ++ (cSt g (ad 4) st ++ (cHi g (ad 5) (ad 6) hi)))))) (some (.int res)) (cRt ad ++ (cTx g (ad 1) tx ++ (cIs g (ad 2) is ++ (cWa g (ad 3) wa ++ (cSt g (ad 4) st' ++ (cHi g (ad 5) (ad 6) hi)))))) := by
  refine Cg_of (cc := cX5_takeInWords) (maxL := 3) (ret := (some .int)) (by decide +kernel) rfl (Nat.le_of_ble_eq_true rfl) ?_
  intro p e su m args below meth c A Q ls hx hb hml hown hts hK hN hA hnm hP hD hS hl hend
  have hinX5 : ∀ w ∈ u_ws RX5 TX5 5, w ∈ wsX5_takeInWords := fun _ h9 => List.mem_cons_of_mem _ (List.mem_append_left _ (List.mem_append_left _ (List.mem_append_right _ h9)))
  have hinX2 : ∀ w ∈ u_ws RX2 TX2 17, w ∈ wsX5_takeInWords := fun _ h9 => List.mem_cons_of_mem _ (List.mem_append_left _ (List.mem_append_right _ h9))
  have hinX3 : ∀ w ∈ u_ws RX3 TX3 2, w ∈ wsX5_takeInWords := fun _ h9 => List.mem_cons_of_mem _ (List.mem_append_right _ h9)
  unfold fX5_takeInWords at h
  have hl : lv_has ls 3 [(0, .ref ((ad 0) 0))] := hl
  refine lv_aload_n hx hb dX5_takeInWords_0 rfl (lv_at hl 0 rfl) ?_
  refine va_get (D := g.1) (ci := 5) (v := .ref ((ad 4) 0)) (C := RX5) (T := TX5) (N := 5) hx hb hts hinX5 hown hK hP 0 rfl rfl 0 (by decide) (hts (.fieldLink RX5 12 "BarredRungs" "now" "LBarredRungs$State;") (List.mem_of_getElem? (i := 1) rfl)) (fun _ h9 => h9) rfl dX5_takeInWords_1 ?_
  refine va_get (D := g.1) (ci := 2) (v := .int (St_words st)) (C := RX2) (T := TX2) (N := 17) hx hb hts hinX2 hown hK hP 10 rfl rfl 9 (by decide) (hts (.fieldLink RX5 211 "BarredRungs$State" "words" "I") (List.mem_of_getElem? (i := 2) rfl)) (fun _ h9 => h9) rfl dX5_takeInWords_4 ?_
  obtain ⟨x1, ex1, h⟩ := pl_ex h
  refine lv_eqi ex1 ?_
  refine lv_istore_n (lv' := [(1, .int x1), (0, .ref ((ad 0) 0))]) hx hb dX5_takeInWords_7 rfl hl (by decide) rfl (fun ls hl => ?_)
  refine lv_iconst (v := 0) hx hb dX5_takeInWords_8 (by decide) ?_
  refine lv_istore_n (lv' := [(2, .int (0 : Int32)), (1, .int x1), (0, .ref ((ad 0) 0))]) hx hb dX5_takeInWords_9 rfl hl (by decide) rfl (fun ls hl => ?_)
  have L10 : ∀ (n : Nat) (v2_2 : Int32) (st3 : St) (H : Heap) (locs : List Loc) (ls : Array Slot), fX5_takeInWords_L10 tx x1 n v2_2 st3 = some (res, st') → va_P g.1 vwCl (cRt ad ++ (cTx g (ad 1) tx ++ (cIs g (ad 2) is ++ (cWa g (ad 3) wa ++ (cSt g (ad 4) st3 ++ (cHi g (ad 5) (ad 6) hi)))))) H → va_D A (cRt ad ++ (cTx g (ad 1) tx ++ (cIs g (ad 2) is ++ (cWa g (ad 3) wa ++ (cSt g (ad 4) st3 ++ (cHi g (ad 5) (ad 6) hi)))))) → va_S A su.heap H locs → lv_has ls 3 [(0, .ref ((ad 0) 0)), (1, .int x1), (2, .int v2_2)] → W p l e rX5_takeInWords su m args below meth c H locs 0 0 Q (F0 m 10 ls []) := by
    intro n
    induction n with
    | zero => intro v2_2 st3 H locs ls h hP hD hS hl; cases h
    | succ n ih =>
      intro v2_2 st3 H locs ls h hP hD hS hl
      rw [fX5_takeInWords_L10] at h
      refine lv_iload_n hx hb dX5_takeInWords_10 rfl (lv_at hl 2 rfl) ?_
      refine lv_aload_n hx hb dX5_takeInWords_11 rfl (lv_at hl 0 rfl) ?_
      refine va_get (D := g.1) (ci := 5) (v := .ref ((ad 1) 0)) (C := RX5) (T := TX5) (N := 5) hx hb hts hinX5 hown hK hP 0 rfl rfl 2 (by decide) (hts (.fieldLink RX5 26 "BarredRungs" "text" "LBarredRungs$Text;") (List.mem_of_getElem? (i := 3) rfl)) (fun _ h9 => h9) rfl dX5_takeInWords_12 ?_
      refine va_get (D := g.1) (ci := 3) (v := .int (Tx_length tx)) (C := RX3) (T := TX3) (N := 2) hx hb hts hinX3 hown hK hP 1 rfl rfl 1 (by decide) (hts (.fieldLink RX5 156 "BarredRungs$Text" "length" "I") (List.mem_of_getElem? (i := 4) rfl)) (fun _ h9 => h9) rfl dX5_takeInWords_15 ?_
      refine lv_icmp_ge (tgt := 48) hx hb dX5_takeInWords_18 (by decide) (fun c4 => ?_) (fun c4 => ?_)
      · have h := if_t c4 h
        refine lv_aload_n hx hb dX5_takeInWords_48 rfl (lv_at hl 0 rfl) ?_
        refine va_get (D := g.1) (ci := 5) (v := .ref ((ad 4) 0)) (C := RX5) (T := TX5) (N := 5) hx hb hts hinX5 hown hK hP 0 rfl rfl 0 (by decide) (hts (.fieldLink RX5 12 "BarredRungs" "now" "LBarredRungs$State;") (List.mem_of_getElem? (i := 1) rfl)) (fun _ h9 => h9) rfl dX5_takeInWords_49 ?_
        refine va_get (D := g.1) (ci := 2) (v := .int (St_words st3)) (C := RX2) (T := TX2) (N := 17) hx hb hts hinX2 hown hK hP 10 rfl rfl 9 (by decide) (hts (.fieldLink RX5 211 "BarredRungs$State" "words" "I") (List.mem_of_getElem? (i := 2) rfl)) (fun _ h9 => h9) rfl dX5_takeInWords_52 ?_
        refine lv_iload_n hx hb dX5_takeInWords_55 rfl (lv_at hl 1 rfl) ?_
        refine lv_isub hx hb dX5_takeInWords_56 ?_
        cases some_i h
        exact hend _ _ _ _ _ hP hD hS (RetOK.i dX5_takeInWords_57)
      · have h := if_f c4 h
        refine lv_aload_n hx hb dX5_takeInWords_21 rfl (lv_at hl 0 rfl) ?_
        refine va_get (D := g.1) (ci := 5) (v := .ref ((ad 4) 0)) (C := RX5) (T := TX5) (N := 5) hx hb hts hinX5 hown hK hP 0 rfl rfl 0 (by decide) (hts (.fieldLink RX5 12 "BarredRungs" "now" "LBarredRungs$State;") (List.mem_of_getElem? (i := 1) rfl)) (fun _ h9 => h9) rfl dX5_takeInWords_22 ?_
        refine lv_aload_n hx hb dX5_takeInWords_25 rfl (lv_at hl 0 rfl) ?_
        refine va_get (D := g.1) (ci := 5) (v := .ref ((ad 1) 0)) (C := RX5) (T := TX5) (N := 5) hx hb hts hinX5 hown hK hP 0 rfl rfl 2 (by decide) (hts (.fieldLink RX5 26 "BarredRungs" "text" "LBarredRungs$Text;") (List.mem_of_getElem? (i := 3) rfl)) (fun _ h9 => h9) rfl dX5_takeInWords_26 ?_
        refine lv_iload_n hx hb dX5_takeInWords_29 rfl (lv_at hl 2 rfl) ?_
        obtain ⟨r5, kr5, h⟩ := bd_ex h
        have hP8 : va_P g.1 vwCl ((cRt ad) ++ ((cTx g (ad 1) tx) ++ (cIs g (ad 2) is ++ (cWa g (ad 3) wa ++ (cSt g (ad 4) st3 ++ (cHi g (ad 5) (ad 6) hi)))))) _ := hP
        have hD8 : va_D A ((cRt ad) ++ ((cTx g (ad 1) tx) ++ (cIs g (ad 2) is ++ (cWa g (ad 3) wa ++ (cSt g (ad 4) st3 ++ (cHi g (ad 5) (ad 6) hi)))))) := hD
        refine aft_f (st1 := [.int r5, .ref ((ad 4) 0)]) rfl (cRt ad) (cIs g (ad 2) is ++ (cWa g (ad 3) wa ++ (cSt g (ad 4) st3 ++ (cHi g (ad 5) (ad 6) hi)))) (runV (As := [.int v2_2]) (rest := [.ref ((ad 4) 0)]) ⟨hx, hb, hml, hown, hts⟩ (kX3_wordCode l g (ad 1) kr5) (cwV 1 hts gX5_takeInWords_X3_wordCode rfl rfl rfl hdX3_wordCode ⟨Nat.le_of_ble_eq_true rfl, Nat.le_of_ble_eq_true rfl⟩) hK hN hP8.right.left hD8.right.left (va_recv hK hP (ci := 3) (q0 := 1) rfl rfl) rfl hl.1 rfl (Nat.le_of_ble_eq_true rfl) dX5_takeInWords_30 ⟨Nat.zero_le _, Nat.zero_le _⟩) hP8 hD8 hS hA (fun H locs hP hD hS => ?_)
        have hP : va_P g.1 vwCl (cRt ad ++ (cTx g (ad 1) tx ++ (cIs g (ad 2) is ++ (cWa g (ad 3) wa ++ (cSt g (ad 4) st3 ++ (cHi g (ad 5) (ad 6) hi)))))) H := hP
        have hD : va_D A (cRt ad ++ (cTx g (ad 1) tx ++ (cIs g (ad 2) is ++ (cWa g (ad 3) wa ++ (cSt g (ad 4) st3 ++ (cHi g (ad 5) (ad 6) hi)))))) := hD
        obtain ⟨r6, st7, kr6, h⟩ := bd2_ex h
        have hP8 : va_P g.1 vwCl ((cRt ad ++ (cTx g (ad 1) tx ++ (cIs g (ad 2) is ++ (cWa g (ad 3) wa)))) ++ ((cSt g (ad 4) st3) ++ (cHi g (ad 5) (ad 6) hi))) _ := hP
        have hD8 : va_D A ((cRt ad ++ (cTx g (ad 1) tx ++ (cIs g (ad 2) is ++ (cWa g (ad 3) wa)))) ++ ((cSt g (ad 4) st3) ++ (cHi g (ad 5) (ad 6) hi))) := hD
        refine aft_f (st1 := [.int r6]) rfl (cRt ad ++ (cTx g (ad 1) tx ++ (cIs g (ad 2) is ++ (cWa g (ad 3) wa)))) (cHi g (ad 5) (ad 6) hi) (runV (As := [.int r5]) (rest := []) ⟨hx, hb, hml, hown, hts⟩ (kX2_takeIn l g (ad 4) kr6) (cwV 1 hts gX5_takeInWords_X2_takeIn rfl rfl rfl hdX2_takeIn ⟨Nat.le_of_ble_eq_true rfl, Nat.le_of_ble_eq_true rfl⟩) hK hN hP8.right.left hD8.right.left (va_recv hK hP (ci := 2) (q0 := 10) rfl rfl) rfl hl.1 rfl (Nat.le_of_ble_eq_true rfl) dX5_takeInWords_33 ⟨Nat.zero_le _, Nat.zero_le _⟩) hP8 hD8 hS hA (fun H locs hP hD hS => ?_)
        have hP : va_P g.1 vwCl (cRt ad ++ (cTx g (ad 1) tx ++ (cIs g (ad 2) is ++ (cWa g (ad 3) wa ++ (cSt g (ad 4) st7 ++ (cHi g (ad 5) (ad 6) hi)))))) H := hP
        have hD : va_D A (cRt ad ++ (cTx g (ad 1) tx ++ (cIs g (ad 2) is ++ (cWa g (ad 3) wa ++ (cSt g (ad 4) st7 ++ (cHi g (ad 5) (ad 6) hi)))))) := hD
        refine lv_if_ne (tgt := 42) hx hb dX5_takeInWords_36 (by decide) (fun c8 => ?_) (fun c8 => ?_)
        · have h := if_f c8 h
          obtain ⟨x9, ex9, h⟩ := pl_ex h
          refine lv_iinc (v := x9) (lv' := [(2, .int x9), (0, .ref ((ad 0) 0)), (1, .int x1)]) hx hb dX5_takeInWords_42 hl (k := 2) rfl (by rw [← ex9]; rfl) (by decide) rfl (fun ls hl => ?_)
          refine lv_goto (tgt := 10) hx hb dX5_takeInWords_45 (by decide) ?_
          exact ih x9 st7 _ _ _ h hP hD hS (lv_sub hl [1, 2, 0] rfl)
        · have h := if_t c8 h
          refine lv_goto (tgt := 48) hx hb dX5_takeInWords_39 (by decide) ?_
          refine lv_aload_n hx hb dX5_takeInWords_48 rfl (lv_at hl 0 rfl) ?_
          refine va_get (D := g.1) (ci := 5) (v := .ref ((ad 4) 0)) (C := RX5) (T := TX5) (N := 5) hx hb hts hinX5 hown hK hP 0 rfl rfl 0 (by decide) (hts (.fieldLink RX5 12 "BarredRungs" "now" "LBarredRungs$State;") (List.mem_of_getElem? (i := 1) rfl)) (fun _ h9 => h9) rfl dX5_takeInWords_49 ?_
          refine va_get (D := g.1) (ci := 2) (v := .int (St_words st7)) (C := RX2) (T := TX2) (N := 17) hx hb hts hinX2 hown hK hP 10 rfl rfl 9 (by decide) (hts (.fieldLink RX5 211 "BarredRungs$State" "words" "I") (List.mem_of_getElem? (i := 2) rfl)) (fun _ h9 => h9) rfl dX5_takeInWords_52 ?_
          refine lv_iload_n hx hb dX5_takeInWords_55 rfl (lv_at hl 1 rfl) ?_
          refine lv_isub hx hb dX5_takeInWords_56 ?_
          cases some_i h
          exact hend _ _ _ _ _ hP hD hS (RetOK.i dX5_takeInWords_57)
  exact L10 1000 (0 : Int32) st _ _ _ h hP hD hS (lv_sub hl [2, 1, 0] rfl)
def fX5_add (tx : Tx) (is : Is) (wa : Wa) (st : St) (hi : Hi) : Option (Nat ⊕ (Int32 × Tx × St × Hi)) :=
(bd (fX3_isWhole tx (1 : Int32)) fun (r1 : Int32) =>
(if r1 = (0 : Int32) then
(some (.inl 2))
else
(bd (fX0_save st hi) fun (hi3 : Hi) =>
(bd2 (fX5_takeInWords tx is wa st hi3) fun (r4 : Int32) (st5 : St) =>
(bd (fX3_empty tx) fun (tx6 : Tx) =>
(some (.inr (r4, tx6, st5, hi3))))))))
abbrev rX5_add : Room := { frames := 6, cells := 0, slots := 0, locals := 133 }
theorem hdX5_add : yX5_add.cls = RX5 ∧ yX5_add.cls ≠ "java/lang/invoke/MethodHandle" ∧ yX5_add.cls ≠ "java/lang/invoke/VarHandle" ∧ (parseMethodDescriptor yX5_add.desc).map (fun d => d.parameters.length) = some 0 := by decide +kernel
set_option maxRecDepth 100000 in
set_option maxHeartbeats 8000000 in
theorem kX5_add (l : Launch) (g : GG) (ad : Nat → Nat → Nat) {tx : Tx} {is : Is} {wa : Wa} {st : St} {hi : Hi} {res : Int32} {tx' : Tx} {st' : St} {hi' : Hi} (h : fX5_add tx is wa st hi = some (.inr (res, tx', st', hi'))) : Cg l g yX5_add wsX5_add rX5_add [.ref ((ad 0) 0)] (cRt ad ++ (cTx g (ad 1) tx ++ (cIs g (ad 2) is ++ (cWa g (ad 3) wa ++ (cSt g (ad 4) st ++ (cHi g (ad 5) (ad 6) hi)))))) (some (.int res)) (cRt ad ++ (cTx g (ad 1) tx' ++ (cIs g (ad 2) is ++ (cWa g (ad 3) wa ++ (cSt g (ad 4) st' ++ (cHi g (ad 5) (ad 6) hi')))))) := by
  refine Cg_of (cc := cX5_add) (maxL := 2) (ret := (some .int)) (by decide +kernel) rfl (Nat.le_of_ble_eq_true rfl) ?_
  intro p e su m args below meth c A Q ls hx hb hml hown hts hK hN hA hnm hP hD hS hl hend
  have hinX5 : ∀ w ∈ u_ws RX5 TX5 5, w ∈ wsX5_add := fun _ h9 => List.mem_cons_of_mem _ (List.mem_append_left _ (List.mem_append_left _ (List.mem_append_left _ (List.mem_append_left _ (List.mem_append_right _ h9)))))
  have hinX3 : ∀ w ∈ u_ws RX3 TX3 2, w ∈ wsX5_add := fun _ h9 => List.mem_cons_of_mem _ (List.mem_append_left _ (List.mem_append_left _ (List.mem_append_left _ (List.mem_append_right _ h9))))
  have hinX0 : ∀ w ∈ u_ws RX0 TX0 4, w ∈ wsX5_add := fun _ h9 => List.mem_cons_of_mem _ (List.mem_append_left _ (List.mem_append_left _ (List.mem_append_right _ h9)))
  have hinX2 : ∀ w ∈ u_ws RX2 TX2 17, w ∈ wsX5_add := fun _ h9 => List.mem_cons_of_mem _ (List.mem_append_left _ (List.mem_append_right _ h9))
  unfold fX5_add at h
  have hl : lv_has ls 2 [(0, .ref ((ad 0) 0))] := hl
  refine lv_aload_n hx hb dX5_add_0 rfl (lv_at hl 0 rfl) ?_
  refine va_get (D := g.1) (ci := 5) (v := .ref ((ad 1) 0)) (C := RX5) (T := TX5) (N := 5) hx hb hts hinX5 hown hK hP 0 rfl rfl 2 (by decide) (hts (.fieldLink RX5 26 "BarredRungs" "text" "LBarredRungs$Text;") (List.mem_of_getElem? (i := 3) rfl)) (fun _ h9 => h9) rfl dX5_add_1 ?_
  refine lv_iconst (v := 1) hx hb dX5_add_4 (by decide) ?_
  obtain ⟨r1, kr1, h⟩ := bd_ex h
  have hP8 : va_P g.1 vwCl ((cRt ad) ++ ((cTx g (ad 1) tx) ++ (cIs g (ad 2) is ++ (cWa g (ad 3) wa ++ (cSt g (ad 4) st ++ (cHi g (ad 5) (ad 6) hi)))))) _ := hP
  have hD8 : va_D A ((cRt ad) ++ ((cTx g (ad 1) tx) ++ (cIs g (ad 2) is ++ (cWa g (ad 3) wa ++ (cSt g (ad 4) st ++ (cHi g (ad 5) (ad 6) hi)))))) := hD
  refine aft_f (st1 := [.int r1]) rfl (cRt ad) (cIs g (ad 2) is ++ (cWa g (ad 3) wa ++ (cSt g (ad 4) st ++ (cHi g (ad 5) (ad 6) hi)))) (runV (As := [.int (1 : Int32)]) (rest := []) ⟨hx, hb, hml, hown, hts⟩ (kX3_isWhole l g (ad 1) kr1) (cwV 1 hts gX5_add_X3_isWhole rfl rfl rfl hdX3_isWhole ⟨Nat.le_of_ble_eq_true rfl, Nat.le_of_ble_eq_true rfl⟩) hK hN hP8.right.left hD8.right.left (va_recv hK hP (ci := 3) (q0 := 1) rfl rfl) rfl hl.1 rfl (Nat.le_of_ble_eq_true rfl) dX5_add_5 ⟨Nat.zero_le _, Nat.zero_le _⟩) hP8 hD8 hS hA (fun H locs hP hD hS => ?_)
  have hP : va_P g.1 vwCl (cRt ad ++ (cTx g (ad 1) tx ++ (cIs g (ad 2) is ++ (cWa g (ad 3) wa ++ (cSt g (ad 4) st ++ (cHi g (ad 5) (ad 6) hi)))))) H := hP
  have hD : va_D A (cRt ad ++ (cTx g (ad 1) tx ++ (cIs g (ad 2) is ++ (cWa g (ad 3) wa ++ (cSt g (ad 4) st ++ (cHi g (ad 5) (ad 6) hi)))))) := hD
  refine lv_if_ne (tgt := 21) hx hb dX5_add_8 (by decide) (fun c2 => ?_) (fun c2 => ?_)
  · have h := if_f c2 h
    refine lv_aload_n hx hb dX5_add_21 rfl (lv_at hl 0 rfl) ?_
    refine va_get (D := g.1) (ci := 5) (v := .ref ((ad 5) 0)) (C := RX5) (T := TX5) (N := 5) hx hb hts hinX5 hown hK hP 0 rfl rfl 1 (by decide) (hts (.fieldLink RX5 19 "BarredRungs" "history" "LBarredRungs$History;") (List.mem_of_getElem? (i := 4) rfl)) (fun _ h9 => h9) rfl dX5_add_22 ?_
    refine lv_aload_n hx hb dX5_add_25 rfl (lv_at hl 0 rfl) ?_
    refine va_get (D := g.1) (ci := 5) (v := .ref ((ad 4) 0)) (C := RX5) (T := TX5) (N := 5) hx hb hts hinX5 hown hK hP 0 rfl rfl 0 (by decide) (hts (.fieldLink RX5 12 "BarredRungs" "now" "LBarredRungs$State;") (List.mem_of_getElem? (i := 5) rfl)) (fun _ h9 => h9) rfl dX5_add_26 ?_
    obtain ⟨hi3, khi3, h⟩ := bd_ex h
    have hP8 : va_P g.1 vwCl ((cRt ad ++ (cTx g (ad 1) tx ++ (cIs g (ad 2) is ++ (cWa g (ad 3) wa)))) ++ ((cSt g (ad 4) st ++ (cHi g (ad 5) (ad 6) hi)) ++ [])) _ := hP
    have hD8 : va_D A ((cRt ad ++ (cTx g (ad 1) tx ++ (cIs g (ad 2) is ++ (cWa g (ad 3) wa)))) ++ ((cSt g (ad 4) st ++ (cHi g (ad 5) (ad 6) hi)) ++ [])) := hD
    refine aft_f (st1 := []) rfl (cRt ad ++ (cTx g (ad 1) tx ++ (cIs g (ad 2) is ++ (cWa g (ad 3) wa)))) [] (runV (As := [.ref ((ad 4) 0)]) (rest := []) ⟨hx, hb, hml, hown, hts⟩ (kX0_save l g (ad 4) (ad 5) (ad 6) khi3) (cwV 1 hts gX5_add_X0_save rfl rfl rfl hdX0_save ⟨Nat.le_of_ble_eq_true rfl, Nat.le_of_ble_eq_true rfl⟩) hK hN hP8.right.left hD8.right.left (va_recv hK hP (ci := 0) (q0 := 20) rfl rfl) rfl hl.1 rfl (Nat.le_of_ble_eq_true rfl) dX5_add_29 ⟨Nat.zero_le _, Nat.zero_le _⟩) hP8 hD8 hS hA (fun H locs hP hD hS => ?_)
    have hP : va_P g.1 vwCl (cRt ad ++ (cTx g (ad 1) tx ++ (cIs g (ad 2) is ++ (cWa g (ad 3) wa ++ (cSt g (ad 4) st ++ (cHi g (ad 5) (ad 6) hi3)))))) H := hP
    have hD : va_D A (cRt ad ++ (cTx g (ad 1) tx ++ (cIs g (ad 2) is ++ (cWa g (ad 3) wa ++ (cSt g (ad 4) st ++ (cHi g (ad 5) (ad 6) hi3)))))) := hD
    refine lv_aload_n hx hb dX5_add_32 rfl (lv_at hl 0 rfl) ?_
    obtain ⟨r4, st5, kr4, h⟩ := bd2_ex h
    refine aft_w (st1 := [.int r4]) rfl (runV (As := []) (rest := []) ⟨hx, hb, hml, hown, hts⟩ (kX5_takeInWords l g ad kr4) (cwV 0 hts gX5_add_X5_takeInWords rfl rfl rfl hdX5_takeInWords ⟨Nat.le_of_ble_eq_true rfl, Nat.le_of_ble_eq_true rfl⟩) hK hN hP hD (va_recv hK hP (ci := 5) (q0 := 0) rfl rfl) rfl hl.1 rfl (Nat.le_of_ble_eq_true rfl) dX5_add_33 ⟨Nat.zero_le _, Nat.zero_le _⟩) hD hS hA (fun H locs hP hD hS => ?_)
    refine lv_istore_n (lv' := [(1, .int r4), (0, .ref ((ad 0) 0))]) hx hb dX5_add_36 rfl hl (by decide) rfl (fun ls hl => ?_)
    refine lv_aload_n hx hb dX5_add_37 rfl (lv_at hl 1 rfl) ?_
    refine va_get (D := g.1) (ci := 5) (v := .ref ((ad 1) 0)) (C := RX5) (T := TX5) (N := 5) hx hb hts hinX5 hown hK hP 0 rfl rfl 2 (by decide) (hts (.fieldLink RX5 26 "BarredRungs" "text" "LBarredRungs$Text;") (List.mem_of_getElem? (i := 3) rfl)) (fun _ h9 => h9) rfl dX5_add_38 ?_
    obtain ⟨tx6, ktx6, h⟩ := bd_ex h
    have hP8 : va_P g.1 vwCl ((cRt ad) ++ ((cTx g (ad 1) tx) ++ (cIs g (ad 2) is ++ (cWa g (ad 3) wa ++ (cSt g (ad 4) st5 ++ (cHi g (ad 5) (ad 6) hi3)))))) _ := hP
    have hD8 : va_D A ((cRt ad) ++ ((cTx g (ad 1) tx) ++ (cIs g (ad 2) is ++ (cWa g (ad 3) wa ++ (cSt g (ad 4) st5 ++ (cHi g (ad 5) (ad 6) hi3)))))) := hD
    refine aft_f (st1 := []) rfl (cRt ad) (cIs g (ad 2) is ++ (cWa g (ad 3) wa ++ (cSt g (ad 4) st5 ++ (cHi g (ad 5) (ad 6) hi3)))) (runV (As := []) (rest := []) ⟨hx, hb, hml, hown, hts⟩ (kX3_empty l g (ad 1) ktx6) (cwV 0 hts gX5_add_X3_empty rfl rfl rfl hdX3_empty ⟨Nat.le_of_ble_eq_true rfl, Nat.le_of_ble_eq_true rfl⟩) hK hN hP8.right.left hD8.right.left (va_recv hK hP (ci := 3) (q0 := 1) rfl rfl) rfl hl.1 rfl (Nat.le_of_ble_eq_true rfl) dX5_add_41 ⟨Nat.zero_le _, Nat.zero_le _⟩) hP8 hD8 hS hA (fun H locs hP hD hS => ?_)
    have hP : va_P g.1 vwCl (cRt ad ++ (cTx g (ad 1) tx6 ++ (cIs g (ad 2) is ++ (cWa g (ad 3) wa ++ (cSt g (ad 4) st5 ++ (cHi g (ad 5) (ad 6) hi3)))))) H := hP
    have hD : va_D A (cRt ad ++ (cTx g (ad 1) tx6 ++ (cIs g (ad 2) is ++ (cWa g (ad 3) wa ++ (cSt g (ad 4) st5 ++ (cHi g (ad 5) (ad 6) hi3)))))) := hD
    refine lv_iload_n hx hb dX5_add_44 rfl (lv_at hl 0 rfl) ?_
    cases some_i h
    exact hend _ _ _ _ _ hP hD hS (RetOK.i dX5_add_45)
  · have h := if_t c2 h
    cases h
def fX5_append (tx : Tx) (is : Is) (wa : Wa) (st : St) (hi : Hi) (p1 : Int32) : Option (Nat ⊕ (Int32 × Tx)) :=
(if p1 < (33 : Int32) then
(some (.inl 2))
else
(if p1 ≤ (126 : Int32) then
(bd (fX3_isFull tx) fun (r3 : Int32) =>
(if r3 = (0 : Int32) then
(bd (fX3_take tx p1) fun (tx5 : Tx) =>
(some (.inr ((Tx_length tx5), tx5))))
else
(some (.inl 3))))
else
(some (.inl 2))))
abbrev rX5_append : Room := { frames := 6, cells := 0, slots := 0, locals := 90 }
theorem hdX5_append : yX5_append.cls = RX5 ∧ yX5_append.cls ≠ "java/lang/invoke/MethodHandle" ∧ yX5_append.cls ≠ "java/lang/invoke/VarHandle" ∧ (parseMethodDescriptor yX5_append.desc).map (fun d => d.parameters.length) = some 1 := by decide +kernel
set_option maxRecDepth 100000 in
set_option maxHeartbeats 8000000 in
theorem kX5_append (l : Launch) (g : GG) (ad : Nat → Nat → Nat) {tx : Tx} {is : Is} {wa : Wa} {st : St} {hi : Hi} {p1 : Int32} {res : Int32} {tx' : Tx} (h : fX5_append tx is wa st hi p1 = some (.inr (res, tx'))) : Cg l g yX5_append wsX5_append rX5_append [.ref ((ad 0) 0), .int p1] (cRt ad ++ (cTx g (ad 1) tx ++ (cIs g (ad 2) is ++ (cWa g (ad 3) wa ++ (cSt g (ad 4) st ++ (cHi g (ad 5) (ad 6) hi)))))) (some (.int res)) (cRt ad ++ (cTx g (ad 1) tx' ++ (cIs g (ad 2) is ++ (cWa g (ad 3) wa ++ (cSt g (ad 4) st ++ (cHi g (ad 5) (ad 6) hi)))))) := by
  refine Cg_of (cc := cX5_append) (maxL := 2) (ret := (some .int)) (by decide +kernel) rfl (Nat.le_of_ble_eq_true rfl) ?_
  intro p e su m args below meth c A Q ls hx hb hml hown hts hK hN hA hnm hP hD hS hl hend
  have hinX5 : ∀ w ∈ u_ws RX5 TX5 5, w ∈ wsX5_append := fun _ h9 => List.mem_cons_of_mem _ (List.mem_append_left _ (List.mem_append_left _ (List.mem_append_left _ (List.mem_append_right _ h9))))
  have hinX3 : ∀ w ∈ u_ws RX3 TX3 2, w ∈ wsX5_append := fun _ h9 => List.mem_cons_of_mem _ (List.mem_append_left _ (List.mem_append_left _ (List.mem_append_right _ h9)))
  unfold fX5_append at h
  have hl : lv_has ls 2 [(0, .ref ((ad 0) 0)), (1, .int p1)] := hl
  refine lv_iload_n hx hb dX5_append_0 rfl (lv_at hl 1 rfl) ?_
  refine lv_bipush (v := 33) hx hb dX5_append_1 (by decide) ?_
  refine lv_icmp_lt (tgt := 12) hx hb dX5_append_3 (by decide) (fun c1 => ?_) (fun c1 => ?_)
  · have h := if_t c1 h
    cases h
  · have h := if_f c1 h
    refine lv_iload_n hx hb dX5_append_6 rfl (lv_at hl 1 rfl) ?_
    refine lv_bipush (v := 126) hx hb dX5_append_7 (by decide) ?_
    refine lv_icmp_le (tgt := 22) hx hb dX5_append_9 (by decide) (fun c2 => ?_) (fun c2 => ?_)
    · have h := if_t c2 h
      refine lv_aload_n hx hb dX5_append_22 rfl (lv_at hl 0 rfl) ?_
      refine va_get (D := g.1) (ci := 5) (v := .ref ((ad 1) 0)) (C := RX5) (T := TX5) (N := 5) hx hb hts hinX5 hown hK hP 0 rfl rfl 2 (by decide) (hts (.fieldLink RX5 26 "BarredRungs" "text" "LBarredRungs$Text;") (List.mem_of_getElem? (i := 5) rfl)) (fun _ h9 => h9) rfl dX5_append_23 ?_
      obtain ⟨r3, kr3, h⟩ := bd_ex h
      have hP8 : va_P g.1 vwCl ((cRt ad) ++ ((cTx g (ad 1) tx) ++ (cIs g (ad 2) is ++ (cWa g (ad 3) wa ++ (cSt g (ad 4) st ++ (cHi g (ad 5) (ad 6) hi)))))) _ := hP
      have hD8 : va_D A ((cRt ad) ++ ((cTx g (ad 1) tx) ++ (cIs g (ad 2) is ++ (cWa g (ad 3) wa ++ (cSt g (ad 4) st ++ (cHi g (ad 5) (ad 6) hi)))))) := hD
      refine aft_f (st1 := [.int r3]) rfl (cRt ad) (cIs g (ad 2) is ++ (cWa g (ad 3) wa ++ (cSt g (ad 4) st ++ (cHi g (ad 5) (ad 6) hi)))) (runV (As := []) (rest := []) ⟨hx, hb, hml, hown, hts⟩ (kX3_isFull l g (ad 1) kr3) (cwV 0 hts gX5_append_X3_isFull rfl rfl rfl hdX3_isFull ⟨Nat.le_of_ble_eq_true rfl, Nat.le_of_ble_eq_true rfl⟩) hK hN hP8.right.left hD8.right.left (va_recv hK hP (ci := 3) (q0 := 1) rfl rfl) rfl hl.1 rfl (Nat.le_of_ble_eq_true rfl) dX5_append_26 ⟨Nat.zero_le _, Nat.zero_le _⟩) hP8 hD8 hS hA (fun H locs hP hD hS => ?_)
      have hP : va_P g.1 vwCl (cRt ad ++ (cTx g (ad 1) tx ++ (cIs g (ad 2) is ++ (cWa g (ad 3) wa ++ (cSt g (ad 4) st ++ (cHi g (ad 5) (ad 6) hi)))))) H := hP
      have hD : va_D A (cRt ad ++ (cTx g (ad 1) tx ++ (cIs g (ad 2) is ++ (cWa g (ad 3) wa ++ (cSt g (ad 4) st ++ (cHi g (ad 5) (ad 6) hi)))))) := hD
      refine lv_if_eq (tgt := 42) hx hb dX5_append_29 (by decide) (fun c4 => ?_) (fun c4 => ?_)
      · have h := if_t c4 h
        refine lv_aload_n hx hb dX5_append_42 rfl (lv_at hl 0 rfl) ?_
        refine va_get (D := g.1) (ci := 5) (v := .ref ((ad 1) 0)) (C := RX5) (T := TX5) (N := 5) hx hb hts hinX5 hown hK hP 0 rfl rfl 2 (by decide) (hts (.fieldLink RX5 26 "BarredRungs" "text" "LBarredRungs$Text;") (List.mem_of_getElem? (i := 5) rfl)) (fun _ h9 => h9) rfl dX5_append_43 ?_
        refine lv_iload_n hx hb dX5_append_46 rfl (lv_at hl 1 rfl) ?_
        obtain ⟨tx5, ktx5, h⟩ := bd_ex h
        have hP8 : va_P g.1 vwCl ((cRt ad) ++ ((cTx g (ad 1) tx) ++ (cIs g (ad 2) is ++ (cWa g (ad 3) wa ++ (cSt g (ad 4) st ++ (cHi g (ad 5) (ad 6) hi)))))) _ := hP
        have hD8 : va_D A ((cRt ad) ++ ((cTx g (ad 1) tx) ++ (cIs g (ad 2) is ++ (cWa g (ad 3) wa ++ (cSt g (ad 4) st ++ (cHi g (ad 5) (ad 6) hi)))))) := hD
        refine aft_f (st1 := []) rfl (cRt ad) (cIs g (ad 2) is ++ (cWa g (ad 3) wa ++ (cSt g (ad 4) st ++ (cHi g (ad 5) (ad 6) hi)))) (runV (As := [.int p1]) (rest := []) ⟨hx, hb, hml, hown, hts⟩ (kX3_take l g (ad 1) ktx5) (cwV 1 hts gX5_append_X3_take rfl rfl rfl hdX3_take ⟨Nat.le_of_ble_eq_true rfl, Nat.le_of_ble_eq_true rfl⟩) hK hN hP8.right.left hD8.right.left (va_recv hK hP (ci := 3) (q0 := 1) rfl rfl) rfl hl.1 rfl (Nat.le_of_ble_eq_true rfl) dX5_append_47 ⟨Nat.zero_le _, Nat.zero_le _⟩) hP8 hD8 hS hA (fun H locs hP hD hS => ?_)
        have hP : va_P g.1 vwCl (cRt ad ++ (cTx g (ad 1) tx5 ++ (cIs g (ad 2) is ++ (cWa g (ad 3) wa ++ (cSt g (ad 4) st ++ (cHi g (ad 5) (ad 6) hi)))))) H := hP
        have hD : va_D A (cRt ad ++ (cTx g (ad 1) tx5 ++ (cIs g (ad 2) is ++ (cWa g (ad 3) wa ++ (cSt g (ad 4) st ++ (cHi g (ad 5) (ad 6) hi)))))) := hD
        refine lv_aload_n hx hb dX5_append_50 rfl (lv_at hl 0 rfl) ?_
        refine va_get (D := g.1) (ci := 5) (v := .ref ((ad 1) 0)) (C := RX5) (T := TX5) (N := 5) hx hb hts hinX5 hown hK hP 0 rfl rfl 2 (by decide) (hts (.fieldLink RX5 26 "BarredRungs" "text" "LBarredRungs$Text;") (List.mem_of_getElem? (i := 5) rfl)) (fun _ h9 => h9) rfl dX5_append_51 ?_
        refine va_get (D := g.1) (ci := 3) (v := .int (Tx_length tx5)) (C := RX3) (T := TX3) (N := 2) hx hb hts hinX3 hown hK hP 1 rfl rfl 1 (by decide) (hts (.fieldLink RX5 156 "BarredRungs$Text" "length" "I") (List.mem_of_getElem? (i := 6) rfl)) (fun _ h9 => h9) rfl dX5_append_54 ?_
        cases some_i h
        exact hend _ _ _ _ _ hP hD hS (RetOK.i dX5_append_57)
      · have h := if_f c4 h
        cases h
    · have h := if_f c2 h
      cases h
def fX5_bar (tx : Tx) (is : Is) (wa : Wa) (st : St) (hi : Hi) (p1 : Int32) (p2 : Int32) : Option (Nat ⊕ (Int32 × St × Hi)) :=
(if p1 < (0 : Int32) then
(some (.inl 1))
else
(if p1 < (4 : Int32) then
(if p2 < (0 : Int32) then
(some (.inl 2))
else
(if p2 < (8 : Int32) then
(bd (fX0_save st hi) fun (hi5 : Hi) =>
(pl ((((8 : Int32) * (St_place st)) + (St_letter st))) fun (x6 : Int32) =>
(pl (St_set_place st p1) fun (st7 : St) =>
(pl (St_set_letter st7 p2) fun (st8 : St) =>
(some (.inr (x6, st8, hi5)))))))
else
(some (.inl 2))))
else
(some (.inl 1))))
abbrev rX5_bar : Room := { frames := 6, cells := 0, slots := 0, locals := 102 }
theorem hdX5_bar : yX5_bar.cls = RX5 ∧ yX5_bar.cls ≠ "java/lang/invoke/MethodHandle" ∧ yX5_bar.cls ≠ "java/lang/invoke/VarHandle" ∧ (parseMethodDescriptor yX5_bar.desc).map (fun d => d.parameters.length) = some 2 := by decide +kernel
set_option maxRecDepth 100000 in
set_option maxHeartbeats 8000000 in
theorem kX5_bar (l : Launch) (g : GG) (ad : Nat → Nat → Nat) {tx : Tx} {is : Is} {wa : Wa} {st : St} {hi : Hi} {p1 : Int32} {p2 : Int32} {res : Int32} {st' : St} {hi' : Hi} (h : fX5_bar tx is wa st hi p1 p2 = some (.inr (res, st', hi'))) : Cg l g yX5_bar wsX5_bar rX5_bar [.ref ((ad 0) 0), .int p1, .int p2] (cRt ad ++ (cTx g (ad 1) tx ++ (cIs g (ad 2) is ++ (cWa g (ad 3) wa ++ (cSt g (ad 4) st ++ (cHi g (ad 5) (ad 6) hi)))))) (some (.int res)) (cRt ad ++ (cTx g (ad 1) tx ++ (cIs g (ad 2) is ++ (cWa g (ad 3) wa ++ (cSt g (ad 4) st' ++ (cHi g (ad 5) (ad 6) hi')))))) := by
  refine Cg_of (cc := cX5_bar) (maxL := 4) (ret := (some .int)) (by decide +kernel) rfl (Nat.le_of_ble_eq_true rfl) ?_
  intro p e su m args below meth c A Q ls hx hb hml hown hts hK hN hA hnm hP hD hS hl hend
  have hinX5 : ∀ w ∈ u_ws RX5 TX5 5, w ∈ wsX5_bar := fun _ h9 => List.mem_cons_of_mem _ (List.mem_append_left _ (List.mem_append_left _ (List.mem_append_left _ (List.mem_append_left _ (List.mem_append_right _ h9)))))
  have hinX2 : ∀ w ∈ u_ws RX2 TX2 17, w ∈ wsX5_bar := fun _ h9 => List.mem_cons_of_mem _ (List.mem_append_left _ (List.mem_append_left _ (List.mem_append_left _ (List.mem_append_right _ h9))))
  have hinX0 : ∀ w ∈ u_ws RX0 TX0 4, w ∈ wsX5_bar := fun _ h9 => List.mem_cons_of_mem _ (List.mem_append_left _ (List.mem_append_left _ (List.mem_append_right _ h9)))
  unfold fX5_bar at h
  have hl : lv_has ls 4 [(0, .ref ((ad 0) 0)), (1, .int p1), (2, .int p2)] := hl
  refine lv_iload_n hx hb dX5_bar_0 rfl (lv_at hl 1 rfl) ?_
  refine lv_if_lt (tgt := 9) hx hb dX5_bar_1 (by decide) (fun c1 => ?_) (fun c1 => ?_)
  · have h := if_t c1 h
    cases h
  · have h := if_f c1 h
    refine lv_iload_n hx hb dX5_bar_4 rfl (lv_at hl 1 rfl) ?_
    refine lv_iconst (v := 4) hx hb dX5_bar_5 (by decide) ?_
    refine lv_icmp_lt (tgt := 19) hx hb dX5_bar_6 (by decide) (fun c2 => ?_) (fun c2 => ?_)
    · have h := if_t c2 h
      refine lv_iload_n hx hb dX5_bar_19 rfl (lv_at hl 2 rfl) ?_
      refine lv_if_lt (tgt := 29) hx hb dX5_bar_20 (by decide) (fun c3 => ?_) (fun c3 => ?_)
      · have h := if_t c3 h
        cases h
      · have h := if_f c3 h
        refine lv_iload_n hx hb dX5_bar_23 rfl (lv_at hl 2 rfl) ?_
        refine lv_bipush (v := 8) hx hb dX5_bar_24 (by decide) ?_
        refine lv_icmp_lt (tgt := 39) hx hb dX5_bar_26 (by decide) (fun c4 => ?_) (fun c4 => ?_)
        · have h := if_t c4 h
          refine lv_aload_n hx hb dX5_bar_39 rfl (lv_at hl 0 rfl) ?_
          refine va_get (D := g.1) (ci := 5) (v := .ref ((ad 5) 0)) (C := RX5) (T := TX5) (N := 5) hx hb hts hinX5 hown hK hP 0 rfl rfl 1 (by decide) (hts (.fieldLink RX5 19 "BarredRungs" "history" "LBarredRungs$History;") (List.mem_of_getElem? (i := 5) rfl)) (fun _ h9 => h9) rfl dX5_bar_40 ?_
          refine lv_aload_n hx hb dX5_bar_43 rfl (lv_at hl 0 rfl) ?_
          refine va_get (D := g.1) (ci := 5) (v := .ref ((ad 4) 0)) (C := RX5) (T := TX5) (N := 5) hx hb hts hinX5 hown hK hP 0 rfl rfl 0 (by decide) (hts (.fieldLink RX5 12 "BarredRungs" "now" "LBarredRungs$State;") (List.mem_of_getElem? (i := 6) rfl)) (fun _ h9 => h9) rfl dX5_bar_44 ?_
          obtain ⟨hi5, khi5, h⟩ := bd_ex h
          have hP8 : va_P g.1 vwCl ((cRt ad ++ (cTx g (ad 1) tx ++ (cIs g (ad 2) is ++ (cWa g (ad 3) wa)))) ++ ((cSt g (ad 4) st ++ (cHi g (ad 5) (ad 6) hi)) ++ [])) _ := hP
          have hD8 : va_D A ((cRt ad ++ (cTx g (ad 1) tx ++ (cIs g (ad 2) is ++ (cWa g (ad 3) wa)))) ++ ((cSt g (ad 4) st ++ (cHi g (ad 5) (ad 6) hi)) ++ [])) := hD
          refine aft_f (st1 := []) rfl (cRt ad ++ (cTx g (ad 1) tx ++ (cIs g (ad 2) is ++ (cWa g (ad 3) wa)))) [] (runV (As := [.ref ((ad 4) 0)]) (rest := []) ⟨hx, hb, hml, hown, hts⟩ (kX0_save l g (ad 4) (ad 5) (ad 6) khi5) (cwV 1 hts gX5_bar_X0_save rfl rfl rfl hdX0_save ⟨Nat.le_of_ble_eq_true rfl, Nat.le_of_ble_eq_true rfl⟩) hK hN hP8.right.left hD8.right.left (va_recv hK hP (ci := 0) (q0 := 20) rfl rfl) rfl hl.1 rfl (Nat.le_of_ble_eq_true rfl) dX5_bar_47 ⟨Nat.zero_le _, Nat.zero_le _⟩) hP8 hD8 hS hA (fun H locs hP hD hS => ?_)
          have hP : va_P g.1 vwCl (cRt ad ++ (cTx g (ad 1) tx ++ (cIs g (ad 2) is ++ (cWa g (ad 3) wa ++ (cSt g (ad 4) st ++ (cHi g (ad 5) (ad 6) hi5)))))) H := hP
          have hD : va_D A (cRt ad ++ (cTx g (ad 1) tx ++ (cIs g (ad 2) is ++ (cWa g (ad 3) wa ++ (cSt g (ad 4) st ++ (cHi g (ad 5) (ad 6) hi5)))))) := hD
          refine lv_bipush (v := 8) hx hb dX5_bar_50 (by decide) ?_
          refine lv_aload_n hx hb dX5_bar_52 rfl (lv_at hl 0 rfl) ?_
          refine va_get (D := g.1) (ci := 5) (v := .ref ((ad 4) 0)) (C := RX5) (T := TX5) (N := 5) hx hb hts hinX5 hown hK hP 0 rfl rfl 0 (by decide) (hts (.fieldLink RX5 12 "BarredRungs" "now" "LBarredRungs$State;") (List.mem_of_getElem? (i := 6) rfl)) (fun _ h9 => h9) rfl dX5_bar_53 ?_
          refine va_get (D := g.1) (ci := 2) (v := .int (St_place st)) (C := RX2) (T := TX2) (N := 17) hx hb hts hinX2 hown hK hP 10 rfl rfl 10 (by decide) (hts (.fieldLink RX5 85 "BarredRungs$State" "place" "I") (List.mem_of_getElem? (i := 7) rfl)) (fun _ h9 => h9) rfl dX5_bar_56 ?_
          refine lv_imul hx hb dX5_bar_59 ?_
          refine lv_aload_n hx hb dX5_bar_60 rfl (lv_at hl 0 rfl) ?_
          refine va_get (D := g.1) (ci := 5) (v := .ref ((ad 4) 0)) (C := RX5) (T := TX5) (N := 5) hx hb hts hinX5 hown hK hP 0 rfl rfl 0 (by decide) (hts (.fieldLink RX5 12 "BarredRungs" "now" "LBarredRungs$State;") (List.mem_of_getElem? (i := 6) rfl)) (fun _ h9 => h9) rfl dX5_bar_61 ?_
          refine va_get (D := g.1) (ci := 2) (v := .int (St_letter st)) (C := RX2) (T := TX2) (N := 17) hx hb hts hinX2 hown hK hP 10 rfl rfl 11 (by decide) (hts (.fieldLink RX5 89 "BarredRungs$State" "letter" "I") (List.mem_of_getElem? (i := 8) rfl)) (fun _ h9 => h9) rfl dX5_bar_64 ?_
          refine lv_iadd hx hb dX5_bar_67 ?_
          obtain ⟨x6, ex6, h⟩ := pl_ex h
          refine lv_eqi ex6 ?_
          refine lv_istore_n (lv' := [(3, .int x6), (0, .ref ((ad 0) 0)), (1, .int p1), (2, .int p2)]) hx hb dX5_bar_68 rfl hl (by decide) rfl (fun ls hl => ?_)
          refine lv_aload_n hx hb dX5_bar_69 rfl (lv_at hl 1 rfl) ?_
          refine va_get (D := g.1) (ci := 5) (v := .ref ((ad 4) 0)) (C := RX5) (T := TX5) (N := 5) hx hb hts hinX5 hown hK hP 0 rfl rfl 0 (by decide) (hts (.fieldLink RX5 12 "BarredRungs" "now" "LBarredRungs$State;") (List.mem_of_getElem? (i := 6) rfl)) (fun _ h9 => h9) rfl dX5_bar_70 ?_
          refine lv_iload_n hx hb dX5_bar_73 rfl (lv_at hl 2 rfl) ?_
          obtain ⟨st7, est7, h⟩ := pl_ex h
          refine va_put (D := g.1) (ci := 2) (v := .int p1) (ty := .int) (C := RX2) (T := TX2) (N := 17) hx hb hts hinX2 tyX2 tyX2_ok nmX2 hown hK hP hD hS 10 rfl rfl 10 (by decide) (hts (.fieldLink RX5 85 "BarredRungs$State" "place" "I") (List.mem_of_getElem? (i := 7) rfl)) (fun _ h9 => h9) rfl (by decide +kernel) rfl rfl (Nat.le_of_ble_eq_true rfl) dX5_bar_74 (fun H locs hP hD hS => ?_)
          have hP : va_P g.1 vwCl (cRt ad ++ (cTx g (ad 1) tx ++ (cIs g (ad 2) is ++ (cWa g (ad 3) wa ++ (cSt g (ad 4) st7 ++ (cHi g (ad 5) (ad 6) hi5)))))) H := by rw [← est7]; exact hP
          have hD : va_D A (cRt ad ++ (cTx g (ad 1) tx ++ (cIs g (ad 2) is ++ (cWa g (ad 3) wa ++ (cSt g (ad 4) st7 ++ (cHi g (ad 5) (ad 6) hi5)))))) := by rw [← est7]; exact hD
          refine lv_aload_n hx hb dX5_bar_77 rfl (lv_at hl 1 rfl) ?_
          refine va_get (D := g.1) (ci := 5) (v := .ref ((ad 4) 0)) (C := RX5) (T := TX5) (N := 5) hx hb hts hinX5 hown hK hP 0 rfl rfl 0 (by decide) (hts (.fieldLink RX5 12 "BarredRungs" "now" "LBarredRungs$State;") (List.mem_of_getElem? (i := 6) rfl)) (fun _ h9 => h9) rfl dX5_bar_78 ?_
          refine lv_iload_n hx hb dX5_bar_81 rfl (lv_at hl 3 rfl) ?_
          obtain ⟨st8, est8, h⟩ := pl_ex h
          refine va_put (D := g.1) (ci := 2) (v := .int p2) (ty := .int) (C := RX2) (T := TX2) (N := 17) hx hb hts hinX2 tyX2 tyX2_ok nmX2 hown hK hP hD hS 10 rfl rfl 11 (by decide) (hts (.fieldLink RX5 89 "BarredRungs$State" "letter" "I") (List.mem_of_getElem? (i := 8) rfl)) (fun _ h9 => h9) rfl (by decide +kernel) rfl rfl (Nat.le_of_ble_eq_true rfl) dX5_bar_82 (fun H locs hP hD hS => ?_)
          have hP : va_P g.1 vwCl (cRt ad ++ (cTx g (ad 1) tx ++ (cIs g (ad 2) is ++ (cWa g (ad 3) wa ++ (cSt g (ad 4) st8 ++ (cHi g (ad 5) (ad 6) hi5)))))) H := by rw [← est8]; exact hP
          have hD : va_D A (cRt ad ++ (cTx g (ad 1) tx ++ (cIs g (ad 2) is ++ (cWa g (ad 3) wa ++ (cSt g (ad 4) st8 ++ (cHi g (ad 5) (ad 6) hi5)))))) := by rw [← est8]; exact hD
          refine lv_iload_n hx hb dX5_bar_85 rfl (lv_at hl 0 rfl) ?_
          cases some_i h
          exact hend _ _ _ _ _ hP hD hS (RetOK.i dX5_bar_86)
        · have h := if_f c4 h
          cases h
    · have h := if_f c2 h
      cases h
def fX5_clearBuffer (tx : Tx) (is : Is) (wa : Wa) (st : St) (hi : Hi) : Option (Int32 × Tx) :=
(pl ((Tx_length tx)) fun (x1 : Int32) =>
(bd (fX3_empty tx) fun (tx2 : Tx) =>
(some (x1, tx2))))
abbrev rX5_clearBuffer : Room := { frames := 1, cells := 0, slots := 0, locals := 20 }
theorem hdX5_clearBuffer : yX5_clearBuffer.cls = RX5 ∧ yX5_clearBuffer.cls ≠ "java/lang/invoke/MethodHandle" ∧ yX5_clearBuffer.cls ≠ "java/lang/invoke/VarHandle" ∧ (parseMethodDescriptor yX5_clearBuffer.desc).map (fun d => d.parameters.length) = some 0 := by decide +kernel
set_option maxRecDepth 100000 in
set_option maxHeartbeats 8000000 in
theorem kX5_clearBuffer (l : Launch) (g : GG) (ad : Nat → Nat → Nat) {tx : Tx} {is : Is} {wa : Wa} {st : St} {hi : Hi} {res : Int32} {tx' : Tx} (h : fX5_clearBuffer tx is wa st hi = some (res, tx')) : Cg l g yX5_clearBuffer wsX5_clearBuffer rX5_clearBuffer [.ref ((ad 0) 0)] (cRt ad ++ (cTx g (ad 1) tx ++ (cIs g (ad 2) is ++ (cWa g (ad 3) wa ++ (cSt g (ad 4) st ++ (cHi g (ad 5) (ad 6) hi)))))) (some (.int res)) (cRt ad ++ (cTx g (ad 1) tx' ++ (cIs g (ad 2) is ++ (cWa g (ad 3) wa ++ (cSt g (ad 4) st ++ (cHi g (ad 5) (ad 6) hi)))))) := by
  refine Cg_of (cc := cX5_clearBuffer) (maxL := 2) (ret := (some .int)) (by decide +kernel) rfl (Nat.le_of_ble_eq_true rfl) ?_
  intro p e su m args below meth c A Q ls hx hb hml hown hts hK hN hA hnm hP hD hS hl hend
  have hinX5 : ∀ w ∈ u_ws RX5 TX5 5, w ∈ wsX5_clearBuffer := fun _ h9 => List.mem_cons_of_mem _ (List.mem_append_left _ (List.mem_append_right _ h9))
  have hinX3 : ∀ w ∈ u_ws RX3 TX3 2, w ∈ wsX5_clearBuffer := fun _ h9 => List.mem_cons_of_mem _ (List.mem_append_right _ h9)
  unfold fX5_clearBuffer at h
  have hl : lv_has ls 2 [(0, .ref ((ad 0) 0))] := hl
  refine lv_aload_n hx hb dX5_clearBuffer_0 rfl (lv_at hl 0 rfl) ?_
  refine va_get (D := g.1) (ci := 5) (v := .ref ((ad 1) 0)) (C := RX5) (T := TX5) (N := 5) hx hb hts hinX5 hown hK hP 0 rfl rfl 2 (by decide) (hts (.fieldLink RX5 26 "BarredRungs" "text" "LBarredRungs$Text;") (List.mem_of_getElem? (i := 1) rfl)) (fun _ h9 => h9) rfl dX5_clearBuffer_1 ?_
  refine va_get (D := g.1) (ci := 3) (v := .int (Tx_length tx)) (C := RX3) (T := TX3) (N := 2) hx hb hts hinX3 hown hK hP 1 rfl rfl 1 (by decide) (hts (.fieldLink RX5 156 "BarredRungs$Text" "length" "I") (List.mem_of_getElem? (i := 2) rfl)) (fun _ h9 => h9) rfl dX5_clearBuffer_4 ?_
  obtain ⟨x1, ex1, h⟩ := pl_ex h
  refine lv_eqi ex1 ?_
  refine lv_istore_n (lv' := [(1, .int x1), (0, .ref ((ad 0) 0))]) hx hb dX5_clearBuffer_7 rfl hl (by decide) rfl (fun ls hl => ?_)
  refine lv_aload_n hx hb dX5_clearBuffer_8 rfl (lv_at hl 1 rfl) ?_
  refine va_get (D := g.1) (ci := 5) (v := .ref ((ad 1) 0)) (C := RX5) (T := TX5) (N := 5) hx hb hts hinX5 hown hK hP 0 rfl rfl 2 (by decide) (hts (.fieldLink RX5 26 "BarredRungs" "text" "LBarredRungs$Text;") (List.mem_of_getElem? (i := 1) rfl)) (fun _ h9 => h9) rfl dX5_clearBuffer_9 ?_
  obtain ⟨tx2, ktx2, h⟩ := bd_ex h
  have hP8 : va_P g.1 vwCl ((cRt ad) ++ ((cTx g (ad 1) tx) ++ (cIs g (ad 2) is ++ (cWa g (ad 3) wa ++ (cSt g (ad 4) st ++ (cHi g (ad 5) (ad 6) hi)))))) _ := hP
  have hD8 : va_D A ((cRt ad) ++ ((cTx g (ad 1) tx) ++ (cIs g (ad 2) is ++ (cWa g (ad 3) wa ++ (cSt g (ad 4) st ++ (cHi g (ad 5) (ad 6) hi)))))) := hD
  refine aft_f (st1 := []) rfl (cRt ad) (cIs g (ad 2) is ++ (cWa g (ad 3) wa ++ (cSt g (ad 4) st ++ (cHi g (ad 5) (ad 6) hi)))) (runV (As := []) (rest := []) ⟨hx, hb, hml, hown, hts⟩ (kX3_empty l g (ad 1) ktx2) (cwV 0 hts gX5_clearBuffer_X3_empty rfl rfl rfl hdX3_empty ⟨Nat.le_of_ble_eq_true rfl, Nat.le_of_ble_eq_true rfl⟩) hK hN hP8.right.left hD8.right.left (va_recv hK hP (ci := 3) (q0 := 1) rfl rfl) rfl hl.1 rfl (Nat.le_of_ble_eq_true rfl) dX5_clearBuffer_12 ⟨Nat.zero_le _, Nat.zero_le _⟩) hP8 hD8 hS hA (fun H locs hP hD hS => ?_)
  have hP : va_P g.1 vwCl (cRt ad ++ (cTx g (ad 1) tx2 ++ (cIs g (ad 2) is ++ (cWa g (ad 3) wa ++ (cSt g (ad 4) st ++ (cHi g (ad 5) (ad 6) hi)))))) H := hP
  have hD : va_D A (cRt ad ++ (cTx g (ad 1) tx2 ++ (cIs g (ad 2) is ++ (cWa g (ad 3) wa ++ (cSt g (ad 4) st ++ (cHi g (ad 5) (ad 6) hi)))))) := hD
  refine lv_iload_n hx hb dX5_clearBuffer_15 rfl (lv_at hl 0 rfl) ?_
  cases some_i h
  exact hend _ _ _ _ _ hP hD hS (RetOK.i dX5_clearBuffer_16)
def fX5_climb (tx : Tx) (is : Is) (wa : Wa) (st : St) (hi : Hi) (p1 : Int32) (p2 : Int32) : Option (Nat ⊕ (Int32 × St × Hi)) :=
(bd (fX5_isClimber p1) fun (r1 : Int32) =>
(if r1 = (0 : Int32) then
(some (.inl 1))
else
(bd (fX2_hasWord st p2) fun (r3 : Int32) =>
(if r3 = (0 : Int32) then
(some (.inl 1))
else
(bd (fX2_hindrance st p1 p2) fun (r5 : Int32) =>
(if r5 = (0 : Int32) then
(bd (fX0_save st hi) fun (hi7 : Hi) =>
(bd2 (fX2_move st p1 p2) fun (r8 : Int32) (st9 : St) =>
(if r8 = (0 : Int32) then
(some (.inr ((0 : Int32), st9, hi7)))
else
(some (.inr ((1 : Int32), st9, hi7))))))
else
(some (.inl 3))))))))
abbrev rX5_climb : Room := { frames := 6, cells := 0, slots := 0, locals := 102 }
theorem hdX5_climb : yX5_climb.cls = RX5 ∧ yX5_climb.cls ≠ "java/lang/invoke/MethodHandle" ∧ yX5_climb.cls ≠ "java/lang/invoke/VarHandle" ∧ (parseMethodDescriptor yX5_climb.desc).map (fun d => d.parameters.length) = some 2 := by decide +kernel
set_option maxRecDepth 100000 in
set_option maxHeartbeats 8000000 in
theorem kX5_climb (l : Launch) (g : GG) (ad : Nat → Nat → Nat) {tx : Tx} {is : Is} {wa : Wa} {st : St} {hi : Hi} {p1 : Int32} {p2 : Int32} {res : Int32} {st' : St} {hi' : Hi} (h : fX5_climb tx is wa st hi p1 p2 = some (.inr (res, st', hi'))) : Cg l g yX5_climb wsX5_climb rX5_climb [.ref ((ad 0) 0), .int p1, .int p2] (cRt ad ++ (cTx g (ad 1) tx ++ (cIs g (ad 2) is ++ (cWa g (ad 3) wa ++ (cSt g (ad 4) st ++ (cHi g (ad 5) (ad 6) hi)))))) (some (.int res)) (cRt ad ++ (cTx g (ad 1) tx ++ (cIs g (ad 2) is ++ (cWa g (ad 3) wa ++ (cSt g (ad 4) st' ++ (cHi g (ad 5) (ad 6) hi')))))) := by
  refine Cg_of (cc := cX5_climb) (maxL := 3) (ret := (some .int)) (by decide +kernel) rfl (Nat.le_of_ble_eq_true rfl) ?_
  intro p e su m args below meth c A Q ls hx hb hml hown hts hK hN hA hnm hP hD hS hl hend
  have hinX5 : ∀ w ∈ u_ws RX5 TX5 5, w ∈ wsX5_climb := fun _ h9 => List.mem_cons_of_mem _ (List.mem_append_left _ (List.mem_append_left _ (List.mem_append_left _ (List.mem_append_left _ (List.mem_append_right _ h9)))))
  have hinX2 : ∀ w ∈ u_ws RX2 TX2 17, w ∈ wsX5_climb := fun _ h9 => List.mem_cons_of_mem _ (List.mem_append_left _ (List.mem_append_left _ (List.mem_append_left _ (List.mem_append_right _ h9))))
  have hinX0 : ∀ w ∈ u_ws RX0 TX0 4, w ∈ wsX5_climb := fun _ h9 => List.mem_cons_of_mem _ (List.mem_append_left _ (List.mem_append_left _ (List.mem_append_right _ h9)))
  unfold fX5_climb at h
  have hl : lv_has ls 3 [(0, .ref ((ad 0) 0)), (1, .int p1), (2, .int p2)] := hl
  refine lv_iload_n hx hb dX5_climb_0 rfl (lv_at hl 1 rfl) ?_
  obtain ⟨r1, kr1, h⟩ := bd_ex h
  refine aft_e (st1 := [.int r1]) rfl (runS (As := [.int p1]) (rest := []) ⟨hx, hb, hml, hown, hts⟩ (kX5_isClimber l g kr1) (va_cwS 1 hts gX5_climb_X5_isClimber rfl rfl rfl hdX5_isClimber.2 ⟨Nat.le_of_ble_eq_true rfl, Nat.le_of_ble_eq_true rfl⟩) hK hN nilP (nilD (A := A)) rfl hl.1 rfl (Nat.le_of_ble_eq_true rfl) dX5_climb_1 ⟨Nat.zero_le _, Nat.zero_le _⟩) hP hS hA (fun H locs hP hS => ?_)
  refine lv_if_eq (tgt := 18) hx hb dX5_climb_4 (by decide) (fun c2 => ?_) (fun c2 => ?_)
  · have h := if_t c2 h
    cases h
  · have h := if_f c2 h
    refine lv_aload_n hx hb dX5_climb_7 rfl (lv_at hl 0 rfl) ?_
    refine va_get (D := g.1) (ci := 5) (v := .ref ((ad 4) 0)) (C := RX5) (T := TX5) (N := 5) hx hb hts hinX5 hown hK hP 0 rfl rfl 0 (by decide) (hts (.fieldLink RX5 12 "BarredRungs" "now" "LBarredRungs$State;") (List.mem_of_getElem? (i := 5) rfl)) (fun _ h9 => h9) rfl dX5_climb_8 ?_
    refine lv_iload_n hx hb dX5_climb_11 rfl (lv_at hl 2 rfl) ?_
    obtain ⟨r3, kr3, h⟩ := bd_ex h
    have hP8 : va_P g.1 vwCl ((cRt ad ++ (cTx g (ad 1) tx ++ (cIs g (ad 2) is ++ (cWa g (ad 3) wa)))) ++ ((cSt g (ad 4) st) ++ (cHi g (ad 5) (ad 6) hi))) _ := hP
    have hD8 : va_D A ((cRt ad ++ (cTx g (ad 1) tx ++ (cIs g (ad 2) is ++ (cWa g (ad 3) wa)))) ++ ((cSt g (ad 4) st) ++ (cHi g (ad 5) (ad 6) hi))) := hD
    refine aft_f (st1 := [.int r3]) rfl (cRt ad ++ (cTx g (ad 1) tx ++ (cIs g (ad 2) is ++ (cWa g (ad 3) wa)))) (cHi g (ad 5) (ad 6) hi) (runV (As := [.int p2]) (rest := []) ⟨hx, hb, hml, hown, hts⟩ (kX2_hasWord l g (ad 4) kr3) (cwV 1 hts gX5_climb_X2_hasWord rfl rfl rfl hdX2_hasWord ⟨Nat.le_of_ble_eq_true rfl, Nat.le_of_ble_eq_true rfl⟩) hK hN hP8.right.left hD8.right.left (va_recv hK hP (ci := 2) (q0 := 10) rfl rfl) rfl hl.1 rfl (Nat.le_of_ble_eq_true rfl) dX5_climb_12 ⟨Nat.zero_le _, Nat.zero_le _⟩) hP8 hD8 hS hA (fun H locs hP hD hS => ?_)
    have hP : va_P g.1 vwCl (cRt ad ++ (cTx g (ad 1) tx ++ (cIs g (ad 2) is ++ (cWa g (ad 3) wa ++ (cSt g (ad 4) st ++ (cHi g (ad 5) (ad 6) hi)))))) H := hP
    have hD : va_D A (cRt ad ++ (cTx g (ad 1) tx ++ (cIs g (ad 2) is ++ (cWa g (ad 3) wa ++ (cSt g (ad 4) st ++ (cHi g (ad 5) (ad 6) hi)))))) := hD
    refine lv_if_ne (tgt := 28) hx hb dX5_climb_15 (by decide) (fun c4 => ?_) (fun c4 => ?_)
    · have h := if_f c4 h
      refine lv_aload_n hx hb dX5_climb_28 rfl (lv_at hl 0 rfl) ?_
      refine va_get (D := g.1) (ci := 5) (v := .ref ((ad 4) 0)) (C := RX5) (T := TX5) (N := 5) hx hb hts hinX5 hown hK hP 0 rfl rfl 0 (by decide) (hts (.fieldLink RX5 12 "BarredRungs" "now" "LBarredRungs$State;") (List.mem_of_getElem? (i := 5) rfl)) (fun _ h9 => h9) rfl dX5_climb_29 ?_
      refine lv_iload_n hx hb dX5_climb_32 rfl (lv_at hl 1 rfl) ?_
      refine lv_iload_n hx hb dX5_climb_33 rfl (lv_at hl 2 rfl) ?_
      obtain ⟨r5, kr5, h⟩ := bd_ex h
      have hP8 : va_P g.1 vwCl ((cRt ad ++ (cTx g (ad 1) tx ++ (cIs g (ad 2) is ++ (cWa g (ad 3) wa)))) ++ ((cSt g (ad 4) st) ++ (cHi g (ad 5) (ad 6) hi))) _ := hP
      have hD8 : va_D A ((cRt ad ++ (cTx g (ad 1) tx ++ (cIs g (ad 2) is ++ (cWa g (ad 3) wa)))) ++ ((cSt g (ad 4) st) ++ (cHi g (ad 5) (ad 6) hi))) := hD
      refine aft_f (st1 := [.int r5]) rfl (cRt ad ++ (cTx g (ad 1) tx ++ (cIs g (ad 2) is ++ (cWa g (ad 3) wa)))) (cHi g (ad 5) (ad 6) hi) (runV (As := [.int p1, .int p2]) (rest := []) ⟨hx, hb, hml, hown, hts⟩ (kX2_hindrance l g (ad 4) kr5) (cwV 2 hts gX5_climb_X2_hindrance rfl rfl rfl hdX2_hindrance ⟨Nat.le_of_ble_eq_true rfl, Nat.le_of_ble_eq_true rfl⟩) hK hN hP8.right.left hD8.right.left (va_recv hK hP (ci := 2) (q0 := 10) rfl rfl) rfl hl.1 rfl (Nat.le_of_ble_eq_true rfl) dX5_climb_34 ⟨Nat.zero_le _, Nat.zero_le _⟩) hP8 hD8 hS hA (fun H locs hP hD hS => ?_)
      have hP : va_P g.1 vwCl (cRt ad ++ (cTx g (ad 1) tx ++ (cIs g (ad 2) is ++ (cWa g (ad 3) wa ++ (cSt g (ad 4) st ++ (cHi g (ad 5) (ad 6) hi)))))) H := hP
      have hD : va_D A (cRt ad ++ (cTx g (ad 1) tx ++ (cIs g (ad 2) is ++ (cWa g (ad 3) wa ++ (cSt g (ad 4) st ++ (cHi g (ad 5) (ad 6) hi)))))) := hD
      refine lv_if_eq (tgt := 50) hx hb dX5_climb_37 (by decide) (fun c6 => ?_) (fun c6 => ?_)
      · have h := if_t c6 h
        refine lv_aload_n hx hb dX5_climb_50 rfl (lv_at hl 0 rfl) ?_
        refine va_get (D := g.1) (ci := 5) (v := .ref ((ad 5) 0)) (C := RX5) (T := TX5) (N := 5) hx hb hts hinX5 hown hK hP 0 rfl rfl 1 (by decide) (hts (.fieldLink RX5 19 "BarredRungs" "history" "LBarredRungs$History;") (List.mem_of_getElem? (i := 6) rfl)) (fun _ h9 => h9) rfl dX5_climb_51 ?_
        refine lv_aload_n hx hb dX5_climb_54 rfl (lv_at hl 0 rfl) ?_
        refine va_get (D := g.1) (ci := 5) (v := .ref ((ad 4) 0)) (C := RX5) (T := TX5) (N := 5) hx hb hts hinX5 hown hK hP 0 rfl rfl 0 (by decide) (hts (.fieldLink RX5 12 "BarredRungs" "now" "LBarredRungs$State;") (List.mem_of_getElem? (i := 5) rfl)) (fun _ h9 => h9) rfl dX5_climb_55 ?_
        obtain ⟨hi7, khi7, h⟩ := bd_ex h
        have hP8 : va_P g.1 vwCl ((cRt ad ++ (cTx g (ad 1) tx ++ (cIs g (ad 2) is ++ (cWa g (ad 3) wa)))) ++ ((cSt g (ad 4) st ++ (cHi g (ad 5) (ad 6) hi)) ++ [])) _ := hP
        have hD8 : va_D A ((cRt ad ++ (cTx g (ad 1) tx ++ (cIs g (ad 2) is ++ (cWa g (ad 3) wa)))) ++ ((cSt g (ad 4) st ++ (cHi g (ad 5) (ad 6) hi)) ++ [])) := hD
        refine aft_f (st1 := []) rfl (cRt ad ++ (cTx g (ad 1) tx ++ (cIs g (ad 2) is ++ (cWa g (ad 3) wa)))) [] (runV (As := [.ref ((ad 4) 0)]) (rest := []) ⟨hx, hb, hml, hown, hts⟩ (kX0_save l g (ad 4) (ad 5) (ad 6) khi7) (cwV 1 hts gX5_climb_X0_save rfl rfl rfl hdX0_save ⟨Nat.le_of_ble_eq_true rfl, Nat.le_of_ble_eq_true rfl⟩) hK hN hP8.right.left hD8.right.left (va_recv hK hP (ci := 0) (q0 := 20) rfl rfl) rfl hl.1 rfl (Nat.le_of_ble_eq_true rfl) dX5_climb_58 ⟨Nat.zero_le _, Nat.zero_le _⟩) hP8 hD8 hS hA (fun H locs hP hD hS => ?_)
        have hP : va_P g.1 vwCl (cRt ad ++ (cTx g (ad 1) tx ++ (cIs g (ad 2) is ++ (cWa g (ad 3) wa ++ (cSt g (ad 4) st ++ (cHi g (ad 5) (ad 6) hi7)))))) H := hP
        have hD : va_D A (cRt ad ++ (cTx g (ad 1) tx ++ (cIs g (ad 2) is ++ (cWa g (ad 3) wa ++ (cSt g (ad 4) st ++ (cHi g (ad 5) (ad 6) hi7)))))) := hD
        refine lv_aload_n hx hb dX5_climb_61 rfl (lv_at hl 0 rfl) ?_
        refine va_get (D := g.1) (ci := 5) (v := .ref ((ad 4) 0)) (C := RX5) (T := TX5) (N := 5) hx hb hts hinX5 hown hK hP 0 rfl rfl 0 (by decide) (hts (.fieldLink RX5 12 "BarredRungs" "now" "LBarredRungs$State;") (List.mem_of_getElem? (i := 5) rfl)) (fun _ h9 => h9) rfl dX5_climb_62 ?_
        refine lv_iload_n hx hb dX5_climb_65 rfl (lv_at hl 1 rfl) ?_
        refine lv_iload_n hx hb dX5_climb_66 rfl (lv_at hl 2 rfl) ?_
        obtain ⟨r8, st9, kr8, h⟩ := bd2_ex h
        have hP8 : va_P g.1 vwCl ((cRt ad ++ (cTx g (ad 1) tx ++ (cIs g (ad 2) is ++ (cWa g (ad 3) wa)))) ++ ((cSt g (ad 4) st) ++ (cHi g (ad 5) (ad 6) hi7))) _ := hP
        have hD8 : va_D A ((cRt ad ++ (cTx g (ad 1) tx ++ (cIs g (ad 2) is ++ (cWa g (ad 3) wa)))) ++ ((cSt g (ad 4) st) ++ (cHi g (ad 5) (ad 6) hi7))) := hD
        refine aft_f (st1 := [.int r8]) rfl (cRt ad ++ (cTx g (ad 1) tx ++ (cIs g (ad 2) is ++ (cWa g (ad 3) wa)))) (cHi g (ad 5) (ad 6) hi7) (runV (As := [.int p1, .int p2]) (rest := []) ⟨hx, hb, hml, hown, hts⟩ (kX2_move l g (ad 4) kr8) (cwV 2 hts gX5_climb_X2_move rfl rfl rfl hdX2_move ⟨Nat.le_of_ble_eq_true rfl, Nat.le_of_ble_eq_true rfl⟩) hK hN hP8.right.left hD8.right.left (va_recv hK hP (ci := 2) (q0 := 10) rfl rfl) rfl hl.1 rfl (Nat.le_of_ble_eq_true rfl) dX5_climb_67 ⟨Nat.zero_le _, Nat.zero_le _⟩) hP8 hD8 hS hA (fun H locs hP hD hS => ?_)
        have hP : va_P g.1 vwCl (cRt ad ++ (cTx g (ad 1) tx ++ (cIs g (ad 2) is ++ (cWa g (ad 3) wa ++ (cSt g (ad 4) st9 ++ (cHi g (ad 5) (ad 6) hi7)))))) H := hP
        have hD : va_D A (cRt ad ++ (cTx g (ad 1) tx ++ (cIs g (ad 2) is ++ (cWa g (ad 3) wa ++ (cSt g (ad 4) st9 ++ (cHi g (ad 5) (ad 6) hi7)))))) := hD
        refine lv_if_eq (tgt := 77) hx hb dX5_climb_70 (by decide) (fun c10 => ?_) (fun c10 => ?_)
        · have h := if_t c10 h
          refine lv_iconst (v := 0) hx hb dX5_climb_77 (by decide) ?_
          cases some_i h
          exact hend _ _ _ _ _ hP hD hS (RetOK.i dX5_climb_78)
        · have h := if_f c10 h
          refine lv_iconst (v := 1) hx hb dX5_climb_73 (by decide) ?_
          refine lv_goto (tgt := 78) hx hb dX5_climb_74 (by decide) ?_
          cases some_i h
          exact hend _ _ _ _ _ hP hD hS (RetOK.i dX5_climb_78)
      · have h := if_f c6 h
        cases h
    · have h := if_t c4 h
      cases h
def fX5_climberNumber (tx : Tx) (is : Is) (wa : Wa) (st : St) (hi : Hi) (p1 : Int32) (p2 : Int32) : Option (Int32 × Wa) :=
(if (7 : Int32) ≤ p2 then
(bd (fX2_wordUnder st p1) fun (r2 : Int32) =>
(if r2 = (-1 : Int32) then
(some ((-1 : Int32), wa))
else
(bd (fX2_climberFact st p1 (2 : Int32)) fun (r4 : Int32) =>
(bd (fX2_climberFact st p1 (3 : Int32)) fun (r5 : Int32) =>
(if r5 = (1 : Int32) then
(if p2 = (7 : Int32) then
(bd2 (fX4_onward wa st r2 r4 (1 : Int32)) fun (r16 : Int32) (wa17 : Wa) =>
(some (r16, wa17)))
else
(if p2 = (8 : Int32) then
(bd2 (fX4_backwards wa st r2 r4 (1 : Int32)) fun (r19 : Int32) (wa20 : Wa) =>
(some (r19, wa20)))
else
(bd2 (fX4_firstWord wa st r2 r4 (1 : Int32)) fun (r21 : Int32) (wa22 : Wa) =>
(some (r21, wa22)))))
else
(if p2 = (7 : Int32) then
(bd2 (fX4_onward wa st r2 r4 (0 : Int32)) fun (r8 : Int32) (wa9 : Wa) =>
(some (r8, wa9)))
else
(if p2 = (8 : Int32) then
(bd2 (fX4_backwards wa st r2 r4 (0 : Int32)) fun (r11 : Int32) (wa12 : Wa) =>
(some (r11, wa12)))
else
(bd2 (fX4_firstWord wa st r2 r4 (0 : Int32)) fun (r13 : Int32) (wa14 : Wa) =>
(some (r13, wa14))))))))))
else
(bd (fX2_climberFact st p1 p2) fun (r23 : Int32) =>
(some (r23, wa))))
abbrev rX5_climberNumber : Room := { frames := 5, cells := 0, slots := 0, locals := 123 }
theorem hdX5_climberNumber : yX5_climberNumber.cls = RX5 ∧ yX5_climberNumber.cls ≠ "java/lang/invoke/MethodHandle" ∧ yX5_climberNumber.cls ≠ "java/lang/invoke/VarHandle" ∧ (parseMethodDescriptor yX5_climberNumber.desc).map (fun d => d.parameters.length) = some 2 := by decide +kernel
set_option maxRecDepth 100000 in
set_option maxHeartbeats 8000000 in
theorem kX5_climberNumber (l : Launch) (g : GG) (ad : Nat → Nat → Nat) {tx : Tx} {is : Is} {wa : Wa} {st : St} {hi : Hi} {p1 : Int32} {p2 : Int32} {res : Int32} {wa' : Wa} (h : fX5_climberNumber tx is wa st hi p1 p2 = some (res, wa')) : Cg l g yX5_climberNumber wsX5_climberNumber rX5_climberNumber [.ref ((ad 0) 0), .int p1, .int p2] (cRt ad ++ (cTx g (ad 1) tx ++ (cIs g (ad 2) is ++ (cWa g (ad 3) wa ++ (cSt g (ad 4) st ++ (cHi g (ad 5) (ad 6) hi)))))) (some (.int res)) (cRt ad ++ (cTx g (ad 1) tx ++ (cIs g (ad 2) is ++ (cWa g (ad 3) wa' ++ (cSt g (ad 4) st ++ (cHi g (ad 5) (ad 6) hi)))))) := by
  refine Cg_of (cc := cX5_climberNumber) (maxL := 6) (ret := (some .int)) (by decide +kernel) rfl (Nat.le_of_ble_eq_true rfl) ?_
  intro p e su m args below meth c A Q ls hx hb hml hown hts hK hN hA hnm hP hD hS hl hend
  have hinX5 : ∀ w ∈ u_ws RX5 TX5 5, w ∈ wsX5_climberNumber := fun _ h9 => List.mem_cons_of_mem _ (List.mem_append_left _ (List.mem_append_left _ (List.mem_append_right _ h9)))
  have hinX2 : ∀ w ∈ u_ws RX2 TX2 17, w ∈ wsX5_climberNumber := fun _ h9 => List.mem_cons_of_mem _ (List.mem_append_left _ (List.mem_append_right _ h9))
  have hinX4 : ∀ w ∈ u_ws RX4 TX4 4, w ∈ wsX5_climberNumber := fun _ h9 => List.mem_cons_of_mem _ (List.mem_append_right _ h9)
  unfold fX5_climberNumber at h
  have hl : lv_has ls 6 [(0, .ref ((ad 0) 0)), (1, .int p1), (2, .int p2)] := hl
  refine lv_iload_n hx hb dX5_climberNumber_0 rfl (lv_at hl 2 rfl) ?_
  refine lv_bipush (v := 7) hx hb dX5_climberNumber_1 (by decide) ?_
  refine lv_icmp_ge (tgt := 16) hx hb dX5_climberNumber_3 (by decide) (fun c1 => ?_) (fun c1 => ?_)
  · have h := if_t c1 h
    refine lv_aload_n hx hb dX5_climberNumber_16 rfl (lv_at hl 0 rfl) ?_
    refine va_get (D := g.1) (ci := 5) (v := .ref ((ad 4) 0)) (C := RX5) (T := TX5) (N := 5) hx hb hts hinX5 hown hK hP 0 rfl rfl 0 (by decide) (hts (.fieldLink RX5 12 "BarredRungs" "now" "LBarredRungs$State;") (List.mem_of_getElem? (i := 1) rfl)) (fun _ h9 => h9) rfl dX5_climberNumber_17 ?_
    refine lv_iload_n hx hb dX5_climberNumber_20 rfl (lv_at hl 1 rfl) ?_
    obtain ⟨r2, kr2, h⟩ := bd_ex h
    have hP8 : va_P g.1 vwCl ((cRt ad ++ (cTx g (ad 1) tx ++ (cIs g (ad 2) is ++ (cWa g (ad 3) wa)))) ++ ((cSt g (ad 4) st) ++ (cHi g (ad 5) (ad 6) hi))) _ := hP
    have hD8 : va_D A ((cRt ad ++ (cTx g (ad 1) tx ++ (cIs g (ad 2) is ++ (cWa g (ad 3) wa)))) ++ ((cSt g (ad 4) st) ++ (cHi g (ad 5) (ad 6) hi))) := hD
    refine aft_f (st1 := [.int r2]) rfl (cRt ad ++ (cTx g (ad 1) tx ++ (cIs g (ad 2) is ++ (cWa g (ad 3) wa)))) (cHi g (ad 5) (ad 6) hi) (runV (As := [.int p1]) (rest := []) ⟨hx, hb, hml, hown, hts⟩ (kX2_wordUnder l g (ad 4) kr2) (cwV 1 hts gX5_climberNumber_X2_wordUnder rfl rfl rfl hdX2_wordUnder ⟨Nat.le_of_ble_eq_true rfl, Nat.le_of_ble_eq_true rfl⟩) hK hN hP8.right.left hD8.right.left (va_recv hK hP (ci := 2) (q0 := 10) rfl rfl) rfl hl.1 rfl (Nat.le_of_ble_eq_true rfl) dX5_climberNumber_21 ⟨Nat.zero_le _, Nat.zero_le _⟩) hP8 hD8 hS hA (fun H locs hP hD hS => ?_)
    have hP : va_P g.1 vwCl (cRt ad ++ (cTx g (ad 1) tx ++ (cIs g (ad 2) is ++ (cWa g (ad 3) wa ++ (cSt g (ad 4) st ++ (cHi g (ad 5) (ad 6) hi)))))) H := hP
    have hD : va_D A (cRt ad ++ (cTx g (ad 1) tx ++ (cIs g (ad 2) is ++ (cWa g (ad 3) wa ++ (cSt g (ad 4) st ++ (cHi g (ad 5) (ad 6) hi)))))) := hD
    refine lv_istore_n (lv' := [(3, .int r2), (0, .ref ((ad 0) 0)), (1, .int p1), (2, .int p2)]) hx hb dX5_climberNumber_24 rfl hl (by decide) rfl (fun ls hl => ?_)
    refine lv_iload_n hx hb dX5_climberNumber_25 rfl (lv_at hl 0 rfl) ?_
    refine lv_iconst (v := -1) hx hb dX5_climberNumber_26 (by decide) ?_
    refine lv_icmp_ne (tgt := 32) hx hb dX5_climberNumber_27 (by decide) (fun c3 => ?_) (fun c3 => ?_)
    · have h := if_f c3 h
      refine lv_aload_n hx hb dX5_climberNumber_32 rfl (lv_at hl 1 rfl) ?_
      refine va_get (D := g.1) (ci := 5) (v := .ref ((ad 4) 0)) (C := RX5) (T := TX5) (N := 5) hx hb hts hinX5 hown hK hP 0 rfl rfl 0 (by decide) (hts (.fieldLink RX5 12 "BarredRungs" "now" "LBarredRungs$State;") (List.mem_of_getElem? (i := 1) rfl)) (fun _ h9 => h9) rfl dX5_climberNumber_33 ?_
      refine lv_iload_n hx hb dX5_climberNumber_36 rfl (lv_at hl 2 rfl) ?_
      refine lv_iconst (v := 2) hx hb dX5_climberNumber_37 (by decide) ?_
      obtain ⟨r4, kr4, h⟩ := bd_ex h
      have hP8 : va_P g.1 vwCl ((cRt ad ++ (cTx g (ad 1) tx ++ (cIs g (ad 2) is ++ (cWa g (ad 3) wa)))) ++ ((cSt g (ad 4) st) ++ (cHi g (ad 5) (ad 6) hi))) _ := hP
      have hD8 : va_D A ((cRt ad ++ (cTx g (ad 1) tx ++ (cIs g (ad 2) is ++ (cWa g (ad 3) wa)))) ++ ((cSt g (ad 4) st) ++ (cHi g (ad 5) (ad 6) hi))) := hD
      refine aft_f (st1 := [.int r4]) rfl (cRt ad ++ (cTx g (ad 1) tx ++ (cIs g (ad 2) is ++ (cWa g (ad 3) wa)))) (cHi g (ad 5) (ad 6) hi) (runV (As := [.int p1, .int (2 : Int32)]) (rest := []) ⟨hx, hb, hml, hown, hts⟩ (kX2_climberFact l g (ad 4) kr4) (cwV 2 hts gX5_climberNumber_X2_climberFact rfl rfl rfl hdX2_climberFact ⟨Nat.le_of_ble_eq_true rfl, Nat.le_of_ble_eq_true rfl⟩) hK hN hP8.right.left hD8.right.left (va_recv hK hP (ci := 2) (q0 := 10) rfl rfl) rfl hl.1 rfl (Nat.le_of_ble_eq_true rfl) dX5_climberNumber_38 ⟨Nat.zero_le _, Nat.zero_le _⟩) hP8 hD8 hS hA (fun H locs hP hD hS => ?_)
      have hP : va_P g.1 vwCl (cRt ad ++ (cTx g (ad 1) tx ++ (cIs g (ad 2) is ++ (cWa g (ad 3) wa ++ (cSt g (ad 4) st ++ (cHi g (ad 5) (ad 6) hi)))))) H := hP
      have hD : va_D A (cRt ad ++ (cTx g (ad 1) tx ++ (cIs g (ad 2) is ++ (cWa g (ad 3) wa ++ (cSt g (ad 4) st ++ (cHi g (ad 5) (ad 6) hi)))))) := hD
      refine lv_istore (lv' := [(4, .int r4), (3, .int r2), (0, .ref ((ad 0) 0)), (1, .int p1), (2, .int p2)]) hx hb dX5_climberNumber_41 hl (by decide) rfl (fun ls hl => ?_)
      refine lv_aload_n hx hb dX5_climberNumber_43 rfl (lv_at hl 2 rfl) ?_
      refine va_get (D := g.1) (ci := 5) (v := .ref ((ad 4) 0)) (C := RX5) (T := TX5) (N := 5) hx hb hts hinX5 hown hK hP 0 rfl rfl 0 (by decide) (hts (.fieldLink RX5 12 "BarredRungs" "now" "LBarredRungs$State;") (List.mem_of_getElem? (i := 1) rfl)) (fun _ h9 => h9) rfl dX5_climberNumber_44 ?_
      refine lv_iload_n hx hb dX5_climberNumber_47 rfl (lv_at hl 3 rfl) ?_
      refine lv_iconst (v := 3) hx hb dX5_climberNumber_48 (by decide) ?_
      obtain ⟨r5, kr5, h⟩ := bd_ex h
      have hP8 : va_P g.1 vwCl ((cRt ad ++ (cTx g (ad 1) tx ++ (cIs g (ad 2) is ++ (cWa g (ad 3) wa)))) ++ ((cSt g (ad 4) st) ++ (cHi g (ad 5) (ad 6) hi))) _ := hP
      have hD8 : va_D A ((cRt ad ++ (cTx g (ad 1) tx ++ (cIs g (ad 2) is ++ (cWa g (ad 3) wa)))) ++ ((cSt g (ad 4) st) ++ (cHi g (ad 5) (ad 6) hi))) := hD
      refine aft_f (st1 := [.int r5]) rfl (cRt ad ++ (cTx g (ad 1) tx ++ (cIs g (ad 2) is ++ (cWa g (ad 3) wa)))) (cHi g (ad 5) (ad 6) hi) (runV (As := [.int p1, .int (3 : Int32)]) (rest := []) ⟨hx, hb, hml, hown, hts⟩ (kX2_climberFact l g (ad 4) kr5) (cwV 2 hts gX5_climberNumber_X2_climberFact rfl rfl rfl hdX2_climberFact ⟨Nat.le_of_ble_eq_true rfl, Nat.le_of_ble_eq_true rfl⟩) hK hN hP8.right.left hD8.right.left (va_recv hK hP (ci := 2) (q0 := 10) rfl rfl) rfl hl.1 rfl (Nat.le_of_ble_eq_true rfl) dX5_climberNumber_49 ⟨Nat.zero_le _, Nat.zero_le _⟩) hP8 hD8 hS hA (fun H locs hP hD hS => ?_)
      have hP : va_P g.1 vwCl (cRt ad ++ (cTx g (ad 1) tx ++ (cIs g (ad 2) is ++ (cWa g (ad 3) wa ++ (cSt g (ad 4) st ++ (cHi g (ad 5) (ad 6) hi)))))) H := hP
      have hD : va_D A (cRt ad ++ (cTx g (ad 1) tx ++ (cIs g (ad 2) is ++ (cWa g (ad 3) wa ++ (cSt g (ad 4) st ++ (cHi g (ad 5) (ad 6) hi)))))) := hD
      refine lv_iconst (v := 1) hx hb dX5_climberNumber_52 (by decide) ?_
      refine lv_icmp_ne (tgt := 60) hx hb dX5_climberNumber_53 (by decide) (fun c6 => ?_) (fun c6 => ?_)
      · have h := if_f c6 h
        refine lv_iconst (v := 0) hx hb dX5_climberNumber_60 (by decide) ?_
        refine lv_istore (lv' := [(5, .int (0 : Int32)), (4, .int r4), (3, .int r2), (0, .ref ((ad 0) 0)), (1, .int p1), (2, .int p2)]) hx hb dX5_climberNumber_61 hl (by decide) rfl (fun ls hl => ?_)
        refine lv_iload_n hx hb dX5_climberNumber_63 rfl (lv_at hl 5 rfl) ?_
        by_cases c7 : p2 = (7 : Int32)
        · have h := if_t c7 h
          refine lv_lookup (x := p2) (off := 28) (tgt := 92) hx hb dX5_climberNumber_64 (by decide) (by rw [c7]; decide) (by decide) ?_
          refine lv_aload_n hx hb dX5_climberNumber_92 rfl (lv_at hl 3 rfl) ?_
          refine va_get (D := g.1) (ci := 5) (v := .ref ((ad 3) 0)) (C := RX5) (T := TX5) (N := 5) hx hb hts hinX5 hown hK hP 0 rfl rfl 3 (by decide) (hts (.fieldLink RX5 33 "BarredRungs" "ways" "LBarredRungs$Ways;") (List.mem_of_getElem? (i := 2) rfl)) (fun _ h9 => h9) rfl dX5_climberNumber_93 ?_
          refine lv_aload_n hx hb dX5_climberNumber_96 rfl (lv_at hl 3 rfl) ?_
          refine va_get (D := g.1) (ci := 5) (v := .ref ((ad 4) 0)) (C := RX5) (T := TX5) (N := 5) hx hb hts hinX5 hown hK hP 0 rfl rfl 0 (by decide) (hts (.fieldLink RX5 12 "BarredRungs" "now" "LBarredRungs$State;") (List.mem_of_getElem? (i := 1) rfl)) (fun _ h9 => h9) rfl dX5_climberNumber_97 ?_
          refine lv_iload_n hx hb dX5_climberNumber_100 rfl (lv_at hl 2 rfl) ?_
          refine lv_iload hx hb dX5_climberNumber_101 (lv_at hl 1 rfl) ?_
          refine lv_iload hx hb dX5_climberNumber_103 (lv_at hl 0 rfl) ?_
          obtain ⟨r8, wa9, kr8, h⟩ := bd2_ex h
          have hP8 : va_P g.1 vwCl ((cRt ad ++ (cTx g (ad 1) tx ++ (cIs g (ad 2) is))) ++ ((cWa g (ad 3) wa ++ (cSt g (ad 4) st)) ++ (cHi g (ad 5) (ad 6) hi))) _ := hP
          have hD8 : va_D A ((cRt ad ++ (cTx g (ad 1) tx ++ (cIs g (ad 2) is))) ++ ((cWa g (ad 3) wa ++ (cSt g (ad 4) st)) ++ (cHi g (ad 5) (ad 6) hi))) := hD
          refine aft_f (st1 := [.int r8]) rfl (cRt ad ++ (cTx g (ad 1) tx ++ (cIs g (ad 2) is))) (cHi g (ad 5) (ad 6) hi) (runV (As := [.ref ((ad 4) 0), .int r2, .int r4, .int (0 : Int32)]) (rest := []) ⟨hx, hb, hml, hown, hts⟩ (kX4_onward l g (ad 3) (ad 4) kr8) (cwV 4 hts gX5_climberNumber_X4_onward rfl rfl rfl hdX4_onward ⟨Nat.le_of_ble_eq_true rfl, Nat.le_of_ble_eq_true rfl⟩) hK hN hP8.right.left hD8.right.left (va_recv hK hP (ci := 4) (q0 := 5) rfl rfl) rfl hl.1 rfl (Nat.le_of_ble_eq_true rfl) dX5_climberNumber_105 ⟨Nat.zero_le _, Nat.zero_le _⟩) hP8 hD8 hS hA (fun H locs hP hD hS => ?_)
          have hP : va_P g.1 vwCl (cRt ad ++ (cTx g (ad 1) tx ++ (cIs g (ad 2) is ++ (cWa g (ad 3) wa9 ++ (cSt g (ad 4) st ++ (cHi g (ad 5) (ad 6) hi)))))) H := hP
          have hD : va_D A (cRt ad ++ (cTx g (ad 1) tx ++ (cIs g (ad 2) is ++ (cWa g (ad 3) wa9 ++ (cSt g (ad 4) st ++ (cHi g (ad 5) (ad 6) hi)))))) := hD
          cases some_i h
          exact hend _ _ _ _ _ hP hD hS (RetOK.i dX5_climberNumber_108)
        have h := if_f c7 h
        by_cases c10 : p2 = (8 : Int32)
        · have h := if_t c10 h
          refine lv_lookup (x := p2) (off := 45) (tgt := 109) hx hb dX5_climberNumber_64 (by decide) (by rw [c10]; decide) (by decide) ?_
          refine lv_aload_n hx hb dX5_climberNumber_109 rfl (lv_at hl 3 rfl) ?_
          refine va_get (D := g.1) (ci := 5) (v := .ref ((ad 3) 0)) (C := RX5) (T := TX5) (N := 5) hx hb hts hinX5 hown hK hP 0 rfl rfl 3 (by decide) (hts (.fieldLink RX5 33 "BarredRungs" "ways" "LBarredRungs$Ways;") (List.mem_of_getElem? (i := 2) rfl)) (fun _ h9 => h9) rfl dX5_climberNumber_110 ?_
          refine lv_aload_n hx hb dX5_climberNumber_113 rfl (lv_at hl 3 rfl) ?_
          refine va_get (D := g.1) (ci := 5) (v := .ref ((ad 4) 0)) (C := RX5) (T := TX5) (N := 5) hx hb hts hinX5 hown hK hP 0 rfl rfl 0 (by decide) (hts (.fieldLink RX5 12 "BarredRungs" "now" "LBarredRungs$State;") (List.mem_of_getElem? (i := 1) rfl)) (fun _ h9 => h9) rfl dX5_climberNumber_114 ?_
          refine lv_iload_n hx hb dX5_climberNumber_117 rfl (lv_at hl 2 rfl) ?_
          refine lv_iload hx hb dX5_climberNumber_118 (lv_at hl 1 rfl) ?_
          refine lv_iload hx hb dX5_climberNumber_120 (lv_at hl 0 rfl) ?_
          obtain ⟨r11, wa12, kr11, h⟩ := bd2_ex h
          have hP8 : va_P g.1 vwCl ((cRt ad ++ (cTx g (ad 1) tx ++ (cIs g (ad 2) is))) ++ ((cWa g (ad 3) wa ++ (cSt g (ad 4) st)) ++ (cHi g (ad 5) (ad 6) hi))) _ := hP
          have hD8 : va_D A ((cRt ad ++ (cTx g (ad 1) tx ++ (cIs g (ad 2) is))) ++ ((cWa g (ad 3) wa ++ (cSt g (ad 4) st)) ++ (cHi g (ad 5) (ad 6) hi))) := hD
          refine aft_f (st1 := [.int r11]) rfl (cRt ad ++ (cTx g (ad 1) tx ++ (cIs g (ad 2) is))) (cHi g (ad 5) (ad 6) hi) (runV (As := [.ref ((ad 4) 0), .int r2, .int r4, .int (0 : Int32)]) (rest := []) ⟨hx, hb, hml, hown, hts⟩ (kX4_backwards l g (ad 3) (ad 4) kr11) (cwV 4 hts gX5_climberNumber_X4_backwards rfl rfl rfl hdX4_backwards ⟨Nat.le_of_ble_eq_true rfl, Nat.le_of_ble_eq_true rfl⟩) hK hN hP8.right.left hD8.right.left (va_recv hK hP (ci := 4) (q0 := 5) rfl rfl) rfl hl.1 rfl (Nat.le_of_ble_eq_true rfl) dX5_climberNumber_122 ⟨Nat.zero_le _, Nat.zero_le _⟩) hP8 hD8 hS hA (fun H locs hP hD hS => ?_)
          have hP : va_P g.1 vwCl (cRt ad ++ (cTx g (ad 1) tx ++ (cIs g (ad 2) is ++ (cWa g (ad 3) wa12 ++ (cSt g (ad 4) st ++ (cHi g (ad 5) (ad 6) hi)))))) H := hP
          have hD : va_D A (cRt ad ++ (cTx g (ad 1) tx ++ (cIs g (ad 2) is ++ (cWa g (ad 3) wa12 ++ (cSt g (ad 4) st ++ (cHi g (ad 5) (ad 6) hi)))))) := hD
          cases some_i h
          exact hend _ _ _ _ _ hP hD hS (RetOK.i dX5_climberNumber_125)
        have h := if_f c10 h
        refine lv_lookup (x := p2) (off := 62) (tgt := 126) hx hb dX5_climberNumber_64 (by decide) (by rw [lv_osw c7 (by decide), lv_osw c10 (by decide)]; rfl) (by decide) ?_
        refine lv_aload_n hx hb dX5_climberNumber_126 rfl (lv_at hl 3 rfl) ?_
        refine va_get (D := g.1) (ci := 5) (v := .ref ((ad 3) 0)) (C := RX5) (T := TX5) (N := 5) hx hb hts hinX5 hown hK hP 0 rfl rfl 3 (by decide) (hts (.fieldLink RX5 33 "BarredRungs" "ways" "LBarredRungs$Ways;") (List.mem_of_getElem? (i := 2) rfl)) (fun _ h9 => h9) rfl dX5_climberNumber_127 ?_
        refine lv_aload_n hx hb dX5_climberNumber_130 rfl (lv_at hl 3 rfl) ?_
        refine va_get (D := g.1) (ci := 5) (v := .ref ((ad 4) 0)) (C := RX5) (T := TX5) (N := 5) hx hb hts hinX5 hown hK hP 0 rfl rfl 0 (by decide) (hts (.fieldLink RX5 12 "BarredRungs" "now" "LBarredRungs$State;") (List.mem_of_getElem? (i := 1) rfl)) (fun _ h9 => h9) rfl dX5_climberNumber_131 ?_
        refine lv_iload_n hx hb dX5_climberNumber_134 rfl (lv_at hl 2 rfl) ?_
        refine lv_iload hx hb dX5_climberNumber_135 (lv_at hl 1 rfl) ?_
        refine lv_iload hx hb dX5_climberNumber_137 (lv_at hl 0 rfl) ?_
        obtain ⟨r13, wa14, kr13, h⟩ := bd2_ex h
        have hP8 : va_P g.1 vwCl ((cRt ad ++ (cTx g (ad 1) tx ++ (cIs g (ad 2) is))) ++ ((cWa g (ad 3) wa ++ (cSt g (ad 4) st)) ++ (cHi g (ad 5) (ad 6) hi))) _ := hP
        have hD8 : va_D A ((cRt ad ++ (cTx g (ad 1) tx ++ (cIs g (ad 2) is))) ++ ((cWa g (ad 3) wa ++ (cSt g (ad 4) st)) ++ (cHi g (ad 5) (ad 6) hi))) := hD
        refine aft_f (st1 := [.int r13]) rfl (cRt ad ++ (cTx g (ad 1) tx ++ (cIs g (ad 2) is))) (cHi g (ad 5) (ad 6) hi) (runV (As := [.ref ((ad 4) 0), .int r2, .int r4, .int (0 : Int32)]) (rest := []) ⟨hx, hb, hml, hown, hts⟩ (kX4_firstWord l g (ad 3) (ad 4) kr13) (cwV 4 hts gX5_climberNumber_X4_firstWord rfl rfl rfl hdX4_firstWord ⟨Nat.le_of_ble_eq_true rfl, Nat.le_of_ble_eq_true rfl⟩) hK hN hP8.right.left hD8.right.left (va_recv hK hP (ci := 4) (q0 := 5) rfl rfl) rfl hl.1 rfl (Nat.le_of_ble_eq_true rfl) dX5_climberNumber_139 ⟨Nat.zero_le _, Nat.zero_le _⟩) hP8 hD8 hS hA (fun H locs hP hD hS => ?_)
        have hP : va_P g.1 vwCl (cRt ad ++ (cTx g (ad 1) tx ++ (cIs g (ad 2) is ++ (cWa g (ad 3) wa14 ++ (cSt g (ad 4) st ++ (cHi g (ad 5) (ad 6) hi)))))) H := hP
        have hD : va_D A (cRt ad ++ (cTx g (ad 1) tx ++ (cIs g (ad 2) is ++ (cWa g (ad 3) wa14 ++ (cSt g (ad 4) st ++ (cHi g (ad 5) (ad 6) hi)))))) := hD
        cases some_i h
        exact hend _ _ _ _ _ hP hD hS (RetOK.i dX5_climberNumber_142)
      · have h := if_t c6 h
        refine lv_iconst (v := 1) hx hb dX5_climberNumber_56 (by decide) ?_
        refine lv_goto (tgt := 61) hx hb dX5_climberNumber_57 (by decide) ?_
        refine lv_istore (lv' := [(5, .int (1 : Int32)), (4, .int r4), (3, .int r2), (0, .ref ((ad 0) 0)), (1, .int p1), (2, .int p2)]) hx hb dX5_climberNumber_61 hl (by decide) rfl (fun ls hl => ?_)
        refine lv_iload_n hx hb dX5_climberNumber_63 rfl (lv_at hl 5 rfl) ?_
        by_cases c15 : p2 = (7 : Int32)
        · have h := if_t c15 h
          refine lv_lookup (x := p2) (off := 28) (tgt := 92) hx hb dX5_climberNumber_64 (by decide) (by rw [c15]; decide) (by decide) ?_
          refine lv_aload_n hx hb dX5_climberNumber_92 rfl (lv_at hl 3 rfl) ?_
          refine va_get (D := g.1) (ci := 5) (v := .ref ((ad 3) 0)) (C := RX5) (T := TX5) (N := 5) hx hb hts hinX5 hown hK hP 0 rfl rfl 3 (by decide) (hts (.fieldLink RX5 33 "BarredRungs" "ways" "LBarredRungs$Ways;") (List.mem_of_getElem? (i := 2) rfl)) (fun _ h9 => h9) rfl dX5_climberNumber_93 ?_
          refine lv_aload_n hx hb dX5_climberNumber_96 rfl (lv_at hl 3 rfl) ?_
          refine va_get (D := g.1) (ci := 5) (v := .ref ((ad 4) 0)) (C := RX5) (T := TX5) (N := 5) hx hb hts hinX5 hown hK hP 0 rfl rfl 0 (by decide) (hts (.fieldLink RX5 12 "BarredRungs" "now" "LBarredRungs$State;") (List.mem_of_getElem? (i := 1) rfl)) (fun _ h9 => h9) rfl dX5_climberNumber_97 ?_
          refine lv_iload_n hx hb dX5_climberNumber_100 rfl (lv_at hl 2 rfl) ?_
          refine lv_iload hx hb dX5_climberNumber_101 (lv_at hl 1 rfl) ?_
          refine lv_iload hx hb dX5_climberNumber_103 (lv_at hl 0 rfl) ?_
          obtain ⟨r16, wa17, kr16, h⟩ := bd2_ex h
          have hP8 : va_P g.1 vwCl ((cRt ad ++ (cTx g (ad 1) tx ++ (cIs g (ad 2) is))) ++ ((cWa g (ad 3) wa ++ (cSt g (ad 4) st)) ++ (cHi g (ad 5) (ad 6) hi))) _ := hP
          have hD8 : va_D A ((cRt ad ++ (cTx g (ad 1) tx ++ (cIs g (ad 2) is))) ++ ((cWa g (ad 3) wa ++ (cSt g (ad 4) st)) ++ (cHi g (ad 5) (ad 6) hi))) := hD
          refine aft_f (st1 := [.int r16]) rfl (cRt ad ++ (cTx g (ad 1) tx ++ (cIs g (ad 2) is))) (cHi g (ad 5) (ad 6) hi) (runV (As := [.ref ((ad 4) 0), .int r2, .int r4, .int (1 : Int32)]) (rest := []) ⟨hx, hb, hml, hown, hts⟩ (kX4_onward l g (ad 3) (ad 4) kr16) (cwV 4 hts gX5_climberNumber_X4_onward rfl rfl rfl hdX4_onward ⟨Nat.le_of_ble_eq_true rfl, Nat.le_of_ble_eq_true rfl⟩) hK hN hP8.right.left hD8.right.left (va_recv hK hP (ci := 4) (q0 := 5) rfl rfl) rfl hl.1 rfl (Nat.le_of_ble_eq_true rfl) dX5_climberNumber_105 ⟨Nat.zero_le _, Nat.zero_le _⟩) hP8 hD8 hS hA (fun H locs hP hD hS => ?_)
          have hP : va_P g.1 vwCl (cRt ad ++ (cTx g (ad 1) tx ++ (cIs g (ad 2) is ++ (cWa g (ad 3) wa17 ++ (cSt g (ad 4) st ++ (cHi g (ad 5) (ad 6) hi)))))) H := hP
          have hD : va_D A (cRt ad ++ (cTx g (ad 1) tx ++ (cIs g (ad 2) is ++ (cWa g (ad 3) wa17 ++ (cSt g (ad 4) st ++ (cHi g (ad 5) (ad 6) hi)))))) := hD
          cases some_i h
          exact hend _ _ _ _ _ hP hD hS (RetOK.i dX5_climberNumber_108)
        have h := if_f c15 h
        by_cases c18 : p2 = (8 : Int32)
        · have h := if_t c18 h
          refine lv_lookup (x := p2) (off := 45) (tgt := 109) hx hb dX5_climberNumber_64 (by decide) (by rw [c18]; decide) (by decide) ?_
          refine lv_aload_n hx hb dX5_climberNumber_109 rfl (lv_at hl 3 rfl) ?_
          refine va_get (D := g.1) (ci := 5) (v := .ref ((ad 3) 0)) (C := RX5) (T := TX5) (N := 5) hx hb hts hinX5 hown hK hP 0 rfl rfl 3 (by decide) (hts (.fieldLink RX5 33 "BarredRungs" "ways" "LBarredRungs$Ways;") (List.mem_of_getElem? (i := 2) rfl)) (fun _ h9 => h9) rfl dX5_climberNumber_110 ?_
          refine lv_aload_n hx hb dX5_climberNumber_113 rfl (lv_at hl 3 rfl) ?_
          refine va_get (D := g.1) (ci := 5) (v := .ref ((ad 4) 0)) (C := RX5) (T := TX5) (N := 5) hx hb hts hinX5 hown hK hP 0 rfl rfl 0 (by decide) (hts (.fieldLink RX5 12 "BarredRungs" "now" "LBarredRungs$State;") (List.mem_of_getElem? (i := 1) rfl)) (fun _ h9 => h9) rfl dX5_climberNumber_114 ?_
          refine lv_iload_n hx hb dX5_climberNumber_117 rfl (lv_at hl 2 rfl) ?_
          refine lv_iload hx hb dX5_climberNumber_118 (lv_at hl 1 rfl) ?_
          refine lv_iload hx hb dX5_climberNumber_120 (lv_at hl 0 rfl) ?_
          obtain ⟨r19, wa20, kr19, h⟩ := bd2_ex h
          have hP8 : va_P g.1 vwCl ((cRt ad ++ (cTx g (ad 1) tx ++ (cIs g (ad 2) is))) ++ ((cWa g (ad 3) wa ++ (cSt g (ad 4) st)) ++ (cHi g (ad 5) (ad 6) hi))) _ := hP
          have hD8 : va_D A ((cRt ad ++ (cTx g (ad 1) tx ++ (cIs g (ad 2) is))) ++ ((cWa g (ad 3) wa ++ (cSt g (ad 4) st)) ++ (cHi g (ad 5) (ad 6) hi))) := hD
          refine aft_f (st1 := [.int r19]) rfl (cRt ad ++ (cTx g (ad 1) tx ++ (cIs g (ad 2) is))) (cHi g (ad 5) (ad 6) hi) (runV (As := [.ref ((ad 4) 0), .int r2, .int r4, .int (1 : Int32)]) (rest := []) ⟨hx, hb, hml, hown, hts⟩ (kX4_backwards l g (ad 3) (ad 4) kr19) (cwV 4 hts gX5_climberNumber_X4_backwards rfl rfl rfl hdX4_backwards ⟨Nat.le_of_ble_eq_true rfl, Nat.le_of_ble_eq_true rfl⟩) hK hN hP8.right.left hD8.right.left (va_recv hK hP (ci := 4) (q0 := 5) rfl rfl) rfl hl.1 rfl (Nat.le_of_ble_eq_true rfl) dX5_climberNumber_122 ⟨Nat.zero_le _, Nat.zero_le _⟩) hP8 hD8 hS hA (fun H locs hP hD hS => ?_)
          have hP : va_P g.1 vwCl (cRt ad ++ (cTx g (ad 1) tx ++ (cIs g (ad 2) is ++ (cWa g (ad 3) wa20 ++ (cSt g (ad 4) st ++ (cHi g (ad 5) (ad 6) hi)))))) H := hP
          have hD : va_D A (cRt ad ++ (cTx g (ad 1) tx ++ (cIs g (ad 2) is ++ (cWa g (ad 3) wa20 ++ (cSt g (ad 4) st ++ (cHi g (ad 5) (ad 6) hi)))))) := hD
          cases some_i h
          exact hend _ _ _ _ _ hP hD hS (RetOK.i dX5_climberNumber_125)
        have h := if_f c18 h
        refine lv_lookup (x := p2) (off := 62) (tgt := 126) hx hb dX5_climberNumber_64 (by decide) (by rw [lv_osw c15 (by decide), lv_osw c18 (by decide)]; rfl) (by decide) ?_
        refine lv_aload_n hx hb dX5_climberNumber_126 rfl (lv_at hl 3 rfl) ?_
        refine va_get (D := g.1) (ci := 5) (v := .ref ((ad 3) 0)) (C := RX5) (T := TX5) (N := 5) hx hb hts hinX5 hown hK hP 0 rfl rfl 3 (by decide) (hts (.fieldLink RX5 33 "BarredRungs" "ways" "LBarredRungs$Ways;") (List.mem_of_getElem? (i := 2) rfl)) (fun _ h9 => h9) rfl dX5_climberNumber_127 ?_
        refine lv_aload_n hx hb dX5_climberNumber_130 rfl (lv_at hl 3 rfl) ?_
        refine va_get (D := g.1) (ci := 5) (v := .ref ((ad 4) 0)) (C := RX5) (T := TX5) (N := 5) hx hb hts hinX5 hown hK hP 0 rfl rfl 0 (by decide) (hts (.fieldLink RX5 12 "BarredRungs" "now" "LBarredRungs$State;") (List.mem_of_getElem? (i := 1) rfl)) (fun _ h9 => h9) rfl dX5_climberNumber_131 ?_
        refine lv_iload_n hx hb dX5_climberNumber_134 rfl (lv_at hl 2 rfl) ?_
        refine lv_iload hx hb dX5_climberNumber_135 (lv_at hl 1 rfl) ?_
        refine lv_iload hx hb dX5_climberNumber_137 (lv_at hl 0 rfl) ?_
        obtain ⟨r21, wa22, kr21, h⟩ := bd2_ex h
        have hP8 : va_P g.1 vwCl ((cRt ad ++ (cTx g (ad 1) tx ++ (cIs g (ad 2) is))) ++ ((cWa g (ad 3) wa ++ (cSt g (ad 4) st)) ++ (cHi g (ad 5) (ad 6) hi))) _ := hP
        have hD8 : va_D A ((cRt ad ++ (cTx g (ad 1) tx ++ (cIs g (ad 2) is))) ++ ((cWa g (ad 3) wa ++ (cSt g (ad 4) st)) ++ (cHi g (ad 5) (ad 6) hi))) := hD
        refine aft_f (st1 := [.int r21]) rfl (cRt ad ++ (cTx g (ad 1) tx ++ (cIs g (ad 2) is))) (cHi g (ad 5) (ad 6) hi) (runV (As := [.ref ((ad 4) 0), .int r2, .int r4, .int (1 : Int32)]) (rest := []) ⟨hx, hb, hml, hown, hts⟩ (kX4_firstWord l g (ad 3) (ad 4) kr21) (cwV 4 hts gX5_climberNumber_X4_firstWord rfl rfl rfl hdX4_firstWord ⟨Nat.le_of_ble_eq_true rfl, Nat.le_of_ble_eq_true rfl⟩) hK hN hP8.right.left hD8.right.left (va_recv hK hP (ci := 4) (q0 := 5) rfl rfl) rfl hl.1 rfl (Nat.le_of_ble_eq_true rfl) dX5_climberNumber_139 ⟨Nat.zero_le _, Nat.zero_le _⟩) hP8 hD8 hS hA (fun H locs hP hD hS => ?_)
        have hP : va_P g.1 vwCl (cRt ad ++ (cTx g (ad 1) tx ++ (cIs g (ad 2) is ++ (cWa g (ad 3) wa22 ++ (cSt g (ad 4) st ++ (cHi g (ad 5) (ad 6) hi)))))) H := hP
        have hD : va_D A (cRt ad ++ (cTx g (ad 1) tx ++ (cIs g (ad 2) is ++ (cWa g (ad 3) wa22 ++ (cSt g (ad 4) st ++ (cHi g (ad 5) (ad 6) hi)))))) := hD
        cases some_i h
        exact hend _ _ _ _ _ hP hD hS (RetOK.i dX5_climberNumber_142)
    · have h := if_t c3 h
      refine lv_iconst (v := -1) hx hb dX5_climberNumber_30 (by decide) ?_
      cases some_i h
      exact hend _ _ _ _ _ hP hD hS (RetOK.i dX5_climberNumber_31)
  · have h := if_f c1 h
    refine lv_aload_n hx hb dX5_climberNumber_6 rfl (lv_at hl 0 rfl) ?_
    refine va_get (D := g.1) (ci := 5) (v := .ref ((ad 4) 0)) (C := RX5) (T := TX5) (N := 5) hx hb hts hinX5 hown hK hP 0 rfl rfl 0 (by decide) (hts (.fieldLink RX5 12 "BarredRungs" "now" "LBarredRungs$State;") (List.mem_of_getElem? (i := 1) rfl)) (fun _ h9 => h9) rfl dX5_climberNumber_7 ?_
    refine lv_iload_n hx hb dX5_climberNumber_10 rfl (lv_at hl 1 rfl) ?_
    refine lv_iload_n hx hb dX5_climberNumber_11 rfl (lv_at hl 2 rfl) ?_
    obtain ⟨r23, kr23, h⟩ := bd_ex h
    have hP8 : va_P g.1 vwCl ((cRt ad ++ (cTx g (ad 1) tx ++ (cIs g (ad 2) is ++ (cWa g (ad 3) wa)))) ++ ((cSt g (ad 4) st) ++ (cHi g (ad 5) (ad 6) hi))) _ := hP
    have hD8 : va_D A ((cRt ad ++ (cTx g (ad 1) tx ++ (cIs g (ad 2) is ++ (cWa g (ad 3) wa)))) ++ ((cSt g (ad 4) st) ++ (cHi g (ad 5) (ad 6) hi))) := hD
    refine aft_f (st1 := [.int r23]) rfl (cRt ad ++ (cTx g (ad 1) tx ++ (cIs g (ad 2) is ++ (cWa g (ad 3) wa)))) (cHi g (ad 5) (ad 6) hi) (runV (As := [.int p1, .int p2]) (rest := []) ⟨hx, hb, hml, hown, hts⟩ (kX2_climberFact l g (ad 4) kr23) (cwV 2 hts gX5_climberNumber_X2_climberFact rfl rfl rfl hdX2_climberFact ⟨Nat.le_of_ble_eq_true rfl, Nat.le_of_ble_eq_true rfl⟩) hK hN hP8.right.left hD8.right.left (va_recv hK hP (ci := 2) (q0 := 10) rfl rfl) rfl hl.1 rfl (Nat.le_of_ble_eq_true rfl) dX5_climberNumber_12 ⟨Nat.zero_le _, Nat.zero_le _⟩) hP8 hD8 hS hA (fun H locs hP hD hS => ?_)
    have hP : va_P g.1 vwCl (cRt ad ++ (cTx g (ad 1) tx ++ (cIs g (ad 2) is ++ (cWa g (ad 3) wa ++ (cSt g (ad 4) st ++ (cHi g (ad 5) (ad 6) hi)))))) H := hP
    have hD : va_D A (cRt ad ++ (cTx g (ad 1) tx ++ (cIs g (ad 2) is ++ (cWa g (ad 3) wa ++ (cSt g (ad 4) st ++ (cHi g (ad 5) (ad 6) hi)))))) := hD
    cases some_i h
    exact hend _ _ _ _ _ hP hD hS (RetOK.i dX5_climberNumber_15)
def fX5_climber (tx : Tx) (is : Is) (wa : Wa) (st : St) (hi : Hi) (p1 : Int32) (p2 : Int32) : Option (Nat ⊕ (Int32 × Wa)) :=
(bd (fX5_isClimber p1) fun (r1 : Int32) =>
(if r1 = (0 : Int32) then
(some (.inl 1))
else
(if p2 < (0 : Int32) then
(some (.inl 2))
else
(if p2 ≤ (9 : Int32) then
(bd2 (fX5_climberNumber tx is wa st hi p1 p2) fun (r5 : Int32) (wa6 : Wa) =>
(some (.inr (r5, wa6))))
else
(some (.inl 2))))))
abbrev rX5_climber : Room := { frames := 6, cells := 0, slots := 0, locals := 148 }
theorem hdX5_climber : yX5_climber.cls = RX5 ∧ yX5_climber.cls ≠ "java/lang/invoke/MethodHandle" ∧ yX5_climber.cls ≠ "java/lang/invoke/VarHandle" ∧ (parseMethodDescriptor yX5_climber.desc).map (fun d => d.parameters.length) = some 2 := by decide +kernel
set_option maxRecDepth 100000 in
set_option maxHeartbeats 8000000 in
theorem kX5_climber (l : Launch) (g : GG) (ad : Nat → Nat → Nat) {tx : Tx} {is : Is} {wa : Wa} {st : St} {hi : Hi} {p1 : Int32} {p2 : Int32} {res : Int32} {wa' : Wa} (h : fX5_climber tx is wa st hi p1 p2 = some (.inr (res, wa'))) : Cg l g yX5_climber wsX5_climber rX5_climber [.ref ((ad 0) 0), .int p1, .int p2] (cRt ad ++ (cTx g (ad 1) tx ++ (cIs g (ad 2) is ++ (cWa g (ad 3) wa ++ (cSt g (ad 4) st ++ (cHi g (ad 5) (ad 6) hi)))))) (some (.int res)) (cRt ad ++ (cTx g (ad 1) tx ++ (cIs g (ad 2) is ++ (cWa g (ad 3) wa' ++ (cSt g (ad 4) st ++ (cHi g (ad 5) (ad 6) hi)))))) := by
  refine Cg_of (cc := cX5_climber) (maxL := 3) (ret := (some .int)) (by decide +kernel) rfl (Nat.le_of_ble_eq_true rfl) ?_
  intro p e su m args below meth c A Q ls hx hb hml hown hts hK hN hA hnm hP hD hS hl hend
  have hinX5 : ∀ w ∈ u_ws RX5 TX5 5, w ∈ wsX5_climber := fun _ h9 => List.mem_cons_of_mem _ (List.mem_append_left _ (List.mem_append_left _ (List.mem_append_left _ (List.mem_append_left _ (List.mem_append_right _ h9)))))
  have hinX2 : ∀ w ∈ u_ws RX2 TX2 17, w ∈ wsX5_climber := fun _ h9 => List.mem_cons_of_mem _ (List.mem_append_left _ (List.mem_append_left _ (List.mem_append_left _ (List.mem_append_right _ h9))))
  have hinX4 : ∀ w ∈ u_ws RX4 TX4 4, w ∈ wsX5_climber := fun _ h9 => List.mem_cons_of_mem _ (List.mem_append_left _ (List.mem_append_left _ (List.mem_append_right _ h9)))
  unfold fX5_climber at h
  have hl : lv_has ls 3 [(0, .ref ((ad 0) 0)), (1, .int p1), (2, .int p2)] := hl
  refine lv_iload_n hx hb dX5_climber_0 rfl (lv_at hl 1 rfl) ?_
  obtain ⟨r1, kr1, h⟩ := bd_ex h
  refine aft_e (st1 := [.int r1]) rfl (runS (As := [.int p1]) (rest := []) ⟨hx, hb, hml, hown, hts⟩ (kX5_isClimber l g kr1) (va_cwS 1 hts gX5_climber_X5_isClimber rfl rfl rfl hdX5_isClimber.2 ⟨Nat.le_of_ble_eq_true rfl, Nat.le_of_ble_eq_true rfl⟩) hK hN nilP (nilD (A := A)) rfl hl.1 rfl (Nat.le_of_ble_eq_true rfl) dX5_climber_1 ⟨Nat.zero_le _, Nat.zero_le _⟩) hP hS hA (fun H locs hP hS => ?_)
  refine lv_if_ne (tgt := 17) hx hb dX5_climber_4 (by decide) (fun c2 => ?_) (fun c2 => ?_)
  · have h := if_f c2 h
    refine lv_iload_n hx hb dX5_climber_17 rfl (lv_at hl 2 rfl) ?_
    refine lv_if_lt (tgt := 27) hx hb dX5_climber_18 (by decide) (fun c3 => ?_) (fun c3 => ?_)
    · have h := if_t c3 h
      cases h
    · have h := if_f c3 h
      refine lv_iload_n hx hb dX5_climber_21 rfl (lv_at hl 2 rfl) ?_
      refine lv_bipush (v := 9) hx hb dX5_climber_22 (by decide) ?_
      refine lv_icmp_le (tgt := 37) hx hb dX5_climber_24 (by decide) (fun c4 => ?_) (fun c4 => ?_)
      · have h := if_t c4 h
        refine lv_aload_n hx hb dX5_climber_37 rfl (lv_at hl 0 rfl) ?_
        refine lv_iload_n hx hb dX5_climber_38 rfl (lv_at hl 1 rfl) ?_
        refine lv_iload_n hx hb dX5_climber_39 rfl (lv_at hl 2 rfl) ?_
        obtain ⟨r5, wa6, kr5, h⟩ := bd2_ex h
        refine aft_w (st1 := [.int r5]) rfl (runV (As := [.int p1, .int p2]) (rest := []) ⟨hx, hb, hml, hown, hts⟩ (kX5_climberNumber l g ad kr5) (cwV 2 hts gX5_climber_X5_climberNumber rfl rfl rfl hdX5_climberNumber ⟨Nat.le_of_ble_eq_true rfl, Nat.le_of_ble_eq_true rfl⟩) hK hN hP hD (va_recv hK hP (ci := 5) (q0 := 0) rfl rfl) rfl hl.1 rfl (Nat.le_of_ble_eq_true rfl) dX5_climber_40 ⟨Nat.zero_le _, Nat.zero_le _⟩) hD hS hA (fun H locs hP hD hS => ?_)
        cases some_i h
        exact hend _ _ _ _ _ hP hD hS (RetOK.i dX5_climber_43)
      · have h := if_f c4 h
        cases h
  · have h := if_t c2 h
    cases h
def fX5_countNumber (tx : Tx) (is : Is) (wa : Wa) (st : St) (hi : Hi) (p1 : Int32) : Option (Int32 × Is) :=
(if p1 = (0 : Int32) then
(some ((St_words st), is))
else
(if p1 = (1 : Int32) then
(bd (fX2_linkedPairs st) fun (r3 : Int32) =>
(some (r3, is)))
else
(if p1 = (2 : Int32) then
(bd2 (fX1_byJoining is st) fun (r5 : Int32) (is6 : Is) =>
(some (r5, is6)))
else
(if p1 = (3 : Int32) then
(bd (fX1_byWalking is st) fun (r8 : Int32) =>
(some (r8, is)))
else
(if p1 = (4 : Int32) then
(some ((St_place st), is))
else
(if p1 = (5 : Int32) then
(some ((St_letter st), is))
else
(if p1 = (6 : Int32) then
(some ((St_turns st), is))
else
(if p1 = (7 : Int32) then
(bd (fX2_barredAfter st (0 : Int32)) fun (r13 : Int32) =>
(bd (fJ6_bitCount_0f7a4 r13) fun (r14 : Int32) =>
(some (r14, is))))
else
(if p1 = (8 : Int32) then
(bd (fX2_climbersOnWords st) fun (r16 : Int32) =>
(some (r16, is)))
else
(if p1 = (9 : Int32) then
(bd (fX2_laddersSoFar st) fun (r18 : Int32) =>
(some (r18, is)))
else
(if p1 = (10 : Int32) then
(bd (fX2_fallsSoFar st) fun (r20 : Int32) =>
(some (r20, is)))
else
(if p1 = (11 : Int32) then
(some ((St_climbs st), is))
else
(some ((Hi_size hi), is))))))))))))))
abbrev rX5_countNumber : Room := { frames := 4, cells := 0, slots := 0, locals := 93 }
theorem hdX5_countNumber : yX5_countNumber.cls = RX5 ∧ yX5_countNumber.cls ≠ "java/lang/invoke/MethodHandle" ∧ yX5_countNumber.cls ≠ "java/lang/invoke/VarHandle" ∧ (parseMethodDescriptor yX5_countNumber.desc).map (fun d => d.parameters.length) = some 1 := by decide +kernel
set_option maxRecDepth 100000 in
set_option maxHeartbeats 8000000 in
theorem kX5_countNumber (l : Launch) (g : GG) (ad : Nat → Nat → Nat) {tx : Tx} {is : Is} {wa : Wa} {st : St} {hi : Hi} {p1 : Int32} {res : Int32} {is' : Is} (h : fX5_countNumber tx is wa st hi p1 = some (res, is')) : Cg l g yX5_countNumber wsX5_countNumber rX5_countNumber [.ref ((ad 0) 0), .int p1] (cRt ad ++ (cTx g (ad 1) tx ++ (cIs g (ad 2) is ++ (cWa g (ad 3) wa ++ (cSt g (ad 4) st ++ (cHi g (ad 5) (ad 6) hi)))))) (some (.int res)) (cRt ad ++ (cTx g (ad 1) tx ++ (cIs g (ad 2) is' ++ (cWa g (ad 3) wa ++ (cSt g (ad 4) st ++ (cHi g (ad 5) (ad 6) hi)))))) := by
  refine Cg_of (cc := cX5_countNumber) (maxL := 2) (ret := (some .int)) (by decide +kernel) rfl (Nat.le_of_ble_eq_true rfl) ?_
  intro p e su m args below meth c A Q ls hx hb hml hown hts hK hN hA hnm hP hD hS hl hend
  have hinX5 : ∀ w ∈ u_ws RX5 TX5 5, w ∈ wsX5_countNumber := fun _ h9 => List.mem_cons_of_mem _ (List.mem_append_left _ (List.mem_append_left _ (List.mem_append_left _ (List.mem_append_right _ h9))))
  have hinX2 : ∀ w ∈ u_ws RX2 TX2 17, w ∈ wsX5_countNumber := fun _ h9 => List.mem_cons_of_mem _ (List.mem_append_left _ (List.mem_append_left _ (List.mem_append_right _ h9)))
  have hinX0 : ∀ w ∈ u_ws RX0 TX0 4, w ∈ wsX5_countNumber := fun _ h9 => List.mem_cons_of_mem _ (List.mem_append_left _ (List.mem_append_right _ h9))
  have hinX1 : ∀ w ∈ u_ws RX1 TX1 1, w ∈ wsX5_countNumber := fun _ h9 => List.mem_cons_of_mem _ (List.mem_append_right _ h9)
  unfold fX5_countNumber at h
  have hl : lv_has ls 2 [(0, .ref ((ad 0) 0)), (1, .int p1)] := hl
  refine lv_iload_n hx hb dX5_countNumber_0 rfl (lv_at hl 1 rfl) ?_
  by_cases c1 : p1 = (0 : Int32)
  · have h := if_t c1 h
    refine lv_tableIn (x := p1) (off := 63) (tgt := 64) hx hb dX5_countNumber_1 (by rw [c1]; decide) (by rw [c1]; decide) (by rw [c1]; decide) (by decide) ?_
    refine lv_aload_n hx hb dX5_countNumber_64 rfl (lv_at hl 0 rfl) ?_
    refine va_get (D := g.1) (ci := 5) (v := .ref ((ad 4) 0)) (C := RX5) (T := TX5) (N := 5) hx hb hts hinX5 hown hK hP 0 rfl rfl 0 (by decide) (hts (.fieldLink RX5 12 "BarredRungs" "now" "LBarredRungs$State;") (List.mem_of_getElem? (i := 1) rfl)) (fun _ h9 => h9) rfl dX5_countNumber_65 ?_
    refine va_get (D := g.1) (ci := 2) (v := .int (St_words st)) (C := RX2) (T := TX2) (N := 17) hx hb hts hinX2 hown hK hP 10 rfl rfl 9 (by decide) (hts (.fieldLink RX5 211 "BarredRungs$State" "words" "I") (List.mem_of_getElem? (i := 2) rfl)) (fun _ h9 => h9) rfl dX5_countNumber_68 ?_
    cases some_i h
    exact hend _ _ _ _ _ hP hD hS (RetOK.i dX5_countNumber_71)
  have h := if_f c1 h
  by_cases c2 : p1 = (1 : Int32)
  · have h := if_t c2 h
    refine lv_tableIn (x := p1) (off := 71) (tgt := 72) hx hb dX5_countNumber_1 (by rw [c2]; decide) (by rw [c2]; decide) (by rw [c2]; decide) (by decide) ?_
    refine lv_aload_n hx hb dX5_countNumber_72 rfl (lv_at hl 0 rfl) ?_
    refine va_get (D := g.1) (ci := 5) (v := .ref ((ad 4) 0)) (C := RX5) (T := TX5) (N := 5) hx hb hts hinX5 hown hK hP 0 rfl rfl 0 (by decide) (hts (.fieldLink RX5 12 "BarredRungs" "now" "LBarredRungs$State;") (List.mem_of_getElem? (i := 1) rfl)) (fun _ h9 => h9) rfl dX5_countNumber_73 ?_
    obtain ⟨r3, kr3, h⟩ := bd_ex h
    have hP8 : va_P g.1 vwCl ((cRt ad ++ (cTx g (ad 1) tx ++ (cIs g (ad 2) is ++ (cWa g (ad 3) wa)))) ++ ((cSt g (ad 4) st) ++ (cHi g (ad 5) (ad 6) hi))) _ := hP
    have hD8 : va_D A ((cRt ad ++ (cTx g (ad 1) tx ++ (cIs g (ad 2) is ++ (cWa g (ad 3) wa)))) ++ ((cSt g (ad 4) st) ++ (cHi g (ad 5) (ad 6) hi))) := hD
    refine aft_f (st1 := [.int r3]) rfl (cRt ad ++ (cTx g (ad 1) tx ++ (cIs g (ad 2) is ++ (cWa g (ad 3) wa)))) (cHi g (ad 5) (ad 6) hi) (runV (As := []) (rest := []) ⟨hx, hb, hml, hown, hts⟩ (kX2_linkedPairs l g (ad 4) kr3) (cwV 0 hts gX5_countNumber_X2_linkedPairs rfl rfl rfl hdX2_linkedPairs ⟨Nat.le_of_ble_eq_true rfl, Nat.le_of_ble_eq_true rfl⟩) hK hN hP8.right.left hD8.right.left (va_recv hK hP (ci := 2) (q0 := 10) rfl rfl) rfl hl.1 rfl (Nat.le_of_ble_eq_true rfl) dX5_countNumber_76 ⟨Nat.zero_le _, Nat.zero_le _⟩) hP8 hD8 hS hA (fun H locs hP hD hS => ?_)
    have hP : va_P g.1 vwCl (cRt ad ++ (cTx g (ad 1) tx ++ (cIs g (ad 2) is ++ (cWa g (ad 3) wa ++ (cSt g (ad 4) st ++ (cHi g (ad 5) (ad 6) hi)))))) H := hP
    have hD : va_D A (cRt ad ++ (cTx g (ad 1) tx ++ (cIs g (ad 2) is ++ (cWa g (ad 3) wa ++ (cSt g (ad 4) st ++ (cHi g (ad 5) (ad 6) hi)))))) := hD
    cases some_i h
    exact hend _ _ _ _ _ hP hD hS (RetOK.i dX5_countNumber_79)
  have h := if_f c2 h
  by_cases c4 : p1 = (2 : Int32)
  · have h := if_t c4 h
    refine lv_tableIn (x := p1) (off := 79) (tgt := 80) hx hb dX5_countNumber_1 (by rw [c4]; decide) (by rw [c4]; decide) (by rw [c4]; decide) (by decide) ?_
    refine lv_aload_n hx hb dX5_countNumber_80 rfl (lv_at hl 0 rfl) ?_
    refine va_get (D := g.1) (ci := 5) (v := .ref ((ad 2) 0)) (C := RX5) (T := TX5) (N := 5) hx hb hts hinX5 hown hK hP 0 rfl rfl 4 (by decide) (hts (.fieldLink RX5 40 "BarredRungs" "islands" "LBarredRungs$Islands;") (List.mem_of_getElem? (i := 3) rfl)) (fun _ h9 => h9) rfl dX5_countNumber_81 ?_
    refine lv_aload_n hx hb dX5_countNumber_84 rfl (lv_at hl 0 rfl) ?_
    refine va_get (D := g.1) (ci := 5) (v := .ref ((ad 4) 0)) (C := RX5) (T := TX5) (N := 5) hx hb hts hinX5 hown hK hP 0 rfl rfl 0 (by decide) (hts (.fieldLink RX5 12 "BarredRungs" "now" "LBarredRungs$State;") (List.mem_of_getElem? (i := 1) rfl)) (fun _ h9 => h9) rfl dX5_countNumber_85 ?_
    obtain ⟨r5, is6, kr5, h⟩ := bd2_ex h
    have hP8 : va_P g.1 vwCl ((cRt ad ++ (cTx g (ad 1) tx)) ++ ((cIs g (ad 2) is) ++ ((cWa g (ad 3) wa) ++ ((cSt g (ad 4) st) ++ (cHi g (ad 5) (ad 6) hi))))) _ := hP
    have hD8 : va_D A ((cRt ad ++ (cTx g (ad 1) tx)) ++ ((cIs g (ad 2) is) ++ ((cWa g (ad 3) wa) ++ ((cSt g (ad 4) st) ++ (cHi g (ad 5) (ad 6) hi))))) := hD
    refine aft_2 (st1 := [.int r5]) rfl (cRt ad ++ (cTx g (ad 1) tx)) (cWa g (ad 3) wa) (cHi g (ad 5) (ad 6) hi) (runV (As := [.ref ((ad 4) 0)]) (rest := []) ⟨hx, hb, hml, hown, hts⟩ (kX1_byJoining l g (ad 2) (ad 4) kr5) (cwV 1 hts gX5_countNumber_X1_byJoining rfl rfl rfl hdX1_byJoining ⟨Nat.le_of_ble_eq_true rfl, Nat.le_of_ble_eq_true rfl⟩) hK hN (va_P.app hP8.right.left hP8.right.right.right.left) (va_D.two hD8) (va_recv hK hP (ci := 1) (q0 := 3) rfl rfl) rfl hl.1 rfl (Nat.le_of_ble_eq_true rfl) dX5_countNumber_88 ⟨Nat.zero_le _, Nat.zero_le _⟩) hP8 hD8 hS hA (fun H locs hP hD hS => ?_)
    have hP : va_P g.1 vwCl (cRt ad ++ (cTx g (ad 1) tx ++ (cIs g (ad 2) is6 ++ (cWa g (ad 3) wa ++ (cSt g (ad 4) st ++ (cHi g (ad 5) (ad 6) hi)))))) H := hP
    have hD : va_D A (cRt ad ++ (cTx g (ad 1) tx ++ (cIs g (ad 2) is6 ++ (cWa g (ad 3) wa ++ (cSt g (ad 4) st ++ (cHi g (ad 5) (ad 6) hi)))))) := hD
    cases some_i h
    exact hend _ _ _ _ _ hP hD hS (RetOK.i dX5_countNumber_91)
  have h := if_f c4 h
  by_cases c7 : p1 = (3 : Int32)
  · have h := if_t c7 h
    refine lv_tableIn (x := p1) (off := 91) (tgt := 92) hx hb dX5_countNumber_1 (by rw [c7]; decide) (by rw [c7]; decide) (by rw [c7]; decide) (by decide) ?_
    refine lv_aload_n hx hb dX5_countNumber_92 rfl (lv_at hl 0 rfl) ?_
    refine va_get (D := g.1) (ci := 5) (v := .ref ((ad 2) 0)) (C := RX5) (T := TX5) (N := 5) hx hb hts hinX5 hown hK hP 0 rfl rfl 4 (by decide) (hts (.fieldLink RX5 40 "BarredRungs" "islands" "LBarredRungs$Islands;") (List.mem_of_getElem? (i := 3) rfl)) (fun _ h9 => h9) rfl dX5_countNumber_93 ?_
    refine lv_aload_n hx hb dX5_countNumber_96 rfl (lv_at hl 0 rfl) ?_
    refine va_get (D := g.1) (ci := 5) (v := .ref ((ad 4) 0)) (C := RX5) (T := TX5) (N := 5) hx hb hts hinX5 hown hK hP 0 rfl rfl 0 (by decide) (hts (.fieldLink RX5 12 "BarredRungs" "now" "LBarredRungs$State;") (List.mem_of_getElem? (i := 1) rfl)) (fun _ h9 => h9) rfl dX5_countNumber_97 ?_
    obtain ⟨r8, kr8, h⟩ := bd_ex h
    have hP8 : va_P g.1 vwCl ((cRt ad ++ (cTx g (ad 1) tx)) ++ ((cIs g (ad 2) is) ++ ((cWa g (ad 3) wa) ++ ((cSt g (ad 4) st) ++ (cHi g (ad 5) (ad 6) hi))))) _ := hP
    have hD8 : va_D A ((cRt ad ++ (cTx g (ad 1) tx)) ++ ((cIs g (ad 2) is) ++ ((cWa g (ad 3) wa) ++ ((cSt g (ad 4) st) ++ (cHi g (ad 5) (ad 6) hi))))) := hD
    refine aft_2 (st1 := [.int r8]) rfl (cRt ad ++ (cTx g (ad 1) tx)) (cWa g (ad 3) wa) (cHi g (ad 5) (ad 6) hi) (runV (As := [.ref ((ad 4) 0)]) (rest := []) ⟨hx, hb, hml, hown, hts⟩ (kX1_byWalking l g (ad 2) (ad 4) kr8) (cwV 1 hts gX5_countNumber_X1_byWalking rfl rfl rfl hdX1_byWalking ⟨Nat.le_of_ble_eq_true rfl, Nat.le_of_ble_eq_true rfl⟩) hK hN (va_P.app hP8.right.left hP8.right.right.right.left) (va_D.two hD8) (va_recv hK hP (ci := 1) (q0 := 3) rfl rfl) rfl hl.1 rfl (Nat.le_of_ble_eq_true rfl) dX5_countNumber_100 ⟨Nat.zero_le _, Nat.zero_le _⟩) hP8 hD8 hS hA (fun H locs hP hD hS => ?_)
    have hP : va_P g.1 vwCl (cRt ad ++ (cTx g (ad 1) tx ++ (cIs g (ad 2) is ++ (cWa g (ad 3) wa ++ (cSt g (ad 4) st ++ (cHi g (ad 5) (ad 6) hi)))))) H := hP
    have hD : va_D A (cRt ad ++ (cTx g (ad 1) tx ++ (cIs g (ad 2) is ++ (cWa g (ad 3) wa ++ (cSt g (ad 4) st ++ (cHi g (ad 5) (ad 6) hi)))))) := hD
    cases some_i h
    exact hend _ _ _ _ _ hP hD hS (RetOK.i dX5_countNumber_103)
  have h := if_f c7 h
  by_cases c9 : p1 = (4 : Int32)
  · have h := if_t c9 h
    refine lv_tableIn (x := p1) (off := 103) (tgt := 104) hx hb dX5_countNumber_1 (by rw [c9]; decide) (by rw [c9]; decide) (by rw [c9]; decide) (by decide) ?_
    refine lv_aload_n hx hb dX5_countNumber_104 rfl (lv_at hl 0 rfl) ?_
    refine va_get (D := g.1) (ci := 5) (v := .ref ((ad 4) 0)) (C := RX5) (T := TX5) (N := 5) hx hb hts hinX5 hown hK hP 0 rfl rfl 0 (by decide) (hts (.fieldLink RX5 12 "BarredRungs" "now" "LBarredRungs$State;") (List.mem_of_getElem? (i := 1) rfl)) (fun _ h9 => h9) rfl dX5_countNumber_105 ?_
    refine va_get (D := g.1) (ci := 2) (v := .int (St_place st)) (C := RX2) (T := TX2) (N := 17) hx hb hts hinX2 hown hK hP 10 rfl rfl 10 (by decide) (hts (.fieldLink RX5 85 "BarredRungs$State" "place" "I") (List.mem_of_getElem? (i := 4) rfl)) (fun _ h9 => h9) rfl dX5_countNumber_108 ?_
    cases some_i h
    exact hend _ _ _ _ _ hP hD hS (RetOK.i dX5_countNumber_111)
  have h := if_f c9 h
  by_cases c10 : p1 = (5 : Int32)
  · have h := if_t c10 h
    refine lv_tableIn (x := p1) (off := 111) (tgt := 112) hx hb dX5_countNumber_1 (by rw [c10]; decide) (by rw [c10]; decide) (by rw [c10]; decide) (by decide) ?_
    refine lv_aload_n hx hb dX5_countNumber_112 rfl (lv_at hl 0 rfl) ?_
    refine va_get (D := g.1) (ci := 5) (v := .ref ((ad 4) 0)) (C := RX5) (T := TX5) (N := 5) hx hb hts hinX5 hown hK hP 0 rfl rfl 0 (by decide) (hts (.fieldLink RX5 12 "BarredRungs" "now" "LBarredRungs$State;") (List.mem_of_getElem? (i := 1) rfl)) (fun _ h9 => h9) rfl dX5_countNumber_113 ?_
    refine va_get (D := g.1) (ci := 2) (v := .int (St_letter st)) (C := RX2) (T := TX2) (N := 17) hx hb hts hinX2 hown hK hP 10 rfl rfl 11 (by decide) (hts (.fieldLink RX5 89 "BarredRungs$State" "letter" "I") (List.mem_of_getElem? (i := 5) rfl)) (fun _ h9 => h9) rfl dX5_countNumber_116 ?_
    cases some_i h
    exact hend _ _ _ _ _ hP hD hS (RetOK.i dX5_countNumber_119)
  have h := if_f c10 h
  by_cases c11 : p1 = (6 : Int32)
  · have h := if_t c11 h
    refine lv_tableIn (x := p1) (off := 119) (tgt := 120) hx hb dX5_countNumber_1 (by rw [c11]; decide) (by rw [c11]; decide) (by rw [c11]; decide) (by decide) ?_
    refine lv_aload_n hx hb dX5_countNumber_120 rfl (lv_at hl 0 rfl) ?_
    refine va_get (D := g.1) (ci := 5) (v := .ref ((ad 4) 0)) (C := RX5) (T := TX5) (N := 5) hx hb hts hinX5 hown hK hP 0 rfl rfl 0 (by decide) (hts (.fieldLink RX5 12 "BarredRungs" "now" "LBarredRungs$State;") (List.mem_of_getElem? (i := 1) rfl)) (fun _ h9 => h9) rfl dX5_countNumber_121 ?_
    refine va_get (D := g.1) (ci := 2) (v := .int (St_turns st)) (C := RX2) (T := TX2) (N := 17) hx hb hts hinX2 hown hK hP 10 rfl rfl 14 (by decide) (hts (.fieldLink RX5 172 "BarredRungs$State" "turns" "I") (List.mem_of_getElem? (i := 6) rfl)) (fun _ h9 => h9) rfl dX5_countNumber_124 ?_
    cases some_i h
    exact hend _ _ _ _ _ hP hD hS (RetOK.i dX5_countNumber_127)
  have h := if_f c11 h
  by_cases c12 : p1 = (7 : Int32)
  · have h := if_t c12 h
    refine lv_tableIn (x := p1) (off := 127) (tgt := 128) hx hb dX5_countNumber_1 (by rw [c12]; decide) (by rw [c12]; decide) (by rw [c12]; decide) (by decide) ?_
    refine lv_aload_n hx hb dX5_countNumber_128 rfl (lv_at hl 0 rfl) ?_
    refine va_get (D := g.1) (ci := 5) (v := .ref ((ad 4) 0)) (C := RX5) (T := TX5) (N := 5) hx hb hts hinX5 hown hK hP 0 rfl rfl 0 (by decide) (hts (.fieldLink RX5 12 "BarredRungs" "now" "LBarredRungs$State;") (List.mem_of_getElem? (i := 1) rfl)) (fun _ h9 => h9) rfl dX5_countNumber_129 ?_
    refine lv_iconst (v := 0) hx hb dX5_countNumber_132 (by decide) ?_
    obtain ⟨r13, kr13, h⟩ := bd_ex h
    have hP8 : va_P g.1 vwCl ((cRt ad ++ (cTx g (ad 1) tx ++ (cIs g (ad 2) is ++ (cWa g (ad 3) wa)))) ++ ((cSt g (ad 4) st) ++ (cHi g (ad 5) (ad 6) hi))) _ := hP
    have hD8 : va_D A ((cRt ad ++ (cTx g (ad 1) tx ++ (cIs g (ad 2) is ++ (cWa g (ad 3) wa)))) ++ ((cSt g (ad 4) st) ++ (cHi g (ad 5) (ad 6) hi))) := hD
    refine aft_f (st1 := [.int r13]) rfl (cRt ad ++ (cTx g (ad 1) tx ++ (cIs g (ad 2) is ++ (cWa g (ad 3) wa)))) (cHi g (ad 5) (ad 6) hi) (runV (As := [.int (0 : Int32)]) (rest := []) ⟨hx, hb, hml, hown, hts⟩ (kX2_barredAfter l g (ad 4) kr13) (cwV 1 hts gX5_countNumber_X2_barredAfter rfl rfl rfl hdX2_barredAfter ⟨Nat.le_of_ble_eq_true rfl, Nat.le_of_ble_eq_true rfl⟩) hK hN hP8.right.left hD8.right.left (va_recv hK hP (ci := 2) (q0 := 10) rfl rfl) rfl hl.1 rfl (Nat.le_of_ble_eq_true rfl) dX5_countNumber_133 ⟨Nat.zero_le _, Nat.zero_le _⟩) hP8 hD8 hS hA (fun H locs hP hD hS => ?_)
    have hP : va_P g.1 vwCl (cRt ad ++ (cTx g (ad 1) tx ++ (cIs g (ad 2) is ++ (cWa g (ad 3) wa ++ (cSt g (ad 4) st ++ (cHi g (ad 5) (ad 6) hi)))))) H := hP
    have hD : va_D A (cRt ad ++ (cTx g (ad 1) tx ++ (cIs g (ad 2) is ++ (cWa g (ad 3) wa ++ (cSt g (ad 4) st ++ (cHi g (ad 5) (ad 6) hi)))))) := hD
    obtain ⟨r14, kr14, h⟩ := bd_ex h
    refine aft_e (st1 := [.int r14]) rfl (runS (As := [.int r13]) (rest := []) ⟨hx, hb, hml, hown, hts⟩ (kJ6_bitCount_0f7a4 l g kr14) (va_cwS 1 hts gX5_countNumber_J6_bitCount_0f7a4 rfl rfl rfl hdJ6_bitCount_0f7a4.2 ⟨Nat.le_of_ble_eq_true rfl, Nat.le_of_ble_eq_true rfl⟩) hK hN nilP (nilD (A := A)) rfl hl.1 rfl (Nat.le_of_ble_eq_true rfl) dX5_countNumber_136 ⟨Nat.zero_le _, Nat.zero_le _⟩) hP hS hA (fun H locs hP hS => ?_)
    cases some_i h
    exact hend _ _ _ _ _ hP hD hS (RetOK.i dX5_countNumber_139)
  have h := if_f c12 h
  by_cases c15 : p1 = (8 : Int32)
  · have h := if_t c15 h
    refine lv_tableIn (x := p1) (off := 139) (tgt := 140) hx hb dX5_countNumber_1 (by rw [c15]; decide) (by rw [c15]; decide) (by rw [c15]; decide) (by decide) ?_
    refine lv_aload_n hx hb dX5_countNumber_140 rfl (lv_at hl 0 rfl) ?_
    refine va_get (D := g.1) (ci := 5) (v := .ref ((ad 4) 0)) (C := RX5) (T := TX5) (N := 5) hx hb hts hinX5 hown hK hP 0 rfl rfl 0 (by decide) (hts (.fieldLink RX5 12 "BarredRungs" "now" "LBarredRungs$State;") (List.mem_of_getElem? (i := 1) rfl)) (fun _ h9 => h9) rfl dX5_countNumber_141 ?_
    obtain ⟨r16, kr16, h⟩ := bd_ex h
    have hP8 : va_P g.1 vwCl ((cRt ad ++ (cTx g (ad 1) tx ++ (cIs g (ad 2) is ++ (cWa g (ad 3) wa)))) ++ ((cSt g (ad 4) st) ++ (cHi g (ad 5) (ad 6) hi))) _ := hP
    have hD8 : va_D A ((cRt ad ++ (cTx g (ad 1) tx ++ (cIs g (ad 2) is ++ (cWa g (ad 3) wa)))) ++ ((cSt g (ad 4) st) ++ (cHi g (ad 5) (ad 6) hi))) := hD
    refine aft_f (st1 := [.int r16]) rfl (cRt ad ++ (cTx g (ad 1) tx ++ (cIs g (ad 2) is ++ (cWa g (ad 3) wa)))) (cHi g (ad 5) (ad 6) hi) (runV (As := []) (rest := []) ⟨hx, hb, hml, hown, hts⟩ (kX2_climbersOnWords l g (ad 4) kr16) (cwV 0 hts gX5_countNumber_X2_climbersOnWords rfl rfl rfl hdX2_climbersOnWords ⟨Nat.le_of_ble_eq_true rfl, Nat.le_of_ble_eq_true rfl⟩) hK hN hP8.right.left hD8.right.left (va_recv hK hP (ci := 2) (q0 := 10) rfl rfl) rfl hl.1 rfl (Nat.le_of_ble_eq_true rfl) dX5_countNumber_144 ⟨Nat.zero_le _, Nat.zero_le _⟩) hP8 hD8 hS hA (fun H locs hP hD hS => ?_)
    have hP : va_P g.1 vwCl (cRt ad ++ (cTx g (ad 1) tx ++ (cIs g (ad 2) is ++ (cWa g (ad 3) wa ++ (cSt g (ad 4) st ++ (cHi g (ad 5) (ad 6) hi)))))) H := hP
    have hD : va_D A (cRt ad ++ (cTx g (ad 1) tx ++ (cIs g (ad 2) is ++ (cWa g (ad 3) wa ++ (cSt g (ad 4) st ++ (cHi g (ad 5) (ad 6) hi)))))) := hD
    cases some_i h
    exact hend _ _ _ _ _ hP hD hS (RetOK.i dX5_countNumber_147)
  have h := if_f c15 h
  by_cases c17 : p1 = (9 : Int32)
  · have h := if_t c17 h
    refine lv_tableIn (x := p1) (off := 147) (tgt := 148) hx hb dX5_countNumber_1 (by rw [c17]; decide) (by rw [c17]; decide) (by rw [c17]; decide) (by decide) ?_
    refine lv_aload_n hx hb dX5_countNumber_148 rfl (lv_at hl 0 rfl) ?_
    refine va_get (D := g.1) (ci := 5) (v := .ref ((ad 4) 0)) (C := RX5) (T := TX5) (N := 5) hx hb hts hinX5 hown hK hP 0 rfl rfl 0 (by decide) (hts (.fieldLink RX5 12 "BarredRungs" "now" "LBarredRungs$State;") (List.mem_of_getElem? (i := 1) rfl)) (fun _ h9 => h9) rfl dX5_countNumber_149 ?_
    obtain ⟨r18, kr18, h⟩ := bd_ex h
    have hP8 : va_P g.1 vwCl ((cRt ad ++ (cTx g (ad 1) tx ++ (cIs g (ad 2) is ++ (cWa g (ad 3) wa)))) ++ ((cSt g (ad 4) st) ++ (cHi g (ad 5) (ad 6) hi))) _ := hP
    have hD8 : va_D A ((cRt ad ++ (cTx g (ad 1) tx ++ (cIs g (ad 2) is ++ (cWa g (ad 3) wa)))) ++ ((cSt g (ad 4) st) ++ (cHi g (ad 5) (ad 6) hi))) := hD
    refine aft_f (st1 := [.int r18]) rfl (cRt ad ++ (cTx g (ad 1) tx ++ (cIs g (ad 2) is ++ (cWa g (ad 3) wa)))) (cHi g (ad 5) (ad 6) hi) (runV (As := []) (rest := []) ⟨hx, hb, hml, hown, hts⟩ (kX2_laddersSoFar l g (ad 4) kr18) (cwV 0 hts gX5_countNumber_X2_laddersSoFar rfl rfl rfl hdX2_laddersSoFar ⟨Nat.le_of_ble_eq_true rfl, Nat.le_of_ble_eq_true rfl⟩) hK hN hP8.right.left hD8.right.left (va_recv hK hP (ci := 2) (q0 := 10) rfl rfl) rfl hl.1 rfl (Nat.le_of_ble_eq_true rfl) dX5_countNumber_152 ⟨Nat.zero_le _, Nat.zero_le _⟩) hP8 hD8 hS hA (fun H locs hP hD hS => ?_)
    have hP : va_P g.1 vwCl (cRt ad ++ (cTx g (ad 1) tx ++ (cIs g (ad 2) is ++ (cWa g (ad 3) wa ++ (cSt g (ad 4) st ++ (cHi g (ad 5) (ad 6) hi)))))) H := hP
    have hD : va_D A (cRt ad ++ (cTx g (ad 1) tx ++ (cIs g (ad 2) is ++ (cWa g (ad 3) wa ++ (cSt g (ad 4) st ++ (cHi g (ad 5) (ad 6) hi)))))) := hD
    cases some_i h
    exact hend _ _ _ _ _ hP hD hS (RetOK.i dX5_countNumber_155)
  have h := if_f c17 h
  by_cases c19 : p1 = (10 : Int32)
  · have h := if_t c19 h
    refine lv_tableIn (x := p1) (off := 155) (tgt := 156) hx hb dX5_countNumber_1 (by rw [c19]; decide) (by rw [c19]; decide) (by rw [c19]; decide) (by decide) ?_
    refine lv_aload_n hx hb dX5_countNumber_156 rfl (lv_at hl 0 rfl) ?_
    refine va_get (D := g.1) (ci := 5) (v := .ref ((ad 4) 0)) (C := RX5) (T := TX5) (N := 5) hx hb hts hinX5 hown hK hP 0 rfl rfl 0 (by decide) (hts (.fieldLink RX5 12 "BarredRungs" "now" "LBarredRungs$State;") (List.mem_of_getElem? (i := 1) rfl)) (fun _ h9 => h9) rfl dX5_countNumber_157 ?_
    obtain ⟨r20, kr20, h⟩ := bd_ex h
    have hP8 : va_P g.1 vwCl ((cRt ad ++ (cTx g (ad 1) tx ++ (cIs g (ad 2) is ++ (cWa g (ad 3) wa)))) ++ ((cSt g (ad 4) st) ++ (cHi g (ad 5) (ad 6) hi))) _ := hP
    have hD8 : va_D A ((cRt ad ++ (cTx g (ad 1) tx ++ (cIs g (ad 2) is ++ (cWa g (ad 3) wa)))) ++ ((cSt g (ad 4) st) ++ (cHi g (ad 5) (ad 6) hi))) := hD
    refine aft_f (st1 := [.int r20]) rfl (cRt ad ++ (cTx g (ad 1) tx ++ (cIs g (ad 2) is ++ (cWa g (ad 3) wa)))) (cHi g (ad 5) (ad 6) hi) (runV (As := []) (rest := []) ⟨hx, hb, hml, hown, hts⟩ (kX2_fallsSoFar l g (ad 4) kr20) (cwV 0 hts gX5_countNumber_X2_fallsSoFar rfl rfl rfl hdX2_fallsSoFar ⟨Nat.le_of_ble_eq_true rfl, Nat.le_of_ble_eq_true rfl⟩) hK hN hP8.right.left hD8.right.left (va_recv hK hP (ci := 2) (q0 := 10) rfl rfl) rfl hl.1 rfl (Nat.le_of_ble_eq_true rfl) dX5_countNumber_160 ⟨Nat.zero_le _, Nat.zero_le _⟩) hP8 hD8 hS hA (fun H locs hP hD hS => ?_)
    have hP : va_P g.1 vwCl (cRt ad ++ (cTx g (ad 1) tx ++ (cIs g (ad 2) is ++ (cWa g (ad 3) wa ++ (cSt g (ad 4) st ++ (cHi g (ad 5) (ad 6) hi)))))) H := hP
    have hD : va_D A (cRt ad ++ (cTx g (ad 1) tx ++ (cIs g (ad 2) is ++ (cWa g (ad 3) wa ++ (cSt g (ad 4) st ++ (cHi g (ad 5) (ad 6) hi)))))) := hD
    cases some_i h
    exact hend _ _ _ _ _ hP hD hS (RetOK.i dX5_countNumber_163)
  have h := if_f c19 h
  by_cases c21 : p1 = (11 : Int32)
  · have h := if_t c21 h
    refine lv_tableIn (x := p1) (off := 163) (tgt := 164) hx hb dX5_countNumber_1 (by rw [c21]; decide) (by rw [c21]; decide) (by rw [c21]; decide) (by decide) ?_
    refine lv_aload_n hx hb dX5_countNumber_164 rfl (lv_at hl 0 rfl) ?_
    refine va_get (D := g.1) (ci := 5) (v := .ref ((ad 4) 0)) (C := RX5) (T := TX5) (N := 5) hx hb hts hinX5 hown hK hP 0 rfl rfl 0 (by decide) (hts (.fieldLink RX5 12 "BarredRungs" "now" "LBarredRungs$State;") (List.mem_of_getElem? (i := 1) rfl)) (fun _ h9 => h9) rfl dX5_countNumber_165 ?_
    refine va_get (D := g.1) (ci := 2) (v := .int (St_climbs st)) (C := RX2) (T := TX2) (N := 17) hx hb hts hinX2 hown hK hP 10 rfl rfl 15 (by decide) (hts (.fieldLink RX5 319 "BarredRungs$State" "climbs" "I") (List.mem_of_getElem? (i := 7) rfl)) (fun _ h9 => h9) rfl dX5_countNumber_168 ?_
    cases some_i h
    exact hend _ _ _ _ _ hP hD hS (RetOK.i dX5_countNumber_171)
  have h := if_f c21 h
  have nc1 : ¬ (p1).toInt = 0 := fun q => c1 (Int32.toInt_inj.mp (by rw [q]; rfl))
  have nc2 : ¬ (p1).toInt = 1 := fun q => c2 (Int32.toInt_inj.mp (by rw [q]; rfl))
  have nc4 : ¬ (p1).toInt = 2 := fun q => c4 (Int32.toInt_inj.mp (by rw [q]; rfl))
  have nc7 : ¬ (p1).toInt = 3 := fun q => c7 (Int32.toInt_inj.mp (by rw [q]; rfl))
  have nc9 : ¬ (p1).toInt = 4 := fun q => c9 (Int32.toInt_inj.mp (by rw [q]; rfl))
  have nc10 : ¬ (p1).toInt = 5 := fun q => c10 (Int32.toInt_inj.mp (by rw [q]; rfl))
  have nc11 : ¬ (p1).toInt = 6 := fun q => c11 (Int32.toInt_inj.mp (by rw [q]; rfl))
  have nc12 : ¬ (p1).toInt = 7 := fun q => c12 (Int32.toInt_inj.mp (by rw [q]; rfl))
  have nc15 : ¬ (p1).toInt = 8 := fun q => c15 (Int32.toInt_inj.mp (by rw [q]; rfl))
  have nc17 : ¬ (p1).toInt = 9 := fun q => c17 (Int32.toInt_inj.mp (by rw [q]; rfl))
  have nc19 : ¬ (p1).toInt = 10 := fun q => c19 (Int32.toInt_inj.mp (by rw [q]; rfl))
  have nc21 : ¬ (p1).toInt = 11 := fun q => c21 (Int32.toInt_inj.mp (by rw [q]; rfl))
  refine lv_tableOut (x := p1) (tgt := 172) hx hb dX5_countNumber_1 (by omega) (by decide) ?_
  refine lv_aload_n hx hb dX5_countNumber_172 rfl (lv_at hl 0 rfl) ?_
  refine va_get (D := g.1) (ci := 5) (v := .ref ((ad 5) 0)) (C := RX5) (T := TX5) (N := 5) hx hb hts hinX5 hown hK hP 0 rfl rfl 1 (by decide) (hts (.fieldLink RX5 19 "BarredRungs" "history" "LBarredRungs$History;") (List.mem_of_getElem? (i := 8) rfl)) (fun _ h9 => h9) rfl dX5_countNumber_173 ?_
  refine va_get (D := g.1) (ci := 0) (v := .int (Hi_size hi)) (C := RX0) (T := TX0) (N := 4) hx hb hts hinX0 hown hK hP 20 rfl rfl 2 (by decide) (hts (.fieldLink RX5 184 "BarredRungs$History" "size" "I") (List.mem_of_getElem? (i := 9) rfl)) (fun _ h9 => h9) rfl dX5_countNumber_176 ?_
  cases some_i h
  exact hend _ _ _ _ _ hP hD hS (RetOK.i dX5_countNumber_179)
def fX5_count (tx : Tx) (is : Is) (wa : Wa) (st : St) (hi : Hi) (p1 : Int32) : Option (Nat ⊕ (Int32 × Is)) :=
(if p1 < (0 : Int32) then
(some (.inl 2))
else
(if p1 ≤ (12 : Int32) then
(bd2 (fX5_countNumber tx is wa st hi p1) fun (r3 : Int32) (is4 : Is) =>
(some (.inr (r3, is4))))
else
(some (.inl 2))))
abbrev rX5_count : Room := { frames := 6, cells := 0, slots := 0, locals := 114 }
theorem hdX5_count : yX5_count.cls = RX5 ∧ yX5_count.cls ≠ "java/lang/invoke/MethodHandle" ∧ yX5_count.cls ≠ "java/lang/invoke/VarHandle" ∧ (parseMethodDescriptor yX5_count.desc).map (fun d => d.parameters.length) = some 1 := by decide +kernel
set_option maxRecDepth 100000 in
set_option maxHeartbeats 8000000 in
theorem kX5_count (l : Launch) (g : GG) (ad : Nat → Nat → Nat) {tx : Tx} {is : Is} {wa : Wa} {st : St} {hi : Hi} {p1 : Int32} {res : Int32} {is' : Is} (h : fX5_count tx is wa st hi p1 = some (.inr (res, is'))) : Cg l g yX5_count wsX5_count rX5_count [.ref ((ad 0) 0), .int p1] (cRt ad ++ (cTx g (ad 1) tx ++ (cIs g (ad 2) is ++ (cWa g (ad 3) wa ++ (cSt g (ad 4) st ++ (cHi g (ad 5) (ad 6) hi)))))) (some (.int res)) (cRt ad ++ (cTx g (ad 1) tx ++ (cIs g (ad 2) is' ++ (cWa g (ad 3) wa ++ (cSt g (ad 4) st ++ (cHi g (ad 5) (ad 6) hi)))))) := by
  refine Cg_of (cc := cX5_count) (maxL := 2) (ret := (some .int)) (by decide +kernel) rfl (Nat.le_of_ble_eq_true rfl) ?_
  intro p e su m args below meth c A Q ls hx hb hml hown hts hK hN hA hnm hP hD hS hl hend
  have hinX5 : ∀ w ∈ u_ws RX5 TX5 5, w ∈ wsX5_count := fun _ h9 => List.mem_cons_of_mem _ (List.mem_append_left _ (List.mem_append_left _ (List.mem_append_left _ (List.mem_append_left _ (List.mem_append_right _ h9)))))
  have hinX2 : ∀ w ∈ u_ws RX2 TX2 17, w ∈ wsX5_count := fun _ h9 => List.mem_cons_of_mem _ (List.mem_append_left _ (List.mem_append_left _ (List.mem_append_left _ (List.mem_append_right _ h9))))
  have hinX0 : ∀ w ∈ u_ws RX0 TX0 4, w ∈ wsX5_count := fun _ h9 => List.mem_cons_of_mem _ (List.mem_append_left _ (List.mem_append_left _ (List.mem_append_right _ h9)))
  have hinX1 : ∀ w ∈ u_ws RX1 TX1 1, w ∈ wsX5_count := fun _ h9 => List.mem_cons_of_mem _ (List.mem_append_left _ (List.mem_append_right _ h9))
  unfold fX5_count at h
  have hl : lv_has ls 2 [(0, .ref ((ad 0) 0)), (1, .int p1)] := hl
  refine lv_iload_n hx hb dX5_count_0 rfl (lv_at hl 1 rfl) ?_
  refine lv_if_lt (tgt := 10) hx hb dX5_count_1 (by decide) (fun c1 => ?_) (fun c1 => ?_)
  · have h := if_t c1 h
    cases h
  · have h := if_f c1 h
    refine lv_iload_n hx hb dX5_count_4 rfl (lv_at hl 1 rfl) ?_
    refine lv_bipush (v := 12) hx hb dX5_count_5 (by decide) ?_
    refine lv_icmp_le (tgt := 20) hx hb dX5_count_7 (by decide) (fun c2 => ?_) (fun c2 => ?_)
    · have h := if_t c2 h
      refine lv_aload_n hx hb dX5_count_20 rfl (lv_at hl 0 rfl) ?_
      refine lv_iload_n hx hb dX5_count_21 rfl (lv_at hl 1 rfl) ?_
      obtain ⟨r3, is4, kr3, h⟩ := bd2_ex h
      refine aft_w (st1 := [.int r3]) rfl (runV (As := [.int p1]) (rest := []) ⟨hx, hb, hml, hown, hts⟩ (kX5_countNumber l g ad kr3) (cwV 1 hts gX5_count_X5_countNumber rfl rfl rfl hdX5_countNumber ⟨Nat.le_of_ble_eq_true rfl, Nat.le_of_ble_eq_true rfl⟩) hK hN hP hD (va_recv hK hP (ci := 5) (q0 := 0) rfl rfl) rfl hl.1 rfl (Nat.le_of_ble_eq_true rfl) dX5_count_22 ⟨Nat.zero_le _, Nat.zero_le _⟩) hD hS hA (fun H locs hP hD hS => ?_)
      cases some_i h
      exact hend _ _ _ _ _ hP hD hS (RetOK.i dX5_count_25)
    · have h := if_f c2 h
      cases h
def fX5_ifPut (tx : Tx) (is : Is) (wa : Wa) (st : St) (hi : Hi) (p1 : Int32) (p2 : Int32) : Option (Nat ⊕ (Int32 × Wa)) :=
(bd (fX2_hasWord st p1) fun (r1 : Int32) =>
(if r1 = (0 : Int32) then
(some (.inl 1))
else
(bd (fX2_hasWord st p2) fun (r3 : Int32) =>
(if r3 = (0 : Int32) then
(some (.inl 1))
else
(if p1 = p2 then
(some (.inl 2))
else
(bd (fX2_isBarredAfter st p1 (0 : Int32)) fun (r6 : Int32) =>
(if r6 = (0 : Int32) then
(bd2 (fX4_onward wa st p1 p2 (0 : Int32)) fun (r8 : Int32) (wa9 : Wa) =>
(some (.inr (r8, wa9))))
else
(some (.inr ((-1 : Int32), wa))))))))))
abbrev rX5_ifPut : Room := { frames := 6, cells := 0, slots := 0, locals := 97 }
theorem hdX5_ifPut : yX5_ifPut.cls = RX5 ∧ yX5_ifPut.cls ≠ "java/lang/invoke/MethodHandle" ∧ yX5_ifPut.cls ≠ "java/lang/invoke/VarHandle" ∧ (parseMethodDescriptor yX5_ifPut.desc).map (fun d => d.parameters.length) = some 2 := by decide +kernel
set_option maxRecDepth 100000 in
set_option maxHeartbeats 8000000 in
theorem kX5_ifPut (l : Launch) (g : GG) (ad : Nat → Nat → Nat) {tx : Tx} {is : Is} {wa : Wa} {st : St} {hi : Hi} {p1 : Int32} {p2 : Int32} {res : Int32} {wa' : Wa} (h : fX5_ifPut tx is wa st hi p1 p2 = some (.inr (res, wa'))) : Cg l g yX5_ifPut wsX5_ifPut rX5_ifPut [.ref ((ad 0) 0), .int p1, .int p2] (cRt ad ++ (cTx g (ad 1) tx ++ (cIs g (ad 2) is ++ (cWa g (ad 3) wa ++ (cSt g (ad 4) st ++ (cHi g (ad 5) (ad 6) hi)))))) (some (.int res)) (cRt ad ++ (cTx g (ad 1) tx ++ (cIs g (ad 2) is ++ (cWa g (ad 3) wa' ++ (cSt g (ad 4) st ++ (cHi g (ad 5) (ad 6) hi)))))) := by
  refine Cg_of (cc := cX5_ifPut) (maxL := 3) (ret := (some .int)) (by decide +kernel) rfl (Nat.le_of_ble_eq_true rfl) ?_
  intro p e su m args below meth c A Q ls hx hb hml hown hts hK hN hA hnm hP hD hS hl hend
  have hinX5 : ∀ w ∈ u_ws RX5 TX5 5, w ∈ wsX5_ifPut := fun _ h9 => List.mem_cons_of_mem _ (List.mem_append_left _ (List.mem_append_left _ (List.mem_append_left _ (List.mem_append_left _ (List.mem_append_right _ h9)))))
  have hinX2 : ∀ w ∈ u_ws RX2 TX2 17, w ∈ wsX5_ifPut := fun _ h9 => List.mem_cons_of_mem _ (List.mem_append_left _ (List.mem_append_left _ (List.mem_append_left _ (List.mem_append_right _ h9))))
  have hinX4 : ∀ w ∈ u_ws RX4 TX4 4, w ∈ wsX5_ifPut := fun _ h9 => List.mem_cons_of_mem _ (List.mem_append_left _ (List.mem_append_left _ (List.mem_append_right _ h9)))
  unfold fX5_ifPut at h
  have hl : lv_has ls 3 [(0, .ref ((ad 0) 0)), (1, .int p1), (2, .int p2)] := hl
  refine lv_aload_n hx hb dX5_ifPut_0 rfl (lv_at hl 0 rfl) ?_
  refine va_get (D := g.1) (ci := 5) (v := .ref ((ad 4) 0)) (C := RX5) (T := TX5) (N := 5) hx hb hts hinX5 hown hK hP 0 rfl rfl 0 (by decide) (hts (.fieldLink RX5 12 "BarredRungs" "now" "LBarredRungs$State;") (List.mem_of_getElem? (i := 5) rfl)) (fun _ h9 => h9) rfl dX5_ifPut_1 ?_
  refine lv_iload_n hx hb dX5_ifPut_4 rfl (lv_at hl 1 rfl) ?_
  obtain ⟨r1, kr1, h⟩ := bd_ex h
  have hP8 : va_P g.1 vwCl ((cRt ad ++ (cTx g (ad 1) tx ++ (cIs g (ad 2) is ++ (cWa g (ad 3) wa)))) ++ ((cSt g (ad 4) st) ++ (cHi g (ad 5) (ad 6) hi))) _ := hP
  have hD8 : va_D A ((cRt ad ++ (cTx g (ad 1) tx ++ (cIs g (ad 2) is ++ (cWa g (ad 3) wa)))) ++ ((cSt g (ad 4) st) ++ (cHi g (ad 5) (ad 6) hi))) := hD
  refine aft_f (st1 := [.int r1]) rfl (cRt ad ++ (cTx g (ad 1) tx ++ (cIs g (ad 2) is ++ (cWa g (ad 3) wa)))) (cHi g (ad 5) (ad 6) hi) (runV (As := [.int p1]) (rest := []) ⟨hx, hb, hml, hown, hts⟩ (kX2_hasWord l g (ad 4) kr1) (cwV 1 hts gX5_ifPut_X2_hasWord rfl rfl rfl hdX2_hasWord ⟨Nat.le_of_ble_eq_true rfl, Nat.le_of_ble_eq_true rfl⟩) hK hN hP8.right.left hD8.right.left (va_recv hK hP (ci := 2) (q0 := 10) rfl rfl) rfl hl.1 rfl (Nat.le_of_ble_eq_true rfl) dX5_ifPut_5 ⟨Nat.zero_le _, Nat.zero_le _⟩) hP8 hD8 hS hA (fun H locs hP hD hS => ?_)
  have hP : va_P g.1 vwCl (cRt ad ++ (cTx g (ad 1) tx ++ (cIs g (ad 2) is ++ (cWa g (ad 3) wa ++ (cSt g (ad 4) st ++ (cHi g (ad 5) (ad 6) hi)))))) H := hP
  have hD : va_D A (cRt ad ++ (cTx g (ad 1) tx ++ (cIs g (ad 2) is ++ (cWa g (ad 3) wa ++ (cSt g (ad 4) st ++ (cHi g (ad 5) (ad 6) hi)))))) := hD
  refine lv_if_eq (tgt := 22) hx hb dX5_ifPut_8 (by decide) (fun c2 => ?_) (fun c2 => ?_)
  · have h := if_t c2 h
    cases h
  · have h := if_f c2 h
    refine lv_aload_n hx hb dX5_ifPut_11 rfl (lv_at hl 0 rfl) ?_
    refine va_get (D := g.1) (ci := 5) (v := .ref ((ad 4) 0)) (C := RX5) (T := TX5) (N := 5) hx hb hts hinX5 hown hK hP 0 rfl rfl 0 (by decide) (hts (.fieldLink RX5 12 "BarredRungs" "now" "LBarredRungs$State;") (List.mem_of_getElem? (i := 5) rfl)) (fun _ h9 => h9) rfl dX5_ifPut_12 ?_
    refine lv_iload_n hx hb dX5_ifPut_15 rfl (lv_at hl 2 rfl) ?_
    obtain ⟨r3, kr3, h⟩ := bd_ex h
    have hP8 : va_P g.1 vwCl ((cRt ad ++ (cTx g (ad 1) tx ++ (cIs g (ad 2) is ++ (cWa g (ad 3) wa)))) ++ ((cSt g (ad 4) st) ++ (cHi g (ad 5) (ad 6) hi))) _ := hP
    have hD8 : va_D A ((cRt ad ++ (cTx g (ad 1) tx ++ (cIs g (ad 2) is ++ (cWa g (ad 3) wa)))) ++ ((cSt g (ad 4) st) ++ (cHi g (ad 5) (ad 6) hi))) := hD
    refine aft_f (st1 := [.int r3]) rfl (cRt ad ++ (cTx g (ad 1) tx ++ (cIs g (ad 2) is ++ (cWa g (ad 3) wa)))) (cHi g (ad 5) (ad 6) hi) (runV (As := [.int p2]) (rest := []) ⟨hx, hb, hml, hown, hts⟩ (kX2_hasWord l g (ad 4) kr3) (cwV 1 hts gX5_ifPut_X2_hasWord rfl rfl rfl hdX2_hasWord ⟨Nat.le_of_ble_eq_true rfl, Nat.le_of_ble_eq_true rfl⟩) hK hN hP8.right.left hD8.right.left (va_recv hK hP (ci := 2) (q0 := 10) rfl rfl) rfl hl.1 rfl (Nat.le_of_ble_eq_true rfl) dX5_ifPut_16 ⟨Nat.zero_le _, Nat.zero_le _⟩) hP8 hD8 hS hA (fun H locs hP hD hS => ?_)
    have hP : va_P g.1 vwCl (cRt ad ++ (cTx g (ad 1) tx ++ (cIs g (ad 2) is ++ (cWa g (ad 3) wa ++ (cSt g (ad 4) st ++ (cHi g (ad 5) (ad 6) hi)))))) H := hP
    have hD : va_D A (cRt ad ++ (cTx g (ad 1) tx ++ (cIs g (ad 2) is ++ (cWa g (ad 3) wa ++ (cSt g (ad 4) st ++ (cHi g (ad 5) (ad 6) hi)))))) := hD
    refine lv_if_ne (tgt := 32) hx hb dX5_ifPut_19 (by decide) (fun c4 => ?_) (fun c4 => ?_)
    · have h := if_f c4 h
      refine lv_iload_n hx hb dX5_ifPut_32 rfl (lv_at hl 1 rfl) ?_
      refine lv_iload_n hx hb dX5_ifPut_33 rfl (lv_at hl 2 rfl) ?_
      refine lv_icmp_ne (tgt := 47) hx hb dX5_ifPut_34 (by decide) (fun c5 => ?_) (fun c5 => ?_)
      · have h := if_f c5 h
        refine lv_aload_n hx hb dX5_ifPut_47 rfl (lv_at hl 0 rfl) ?_
        refine va_get (D := g.1) (ci := 5) (v := .ref ((ad 4) 0)) (C := RX5) (T := TX5) (N := 5) hx hb hts hinX5 hown hK hP 0 rfl rfl 0 (by decide) (hts (.fieldLink RX5 12 "BarredRungs" "now" "LBarredRungs$State;") (List.mem_of_getElem? (i := 5) rfl)) (fun _ h9 => h9) rfl dX5_ifPut_48 ?_
        refine lv_iload_n hx hb dX5_ifPut_51 rfl (lv_at hl 1 rfl) ?_
        refine lv_iconst (v := 0) hx hb dX5_ifPut_52 (by decide) ?_
        obtain ⟨r6, kr6, h⟩ := bd_ex h
        have hP8 : va_P g.1 vwCl ((cRt ad ++ (cTx g (ad 1) tx ++ (cIs g (ad 2) is ++ (cWa g (ad 3) wa)))) ++ ((cSt g (ad 4) st) ++ (cHi g (ad 5) (ad 6) hi))) _ := hP
        have hD8 : va_D A ((cRt ad ++ (cTx g (ad 1) tx ++ (cIs g (ad 2) is ++ (cWa g (ad 3) wa)))) ++ ((cSt g (ad 4) st) ++ (cHi g (ad 5) (ad 6) hi))) := hD
        refine aft_f (st1 := [.int r6]) rfl (cRt ad ++ (cTx g (ad 1) tx ++ (cIs g (ad 2) is ++ (cWa g (ad 3) wa)))) (cHi g (ad 5) (ad 6) hi) (runV (As := [.int p1, .int (0 : Int32)]) (rest := []) ⟨hx, hb, hml, hown, hts⟩ (kX2_isBarredAfter l g (ad 4) kr6) (cwV 2 hts gX5_ifPut_X2_isBarredAfter rfl rfl rfl hdX2_isBarredAfter ⟨Nat.le_of_ble_eq_true rfl, Nat.le_of_ble_eq_true rfl⟩) hK hN hP8.right.left hD8.right.left (va_recv hK hP (ci := 2) (q0 := 10) rfl rfl) rfl hl.1 rfl (Nat.le_of_ble_eq_true rfl) dX5_ifPut_53 ⟨Nat.zero_le _, Nat.zero_le _⟩) hP8 hD8 hS hA (fun H locs hP hD hS => ?_)
        have hP : va_P g.1 vwCl (cRt ad ++ (cTx g (ad 1) tx ++ (cIs g (ad 2) is ++ (cWa g (ad 3) wa ++ (cSt g (ad 4) st ++ (cHi g (ad 5) (ad 6) hi)))))) H := hP
        have hD : va_D A (cRt ad ++ (cTx g (ad 1) tx ++ (cIs g (ad 2) is ++ (cWa g (ad 3) wa ++ (cSt g (ad 4) st ++ (cHi g (ad 5) (ad 6) hi)))))) := hD
        refine lv_if_eq (tgt := 63) hx hb dX5_ifPut_56 (by decide) (fun c7 => ?_) (fun c7 => ?_)
        · have h := if_t c7 h
          refine lv_aload_n hx hb dX5_ifPut_63 rfl (lv_at hl 0 rfl) ?_
          refine va_get (D := g.1) (ci := 5) (v := .ref ((ad 3) 0)) (C := RX5) (T := TX5) (N := 5) hx hb hts hinX5 hown hK hP 0 rfl rfl 3 (by decide) (hts (.fieldLink RX5 33 "BarredRungs" "ways" "LBarredRungs$Ways;") (List.mem_of_getElem? (i := 6) rfl)) (fun _ h9 => h9) rfl dX5_ifPut_64 ?_
          refine lv_aload_n hx hb dX5_ifPut_67 rfl (lv_at hl 0 rfl) ?_
          refine va_get (D := g.1) (ci := 5) (v := .ref ((ad 4) 0)) (C := RX5) (T := TX5) (N := 5) hx hb hts hinX5 hown hK hP 0 rfl rfl 0 (by decide) (hts (.fieldLink RX5 12 "BarredRungs" "now" "LBarredRungs$State;") (List.mem_of_getElem? (i := 5) rfl)) (fun _ h9 => h9) rfl dX5_ifPut_68 ?_
          refine lv_iload_n hx hb dX5_ifPut_71 rfl (lv_at hl 1 rfl) ?_
          refine lv_iload_n hx hb dX5_ifPut_72 rfl (lv_at hl 2 rfl) ?_
          refine lv_iconst (v := 0) hx hb dX5_ifPut_73 (by decide) ?_
          obtain ⟨r8, wa9, kr8, h⟩ := bd2_ex h
          have hP8 : va_P g.1 vwCl ((cRt ad ++ (cTx g (ad 1) tx ++ (cIs g (ad 2) is))) ++ ((cWa g (ad 3) wa ++ (cSt g (ad 4) st)) ++ (cHi g (ad 5) (ad 6) hi))) _ := hP
          have hD8 : va_D A ((cRt ad ++ (cTx g (ad 1) tx ++ (cIs g (ad 2) is))) ++ ((cWa g (ad 3) wa ++ (cSt g (ad 4) st)) ++ (cHi g (ad 5) (ad 6) hi))) := hD
          refine aft_f (st1 := [.int r8]) rfl (cRt ad ++ (cTx g (ad 1) tx ++ (cIs g (ad 2) is))) (cHi g (ad 5) (ad 6) hi) (runV (As := [.ref ((ad 4) 0), .int p1, .int p2, .int (0 : Int32)]) (rest := []) ⟨hx, hb, hml, hown, hts⟩ (kX4_onward l g (ad 3) (ad 4) kr8) (cwV 4 hts gX5_ifPut_X4_onward rfl rfl rfl hdX4_onward ⟨Nat.le_of_ble_eq_true rfl, Nat.le_of_ble_eq_true rfl⟩) hK hN hP8.right.left hD8.right.left (va_recv hK hP (ci := 4) (q0 := 5) rfl rfl) rfl hl.1 rfl (Nat.le_of_ble_eq_true rfl) dX5_ifPut_74 ⟨Nat.zero_le _, Nat.zero_le _⟩) hP8 hD8 hS hA (fun H locs hP hD hS => ?_)
          have hP : va_P g.1 vwCl (cRt ad ++ (cTx g (ad 1) tx ++ (cIs g (ad 2) is ++ (cWa g (ad 3) wa9 ++ (cSt g (ad 4) st ++ (cHi g (ad 5) (ad 6) hi)))))) H := hP
          have hD : va_D A (cRt ad ++ (cTx g (ad 1) tx ++ (cIs g (ad 2) is ++ (cWa g (ad 3) wa9 ++ (cSt g (ad 4) st ++ (cHi g (ad 5) (ad 6) hi)))))) := hD
          cases some_i h
          exact hend _ _ _ _ _ hP hD hS (RetOK.i dX5_ifPut_77)
        · have h := if_f c7 h
          refine lv_iconst (v := -1) hx hb dX5_ifPut_59 (by decide) ?_
          refine lv_goto (tgt := 77) hx hb dX5_ifPut_60 (by decide) ?_
          cases some_i h
          exact hend _ _ _ _ _ hP hD hS (RetOK.i dX5_ifPut_77)
      · have h := if_t c5 h
        cases h
    · have h := if_t c4 h
      cases h
def fX5_leave (tx : Tx) (is : Is) (wa : Wa) (st : St) (hi : Hi) (p1 : Int32) : Option (Nat ⊕ (Int32 × St × Hi)) :=
(bd (fX5_isClimber p1) fun (r1 : Int32) =>
(if r1 = (0 : Int32) then
(some (.inl 1))
else
(bd (fX2_wordUnder st p1) fun (r3 : Int32) =>
(if r3 = (-1 : Int32) then
(some (.inl 3))
else
(bd (fX0_save st hi) fun (hi5 : Hi) =>
(bd (fX2_takeOff st p1) fun (st6 : St) =>
(some (.inr (r3, st6, hi5)))))))))
abbrev rX5_leave : Room := { frames := 6, cells := 0, slots := 0, locals := 102 }
theorem hdX5_leave : yX5_leave.cls = RX5 ∧ yX5_leave.cls ≠ "java/lang/invoke/MethodHandle" ∧ yX5_leave.cls ≠ "java/lang/invoke/VarHandle" ∧ (parseMethodDescriptor yX5_leave.desc).map (fun d => d.parameters.length) = some 1 := by decide +kernel
set_option maxRecDepth 100000 in
set_option maxHeartbeats 8000000 in
theorem kX5_leave (l : Launch) (g : GG) (ad : Nat → Nat → Nat) {tx : Tx} {is : Is} {wa : Wa} {st : St} {hi : Hi} {p1 : Int32} {res : Int32} {st' : St} {hi' : Hi} (h : fX5_leave tx is wa st hi p1 = some (.inr (res, st', hi'))) : Cg l g yX5_leave wsX5_leave rX5_leave [.ref ((ad 0) 0), .int p1] (cRt ad ++ (cTx g (ad 1) tx ++ (cIs g (ad 2) is ++ (cWa g (ad 3) wa ++ (cSt g (ad 4) st ++ (cHi g (ad 5) (ad 6) hi)))))) (some (.int res)) (cRt ad ++ (cTx g (ad 1) tx ++ (cIs g (ad 2) is ++ (cWa g (ad 3) wa ++ (cSt g (ad 4) st' ++ (cHi g (ad 5) (ad 6) hi')))))) := by
  refine Cg_of (cc := cX5_leave) (maxL := 3) (ret := (some .int)) (by decide +kernel) rfl (Nat.le_of_ble_eq_true rfl) ?_
  intro p e su m args below meth c A Q ls hx hb hml hown hts hK hN hA hnm hP hD hS hl hend
  have hinX5 : ∀ w ∈ u_ws RX5 TX5 5, w ∈ wsX5_leave := fun _ h9 => List.mem_cons_of_mem _ (List.mem_append_left _ (List.mem_append_left _ (List.mem_append_left _ (List.mem_append_left _ (List.mem_append_right _ h9)))))
  have hinX2 : ∀ w ∈ u_ws RX2 TX2 17, w ∈ wsX5_leave := fun _ h9 => List.mem_cons_of_mem _ (List.mem_append_left _ (List.mem_append_left _ (List.mem_append_left _ (List.mem_append_right _ h9))))
  have hinX0 : ∀ w ∈ u_ws RX0 TX0 4, w ∈ wsX5_leave := fun _ h9 => List.mem_cons_of_mem _ (List.mem_append_left _ (List.mem_append_left _ (List.mem_append_right _ h9)))
  unfold fX5_leave at h
  have hl : lv_has ls 3 [(0, .ref ((ad 0) 0)), (1, .int p1)] := hl
  refine lv_iload_n hx hb dX5_leave_0 rfl (lv_at hl 1 rfl) ?_
  obtain ⟨r1, kr1, h⟩ := bd_ex h
  refine aft_e (st1 := [.int r1]) rfl (runS (As := [.int p1]) (rest := []) ⟨hx, hb, hml, hown, hts⟩ (kX5_isClimber l g kr1) (va_cwS 1 hts gX5_leave_X5_isClimber rfl rfl rfl hdX5_isClimber.2 ⟨Nat.le_of_ble_eq_true rfl, Nat.le_of_ble_eq_true rfl⟩) hK hN nilP (nilD (A := A)) rfl hl.1 rfl (Nat.le_of_ble_eq_true rfl) dX5_leave_1 ⟨Nat.zero_le _, Nat.zero_le _⟩) hP hS hA (fun H locs hP hS => ?_)
  refine lv_if_ne (tgt := 17) hx hb dX5_leave_4 (by decide) (fun c2 => ?_) (fun c2 => ?_)
  · have h := if_f c2 h
    refine lv_aload_n hx hb dX5_leave_17 rfl (lv_at hl 0 rfl) ?_
    refine va_get (D := g.1) (ci := 5) (v := .ref ((ad 4) 0)) (C := RX5) (T := TX5) (N := 5) hx hb hts hinX5 hown hK hP 0 rfl rfl 0 (by decide) (hts (.fieldLink RX5 12 "BarredRungs" "now" "LBarredRungs$State;") (List.mem_of_getElem? (i := 5) rfl)) (fun _ h9 => h9) rfl dX5_leave_18 ?_
    refine lv_iload_n hx hb dX5_leave_21 rfl (lv_at hl 1 rfl) ?_
    obtain ⟨r3, kr3, h⟩ := bd_ex h
    have hP8 : va_P g.1 vwCl ((cRt ad ++ (cTx g (ad 1) tx ++ (cIs g (ad 2) is ++ (cWa g (ad 3) wa)))) ++ ((cSt g (ad 4) st) ++ (cHi g (ad 5) (ad 6) hi))) _ := hP
    have hD8 : va_D A ((cRt ad ++ (cTx g (ad 1) tx ++ (cIs g (ad 2) is ++ (cWa g (ad 3) wa)))) ++ ((cSt g (ad 4) st) ++ (cHi g (ad 5) (ad 6) hi))) := hD
    refine aft_f (st1 := [.int r3]) rfl (cRt ad ++ (cTx g (ad 1) tx ++ (cIs g (ad 2) is ++ (cWa g (ad 3) wa)))) (cHi g (ad 5) (ad 6) hi) (runV (As := [.int p1]) (rest := []) ⟨hx, hb, hml, hown, hts⟩ (kX2_wordUnder l g (ad 4) kr3) (cwV 1 hts gX5_leave_X2_wordUnder rfl rfl rfl hdX2_wordUnder ⟨Nat.le_of_ble_eq_true rfl, Nat.le_of_ble_eq_true rfl⟩) hK hN hP8.right.left hD8.right.left (va_recv hK hP (ci := 2) (q0 := 10) rfl rfl) rfl hl.1 rfl (Nat.le_of_ble_eq_true rfl) dX5_leave_22 ⟨Nat.zero_le _, Nat.zero_le _⟩) hP8 hD8 hS hA (fun H locs hP hD hS => ?_)
    have hP : va_P g.1 vwCl (cRt ad ++ (cTx g (ad 1) tx ++ (cIs g (ad 2) is ++ (cWa g (ad 3) wa ++ (cSt g (ad 4) st ++ (cHi g (ad 5) (ad 6) hi)))))) H := hP
    have hD : va_D A (cRt ad ++ (cTx g (ad 1) tx ++ (cIs g (ad 2) is ++ (cWa g (ad 3) wa ++ (cSt g (ad 4) st ++ (cHi g (ad 5) (ad 6) hi)))))) := hD
    refine lv_istore_n (lv' := [(2, .int r3), (0, .ref ((ad 0) 0)), (1, .int p1)]) hx hb dX5_leave_25 rfl hl (by decide) rfl (fun ls hl => ?_)
    refine lv_iload_n hx hb dX5_leave_26 rfl (lv_at hl 0 rfl) ?_
    refine lv_iconst (v := -1) hx hb dX5_leave_27 (by decide) ?_
    refine lv_icmp_ne (tgt := 41) hx hb dX5_leave_28 (by decide) (fun c4 => ?_) (fun c4 => ?_)
    · have h := if_f c4 h
      refine lv_aload_n hx hb dX5_leave_41 rfl (lv_at hl 1 rfl) ?_
      refine va_get (D := g.1) (ci := 5) (v := .ref ((ad 5) 0)) (C := RX5) (T := TX5) (N := 5) hx hb hts hinX5 hown hK hP 0 rfl rfl 1 (by decide) (hts (.fieldLink RX5 19 "BarredRungs" "history" "LBarredRungs$History;") (List.mem_of_getElem? (i := 6) rfl)) (fun _ h9 => h9) rfl dX5_leave_42 ?_
      refine lv_aload_n hx hb dX5_leave_45 rfl (lv_at hl 1 rfl) ?_
      refine va_get (D := g.1) (ci := 5) (v := .ref ((ad 4) 0)) (C := RX5) (T := TX5) (N := 5) hx hb hts hinX5 hown hK hP 0 rfl rfl 0 (by decide) (hts (.fieldLink RX5 12 "BarredRungs" "now" "LBarredRungs$State;") (List.mem_of_getElem? (i := 5) rfl)) (fun _ h9 => h9) rfl dX5_leave_46 ?_
      obtain ⟨hi5, khi5, h⟩ := bd_ex h
      have hP8 : va_P g.1 vwCl ((cRt ad ++ (cTx g (ad 1) tx ++ (cIs g (ad 2) is ++ (cWa g (ad 3) wa)))) ++ ((cSt g (ad 4) st ++ (cHi g (ad 5) (ad 6) hi)) ++ [])) _ := hP
      have hD8 : va_D A ((cRt ad ++ (cTx g (ad 1) tx ++ (cIs g (ad 2) is ++ (cWa g (ad 3) wa)))) ++ ((cSt g (ad 4) st ++ (cHi g (ad 5) (ad 6) hi)) ++ [])) := hD
      refine aft_f (st1 := []) rfl (cRt ad ++ (cTx g (ad 1) tx ++ (cIs g (ad 2) is ++ (cWa g (ad 3) wa)))) [] (runV (As := [.ref ((ad 4) 0)]) (rest := []) ⟨hx, hb, hml, hown, hts⟩ (kX0_save l g (ad 4) (ad 5) (ad 6) khi5) (cwV 1 hts gX5_leave_X0_save rfl rfl rfl hdX0_save ⟨Nat.le_of_ble_eq_true rfl, Nat.le_of_ble_eq_true rfl⟩) hK hN hP8.right.left hD8.right.left (va_recv hK hP (ci := 0) (q0 := 20) rfl rfl) rfl hl.1 rfl (Nat.le_of_ble_eq_true rfl) dX5_leave_49 ⟨Nat.zero_le _, Nat.zero_le _⟩) hP8 hD8 hS hA (fun H locs hP hD hS => ?_)
      have hP : va_P g.1 vwCl (cRt ad ++ (cTx g (ad 1) tx ++ (cIs g (ad 2) is ++ (cWa g (ad 3) wa ++ (cSt g (ad 4) st ++ (cHi g (ad 5) (ad 6) hi5)))))) H := hP
      have hD : va_D A (cRt ad ++ (cTx g (ad 1) tx ++ (cIs g (ad 2) is ++ (cWa g (ad 3) wa ++ (cSt g (ad 4) st ++ (cHi g (ad 5) (ad 6) hi5)))))) := hD
      refine lv_aload_n hx hb dX5_leave_52 rfl (lv_at hl 1 rfl) ?_
      refine va_get (D := g.1) (ci := 5) (v := .ref ((ad 4) 0)) (C := RX5) (T := TX5) (N := 5) hx hb hts hinX5 hown hK hP 0 rfl rfl 0 (by decide) (hts (.fieldLink RX5 12 "BarredRungs" "now" "LBarredRungs$State;") (List.mem_of_getElem? (i := 5) rfl)) (fun _ h9 => h9) rfl dX5_leave_53 ?_
      refine lv_iload_n hx hb dX5_leave_56 rfl (lv_at hl 2 rfl) ?_
      obtain ⟨st6, kst6, h⟩ := bd_ex h
      have hP8 : va_P g.1 vwCl ((cRt ad ++ (cTx g (ad 1) tx ++ (cIs g (ad 2) is ++ (cWa g (ad 3) wa)))) ++ ((cSt g (ad 4) st) ++ (cHi g (ad 5) (ad 6) hi5))) _ := hP
      have hD8 : va_D A ((cRt ad ++ (cTx g (ad 1) tx ++ (cIs g (ad 2) is ++ (cWa g (ad 3) wa)))) ++ ((cSt g (ad 4) st) ++ (cHi g (ad 5) (ad 6) hi5))) := hD
      refine aft_f (st1 := []) rfl (cRt ad ++ (cTx g (ad 1) tx ++ (cIs g (ad 2) is ++ (cWa g (ad 3) wa)))) (cHi g (ad 5) (ad 6) hi5) (runV (As := [.int p1]) (rest := []) ⟨hx, hb, hml, hown, hts⟩ (kX2_takeOff l g (ad 4) kst6) (cwV 1 hts gX5_leave_X2_takeOff rfl rfl rfl hdX2_takeOff ⟨Nat.le_of_ble_eq_true rfl, Nat.le_of_ble_eq_true rfl⟩) hK hN hP8.right.left hD8.right.left (va_recv hK hP (ci := 2) (q0 := 10) rfl rfl) rfl hl.1 rfl (Nat.le_of_ble_eq_true rfl) dX5_leave_57 ⟨Nat.zero_le _, Nat.zero_le _⟩) hP8 hD8 hS hA (fun H locs hP hD hS => ?_)
      have hP : va_P g.1 vwCl (cRt ad ++ (cTx g (ad 1) tx ++ (cIs g (ad 2) is ++ (cWa g (ad 3) wa ++ (cSt g (ad 4) st6 ++ (cHi g (ad 5) (ad 6) hi5)))))) H := hP
      have hD : va_D A (cRt ad ++ (cTx g (ad 1) tx ++ (cIs g (ad 2) is ++ (cWa g (ad 3) wa ++ (cSt g (ad 4) st6 ++ (cHi g (ad 5) (ad 6) hi5)))))) := hD
      refine lv_iload_n hx hb dX5_leave_60 rfl (lv_at hl 0 rfl) ?_
      cases some_i h
      exact hend _ _ _ _ _ hP hD hS (RetOK.i dX5_leave_61)
    · have h := if_t c4 h
      cases h
  · have h := if_t c2 h
    cases h
def fX5_linkShare (tx : Tx) (is : Is) (wa : Wa) (st : St) (hi : Hi) : Option (UInt64) :=
(pl ((((St_words st) * ((St_words st) - (1 : Int32))) / (2 : Int32))) fun (x1 : Int32) =>
(if x1 ≤ (0 : Int32) then
(some FP.dconst0)
else
(bd (fX2_linkedPairs st) fun (r3 : Int32) =>
(ck (nnd (FP.ddiv (FP.i2d r3) (FP.i2d x1)))
(some (FP.ddiv (FP.i2d r3) (FP.i2d x1)))))))
abbrev rX5_linkShare : Room := { frames := 2, cells := 0, slots := 0, locals := 42 }
theorem hdX5_linkShare : yX5_linkShare.cls = RX5 ∧ yX5_linkShare.cls ≠ "java/lang/invoke/MethodHandle" ∧ yX5_linkShare.cls ≠ "java/lang/invoke/VarHandle" ∧ (parseMethodDescriptor yX5_linkShare.desc).map (fun d => d.parameters.length) = some 0 := by decide +kernel
set_option maxRecDepth 100000 in
set_option maxHeartbeats 8000000 in
theorem kX5_linkShare (l : Launch) (g : GG) (ad : Nat → Nat → Nat) {tx : Tx} {is : Is} {wa : Wa} {st : St} {hi : Hi} {res : UInt64} (h : fX5_linkShare tx is wa st hi = some res) : Cg l g yX5_linkShare wsX5_linkShare rX5_linkShare [.ref ((ad 0) 0)] (cRt ad ++ (cTx g (ad 1) tx ++ (cIs g (ad 2) is ++ (cWa g (ad 3) wa ++ (cSt g (ad 4) st ++ (cHi g (ad 5) (ad 6) hi)))))) (some (.double res)) (cRt ad ++ (cTx g (ad 1) tx ++ (cIs g (ad 2) is ++ (cWa g (ad 3) wa ++ (cSt g (ad 4) st ++ (cHi g (ad 5) (ad 6) hi)))))) := by
  refine Cg_of (cc := cX5_linkShare) (maxL := 2) (ret := (some .double)) (by decide +kernel) rfl (Nat.le_of_ble_eq_true rfl) ?_
  intro p e su m args below meth c A Q ls hx hb hml hown hts hK hN hA hnm hP hD hS hl hend
  have hinX5 : ∀ w ∈ u_ws RX5 TX5 5, w ∈ wsX5_linkShare := fun _ h9 => List.mem_cons_of_mem _ (List.mem_append_left _ (List.mem_append_right _ h9))
  have hinX2 : ∀ w ∈ u_ws RX2 TX2 17, w ∈ wsX5_linkShare := fun _ h9 => List.mem_cons_of_mem _ (List.mem_append_right _ h9)
  unfold fX5_linkShare at h
  have hl : lv_has ls 2 [(0, .ref ((ad 0) 0))] := hl
  refine lv_aload_n hx hb dX5_linkShare_0 rfl (lv_at hl 0 rfl) ?_
  refine va_get (D := g.1) (ci := 5) (v := .ref ((ad 4) 0)) (C := RX5) (T := TX5) (N := 5) hx hb hts hinX5 hown hK hP 0 rfl rfl 0 (by decide) (hts (.fieldLink RX5 12 "BarredRungs" "now" "LBarredRungs$State;") (List.mem_of_getElem? (i := 1) rfl)) (fun _ h9 => h9) rfl dX5_linkShare_1 ?_
  refine va_get (D := g.1) (ci := 2) (v := .int (St_words st)) (C := RX2) (T := TX2) (N := 17) hx hb hts hinX2 hown hK hP 10 rfl rfl 9 (by decide) (hts (.fieldLink RX5 211 "BarredRungs$State" "words" "I") (List.mem_of_getElem? (i := 2) rfl)) (fun _ h9 => h9) rfl dX5_linkShare_4 ?_
  refine lv_aload_n hx hb dX5_linkShare_7 rfl (lv_at hl 0 rfl) ?_
  refine va_get (D := g.1) (ci := 5) (v := .ref ((ad 4) 0)) (C := RX5) (T := TX5) (N := 5) hx hb hts hinX5 hown hK hP 0 rfl rfl 0 (by decide) (hts (.fieldLink RX5 12 "BarredRungs" "now" "LBarredRungs$State;") (List.mem_of_getElem? (i := 1) rfl)) (fun _ h9 => h9) rfl dX5_linkShare_8 ?_
  refine va_get (D := g.1) (ci := 2) (v := .int (St_words st)) (C := RX2) (T := TX2) (N := 17) hx hb hts hinX2 hown hK hP 10 rfl rfl 9 (by decide) (hts (.fieldLink RX5 211 "BarredRungs$State" "words" "I") (List.mem_of_getElem? (i := 2) rfl)) (fun _ h9 => h9) rfl dX5_linkShare_11 ?_
  refine lv_iconst (v := 1) hx hb dX5_linkShare_14 (by decide) ?_
  refine lv_isub hx hb dX5_linkShare_15 ?_
  refine lv_imul hx hb dX5_linkShare_16 ?_
  refine lv_iconst (v := 2) hx hb dX5_linkShare_17 (by decide) ?_
  refine lv_idiv hx hb dX5_linkShare_18 (by decide) ?_
  obtain ⟨x1, ex1, h⟩ := pl_ex h
  refine lv_eqi ex1 ?_
  refine lv_istore_n (lv' := [(1, .int x1), (0, .ref ((ad 0) 0))]) hx hb dX5_linkShare_19 rfl hl (by decide) rfl (fun ls hl => ?_)
  refine lv_iload_n hx hb dX5_linkShare_20 rfl (lv_at hl 0 rfl) ?_
  refine lv_if_le (tgt := 38) hx hb dX5_linkShare_21 (by decide) (fun c2 => ?_) (fun c2 => ?_)
  · have h := if_t c2 h
    refine lv_dconst0 hx hb dX5_linkShare_38 ?_
    cases some_i h
    exact hend _ _ _ _ _ hP hD hS (RetOK.d dX5_linkShare_39)
  · have h := if_f c2 h
    refine lv_aload_n hx hb dX5_linkShare_24 rfl (lv_at hl 1 rfl) ?_
    refine va_get (D := g.1) (ci := 5) (v := .ref ((ad 4) 0)) (C := RX5) (T := TX5) (N := 5) hx hb hts hinX5 hown hK hP 0 rfl rfl 0 (by decide) (hts (.fieldLink RX5 12 "BarredRungs" "now" "LBarredRungs$State;") (List.mem_of_getElem? (i := 1) rfl)) (fun _ h9 => h9) rfl dX5_linkShare_25 ?_
    obtain ⟨r3, kr3, h⟩ := bd_ex h
    have hP8 : va_P g.1 vwCl ((cRt ad ++ (cTx g (ad 1) tx ++ (cIs g (ad 2) is ++ (cWa g (ad 3) wa)))) ++ ((cSt g (ad 4) st) ++ (cHi g (ad 5) (ad 6) hi))) _ := hP
    have hD8 : va_D A ((cRt ad ++ (cTx g (ad 1) tx ++ (cIs g (ad 2) is ++ (cWa g (ad 3) wa)))) ++ ((cSt g (ad 4) st) ++ (cHi g (ad 5) (ad 6) hi))) := hD
    refine aft_f (st1 := [.int r3]) rfl (cRt ad ++ (cTx g (ad 1) tx ++ (cIs g (ad 2) is ++ (cWa g (ad 3) wa)))) (cHi g (ad 5) (ad 6) hi) (runV (As := []) (rest := []) ⟨hx, hb, hml, hown, hts⟩ (kX2_linkedPairs l g (ad 4) kr3) (cwV 0 hts gX5_linkShare_X2_linkedPairs rfl rfl rfl hdX2_linkedPairs ⟨Nat.le_of_ble_eq_true rfl, Nat.le_of_ble_eq_true rfl⟩) hK hN hP8.right.left hD8.right.left (va_recv hK hP (ci := 2) (q0 := 10) rfl rfl) rfl hl.1 rfl (Nat.le_of_ble_eq_true rfl) dX5_linkShare_28 ⟨Nat.zero_le _, Nat.zero_le _⟩) hP8 hD8 hS hA (fun H locs hP hD hS => ?_)
    have hP : va_P g.1 vwCl (cRt ad ++ (cTx g (ad 1) tx ++ (cIs g (ad 2) is ++ (cWa g (ad 3) wa ++ (cSt g (ad 4) st ++ (cHi g (ad 5) (ad 6) hi)))))) H := hP
    have hD : va_D A (cRt ad ++ (cTx g (ad 1) tx ++ (cIs g (ad 2) is ++ (cWa g (ad 3) wa ++ (cSt g (ad 4) st ++ (cHi g (ad 5) (ad 6) hi)))))) := hD
    refine lv_i2d hx hb dX5_linkShare_31 ?_
    refine lv_iload_n hx hb dX5_linkShare_32 rfl (lv_at hl 0 rfl) ?_
    refine lv_i2d hx hb dX5_linkShare_33 ?_
    obtain ⟨hn9, h⟩ := ck_ex h
    refine lv_ddiv hx hb dX5_linkShare_34 (nnd_ok hn9) ?_
    refine lv_goto (tgt := 39) hx hb dX5_linkShare_35 (by decide) ?_
    cases some_i h
    exact hend _ _ _ _ _ hP hD hS (RetOK.d dX5_linkShare_39)
def fX5_meanLadder (tx : Tx) (is : Is) (wa : Wa) (st : St) (hi : Hi) : Option (UInt32) :=
(bd (fX2_laddersSoFar st) fun (r1 : Int32) =>
(if r1 ≤ (0 : Int32) then
(some FP.fconst0)
else
(ck (nnf (FP.fdiv (FP.i2f (St_ladderClimbs st)) (FP.i2f r1)))
(some (FP.fdiv (FP.i2f (St_ladderClimbs st)) (FP.i2f r1))))))
abbrev rX5_meanLadder : Room := { frames := 1, cells := 0, slots := 0, locals := 22 }
theorem hdX5_meanLadder : yX5_meanLadder.cls = RX5 ∧ yX5_meanLadder.cls ≠ "java/lang/invoke/MethodHandle" ∧ yX5_meanLadder.cls ≠ "java/lang/invoke/VarHandle" ∧ (parseMethodDescriptor yX5_meanLadder.desc).map (fun d => d.parameters.length) = some 0 := by decide +kernel
set_option maxRecDepth 100000 in
set_option maxHeartbeats 8000000 in
theorem kX5_meanLadder (l : Launch) (g : GG) (ad : Nat → Nat → Nat) {tx : Tx} {is : Is} {wa : Wa} {st : St} {hi : Hi} {res : UInt32} (h : fX5_meanLadder tx is wa st hi = some res) : Cg l g yX5_meanLadder wsX5_meanLadder rX5_meanLadder [.ref ((ad 0) 0)] (cRt ad ++ (cTx g (ad 1) tx ++ (cIs g (ad 2) is ++ (cWa g (ad 3) wa ++ (cSt g (ad 4) st ++ (cHi g (ad 5) (ad 6) hi)))))) (some (.float res)) (cRt ad ++ (cTx g (ad 1) tx ++ (cIs g (ad 2) is ++ (cWa g (ad 3) wa ++ (cSt g (ad 4) st ++ (cHi g (ad 5) (ad 6) hi)))))) := by
  refine Cg_of (cc := cX5_meanLadder) (maxL := 2) (ret := (some .float)) (by decide +kernel) rfl (Nat.le_of_ble_eq_true rfl) ?_
  intro p e su m args below meth c A Q ls hx hb hml hown hts hK hN hA hnm hP hD hS hl hend
  have hinX5 : ∀ w ∈ u_ws RX5 TX5 5, w ∈ wsX5_meanLadder := fun _ h9 => List.mem_cons_of_mem _ (List.mem_append_left _ (List.mem_append_right _ h9))
  have hinX2 : ∀ w ∈ u_ws RX2 TX2 17, w ∈ wsX5_meanLadder := fun _ h9 => List.mem_cons_of_mem _ (List.mem_append_right _ h9)
  unfold fX5_meanLadder at h
  have hl : lv_has ls 2 [(0, .ref ((ad 0) 0))] := hl
  refine lv_aload_n hx hb dX5_meanLadder_0 rfl (lv_at hl 0 rfl) ?_
  refine va_get (D := g.1) (ci := 5) (v := .ref ((ad 4) 0)) (C := RX5) (T := TX5) (N := 5) hx hb hts hinX5 hown hK hP 0 rfl rfl 0 (by decide) (hts (.fieldLink RX5 12 "BarredRungs" "now" "LBarredRungs$State;") (List.mem_of_getElem? (i := 1) rfl)) (fun _ h9 => h9) rfl dX5_meanLadder_1 ?_
  obtain ⟨r1, kr1, h⟩ := bd_ex h
  have hP8 : va_P g.1 vwCl ((cRt ad ++ (cTx g (ad 1) tx ++ (cIs g (ad 2) is ++ (cWa g (ad 3) wa)))) ++ ((cSt g (ad 4) st) ++ (cHi g (ad 5) (ad 6) hi))) _ := hP
  have hD8 : va_D A ((cRt ad ++ (cTx g (ad 1) tx ++ (cIs g (ad 2) is ++ (cWa g (ad 3) wa)))) ++ ((cSt g (ad 4) st) ++ (cHi g (ad 5) (ad 6) hi))) := hD
  refine aft_f (st1 := [.int r1]) rfl (cRt ad ++ (cTx g (ad 1) tx ++ (cIs g (ad 2) is ++ (cWa g (ad 3) wa)))) (cHi g (ad 5) (ad 6) hi) (runV (As := []) (rest := []) ⟨hx, hb, hml, hown, hts⟩ (kX2_laddersSoFar l g (ad 4) kr1) (cwV 0 hts gX5_meanLadder_X2_laddersSoFar rfl rfl rfl hdX2_laddersSoFar ⟨Nat.le_of_ble_eq_true rfl, Nat.le_of_ble_eq_true rfl⟩) hK hN hP8.right.left hD8.right.left (va_recv hK hP (ci := 2) (q0 := 10) rfl rfl) rfl hl.1 rfl (Nat.le_of_ble_eq_true rfl) dX5_meanLadder_4 ⟨Nat.zero_le _, Nat.zero_le _⟩) hP8 hD8 hS hA (fun H locs hP hD hS => ?_)
  have hP : va_P g.1 vwCl (cRt ad ++ (cTx g (ad 1) tx ++ (cIs g (ad 2) is ++ (cWa g (ad 3) wa ++ (cSt g (ad 4) st ++ (cHi g (ad 5) (ad 6) hi)))))) H := hP
  have hD : va_D A (cRt ad ++ (cTx g (ad 1) tx ++ (cIs g (ad 2) is ++ (cWa g (ad 3) wa ++ (cSt g (ad 4) st ++ (cHi g (ad 5) (ad 6) hi)))))) := hD
  refine lv_istore_n (lv' := [(1, .int r1), (0, .ref ((ad 0) 0))]) hx hb dX5_meanLadder_7 rfl hl (by decide) rfl (fun ls hl => ?_)
  refine lv_iload_n hx hb dX5_meanLadder_8 rfl (lv_at hl 0 rfl) ?_
  refine lv_if_le (tgt := 26) hx hb dX5_meanLadder_9 (by decide) (fun c2 => ?_) (fun c2 => ?_)
  · have h := if_t c2 h
    refine lv_fconst0 hx hb dX5_meanLadder_26 ?_
    cases some_i h
    exact hend _ _ _ _ _ hP hD hS (RetOK.f dX5_meanLadder_27)
  · have h := if_f c2 h
    refine lv_aload_n hx hb dX5_meanLadder_12 rfl (lv_at hl 1 rfl) ?_
    refine va_get (D := g.1) (ci := 5) (v := .ref ((ad 4) 0)) (C := RX5) (T := TX5) (N := 5) hx hb hts hinX5 hown hK hP 0 rfl rfl 0 (by decide) (hts (.fieldLink RX5 12 "BarredRungs" "now" "LBarredRungs$State;") (List.mem_of_getElem? (i := 1) rfl)) (fun _ h9 => h9) rfl dX5_meanLadder_13 ?_
    refine va_get (D := g.1) (ci := 2) (v := .int (St_ladderClimbs st)) (C := RX2) (T := TX2) (N := 17) hx hb hts hinX2 hown hK hP 10 rfl rfl 16 (by decide) (hts (.fieldLink RX5 223 "BarredRungs$State" "ladderClimbs" "I") (List.mem_of_getElem? (i := 2) rfl)) (fun _ h9 => h9) rfl dX5_meanLadder_16 ?_
    refine lv_i2f hx hb dX5_meanLadder_19 ?_
    refine lv_iload_n hx hb dX5_meanLadder_20 rfl (lv_at hl 0 rfl) ?_
    refine lv_i2f hx hb dX5_meanLadder_21 ?_
    obtain ⟨hn9, h⟩ := ck_ex h
    refine lv_fdiv hx hb dX5_meanLadder_22 (nnf_ok hn9) ?_
    refine lv_goto (tgt := 27) hx hb dX5_meanLadder_23 (by decide) ?_
    cases some_i h
    exact hend _ _ _ _ _ hP hD hS (RetOK.f dX5_meanLadder_27)
def fX5_plain (tx : Tx) (is : Is) (wa : Wa) (st : St) (hi : Hi) (p1 : Int32) (p2 : Int32) : Option (Nat ⊕ (Int32)) :=
(bd (fX2_hasWord st p1) fun (r1 : Int32) =>
(if r1 = (0 : Int32) then
(some (.inl 1))
else
(bd (fX2_hasWord st p2) fun (r3 : Int32) =>
(if r3 = (0 : Int32) then
(some (.inl 1))
else
(bd (fX4_byLinksAlone wa st p1 p2) fun (r5 : Int32) =>
(some (.inr r5)))))))
abbrev rX5_plain : Room := { frames := 6, cells := 0, slots := 0, locals := 90 }
theorem hdX5_plain : yX5_plain.cls = RX5 ∧ yX5_plain.cls ≠ "java/lang/invoke/MethodHandle" ∧ yX5_plain.cls ≠ "java/lang/invoke/VarHandle" ∧ (parseMethodDescriptor yX5_plain.desc).map (fun d => d.parameters.length) = some 2 := by decide +kernel
set_option maxRecDepth 100000 in
set_option maxHeartbeats 8000000 in
theorem kX5_plain (l : Launch) (g : GG) (ad : Nat → Nat → Nat) {tx : Tx} {is : Is} {wa : Wa} {st : St} {hi : Hi} {p1 : Int32} {p2 : Int32} {res : Int32} (h : fX5_plain tx is wa st hi p1 p2 = some (.inr res)) : Cg l g yX5_plain wsX5_plain rX5_plain [.ref ((ad 0) 0), .int p1, .int p2] (cRt ad ++ (cTx g (ad 1) tx ++ (cIs g (ad 2) is ++ (cWa g (ad 3) wa ++ (cSt g (ad 4) st ++ (cHi g (ad 5) (ad 6) hi)))))) (some (.int res)) (cRt ad ++ (cTx g (ad 1) tx ++ (cIs g (ad 2) is ++ (cWa g (ad 3) wa ++ (cSt g (ad 4) st ++ (cHi g (ad 5) (ad 6) hi)))))) := by
  refine Cg_of (cc := cX5_plain) (maxL := 3) (ret := (some .int)) (by decide +kernel) rfl (Nat.le_of_ble_eq_true rfl) ?_
  intro p e su m args below meth c A Q ls hx hb hml hown hts hK hN hA hnm hP hD hS hl hend
  have hinX5 : ∀ w ∈ u_ws RX5 TX5 5, w ∈ wsX5_plain := fun _ h9 => List.mem_cons_of_mem _ (List.mem_append_left _ (List.mem_append_left _ (List.mem_append_right _ h9)))
  have hinX2 : ∀ w ∈ u_ws RX2 TX2 17, w ∈ wsX5_plain := fun _ h9 => List.mem_cons_of_mem _ (List.mem_append_left _ (List.mem_append_right _ h9))
  unfold fX5_plain at h
  have hl : lv_has ls 3 [(0, .ref ((ad 0) 0)), (1, .int p1), (2, .int p2)] := hl
  refine lv_aload_n hx hb dX5_plain_0 rfl (lv_at hl 0 rfl) ?_
  refine va_get (D := g.1) (ci := 5) (v := .ref ((ad 4) 0)) (C := RX5) (T := TX5) (N := 5) hx hb hts hinX5 hown hK hP 0 rfl rfl 0 (by decide) (hts (.fieldLink RX5 12 "BarredRungs" "now" "LBarredRungs$State;") (List.mem_of_getElem? (i := 3) rfl)) (fun _ h9 => h9) rfl dX5_plain_1 ?_
  refine lv_iload_n hx hb dX5_plain_4 rfl (lv_at hl 1 rfl) ?_
  obtain ⟨r1, kr1, h⟩ := bd_ex h
  have hP8 : va_P g.1 vwCl ((cRt ad ++ (cTx g (ad 1) tx ++ (cIs g (ad 2) is ++ (cWa g (ad 3) wa)))) ++ ((cSt g (ad 4) st) ++ (cHi g (ad 5) (ad 6) hi))) _ := hP
  have hD8 : va_D A ((cRt ad ++ (cTx g (ad 1) tx ++ (cIs g (ad 2) is ++ (cWa g (ad 3) wa)))) ++ ((cSt g (ad 4) st) ++ (cHi g (ad 5) (ad 6) hi))) := hD
  refine aft_f (st1 := [.int r1]) rfl (cRt ad ++ (cTx g (ad 1) tx ++ (cIs g (ad 2) is ++ (cWa g (ad 3) wa)))) (cHi g (ad 5) (ad 6) hi) (runV (As := [.int p1]) (rest := []) ⟨hx, hb, hml, hown, hts⟩ (kX2_hasWord l g (ad 4) kr1) (cwV 1 hts gX5_plain_X2_hasWord rfl rfl rfl hdX2_hasWord ⟨Nat.le_of_ble_eq_true rfl, Nat.le_of_ble_eq_true rfl⟩) hK hN hP8.right.left hD8.right.left (va_recv hK hP (ci := 2) (q0 := 10) rfl rfl) rfl hl.1 rfl (Nat.le_of_ble_eq_true rfl) dX5_plain_5 ⟨Nat.zero_le _, Nat.zero_le _⟩) hP8 hD8 hS hA (fun H locs hP hD hS => ?_)
  have hP : va_P g.1 vwCl (cRt ad ++ (cTx g (ad 1) tx ++ (cIs g (ad 2) is ++ (cWa g (ad 3) wa ++ (cSt g (ad 4) st ++ (cHi g (ad 5) (ad 6) hi)))))) H := hP
  have hD : va_D A (cRt ad ++ (cTx g (ad 1) tx ++ (cIs g (ad 2) is ++ (cWa g (ad 3) wa ++ (cSt g (ad 4) st ++ (cHi g (ad 5) (ad 6) hi)))))) := hD
  refine lv_if_eq (tgt := 22) hx hb dX5_plain_8 (by decide) (fun c2 => ?_) (fun c2 => ?_)
  · have h := if_t c2 h
    cases h
  · have h := if_f c2 h
    refine lv_aload_n hx hb dX5_plain_11 rfl (lv_at hl 0 rfl) ?_
    refine va_get (D := g.1) (ci := 5) (v := .ref ((ad 4) 0)) (C := RX5) (T := TX5) (N := 5) hx hb hts hinX5 hown hK hP 0 rfl rfl 0 (by decide) (hts (.fieldLink RX5 12 "BarredRungs" "now" "LBarredRungs$State;") (List.mem_of_getElem? (i := 3) rfl)) (fun _ h9 => h9) rfl dX5_plain_12 ?_
    refine lv_iload_n hx hb dX5_plain_15 rfl (lv_at hl 2 rfl) ?_
    obtain ⟨r3, kr3, h⟩ := bd_ex h
    have hP8 : va_P g.1 vwCl ((cRt ad ++ (cTx g (ad 1) tx ++ (cIs g (ad 2) is ++ (cWa g (ad 3) wa)))) ++ ((cSt g (ad 4) st) ++ (cHi g (ad 5) (ad 6) hi))) _ := hP
    have hD8 : va_D A ((cRt ad ++ (cTx g (ad 1) tx ++ (cIs g (ad 2) is ++ (cWa g (ad 3) wa)))) ++ ((cSt g (ad 4) st) ++ (cHi g (ad 5) (ad 6) hi))) := hD
    refine aft_f (st1 := [.int r3]) rfl (cRt ad ++ (cTx g (ad 1) tx ++ (cIs g (ad 2) is ++ (cWa g (ad 3) wa)))) (cHi g (ad 5) (ad 6) hi) (runV (As := [.int p2]) (rest := []) ⟨hx, hb, hml, hown, hts⟩ (kX2_hasWord l g (ad 4) kr3) (cwV 1 hts gX5_plain_X2_hasWord rfl rfl rfl hdX2_hasWord ⟨Nat.le_of_ble_eq_true rfl, Nat.le_of_ble_eq_true rfl⟩) hK hN hP8.right.left hD8.right.left (va_recv hK hP (ci := 2) (q0 := 10) rfl rfl) rfl hl.1 rfl (Nat.le_of_ble_eq_true rfl) dX5_plain_16 ⟨Nat.zero_le _, Nat.zero_le _⟩) hP8 hD8 hS hA (fun H locs hP hD hS => ?_)
    have hP : va_P g.1 vwCl (cRt ad ++ (cTx g (ad 1) tx ++ (cIs g (ad 2) is ++ (cWa g (ad 3) wa ++ (cSt g (ad 4) st ++ (cHi g (ad 5) (ad 6) hi)))))) H := hP
    have hD : va_D A (cRt ad ++ (cTx g (ad 1) tx ++ (cIs g (ad 2) is ++ (cWa g (ad 3) wa ++ (cSt g (ad 4) st ++ (cHi g (ad 5) (ad 6) hi)))))) := hD
    refine lv_if_ne (tgt := 32) hx hb dX5_plain_19 (by decide) (fun c4 => ?_) (fun c4 => ?_)
    · have h := if_f c4 h
      refine lv_aload_n hx hb dX5_plain_32 rfl (lv_at hl 0 rfl) ?_
      refine va_get (D := g.1) (ci := 5) (v := .ref ((ad 3) 0)) (C := RX5) (T := TX5) (N := 5) hx hb hts hinX5 hown hK hP 0 rfl rfl 3 (by decide) (hts (.fieldLink RX5 33 "BarredRungs" "ways" "LBarredRungs$Ways;") (List.mem_of_getElem? (i := 4) rfl)) (fun _ h9 => h9) rfl dX5_plain_33 ?_
      refine lv_aload_n hx hb dX5_plain_36 rfl (lv_at hl 0 rfl) ?_
      refine va_get (D := g.1) (ci := 5) (v := .ref ((ad 4) 0)) (C := RX5) (T := TX5) (N := 5) hx hb hts hinX5 hown hK hP 0 rfl rfl 0 (by decide) (hts (.fieldLink RX5 12 "BarredRungs" "now" "LBarredRungs$State;") (List.mem_of_getElem? (i := 3) rfl)) (fun _ h9 => h9) rfl dX5_plain_37 ?_
      refine lv_iload_n hx hb dX5_plain_40 rfl (lv_at hl 1 rfl) ?_
      refine lv_iload_n hx hb dX5_plain_41 rfl (lv_at hl 2 rfl) ?_
      obtain ⟨r5, kr5, h⟩ := bd_ex h
      have hP8 : va_P g.1 vwCl ((cRt ad ++ (cTx g (ad 1) tx ++ (cIs g (ad 2) is))) ++ ((cWa g (ad 3) wa ++ (cSt g (ad 4) st)) ++ (cHi g (ad 5) (ad 6) hi))) _ := hP
      have hD8 : va_D A ((cRt ad ++ (cTx g (ad 1) tx ++ (cIs g (ad 2) is))) ++ ((cWa g (ad 3) wa ++ (cSt g (ad 4) st)) ++ (cHi g (ad 5) (ad 6) hi))) := hD
      refine aft_f (st1 := [.int r5]) rfl (cRt ad ++ (cTx g (ad 1) tx ++ (cIs g (ad 2) is))) (cHi g (ad 5) (ad 6) hi) (runV (As := [.ref ((ad 4) 0), .int p1, .int p2]) (rest := []) ⟨hx, hb, hml, hown, hts⟩ (kX4_byLinksAlone l g (ad 3) (ad 4) kr5) (cwV 3 hts gX5_plain_X4_byLinksAlone rfl rfl rfl hdX4_byLinksAlone ⟨Nat.le_of_ble_eq_true rfl, Nat.le_of_ble_eq_true rfl⟩) hK hN hP8.right.left hD8.right.left (va_recv hK hP (ci := 4) (q0 := 5) rfl rfl) rfl hl.1 rfl (Nat.le_of_ble_eq_true rfl) dX5_plain_42 ⟨Nat.zero_le _, Nat.zero_le _⟩) hP8 hD8 hS hA (fun H locs hP hD hS => ?_)
      have hP : va_P g.1 vwCl (cRt ad ++ (cTx g (ad 1) tx ++ (cIs g (ad 2) is ++ (cWa g (ad 3) wa ++ (cSt g (ad 4) st ++ (cHi g (ad 5) (ad 6) hi)))))) H := hP
      have hD : va_D A (cRt ad ++ (cTx g (ad 1) tx ++ (cIs g (ad 2) is ++ (cWa g (ad 3) wa ++ (cSt g (ad 4) st ++ (cHi g (ad 5) (ad 6) hi)))))) := hD
      cases some_i h
      exact hend _ _ _ _ _ hP hD hS (RetOK.i dX5_plain_45)
    · have h := if_t c4 h
      cases h
def fX5_put (tx : Tx) (is : Is) (wa : Wa) (st : St) (hi : Hi) (p1 : Int32) (p2 : Int32) (p3 : Int32) : Option (Nat ⊕ (Int32 × Wa × St × Hi)) :=
(bd (fX5_isClimber p1) fun (r1 : Int32) =>
(if r1 = (0 : Int32) then
(some (.inl 1))
else
(bd (fX2_hasWord st p2) fun (r3 : Int32) =>
(if r3 = (0 : Int32) then
(some (.inl 1))
else
(bd (fX2_hasWord st p3) fun (r5 : Int32) =>
(if r5 = (0 : Int32) then
(some (.inl 1))
else
(if p2 = p3 then
(some (.inl 2))
else
(bd (fX2_wordUnder st p1) fun (r8 : Int32) =>
(if r8 = (-1 : Int32) then
(bd (fX2_climberOn st p2) fun (r10 : Int32) =>
(if r10 = (-1 : Int32) then
(bd (fX2_isBarredAfter st p2 (0 : Int32)) fun (r12 : Int32) =>
(if r12 = (0 : Int32) then
(bd (fX0_save st hi) fun (hi14 : Hi) =>
(bd (fX2_putOn st p1 p2 p3) fun (st15 : St) =>
(bd2 (fX4_onward wa st15 p2 p3 (0 : Int32)) fun (r16 : Int32) (wa17 : Wa) =>
(some (.inr (r16, wa17, st15, hi14))))))
else
(some (.inl 3))))
else
(some (.inl 3))))
else
(some (.inl 3)))))))))))
abbrev rX5_put : Room := { frames := 6, cells := 0, slots := 0, locals := 102 }
theorem hdX5_put : yX5_put.cls = RX5 ∧ yX5_put.cls ≠ "java/lang/invoke/MethodHandle" ∧ yX5_put.cls ≠ "java/lang/invoke/VarHandle" ∧ (parseMethodDescriptor yX5_put.desc).map (fun d => d.parameters.length) = some 3 := by decide +kernel
set_option maxRecDepth 100000 in
set_option maxHeartbeats 8000000 in
theorem kX5_put (l : Launch) (g : GG) (ad : Nat → Nat → Nat) {tx : Tx} {is : Is} {wa : Wa} {st : St} {hi : Hi} {p1 : Int32} {p2 : Int32} {p3 : Int32} {res : Int32} {wa' : Wa} {st' : St} {hi' : Hi} (h : fX5_put tx is wa st hi p1 p2 p3 = some (.inr (res, wa', st', hi'))) : Cg l g yX5_put wsX5_put rX5_put [.ref ((ad 0) 0), .int p1, .int p2, .int p3] (cRt ad ++ (cTx g (ad 1) tx ++ (cIs g (ad 2) is ++ (cWa g (ad 3) wa ++ (cSt g (ad 4) st ++ (cHi g (ad 5) (ad 6) hi)))))) (some (.int res)) (cRt ad ++ (cTx g (ad 1) tx ++ (cIs g (ad 2) is ++ (cWa g (ad 3) wa' ++ (cSt g (ad 4) st' ++ (cHi g (ad 5) (ad 6) hi')))))) := by
  refine Cg_of (cc := cX5_put) (maxL := 4) (ret := (some .int)) (by decide +kernel) rfl (Nat.le_of_ble_eq_true rfl) ?_
  intro p e su m args below meth c A Q ls hx hb hml hown hts hK hN hA hnm hP hD hS hl hend
  have hinX5 : ∀ w ∈ u_ws RX5 TX5 5, w ∈ wsX5_put := fun _ h9 => List.mem_cons_of_mem _ (List.mem_append_left _ (List.mem_append_left _ (List.mem_append_left _ (List.mem_append_left _ (List.mem_append_left _ (List.mem_append_left _ (List.mem_append_right _ h9)))))))
  have hinX2 : ∀ w ∈ u_ws RX2 TX2 17, w ∈ wsX5_put := fun _ h9 => List.mem_cons_of_mem _ (List.mem_append_left _ (List.mem_append_left _ (List.mem_append_left _ (List.mem_append_left _ (List.mem_append_left _ (List.mem_append_right _ h9))))))
  have hinX0 : ∀ w ∈ u_ws RX0 TX0 4, w ∈ wsX5_put := fun _ h9 => List.mem_cons_of_mem _ (List.mem_append_left _ (List.mem_append_left _ (List.mem_append_left _ (List.mem_append_left _ (List.mem_append_right _ h9)))))
  have hinX4 : ∀ w ∈ u_ws RX4 TX4 4, w ∈ wsX5_put := fun _ h9 => List.mem_cons_of_mem _ (List.mem_append_left _ (List.mem_append_left _ (List.mem_append_left _ (List.mem_append_right _ h9))))
  unfold fX5_put at h
  have hl : lv_has ls 4 [(0, .ref ((ad 0) 0)), (1, .int p1), (2, .int p2), (3, .int p3)] := hl
  refine lv_iload_n hx hb dX5_put_0 rfl (lv_at hl 1 rfl) ?_
  obtain ⟨r1, kr1, h⟩ := bd_ex h
  refine aft_e (st1 := [.int r1]) rfl (runS (As := [.int p1]) (rest := []) ⟨hx, hb, hml, hown, hts⟩ (kX5_isClimber l g kr1) (va_cwS 1 hts gX5_put_X5_isClimber rfl rfl rfl hdX5_isClimber.2 ⟨Nat.le_of_ble_eq_true rfl, Nat.le_of_ble_eq_true rfl⟩) hK hN nilP (nilD (A := A)) rfl hl.1 rfl (Nat.le_of_ble_eq_true rfl) dX5_put_1 ⟨Nat.zero_le _, Nat.zero_le _⟩) hP hS hA (fun H locs hP hS => ?_)
  refine lv_if_eq (tgt := 29) hx hb dX5_put_4 (by decide) (fun c2 => ?_) (fun c2 => ?_)
  · have h := if_t c2 h
    cases h
  · have h := if_f c2 h
    refine lv_aload_n hx hb dX5_put_7 rfl (lv_at hl 0 rfl) ?_
    refine va_get (D := g.1) (ci := 5) (v := .ref ((ad 4) 0)) (C := RX5) (T := TX5) (N := 5) hx hb hts hinX5 hown hK hP 0 rfl rfl 0 (by decide) (hts (.fieldLink RX5 12 "BarredRungs" "now" "LBarredRungs$State;") (List.mem_of_getElem? (i := 7) rfl)) (fun _ h9 => h9) rfl dX5_put_8 ?_
    refine lv_iload_n hx hb dX5_put_11 rfl (lv_at hl 2 rfl) ?_
    obtain ⟨r3, kr3, h⟩ := bd_ex h
    have hP8 : va_P g.1 vwCl ((cRt ad ++ (cTx g (ad 1) tx ++ (cIs g (ad 2) is ++ (cWa g (ad 3) wa)))) ++ ((cSt g (ad 4) st) ++ (cHi g (ad 5) (ad 6) hi))) _ := hP
    have hD8 : va_D A ((cRt ad ++ (cTx g (ad 1) tx ++ (cIs g (ad 2) is ++ (cWa g (ad 3) wa)))) ++ ((cSt g (ad 4) st) ++ (cHi g (ad 5) (ad 6) hi))) := hD
    refine aft_f (st1 := [.int r3]) rfl (cRt ad ++ (cTx g (ad 1) tx ++ (cIs g (ad 2) is ++ (cWa g (ad 3) wa)))) (cHi g (ad 5) (ad 6) hi) (runV (As := [.int p2]) (rest := []) ⟨hx, hb, hml, hown, hts⟩ (kX2_hasWord l g (ad 4) kr3) (cwV 1 hts gX5_put_X2_hasWord rfl rfl rfl hdX2_hasWord ⟨Nat.le_of_ble_eq_true rfl, Nat.le_of_ble_eq_true rfl⟩) hK hN hP8.right.left hD8.right.left (va_recv hK hP (ci := 2) (q0 := 10) rfl rfl) rfl hl.1 rfl (Nat.le_of_ble_eq_true rfl) dX5_put_12 ⟨Nat.zero_le _, Nat.zero_le _⟩) hP8 hD8 hS hA (fun H locs hP hD hS => ?_)
    have hP : va_P g.1 vwCl (cRt ad ++ (cTx g (ad 1) tx ++ (cIs g (ad 2) is ++ (cWa g (ad 3) wa ++ (cSt g (ad 4) st ++ (cHi g (ad 5) (ad 6) hi)))))) H := hP
    have hD : va_D A (cRt ad ++ (cTx g (ad 1) tx ++ (cIs g (ad 2) is ++ (cWa g (ad 3) wa ++ (cSt g (ad 4) st ++ (cHi g (ad 5) (ad 6) hi)))))) := hD
    refine lv_if_eq (tgt := 29) hx hb dX5_put_15 (by decide) (fun c4 => ?_) (fun c4 => ?_)
    · have h := if_t c4 h
      cases h
    · have h := if_f c4 h
      refine lv_aload_n hx hb dX5_put_18 rfl (lv_at hl 0 rfl) ?_
      refine va_get (D := g.1) (ci := 5) (v := .ref ((ad 4) 0)) (C := RX5) (T := TX5) (N := 5) hx hb hts hinX5 hown hK hP 0 rfl rfl 0 (by decide) (hts (.fieldLink RX5 12 "BarredRungs" "now" "LBarredRungs$State;") (List.mem_of_getElem? (i := 7) rfl)) (fun _ h9 => h9) rfl dX5_put_19 ?_
      refine lv_iload_n hx hb dX5_put_22 rfl (lv_at hl 3 rfl) ?_
      obtain ⟨r5, kr5, h⟩ := bd_ex h
      have hP8 : va_P g.1 vwCl ((cRt ad ++ (cTx g (ad 1) tx ++ (cIs g (ad 2) is ++ (cWa g (ad 3) wa)))) ++ ((cSt g (ad 4) st) ++ (cHi g (ad 5) (ad 6) hi))) _ := hP
      have hD8 : va_D A ((cRt ad ++ (cTx g (ad 1) tx ++ (cIs g (ad 2) is ++ (cWa g (ad 3) wa)))) ++ ((cSt g (ad 4) st) ++ (cHi g (ad 5) (ad 6) hi))) := hD
      refine aft_f (st1 := [.int r5]) rfl (cRt ad ++ (cTx g (ad 1) tx ++ (cIs g (ad 2) is ++ (cWa g (ad 3) wa)))) (cHi g (ad 5) (ad 6) hi) (runV (As := [.int p3]) (rest := []) ⟨hx, hb, hml, hown, hts⟩ (kX2_hasWord l g (ad 4) kr5) (cwV 1 hts gX5_put_X2_hasWord rfl rfl rfl hdX2_hasWord ⟨Nat.le_of_ble_eq_true rfl, Nat.le_of_ble_eq_true rfl⟩) hK hN hP8.right.left hD8.right.left (va_recv hK hP (ci := 2) (q0 := 10) rfl rfl) rfl hl.1 rfl (Nat.le_of_ble_eq_true rfl) dX5_put_23 ⟨Nat.zero_le _, Nat.zero_le _⟩) hP8 hD8 hS hA (fun H locs hP hD hS => ?_)
      have hP : va_P g.1 vwCl (cRt ad ++ (cTx g (ad 1) tx ++ (cIs g (ad 2) is ++ (cWa g (ad 3) wa ++ (cSt g (ad 4) st ++ (cHi g (ad 5) (ad 6) hi)))))) H := hP
      have hD : va_D A (cRt ad ++ (cTx g (ad 1) tx ++ (cIs g (ad 2) is ++ (cWa g (ad 3) wa ++ (cSt g (ad 4) st ++ (cHi g (ad 5) (ad 6) hi)))))) := hD
      refine lv_if_ne (tgt := 39) hx hb dX5_put_26 (by decide) (fun c6 => ?_) (fun c6 => ?_)
      · have h := if_f c6 h
        refine lv_iload_n hx hb dX5_put_39 rfl (lv_at hl 2 rfl) ?_
        refine lv_iload_n hx hb dX5_put_40 rfl (lv_at hl 3 rfl) ?_
        refine lv_icmp_ne (tgt := 54) hx hb dX5_put_41 (by decide) (fun c7 => ?_) (fun c7 => ?_)
        · have h := if_f c7 h
          refine lv_aload_n hx hb dX5_put_54 rfl (lv_at hl 0 rfl) ?_
          refine va_get (D := g.1) (ci := 5) (v := .ref ((ad 4) 0)) (C := RX5) (T := TX5) (N := 5) hx hb hts hinX5 hown hK hP 0 rfl rfl 0 (by decide) (hts (.fieldLink RX5 12 "BarredRungs" "now" "LBarredRungs$State;") (List.mem_of_getElem? (i := 7) rfl)) (fun _ h9 => h9) rfl dX5_put_55 ?_
          refine lv_iload_n hx hb dX5_put_58 rfl (lv_at hl 1 rfl) ?_
          obtain ⟨r8, kr8, h⟩ := bd_ex h
          have hP8 : va_P g.1 vwCl ((cRt ad ++ (cTx g (ad 1) tx ++ (cIs g (ad 2) is ++ (cWa g (ad 3) wa)))) ++ ((cSt g (ad 4) st) ++ (cHi g (ad 5) (ad 6) hi))) _ := hP
          have hD8 : va_D A ((cRt ad ++ (cTx g (ad 1) tx ++ (cIs g (ad 2) is ++ (cWa g (ad 3) wa)))) ++ ((cSt g (ad 4) st) ++ (cHi g (ad 5) (ad 6) hi))) := hD
          refine aft_f (st1 := [.int r8]) rfl (cRt ad ++ (cTx g (ad 1) tx ++ (cIs g (ad 2) is ++ (cWa g (ad 3) wa)))) (cHi g (ad 5) (ad 6) hi) (runV (As := [.int p1]) (rest := []) ⟨hx, hb, hml, hown, hts⟩ (kX2_wordUnder l g (ad 4) kr8) (cwV 1 hts gX5_put_X2_wordUnder rfl rfl rfl hdX2_wordUnder ⟨Nat.le_of_ble_eq_true rfl, Nat.le_of_ble_eq_true rfl⟩) hK hN hP8.right.left hD8.right.left (va_recv hK hP (ci := 2) (q0 := 10) rfl rfl) rfl hl.1 rfl (Nat.le_of_ble_eq_true rfl) dX5_put_59 ⟨Nat.zero_le _, Nat.zero_le _⟩) hP8 hD8 hS hA (fun H locs hP hD hS => ?_)
          have hP : va_P g.1 vwCl (cRt ad ++ (cTx g (ad 1) tx ++ (cIs g (ad 2) is ++ (cWa g (ad 3) wa ++ (cSt g (ad 4) st ++ (cHi g (ad 5) (ad 6) hi)))))) H := hP
          have hD : va_D A (cRt ad ++ (cTx g (ad 1) tx ++ (cIs g (ad 2) is ++ (cWa g (ad 3) wa ++ (cSt g (ad 4) st ++ (cHi g (ad 5) (ad 6) hi)))))) := hD
          refine lv_iconst (v := -1) hx hb dX5_put_62 (by decide) ?_
          refine lv_icmp_ne (tgt := 90) hx hb dX5_put_63 (by decide) (fun c9 => ?_) (fun c9 => ?_)
          · have h := if_f c9 h
            cases h
          · have h := if_t c9 h
            refine lv_aload_n hx hb dX5_put_66 rfl (lv_at hl 0 rfl) ?_
            refine va_get (D := g.1) (ci := 5) (v := .ref ((ad 4) 0)) (C := RX5) (T := TX5) (N := 5) hx hb hts hinX5 hown hK hP 0 rfl rfl 0 (by decide) (hts (.fieldLink RX5 12 "BarredRungs" "now" "LBarredRungs$State;") (List.mem_of_getElem? (i := 7) rfl)) (fun _ h9 => h9) rfl dX5_put_67 ?_
            refine lv_iload_n hx hb dX5_put_70 rfl (lv_at hl 2 rfl) ?_
            obtain ⟨r10, kr10, h⟩ := bd_ex h
            have hP8 : va_P g.1 vwCl ((cRt ad ++ (cTx g (ad 1) tx ++ (cIs g (ad 2) is ++ (cWa g (ad 3) wa)))) ++ ((cSt g (ad 4) st) ++ (cHi g (ad 5) (ad 6) hi))) _ := hP
            have hD8 : va_D A ((cRt ad ++ (cTx g (ad 1) tx ++ (cIs g (ad 2) is ++ (cWa g (ad 3) wa)))) ++ ((cSt g (ad 4) st) ++ (cHi g (ad 5) (ad 6) hi))) := hD
            refine aft_f (st1 := [.int r10]) rfl (cRt ad ++ (cTx g (ad 1) tx ++ (cIs g (ad 2) is ++ (cWa g (ad 3) wa)))) (cHi g (ad 5) (ad 6) hi) (runV (As := [.int p2]) (rest := []) ⟨hx, hb, hml, hown, hts⟩ (kX2_climberOn l g (ad 4) kr10) (cwV 1 hts gX5_put_X2_climberOn rfl rfl rfl hdX2_climberOn ⟨Nat.le_of_ble_eq_true rfl, Nat.le_of_ble_eq_true rfl⟩) hK hN hP8.right.left hD8.right.left (va_recv hK hP (ci := 2) (q0 := 10) rfl rfl) rfl hl.1 rfl (Nat.le_of_ble_eq_true rfl) dX5_put_71 ⟨Nat.zero_le _, Nat.zero_le _⟩) hP8 hD8 hS hA (fun H locs hP hD hS => ?_)
            have hP : va_P g.1 vwCl (cRt ad ++ (cTx g (ad 1) tx ++ (cIs g (ad 2) is ++ (cWa g (ad 3) wa ++ (cSt g (ad 4) st ++ (cHi g (ad 5) (ad 6) hi)))))) H := hP
            have hD : va_D A (cRt ad ++ (cTx g (ad 1) tx ++ (cIs g (ad 2) is ++ (cWa g (ad 3) wa ++ (cSt g (ad 4) st ++ (cHi g (ad 5) (ad 6) hi)))))) := hD
            refine lv_iconst (v := -1) hx hb dX5_put_74 (by decide) ?_
            refine lv_icmp_ne (tgt := 90) hx hb dX5_put_75 (by decide) (fun c11 => ?_) (fun c11 => ?_)
            · have h := if_f c11 h
              cases h
            · have h := if_t c11 h
              refine lv_aload_n hx hb dX5_put_78 rfl (lv_at hl 0 rfl) ?_
              refine va_get (D := g.1) (ci := 5) (v := .ref ((ad 4) 0)) (C := RX5) (T := TX5) (N := 5) hx hb hts hinX5 hown hK hP 0 rfl rfl 0 (by decide) (hts (.fieldLink RX5 12 "BarredRungs" "now" "LBarredRungs$State;") (List.mem_of_getElem? (i := 7) rfl)) (fun _ h9 => h9) rfl dX5_put_79 ?_
              refine lv_iload_n hx hb dX5_put_82 rfl (lv_at hl 2 rfl) ?_
              refine lv_iconst (v := 0) hx hb dX5_put_83 (by decide) ?_
              obtain ⟨r12, kr12, h⟩ := bd_ex h
              have hP8 : va_P g.1 vwCl ((cRt ad ++ (cTx g (ad 1) tx ++ (cIs g (ad 2) is ++ (cWa g (ad 3) wa)))) ++ ((cSt g (ad 4) st) ++ (cHi g (ad 5) (ad 6) hi))) _ := hP
              have hD8 : va_D A ((cRt ad ++ (cTx g (ad 1) tx ++ (cIs g (ad 2) is ++ (cWa g (ad 3) wa)))) ++ ((cSt g (ad 4) st) ++ (cHi g (ad 5) (ad 6) hi))) := hD
              refine aft_f (st1 := [.int r12]) rfl (cRt ad ++ (cTx g (ad 1) tx ++ (cIs g (ad 2) is ++ (cWa g (ad 3) wa)))) (cHi g (ad 5) (ad 6) hi) (runV (As := [.int p2, .int (0 : Int32)]) (rest := []) ⟨hx, hb, hml, hown, hts⟩ (kX2_isBarredAfter l g (ad 4) kr12) (cwV 2 hts gX5_put_X2_isBarredAfter rfl rfl rfl hdX2_isBarredAfter ⟨Nat.le_of_ble_eq_true rfl, Nat.le_of_ble_eq_true rfl⟩) hK hN hP8.right.left hD8.right.left (va_recv hK hP (ci := 2) (q0 := 10) rfl rfl) rfl hl.1 rfl (Nat.le_of_ble_eq_true rfl) dX5_put_84 ⟨Nat.zero_le _, Nat.zero_le _⟩) hP8 hD8 hS hA (fun H locs hP hD hS => ?_)
              have hP : va_P g.1 vwCl (cRt ad ++ (cTx g (ad 1) tx ++ (cIs g (ad 2) is ++ (cWa g (ad 3) wa ++ (cSt g (ad 4) st ++ (cHi g (ad 5) (ad 6) hi)))))) H := hP
              have hD : va_D A (cRt ad ++ (cTx g (ad 1) tx ++ (cIs g (ad 2) is ++ (cWa g (ad 3) wa ++ (cSt g (ad 4) st ++ (cHi g (ad 5) (ad 6) hi)))))) := hD
              refine lv_if_eq (tgt := 100) hx hb dX5_put_87 (by decide) (fun c13 => ?_) (fun c13 => ?_)
              · have h := if_t c13 h
                refine lv_aload_n hx hb dX5_put_100 rfl (lv_at hl 0 rfl) ?_
                refine va_get (D := g.1) (ci := 5) (v := .ref ((ad 5) 0)) (C := RX5) (T := TX5) (N := 5) hx hb hts hinX5 hown hK hP 0 rfl rfl 1 (by decide) (hts (.fieldLink RX5 19 "BarredRungs" "history" "LBarredRungs$History;") (List.mem_of_getElem? (i := 8) rfl)) (fun _ h9 => h9) rfl dX5_put_101 ?_
                refine lv_aload_n hx hb dX5_put_104 rfl (lv_at hl 0 rfl) ?_
                refine va_get (D := g.1) (ci := 5) (v := .ref ((ad 4) 0)) (C := RX5) (T := TX5) (N := 5) hx hb hts hinX5 hown hK hP 0 rfl rfl 0 (by decide) (hts (.fieldLink RX5 12 "BarredRungs" "now" "LBarredRungs$State;") (List.mem_of_getElem? (i := 7) rfl)) (fun _ h9 => h9) rfl dX5_put_105 ?_
                obtain ⟨hi14, khi14, h⟩ := bd_ex h
                have hP8 : va_P g.1 vwCl ((cRt ad ++ (cTx g (ad 1) tx ++ (cIs g (ad 2) is ++ (cWa g (ad 3) wa)))) ++ ((cSt g (ad 4) st ++ (cHi g (ad 5) (ad 6) hi)) ++ [])) _ := hP
                have hD8 : va_D A ((cRt ad ++ (cTx g (ad 1) tx ++ (cIs g (ad 2) is ++ (cWa g (ad 3) wa)))) ++ ((cSt g (ad 4) st ++ (cHi g (ad 5) (ad 6) hi)) ++ [])) := hD
                refine aft_f (st1 := []) rfl (cRt ad ++ (cTx g (ad 1) tx ++ (cIs g (ad 2) is ++ (cWa g (ad 3) wa)))) [] (runV (As := [.ref ((ad 4) 0)]) (rest := []) ⟨hx, hb, hml, hown, hts⟩ (kX0_save l g (ad 4) (ad 5) (ad 6) khi14) (cwV 1 hts gX5_put_X0_save rfl rfl rfl hdX0_save ⟨Nat.le_of_ble_eq_true rfl, Nat.le_of_ble_eq_true rfl⟩) hK hN hP8.right.left hD8.right.left (va_recv hK hP (ci := 0) (q0 := 20) rfl rfl) rfl hl.1 rfl (Nat.le_of_ble_eq_true rfl) dX5_put_108 ⟨Nat.zero_le _, Nat.zero_le _⟩) hP8 hD8 hS hA (fun H locs hP hD hS => ?_)
                have hP : va_P g.1 vwCl (cRt ad ++ (cTx g (ad 1) tx ++ (cIs g (ad 2) is ++ (cWa g (ad 3) wa ++ (cSt g (ad 4) st ++ (cHi g (ad 5) (ad 6) hi14)))))) H := hP
                have hD : va_D A (cRt ad ++ (cTx g (ad 1) tx ++ (cIs g (ad 2) is ++ (cWa g (ad 3) wa ++ (cSt g (ad 4) st ++ (cHi g (ad 5) (ad 6) hi14)))))) := hD
                refine lv_aload_n hx hb dX5_put_111 rfl (lv_at hl 0 rfl) ?_
                refine va_get (D := g.1) (ci := 5) (v := .ref ((ad 4) 0)) (C := RX5) (T := TX5) (N := 5) hx hb hts hinX5 hown hK hP 0 rfl rfl 0 (by decide) (hts (.fieldLink RX5 12 "BarredRungs" "now" "LBarredRungs$State;") (List.mem_of_getElem? (i := 7) rfl)) (fun _ h9 => h9) rfl dX5_put_112 ?_
                refine lv_iload_n hx hb dX5_put_115 rfl (lv_at hl 1 rfl) ?_
                refine lv_iload_n hx hb dX5_put_116 rfl (lv_at hl 2 rfl) ?_
                refine lv_iload_n hx hb dX5_put_117 rfl (lv_at hl 3 rfl) ?_
                obtain ⟨st15, kst15, h⟩ := bd_ex h
                have hP8 : va_P g.1 vwCl ((cRt ad ++ (cTx g (ad 1) tx ++ (cIs g (ad 2) is ++ (cWa g (ad 3) wa)))) ++ ((cSt g (ad 4) st) ++ (cHi g (ad 5) (ad 6) hi14))) _ := hP
                have hD8 : va_D A ((cRt ad ++ (cTx g (ad 1) tx ++ (cIs g (ad 2) is ++ (cWa g (ad 3) wa)))) ++ ((cSt g (ad 4) st) ++ (cHi g (ad 5) (ad 6) hi14))) := hD
                refine aft_f (st1 := []) rfl (cRt ad ++ (cTx g (ad 1) tx ++ (cIs g (ad 2) is ++ (cWa g (ad 3) wa)))) (cHi g (ad 5) (ad 6) hi14) (runV (As := [.int p1, .int p2, .int p3]) (rest := []) ⟨hx, hb, hml, hown, hts⟩ (kX2_putOn l g (ad 4) kst15) (cwV 3 hts gX5_put_X2_putOn rfl rfl rfl hdX2_putOn ⟨Nat.le_of_ble_eq_true rfl, Nat.le_of_ble_eq_true rfl⟩) hK hN hP8.right.left hD8.right.left (va_recv hK hP (ci := 2) (q0 := 10) rfl rfl) rfl hl.1 rfl (Nat.le_of_ble_eq_true rfl) dX5_put_118 ⟨Nat.zero_le _, Nat.zero_le _⟩) hP8 hD8 hS hA (fun H locs hP hD hS => ?_)
                have hP : va_P g.1 vwCl (cRt ad ++ (cTx g (ad 1) tx ++ (cIs g (ad 2) is ++ (cWa g (ad 3) wa ++ (cSt g (ad 4) st15 ++ (cHi g (ad 5) (ad 6) hi14)))))) H := hP
                have hD : va_D A (cRt ad ++ (cTx g (ad 1) tx ++ (cIs g (ad 2) is ++ (cWa g (ad 3) wa ++ (cSt g (ad 4) st15 ++ (cHi g (ad 5) (ad 6) hi14)))))) := hD
                refine lv_aload_n hx hb dX5_put_121 rfl (lv_at hl 0 rfl) ?_
                refine va_get (D := g.1) (ci := 5) (v := .ref ((ad 3) 0)) (C := RX5) (T := TX5) (N := 5) hx hb hts hinX5 hown hK hP 0 rfl rfl 3 (by decide) (hts (.fieldLink RX5 33 "BarredRungs" "ways" "LBarredRungs$Ways;") (List.mem_of_getElem? (i := 9) rfl)) (fun _ h9 => h9) rfl dX5_put_122 ?_
                refine lv_aload_n hx hb dX5_put_125 rfl (lv_at hl 0 rfl) ?_
                refine va_get (D := g.1) (ci := 5) (v := .ref ((ad 4) 0)) (C := RX5) (T := TX5) (N := 5) hx hb hts hinX5 hown hK hP 0 rfl rfl 0 (by decide) (hts (.fieldLink RX5 12 "BarredRungs" "now" "LBarredRungs$State;") (List.mem_of_getElem? (i := 7) rfl)) (fun _ h9 => h9) rfl dX5_put_126 ?_
                refine lv_iload_n hx hb dX5_put_129 rfl (lv_at hl 2 rfl) ?_
                refine lv_iload_n hx hb dX5_put_130 rfl (lv_at hl 3 rfl) ?_
                refine lv_iconst (v := 0) hx hb dX5_put_131 (by decide) ?_
                obtain ⟨r16, wa17, kr16, h⟩ := bd2_ex h
                have hP8 : va_P g.1 vwCl ((cRt ad ++ (cTx g (ad 1) tx ++ (cIs g (ad 2) is))) ++ ((cWa g (ad 3) wa ++ (cSt g (ad 4) st15)) ++ (cHi g (ad 5) (ad 6) hi14))) _ := hP
                have hD8 : va_D A ((cRt ad ++ (cTx g (ad 1) tx ++ (cIs g (ad 2) is))) ++ ((cWa g (ad 3) wa ++ (cSt g (ad 4) st15)) ++ (cHi g (ad 5) (ad 6) hi14))) := hD
                refine aft_f (st1 := [.int r16]) rfl (cRt ad ++ (cTx g (ad 1) tx ++ (cIs g (ad 2) is))) (cHi g (ad 5) (ad 6) hi14) (runV (As := [.ref ((ad 4) 0), .int p2, .int p3, .int (0 : Int32)]) (rest := []) ⟨hx, hb, hml, hown, hts⟩ (kX4_onward l g (ad 3) (ad 4) kr16) (cwV 4 hts gX5_put_X4_onward rfl rfl rfl hdX4_onward ⟨Nat.le_of_ble_eq_true rfl, Nat.le_of_ble_eq_true rfl⟩) hK hN hP8.right.left hD8.right.left (va_recv hK hP (ci := 4) (q0 := 5) rfl rfl) rfl hl.1 rfl (Nat.le_of_ble_eq_true rfl) dX5_put_132 ⟨Nat.zero_le _, Nat.zero_le _⟩) hP8 hD8 hS hA (fun H locs hP hD hS => ?_)
                have hP : va_P g.1 vwCl (cRt ad ++ (cTx g (ad 1) tx ++ (cIs g (ad 2) is ++ (cWa g (ad 3) wa17 ++ (cSt g (ad 4) st15 ++ (cHi g (ad 5) (ad 6) hi14)))))) H := hP
                have hD : va_D A (cRt ad ++ (cTx g (ad 1) tx ++ (cIs g (ad 2) is ++ (cWa g (ad 3) wa17 ++ (cSt g (ad 4) st15 ++ (cHi g (ad 5) (ad 6) hi14)))))) := hD
                cases some_i h
                exact hend _ _ _ _ _ hP hD hS (RetOK.i dX5_put_135)
              · have h := if_f c13 h
                cases h
        · have h := if_t c7 h
          cases h
      · have h := if_t c6 h
        cases h
def fX5_safest_L6 (st : St) : Nat → Int32 → Int32 → Int32 → Option (Int32)
  | 0, _, _, _ => none
  | n + 1, v1_1, v2_2, v3_3 =>
    (if (St_words st) ≤ v3_3 then
    (some v1_1)
    else
    (bd (fX2_turnsUntilBarred st v3_3) fun (r5 : Int32) =>
    (if r5 = (-1 : Int32) then
    (some v3_3)
    else
    (if r5 ≤ v2_2 then
    (pl ((v3_3 + (1 : Int32))) fun (x8 : Int32) =>
    (fX5_safest_L6 st n v1_1 v2_2 x8))
    else
    (pl ((v3_3 + (1 : Int32))) fun (x9 : Int32) =>
    (fX5_safest_L6 st n v3_3 r5 x9))))))
def fX5_safest (tx : Tx) (is : Is) (wa : Wa) (st : St) (hi : Hi) : Option (Int32) :=
(fX5_safest_L6 st 1000 (-1 : Int32) (-1 : Int32) (0 : Int32))
abbrev rX5_safest : Room := { frames := 4, cells := 0, slots := 0, locals := 88 }
theorem hdX5_safest : yX5_safest.cls = RX5 ∧ yX5_safest.cls ≠ "java/lang/invoke/MethodHandle" ∧ yX5_safest.cls ≠ "java/lang/invoke/VarHandle" ∧ (parseMethodDescriptor yX5_safest.desc).map (fun d => d.parameters.length) = some 0 := by decide +kernel
set_option maxRecDepth 100000 in
set_option maxHeartbeats 8000000 in
theorem kX5_safest (l : Launch) (g : GG) (ad : Nat → Nat → Nat) {tx : Tx} {is : Is} {wa : Wa} {st : St} {hi : Hi} {res : Int32} (h : fX5_safest tx is wa st hi = some res) : Cg l g yX5_safest wsX5_safest rX5_safest [.ref ((ad 0) 0)] (cRt ad ++ (cTx g (ad 1) tx ++ (cIs g (ad 2) is ++ (cWa g (ad 3) wa ++ (cSt g (ad 4) st ++ (cHi g (ad 5) (ad 6) hi)))))) (some (.int res)) (cRt ad ++ (cTx g (ad 1) tx ++ (cIs g (ad 2) is ++ (cWa g (ad 3) wa ++ (cSt g (ad 4) st ++ (cHi g (ad 5) (ad 6) hi)))))) := by
  refine Cg_of (cc := cX5_safest) (maxL := 5) (ret := (some .int)) (by decide +kernel) rfl (Nat.le_of_ble_eq_true rfl) ?_
  intro p e su m args below meth c A Q ls hx hb hml hown hts hK hN hA hnm hP hD hS hl hend
  have hinX5 : ∀ w ∈ u_ws RX5 TX5 5, w ∈ wsX5_safest := fun _ h9 => List.mem_cons_of_mem _ (List.mem_append_left _ (List.mem_append_right _ h9))
  have hinX2 : ∀ w ∈ u_ws RX2 TX2 17, w ∈ wsX5_safest := fun _ h9 => List.mem_cons_of_mem _ (List.mem_append_right _ h9)
  unfold fX5_safest at h
  have hl : lv_has ls 5 [(0, .ref ((ad 0) 0))] := hl
  refine lv_iconst (v := -1) hx hb dX5_safest_0 (by decide) ?_
  refine lv_istore_n (lv' := [(1, .int (-1 : Int32)), (0, .ref ((ad 0) 0))]) hx hb dX5_safest_1 rfl hl (by decide) rfl (fun ls hl => ?_)
  refine lv_iconst (v := -1) hx hb dX5_safest_2 (by decide) ?_
  refine lv_istore_n (lv' := [(2, .int (-1 : Int32)), (1, .int (-1 : Int32)), (0, .ref ((ad 0) 0))]) hx hb dX5_safest_3 rfl hl (by decide) rfl (fun ls hl => ?_)
  refine lv_iconst (v := 0) hx hb dX5_safest_4 (by decide) ?_
  refine lv_istore_n (lv' := [(3, .int (0 : Int32)), (2, .int (-1 : Int32)), (1, .int (-1 : Int32)), (0, .ref ((ad 0) 0))]) hx hb dX5_safest_5 rfl hl (by decide) rfl (fun ls hl => ?_)
  have L6 : ∀ (n : Nat) (v1_1 : Int32) (v2_2 : Int32) (v3_3 : Int32) (H : Heap) (locs : List Loc) (ls : Array Slot), fX5_safest_L6 st n v1_1 v2_2 v3_3 = some res → va_P g.1 vwCl (cRt ad ++ (cTx g (ad 1) tx ++ (cIs g (ad 2) is ++ (cWa g (ad 3) wa ++ (cSt g (ad 4) st ++ (cHi g (ad 5) (ad 6) hi)))))) H → va_D A (cRt ad ++ (cTx g (ad 1) tx ++ (cIs g (ad 2) is ++ (cWa g (ad 3) wa ++ (cSt g (ad 4) st ++ (cHi g (ad 5) (ad 6) hi)))))) → va_S A su.heap H locs → lv_has ls 5 [(0, .ref ((ad 0) 0)), (1, .int v1_1), (2, .int v2_2), (3, .int v3_3)] → W p l e rX5_safest su m args below meth c H locs 0 0 Q (F0 m 6 ls []) := by
    intro n
    induction n with
    | zero => intro v1_1 v2_2 v3_3 H locs ls h hP hD hS hl; cases h
    | succ n ih =>
      intro v1_1 v2_2 v3_3 H locs ls h hP hD hS hl
      rw [fX5_safest_L6] at h
      refine lv_iload_n hx hb dX5_safest_6 rfl (lv_at hl 3 rfl) ?_
      refine lv_aload_n hx hb dX5_safest_7 rfl (lv_at hl 0 rfl) ?_
      refine va_get (D := g.1) (ci := 5) (v := .ref ((ad 4) 0)) (C := RX5) (T := TX5) (N := 5) hx hb hts hinX5 hown hK hP 0 rfl rfl 0 (by decide) (hts (.fieldLink RX5 12 "BarredRungs" "now" "LBarredRungs$State;") (List.mem_of_getElem? (i := 1) rfl)) (fun _ h9 => h9) rfl dX5_safest_8 ?_
      refine va_get (D := g.1) (ci := 2) (v := .int (St_words st)) (C := RX2) (T := TX2) (N := 17) hx hb hts hinX2 hown hK hP 10 rfl rfl 9 (by decide) (hts (.fieldLink RX5 211 "BarredRungs$State" "words" "I") (List.mem_of_getElem? (i := 2) rfl)) (fun _ h9 => h9) rfl dX5_safest_11 ?_
      refine lv_icmp_ge (tgt := 52) hx hb dX5_safest_14 (by decide) (fun c4 => ?_) (fun c4 => ?_)
      · have h := if_t c4 h
        refine lv_iload_n hx hb dX5_safest_52 rfl (lv_at hl 1 rfl) ?_
        cases some_i h
        exact hend _ _ _ _ _ hP hD hS (RetOK.i dX5_safest_53)
      · have h := if_f c4 h
        refine lv_aload_n hx hb dX5_safest_17 rfl (lv_at hl 0 rfl) ?_
        refine va_get (D := g.1) (ci := 5) (v := .ref ((ad 4) 0)) (C := RX5) (T := TX5) (N := 5) hx hb hts hinX5 hown hK hP 0 rfl rfl 0 (by decide) (hts (.fieldLink RX5 12 "BarredRungs" "now" "LBarredRungs$State;") (List.mem_of_getElem? (i := 1) rfl)) (fun _ h9 => h9) rfl dX5_safest_18 ?_
        refine lv_iload_n hx hb dX5_safest_21 rfl (lv_at hl 3 rfl) ?_
        obtain ⟨r5, kr5, h⟩ := bd_ex h
        have hP8 : va_P g.1 vwCl ((cRt ad ++ (cTx g (ad 1) tx ++ (cIs g (ad 2) is ++ (cWa g (ad 3) wa)))) ++ ((cSt g (ad 4) st) ++ (cHi g (ad 5) (ad 6) hi))) _ := hP
        have hD8 : va_D A ((cRt ad ++ (cTx g (ad 1) tx ++ (cIs g (ad 2) is ++ (cWa g (ad 3) wa)))) ++ ((cSt g (ad 4) st) ++ (cHi g (ad 5) (ad 6) hi))) := hD
        refine aft_f (st1 := [.int r5]) rfl (cRt ad ++ (cTx g (ad 1) tx ++ (cIs g (ad 2) is ++ (cWa g (ad 3) wa)))) (cHi g (ad 5) (ad 6) hi) (runV (As := [.int v3_3]) (rest := []) ⟨hx, hb, hml, hown, hts⟩ (kX2_turnsUntilBarred l g (ad 4) kr5) (cwV 1 hts gX5_safest_X2_turnsUntilBarred rfl rfl rfl hdX2_turnsUntilBarred ⟨Nat.le_of_ble_eq_true rfl, Nat.le_of_ble_eq_true rfl⟩) hK hN hP8.right.left hD8.right.left (va_recv hK hP (ci := 2) (q0 := 10) rfl rfl) rfl hl.1 rfl (Nat.le_of_ble_eq_true rfl) dX5_safest_22 ⟨Nat.zero_le _, Nat.zero_le _⟩) hP8 hD8 hS hA (fun H locs hP hD hS => ?_)
        have hP : va_P g.1 vwCl (cRt ad ++ (cTx g (ad 1) tx ++ (cIs g (ad 2) is ++ (cWa g (ad 3) wa ++ (cSt g (ad 4) st ++ (cHi g (ad 5) (ad 6) hi)))))) H := hP
        have hD : va_D A (cRt ad ++ (cTx g (ad 1) tx ++ (cIs g (ad 2) is ++ (cWa g (ad 3) wa ++ (cSt g (ad 4) st ++ (cHi g (ad 5) (ad 6) hi)))))) := hD
        refine lv_istore (lv' := [(4, .int r5), (0, .ref ((ad 0) 0)), (1, .int v1_1), (2, .int v2_2), (3, .int v3_3)]) hx hb dX5_safest_25 hl (by decide) rfl (fun ls hl => ?_)
        refine lv_iload hx hb dX5_safest_27 (lv_at hl 0 rfl) ?_
        refine lv_iconst (v := -1) hx hb dX5_safest_29 (by decide) ?_
        refine lv_icmp_ne (tgt := 35) hx hb dX5_safest_30 (by decide) (fun c6 => ?_) (fun c6 => ?_)
        · have h := if_f c6 h
          refine lv_iload hx hb dX5_safest_35 (lv_at hl 0 rfl) ?_
          refine lv_iload_n hx hb dX5_safest_37 rfl (lv_at hl 3 rfl) ?_
          refine lv_icmp_le (tgt := 46) hx hb dX5_safest_38 (by decide) (fun c7 => ?_) (fun c7 => ?_)
          · have h := if_t c7 h
            obtain ⟨x8, ex8, h⟩ := pl_ex h
            refine lv_iinc (v := x8) (lv' := [(3, .int x8), (4, .int r5), (0, .ref ((ad 0) 0)), (1, .int v1_1), (2, .int v2_2)]) hx hb dX5_safest_46 hl (k := 4) rfl (by rw [← ex8]; rfl) (by decide) rfl (fun ls hl => ?_)
            refine lv_goto (tgt := 6) hx hb dX5_safest_49 (by decide) ?_
            exact ih v1_1 v2_2 x8 _ _ _ h hP hD hS (lv_sub hl [2, 3, 4, 0] rfl)
          · have h := if_f c7 h
            refine lv_iload_n hx hb dX5_safest_41 rfl (lv_at hl 4 rfl) ?_
            refine lv_istore_n (lv' := [(1, .int v3_3), (4, .int r5), (0, .ref ((ad 0) 0)), (2, .int v2_2), (3, .int v3_3)]) hx hb dX5_safest_42 rfl hl (by decide) rfl (fun ls hl => ?_)
            refine lv_iload hx hb dX5_safest_43 (lv_at hl 1 rfl) ?_
            refine lv_istore_n (lv' := [(2, .int r5), (1, .int v3_3), (4, .int r5), (0, .ref ((ad 0) 0)), (3, .int v3_3)]) hx hb dX5_safest_45 rfl hl (by decide) rfl (fun ls hl => ?_)
            obtain ⟨x9, ex9, h⟩ := pl_ex h
            refine lv_iinc (v := x9) (lv' := [(3, .int x9), (2, .int r5), (1, .int v3_3), (4, .int r5), (0, .ref ((ad 0) 0))]) hx hb dX5_safest_46 hl (k := 4) rfl (by rw [← ex9]; rfl) (by decide) rfl (fun ls hl => ?_)
            refine lv_goto (tgt := 6) hx hb dX5_safest_49 (by decide) ?_
            exact ih v3_3 r5 x9 _ _ _ h hP hD hS (lv_sub hl [4, 2, 1, 0] rfl)
        · have h := if_t c6 h
          refine lv_iload_n hx hb dX5_safest_33 rfl (lv_at hl 4 rfl) ?_
          cases some_i h
          exact hend _ _ _ _ _ hP hD hS (RetOK.i dX5_safest_34)
  exact L6 1000 (-1 : Int32) (-1 : Int32) (0 : Int32) _ _ _ h hP hD hS (lv_sub hl [3, 2, 1, 0] rfl)
def fX5_set (tx : Tx) (is : Is) (wa : Wa) (st : St) (hi : Hi) (p1 : Int32) (p2 : Int32) : Option (Nat ⊕ (Int32 × St × Hi)) :=
(if p1 = (0 : Int32) then
(if p2 < (1 : Int32) then
(some (.inl 2))
else
(if p2 ≤ (7 : Int32) then
(bd (fX0_save st hi) fun (hi4 : Hi) =>
(bd (fX2_settingOf st p1) fun (r5 : Int32) =>
(bd (fX2_changeSetting st p1 p2) fun (st6 : St) =>
(some (.inr (r5, st6, hi4))))))
else
(some (.inl 2))))
else
(if p1 = (1 : Int32) then
(if p2 < (1 : Int32) then
(some (.inl 2))
else
(if p2 ≤ (7 : Int32) then
(bd (fX0_save st hi) fun (hi10 : Hi) =>
(bd (fX2_settingOf st p1) fun (r11 : Int32) =>
(bd (fX2_changeSetting st p1 p2) fun (st12 : St) =>
(some (.inr (r11, st12, hi10))))))
else
(some (.inl 2))))
else
(some (.inl 1))))
abbrev rX5_set : Room := { frames := 6, cells := 0, slots := 0, locals := 133 }
theorem hdX5_set : yX5_set.cls = RX5 ∧ yX5_set.cls ≠ "java/lang/invoke/MethodHandle" ∧ yX5_set.cls ≠ "java/lang/invoke/VarHandle" ∧ (parseMethodDescriptor yX5_set.desc).map (fun d => d.parameters.length) = some 2 := by decide +kernel
set_option maxRecDepth 100000 in
set_option maxHeartbeats 8000000 in
theorem kX5_set (l : Launch) (g : GG) (ad : Nat → Nat → Nat) {tx : Tx} {is : Is} {wa : Wa} {st : St} {hi : Hi} {p1 : Int32} {p2 : Int32} {res : Int32} {st' : St} {hi' : Hi} (h : fX5_set tx is wa st hi p1 p2 = some (.inr (res, st', hi'))) : Cg l g yX5_set wsX5_set rX5_set [.ref ((ad 0) 0), .int p1, .int p2] (cRt ad ++ (cTx g (ad 1) tx ++ (cIs g (ad 2) is ++ (cWa g (ad 3) wa ++ (cSt g (ad 4) st ++ (cHi g (ad 5) (ad 6) hi)))))) (some (.int res)) (cRt ad ++ (cTx g (ad 1) tx ++ (cIs g (ad 2) is ++ (cWa g (ad 3) wa ++ (cSt g (ad 4) st' ++ (cHi g (ad 5) (ad 6) hi')))))) := by
  refine Cg_of (cc := cX5_set) (maxL := 4) (ret := (some .int)) (by decide +kernel) rfl (Nat.le_of_ble_eq_true rfl) ?_
  intro p e su m args below meth c A Q ls hx hb hml hown hts hK hN hA hnm hP hD hS hl hend
  have hinX5 : ∀ w ∈ u_ws RX5 TX5 5, w ∈ wsX5_set := fun _ h9 => List.mem_cons_of_mem _ (List.mem_append_left _ (List.mem_append_left _ (List.mem_append_left _ (List.mem_append_left _ (List.mem_append_right _ h9)))))
  have hinX0 : ∀ w ∈ u_ws RX0 TX0 4, w ∈ wsX5_set := fun _ h9 => List.mem_cons_of_mem _ (List.mem_append_left _ (List.mem_append_left _ (List.mem_append_left _ (List.mem_append_right _ h9))))
  have hinX2 : ∀ w ∈ u_ws RX2 TX2 17, w ∈ wsX5_set := fun _ h9 => List.mem_cons_of_mem _ (List.mem_append_left _ (List.mem_append_left _ (List.mem_append_right _ h9)))
  unfold fX5_set at h
  have hl : lv_has ls 4 [(0, .ref ((ad 0) 0)), (1, .int p1), (2, .int p2)] := hl
  refine lv_iload_n hx hb dX5_set_0 rfl (lv_at hl 1 rfl) ?_
  refine lv_if_eq (tgt := 19) hx hb dX5_set_1 (by decide) (fun c1 => ?_) (fun c1 => ?_)
  · have h := if_t c1 h
    refine lv_iload_n hx hb dX5_set_19 rfl (lv_at hl 2 rfl) ?_
    refine lv_iconst (v := 1) hx hb dX5_set_20 (by decide) ?_
    refine lv_icmp_lt (tgt := 30) hx hb dX5_set_21 (by decide) (fun c2 => ?_) (fun c2 => ?_)
    · have h := if_t c2 h
      cases h
    · have h := if_f c2 h
      refine lv_iload_n hx hb dX5_set_24 rfl (lv_at hl 2 rfl) ?_
      refine lv_bipush (v := 7) hx hb dX5_set_25 (by decide) ?_
      refine lv_icmp_le (tgt := 40) hx hb dX5_set_27 (by decide) (fun c3 => ?_) (fun c3 => ?_)
      · have h := if_t c3 h
        refine lv_aload_n hx hb dX5_set_40 rfl (lv_at hl 0 rfl) ?_
        refine va_get (D := g.1) (ci := 5) (v := .ref ((ad 5) 0)) (C := RX5) (T := TX5) (N := 5) hx hb hts hinX5 hown hK hP 0 rfl rfl 1 (by decide) (hts (.fieldLink RX5 19 "BarredRungs" "history" "LBarredRungs$History;") (List.mem_of_getElem? (i := 5) rfl)) (fun _ h9 => h9) rfl dX5_set_41 ?_
        refine lv_aload_n hx hb dX5_set_44 rfl (lv_at hl 0 rfl) ?_
        refine va_get (D := g.1) (ci := 5) (v := .ref ((ad 4) 0)) (C := RX5) (T := TX5) (N := 5) hx hb hts hinX5 hown hK hP 0 rfl rfl 0 (by decide) (hts (.fieldLink RX5 12 "BarredRungs" "now" "LBarredRungs$State;") (List.mem_of_getElem? (i := 6) rfl)) (fun _ h9 => h9) rfl dX5_set_45 ?_
        obtain ⟨hi4, khi4, h⟩ := bd_ex h
        have hP8 : va_P g.1 vwCl ((cRt ad ++ (cTx g (ad 1) tx ++ (cIs g (ad 2) is ++ (cWa g (ad 3) wa)))) ++ ((cSt g (ad 4) st ++ (cHi g (ad 5) (ad 6) hi)) ++ [])) _ := hP
        have hD8 : va_D A ((cRt ad ++ (cTx g (ad 1) tx ++ (cIs g (ad 2) is ++ (cWa g (ad 3) wa)))) ++ ((cSt g (ad 4) st ++ (cHi g (ad 5) (ad 6) hi)) ++ [])) := hD
        refine aft_f (st1 := []) rfl (cRt ad ++ (cTx g (ad 1) tx ++ (cIs g (ad 2) is ++ (cWa g (ad 3) wa)))) [] (runV (As := [.ref ((ad 4) 0)]) (rest := []) ⟨hx, hb, hml, hown, hts⟩ (kX0_save l g (ad 4) (ad 5) (ad 6) khi4) (cwV 1 hts gX5_set_X0_save rfl rfl rfl hdX0_save ⟨Nat.le_of_ble_eq_true rfl, Nat.le_of_ble_eq_true rfl⟩) hK hN hP8.right.left hD8.right.left (va_recv hK hP (ci := 0) (q0 := 20) rfl rfl) rfl hl.1 rfl (Nat.le_of_ble_eq_true rfl) dX5_set_48 ⟨Nat.zero_le _, Nat.zero_le _⟩) hP8 hD8 hS hA (fun H locs hP hD hS => ?_)
        have hP : va_P g.1 vwCl (cRt ad ++ (cTx g (ad 1) tx ++ (cIs g (ad 2) is ++ (cWa g (ad 3) wa ++ (cSt g (ad 4) st ++ (cHi g (ad 5) (ad 6) hi4)))))) H := hP
        have hD : va_D A (cRt ad ++ (cTx g (ad 1) tx ++ (cIs g (ad 2) is ++ (cWa g (ad 3) wa ++ (cSt g (ad 4) st ++ (cHi g (ad 5) (ad 6) hi4)))))) := hD
        refine lv_aload_n hx hb dX5_set_51 rfl (lv_at hl 0 rfl) ?_
        refine va_get (D := g.1) (ci := 5) (v := .ref ((ad 4) 0)) (C := RX5) (T := TX5) (N := 5) hx hb hts hinX5 hown hK hP 0 rfl rfl 0 (by decide) (hts (.fieldLink RX5 12 "BarredRungs" "now" "LBarredRungs$State;") (List.mem_of_getElem? (i := 6) rfl)) (fun _ h9 => h9) rfl dX5_set_52 ?_
        refine lv_iload_n hx hb dX5_set_55 rfl (lv_at hl 1 rfl) ?_
        obtain ⟨r5, kr5, h⟩ := bd_ex h
        have hP8 : va_P g.1 vwCl ((cRt ad ++ (cTx g (ad 1) tx ++ (cIs g (ad 2) is ++ (cWa g (ad 3) wa)))) ++ ((cSt g (ad 4) st) ++ (cHi g (ad 5) (ad 6) hi4))) _ := hP
        have hD8 : va_D A ((cRt ad ++ (cTx g (ad 1) tx ++ (cIs g (ad 2) is ++ (cWa g (ad 3) wa)))) ++ ((cSt g (ad 4) st) ++ (cHi g (ad 5) (ad 6) hi4))) := hD
        refine aft_f (st1 := [.int r5]) rfl (cRt ad ++ (cTx g (ad 1) tx ++ (cIs g (ad 2) is ++ (cWa g (ad 3) wa)))) (cHi g (ad 5) (ad 6) hi4) (runV (As := [.int p1]) (rest := []) ⟨hx, hb, hml, hown, hts⟩ (kX2_settingOf l g (ad 4) kr5) (cwV 1 hts gX5_set_X2_settingOf rfl rfl rfl hdX2_settingOf ⟨Nat.le_of_ble_eq_true rfl, Nat.le_of_ble_eq_true rfl⟩) hK hN hP8.right.left hD8.right.left (va_recv hK hP (ci := 2) (q0 := 10) rfl rfl) rfl hl.1 rfl (Nat.le_of_ble_eq_true rfl) dX5_set_56 ⟨Nat.zero_le _, Nat.zero_le _⟩) hP8 hD8 hS hA (fun H locs hP hD hS => ?_)
        have hP : va_P g.1 vwCl (cRt ad ++ (cTx g (ad 1) tx ++ (cIs g (ad 2) is ++ (cWa g (ad 3) wa ++ (cSt g (ad 4) st ++ (cHi g (ad 5) (ad 6) hi4)))))) H := hP
        have hD : va_D A (cRt ad ++ (cTx g (ad 1) tx ++ (cIs g (ad 2) is ++ (cWa g (ad 3) wa ++ (cSt g (ad 4) st ++ (cHi g (ad 5) (ad 6) hi4)))))) := hD
        refine lv_istore_n (lv' := [(3, .int r5), (0, .ref ((ad 0) 0)), (1, .int p1), (2, .int p2)]) hx hb dX5_set_59 rfl hl (by decide) rfl (fun ls hl => ?_)
        refine lv_aload_n hx hb dX5_set_60 rfl (lv_at hl 1 rfl) ?_
        refine va_get (D := g.1) (ci := 5) (v := .ref ((ad 4) 0)) (C := RX5) (T := TX5) (N := 5) hx hb hts hinX5 hown hK hP 0 rfl rfl 0 (by decide) (hts (.fieldLink RX5 12 "BarredRungs" "now" "LBarredRungs$State;") (List.mem_of_getElem? (i := 6) rfl)) (fun _ h9 => h9) rfl dX5_set_61 ?_
        refine lv_iload_n hx hb dX5_set_64 rfl (lv_at hl 2 rfl) ?_
        refine lv_iload_n hx hb dX5_set_65 rfl (lv_at hl 3 rfl) ?_
        obtain ⟨st6, kst6, h⟩ := bd_ex h
        have hP8 : va_P g.1 vwCl ((cRt ad ++ (cTx g (ad 1) tx ++ (cIs g (ad 2) is ++ (cWa g (ad 3) wa)))) ++ ((cSt g (ad 4) st) ++ (cHi g (ad 5) (ad 6) hi4))) _ := hP
        have hD8 : va_D A ((cRt ad ++ (cTx g (ad 1) tx ++ (cIs g (ad 2) is ++ (cWa g (ad 3) wa)))) ++ ((cSt g (ad 4) st) ++ (cHi g (ad 5) (ad 6) hi4))) := hD
        refine aft_f (st1 := []) rfl (cRt ad ++ (cTx g (ad 1) tx ++ (cIs g (ad 2) is ++ (cWa g (ad 3) wa)))) (cHi g (ad 5) (ad 6) hi4) (runV (As := [.int p1, .int p2]) (rest := []) ⟨hx, hb, hml, hown, hts⟩ (kX2_changeSetting l g (ad 4) kst6) (cwV 2 hts gX5_set_X2_changeSetting rfl rfl rfl hdX2_changeSetting ⟨Nat.le_of_ble_eq_true rfl, Nat.le_of_ble_eq_true rfl⟩) hK hN hP8.right.left hD8.right.left (va_recv hK hP (ci := 2) (q0 := 10) rfl rfl) rfl hl.1 rfl (Nat.le_of_ble_eq_true rfl) dX5_set_66 ⟨Nat.zero_le _, Nat.zero_le _⟩) hP8 hD8 hS hA (fun H locs hP hD hS => ?_)
        have hP : va_P g.1 vwCl (cRt ad ++ (cTx g (ad 1) tx ++ (cIs g (ad 2) is ++ (cWa g (ad 3) wa ++ (cSt g (ad 4) st6 ++ (cHi g (ad 5) (ad 6) hi4)))))) H := hP
        have hD : va_D A (cRt ad ++ (cTx g (ad 1) tx ++ (cIs g (ad 2) is ++ (cWa g (ad 3) wa ++ (cSt g (ad 4) st6 ++ (cHi g (ad 5) (ad 6) hi4)))))) := hD
        refine lv_iload_n hx hb dX5_set_69 rfl (lv_at hl 0 rfl) ?_
        cases some_i h
        exact hend _ _ _ _ _ hP hD hS (RetOK.i dX5_set_70)
      · have h := if_f c3 h
        cases h
  · have h := if_f c1 h
    refine lv_iload_n hx hb dX5_set_4 rfl (lv_at hl 1 rfl) ?_
    refine lv_iconst (v := 1) hx hb dX5_set_5 (by decide) ?_
    refine lv_icmp_eq (tgt := 19) hx hb dX5_set_6 (by decide) (fun c7 => ?_) (fun c7 => ?_)
    · have h := if_t c7 h
      refine lv_iload_n hx hb dX5_set_19 rfl (lv_at hl 2 rfl) ?_
      refine lv_iconst (v := 1) hx hb dX5_set_20 (by decide) ?_
      refine lv_icmp_lt (tgt := 30) hx hb dX5_set_21 (by decide) (fun c8 => ?_) (fun c8 => ?_)
      · have h := if_t c8 h
        cases h
      · have h := if_f c8 h
        refine lv_iload_n hx hb dX5_set_24 rfl (lv_at hl 2 rfl) ?_
        refine lv_bipush (v := 7) hx hb dX5_set_25 (by decide) ?_
        refine lv_icmp_le (tgt := 40) hx hb dX5_set_27 (by decide) (fun c9 => ?_) (fun c9 => ?_)
        · have h := if_t c9 h
          refine lv_aload_n hx hb dX5_set_40 rfl (lv_at hl 0 rfl) ?_
          refine va_get (D := g.1) (ci := 5) (v := .ref ((ad 5) 0)) (C := RX5) (T := TX5) (N := 5) hx hb hts hinX5 hown hK hP 0 rfl rfl 1 (by decide) (hts (.fieldLink RX5 19 "BarredRungs" "history" "LBarredRungs$History;") (List.mem_of_getElem? (i := 5) rfl)) (fun _ h9 => h9) rfl dX5_set_41 ?_
          refine lv_aload_n hx hb dX5_set_44 rfl (lv_at hl 0 rfl) ?_
          refine va_get (D := g.1) (ci := 5) (v := .ref ((ad 4) 0)) (C := RX5) (T := TX5) (N := 5) hx hb hts hinX5 hown hK hP 0 rfl rfl 0 (by decide) (hts (.fieldLink RX5 12 "BarredRungs" "now" "LBarredRungs$State;") (List.mem_of_getElem? (i := 6) rfl)) (fun _ h9 => h9) rfl dX5_set_45 ?_
          obtain ⟨hi10, khi10, h⟩ := bd_ex h
          have hP8 : va_P g.1 vwCl ((cRt ad ++ (cTx g (ad 1) tx ++ (cIs g (ad 2) is ++ (cWa g (ad 3) wa)))) ++ ((cSt g (ad 4) st ++ (cHi g (ad 5) (ad 6) hi)) ++ [])) _ := hP
          have hD8 : va_D A ((cRt ad ++ (cTx g (ad 1) tx ++ (cIs g (ad 2) is ++ (cWa g (ad 3) wa)))) ++ ((cSt g (ad 4) st ++ (cHi g (ad 5) (ad 6) hi)) ++ [])) := hD
          refine aft_f (st1 := []) rfl (cRt ad ++ (cTx g (ad 1) tx ++ (cIs g (ad 2) is ++ (cWa g (ad 3) wa)))) [] (runV (As := [.ref ((ad 4) 0)]) (rest := []) ⟨hx, hb, hml, hown, hts⟩ (kX0_save l g (ad 4) (ad 5) (ad 6) khi10) (cwV 1 hts gX5_set_X0_save rfl rfl rfl hdX0_save ⟨Nat.le_of_ble_eq_true rfl, Nat.le_of_ble_eq_true rfl⟩) hK hN hP8.right.left hD8.right.left (va_recv hK hP (ci := 0) (q0 := 20) rfl rfl) rfl hl.1 rfl (Nat.le_of_ble_eq_true rfl) dX5_set_48 ⟨Nat.zero_le _, Nat.zero_le _⟩) hP8 hD8 hS hA (fun H locs hP hD hS => ?_)
          have hP : va_P g.1 vwCl (cRt ad ++ (cTx g (ad 1) tx ++ (cIs g (ad 2) is ++ (cWa g (ad 3) wa ++ (cSt g (ad 4) st ++ (cHi g (ad 5) (ad 6) hi10)))))) H := hP
          have hD : va_D A (cRt ad ++ (cTx g (ad 1) tx ++ (cIs g (ad 2) is ++ (cWa g (ad 3) wa ++ (cSt g (ad 4) st ++ (cHi g (ad 5) (ad 6) hi10)))))) := hD
          refine lv_aload_n hx hb dX5_set_51 rfl (lv_at hl 0 rfl) ?_
          refine va_get (D := g.1) (ci := 5) (v := .ref ((ad 4) 0)) (C := RX5) (T := TX5) (N := 5) hx hb hts hinX5 hown hK hP 0 rfl rfl 0 (by decide) (hts (.fieldLink RX5 12 "BarredRungs" "now" "LBarredRungs$State;") (List.mem_of_getElem? (i := 6) rfl)) (fun _ h9 => h9) rfl dX5_set_52 ?_
          refine lv_iload_n hx hb dX5_set_55 rfl (lv_at hl 1 rfl) ?_
          obtain ⟨r11, kr11, h⟩ := bd_ex h
          have hP8 : va_P g.1 vwCl ((cRt ad ++ (cTx g (ad 1) tx ++ (cIs g (ad 2) is ++ (cWa g (ad 3) wa)))) ++ ((cSt g (ad 4) st) ++ (cHi g (ad 5) (ad 6) hi10))) _ := hP
          have hD8 : va_D A ((cRt ad ++ (cTx g (ad 1) tx ++ (cIs g (ad 2) is ++ (cWa g (ad 3) wa)))) ++ ((cSt g (ad 4) st) ++ (cHi g (ad 5) (ad 6) hi10))) := hD
          refine aft_f (st1 := [.int r11]) rfl (cRt ad ++ (cTx g (ad 1) tx ++ (cIs g (ad 2) is ++ (cWa g (ad 3) wa)))) (cHi g (ad 5) (ad 6) hi10) (runV (As := [.int p1]) (rest := []) ⟨hx, hb, hml, hown, hts⟩ (kX2_settingOf l g (ad 4) kr11) (cwV 1 hts gX5_set_X2_settingOf rfl rfl rfl hdX2_settingOf ⟨Nat.le_of_ble_eq_true rfl, Nat.le_of_ble_eq_true rfl⟩) hK hN hP8.right.left hD8.right.left (va_recv hK hP (ci := 2) (q0 := 10) rfl rfl) rfl hl.1 rfl (Nat.le_of_ble_eq_true rfl) dX5_set_56 ⟨Nat.zero_le _, Nat.zero_le _⟩) hP8 hD8 hS hA (fun H locs hP hD hS => ?_)
          have hP : va_P g.1 vwCl (cRt ad ++ (cTx g (ad 1) tx ++ (cIs g (ad 2) is ++ (cWa g (ad 3) wa ++ (cSt g (ad 4) st ++ (cHi g (ad 5) (ad 6) hi10)))))) H := hP
          have hD : va_D A (cRt ad ++ (cTx g (ad 1) tx ++ (cIs g (ad 2) is ++ (cWa g (ad 3) wa ++ (cSt g (ad 4) st ++ (cHi g (ad 5) (ad 6) hi10)))))) := hD
          refine lv_istore_n (lv' := [(3, .int r11), (0, .ref ((ad 0) 0)), (1, .int p1), (2, .int p2)]) hx hb dX5_set_59 rfl hl (by decide) rfl (fun ls hl => ?_)
          refine lv_aload_n hx hb dX5_set_60 rfl (lv_at hl 1 rfl) ?_
          refine va_get (D := g.1) (ci := 5) (v := .ref ((ad 4) 0)) (C := RX5) (T := TX5) (N := 5) hx hb hts hinX5 hown hK hP 0 rfl rfl 0 (by decide) (hts (.fieldLink RX5 12 "BarredRungs" "now" "LBarredRungs$State;") (List.mem_of_getElem? (i := 6) rfl)) (fun _ h9 => h9) rfl dX5_set_61 ?_
          refine lv_iload_n hx hb dX5_set_64 rfl (lv_at hl 2 rfl) ?_
          refine lv_iload_n hx hb dX5_set_65 rfl (lv_at hl 3 rfl) ?_
          obtain ⟨st12, kst12, h⟩ := bd_ex h
          have hP8 : va_P g.1 vwCl ((cRt ad ++ (cTx g (ad 1) tx ++ (cIs g (ad 2) is ++ (cWa g (ad 3) wa)))) ++ ((cSt g (ad 4) st) ++ (cHi g (ad 5) (ad 6) hi10))) _ := hP
          have hD8 : va_D A ((cRt ad ++ (cTx g (ad 1) tx ++ (cIs g (ad 2) is ++ (cWa g (ad 3) wa)))) ++ ((cSt g (ad 4) st) ++ (cHi g (ad 5) (ad 6) hi10))) := hD
          refine aft_f (st1 := []) rfl (cRt ad ++ (cTx g (ad 1) tx ++ (cIs g (ad 2) is ++ (cWa g (ad 3) wa)))) (cHi g (ad 5) (ad 6) hi10) (runV (As := [.int p1, .int p2]) (rest := []) ⟨hx, hb, hml, hown, hts⟩ (kX2_changeSetting l g (ad 4) kst12) (cwV 2 hts gX5_set_X2_changeSetting rfl rfl rfl hdX2_changeSetting ⟨Nat.le_of_ble_eq_true rfl, Nat.le_of_ble_eq_true rfl⟩) hK hN hP8.right.left hD8.right.left (va_recv hK hP (ci := 2) (q0 := 10) rfl rfl) rfl hl.1 rfl (Nat.le_of_ble_eq_true rfl) dX5_set_66 ⟨Nat.zero_le _, Nat.zero_le _⟩) hP8 hD8 hS hA (fun H locs hP hD hS => ?_)
          have hP : va_P g.1 vwCl (cRt ad ++ (cTx g (ad 1) tx ++ (cIs g (ad 2) is ++ (cWa g (ad 3) wa ++ (cSt g (ad 4) st12 ++ (cHi g (ad 5) (ad 6) hi10)))))) H := hP
          have hD : va_D A (cRt ad ++ (cTx g (ad 1) tx ++ (cIs g (ad 2) is ++ (cWa g (ad 3) wa ++ (cSt g (ad 4) st12 ++ (cHi g (ad 5) (ad 6) hi10)))))) := hD
          refine lv_iload_n hx hb dX5_set_69 rfl (lv_at hl 0 rfl) ?_
          cases some_i h
          exact hend _ _ _ _ _ hP hD hS (RetOK.i dX5_set_70)
        · have h := if_f c9 h
          cases h
    · have h := if_f c7 h
      cases h
def fX5_setting (tx : Tx) (is : Is) (wa : Wa) (st : St) (hi : Hi) (p1 : Int32) : Option (Nat ⊕ (Int32)) :=
(if p1 = (0 : Int32) then
(bd (fX2_settingOf st p1) fun (r2 : Int32) =>
(some (.inr r2)))
else
(if p1 = (1 : Int32) then
(bd (fX2_settingOf st p1) fun (r4 : Int32) =>
(some (.inr r4)))
else
(some (.inl 1))))
abbrev rX5_setting : Room := { frames := 6, cells := 0, slots := 0, locals := 90 }
theorem hdX5_setting : yX5_setting.cls = RX5 ∧ yX5_setting.cls ≠ "java/lang/invoke/MethodHandle" ∧ yX5_setting.cls ≠ "java/lang/invoke/VarHandle" ∧ (parseMethodDescriptor yX5_setting.desc).map (fun d => d.parameters.length) = some 1 := by decide +kernel
set_option maxRecDepth 100000 in
set_option maxHeartbeats 8000000 in
theorem kX5_setting (l : Launch) (g : GG) (ad : Nat → Nat → Nat) {tx : Tx} {is : Is} {wa : Wa} {st : St} {hi : Hi} {p1 : Int32} {res : Int32} (h : fX5_setting tx is wa st hi p1 = some (.inr res)) : Cg l g yX5_setting wsX5_setting rX5_setting [.ref ((ad 0) 0), .int p1] (cRt ad ++ (cTx g (ad 1) tx ++ (cIs g (ad 2) is ++ (cWa g (ad 3) wa ++ (cSt g (ad 4) st ++ (cHi g (ad 5) (ad 6) hi)))))) (some (.int res)) (cRt ad ++ (cTx g (ad 1) tx ++ (cIs g (ad 2) is ++ (cWa g (ad 3) wa ++ (cSt g (ad 4) st ++ (cHi g (ad 5) (ad 6) hi)))))) := by
  refine Cg_of (cc := cX5_setting) (maxL := 2) (ret := (some .int)) (by decide +kernel) rfl (Nat.le_of_ble_eq_true rfl) ?_
  intro p e su m args below meth c A Q ls hx hb hml hown hts hK hN hA hnm hP hD hS hl hend
  have hinX5 : ∀ w ∈ u_ws RX5 TX5 5, w ∈ wsX5_setting := fun _ h9 => List.mem_cons_of_mem _ (List.mem_append_left _ (List.mem_append_left _ (List.mem_append_right _ h9)))
  have hinX2 : ∀ w ∈ u_ws RX2 TX2 17, w ∈ wsX5_setting := fun _ h9 => List.mem_cons_of_mem _ (List.mem_append_left _ (List.mem_append_right _ h9))
  unfold fX5_setting at h
  have hl : lv_has ls 2 [(0, .ref ((ad 0) 0)), (1, .int p1)] := hl
  refine lv_iload_n hx hb dX5_setting_0 rfl (lv_at hl 1 rfl) ?_
  refine lv_if_eq (tgt := 19) hx hb dX5_setting_1 (by decide) (fun c1 => ?_) (fun c1 => ?_)
  · have h := if_t c1 h
    refine lv_aload_n hx hb dX5_setting_19 rfl (lv_at hl 0 rfl) ?_
    refine va_get (D := g.1) (ci := 5) (v := .ref ((ad 4) 0)) (C := RX5) (T := TX5) (N := 5) hx hb hts hinX5 hown hK hP 0 rfl rfl 0 (by decide) (hts (.fieldLink RX5 12 "BarredRungs" "now" "LBarredRungs$State;") (List.mem_of_getElem? (i := 3) rfl)) (fun _ h9 => h9) rfl dX5_setting_20 ?_
    refine lv_iload_n hx hb dX5_setting_23 rfl (lv_at hl 1 rfl) ?_
    obtain ⟨r2, kr2, h⟩ := bd_ex h
    have hP8 : va_P g.1 vwCl ((cRt ad ++ (cTx g (ad 1) tx ++ (cIs g (ad 2) is ++ (cWa g (ad 3) wa)))) ++ ((cSt g (ad 4) st) ++ (cHi g (ad 5) (ad 6) hi))) _ := hP
    have hD8 : va_D A ((cRt ad ++ (cTx g (ad 1) tx ++ (cIs g (ad 2) is ++ (cWa g (ad 3) wa)))) ++ ((cSt g (ad 4) st) ++ (cHi g (ad 5) (ad 6) hi))) := hD
    refine aft_f (st1 := [.int r2]) rfl (cRt ad ++ (cTx g (ad 1) tx ++ (cIs g (ad 2) is ++ (cWa g (ad 3) wa)))) (cHi g (ad 5) (ad 6) hi) (runV (As := [.int p1]) (rest := []) ⟨hx, hb, hml, hown, hts⟩ (kX2_settingOf l g (ad 4) kr2) (cwV 1 hts gX5_setting_X2_settingOf rfl rfl rfl hdX2_settingOf ⟨Nat.le_of_ble_eq_true rfl, Nat.le_of_ble_eq_true rfl⟩) hK hN hP8.right.left hD8.right.left (va_recv hK hP (ci := 2) (q0 := 10) rfl rfl) rfl hl.1 rfl (Nat.le_of_ble_eq_true rfl) dX5_setting_24 ⟨Nat.zero_le _, Nat.zero_le _⟩) hP8 hD8 hS hA (fun H locs hP hD hS => ?_)
    have hP : va_P g.1 vwCl (cRt ad ++ (cTx g (ad 1) tx ++ (cIs g (ad 2) is ++ (cWa g (ad 3) wa ++ (cSt g (ad 4) st ++ (cHi g (ad 5) (ad 6) hi)))))) H := hP
    have hD : va_D A (cRt ad ++ (cTx g (ad 1) tx ++ (cIs g (ad 2) is ++ (cWa g (ad 3) wa ++ (cSt g (ad 4) st ++ (cHi g (ad 5) (ad 6) hi)))))) := hD
    cases some_i h
    exact hend _ _ _ _ _ hP hD hS (RetOK.i dX5_setting_27)
  · have h := if_f c1 h
    refine lv_iload_n hx hb dX5_setting_4 rfl (lv_at hl 1 rfl) ?_
    refine lv_iconst (v := 1) hx hb dX5_setting_5 (by decide) ?_
    refine lv_icmp_eq (tgt := 19) hx hb dX5_setting_6 (by decide) (fun c3 => ?_) (fun c3 => ?_)
    · have h := if_t c3 h
      refine lv_aload_n hx hb dX5_setting_19 rfl (lv_at hl 0 rfl) ?_
      refine va_get (D := g.1) (ci := 5) (v := .ref ((ad 4) 0)) (C := RX5) (T := TX5) (N := 5) hx hb hts hinX5 hown hK hP 0 rfl rfl 0 (by decide) (hts (.fieldLink RX5 12 "BarredRungs" "now" "LBarredRungs$State;") (List.mem_of_getElem? (i := 3) rfl)) (fun _ h9 => h9) rfl dX5_setting_20 ?_
      refine lv_iload_n hx hb dX5_setting_23 rfl (lv_at hl 1 rfl) ?_
      obtain ⟨r4, kr4, h⟩ := bd_ex h
      have hP8 : va_P g.1 vwCl ((cRt ad ++ (cTx g (ad 1) tx ++ (cIs g (ad 2) is ++ (cWa g (ad 3) wa)))) ++ ((cSt g (ad 4) st) ++ (cHi g (ad 5) (ad 6) hi))) _ := hP
      have hD8 : va_D A ((cRt ad ++ (cTx g (ad 1) tx ++ (cIs g (ad 2) is ++ (cWa g (ad 3) wa)))) ++ ((cSt g (ad 4) st) ++ (cHi g (ad 5) (ad 6) hi))) := hD
      refine aft_f (st1 := [.int r4]) rfl (cRt ad ++ (cTx g (ad 1) tx ++ (cIs g (ad 2) is ++ (cWa g (ad 3) wa)))) (cHi g (ad 5) (ad 6) hi) (runV (As := [.int p1]) (rest := []) ⟨hx, hb, hml, hown, hts⟩ (kX2_settingOf l g (ad 4) kr4) (cwV 1 hts gX5_setting_X2_settingOf rfl rfl rfl hdX2_settingOf ⟨Nat.le_of_ble_eq_true rfl, Nat.le_of_ble_eq_true rfl⟩) hK hN hP8.right.left hD8.right.left (va_recv hK hP (ci := 2) (q0 := 10) rfl rfl) rfl hl.1 rfl (Nat.le_of_ble_eq_true rfl) dX5_setting_24 ⟨Nat.zero_le _, Nat.zero_le _⟩) hP8 hD8 hS hA (fun H locs hP hD hS => ?_)
      have hP : va_P g.1 vwCl (cRt ad ++ (cTx g (ad 1) tx ++ (cIs g (ad 2) is ++ (cWa g (ad 3) wa ++ (cSt g (ad 4) st ++ (cHi g (ad 5) (ad 6) hi)))))) H := hP
      have hD : va_D A (cRt ad ++ (cTx g (ad 1) tx ++ (cIs g (ad 2) is ++ (cWa g (ad 3) wa ++ (cSt g (ad 4) st ++ (cHi g (ad 5) (ad 6) hi)))))) := hD
      cases some_i h
      exact hend _ _ _ _ _ hP hD hS (RetOK.i dX5_setting_27)
    · have h := if_f c3 h
      cases h
def fX5_turn (tx : Tx) (is : Is) (wa : Wa) (st : St) (hi : Hi) : Option (Int32 × St × Hi) :=
(bd (fX0_save st hi) fun (hi1 : Hi) =>
(bd2 (fX2_passTurn st) fun (r2 : Int32) (st3 : St) =>
(some (r2, st3, hi1))))
abbrev rX5_turn : Room := { frames := 3, cells := 0, slots := 0, locals := 102 }
theorem hdX5_turn : yX5_turn.cls = RX5 ∧ yX5_turn.cls ≠ "java/lang/invoke/MethodHandle" ∧ yX5_turn.cls ≠ "java/lang/invoke/VarHandle" ∧ (parseMethodDescriptor yX5_turn.desc).map (fun d => d.parameters.length) = some 0 := by decide +kernel
set_option maxRecDepth 100000 in
set_option maxHeartbeats 8000000 in
theorem kX5_turn (l : Launch) (g : GG) (ad : Nat → Nat → Nat) {tx : Tx} {is : Is} {wa : Wa} {st : St} {hi : Hi} {res : Int32} {st' : St} {hi' : Hi} (h : fX5_turn tx is wa st hi = some (res, st', hi')) : Cg l g yX5_turn wsX5_turn rX5_turn [.ref ((ad 0) 0)] (cRt ad ++ (cTx g (ad 1) tx ++ (cIs g (ad 2) is ++ (cWa g (ad 3) wa ++ (cSt g (ad 4) st ++ (cHi g (ad 5) (ad 6) hi)))))) (some (.int res)) (cRt ad ++ (cTx g (ad 1) tx ++ (cIs g (ad 2) is ++ (cWa g (ad 3) wa ++ (cSt g (ad 4) st' ++ (cHi g (ad 5) (ad 6) hi')))))) := by
  refine Cg_of (cc := cX5_turn) (maxL := 1) (ret := (some .int)) (by decide +kernel) rfl (Nat.le_of_ble_eq_true rfl) ?_
  intro p e su m args below meth c A Q ls hx hb hml hown hts hK hN hA hnm hP hD hS hl hend
  have hinX5 : ∀ w ∈ u_ws RX5 TX5 5, w ∈ wsX5_turn := fun _ h9 => List.mem_cons_of_mem _ (List.mem_append_left _ (List.mem_append_left _ (List.mem_append_right _ h9)))
  have hinX0 : ∀ w ∈ u_ws RX0 TX0 4, w ∈ wsX5_turn := fun _ h9 => List.mem_cons_of_mem _ (List.mem_append_left _ (List.mem_append_right _ h9))
  have hinX2 : ∀ w ∈ u_ws RX2 TX2 17, w ∈ wsX5_turn := fun _ h9 => List.mem_cons_of_mem _ (List.mem_append_right _ h9)
  unfold fX5_turn at h
  have hl : lv_has ls 1 [(0, .ref ((ad 0) 0))] := hl
  refine lv_aload_n hx hb dX5_turn_0 rfl (lv_at hl 0 rfl) ?_
  refine va_get (D := g.1) (ci := 5) (v := .ref ((ad 5) 0)) (C := RX5) (T := TX5) (N := 5) hx hb hts hinX5 hown hK hP 0 rfl rfl 1 (by decide) (hts (.fieldLink RX5 19 "BarredRungs" "history" "LBarredRungs$History;") (List.mem_of_getElem? (i := 1) rfl)) (fun _ h9 => h9) rfl dX5_turn_1 ?_
  refine lv_aload_n hx hb dX5_turn_4 rfl (lv_at hl 0 rfl) ?_
  refine va_get (D := g.1) (ci := 5) (v := .ref ((ad 4) 0)) (C := RX5) (T := TX5) (N := 5) hx hb hts hinX5 hown hK hP 0 rfl rfl 0 (by decide) (hts (.fieldLink RX5 12 "BarredRungs" "now" "LBarredRungs$State;") (List.mem_of_getElem? (i := 2) rfl)) (fun _ h9 => h9) rfl dX5_turn_5 ?_
  obtain ⟨hi1, khi1, h⟩ := bd_ex h
  have hP8 : va_P g.1 vwCl ((cRt ad ++ (cTx g (ad 1) tx ++ (cIs g (ad 2) is ++ (cWa g (ad 3) wa)))) ++ ((cSt g (ad 4) st ++ (cHi g (ad 5) (ad 6) hi)) ++ [])) _ := hP
  have hD8 : va_D A ((cRt ad ++ (cTx g (ad 1) tx ++ (cIs g (ad 2) is ++ (cWa g (ad 3) wa)))) ++ ((cSt g (ad 4) st ++ (cHi g (ad 5) (ad 6) hi)) ++ [])) := hD
  refine aft_f (st1 := []) rfl (cRt ad ++ (cTx g (ad 1) tx ++ (cIs g (ad 2) is ++ (cWa g (ad 3) wa)))) [] (runV (As := [.ref ((ad 4) 0)]) (rest := []) ⟨hx, hb, hml, hown, hts⟩ (kX0_save l g (ad 4) (ad 5) (ad 6) khi1) (cwV 1 hts gX5_turn_X0_save rfl rfl rfl hdX0_save ⟨Nat.le_of_ble_eq_true rfl, Nat.le_of_ble_eq_true rfl⟩) hK hN hP8.right.left hD8.right.left (va_recv hK hP (ci := 0) (q0 := 20) rfl rfl) rfl hl.1 rfl (Nat.le_of_ble_eq_true rfl) dX5_turn_8 ⟨Nat.zero_le _, Nat.zero_le _⟩) hP8 hD8 hS hA (fun H locs hP hD hS => ?_)
  have hP : va_P g.1 vwCl (cRt ad ++ (cTx g (ad 1) tx ++ (cIs g (ad 2) is ++ (cWa g (ad 3) wa ++ (cSt g (ad 4) st ++ (cHi g (ad 5) (ad 6) hi1)))))) H := hP
  have hD : va_D A (cRt ad ++ (cTx g (ad 1) tx ++ (cIs g (ad 2) is ++ (cWa g (ad 3) wa ++ (cSt g (ad 4) st ++ (cHi g (ad 5) (ad 6) hi1)))))) := hD
  refine lv_aload_n hx hb dX5_turn_11 rfl (lv_at hl 0 rfl) ?_
  refine va_get (D := g.1) (ci := 5) (v := .ref ((ad 4) 0)) (C := RX5) (T := TX5) (N := 5) hx hb hts hinX5 hown hK hP 0 rfl rfl 0 (by decide) (hts (.fieldLink RX5 12 "BarredRungs" "now" "LBarredRungs$State;") (List.mem_of_getElem? (i := 2) rfl)) (fun _ h9 => h9) rfl dX5_turn_12 ?_
  obtain ⟨r2, st3, kr2, h⟩ := bd2_ex h
  have hP8 : va_P g.1 vwCl ((cRt ad ++ (cTx g (ad 1) tx ++ (cIs g (ad 2) is ++ (cWa g (ad 3) wa)))) ++ ((cSt g (ad 4) st) ++ (cHi g (ad 5) (ad 6) hi1))) _ := hP
  have hD8 : va_D A ((cRt ad ++ (cTx g (ad 1) tx ++ (cIs g (ad 2) is ++ (cWa g (ad 3) wa)))) ++ ((cSt g (ad 4) st) ++ (cHi g (ad 5) (ad 6) hi1))) := hD
  refine aft_f (st1 := [.int r2]) rfl (cRt ad ++ (cTx g (ad 1) tx ++ (cIs g (ad 2) is ++ (cWa g (ad 3) wa)))) (cHi g (ad 5) (ad 6) hi1) (runV (As := []) (rest := []) ⟨hx, hb, hml, hown, hts⟩ (kX2_passTurn l g (ad 4) kr2) (cwV 0 hts gX5_turn_X2_passTurn rfl rfl rfl hdX2_passTurn ⟨Nat.le_of_ble_eq_true rfl, Nat.le_of_ble_eq_true rfl⟩) hK hN hP8.right.left hD8.right.left (va_recv hK hP (ci := 2) (q0 := 10) rfl rfl) rfl hl.1 rfl (Nat.le_of_ble_eq_true rfl) dX5_turn_15 ⟨Nat.zero_le _, Nat.zero_le _⟩) hP8 hD8 hS hA (fun H locs hP hD hS => ?_)
  have hP : va_P g.1 vwCl (cRt ad ++ (cTx g (ad 1) tx ++ (cIs g (ad 2) is ++ (cWa g (ad 3) wa ++ (cSt g (ad 4) st3 ++ (cHi g (ad 5) (ad 6) hi1)))))) H := hP
  have hD : va_D A (cRt ad ++ (cTx g (ad 1) tx ++ (cIs g (ad 2) is ++ (cWa g (ad 3) wa ++ (cSt g (ad 4) st3 ++ (cHi g (ad 5) (ad 6) hi1)))))) := hD
  cases some_i h
  exact hend _ _ _ _ _ hP hD hS (RetOK.i dX5_turn_18)
def fX5_undo (tx : Tx) (is : Is) (wa : Wa) (st : St) (hi : Hi) : Option (Nat ⊕ (Int32 × St × Hi)) :=
(if (Hi_size hi) = (0 : Int32) then
(some (.inl 3))
else
(bd2 (fX0_restoreLatest st hi) fun (st2 : St) (hi3 : Hi) =>
(some (.inr ((Hi_size hi3), st2, hi3)))))
abbrev rX5_undo : Room := { frames := 6, cells := 0, slots := 0, locals := 102 }
theorem hdX5_undo : yX5_undo.cls = RX5 ∧ yX5_undo.cls ≠ "java/lang/invoke/MethodHandle" ∧ yX5_undo.cls ≠ "java/lang/invoke/VarHandle" ∧ (parseMethodDescriptor yX5_undo.desc).map (fun d => d.parameters.length) = some 0 := by decide +kernel
set_option maxRecDepth 100000 in
set_option maxHeartbeats 8000000 in
theorem kX5_undo (l : Launch) (g : GG) (ad : Nat → Nat → Nat) {tx : Tx} {is : Is} {wa : Wa} {st : St} {hi : Hi} {res : Int32} {st' : St} {hi' : Hi} (h : fX5_undo tx is wa st hi = some (.inr (res, st', hi'))) : Cg l g yX5_undo wsX5_undo rX5_undo [.ref ((ad 0) 0)] (cRt ad ++ (cTx g (ad 1) tx ++ (cIs g (ad 2) is ++ (cWa g (ad 3) wa ++ (cSt g (ad 4) st ++ (cHi g (ad 5) (ad 6) hi)))))) (some (.int res)) (cRt ad ++ (cTx g (ad 1) tx ++ (cIs g (ad 2) is ++ (cWa g (ad 3) wa ++ (cSt g (ad 4) st' ++ (cHi g (ad 5) (ad 6) hi')))))) := by
  refine Cg_of (cc := cX5_undo) (maxL := 1) (ret := (some .int)) (by decide +kernel) rfl (Nat.le_of_ble_eq_true rfl) ?_
  intro p e su m args below meth c A Q ls hx hb hml hown hts hK hN hA hnm hP hD hS hl hend
  have hinX5 : ∀ w ∈ u_ws RX5 TX5 5, w ∈ wsX5_undo := fun _ h9 => List.mem_cons_of_mem _ (List.mem_append_left _ (List.mem_append_left _ (List.mem_append_left _ (List.mem_append_right _ h9))))
  have hinX0 : ∀ w ∈ u_ws RX0 TX0 4, w ∈ wsX5_undo := fun _ h9 => List.mem_cons_of_mem _ (List.mem_append_left _ (List.mem_append_left _ (List.mem_append_right _ h9)))
  have hinX2 : ∀ w ∈ u_ws RX2 TX2 17, w ∈ wsX5_undo := fun _ h9 => List.mem_cons_of_mem _ (List.mem_append_left _ (List.mem_append_right _ h9))
  unfold fX5_undo at h
  have hl : lv_has ls 1 [(0, .ref ((ad 0) 0))] := hl
  refine lv_aload_n hx hb dX5_undo_0 rfl (lv_at hl 0 rfl) ?_
  refine va_get (D := g.1) (ci := 5) (v := .ref ((ad 5) 0)) (C := RX5) (T := TX5) (N := 5) hx hb hts hinX5 hown hK hP 0 rfl rfl 1 (by decide) (hts (.fieldLink RX5 19 "BarredRungs" "history" "LBarredRungs$History;") (List.mem_of_getElem? (i := 3) rfl)) (fun _ h9 => h9) rfl dX5_undo_1 ?_
  refine va_get (D := g.1) (ci := 0) (v := .int (Hi_size hi)) (C := RX0) (T := TX0) (N := 4) hx hb hts hinX0 hown hK hP 20 rfl rfl 2 (by decide) (hts (.fieldLink RX5 184 "BarredRungs$History" "size" "I") (List.mem_of_getElem? (i := 4) rfl)) (fun _ h9 => h9) rfl dX5_undo_4 ?_
  refine lv_if_ne (tgt := 20) hx hb dX5_undo_7 (by decide) (fun c1 => ?_) (fun c1 => ?_)
  · have h := if_f c1 h
    refine lv_aload_n hx hb dX5_undo_20 rfl (lv_at hl 0 rfl) ?_
    refine va_get (D := g.1) (ci := 5) (v := .ref ((ad 5) 0)) (C := RX5) (T := TX5) (N := 5) hx hb hts hinX5 hown hK hP 0 rfl rfl 1 (by decide) (hts (.fieldLink RX5 19 "BarredRungs" "history" "LBarredRungs$History;") (List.mem_of_getElem? (i := 3) rfl)) (fun _ h9 => h9) rfl dX5_undo_21 ?_
    refine lv_aload_n hx hb dX5_undo_24 rfl (lv_at hl 0 rfl) ?_
    refine va_get (D := g.1) (ci := 5) (v := .ref ((ad 4) 0)) (C := RX5) (T := TX5) (N := 5) hx hb hts hinX5 hown hK hP 0 rfl rfl 0 (by decide) (hts (.fieldLink RX5 12 "BarredRungs" "now" "LBarredRungs$State;") (List.mem_of_getElem? (i := 5) rfl)) (fun _ h9 => h9) rfl dX5_undo_25 ?_
    obtain ⟨st2, hi3, kst2, h⟩ := bd2_ex h
    have hP8 : va_P g.1 vwCl ((cRt ad ++ (cTx g (ad 1) tx ++ (cIs g (ad 2) is ++ (cWa g (ad 3) wa)))) ++ ((cSt g (ad 4) st ++ (cHi g (ad 5) (ad 6) hi)) ++ [])) _ := hP
    have hD8 : va_D A ((cRt ad ++ (cTx g (ad 1) tx ++ (cIs g (ad 2) is ++ (cWa g (ad 3) wa)))) ++ ((cSt g (ad 4) st ++ (cHi g (ad 5) (ad 6) hi)) ++ [])) := hD
    refine aft_f (st1 := []) rfl (cRt ad ++ (cTx g (ad 1) tx ++ (cIs g (ad 2) is ++ (cWa g (ad 3) wa)))) [] (runV (As := [.ref ((ad 4) 0)]) (rest := []) ⟨hx, hb, hml, hown, hts⟩ (kX0_restoreLatest l g (ad 4) (ad 5) (ad 6) kst2) (cwV 1 hts gX5_undo_X0_restoreLatest rfl rfl rfl hdX0_restoreLatest ⟨Nat.le_of_ble_eq_true rfl, Nat.le_of_ble_eq_true rfl⟩) hK hN hP8.right.left hD8.right.left (va_recv hK hP (ci := 0) (q0 := 20) rfl rfl) rfl hl.1 rfl (Nat.le_of_ble_eq_true rfl) dX5_undo_28 ⟨Nat.zero_le _, Nat.zero_le _⟩) hP8 hD8 hS hA (fun H locs hP hD hS => ?_)
    have hP : va_P g.1 vwCl (cRt ad ++ (cTx g (ad 1) tx ++ (cIs g (ad 2) is ++ (cWa g (ad 3) wa ++ (cSt g (ad 4) st2 ++ (cHi g (ad 5) (ad 6) hi3)))))) H := hP
    have hD : va_D A (cRt ad ++ (cTx g (ad 1) tx ++ (cIs g (ad 2) is ++ (cWa g (ad 3) wa ++ (cSt g (ad 4) st2 ++ (cHi g (ad 5) (ad 6) hi3)))))) := hD
    refine lv_aload_n hx hb dX5_undo_31 rfl (lv_at hl 0 rfl) ?_
    refine va_get (D := g.1) (ci := 5) (v := .ref ((ad 5) 0)) (C := RX5) (T := TX5) (N := 5) hx hb hts hinX5 hown hK hP 0 rfl rfl 1 (by decide) (hts (.fieldLink RX5 19 "BarredRungs" "history" "LBarredRungs$History;") (List.mem_of_getElem? (i := 3) rfl)) (fun _ h9 => h9) rfl dX5_undo_32 ?_
    refine va_get (D := g.1) (ci := 0) (v := .int (Hi_size hi3)) (C := RX0) (T := TX0) (N := 4) hx hb hts hinX0 hown hK hP 20 rfl rfl 2 (by decide) (hts (.fieldLink RX5 184 "BarredRungs$History" "size" "I") (List.mem_of_getElem? (i := 4) rfl)) (fun _ h9 => h9) rfl dX5_undo_35 ?_
    cases some_i h
    exact hend _ _ _ _ _ hP hD hS (RetOK.i dX5_undo_38)
  · have h := if_t c1 h
    cases h
def fX5_why (tx : Tx) (is : Is) (wa : Wa) (st : St) (hi : Hi) (p1 : Int32) (p2 : Int32) : Option (Nat ⊕ (Int32)) :=
(bd (fX5_isClimber p1) fun (r1 : Int32) =>
(if r1 = (0 : Int32) then
(some (.inl 1))
else
(bd (fX2_hasWord st p2) fun (r3 : Int32) =>
(if r3 = (0 : Int32) then
(some (.inl 1))
else
(bd (fX2_hindrance st p1 p2) fun (r5 : Int32) =>
(some (.inr r5)))))))
abbrev rX5_why : Room := { frames := 6, cells := 0, slots := 0, locals := 90 }
theorem hdX5_why : yX5_why.cls = RX5 ∧ yX5_why.cls ≠ "java/lang/invoke/MethodHandle" ∧ yX5_why.cls ≠ "java/lang/invoke/VarHandle" ∧ (parseMethodDescriptor yX5_why.desc).map (fun d => d.parameters.length) = some 2 := by decide +kernel
set_option maxRecDepth 100000 in
set_option maxHeartbeats 8000000 in
theorem kX5_why (l : Launch) (g : GG) (ad : Nat → Nat → Nat) {tx : Tx} {is : Is} {wa : Wa} {st : St} {hi : Hi} {p1 : Int32} {p2 : Int32} {res : Int32} (h : fX5_why tx is wa st hi p1 p2 = some (.inr res)) : Cg l g yX5_why wsX5_why rX5_why [.ref ((ad 0) 0), .int p1, .int p2] (cRt ad ++ (cTx g (ad 1) tx ++ (cIs g (ad 2) is ++ (cWa g (ad 3) wa ++ (cSt g (ad 4) st ++ (cHi g (ad 5) (ad 6) hi)))))) (some (.int res)) (cRt ad ++ (cTx g (ad 1) tx ++ (cIs g (ad 2) is ++ (cWa g (ad 3) wa ++ (cSt g (ad 4) st ++ (cHi g (ad 5) (ad 6) hi)))))) := by
  refine Cg_of (cc := cX5_why) (maxL := 3) (ret := (some .int)) (by decide +kernel) rfl (Nat.le_of_ble_eq_true rfl) ?_
  intro p e su m args below meth c A Q ls hx hb hml hown hts hK hN hA hnm hP hD hS hl hend
  have hinX5 : ∀ w ∈ u_ws RX5 TX5 5, w ∈ wsX5_why := fun _ h9 => List.mem_cons_of_mem _ (List.mem_append_left _ (List.mem_append_left _ (List.mem_append_right _ h9)))
  have hinX2 : ∀ w ∈ u_ws RX2 TX2 17, w ∈ wsX5_why := fun _ h9 => List.mem_cons_of_mem _ (List.mem_append_left _ (List.mem_append_right _ h9))
  unfold fX5_why at h
  have hl : lv_has ls 3 [(0, .ref ((ad 0) 0)), (1, .int p1), (2, .int p2)] := hl
  refine lv_iload_n hx hb dX5_why_0 rfl (lv_at hl 1 rfl) ?_
  obtain ⟨r1, kr1, h⟩ := bd_ex h
  refine aft_e (st1 := [.int r1]) rfl (runS (As := [.int p1]) (rest := []) ⟨hx, hb, hml, hown, hts⟩ (kX5_isClimber l g kr1) (va_cwS 1 hts gX5_why_X5_isClimber rfl rfl rfl hdX5_isClimber.2 ⟨Nat.le_of_ble_eq_true rfl, Nat.le_of_ble_eq_true rfl⟩) hK hN nilP (nilD (A := A)) rfl hl.1 rfl (Nat.le_of_ble_eq_true rfl) dX5_why_1 ⟨Nat.zero_le _, Nat.zero_le _⟩) hP hS hA (fun H locs hP hS => ?_)
  refine lv_if_eq (tgt := 18) hx hb dX5_why_4 (by decide) (fun c2 => ?_) (fun c2 => ?_)
  · have h := if_t c2 h
    cases h
  · have h := if_f c2 h
    refine lv_aload_n hx hb dX5_why_7 rfl (lv_at hl 0 rfl) ?_
    refine va_get (D := g.1) (ci := 5) (v := .ref ((ad 4) 0)) (C := RX5) (T := TX5) (N := 5) hx hb hts hinX5 hown hK hP 0 rfl rfl 0 (by decide) (hts (.fieldLink RX5 12 "BarredRungs" "now" "LBarredRungs$State;") (List.mem_of_getElem? (i := 3) rfl)) (fun _ h9 => h9) rfl dX5_why_8 ?_
    refine lv_iload_n hx hb dX5_why_11 rfl (lv_at hl 2 rfl) ?_
    obtain ⟨r3, kr3, h⟩ := bd_ex h
    have hP8 : va_P g.1 vwCl ((cRt ad ++ (cTx g (ad 1) tx ++ (cIs g (ad 2) is ++ (cWa g (ad 3) wa)))) ++ ((cSt g (ad 4) st) ++ (cHi g (ad 5) (ad 6) hi))) _ := hP
    have hD8 : va_D A ((cRt ad ++ (cTx g (ad 1) tx ++ (cIs g (ad 2) is ++ (cWa g (ad 3) wa)))) ++ ((cSt g (ad 4) st) ++ (cHi g (ad 5) (ad 6) hi))) := hD
    refine aft_f (st1 := [.int r3]) rfl (cRt ad ++ (cTx g (ad 1) tx ++ (cIs g (ad 2) is ++ (cWa g (ad 3) wa)))) (cHi g (ad 5) (ad 6) hi) (runV (As := [.int p2]) (rest := []) ⟨hx, hb, hml, hown, hts⟩ (kX2_hasWord l g (ad 4) kr3) (cwV 1 hts gX5_why_X2_hasWord rfl rfl rfl hdX2_hasWord ⟨Nat.le_of_ble_eq_true rfl, Nat.le_of_ble_eq_true rfl⟩) hK hN hP8.right.left hD8.right.left (va_recv hK hP (ci := 2) (q0 := 10) rfl rfl) rfl hl.1 rfl (Nat.le_of_ble_eq_true rfl) dX5_why_12 ⟨Nat.zero_le _, Nat.zero_le _⟩) hP8 hD8 hS hA (fun H locs hP hD hS => ?_)
    have hP : va_P g.1 vwCl (cRt ad ++ (cTx g (ad 1) tx ++ (cIs g (ad 2) is ++ (cWa g (ad 3) wa ++ (cSt g (ad 4) st ++ (cHi g (ad 5) (ad 6) hi)))))) H := hP
    have hD : va_D A (cRt ad ++ (cTx g (ad 1) tx ++ (cIs g (ad 2) is ++ (cWa g (ad 3) wa ++ (cSt g (ad 4) st ++ (cHi g (ad 5) (ad 6) hi)))))) := hD
    refine lv_if_ne (tgt := 28) hx hb dX5_why_15 (by decide) (fun c4 => ?_) (fun c4 => ?_)
    · have h := if_f c4 h
      refine lv_aload_n hx hb dX5_why_28 rfl (lv_at hl 0 rfl) ?_
      refine va_get (D := g.1) (ci := 5) (v := .ref ((ad 4) 0)) (C := RX5) (T := TX5) (N := 5) hx hb hts hinX5 hown hK hP 0 rfl rfl 0 (by decide) (hts (.fieldLink RX5 12 "BarredRungs" "now" "LBarredRungs$State;") (List.mem_of_getElem? (i := 3) rfl)) (fun _ h9 => h9) rfl dX5_why_29 ?_
      refine lv_iload_n hx hb dX5_why_32 rfl (lv_at hl 1 rfl) ?_
      refine lv_iload_n hx hb dX5_why_33 rfl (lv_at hl 2 rfl) ?_
      obtain ⟨r5, kr5, h⟩ := bd_ex h
      have hP8 : va_P g.1 vwCl ((cRt ad ++ (cTx g (ad 1) tx ++ (cIs g (ad 2) is ++ (cWa g (ad 3) wa)))) ++ ((cSt g (ad 4) st) ++ (cHi g (ad 5) (ad 6) hi))) _ := hP
      have hD8 : va_D A ((cRt ad ++ (cTx g (ad 1) tx ++ (cIs g (ad 2) is ++ (cWa g (ad 3) wa)))) ++ ((cSt g (ad 4) st) ++ (cHi g (ad 5) (ad 6) hi))) := hD
      refine aft_f (st1 := [.int r5]) rfl (cRt ad ++ (cTx g (ad 1) tx ++ (cIs g (ad 2) is ++ (cWa g (ad 3) wa)))) (cHi g (ad 5) (ad 6) hi) (runV (As := [.int p1, .int p2]) (rest := []) ⟨hx, hb, hml, hown, hts⟩ (kX2_hindrance l g (ad 4) kr5) (cwV 2 hts gX5_why_X2_hindrance rfl rfl rfl hdX2_hindrance ⟨Nat.le_of_ble_eq_true rfl, Nat.le_of_ble_eq_true rfl⟩) hK hN hP8.right.left hD8.right.left (va_recv hK hP (ci := 2) (q0 := 10) rfl rfl) rfl hl.1 rfl (Nat.le_of_ble_eq_true rfl) dX5_why_34 ⟨Nat.zero_le _, Nat.zero_le _⟩) hP8 hD8 hS hA (fun H locs hP hD hS => ?_)
      have hP : va_P g.1 vwCl (cRt ad ++ (cTx g (ad 1) tx ++ (cIs g (ad 2) is ++ (cWa g (ad 3) wa ++ (cSt g (ad 4) st ++ (cHi g (ad 5) (ad 6) hi)))))) H := hP
      have hD : va_D A (cRt ad ++ (cTx g (ad 1) tx ++ (cIs g (ad 2) is ++ (cWa g (ad 3) wa ++ (cSt g (ad 4) st ++ (cHi g (ad 5) (ad 6) hi)))))) := hD
      cases some_i h
      exact hend _ _ _ _ _ hP hD hS (RetOK.i dX5_why_37)
    · have h := if_t c4 h
      cases h
def fX5_wordNumber (tx : Tx) (is : Is) (wa : Wa) (st : St) (hi : Hi) (p1 : Int32) (p2 : Int32) : Option (Int32) :=
(if p2 = (4 : Int32) then
(bd (fX2_isBarredAfter st p1 (0 : Int32)) fun (r2 : Int32) =>
(if r2 = (0 : Int32) then
(some (0 : Int32))
else
(some (1 : Int32))))
else
(if p2 = (5 : Int32) then
(bd (fX2_linksOf st p1) fun (r5 : Int32) =>
(bd (fJ6_bitCount_0f7a4 r5) fun (r6 : Int32) =>
(some r6)))
else
(if p2 = (6 : Int32) then
(bd (fX2_climberOn st p1) fun (r8 : Int32) =>
(some r8))
else
(if p2 = (7 : Int32) then
(bd (fX1_around is st p1) fun (r10 : Int32) =>
(bd (fX5_lowest r10) fun (r11 : Int32) =>
(some r11)))
else
(if p2 = (8 : Int32) then
(bd (fX1_around is st p1) fun (r13 : Int32) =>
(bd (fJ6_bitCount_0f7a4 r13) fun (r14 : Int32) =>
(some r14)))
else
(if p2 = (9 : Int32) then
(bd (fX2_turnsUntilBarred st p1) fun (r16 : Int32) =>
(some r16))
else
(bd (fX2_letterAt st p1 p2) fun (r17 : Int32) =>
(some r17))))))))
abbrev rX5_wordNumber : Room := { frames := 4, cells := 0, slots := 0, locals := 88 }
theorem hdX5_wordNumber : yX5_wordNumber.cls = RX5 ∧ yX5_wordNumber.cls ≠ "java/lang/invoke/MethodHandle" ∧ yX5_wordNumber.cls ≠ "java/lang/invoke/VarHandle" ∧ (parseMethodDescriptor yX5_wordNumber.desc).map (fun d => d.parameters.length) = some 2 := by decide +kernel
set_option maxRecDepth 100000 in
set_option maxHeartbeats 8000000 in
theorem kX5_wordNumber (l : Launch) (g : GG) (ad : Nat → Nat → Nat) {tx : Tx} {is : Is} {wa : Wa} {st : St} {hi : Hi} {p1 : Int32} {p2 : Int32} {res : Int32} (h : fX5_wordNumber tx is wa st hi p1 p2 = some res) : Cg l g yX5_wordNumber wsX5_wordNumber rX5_wordNumber [.ref ((ad 0) 0), .int p1, .int p2] (cRt ad ++ (cTx g (ad 1) tx ++ (cIs g (ad 2) is ++ (cWa g (ad 3) wa ++ (cSt g (ad 4) st ++ (cHi g (ad 5) (ad 6) hi)))))) (some (.int res)) (cRt ad ++ (cTx g (ad 1) tx ++ (cIs g (ad 2) is ++ (cWa g (ad 3) wa ++ (cSt g (ad 4) st ++ (cHi g (ad 5) (ad 6) hi)))))) := by
  refine Cg_of (cc := cX5_wordNumber) (maxL := 3) (ret := (some .int)) (by decide +kernel) rfl (Nat.le_of_ble_eq_true rfl) ?_
  intro p e su m args below meth c A Q ls hx hb hml hown hts hK hN hA hnm hP hD hS hl hend
  have hinX5 : ∀ w ∈ u_ws RX5 TX5 5, w ∈ wsX5_wordNumber := fun _ h9 => List.mem_cons_of_mem _ (List.mem_append_left _ (List.mem_append_right _ h9))
  have hinX2 : ∀ w ∈ u_ws RX2 TX2 17, w ∈ wsX5_wordNumber := fun _ h9 => List.mem_cons_of_mem _ (List.mem_append_right _ h9)
  unfold fX5_wordNumber at h
  have hl : lv_has ls 3 [(0, .ref ((ad 0) 0)), (1, .int p1), (2, .int p2)] := hl
  refine lv_iload_n hx hb dX5_wordNumber_0 rfl (lv_at hl 2 rfl) ?_
  by_cases c1 : p2 = (4 : Int32)
  · have h := if_t c1 h
    refine lv_tableIn (x := p2) (off := 39) (tgt := 40) hx hb dX5_wordNumber_1 (by rw [c1]; decide) (by rw [c1]; decide) (by rw [c1]; decide) (by decide) ?_
    refine lv_aload_n hx hb dX5_wordNumber_40 rfl (lv_at hl 0 rfl) ?_
    refine va_get (D := g.1) (ci := 5) (v := .ref ((ad 4) 0)) (C := RX5) (T := TX5) (N := 5) hx hb hts hinX5 hown hK hP 0 rfl rfl 0 (by decide) (hts (.fieldLink RX5 12 "BarredRungs" "now" "LBarredRungs$State;") (List.mem_of_getElem? (i := 1) rfl)) (fun _ h9 => h9) rfl dX5_wordNumber_41 ?_
    refine lv_iload_n hx hb dX5_wordNumber_44 rfl (lv_at hl 1 rfl) ?_
    refine lv_iconst (v := 0) hx hb dX5_wordNumber_45 (by decide) ?_
    obtain ⟨r2, kr2, h⟩ := bd_ex h
    have hP8 : va_P g.1 vwCl ((cRt ad ++ (cTx g (ad 1) tx ++ (cIs g (ad 2) is ++ (cWa g (ad 3) wa)))) ++ ((cSt g (ad 4) st) ++ (cHi g (ad 5) (ad 6) hi))) _ := hP
    have hD8 : va_D A ((cRt ad ++ (cTx g (ad 1) tx ++ (cIs g (ad 2) is ++ (cWa g (ad 3) wa)))) ++ ((cSt g (ad 4) st) ++ (cHi g (ad 5) (ad 6) hi))) := hD
    refine aft_f (st1 := [.int r2]) rfl (cRt ad ++ (cTx g (ad 1) tx ++ (cIs g (ad 2) is ++ (cWa g (ad 3) wa)))) (cHi g (ad 5) (ad 6) hi) (runV (As := [.int p1, .int (0 : Int32)]) (rest := []) ⟨hx, hb, hml, hown, hts⟩ (kX2_isBarredAfter l g (ad 4) kr2) (cwV 2 hts gX5_wordNumber_X2_isBarredAfter rfl rfl rfl hdX2_isBarredAfter ⟨Nat.le_of_ble_eq_true rfl, Nat.le_of_ble_eq_true rfl⟩) hK hN hP8.right.left hD8.right.left (va_recv hK hP (ci := 2) (q0 := 10) rfl rfl) rfl hl.1 rfl (Nat.le_of_ble_eq_true rfl) dX5_wordNumber_46 ⟨Nat.zero_le _, Nat.zero_le _⟩) hP8 hD8 hS hA (fun H locs hP hD hS => ?_)
    have hP : va_P g.1 vwCl (cRt ad ++ (cTx g (ad 1) tx ++ (cIs g (ad 2) is ++ (cWa g (ad 3) wa ++ (cSt g (ad 4) st ++ (cHi g (ad 5) (ad 6) hi)))))) H := hP
    have hD : va_D A (cRt ad ++ (cTx g (ad 1) tx ++ (cIs g (ad 2) is ++ (cWa g (ad 3) wa ++ (cSt g (ad 4) st ++ (cHi g (ad 5) (ad 6) hi)))))) := hD
    refine lv_if_eq (tgt := 56) hx hb dX5_wordNumber_49 (by decide) (fun c3 => ?_) (fun c3 => ?_)
    · have h := if_t c3 h
      refine lv_iconst (v := 0) hx hb dX5_wordNumber_56 (by decide) ?_
      cases some_i h
      exact hend _ _ _ _ _ hP hD hS (RetOK.i dX5_wordNumber_57)
    · have h := if_f c3 h
      refine lv_iconst (v := 1) hx hb dX5_wordNumber_52 (by decide) ?_
      refine lv_goto (tgt := 57) hx hb dX5_wordNumber_53 (by decide) ?_
      cases some_i h
      exact hend _ _ _ _ _ hP hD hS (RetOK.i dX5_wordNumber_57)
  have h := if_f c1 h
  by_cases c4 : p2 = (5 : Int32)
  · have h := if_t c4 h
    refine lv_tableIn (x := p2) (off := 57) (tgt := 58) hx hb dX5_wordNumber_1 (by rw [c4]; decide) (by rw [c4]; decide) (by rw [c4]; decide) (by decide) ?_
    refine lv_aload_n hx hb dX5_wordNumber_58 rfl (lv_at hl 0 rfl) ?_
    refine va_get (D := g.1) (ci := 5) (v := .ref ((ad 4) 0)) (C := RX5) (T := TX5) (N := 5) hx hb hts hinX5 hown hK hP 0 rfl rfl 0 (by decide) (hts (.fieldLink RX5 12 "BarredRungs" "now" "LBarredRungs$State;") (List.mem_of_getElem? (i := 1) rfl)) (fun _ h9 => h9) rfl dX5_wordNumber_59 ?_
    refine lv_iload_n hx hb dX5_wordNumber_62 rfl (lv_at hl 1 rfl) ?_
    obtain ⟨r5, kr5, h⟩ := bd_ex h
    have hP8 : va_P g.1 vwCl ((cRt ad ++ (cTx g (ad 1) tx ++ (cIs g (ad 2) is ++ (cWa g (ad 3) wa)))) ++ ((cSt g (ad 4) st) ++ (cHi g (ad 5) (ad 6) hi))) _ := hP
    have hD8 : va_D A ((cRt ad ++ (cTx g (ad 1) tx ++ (cIs g (ad 2) is ++ (cWa g (ad 3) wa)))) ++ ((cSt g (ad 4) st) ++ (cHi g (ad 5) (ad 6) hi))) := hD
    refine aft_f (st1 := [.int r5]) rfl (cRt ad ++ (cTx g (ad 1) tx ++ (cIs g (ad 2) is ++ (cWa g (ad 3) wa)))) (cHi g (ad 5) (ad 6) hi) (runV (As := [.int p1]) (rest := []) ⟨hx, hb, hml, hown, hts⟩ (kX2_linksOf l g (ad 4) kr5) (cwV 1 hts gX5_wordNumber_X2_linksOf rfl rfl rfl hdX2_linksOf ⟨Nat.le_of_ble_eq_true rfl, Nat.le_of_ble_eq_true rfl⟩) hK hN hP8.right.left hD8.right.left (va_recv hK hP (ci := 2) (q0 := 10) rfl rfl) rfl hl.1 rfl (Nat.le_of_ble_eq_true rfl) dX5_wordNumber_63 ⟨Nat.zero_le _, Nat.zero_le _⟩) hP8 hD8 hS hA (fun H locs hP hD hS => ?_)
    have hP : va_P g.1 vwCl (cRt ad ++ (cTx g (ad 1) tx ++ (cIs g (ad 2) is ++ (cWa g (ad 3) wa ++ (cSt g (ad 4) st ++ (cHi g (ad 5) (ad 6) hi)))))) H := hP
    have hD : va_D A (cRt ad ++ (cTx g (ad 1) tx ++ (cIs g (ad 2) is ++ (cWa g (ad 3) wa ++ (cSt g (ad 4) st ++ (cHi g (ad 5) (ad 6) hi)))))) := hD
    obtain ⟨r6, kr6, h⟩ := bd_ex h
    refine aft_e (st1 := [.int r6]) rfl (runS (As := [.int r5]) (rest := []) ⟨hx, hb, hml, hown, hts⟩ (kJ6_bitCount_0f7a4 l g kr6) (va_cwS 1 hts gX5_wordNumber_J6_bitCount_0f7a4 rfl rfl rfl hdJ6_bitCount_0f7a4.2 ⟨Nat.le_of_ble_eq_true rfl, Nat.le_of_ble_eq_true rfl⟩) hK hN nilP (nilD (A := A)) rfl hl.1 rfl (Nat.le_of_ble_eq_true rfl) dX5_wordNumber_66 ⟨Nat.zero_le _, Nat.zero_le _⟩) hP hS hA (fun H locs hP hS => ?_)
    cases some_i h
    exact hend _ _ _ _ _ hP hD hS (RetOK.i dX5_wordNumber_69)
  have h := if_f c4 h
  by_cases c7 : p2 = (6 : Int32)
  · have h := if_t c7 h
    refine lv_tableIn (x := p2) (off := 69) (tgt := 70) hx hb dX5_wordNumber_1 (by rw [c7]; decide) (by rw [c7]; decide) (by rw [c7]; decide) (by decide) ?_
    refine lv_aload_n hx hb dX5_wordNumber_70 rfl (lv_at hl 0 rfl) ?_
    refine va_get (D := g.1) (ci := 5) (v := .ref ((ad 4) 0)) (C := RX5) (T := TX5) (N := 5) hx hb hts hinX5 hown hK hP 0 rfl rfl 0 (by decide) (hts (.fieldLink RX5 12 "BarredRungs" "now" "LBarredRungs$State;") (List.mem_of_getElem? (i := 1) rfl)) (fun _ h9 => h9) rfl dX5_wordNumber_71 ?_
    refine lv_iload_n hx hb dX5_wordNumber_74 rfl (lv_at hl 1 rfl) ?_
    obtain ⟨r8, kr8, h⟩ := bd_ex h
    have hP8 : va_P g.1 vwCl ((cRt ad ++ (cTx g (ad 1) tx ++ (cIs g (ad 2) is ++ (cWa g (ad 3) wa)))) ++ ((cSt g (ad 4) st) ++ (cHi g (ad 5) (ad 6) hi))) _ := hP
    have hD8 : va_D A ((cRt ad ++ (cTx g (ad 1) tx ++ (cIs g (ad 2) is ++ (cWa g (ad 3) wa)))) ++ ((cSt g (ad 4) st) ++ (cHi g (ad 5) (ad 6) hi))) := hD
    refine aft_f (st1 := [.int r8]) rfl (cRt ad ++ (cTx g (ad 1) tx ++ (cIs g (ad 2) is ++ (cWa g (ad 3) wa)))) (cHi g (ad 5) (ad 6) hi) (runV (As := [.int p1]) (rest := []) ⟨hx, hb, hml, hown, hts⟩ (kX2_climberOn l g (ad 4) kr8) (cwV 1 hts gX5_wordNumber_X2_climberOn rfl rfl rfl hdX2_climberOn ⟨Nat.le_of_ble_eq_true rfl, Nat.le_of_ble_eq_true rfl⟩) hK hN hP8.right.left hD8.right.left (va_recv hK hP (ci := 2) (q0 := 10) rfl rfl) rfl hl.1 rfl (Nat.le_of_ble_eq_true rfl) dX5_wordNumber_75 ⟨Nat.zero_le _, Nat.zero_le _⟩) hP8 hD8 hS hA (fun H locs hP hD hS => ?_)
    have hP : va_P g.1 vwCl (cRt ad ++ (cTx g (ad 1) tx ++ (cIs g (ad 2) is ++ (cWa g (ad 3) wa ++ (cSt g (ad 4) st ++ (cHi g (ad 5) (ad 6) hi)))))) H := hP
    have hD : va_D A (cRt ad ++ (cTx g (ad 1) tx ++ (cIs g (ad 2) is ++ (cWa g (ad 3) wa ++ (cSt g (ad 4) st ++ (cHi g (ad 5) (ad 6) hi)))))) := hD
    cases some_i h
    exact hend _ _ _ _ _ hP hD hS (RetOK.i dX5_wordNumber_78)
  have h := if_f c7 h
  by_cases c9 : p2 = (7 : Int32)
  · have h := if_t c9 h
    refine lv_tableIn (x := p2) (off := 78) (tgt := 79) hx hb dX5_wordNumber_1 (by rw [c9]; decide) (by rw [c9]; decide) (by rw [c9]; decide) (by decide) ?_
    refine lv_aload_n hx hb dX5_wordNumber_79 rfl (lv_at hl 0 rfl) ?_
    refine va_get (D := g.1) (ci := 5) (v := .ref ((ad 2) 0)) (C := RX5) (T := TX5) (N := 5) hx hb hts hinX5 hown hK hP 0 rfl rfl 4 (by decide) (hts (.fieldLink RX5 40 "BarredRungs" "islands" "LBarredRungs$Islands;") (List.mem_of_getElem? (i := 2) rfl)) (fun _ h9 => h9) rfl dX5_wordNumber_80 ?_
    refine lv_aload_n hx hb dX5_wordNumber_83 rfl (lv_at hl 0 rfl) ?_
    refine va_get (D := g.1) (ci := 5) (v := .ref ((ad 4) 0)) (C := RX5) (T := TX5) (N := 5) hx hb hts hinX5 hown hK hP 0 rfl rfl 0 (by decide) (hts (.fieldLink RX5 12 "BarredRungs" "now" "LBarredRungs$State;") (List.mem_of_getElem? (i := 1) rfl)) (fun _ h9 => h9) rfl dX5_wordNumber_84 ?_
    refine lv_iload_n hx hb dX5_wordNumber_87 rfl (lv_at hl 1 rfl) ?_
    obtain ⟨r10, kr10, h⟩ := bd_ex h
    have hP8 : va_P g.1 vwCl ((cRt ad ++ (cTx g (ad 1) tx)) ++ ((cIs g (ad 2) is) ++ ((cWa g (ad 3) wa) ++ ((cSt g (ad 4) st) ++ (cHi g (ad 5) (ad 6) hi))))) _ := hP
    have hD8 : va_D A ((cRt ad ++ (cTx g (ad 1) tx)) ++ ((cIs g (ad 2) is) ++ ((cWa g (ad 3) wa) ++ ((cSt g (ad 4) st) ++ (cHi g (ad 5) (ad 6) hi))))) := hD
    refine aft_2 (st1 := [.int r10]) rfl (cRt ad ++ (cTx g (ad 1) tx)) (cWa g (ad 3) wa) (cHi g (ad 5) (ad 6) hi) (runV (As := [.ref ((ad 4) 0), .int p1]) (rest := []) ⟨hx, hb, hml, hown, hts⟩ (kX1_around l g (ad 2) (ad 4) kr10) (cwV 2 hts gX5_wordNumber_X1_around rfl rfl rfl hdX1_around ⟨Nat.le_of_ble_eq_true rfl, Nat.le_of_ble_eq_true rfl⟩) hK hN (va_P.app hP8.right.left hP8.right.right.right.left) (va_D.two hD8) (va_recv hK hP (ci := 1) (q0 := 3) rfl rfl) rfl hl.1 rfl (Nat.le_of_ble_eq_true rfl) dX5_wordNumber_88 ⟨Nat.zero_le _, Nat.zero_le _⟩) hP8 hD8 hS hA (fun H locs hP hD hS => ?_)
    have hP : va_P g.1 vwCl (cRt ad ++ (cTx g (ad 1) tx ++ (cIs g (ad 2) is ++ (cWa g (ad 3) wa ++ (cSt g (ad 4) st ++ (cHi g (ad 5) (ad 6) hi)))))) H := hP
    have hD : va_D A (cRt ad ++ (cTx g (ad 1) tx ++ (cIs g (ad 2) is ++ (cWa g (ad 3) wa ++ (cSt g (ad 4) st ++ (cHi g (ad 5) (ad 6) hi)))))) := hD
    obtain ⟨r11, kr11, h⟩ := bd_ex h
    refine aft_e (st1 := [.int r11]) rfl (runS (As := [.int r10]) (rest := []) ⟨hx, hb, hml, hown, hts⟩ (kX5_lowest l g kr11) (va_cwS 1 hts gX5_wordNumber_X5_lowest rfl rfl rfl hdX5_lowest.2 ⟨Nat.le_of_ble_eq_true rfl, Nat.le_of_ble_eq_true rfl⟩) hK hN nilP (nilD (A := A)) rfl hl.1 rfl (Nat.le_of_ble_eq_true rfl) dX5_wordNumber_91 ⟨Nat.zero_le _, Nat.zero_le _⟩) hP hS hA (fun H locs hP hS => ?_)
    cases some_i h
    exact hend _ _ _ _ _ hP hD hS (RetOK.i dX5_wordNumber_94)
  have h := if_f c9 h
  by_cases c12 : p2 = (8 : Int32)
  · have h := if_t c12 h
    refine lv_tableIn (x := p2) (off := 94) (tgt := 95) hx hb dX5_wordNumber_1 (by rw [c12]; decide) (by rw [c12]; decide) (by rw [c12]; decide) (by decide) ?_
    refine lv_aload_n hx hb dX5_wordNumber_95 rfl (lv_at hl 0 rfl) ?_
    refine va_get (D := g.1) (ci := 5) (v := .ref ((ad 2) 0)) (C := RX5) (T := TX5) (N := 5) hx hb hts hinX5 hown hK hP 0 rfl rfl 4 (by decide) (hts (.fieldLink RX5 40 "BarredRungs" "islands" "LBarredRungs$Islands;") (List.mem_of_getElem? (i := 2) rfl)) (fun _ h9 => h9) rfl dX5_wordNumber_96 ?_
    refine lv_aload_n hx hb dX5_wordNumber_99 rfl (lv_at hl 0 rfl) ?_
    refine va_get (D := g.1) (ci := 5) (v := .ref ((ad 4) 0)) (C := RX5) (T := TX5) (N := 5) hx hb hts hinX5 hown hK hP 0 rfl rfl 0 (by decide) (hts (.fieldLink RX5 12 "BarredRungs" "now" "LBarredRungs$State;") (List.mem_of_getElem? (i := 1) rfl)) (fun _ h9 => h9) rfl dX5_wordNumber_100 ?_
    refine lv_iload_n hx hb dX5_wordNumber_103 rfl (lv_at hl 1 rfl) ?_
    obtain ⟨r13, kr13, h⟩ := bd_ex h
    have hP8 : va_P g.1 vwCl ((cRt ad ++ (cTx g (ad 1) tx)) ++ ((cIs g (ad 2) is) ++ ((cWa g (ad 3) wa) ++ ((cSt g (ad 4) st) ++ (cHi g (ad 5) (ad 6) hi))))) _ := hP
    have hD8 : va_D A ((cRt ad ++ (cTx g (ad 1) tx)) ++ ((cIs g (ad 2) is) ++ ((cWa g (ad 3) wa) ++ ((cSt g (ad 4) st) ++ (cHi g (ad 5) (ad 6) hi))))) := hD
    refine aft_2 (st1 := [.int r13]) rfl (cRt ad ++ (cTx g (ad 1) tx)) (cWa g (ad 3) wa) (cHi g (ad 5) (ad 6) hi) (runV (As := [.ref ((ad 4) 0), .int p1]) (rest := []) ⟨hx, hb, hml, hown, hts⟩ (kX1_around l g (ad 2) (ad 4) kr13) (cwV 2 hts gX5_wordNumber_X1_around rfl rfl rfl hdX1_around ⟨Nat.le_of_ble_eq_true rfl, Nat.le_of_ble_eq_true rfl⟩) hK hN (va_P.app hP8.right.left hP8.right.right.right.left) (va_D.two hD8) (va_recv hK hP (ci := 1) (q0 := 3) rfl rfl) rfl hl.1 rfl (Nat.le_of_ble_eq_true rfl) dX5_wordNumber_104 ⟨Nat.zero_le _, Nat.zero_le _⟩) hP8 hD8 hS hA (fun H locs hP hD hS => ?_)
    have hP : va_P g.1 vwCl (cRt ad ++ (cTx g (ad 1) tx ++ (cIs g (ad 2) is ++ (cWa g (ad 3) wa ++ (cSt g (ad 4) st ++ (cHi g (ad 5) (ad 6) hi)))))) H := hP
    have hD : va_D A (cRt ad ++ (cTx g (ad 1) tx ++ (cIs g (ad 2) is ++ (cWa g (ad 3) wa ++ (cSt g (ad 4) st ++ (cHi g (ad 5) (ad 6) hi)))))) := hD
    obtain ⟨r14, kr14, h⟩ := bd_ex h
    refine aft_e (st1 := [.int r14]) rfl (runS (As := [.int r13]) (rest := []) ⟨hx, hb, hml, hown, hts⟩ (kJ6_bitCount_0f7a4 l g kr14) (va_cwS 1 hts gX5_wordNumber_J6_bitCount_0f7a4 rfl rfl rfl hdJ6_bitCount_0f7a4.2 ⟨Nat.le_of_ble_eq_true rfl, Nat.le_of_ble_eq_true rfl⟩) hK hN nilP (nilD (A := A)) rfl hl.1 rfl (Nat.le_of_ble_eq_true rfl) dX5_wordNumber_107 ⟨Nat.zero_le _, Nat.zero_le _⟩) hP hS hA (fun H locs hP hS => ?_)
    cases some_i h
    exact hend _ _ _ _ _ hP hD hS (RetOK.i dX5_wordNumber_110)
  have h := if_f c12 h
  by_cases c15 : p2 = (9 : Int32)
  · have h := if_t c15 h
    refine lv_tableIn (x := p2) (off := 110) (tgt := 111) hx hb dX5_wordNumber_1 (by rw [c15]; decide) (by rw [c15]; decide) (by rw [c15]; decide) (by decide) ?_
    refine lv_aload_n hx hb dX5_wordNumber_111 rfl (lv_at hl 0 rfl) ?_
    refine va_get (D := g.1) (ci := 5) (v := .ref ((ad 4) 0)) (C := RX5) (T := TX5) (N := 5) hx hb hts hinX5 hown hK hP 0 rfl rfl 0 (by decide) (hts (.fieldLink RX5 12 "BarredRungs" "now" "LBarredRungs$State;") (List.mem_of_getElem? (i := 1) rfl)) (fun _ h9 => h9) rfl dX5_wordNumber_112 ?_
    refine lv_iload_n hx hb dX5_wordNumber_115 rfl (lv_at hl 1 rfl) ?_
    obtain ⟨r16, kr16, h⟩ := bd_ex h
    have hP8 : va_P g.1 vwCl ((cRt ad ++ (cTx g (ad 1) tx ++ (cIs g (ad 2) is ++ (cWa g (ad 3) wa)))) ++ ((cSt g (ad 4) st) ++ (cHi g (ad 5) (ad 6) hi))) _ := hP
    have hD8 : va_D A ((cRt ad ++ (cTx g (ad 1) tx ++ (cIs g (ad 2) is ++ (cWa g (ad 3) wa)))) ++ ((cSt g (ad 4) st) ++ (cHi g (ad 5) (ad 6) hi))) := hD
    refine aft_f (st1 := [.int r16]) rfl (cRt ad ++ (cTx g (ad 1) tx ++ (cIs g (ad 2) is ++ (cWa g (ad 3) wa)))) (cHi g (ad 5) (ad 6) hi) (runV (As := [.int p1]) (rest := []) ⟨hx, hb, hml, hown, hts⟩ (kX2_turnsUntilBarred l g (ad 4) kr16) (cwV 1 hts gX5_wordNumber_X2_turnsUntilBarred rfl rfl rfl hdX2_turnsUntilBarred ⟨Nat.le_of_ble_eq_true rfl, Nat.le_of_ble_eq_true rfl⟩) hK hN hP8.right.left hD8.right.left (va_recv hK hP (ci := 2) (q0 := 10) rfl rfl) rfl hl.1 rfl (Nat.le_of_ble_eq_true rfl) dX5_wordNumber_116 ⟨Nat.zero_le _, Nat.zero_le _⟩) hP8 hD8 hS hA (fun H locs hP hD hS => ?_)
    have hP : va_P g.1 vwCl (cRt ad ++ (cTx g (ad 1) tx ++ (cIs g (ad 2) is ++ (cWa g (ad 3) wa ++ (cSt g (ad 4) st ++ (cHi g (ad 5) (ad 6) hi)))))) H := hP
    have hD : va_D A (cRt ad ++ (cTx g (ad 1) tx ++ (cIs g (ad 2) is ++ (cWa g (ad 3) wa ++ (cSt g (ad 4) st ++ (cHi g (ad 5) (ad 6) hi)))))) := hD
    cases some_i h
    exact hend _ _ _ _ _ hP hD hS (RetOK.i dX5_wordNumber_119)
  have h := if_f c15 h
  have nc1 : ¬ (p2).toInt = 4 := fun q => c1 (Int32.toInt_inj.mp (by rw [q]; rfl))
  have nc4 : ¬ (p2).toInt = 5 := fun q => c4 (Int32.toInt_inj.mp (by rw [q]; rfl))
  have nc7 : ¬ (p2).toInt = 6 := fun q => c7 (Int32.toInt_inj.mp (by rw [q]; rfl))
  have nc9 : ¬ (p2).toInt = 7 := fun q => c9 (Int32.toInt_inj.mp (by rw [q]; rfl))
  have nc12 : ¬ (p2).toInt = 8 := fun q => c12 (Int32.toInt_inj.mp (by rw [q]; rfl))
  have nc15 : ¬ (p2).toInt = 9 := fun q => c15 (Int32.toInt_inj.mp (by rw [q]; rfl))
  refine lv_tableOut (x := p2) (tgt := 120) hx hb dX5_wordNumber_1 (by omega) (by decide) ?_
  refine lv_aload_n hx hb dX5_wordNumber_120 rfl (lv_at hl 0 rfl) ?_
  refine va_get (D := g.1) (ci := 5) (v := .ref ((ad 4) 0)) (C := RX5) (T := TX5) (N := 5) hx hb hts hinX5 hown hK hP 0 rfl rfl 0 (by decide) (hts (.fieldLink RX5 12 "BarredRungs" "now" "LBarredRungs$State;") (List.mem_of_getElem? (i := 1) rfl)) (fun _ h9 => h9) rfl dX5_wordNumber_121 ?_
  refine lv_iload_n hx hb dX5_wordNumber_124 rfl (lv_at hl 1 rfl) ?_
  refine lv_iload_n hx hb dX5_wordNumber_125 rfl (lv_at hl 2 rfl) ?_
  obtain ⟨r17, kr17, h⟩ := bd_ex h
  have hP8 : va_P g.1 vwCl ((cRt ad ++ (cTx g (ad 1) tx ++ (cIs g (ad 2) is ++ (cWa g (ad 3) wa)))) ++ ((cSt g (ad 4) st) ++ (cHi g (ad 5) (ad 6) hi))) _ := hP
  have hD8 : va_D A ((cRt ad ++ (cTx g (ad 1) tx ++ (cIs g (ad 2) is ++ (cWa g (ad 3) wa)))) ++ ((cSt g (ad 4) st) ++ (cHi g (ad 5) (ad 6) hi))) := hD
  refine aft_f (st1 := [.int r17]) rfl (cRt ad ++ (cTx g (ad 1) tx ++ (cIs g (ad 2) is ++ (cWa g (ad 3) wa)))) (cHi g (ad 5) (ad 6) hi) (runV (As := [.int p1, .int p2]) (rest := []) ⟨hx, hb, hml, hown, hts⟩ (kX2_letterAt l g (ad 4) kr17) (cwV 2 hts gX5_wordNumber_X2_letterAt rfl rfl rfl hdX2_letterAt ⟨Nat.le_of_ble_eq_true rfl, Nat.le_of_ble_eq_true rfl⟩) hK hN hP8.right.left hD8.right.left (va_recv hK hP (ci := 2) (q0 := 10) rfl rfl) rfl hl.1 rfl (Nat.le_of_ble_eq_true rfl) dX5_wordNumber_126 ⟨Nat.zero_le _, Nat.zero_le _⟩) hP8 hD8 hS hA (fun H locs hP hD hS => ?_)
  have hP : va_P g.1 vwCl (cRt ad ++ (cTx g (ad 1) tx ++ (cIs g (ad 2) is ++ (cWa g (ad 3) wa ++ (cSt g (ad 4) st ++ (cHi g (ad 5) (ad 6) hi)))))) H := hP
  have hD : va_D A (cRt ad ++ (cTx g (ad 1) tx ++ (cIs g (ad 2) is ++ (cWa g (ad 3) wa ++ (cSt g (ad 4) st ++ (cHi g (ad 5) (ad 6) hi)))))) := hD
  cases some_i h
  exact hend _ _ _ _ _ hP hD hS (RetOK.i dX5_wordNumber_129)
def fX5_word (tx : Tx) (is : Is) (wa : Wa) (st : St) (hi : Hi) (p1 : Int32) (p2 : Int32) : Option (Nat ⊕ (Int32)) :=
(bd (fX2_hasWord st p1) fun (r1 : Int32) =>
(if r1 = (0 : Int32) then
(some (.inl 1))
else
(if p2 < (0 : Int32) then
(some (.inl 2))
else
(if p2 ≤ (9 : Int32) then
(bd (fX5_wordNumber tx is wa st hi p1 p2) fun (r5 : Int32) =>
(some (.inr r5)))
else
(some (.inl 2))))))
abbrev rX5_word : Room := { frames := 6, cells := 0, slots := 0, locals := 110 }
theorem hdX5_word : yX5_word.cls = RX5 ∧ yX5_word.cls ≠ "java/lang/invoke/MethodHandle" ∧ yX5_word.cls ≠ "java/lang/invoke/VarHandle" ∧ (parseMethodDescriptor yX5_word.desc).map (fun d => d.parameters.length) = some 2 := by decide +kernel
set_option maxRecDepth 100000 in
set_option maxHeartbeats 8000000 in
theorem kX5_word (l : Launch) (g : GG) (ad : Nat → Nat → Nat) {tx : Tx} {is : Is} {wa : Wa} {st : St} {hi : Hi} {p1 : Int32} {p2 : Int32} {res : Int32} (h : fX5_word tx is wa st hi p1 p2 = some (.inr res)) : Cg l g yX5_word wsX5_word rX5_word [.ref ((ad 0) 0), .int p1, .int p2] (cRt ad ++ (cTx g (ad 1) tx ++ (cIs g (ad 2) is ++ (cWa g (ad 3) wa ++ (cSt g (ad 4) st ++ (cHi g (ad 5) (ad 6) hi)))))) (some (.int res)) (cRt ad ++ (cTx g (ad 1) tx ++ (cIs g (ad 2) is ++ (cWa g (ad 3) wa ++ (cSt g (ad 4) st ++ (cHi g (ad 5) (ad 6) hi)))))) := by
  refine Cg_of (cc := cX5_word) (maxL := 3) (ret := (some .int)) (by decide +kernel) rfl (Nat.le_of_ble_eq_true rfl) ?_
  intro p e su m args below meth c A Q ls hx hb hml hown hts hK hN hA hnm hP hD hS hl hend
  have hinX5 : ∀ w ∈ u_ws RX5 TX5 5, w ∈ wsX5_word := fun _ h9 => List.mem_cons_of_mem _ (List.mem_append_left _ (List.mem_append_left _ (List.mem_append_left _ (List.mem_append_right _ h9))))
  have hinX2 : ∀ w ∈ u_ws RX2 TX2 17, w ∈ wsX5_word := fun _ h9 => List.mem_cons_of_mem _ (List.mem_append_left _ (List.mem_append_left _ (List.mem_append_right _ h9)))
  unfold fX5_word at h
  have hl : lv_has ls 3 [(0, .ref ((ad 0) 0)), (1, .int p1), (2, .int p2)] := hl
  refine lv_aload_n hx hb dX5_word_0 rfl (lv_at hl 0 rfl) ?_
  refine va_get (D := g.1) (ci := 5) (v := .ref ((ad 4) 0)) (C := RX5) (T := TX5) (N := 5) hx hb hts hinX5 hown hK hP 0 rfl rfl 0 (by decide) (hts (.fieldLink RX5 12 "BarredRungs" "now" "LBarredRungs$State;") (List.mem_of_getElem? (i := 5) rfl)) (fun _ h9 => h9) rfl dX5_word_1 ?_
  refine lv_iload_n hx hb dX5_word_4 rfl (lv_at hl 1 rfl) ?_
  obtain ⟨r1, kr1, h⟩ := bd_ex h
  have hP8 : va_P g.1 vwCl ((cRt ad ++ (cTx g (ad 1) tx ++ (cIs g (ad 2) is ++ (cWa g (ad 3) wa)))) ++ ((cSt g (ad 4) st) ++ (cHi g (ad 5) (ad 6) hi))) _ := hP
  have hD8 : va_D A ((cRt ad ++ (cTx g (ad 1) tx ++ (cIs g (ad 2) is ++ (cWa g (ad 3) wa)))) ++ ((cSt g (ad 4) st) ++ (cHi g (ad 5) (ad 6) hi))) := hD
  refine aft_f (st1 := [.int r1]) rfl (cRt ad ++ (cTx g (ad 1) tx ++ (cIs g (ad 2) is ++ (cWa g (ad 3) wa)))) (cHi g (ad 5) (ad 6) hi) (runV (As := [.int p1]) (rest := []) ⟨hx, hb, hml, hown, hts⟩ (kX2_hasWord l g (ad 4) kr1) (cwV 1 hts gX5_word_X2_hasWord rfl rfl rfl hdX2_hasWord ⟨Nat.le_of_ble_eq_true rfl, Nat.le_of_ble_eq_true rfl⟩) hK hN hP8.right.left hD8.right.left (va_recv hK hP (ci := 2) (q0 := 10) rfl rfl) rfl hl.1 rfl (Nat.le_of_ble_eq_true rfl) dX5_word_5 ⟨Nat.zero_le _, Nat.zero_le _⟩) hP8 hD8 hS hA (fun H locs hP hD hS => ?_)
  have hP : va_P g.1 vwCl (cRt ad ++ (cTx g (ad 1) tx ++ (cIs g (ad 2) is ++ (cWa g (ad 3) wa ++ (cSt g (ad 4) st ++ (cHi g (ad 5) (ad 6) hi)))))) H := hP
  have hD : va_D A (cRt ad ++ (cTx g (ad 1) tx ++ (cIs g (ad 2) is ++ (cWa g (ad 3) wa ++ (cSt g (ad 4) st ++ (cHi g (ad 5) (ad 6) hi)))))) := hD
  refine lv_if_ne (tgt := 21) hx hb dX5_word_8 (by decide) (fun c2 => ?_) (fun c2 => ?_)
  · have h := if_f c2 h
    refine lv_iload_n hx hb dX5_word_21 rfl (lv_at hl 2 rfl) ?_
    refine lv_if_lt (tgt := 31) hx hb dX5_word_22 (by decide) (fun c3 => ?_) (fun c3 => ?_)
    · have h := if_t c3 h
      cases h
    · have h := if_f c3 h
      refine lv_iload_n hx hb dX5_word_25 rfl (lv_at hl 2 rfl) ?_
      refine lv_bipush (v := 9) hx hb dX5_word_26 (by decide) ?_
      refine lv_icmp_le (tgt := 41) hx hb dX5_word_28 (by decide) (fun c4 => ?_) (fun c4 => ?_)
      · have h := if_t c4 h
        refine lv_aload_n hx hb dX5_word_41 rfl (lv_at hl 0 rfl) ?_
        refine lv_iload_n hx hb dX5_word_42 rfl (lv_at hl 1 rfl) ?_
        refine lv_iload_n hx hb dX5_word_43 rfl (lv_at hl 2 rfl) ?_
        obtain ⟨r5, kr5, h⟩ := bd_ex h
        refine aft_w (st1 := [.int r5]) rfl (runV (As := [.int p1, .int p2]) (rest := []) ⟨hx, hb, hml, hown, hts⟩ (kX5_wordNumber l g ad kr5) (cwV 2 hts gX5_word_X5_wordNumber rfl rfl rfl hdX5_wordNumber ⟨Nat.le_of_ble_eq_true rfl, Nat.le_of_ble_eq_true rfl⟩) hK hN hP hD (va_recv hK hP (ci := 5) (q0 := 0) rfl rfl) rfl hl.1 rfl (Nat.le_of_ble_eq_true rfl) dX5_word_44 ⟨Nat.zero_le _, Nat.zero_le _⟩) hD hS hA (fun H locs hP hD hS => ?_)
        cases some_i h
        exact hend _ _ _ _ _ hP hD hS (RetOK.i dX5_word_47)
      · have h := if_f c4 h
        cases h
  · have h := if_t c2 h
    cases h
