section LM
def fL_adds_L37 (is : Is) (wa : Wa) (st : St) (hi : Hi) (r9 : Int32) : Nat → Int32 → Tx → Option (Tx)
  | 0, _, _ => none
  | n + 1, v5_10, tx11 =>
    (if (4 : Int32) ≤ v5_10 then
    (some tx11)
    else
    (bd (fL_letter r9 v5_10) fun (r14 : Int32) =>
    (bd2 (fL_append tx11 is wa st hi ((97 : Int32) + r14)) fun (r15 : Int32) (tx16 : Tx) =>
    (pl ((v5_10 + (1 : Int32))) fun (x17 : Int32) =>
    (fL_adds_L37 is wa st hi r9 n x17 tx16)))))
def fL_adds_L7 (is : Is) (wa : Wa) (st : St) (hi : Hi) (p1 : Int32) (p2 : Int32) : Nat → Int32 → Tx → Option (Tx)
  | 0, _, _ => none
  | n + 1, v3_3, tx4 =>
    (bd (fL_low p2 (5 : Int32)) fun (r6 : Int32) =>
    (if r6 < v3_3 then
    (some tx4)
    else
    (bd (if v3_3 ≤ (0 : Int32) then
    (some tx4)
    else
    (bd2 (fL_append tx4 is wa st hi (44 : Int32)) fun (r21 : Int32) (tx22 : Tx) =>
    (some tx22))) fun (tx8 : Tx) =>
    (bd (fL_wordOf p1 v3_3) fun (r9 : Int32) =>
    (bd (fL_adds_L37 is wa st hi r9 1000 (0 : Int32) tx8) fun (tx18 : Tx) =>
    (pl ((v3_3 + (1 : Int32))) fun (x19 : Int32) =>
    (fL_adds_L7 is wa st hi p1 p2 n x19 tx18)))))))
def fL_adds (tx : Tx) (is : Is) (wa : Wa) (st : St) (hi : Hi) (p1 : Int32) (p2 : Int32) : Option (Int32 × Tx × St × Hi) :=
(bd2 (fX5_clearBuffer tx is wa st hi) fun (r1 : Int32) (tx2 : Tx) =>
(bd (fL_adds_L7 is wa st hi p1 p2 1000 (0 : Int32) tx2) fun (tx23 : Tx) =>
(bd4 (fL_add tx23 is wa st hi) fun (r24 : Int32) (tx25 : Tx) (st26 : St) (hi27 : Hi) =>
(some (r24, tx25, st26, hi27)))))
abbrev rL_adds : Room := { frames := 8, cells := 0, slots := 0, locals := 175 }
theorem hdL_adds : yL_adds.cls ≠ "java/lang/invoke/MethodHandle" ∧ yL_adds.cls ≠ "java/lang/invoke/VarHandle" ∧ (parseMethodDescriptor yL_adds.desc).map (fun d => d.parameters.length) = some 3 := by decide +kernel
set_option maxRecDepth 100000 in
set_option maxHeartbeats 16000000 in
theorem kL_adds (l : Launch) (g : GG) (ad : Nat → Nat → Nat) {tx : Tx} {is : Is} {wa : Wa} {st : St} {hi : Hi} {p1 : Int32} {p2 : Int32} {res : Int32} {tx' : Tx} {st' : St} {hi' : Hi} (h : fL_adds tx is wa st hi p1 p2 = some (res, tx', st', hi')) : Cg l g yL_adds wsL_adds rL_adds [.ref (ad 0 0), .int p1, .int p2] ((wBR g ad tx is wa st hi)) (some (.int res)) ((wBR g ad tx' is wa st' hi')) := by
  refine Cg_of (cc := cL_adds) (maxL := 6) (ret := (some .int)) (by decide +kernel) rfl (Nat.le_of_ble_eq_true rfl) ?_
  intro p e su m args below meth c A Q ls hx hb hml hown hts hK hN hA hnm hP hD hS hl hend
  unfold fL_adds at h
  have hl : lv_has ls 6 [(0, .ref (ad 0 0)), (1, .int p1), (2, .int p2)] := hl
  refine lv_aload_n hx hb dL_adds_0 rfl (lv_at hl 0 rfl) ?_
  obtain ⟨r1, tx2, kr1, h⟩ := bd2_ex h
  refine aft_w (st1 := [.int r1]) rfl (runV (As := []) (rest := []) ⟨hx, hb, hml, hown, hts⟩ (kX5_clearBuffer l g ad kr1) (cwV 0 hts gL_adds_X5_clearBuffer rfl rfl rfl hdX5_clearBuffer ⟨Nat.le_of_ble_eq_true rfl, Nat.le_of_ble_eq_true rfl⟩) hK hN hP hD (va_recv hK hP (ci := 5) (q0 := 0) rfl rfl) rfl hl.1 rfl (Nat.le_of_ble_eq_true rfl) dL_adds_1 ⟨Nat.zero_le _, Nat.zero_le _⟩) hD hS hA (fun H locs hP hD hS => ?_)
  refine lv_pop hx hb dL_adds_4 rfl ?_
  refine lv_iconst (v := 0) hx hb dL_adds_5 (by decide) ?_
  refine lv_istore_n (lv' := [(3, .int (0 : Int32)), (0, .ref (ad 0 0)), (1, .int p1), (2, .int p2)]) hx hb dL_adds_6 rfl hl (by decide) rfl (fun ls hl => ?_)
  have L7 : ∀ (n : Nat) (v3_3 : Int32) (tx4 : Tx) (tx5 : Tx) (H : Heap) (locs : List Loc) (ls : Array Slot), fL_adds_L7 is wa st hi p1 p2 n v3_3 tx4 = some tx5 → va_P g.1 vwCl ((wBR g ad tx4 is wa st hi)) H → va_D A ((wBR g ad tx4 is wa st hi)) → va_S A su.heap H locs → lv_has ls 6 [(0, .ref (ad 0 0)), (1, .int p1), (2, .int p2), (3, .int v3_3)] → (∀ (H : Heap) (locs : List Loc) (ls : Array Slot), va_P g.1 vwCl ((wBR g ad tx5 is wa st hi)) H → va_D A ((wBR g ad tx5 is wa st hi)) → va_S A su.heap H locs → lv_has ls 6 [(0, .ref (ad 0 0))] → W p l e rL_adds su m args below meth c H locs 0 0 Q (F0 m 70 ls [])) → W p l e rL_adds su m args below meth c H locs 0 0 Q (F0 m 7 ls []) := by
    intro n
    induction n with
    | zero => intro v3_3 tx4 tx5 H locs ls h hP hD hS hl kx; cases h
    | succ n ih =>
      intro v3_3 tx4 tx5 H locs ls h hP hD hS hl kx
      rw [fL_adds_L7] at h
      refine lv_iload_n hx hb dL_adds_7 rfl (lv_at hl 3 rfl) ?_
      refine lv_iload_n hx hb dL_adds_8 rfl (lv_at hl 2 rfl) ?_
      refine lv_iconst (v := 5) hx hb dL_adds_9 (by decide) ?_
      obtain ⟨r6, kr6, h⟩ := bd_ex h
      refine aft_e (st1 := [.int r6, .int v3_3]) rfl (runS (As := [.int p2, .int (5 : Int32)]) (rest := [.int v3_3]) ⟨hx, hb, hml, hown, hts⟩ (kL_low l g kr6) (va_cwS 2 hts gL_adds_L_low rfl rfl rfl hdL_low ⟨Nat.le_of_ble_eq_true rfl, Nat.le_of_ble_eq_true rfl⟩) hK hN nilP (nilD (A := A)) rfl hl.1 rfl (Nat.le_of_ble_eq_true rfl) dL_adds_10 ⟨Nat.zero_le _, Nat.zero_le _⟩) hP hS hA (fun H locs hP hS => ?_)
      refine lv_icmp_gt (tgt := 70) hx hb dL_adds_13 (by decide) (fun c7 => ?_) (fun c7 => ?_)
      · have h := if_t c7 h
        cases some_i h
        exact kx _ _ _ hP hD hS (lv_sub hl [0] rfl)
      · have h := if_f c7 h
        refine lv_iload_n hx hb dL_adds_16 rfl (lv_at hl 3 rfl) ?_
        obtain ⟨tx8, ktx8, h⟩ := bd_ex h
        have kx1 : ∀ (H : Heap) (locs : List Loc) (ls : Array Slot), va_P g.1 vwCl ((wBR g ad tx8 is wa st hi)) H → va_D A ((wBR g ad tx8 is wa st hi)) → va_S A su.heap H locs → lv_has ls 6 [(0, .ref (ad 0 0)), (1, .int p1), (2, .int p2), (3, .int v3_3)] → W p l e rL_adds su m args below meth c H locs 0 0 Q (F0 m 27 ls []) := by
          intro H locs ls hP hD hS hl
          refine lv_iload_n hx hb dL_adds_27 rfl (lv_at hl 1 rfl) ?_
          refine lv_iload_n hx hb dL_adds_28 rfl (lv_at hl 3 rfl) ?_
          obtain ⟨r9, kr9, h⟩ := bd_ex h
          refine aft_e (st1 := [.int r9]) rfl (runS (As := [.int p1, .int v3_3]) (rest := []) ⟨hx, hb, hml, hown, hts⟩ (kL_wordOf l g kr9) (va_cwS 2 hts gL_adds_L_wordOf rfl rfl rfl hdL_wordOf ⟨Nat.le_of_ble_eq_true rfl, Nat.le_of_ble_eq_true rfl⟩) hK hN nilP (nilD (A := A)) rfl hl.1 rfl (Nat.le_of_ble_eq_true rfl) dL_adds_29 ⟨Nat.zero_le _, Nat.zero_le _⟩) hP hS hA (fun H locs hP hS => ?_)
          refine lv_istore (lv' := [(4, .int r9), (0, .ref (ad 0 0)), (1, .int p1), (2, .int p2), (3, .int v3_3)]) hx hb dL_adds_32 hl (by decide) rfl (fun ls hl => ?_)
          refine lv_iconst (v := 0) hx hb dL_adds_34 (by decide) ?_
          refine lv_istore (lv' := [(5, .int (0 : Int32)), (4, .int r9), (0, .ref (ad 0 0)), (1, .int p1), (2, .int p2), (3, .int v3_3)]) hx hb dL_adds_35 hl (by decide) rfl (fun ls hl => ?_)
          have L37 : ∀ (n : Nat) (v5_10 : Int32) (tx11 : Tx) (tx12 : Tx) (H : Heap) (locs : List Loc) (ls : Array Slot), fL_adds_L37 is wa st hi r9 n v5_10 tx11 = some tx12 → va_P g.1 vwCl ((wBR g ad tx11 is wa st hi)) H → va_D A ((wBR g ad tx11 is wa st hi)) → va_S A su.heap H locs → lv_has ls 6 [(0, .ref (ad 0 0)), (1, .int p1), (2, .int p2), (3, .int v3_3), (4, .int r9), (5, .int v5_10)] → (∀ (H : Heap) (locs : List Loc) (ls : Array Slot), va_P g.1 vwCl ((wBR g ad tx12 is wa st hi)) H → va_D A ((wBR g ad tx12 is wa st hi)) → va_S A su.heap H locs → lv_has ls 6 [(0, .ref (ad 0 0)), (1, .int p1), (2, .int p2), (3, .int v3_3)] → W p l e rL_adds su m args below meth c H locs 0 0 Q (F0 m 64 ls [])) → W p l e rL_adds su m args below meth c H locs 0 0 Q (F0 m 37 ls []) := by
            intro n
            induction n with
            | zero => intro v5_10 tx11 tx12 H locs ls h hP hD hS hl kx; cases h
            | succ n ih =>
              intro v5_10 tx11 tx12 H locs ls h hP hD hS hl kx
              rw [fL_adds_L37] at h
              refine lv_iload hx hb dL_adds_37 (lv_at hl 5 rfl) ?_
              refine lv_iconst (v := 4) hx hb dL_adds_39 (by decide) ?_
              refine lv_icmp_ge (tgt := 64) hx hb dL_adds_40 (by decide) (fun c13 => ?_) (fun c13 => ?_)
              · have h := if_t c13 h
                cases some_i h
                exact kx _ _ _ hP hD hS (lv_sub hl [0, 1, 2, 3] rfl)
              · have h := if_f c13 h
                refine lv_aload_n hx hb dL_adds_43 rfl (lv_at hl 0 rfl) ?_
                refine lv_bipush (v := 97) hx hb dL_adds_44 (by decide) ?_
                refine lv_iload hx hb dL_adds_46 (lv_at hl 4 rfl) ?_
                refine lv_iload hx hb dL_adds_48 (lv_at hl 5 rfl) ?_
                obtain ⟨r14, kr14, h⟩ := bd_ex h
                refine aft_e (st1 := [.int r14, .int (97 : Int32), .ref (ad 0 0)]) rfl (runS (As := [.int r9, .int v5_10]) (rest := [.int (97 : Int32), .ref (ad 0 0)]) ⟨hx, hb, hml, hown, hts⟩ (kL_letter l g kr14) (va_cwS 2 hts gL_adds_L_letter rfl rfl rfl hdL_letter ⟨Nat.le_of_ble_eq_true rfl, Nat.le_of_ble_eq_true rfl⟩) hK hN nilP (nilD (A := A)) rfl hl.1 rfl (Nat.le_of_ble_eq_true rfl) dL_adds_50 ⟨Nat.zero_le _, Nat.zero_le _⟩) hP hS hA (fun H locs hP hS => ?_)
                refine lv_iadd hx hb dL_adds_53 ?_
                obtain ⟨r15, tx16, kr15, h⟩ := bd2_ex h
                refine aft_w (st1 := [.int r15]) rfl (runW (As := [.ref (ad 0 0), .int ((97 : Int32) + r14)]) (rest := []) ⟨hx, hb, hml, hown, hts⟩ (kL_append l g ad kr15) (vx_cwSW 2 hts gL_adds_L_append rfl rfl rfl hdL_append ⟨Nat.le_of_ble_eq_true rfl, Nat.le_of_ble_eq_true rfl⟩) hK hN hP hD rfl hl.1 rfl (Nat.le_of_ble_eq_true rfl) dL_adds_54 ⟨Nat.zero_le _, Nat.zero_le _⟩) hD hS hA (fun H locs hP hD hS => ?_)
                refine lv_pop hx hb dL_adds_57 rfl ?_
                obtain ⟨x17, ex17, h⟩ := pl_ex h
                refine lv_iinc (v := x17) (lv' := [(5, .int x17), (0, .ref (ad 0 0)), (1, .int p1), (2, .int p2), (3, .int v3_3), (4, .int r9)]) hx hb dL_adds_58 hl (k := 5) rfl (by rw [← ex17]; rfl) (by decide) rfl (fun ls hl => ?_)
                refine lv_goto (tgt := 37) hx hb dL_adds_61 (by decide) ?_
                exact ih x17 tx16 _ _ _ _ h hP hD hS (lv_sub hl [1, 2, 3, 4, 5, 0] rfl) kx
          obtain ⟨tx18, ktx18, h⟩ := bd_ex h
          refine L37 1000 (0 : Int32) tx8 tx18 _ _ _ ktx18 hP hD hS (lv_sub hl [2, 3, 4, 5, 1, 0] rfl) (fun H locs ls hP hD hS hl => ?_)
          obtain ⟨x19, ex19, h⟩ := pl_ex h
          refine lv_iinc (v := x19) (lv' := [(3, .int x19), (0, .ref (ad 0 0)), (1, .int p1), (2, .int p2)]) hx hb dL_adds_64 hl (k := 3) rfl (by rw [← ex19]; rfl) (by decide) rfl (fun ls hl => ?_)
          refine lv_goto (tgt := 7) hx hb dL_adds_67 (by decide) ?_
          exact ih x19 tx18 _ _ _ _ h hP hD hS (lv_sub hl [1, 2, 3, 0] rfl) kx
        have h := ktx8
        refine lv_if_le (tgt := 27) hx hb dL_adds_17 (by decide) (fun c20 => ?_) (fun c20 => ?_)
        · have h := if_t c20 h
          cases some_i h
          exact kx1 _ _ _ hP hD hS (lv_sub hl [0, 1, 2, 3] rfl)
        · have h := if_f c20 h
          refine lv_aload_n hx hb dL_adds_20 rfl (lv_at hl 0 rfl) ?_
          refine lv_bipush (v := 44) hx hb dL_adds_21 (by decide) ?_
          obtain ⟨r21, tx22, kr21, h⟩ := bd2_ex h
          refine aft_w (st1 := [.int r21]) rfl (runW (As := [.ref (ad 0 0), .int (44 : Int32)]) (rest := []) ⟨hx, hb, hml, hown, hts⟩ (kL_append l g ad kr21) (vx_cwSW 2 hts gL_adds_L_append rfl rfl rfl hdL_append ⟨Nat.le_of_ble_eq_true rfl, Nat.le_of_ble_eq_true rfl⟩) hK hN hP hD rfl hl.1 rfl (Nat.le_of_ble_eq_true rfl) dL_adds_23 ⟨Nat.zero_le _, Nat.zero_le _⟩) hD hS hA (fun H locs hP hD hS => ?_)
          refine lv_pop hx hb dL_adds_26 rfl ?_
          cases some_i h
          exact kx1 _ _ _ hP hD hS (lv_sub hl [0, 1, 2, 3] rfl)
  obtain ⟨tx23, ktx23, h⟩ := bd_ex h
  refine L7 1000 (0 : Int32) tx2 tx23 _ _ _ ktx23 hP hD hS (lv_sub hl [1, 2, 3, 0] rfl) (fun H locs ls hP hD hS hl => ?_)
  refine lv_aload_n hx hb dL_adds_70 rfl (lv_at hl 0 rfl) ?_
  obtain ⟨r24, tx25, st26, hi27, kr24, h⟩ := bd4_ex h
  refine aft_w (st1 := [.int r24]) rfl (runW (As := [.ref (ad 0 0)]) (rest := []) ⟨hx, hb, hml, hown, hts⟩ (kL_add l g ad kr24) (vx_cwSW 1 hts gL_adds_L_add rfl rfl rfl hdL_add ⟨Nat.le_of_ble_eq_true rfl, Nat.le_of_ble_eq_true rfl⟩) hK hN hP hD rfl hl.1 rfl (Nat.le_of_ble_eq_true rfl) dL_adds_71 ⟨Nat.zero_le _, Nat.zero_le _⟩) hD hS hA (fun H locs hP hD hS => ?_)
  cases some_i h
  exact hend _ _ _ _ _ hP hD hS (RetOK.i dL_adds_74)
def fL_call (tx : Tx) (is : Is) (wa : Wa) (st : St) (hi : Hi) (p1 : Int32) (p2 : Int32) (p3 : Int32) (p4 : Int32) : Option (Int32 × Tx × Wa × St × Hi) :=
(if p1 = (0 : Int32) then
(bd4 (fL_adds tx is wa st hi p2 p3) fun (r2 : Int32) (tx3 : Tx) (st4 : St) (hi5 : Hi) =>
(some (r2, tx3, wa, st4, hi5)))
else
(if p1 = (1 : Int32) then
(bd4 (fL_put tx is wa st hi p2 p3 p4) fun (r7 : Int32) (wa8 : Wa) (st9 : St) (hi10 : Hi) =>
(some (r7, tx, wa8, st9, hi10)))
else
(if p1 = (2 : Int32) then
(bd3 (fL_climb tx is wa st hi p2 p3) fun (r12 : Int32) (st13 : St) (hi14 : Hi) =>
(some (r12, tx, wa, st13, hi14)))
else
(if p1 = (3 : Int32) then
(bd3 (fX5_turn tx is wa st hi) fun (r16 : Int32) (st17 : St) (hi18 : Hi) =>
(some (r16, tx, wa, st17, hi18)))
else
(if p1 = (4 : Int32) then
(bd3 (fL_leave tx is wa st hi p2) fun (r20 : Int32) (st21 : St) (hi22 : Hi) =>
(some (r20, tx, wa, st21, hi22)))
else
(if p1 = (5 : Int32) then
(bd3 (fL_set tx is wa st hi p2 p3) fun (r24 : Int32) (st25 : St) (hi26 : Hi) =>
(some (r24, tx, wa, st25, hi26)))
else
(bd3 (fL_bar tx is wa st hi p2 p3) fun (r27 : Int32) (st28 : St) (hi29 : Hi) =>
(some (r27, tx, wa, st28, hi29)))))))))
abbrev rL_call : Room := { frames := 9, cells := 1, slots := 6, locals := 200 }
theorem hdL_call : yL_call.cls ≠ "java/lang/invoke/MethodHandle" ∧ yL_call.cls ≠ "java/lang/invoke/VarHandle" ∧ (parseMethodDescriptor yL_call.desc).map (fun d => d.parameters.length) = some 5 := by decide +kernel
set_option maxRecDepth 100000 in
set_option maxHeartbeats 16000000 in
theorem wL_call (l : Launch) (hst : l.stackTraces = false) (g : GG) (ad : Nat → Nat → Nat) {tx : Tx} {is : Is} {wa : Wa} {st : St} {hi : Hi} {p1 : Int32} {p2 : Int32} {p3 : Int32} {p4 : Int32} {res : Int32} {tx' : Tx} {wa' : Wa} {st' : St} {hi' : Hi} (h : fL_call tx is wa st hi p1 p2 p3 p4 = some (res, tx', wa', st', hi')) : CL l g yL_call wsL_call rL_call [.ref (ad 0 0), .int p1, .int p2, .int p3, .int p4] ((wBR g ad tx is wa st hi)) (some (.int res)) ((wBR g ad tx' is wa' st' hi')) := by
  refine CLc_of (cc := cL_call) (maxL := 5) (ret := (some .int)) (by decide +kernel) rfl (Nat.le_of_ble_eq_true rfl) ?_
  intro p e su m args below meth c A Q ls hx hb hml hown hts hK hN hA hX hZ hP hD hS hl hend
  unfold fL_call at h
  have hl : lv_has ls 5 [(0, .ref (ad 0 0)), (1, .int p1), (2, .int p2), (3, .int p3), (4, .int p4)] := hl
  refine lv_iload_n hx hb dL_call_0 rfl (lv_at hl 1 rfl) ?_
  by_cases c1 : p1 = (0 : Int32)
  · have h := if_t c1 h
    refine lv_tableIn (x := p1) (off := 39) (tgt := 40) hx hb dL_call_1 (by rw [c1]; decide) (by rw [c1]; decide) (by rw [c1]; decide) (by decide) ?_
    refine lv_aload_n hx hb dL_call_40 rfl (lv_at hl 0 rfl) ?_
    refine lv_iload_n hx hb dL_call_41 rfl (lv_at hl 2 rfl) ?_
    refine lv_iload_n hx hb dL_call_42 rfl (lv_at hl 3 rfl) ?_
    obtain ⟨r2, tx3, st4, hi5, kr2, h⟩ := bd4_ex h
    refine aft_w (st1 := [.int r2]) rfl (runS (As := [.ref (ad 0 0), .int p2, .int p3]) (rest := []) ⟨hx, hb, hml, hown, hts⟩ (kL_adds l g ad kr2) (va_cwS 3 hts gL_call_L_adds rfl rfl rfl hdL_adds ⟨Nat.le_of_ble_eq_true rfl, Nat.le_of_ble_eq_true rfl⟩) hK hN hP hD rfl hl.1 rfl (Nat.le_of_ble_eq_true rfl) dL_call_43 ⟨Nat.le_of_ble_eq_true rfl, Nat.le_of_ble_eq_true rfl⟩) hD hS hA (fun H locs hP hD hS => ?_)
    refine W.widen (k := (0 + 1)) (n := (0 + 6)) (Nat.le_of_ble_eq_true rfl) (Nat.le_of_ble_eq_true rfl) ?_
    cases some_i h
    exact hend _ _ _ _ _ hP hD hS (RetOK.i dL_call_46)
  have h := if_f c1 h
  by_cases c6 : p1 = (1 : Int32)
  · have h := if_t c6 h
    refine lv_tableIn (x := p1) (off := 46) (tgt := 47) hx hb dL_call_1 (by rw [c6]; decide) (by rw [c6]; decide) (by rw [c6]; decide) (by decide) ?_
    refine lv_aload_n hx hb dL_call_47 rfl (lv_at hl 0 rfl) ?_
    refine lv_iload_n hx hb dL_call_48 rfl (lv_at hl 2 rfl) ?_
    refine lv_iload_n hx hb dL_call_49 rfl (lv_at hl 3 rfl) ?_
    refine lv_iload hx hb dL_call_50 (lv_at hl 4 rfl) ?_
    obtain ⟨r7, wa8, st9, hi10, kr7, h⟩ := bd4_ex h
    refine aftm_w (st1 := [.int r7]) rfl (runLW (As := [.ref (ad 0 0), .int p2, .int p3, .int p4]) (rest := []) ⟨hx, hb, hml, hown, hts⟩ (wL_put l hst g ad kr7) (vx_cwSW 4 hts gL_call_L_put rfl rfl rfl hdL_put ⟨Nat.le_of_ble_eq_true rfl, Nat.le_of_ble_eq_true rfl⟩) hK hN hX hZ hP hD hS hA rfl hl.1 rfl (Nat.le_of_ble_eq_true rfl) dL_call_52 ⟨Nat.le_of_ble_eq_true rfl, Nat.le_of_ble_eq_true rfl⟩) hP hD hS hA (fun H locs hP hD hS => ?_)
    cases some_i h
    exact hend _ _ _ _ _ hP hD hS (RetOK.i dL_call_55)
  have h := if_f c6 h
  by_cases c11 : p1 = (2 : Int32)
  · have h := if_t c11 h
    refine lv_tableIn (x := p1) (off := 55) (tgt := 56) hx hb dL_call_1 (by rw [c11]; decide) (by rw [c11]; decide) (by rw [c11]; decide) (by decide) ?_
    refine lv_aload_n hx hb dL_call_56 rfl (lv_at hl 0 rfl) ?_
    refine lv_iload_n hx hb dL_call_57 rfl (lv_at hl 2 rfl) ?_
    refine lv_iload_n hx hb dL_call_58 rfl (lv_at hl 3 rfl) ?_
    obtain ⟨r12, st13, hi14, kr12, h⟩ := bd3_ex h
    refine aftm_w (st1 := [.int r12]) rfl (runLW (As := [.ref (ad 0 0), .int p2, .int p3]) (rest := []) ⟨hx, hb, hml, hown, hts⟩ (wL_climb l hst g ad kr12) (vx_cwSW 3 hts gL_call_L_climb rfl rfl rfl hdL_climb ⟨Nat.le_of_ble_eq_true rfl, Nat.le_of_ble_eq_true rfl⟩) hK hN hX hZ hP hD hS hA rfl hl.1 rfl (Nat.le_of_ble_eq_true rfl) dL_call_59 ⟨Nat.le_of_ble_eq_true rfl, Nat.le_of_ble_eq_true rfl⟩) hP hD hS hA (fun H locs hP hD hS => ?_)
    cases some_i h
    exact hend _ _ _ _ _ hP hD hS (RetOK.i dL_call_62)
  have h := if_f c11 h
  by_cases c15 : p1 = (3 : Int32)
  · have h := if_t c15 h
    refine lv_tableIn (x := p1) (off := 62) (tgt := 63) hx hb dL_call_1 (by rw [c15]; decide) (by rw [c15]; decide) (by rw [c15]; decide) (by decide) ?_
    refine lv_aload_n hx hb dL_call_63 rfl (lv_at hl 0 rfl) ?_
    obtain ⟨r16, st17, hi18, kr16, h⟩ := bd3_ex h
    refine aft_w (st1 := [.int r16]) rfl (runV (As := []) (rest := []) ⟨hx, hb, hml, hown, hts⟩ (kX5_turn l g ad kr16) (cwV 0 hts gL_call_X5_turn rfl rfl rfl hdX5_turn ⟨Nat.le_of_ble_eq_true rfl, Nat.le_of_ble_eq_true rfl⟩) hK hN hP hD (va_recv hK hP (ci := 5) (q0 := 0) rfl rfl) rfl hl.1 rfl (Nat.le_of_ble_eq_true rfl) dL_call_64 ⟨Nat.le_of_ble_eq_true rfl, Nat.le_of_ble_eq_true rfl⟩) hD hS hA (fun H locs hP hD hS => ?_)
    refine W.widen (k := (0 + 1)) (n := (0 + 6)) (Nat.le_of_ble_eq_true rfl) (Nat.le_of_ble_eq_true rfl) ?_
    cases some_i h
    exact hend _ _ _ _ _ hP hD hS (RetOK.i dL_call_67)
  have h := if_f c15 h
  by_cases c19 : p1 = (4 : Int32)
  · have h := if_t c19 h
    refine lv_tableIn (x := p1) (off := 67) (tgt := 68) hx hb dL_call_1 (by rw [c19]; decide) (by rw [c19]; decide) (by rw [c19]; decide) (by decide) ?_
    refine lv_aload_n hx hb dL_call_68 rfl (lv_at hl 0 rfl) ?_
    refine lv_iload_n hx hb dL_call_69 rfl (lv_at hl 2 rfl) ?_
    obtain ⟨r20, st21, hi22, kr20, h⟩ := bd3_ex h
    refine aftm_w (st1 := [.int r20]) rfl (runLW (As := [.ref (ad 0 0), .int p2]) (rest := []) ⟨hx, hb, hml, hown, hts⟩ (wL_leave l hst g ad kr20) (vx_cwSW 2 hts gL_call_L_leave rfl rfl rfl hdL_leave ⟨Nat.le_of_ble_eq_true rfl, Nat.le_of_ble_eq_true rfl⟩) hK hN hX hZ hP hD hS hA rfl hl.1 rfl (Nat.le_of_ble_eq_true rfl) dL_call_70 ⟨Nat.le_of_ble_eq_true rfl, Nat.le_of_ble_eq_true rfl⟩) hP hD hS hA (fun H locs hP hD hS => ?_)
    cases some_i h
    exact hend _ _ _ _ _ hP hD hS (RetOK.i dL_call_73)
  have h := if_f c19 h
  by_cases c23 : p1 = (5 : Int32)
  · have h := if_t c23 h
    refine lv_tableIn (x := p1) (off := 73) (tgt := 74) hx hb dL_call_1 (by rw [c23]; decide) (by rw [c23]; decide) (by rw [c23]; decide) (by decide) ?_
    refine lv_aload_n hx hb dL_call_74 rfl (lv_at hl 0 rfl) ?_
    refine lv_iload_n hx hb dL_call_75 rfl (lv_at hl 2 rfl) ?_
    refine lv_iload_n hx hb dL_call_76 rfl (lv_at hl 3 rfl) ?_
    obtain ⟨r24, st25, hi26, kr24, h⟩ := bd3_ex h
    refine aft_w (st1 := [.int r24]) rfl (runW (As := [.ref (ad 0 0), .int p2, .int p3]) (rest := []) ⟨hx, hb, hml, hown, hts⟩ (kL_set l g ad kr24) (vx_cwSW 3 hts gL_call_L_set rfl rfl rfl hdL_set ⟨Nat.le_of_ble_eq_true rfl, Nat.le_of_ble_eq_true rfl⟩) hK hN hP hD rfl hl.1 rfl (Nat.le_of_ble_eq_true rfl) dL_call_77 ⟨Nat.le_of_ble_eq_true rfl, Nat.le_of_ble_eq_true rfl⟩) hD hS hA (fun H locs hP hD hS => ?_)
    refine W.widen (k := (0 + 1)) (n := (0 + 6)) (Nat.le_of_ble_eq_true rfl) (Nat.le_of_ble_eq_true rfl) ?_
    cases some_i h
    exact hend _ _ _ _ _ hP hD hS (RetOK.i dL_call_80)
  have h := if_f c23 h
  have nc1 : ¬ (p1).toInt = 0 := fun q => c1 (Int32.toInt_inj.mp (by rw [q]; rfl))
  have nc6 : ¬ (p1).toInt = 1 := fun q => c6 (Int32.toInt_inj.mp (by rw [q]; rfl))
  have nc11 : ¬ (p1).toInt = 2 := fun q => c11 (Int32.toInt_inj.mp (by rw [q]; rfl))
  have nc15 : ¬ (p1).toInt = 3 := fun q => c15 (Int32.toInt_inj.mp (by rw [q]; rfl))
  have nc19 : ¬ (p1).toInt = 4 := fun q => c19 (Int32.toInt_inj.mp (by rw [q]; rfl))
  have nc23 : ¬ (p1).toInt = 5 := fun q => c23 (Int32.toInt_inj.mp (by rw [q]; rfl))
  refine lv_tableOut (x := p1) (tgt := 81) hx hb dL_call_1 (by omega) (by decide) ?_
  refine lv_aload_n hx hb dL_call_81 rfl (lv_at hl 0 rfl) ?_
  refine lv_iload_n hx hb dL_call_82 rfl (lv_at hl 2 rfl) ?_
  refine lv_iload_n hx hb dL_call_83 rfl (lv_at hl 3 rfl) ?_
  obtain ⟨r27, st28, hi29, kr27, h⟩ := bd3_ex h
  refine aft_w (st1 := [.int r27]) rfl (runW (As := [.ref (ad 0 0), .int p2, .int p3]) (rest := []) ⟨hx, hb, hml, hown, hts⟩ (kL_bar l g ad kr27) (vx_cwSW 3 hts gL_call_L_bar rfl rfl rfl hdL_bar ⟨Nat.le_of_ble_eq_true rfl, Nat.le_of_ble_eq_true rfl⟩) hK hN hP hD rfl hl.1 rfl (Nat.le_of_ble_eq_true rfl) dL_call_84 ⟨Nat.le_of_ble_eq_true rfl, Nat.le_of_ble_eq_true rfl⟩) hD hS hA (fun H locs hP hD hS => ?_)
  refine W.widen (k := (0 + 1)) (n := (0 + 6)) (Nat.le_of_ble_eq_true rfl) (Nat.le_of_ble_eq_true rfl) ?_
  cases some_i h
  exact hend _ _ _ _ _ hP hD hS (RetOK.i dL_call_87)
def fL_told_L6 (tx : Tx) (wa : Wa) (st : St) (hi : Hi) : Nat → Int64 → Int32 → Is → Option (Int64 × Is)
  | 0, _, _, _ => none
  | n + 1, v1_1, v3_2, is3 =>
    (if (12 : Int32) ≤ v3_2 then
    (some (v1_1, is3))
    else
    (bd2 (fL_count tx is3 wa st hi v3_2) fun (r7 : Int32) (is8 : Is) =>
    (pl ((((31 : Int64) * v1_1) + (r7.toInt64))) fun (x9 : Int64) =>
    (pl ((v3_2 + (1 : Int32))) fun (x10 : Int32) =>
    (fL_told_L6 tx wa st hi n x9 x10 is8)))))
def fL_told_L33 (tx : Tx) (st : St) (hi : Hi) (is12 : Is) : Nat → Int64 → Int32 → Wa → Option (Int64 × Wa)
  | 0, _, _, _ => none
  | n + 1, v1_13, v3_14, wa15 =>
    (if (21 : Int32) ≤ v3_14 then
    (some (v1_13, wa15))
    else
    (bd2 (fL_climber tx is12 wa15 st hi (v3_14 / (7 : Int32)) (v3_14 - v3_14 / (7 : Int32) * (7 : Int32))) fun (r19 : Int32) (wa20 : Wa) =>
    (pl ((((31 : Int64) * v1_13) + (r19.toInt64))) fun (x21 : Int64) =>
    (pl ((v3_14 + (1 : Int32))) fun (x22 : Int32) =>
    (fL_told_L33 tx st hi is12 n x21 x22 wa20)))))
def fL_told (tx : Tx) (is : Is) (wa : Wa) (st : St) (hi : Hi) : Option (Int64 × Is × Wa) :=
(bd2 (fL_told_L6 tx wa st hi 1000 (139 : Int64) (0 : Int32) is) fun (v1_11 : Int64) (is12 : Is) =>
(bd2 (fL_told_L33 tx st hi is12 1000 v1_11 (0 : Int32) wa) fun (v1_23 : Int64) (wa24 : Wa) =>
(bd (fL_setting tx is12 wa24 st hi (0 : Int32)) fun (r25 : Int32) =>
(bd (fL_setting tx is12 wa24 st hi (1 : Int32)) fun (r26 : Int32) =>
(some ((((31 : Int64) * (((31 : Int64) * v1_23) + (r25.toInt64))) + (r26.toInt64)), is12, wa24))))))
abbrev rL_told : Room := { frames := 8, cells := 0, slots := 0, locals := 193 }
theorem hdL_told : yL_told.cls ≠ "java/lang/invoke/MethodHandle" ∧ yL_told.cls ≠ "java/lang/invoke/VarHandle" ∧ (parseMethodDescriptor yL_told.desc).map (fun d => d.parameters.length) = some 1 := by decide +kernel
set_option maxRecDepth 100000 in
set_option maxHeartbeats 16000000 in
theorem kL_told (l : Launch) (g : GG) (ad : Nat → Nat → Nat) {tx : Tx} {is : Is} {wa : Wa} {st : St} {hi : Hi} {res : Int64} {is' : Is} {wa' : Wa} (h : fL_told tx is wa st hi = some (res, is', wa')) : Cg l g yL_told wsL_told rL_told [.ref (ad 0 0)] ((wBR g ad tx is wa st hi)) (some (.long res)) ((wBR g ad tx is' wa' st hi)) := by
  refine Cg_of (cc := cL_told) (maxL := 4) (ret := (some .long)) (by decide +kernel) rfl (Nat.le_of_ble_eq_true rfl) ?_
  intro p e su m args below meth c A Q ls hx hb hml hown hts hK hN hA hnm hP hD hS hl hend
  unfold fL_told at h
  have hl : lv_has ls 4 [(0, .ref (ad 0 0))] := hl
  refine lv_ldc2 hx hb hown (hts (.constantLong RL 175 (139)) (List.mem_of_getElem? (i := 1) rfl)) dL_told_0 ?_
  refine lv_lstore_n (lv' := [(1, .long (139 : Int64)), (0, .ref (ad 0 0))]) hx hb dL_told_3 rfl hl (by decide) rfl (fun ls hl => ?_)
  refine lv_iconst (v := 0) hx hb dL_told_4 (by decide) ?_
  refine lv_istore_n (lv' := [(3, .int (0 : Int32)), (1, .long (139 : Int64)), (0, .ref (ad 0 0))]) hx hb dL_told_5 rfl hl (by decide) rfl (fun ls hl => ?_)
  have L6 : ∀ (n : Nat) (v1_1 : Int64) (v3_2 : Int32) (is3 : Is) (y1_4 : Int64) (is5 : Is) (H : Heap) (locs : List Loc) (ls : Array Slot), fL_told_L6 tx wa st hi n v1_1 v3_2 is3 = some (y1_4, is5) → va_P g.1 vwCl ((wBR g ad tx is3 wa st hi)) H → va_D A ((wBR g ad tx is3 wa st hi)) → va_S A su.heap H locs → lv_has ls 4 [(0, .ref (ad 0 0)), (1, .long v1_1), (3, .int v3_2)] → (∀ (H : Heap) (locs : List Loc) (ls : Array Slot), va_P g.1 vwCl ((wBR g ad tx is5 wa st hi)) H → va_D A ((wBR g ad tx is5 wa st hi)) → va_S A su.heap H locs → lv_has ls 4 [(0, .ref (ad 0 0)), (1, .long y1_4)] → W p l e rL_told su m args below meth c H locs 0 0 Q (F0 m 31 ls [])) → W p l e rL_told su m args below meth c H locs 0 0 Q (F0 m 6 ls []) := by
    intro n
    induction n with
    | zero => intro v1_1 v3_2 is3 y1_4 is5 H locs ls h hP hD hS hl kx; cases h
    | succ n ih =>
      intro v1_1 v3_2 is3 y1_4 is5 H locs ls h hP hD hS hl kx
      rw [fL_told_L6] at h
      refine lv_iload_n hx hb dL_told_6 rfl (lv_at hl 2 rfl) ?_
      refine lv_bipush (v := 12) hx hb dL_told_7 (by decide) ?_
      refine lv_icmp_ge (tgt := 31) hx hb dL_told_9 (by decide) (fun c6 => ?_) (fun c6 => ?_)
      · have h := if_t c6 h
        cases some_i h
        exact kx _ _ _ hP hD hS (lv_sub hl [0, 1] rfl)
      · have h := if_f c6 h
        refine lv_ldc2 hx hb hown (hts (.constantLong RL 177 (31)) (List.mem_of_getElem? (i := 2) rfl)) dL_told_12 ?_
        refine lv_lload_n hx hb dL_told_15 rfl (lv_at hl 1 rfl) ?_
        refine lv_lmul hx hb dL_told_16 ?_
        refine lv_aload_n hx hb dL_told_17 rfl (lv_at hl 0 rfl) ?_
        refine lv_iload_n hx hb dL_told_18 rfl (lv_at hl 2 rfl) ?_
        obtain ⟨r7, is8, kr7, h⟩ := bd2_ex h
        refine aft_w (st1 := [.int r7, .long ((31 : Int64) * v1_1)]) rfl (runW (As := [.ref (ad 0 0), .int v3_2]) (rest := [.long ((31 : Int64) * v1_1)]) ⟨hx, hb, hml, hown, hts⟩ (kL_count l g ad kr7) (vx_cwSW 2 hts gL_told_L_count rfl rfl rfl hdL_count ⟨Nat.le_of_ble_eq_true rfl, Nat.le_of_ble_eq_true rfl⟩) hK hN hP hD rfl hl.1 rfl (Nat.le_of_ble_eq_true rfl) dL_told_19 ⟨Nat.zero_le _, Nat.zero_le _⟩) hD hS hA (fun H locs hP hD hS => ?_)
        refine lv_i2l (v := (r7.toInt64)) hx hb dL_told_22 rfl ?_
        refine lv_ladd hx hb dL_told_23 ?_
        obtain ⟨x9, ex9, h⟩ := pl_ex h
        refine lv_eql ex9 ?_
        refine lv_lstore_n (lv' := [(1, .long x9), (0, .ref (ad 0 0)), (3, .int v3_2)]) hx hb dL_told_24 rfl hl (by decide) rfl (fun ls hl => ?_)
        obtain ⟨x10, ex10, h⟩ := pl_ex h
        refine lv_iinc (v := x10) (lv' := [(3, .int x10), (1, .long x9), (0, .ref (ad 0 0))]) hx hb dL_told_25 hl (k := 2) rfl (by rw [← ex10]; rfl) (by decide) rfl (fun ls hl => ?_)
        refine lv_goto (tgt := 6) hx hb dL_told_28 (by decide) ?_
        exact ih x9 x10 is8 _ _ _ _ _ h hP hD hS (lv_sub hl [2, 1, 0] rfl) kx
  obtain ⟨v1_11, is12, kv1_11, h⟩ := bd2_ex h
  refine L6 1000 (139 : Int64) (0 : Int32) is v1_11 is12 _ _ _ kv1_11 hP hD hS (lv_sub hl [2, 1, 0] rfl) (fun H locs ls hP hD hS hl => ?_)
  refine lv_iconst (v := 0) hx hb dL_told_31 (by decide) ?_
  refine lv_istore_n (lv' := [(3, .int (0 : Int32)), (0, .ref (ad 0 0)), (1, .long v1_11)]) hx hb dL_told_32 rfl hl (by decide) rfl (fun ls hl => ?_)
  have L33 : ∀ (n : Nat) (v1_13 : Int64) (v3_14 : Int32) (wa15 : Wa) (y1_16 : Int64) (wa17 : Wa) (H : Heap) (locs : List Loc) (ls : Array Slot), fL_told_L33 tx st hi is12 n v1_13 v3_14 wa15 = some (y1_16, wa17) → va_P g.1 vwCl ((wBR g ad tx is12 wa15 st hi)) H → va_D A ((wBR g ad tx is12 wa15 st hi)) → va_S A su.heap H locs → lv_has ls 4 [(0, .ref (ad 0 0)), (1, .long v1_13), (3, .int v3_14)] → (∀ (H : Heap) (locs : List Loc) (ls : Array Slot), va_P g.1 vwCl ((wBR g ad tx is12 wa17 st hi)) H → va_D A ((wBR g ad tx is12 wa17 st hi)) → va_S A su.heap H locs → lv_has ls 4 [(0, .ref (ad 0 0)), (1, .long y1_16)] → W p l e rL_told su m args below meth c H locs 0 0 Q (F0 m 65 ls [])) → W p l e rL_told su m args below meth c H locs 0 0 Q (F0 m 33 ls []) := by
    intro n
    induction n with
    | zero => intro v1_13 v3_14 wa15 y1_16 wa17 H locs ls h hP hD hS hl kx; cases h
    | succ n ih =>
      intro v1_13 v3_14 wa15 y1_16 wa17 H locs ls h hP hD hS hl kx
      rw [fL_told_L33] at h
      refine lv_iload_n hx hb dL_told_33 rfl (lv_at hl 2 rfl) ?_
      refine lv_bipush (v := 21) hx hb dL_told_34 (by decide) ?_
      refine lv_icmp_ge (tgt := 65) hx hb dL_told_36 (by decide) (fun c18 => ?_) (fun c18 => ?_)
      · have h := if_t c18 h
        cases some_i h
        exact kx _ _ _ hP hD hS (lv_sub hl [0, 1] rfl)
      · have h := if_f c18 h
        refine lv_ldc2 hx hb hown (hts (.constantLong RL 177 (31)) (List.mem_of_getElem? (i := 2) rfl)) dL_told_39 ?_
        refine lv_lload_n hx hb dL_told_42 rfl (lv_at hl 1 rfl) ?_
        refine lv_lmul hx hb dL_told_43 ?_
        refine lv_aload_n hx hb dL_told_44 rfl (lv_at hl 0 rfl) ?_
        refine lv_iload_n hx hb dL_told_45 rfl (lv_at hl 2 rfl) ?_
        refine lv_bipush (v := 7) hx hb dL_told_46 (by decide) ?_
        refine lv_idiv hx hb dL_told_48 (by decide) ?_
        refine lv_iload_n hx hb dL_told_49 rfl (lv_at hl 2 rfl) ?_
        refine lv_bipush (v := 7) hx hb dL_told_50 (by decide) ?_
        refine lv_irem hx hb dL_told_52 (by decide) ?_
        obtain ⟨r19, wa20, kr19, h⟩ := bd2_ex h
        refine aft_w (st1 := [.int r19, .long ((31 : Int64) * v1_13)]) rfl (runW (As := [.ref (ad 0 0), .int (v3_14 / (7 : Int32)), .int (v3_14 - v3_14 / (7 : Int32) * (7 : Int32))]) (rest := [.long ((31 : Int64) * v1_13)]) ⟨hx, hb, hml, hown, hts⟩ (kL_climber l g ad kr19) (vx_cwSW 3 hts gL_told_L_climber rfl rfl rfl hdL_climber ⟨Nat.le_of_ble_eq_true rfl, Nat.le_of_ble_eq_true rfl⟩) hK hN hP hD rfl hl.1 rfl (Nat.le_of_ble_eq_true rfl) dL_told_53 ⟨Nat.zero_le _, Nat.zero_le _⟩) hD hS hA (fun H locs hP hD hS => ?_)
        refine lv_i2l (v := (r19.toInt64)) hx hb dL_told_56 rfl ?_
        refine lv_ladd hx hb dL_told_57 ?_
        obtain ⟨x21, ex21, h⟩ := pl_ex h
        refine lv_eql ex21 ?_
        refine lv_lstore_n (lv' := [(1, .long x21), (0, .ref (ad 0 0)), (3, .int v3_14)]) hx hb dL_told_58 rfl hl (by decide) rfl (fun ls hl => ?_)
        obtain ⟨x22, ex22, h⟩ := pl_ex h
        refine lv_iinc (v := x22) (lv' := [(3, .int x22), (1, .long x21), (0, .ref (ad 0 0))]) hx hb dL_told_59 hl (k := 2) rfl (by rw [← ex22]; rfl) (by decide) rfl (fun ls hl => ?_)
        refine lv_goto (tgt := 33) hx hb dL_told_62 (by decide) ?_
        exact ih x21 x22 wa20 _ _ _ _ _ h hP hD hS (lv_sub hl [2, 1, 0] rfl) kx
  obtain ⟨v1_23, wa24, kv1_23, h⟩ := bd2_ex h
  refine L33 1000 v1_11 (0 : Int32) wa v1_23 wa24 _ _ _ kv1_23 hP hD hS (lv_sub hl [1, 2, 0] rfl) (fun H locs ls hP hD hS hl => ?_)
  refine lv_ldc2 hx hb hown (hts (.constantLong RL 177 (31)) (List.mem_of_getElem? (i := 2) rfl)) dL_told_65 ?_
  refine lv_ldc2 hx hb hown (hts (.constantLong RL 177 (31)) (List.mem_of_getElem? (i := 2) rfl)) dL_told_68 ?_
  refine lv_lload_n hx hb dL_told_71 rfl (lv_at hl 1 rfl) ?_
  refine lv_lmul hx hb dL_told_72 ?_
  refine lv_aload_n hx hb dL_told_73 rfl (lv_at hl 0 rfl) ?_
  refine lv_iconst (v := 0) hx hb dL_told_74 (by decide) ?_
  obtain ⟨r25, kr25, h⟩ := bd_ex h
  refine aft_w (st1 := [.int r25, .long ((31 : Int64) * v1_23), .long (31 : Int64)]) rfl (runW (As := [.ref (ad 0 0), .int (0 : Int32)]) (rest := [.long ((31 : Int64) * v1_23), .long (31 : Int64)]) ⟨hx, hb, hml, hown, hts⟩ (kL_setting l g ad kr25) (vx_cwSW 2 hts gL_told_L_setting rfl rfl rfl hdL_setting ⟨Nat.le_of_ble_eq_true rfl, Nat.le_of_ble_eq_true rfl⟩) hK hN hP hD rfl hl.1 rfl (Nat.le_of_ble_eq_true rfl) dL_told_75 ⟨Nat.zero_le _, Nat.zero_le _⟩) hD hS hA (fun H locs hP hD hS => ?_)
  refine lv_i2l (v := (r25.toInt64)) hx hb dL_told_78 rfl ?_
  refine lv_ladd hx hb dL_told_79 ?_
  refine lv_lmul hx hb dL_told_80 ?_
  refine lv_aload_n hx hb dL_told_81 rfl (lv_at hl 0 rfl) ?_
  refine lv_iconst (v := 1) hx hb dL_told_82 (by decide) ?_
  obtain ⟨r26, kr26, h⟩ := bd_ex h
  refine aft_w (st1 := [.int r26, .long ((31 : Int64) * (((31 : Int64) * v1_23) + (r25.toInt64)))]) rfl (runW (As := [.ref (ad 0 0), .int (1 : Int32)]) (rest := [.long ((31 : Int64) * (((31 : Int64) * v1_23) + (r25.toInt64)))]) ⟨hx, hb, hml, hown, hts⟩ (kL_setting l g ad kr26) (vx_cwSW 2 hts gL_told_L_setting rfl rfl rfl hdL_setting ⟨Nat.le_of_ble_eq_true rfl, Nat.le_of_ble_eq_true rfl⟩) hK hN hP hD rfl hl.1 rfl (Nat.le_of_ble_eq_true rfl) dL_told_83 ⟨Nat.zero_le _, Nat.zero_le _⟩) hD hS hA (fun H locs hP hD hS => ?_)
  refine lv_i2l (v := (r26.toInt64)) hx hb dL_told_86 rfl ?_
  refine lv_ladd hx hb dL_told_87 ?_
  cases some_i h
  exact hend _ _ _ _ _ hP hD hS (RetOK.l dL_told_88)
end LM
