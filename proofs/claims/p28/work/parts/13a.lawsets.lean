section LM
def fL_low (p0 : Int32) (p1 : Int32) : Option (Int32) :=
(ck (nz p1)
(some ((p0 &&& (2147483647 : Int32)) - (p0 &&& (2147483647 : Int32)) / p1 * p1)))
abbrev rL_low : Room := { frames := 0, cells := 0, slots := 0, locals := 0 }
theorem hdL_low : yL_low.cls ≠ "java/lang/invoke/MethodHandle" ∧ yL_low.cls ≠ "java/lang/invoke/VarHandle" ∧ (parseMethodDescriptor yL_low.desc).map (fun d => d.parameters.length) = some 2 := by decide +kernel
set_option maxRecDepth 100000 in
set_option maxHeartbeats 16000000 in
theorem kL_low (l : Launch) (g : GG) {p0 : Int32} {p1 : Int32} {res : Int32} (h : fL_low p0 p1 = some res) : Cg l g yL_low wsL_low rL_low [.int p0, .int p1] [] (some (.int res)) [] := by
  refine Cg_of (cc := cL_low) (maxL := 2) (ret := (some .int)) (by decide +kernel) rfl (Nat.le_of_ble_eq_true rfl) ?_
  intro p e su m args below meth c A Q ls hx hb hml hown hts hK hN hA hnm hP hD hS hl hend
  unfold fL_low at h
  have hl : lv_has ls 2 [(0, .int p0), (1, .int p1)] := hl
  refine lv_iload_n hx hb dL_low_0 rfl (lv_at hl 0 rfl) ?_
  refine lv_ldc hx hb hown (hts (.constant RL 9 (2147483647)) (List.mem_of_getElem? (i := 1) rfl)) dL_low_1 ?_
  refine lv_iand hx hb dL_low_3 ?_
  refine lv_iload_n hx hb dL_low_4 rfl (lv_at hl 1 rfl) ?_
  obtain ⟨hn9, h⟩ := ck_ex h
  refine lv_irem hx hb dL_low_5 (nz_ne hn9) ?_
  cases some_i h
  exact hend _ _ _ _ _ hP hD hS (RetOK.i dL_low_6)
def fL_letter (p0 : Int32) (p1 : Int32) : Option (Int32) :=
(some ((p0 >>> (((9 : Int32) - ((3 : Int32) * p1)) &&& 31)) &&& (7 : Int32)))
abbrev rL_letter : Room := { frames := 0, cells := 0, slots := 0, locals := 0 }
theorem hdL_letter : yL_letter.cls ≠ "java/lang/invoke/MethodHandle" ∧ yL_letter.cls ≠ "java/lang/invoke/VarHandle" ∧ (parseMethodDescriptor yL_letter.desc).map (fun d => d.parameters.length) = some 2 := by decide +kernel
set_option maxRecDepth 100000 in
set_option maxHeartbeats 16000000 in
theorem kL_letter (l : Launch) (g : GG) {p0 : Int32} {p1 : Int32} {res : Int32} (h : fL_letter p0 p1 = some res) : Cg l g yL_letter wsL_letter rL_letter [.int p0, .int p1] [] (some (.int res)) [] := by
  refine Cg_of (cc := cL_letter) (maxL := 2) (ret := (some .int)) (by decide +kernel) rfl (Nat.le_of_ble_eq_true rfl) ?_
  intro p e su m args below meth c A Q ls hx hb hml hown hts hK hN hA hnm hP hD hS hl hend
  unfold fL_letter at h
  have hl : lv_has ls 2 [(0, .int p0), (1, .int p1)] := hl
  refine lv_iload_n hx hb dL_letter_0 rfl (lv_at hl 0 rfl) ?_
  refine lv_bipush (v := 9) hx hb dL_letter_1 (by decide) ?_
  refine lv_iconst (v := 3) hx hb dL_letter_3 (by decide) ?_
  refine lv_iload_n hx hb dL_letter_4 rfl (lv_at hl 1 rfl) ?_
  refine lv_imul hx hb dL_letter_5 ?_
  refine lv_isub hx hb dL_letter_6 ?_
  refine lv_ishr hx hb dL_letter_7 ?_
  refine lv_bipush (v := 7) hx hb dL_letter_8 (by decide) ?_
  refine lv_iand hx hb dL_letter_10 ?_
  cases some_i h
  exact hend _ _ _ _ _ hP hD hS (RetOK.i dL_letter_11)
def fL_linked_L2 (p0 : Int32) (p1 : Int32) (p2 : Int32) : Nat → Int32 → Option (Int32)
  | 0, _ => none
  | n + 1, v3_1 =>
    (if (4 : Int32) ≤ v3_1 then
    (some (0 : Int32))
    else
    (pl (((7 : Int32) <<< (((9 : Int32) - ((3 : Int32) * v3_1)) &&& 31))) fun (x3 : Int32) =>
    (if p0 = p1 then
    (pl ((v3_1 + (1 : Int32))) fun (x5 : Int32) =>
    (fL_linked_L2 p0 p1 p2 n x5))
    else
    (if (p0 &&& (x3 ^^^ (-1 : Int32))) = (p1 &&& (x3 ^^^ (-1 : Int32))) then
    (bd (fL_letter p0 v3_1) fun (r8 : Int32) =>
    (bd (fL_letter p1 v3_1) fun (r9 : Int32) =>
    (pl ((r8 - r9)) fun (x10 : Int32) =>
    (bd (if p2 < x10 then
    (some (0 : Int32))
    else
    (if p2 < (-x10) then
    (some (0 : Int32))
    else
    (some (1 : Int32)))) fun (j11 : Int32) =>
    (ck (zb j11)
    (some j11))))))
    else
    (pl ((v3_1 + (1 : Int32))) fun (x7 : Int32) =>
    (fL_linked_L2 p0 p1 p2 n x7))))))
def fL_linked (p0 : Int32) (p1 : Int32) (p2 : Int32) : Option (Int32) :=
(fL_linked_L2 p0 p1 p2 1000 (0 : Int32))
abbrev rL_linked : Room := { frames := 1, cells := 0, slots := 0, locals := 21 }
theorem hdL_linked : yL_linked.cls ≠ "java/lang/invoke/MethodHandle" ∧ yL_linked.cls ≠ "java/lang/invoke/VarHandle" ∧ (parseMethodDescriptor yL_linked.desc).map (fun d => d.parameters.length) = some 3 := by decide +kernel
set_option maxRecDepth 100000 in
set_option maxHeartbeats 16000000 in
theorem kL_linked (l : Launch) (g : GG) {p0 : Int32} {p1 : Int32} {p2 : Int32} {res : Int32} (h : fL_linked p0 p1 p2 = some res) : Cg l g yL_linked wsL_linked rL_linked [.int p0, .int p1, .int p2] [] (some (.int res)) [] := by
  refine Cg_of (cc := cL_linked) (maxL := 6) (ret := (some .boolean)) (by decide +kernel) rfl (Nat.le_of_ble_eq_true rfl) ?_
  intro p e su m args below meth c A Q ls hx hb hml hown hts hK hN hA hnm hP hD hS hl hend
  unfold fL_linked at h
  have hl : lv_has ls 6 [(0, .int p0), (1, .int p1), (2, .int p2)] := hl
  refine lv_iconst (v := 0) hx hb dL_linked_0 (by decide) ?_
  refine lv_istore_n (lv' := [(3, .int (0 : Int32)), (0, .int p0), (1, .int p1), (2, .int p2)]) hx hb dL_linked_1 rfl hl (by decide) rfl (fun ls hl => ?_)
  have L2 : ∀ (n : Nat) (v3_1 : Int32) (H : Heap) (locs : List Loc) (ls : Array Slot), fL_linked_L2 p0 p1 p2 n v3_1 = some res → va_P g.1 vwCl [] H → va_D A [] → va_S A su.heap H locs → lv_has ls 6 [(0, .int p0), (1, .int p1), (2, .int p2), (3, .int v3_1)] → W p l e rL_linked su m args below meth c H locs 0 0 Q (F0 m 2 ls []) := by
    intro n
    induction n with
    | zero => intro v3_1 H locs ls h hP hD hS hl; cases h
    | succ n ih =>
      intro v3_1 H locs ls h hP hD hS hl
      rw [fL_linked_L2] at h
      refine lv_iload_n hx hb dL_linked_2 rfl (lv_at hl 3 rfl) ?_
      refine lv_iconst (v := 4) hx hb dL_linked_3 (by decide) ?_
      refine lv_icmp_ge (tgt := 76) hx hb dL_linked_4 (by decide) (fun c2 => ?_) (fun c2 => ?_)
      · have h := if_t c2 h
        refine lv_iconst (v := 0) hx hb dL_linked_76 (by decide) ?_
        cases some_i h
        exact hend _ _ _ _ _ hP hD hS (RetOK.z dL_linked_77 (Or.inl rfl))
      · have h := if_f c2 h
        refine lv_bipush (v := 7) hx hb dL_linked_7 (by decide) ?_
        refine lv_bipush (v := 9) hx hb dL_linked_9 (by decide) ?_
        refine lv_iconst (v := 3) hx hb dL_linked_11 (by decide) ?_
        refine lv_iload_n hx hb dL_linked_12 rfl (lv_at hl 3 rfl) ?_
        refine lv_imul hx hb dL_linked_13 ?_
        refine lv_isub hx hb dL_linked_14 ?_
        refine lv_ishl hx hb dL_linked_15 ?_
        obtain ⟨x3, ex3, h⟩ := pl_ex h
        refine lv_eqi ex3 ?_
        refine lv_istore (lv' := [(4, .int x3), (0, .int p0), (1, .int p1), (2, .int p2), (3, .int v3_1)]) hx hb dL_linked_16 hl (by decide) rfl (fun ls hl => ?_)
        refine lv_iload_n hx hb dL_linked_18 rfl (lv_at hl 1 rfl) ?_
        refine lv_iload_n hx hb dL_linked_19 rfl (lv_at hl 2 rfl) ?_
        refine lv_icmp_eq (tgt := 70) hx hb dL_linked_20 (by decide) (fun c4 => ?_) (fun c4 => ?_)
        · have h := if_t c4 h
          obtain ⟨x5, ex5, h⟩ := pl_ex h
          refine lv_iinc (v := x5) (lv' := [(3, .int x5), (4, .int x3), (0, .int p0), (1, .int p1), (2, .int p2)]) hx hb dL_linked_70 hl (k := 4) rfl (by rw [← ex5]; rfl) (by decide) rfl (fun ls hl => ?_)
          refine lv_goto (tgt := 2) hx hb dL_linked_73 (by decide) ?_
          exact ih x5 _ _ _ h hP hD hS (lv_sub hl [2, 3, 4, 0] rfl)
        · have h := if_f c4 h
          refine lv_iload_n hx hb dL_linked_23 rfl (lv_at hl 1 rfl) ?_
          refine lv_iload hx hb dL_linked_24 (lv_at hl 0 rfl) ?_
          refine lv_iconst (v := -1) hx hb dL_linked_26 (by decide) ?_
          refine lv_ixor hx hb dL_linked_27 ?_
          refine lv_iand hx hb dL_linked_28 ?_
          refine lv_iload_n hx hb dL_linked_29 rfl (lv_at hl 2 rfl) ?_
          refine lv_iload hx hb dL_linked_30 (lv_at hl 0 rfl) ?_
          refine lv_iconst (v := -1) hx hb dL_linked_32 (by decide) ?_
          refine lv_ixor hx hb dL_linked_33 ?_
          refine lv_iand hx hb dL_linked_34 ?_
          refine lv_icmp_ne (tgt := 70) hx hb dL_linked_35 (by decide) (fun c6 => ?_) (fun c6 => ?_)
          · have h := if_f c6 h
            obtain ⟨x7, ex7, h⟩ := pl_ex h
            refine lv_iinc (v := x7) (lv' := [(3, .int x7), (4, .int x3), (0, .int p0), (1, .int p1), (2, .int p2)]) hx hb dL_linked_70 hl (k := 4) rfl (by rw [← ex7]; rfl) (by decide) rfl (fun ls hl => ?_)
            refine lv_goto (tgt := 2) hx hb dL_linked_73 (by decide) ?_
            exact ih x7 _ _ _ h hP hD hS (lv_sub hl [2, 3, 4, 0] rfl)
          · have h := if_t c6 h
            refine lv_iload_n hx hb dL_linked_38 rfl (lv_at hl 1 rfl) ?_
            refine lv_iload_n hx hb dL_linked_39 rfl (lv_at hl 4 rfl) ?_
            obtain ⟨r8, kr8, h⟩ := bd_ex h
            refine aft_e (st1 := [.int r8]) rfl (runS (As := [.int p0, .int v3_1]) (rest := []) ⟨hx, hb, hml, hown, hts⟩ (kL_letter l g kr8) (va_cwS 2 hts gL_linked_L_letter rfl rfl rfl hdL_letter ⟨Nat.le_of_ble_eq_true rfl, Nat.le_of_ble_eq_true rfl⟩) hK hN nilP (nilD (A := A)) rfl hl.1 rfl (Nat.le_of_ble_eq_true rfl) dL_linked_40 ⟨Nat.zero_le _, Nat.zero_le _⟩) hP hS hA (fun H locs hP hS => ?_)
            refine lv_iload_n hx hb dL_linked_43 rfl (lv_at hl 2 rfl) ?_
            refine lv_iload_n hx hb dL_linked_44 rfl (lv_at hl 4 rfl) ?_
            obtain ⟨r9, kr9, h⟩ := bd_ex h
            refine aft_e (st1 := [.int r9, .int r8]) rfl (runS (As := [.int p1, .int v3_1]) (rest := [.int r8]) ⟨hx, hb, hml, hown, hts⟩ (kL_letter l g kr9) (va_cwS 2 hts gL_linked_L_letter rfl rfl rfl hdL_letter ⟨Nat.le_of_ble_eq_true rfl, Nat.le_of_ble_eq_true rfl⟩) hK hN nilP (nilD (A := A)) rfl hl.1 rfl (Nat.le_of_ble_eq_true rfl) dL_linked_45 ⟨Nat.zero_le _, Nat.zero_le _⟩) hP hS hA (fun H locs hP hS => ?_)
            refine lv_isub hx hb dL_linked_48 ?_
            obtain ⟨x10, ex10, h⟩ := pl_ex h
            refine lv_eqi ex10 ?_
            refine lv_istore (lv' := [(5, .int x10), (4, .int x3), (0, .int p0), (1, .int p1), (2, .int p2), (3, .int v3_1)]) hx hb dL_linked_49 hl (by decide) rfl (fun ls hl => ?_)
            refine lv_iload hx hb dL_linked_51 (lv_at hl 0 rfl) ?_
            refine lv_iload_n hx hb dL_linked_53 rfl (lv_at hl 4 rfl) ?_
            obtain ⟨j11, kj11, h⟩ := bd_ex h
            have kx1 : ∀ (H : Heap) (locs : List Loc) (ls : Array Slot), va_P g.1 vwCl [] H → va_D A [] → va_S A su.heap H locs → lv_has ls 6 [] → W p l e rL_linked su m args below meth c H locs 0 0 Q (F0 m 69 ls [.int j11]) := by
              intro H locs ls hP hD hS hl
              obtain ⟨hz9, h⟩ := ck_ex h
              cases some_i h
              exact hend _ _ _ _ _ hP hD hS (RetOK.z dL_linked_69 (of_decide_eq_true hz9))
            have h := kj11
            refine lv_icmp_gt (tgt := 68) hx hb dL_linked_54 (by decide) (fun c12 => ?_) (fun c12 => ?_)
            · have h := if_t c12 h
              refine lv_iconst (v := 0) hx hb dL_linked_68 (by decide) ?_
              cases some_i h
              exact kx1 _ _ _ hP hD hS (lv_sub hl [] rfl)
            · have h := if_f c12 h
              refine lv_iload hx hb dL_linked_57 (lv_at hl 0 rfl) ?_
              refine lv_ineg hx hb dL_linked_59 ?_
              refine lv_iload_n hx hb dL_linked_60 rfl (lv_at hl 4 rfl) ?_
              refine lv_icmp_gt (tgt := 68) hx hb dL_linked_61 (by decide) (fun c13 => ?_) (fun c13 => ?_)
              · have h := if_t c13 h
                refine lv_iconst (v := 0) hx hb dL_linked_68 (by decide) ?_
                cases some_i h
                exact kx1 _ _ _ hP hD hS (lv_sub hl [] rfl)
              · have h := if_f c13 h
                refine lv_iconst (v := 1) hx hb dL_linked_64 (by decide) ?_
                refine lv_goto (tgt := 69) hx hb dL_linked_65 (by decide) ?_
                cases some_i h
                exact kx1 _ _ _ hP hD hS (lv_sub hl [] rfl)
  exact L2 1000 (0 : Int32) _ _ _ h hP hD hS (lv_sub hl [1, 2, 3, 0] rfl)
def fL_isBarred (vq : AI) (p0 : Int32) (p1 : Int32) : Option (Int32) :=
(pl (((vq (1 : Int32).toNatClampNeg) + p1)) fun (x1 : Int32) =>
(pl ((((vq (2 : Int32).toNatClampNeg) + ((x1 / (4 : Int32)) * (vq (3 : Int32).toNatClampNeg))) - ((vq (2 : Int32).toNatClampNeg) + ((x1 / (4 : Int32)) * (vq (3 : Int32).toNatClampNeg))) / (8 : Int32) * (8 : Int32))) fun (x2 : Int32) =>
(bd (fL_letter p0 (x1 - x1 / (4 : Int32) * (4 : Int32))) fun (r3 : Int32) =>
(bd (if r3 = x2 then
(some (1 : Int32))
else
(some (0 : Int32))) fun (j4 : Int32) =>
(ck (zb j4)
(some j4))))))
abbrev rL_isBarred : Room := { frames := 1, cells := 0, slots := 0, locals := 21 }
theorem hdL_isBarred : yL_isBarred.cls ≠ "java/lang/invoke/MethodHandle" ∧ yL_isBarred.cls ≠ "java/lang/invoke/VarHandle" ∧ (parseMethodDescriptor yL_isBarred.desc).map (fun d => d.parameters.length) = some 3 := by decide +kernel
set_option maxRecDepth 100000 in
set_option maxHeartbeats 16000000 in
theorem kL_isBarred (l : Launch) (g : GG) (aq : Nat) {vq : AI} {p0 : Int32} {p1 : Int32} {res : Int32} (h : fL_isBarred vq p0 p1 = some res) : Cg l g yL_isBarred wsL_isBarred rL_isBarred [.int p0, .int p1, .ref aq] ((cAr g aq 10 vq)) (some (.int res)) ((cAr g aq 10 vq)) := by
  refine Cg_of (cc := cL_isBarred) (maxL := 5) (ret := (some .boolean)) (by decide +kernel) rfl (Nat.le_of_ble_eq_true rfl) ?_
  intro p e su m args below meth c A Q ls hx hb hml hown hts hK hN hA hnm hP hD hS hl hend
  unfold fL_isBarred at h
  have hl : lv_has ls 5 [(0, .int p0), (1, .int p1), (2, .ref aq)] := hl
  refine lv_aload_n hx hb dL_isBarred_0 rfl (lv_at hl 2 rfl) ?_
  refine lv_iconst (v := 1) hx hb dL_isBarred_1 (by decide) ?_
  refine va_iald hx hb hK hP 0 0 rfl rfl (inb_in (i := 1) (n := 10) (by decide)) dL_isBarred_2 ?_
  refine lv_iload_n hx hb dL_isBarred_3 rfl (lv_at hl 1 rfl) ?_
  refine lv_iadd hx hb dL_isBarred_4 ?_
  obtain ⟨x1, ex1, h⟩ := pl_ex h
  refine lv_eqi ex1 ?_
  refine lv_istore_n (lv' := [(3, .int x1), (0, .int p0), (1, .int p1), (2, .ref aq)]) hx hb dL_isBarred_5 rfl hl (by decide) rfl (fun ls hl => ?_)
  refine lv_aload_n hx hb dL_isBarred_6 rfl (lv_at hl 3 rfl) ?_
  refine lv_iconst (v := 2) hx hb dL_isBarred_7 (by decide) ?_
  refine va_iald hx hb hK hP 0 0 rfl rfl (inb_in (i := 2) (n := 10) (by decide)) dL_isBarred_8 ?_
  refine lv_iload_n hx hb dL_isBarred_9 rfl (lv_at hl 0 rfl) ?_
  refine lv_iconst (v := 4) hx hb dL_isBarred_10 (by decide) ?_
  refine lv_idiv hx hb dL_isBarred_11 (by decide) ?_
  refine lv_aload_n hx hb dL_isBarred_12 rfl (lv_at hl 3 rfl) ?_
  refine lv_iconst (v := 3) hx hb dL_isBarred_13 (by decide) ?_
  refine va_iald hx hb hK hP 0 0 rfl rfl (inb_in (i := 3) (n := 10) (by decide)) dL_isBarred_14 ?_
  refine lv_imul hx hb dL_isBarred_15 ?_
  refine lv_iadd hx hb dL_isBarred_16 ?_
  refine lv_bipush (v := 8) hx hb dL_isBarred_17 (by decide) ?_
  refine lv_irem hx hb dL_isBarred_19 (by decide) ?_
  obtain ⟨x2, ex2, h⟩ := pl_ex h
  refine lv_eqi ex2 ?_
  refine lv_istore (lv' := [(4, .int x2), (3, .int x1), (0, .int p0), (1, .int p1), (2, .ref aq)]) hx hb dL_isBarred_20 hl (by decide) rfl (fun ls hl => ?_)
  refine lv_iload_n hx hb dL_isBarred_22 rfl (lv_at hl 2 rfl) ?_
  refine lv_iload_n hx hb dL_isBarred_23 rfl (lv_at hl 1 rfl) ?_
  refine lv_iconst (v := 4) hx hb dL_isBarred_24 (by decide) ?_
  refine lv_irem hx hb dL_isBarred_25 (by decide) ?_
  obtain ⟨r3, kr3, h⟩ := bd_ex h
  refine aft_e (st1 := [.int r3]) rfl (runS (As := [.int p0, .int (x1 - x1 / (4 : Int32) * (4 : Int32))]) (rest := []) ⟨hx, hb, hml, hown, hts⟩ (kL_letter l g kr3) (va_cwS 2 hts gL_isBarred_L_letter rfl rfl rfl hdL_letter ⟨Nat.le_of_ble_eq_true rfl, Nat.le_of_ble_eq_true rfl⟩) hK hN nilP (nilD (A := A)) rfl hl.1 rfl (Nat.le_of_ble_eq_true rfl) dL_isBarred_26 ⟨Nat.zero_le _, Nat.zero_le _⟩) hP hS hA (fun H locs hP hS => ?_)
  refine lv_iload hx hb dL_isBarred_29 (lv_at hl 0 rfl) ?_
  obtain ⟨j4, kj4, h⟩ := bd_ex h
  have kx1 : ∀ (H : Heap) (locs : List Loc) (ls : Array Slot), va_P g.1 vwCl ((cAr g aq 10 vq)) H → va_D A ((cAr g aq 10 vq)) → va_S A su.heap H locs → lv_has ls 5 [] → W p l e rL_isBarred su m args below meth c H locs 0 0 Q (F0 m 39 ls [.int j4]) := by
    intro H locs ls hP hD hS hl
    obtain ⟨hz9, h⟩ := ck_ex h
    cases some_i h
    exact hend _ _ _ _ _ hP hD hS (RetOK.z dL_isBarred_39 (of_decide_eq_true hz9))
  have h := kj4
  refine lv_icmp_ne (tgt := 38) hx hb dL_isBarred_31 (by decide) (fun c5 => ?_) (fun c5 => ?_)
  · have h := if_f c5 h
    refine lv_iconst (v := 0) hx hb dL_isBarred_38 (by decide) ?_
    cases some_i h
    exact kx1 _ _ _ hP hD hS (lv_sub hl [] rfl)
  · have h := if_t c5 h
    refine lv_iconst (v := 1) hx hb dL_isBarred_34 (by decide) ?_
    refine lv_goto (tgt := 39) hx hb dL_isBarred_35 (by decide) ?_
    cases some_i h
    exact kx1 _ _ _ hP hD hS (lv_sub hl [] rfl)
def fL_lays_L16 (vq : AI) (vw : AI) (v3_1 : Int32) : Nat → Int32 → AI → Option (AI)
  | 0, _, _ => none
  | n + 1, v4_6, vl7 =>
    (if (vq (0 : Int32).toNatClampNeg) ≤ v4_6 then
    (some vl7)
    else
    (ck (inb v3_1 24)
    (ck (inb v3_1 24)
    (ck (inb v4_6 24)
    (bd (fL_linked (vw v3_1.toNatClampNeg) (vw v4_6.toNatClampNeg) (vq (4 : Int32).toNatClampNeg)) fun (r10 : Int32) =>
    (bd (if r10 = (0 : Int32) then
    (some (0 : Int32))
    else
    (some ((1 : Int32) <<< (v4_6 &&& 31)))) fun (j11 : Int32) =>
    (ck (inb v3_1 24)
    (pl (upd vl7 v3_1.toNatClampNeg ((vl7 v3_1.toNatClampNeg) ||| j11)) fun (vl12 : AI) =>
    (pl ((v4_6 + (1 : Int32))) fun (x13 : Int32) =>
    (fL_lays_L16 vq vw v3_1 n x13 vl12))))))))))
def fL_lays_L2 (vq : AI) (vw : AI) : Nat → Int32 → AI → Option (AI)
  | 0, _, _ => none
  | n + 1, v3_1, vl2 =>
    (if (vq (0 : Int32).toNatClampNeg) ≤ v3_1 then
    (some vl2)
    else
    (ck (inb v3_1 24)
    (pl (upd vl2 v3_1.toNatClampNeg (0 : Int32)) fun (vl5 : AI) =>
    (bd (fL_lays_L16 vq vw v3_1 1000 (0 : Int32) vl5) fun (vl15 : AI) =>
    (pl ((v3_1 + (1 : Int32))) fun (x16 : Int32) =>
    (fL_lays_L2 vq vw n x16 vl15))))))
def fL_lays (vq : AI) (vw : AI) (vl : AI) : Option (AI) :=
(bd (fL_lays_L2 vq vw 1000 (0 : Int32) vl) fun (vl17 : AI) =>
(some vl17))
abbrev rL_lays : Room := { frames := 2, cells := 0, slots := 0, locals := 46 }
theorem hdL_lays : yL_lays.cls ≠ "java/lang/invoke/MethodHandle" ∧ yL_lays.cls ≠ "java/lang/invoke/VarHandle" ∧ (parseMethodDescriptor yL_lays.desc).map (fun d => d.parameters.length) = some 3 := by decide +kernel
set_option maxRecDepth 100000 in
set_option maxHeartbeats 16000000 in
theorem kL_lays (l : Launch) (g : GG) (aq aw al : Nat) {vq : AI} {vw : AI} {vl : AI} {vl' : AI} (h : fL_lays vq vw vl = some vl') : Cg l g yL_lays wsL_lays rL_lays [.ref aq, .ref aw, .ref al] ((cAr g aq 10 vq) ++ ((cAr g aw 24 vw) ++ ((cAr g al 24 vl)))) (none) ((cAr g aq 10 vq) ++ ((cAr g aw 24 vw) ++ ((cAr g al 24 vl')))) := by
  refine Cg_of (cc := cL_lays) (maxL := 5) (ret := none) (by decide +kernel) rfl (Nat.le_of_ble_eq_true rfl) ?_
  intro p e su m args below meth c A Q ls hx hb hml hown hts hK hN hA hnm hP hD hS hl hend
  unfold fL_lays at h
  have hl : lv_has ls 5 [(0, .ref aq), (1, .ref aw), (2, .ref al)] := hl
  refine lv_iconst (v := 0) hx hb dL_lays_0 (by decide) ?_
  refine lv_istore_n (lv' := [(3, .int (0 : Int32)), (0, .ref aq), (1, .ref aw), (2, .ref al)]) hx hb dL_lays_1 rfl hl (by decide) rfl (fun ls hl => ?_)
  have L2 : ∀ (n : Nat) (v3_1 : Int32) (vl2 : AI) (vl3 : AI) (H : Heap) (locs : List Loc) (ls : Array Slot), fL_lays_L2 vq vw n v3_1 vl2 = some vl3 → va_P g.1 vwCl ((cAr g aq 10 vq) ++ ((cAr g aw 24 vw) ++ ((cAr g al 24 vl2)))) H → va_D A ((cAr g aq 10 vq) ++ ((cAr g aw 24 vw) ++ ((cAr g al 24 vl2)))) → va_S A su.heap H locs → lv_has ls 5 [(0, .ref aq), (1, .ref aw), (2, .ref al), (3, .int v3_1)] → (∀ (H : Heap) (locs : List Loc) (ls : Array Slot), va_P g.1 vwCl ((cAr g aq 10 vq) ++ ((cAr g aw 24 vw) ++ ((cAr g al 24 vl3)))) H → va_D A ((cAr g aq 10 vq) ++ ((cAr g aw 24 vw) ++ ((cAr g al 24 vl3)))) → va_S A su.heap H locs → lv_has ls 5 [] → W p l e rL_lays su m args below meth c H locs 0 0 Q (F0 m 66 ls [])) → W p l e rL_lays su m args below meth c H locs 0 0 Q (F0 m 2 ls []) := by
    intro n
    induction n with
    | zero => intro v3_1 vl2 vl3 H locs ls h hP hD hS hl kx; cases h
    | succ n ih =>
      intro v3_1 vl2 vl3 H locs ls h hP hD hS hl kx
      rw [fL_lays_L2] at h
      refine lv_iload_n hx hb dL_lays_2 rfl (lv_at hl 3 rfl) ?_
      refine lv_aload_n hx hb dL_lays_3 rfl (lv_at hl 0 rfl) ?_
      refine lv_iconst (v := 0) hx hb dL_lays_4 (by decide) ?_
      refine va_iald hx hb hK hP 0 0 rfl rfl (inb_in (i := 0) (n := 10) (by decide)) dL_lays_5 ?_
      refine lv_icmp_ge (tgt := 66) hx hb dL_lays_6 (by decide) (fun c4 => ?_) (fun c4 => ?_)
      · have h := if_t c4 h
        cases some_i h
        exact kx _ _ _ hP hD hS (lv_sub hl [] rfl)
      · have h := if_f c4 h
        refine lv_aload_n hx hb dL_lays_9 rfl (lv_at hl 2 rfl) ?_
        refine lv_iload_n hx hb dL_lays_10 rfl (lv_at hl 3 rfl) ?_
        refine lv_iconst (v := 0) hx hb dL_lays_11 (by decide) ?_
        obtain ⟨hi9, h⟩ := ck_ex h
        obtain ⟨vl5, evl5, h⟩ := pl_ex h
        refine va_iast hx hb hK hP hD hS 2 0 rfl rfl (inb_in hi9) dL_lays_12 (fun H locs hP hD hS => ?_)
        have hP : va_P g.1 vwCl ((cAr g aq 10 vq) ++ ((cAr g aw 24 vw) ++ ((cAr g al 24 vl5)))) H := by rw [← evl5]; exact hP
        have hD : va_D A ((cAr g aq 10 vq) ++ ((cAr g aw 24 vw) ++ ((cAr g al 24 vl5)))) := by rw [← evl5]; exact hD
        refine lv_iconst (v := 0) hx hb dL_lays_13 (by decide) ?_
        refine lv_istore (lv' := [(4, .int (0 : Int32)), (0, .ref aq), (1, .ref aw), (2, .ref al), (3, .int v3_1)]) hx hb dL_lays_14 hl (by decide) rfl (fun ls hl => ?_)
        have L16 : ∀ (n : Nat) (v4_6 : Int32) (vl7 : AI) (vl8 : AI) (H : Heap) (locs : List Loc) (ls : Array Slot), fL_lays_L16 vq vw v3_1 n v4_6 vl7 = some vl8 → va_P g.1 vwCl ((cAr g aq 10 vq) ++ ((cAr g aw 24 vw) ++ ((cAr g al 24 vl7)))) H → va_D A ((cAr g aq 10 vq) ++ ((cAr g aw 24 vw) ++ ((cAr g al 24 vl7)))) → va_S A su.heap H locs → lv_has ls 5 [(0, .ref aq), (1, .ref aw), (2, .ref al), (3, .int v3_1), (4, .int v4_6)] → (∀ (H : Heap) (locs : List Loc) (ls : Array Slot), va_P g.1 vwCl ((cAr g aq 10 vq) ++ ((cAr g aw 24 vw) ++ ((cAr g al 24 vl8)))) H → va_D A ((cAr g aq 10 vq) ++ ((cAr g aw 24 vw) ++ ((cAr g al 24 vl8)))) → va_S A su.heap H locs → lv_has ls 5 [(0, .ref aq), (1, .ref aw), (2, .ref al), (3, .int v3_1)] → W p l e rL_lays su m args below meth c H locs 0 0 Q (F0 m 60 ls [])) → W p l e rL_lays su m args below meth c H locs 0 0 Q (F0 m 16 ls []) := by
          intro n
          induction n with
          | zero => intro v4_6 vl7 vl8 H locs ls h hP hD hS hl kx; cases h
          | succ n ih =>
            intro v4_6 vl7 vl8 H locs ls h hP hD hS hl kx
            rw [fL_lays_L16] at h
            refine lv_iload hx hb dL_lays_16 (lv_at hl 4 rfl) ?_
            refine lv_aload_n hx hb dL_lays_18 rfl (lv_at hl 0 rfl) ?_
            refine lv_iconst (v := 0) hx hb dL_lays_19 (by decide) ?_
            refine va_iald hx hb hK hP 0 0 rfl rfl (inb_in (i := 0) (n := 10) (by decide)) dL_lays_20 ?_
            refine lv_icmp_ge (tgt := 60) hx hb dL_lays_21 (by decide) (fun c9 => ?_) (fun c9 => ?_)
            · have h := if_t c9 h
              cases some_i h
              exact kx _ _ _ hP hD hS (lv_sub hl [0, 1, 2, 3] rfl)
            · have h := if_f c9 h
              refine lv_aload_n hx hb dL_lays_24 rfl (lv_at hl 2 rfl) ?_
              refine lv_iload_n hx hb dL_lays_25 rfl (lv_at hl 3 rfl) ?_
              refine lv_dup2_11 hx hb dL_lays_26 rfl rfl ?_
              obtain ⟨hi9, h⟩ := ck_ex h
              refine va_iald hx hb hK hP 2 0 rfl rfl (inb_in hi9) dL_lays_27 ?_
              refine lv_aload_n hx hb dL_lays_28 rfl (lv_at hl 1 rfl) ?_
              refine lv_iload_n hx hb dL_lays_29 rfl (lv_at hl 3 rfl) ?_
              obtain ⟨hi9, h⟩ := ck_ex h
              refine va_iald hx hb hK hP 1 0 rfl rfl (inb_in hi9) dL_lays_30 ?_
              refine lv_aload_n hx hb dL_lays_31 rfl (lv_at hl 1 rfl) ?_
              refine lv_iload hx hb dL_lays_32 (lv_at hl 4 rfl) ?_
              obtain ⟨hi9, h⟩ := ck_ex h
              refine va_iald hx hb hK hP 1 0 rfl rfl (inb_in hi9) dL_lays_34 ?_
              refine lv_aload_n hx hb dL_lays_35 rfl (lv_at hl 0 rfl) ?_
              refine lv_iconst (v := 4) hx hb dL_lays_36 (by decide) ?_
              refine va_iald hx hb hK hP 0 0 rfl rfl (inb_in (i := 4) (n := 10) (by decide)) dL_lays_37 ?_
              obtain ⟨r10, kr10, h⟩ := bd_ex h
              refine aft_e (st1 := [.int r10, .int (vl7 v3_1.toNatClampNeg), .int v3_1, .ref al]) rfl (runS (As := [.int (vw v3_1.toNatClampNeg), .int (vw v4_6.toNatClampNeg), .int (vq (4 : Int32).toNatClampNeg)]) (rest := [.int (vl7 v3_1.toNatClampNeg), .int v3_1, .ref al]) ⟨hx, hb, hml, hown, hts⟩ (kL_linked l g kr10) (va_cwS 3 hts gL_lays_L_linked rfl rfl rfl hdL_linked ⟨Nat.le_of_ble_eq_true rfl, Nat.le_of_ble_eq_true rfl⟩) hK hN nilP (nilD (A := A)) rfl hl.1 rfl (Nat.le_of_ble_eq_true rfl) dL_lays_38 ⟨Nat.zero_le _, Nat.zero_le _⟩) hP hS hA (fun H locs hP hS => ?_)
              obtain ⟨j11, kj11, h⟩ := bd_ex h
              have kx1 : ∀ (H : Heap) (locs : List Loc) (ls : Array Slot), va_P g.1 vwCl ((cAr g aq 10 vq) ++ ((cAr g aw 24 vw) ++ ((cAr g al 24 vl7)))) H → va_D A ((cAr g aq 10 vq) ++ ((cAr g aw 24 vw) ++ ((cAr g al 24 vl7)))) → va_S A su.heap H locs → lv_has ls 5 [(0, .ref aq), (1, .ref aw), (2, .ref al), (3, .int v3_1), (4, .int v4_6)] → W p l e rL_lays su m args below meth c H locs 0 0 Q (F0 m 52 ls [.int j11, .int (vl7 v3_1.toNatClampNeg), .int v3_1, .ref al]) := by
                intro H locs ls hP hD hS hl
                refine lv_ior hx hb dL_lays_52 ?_
                obtain ⟨hi9, h⟩ := ck_ex h
                obtain ⟨vl12, evl12, h⟩ := pl_ex h
                refine va_iast hx hb hK hP hD hS 2 0 rfl rfl (inb_in hi9) dL_lays_53 (fun H locs hP hD hS => ?_)
                have hP : va_P g.1 vwCl ((cAr g aq 10 vq) ++ ((cAr g aw 24 vw) ++ ((cAr g al 24 vl12)))) H := by rw [← evl12]; exact hP
                have hD : va_D A ((cAr g aq 10 vq) ++ ((cAr g aw 24 vw) ++ ((cAr g al 24 vl12)))) := by rw [← evl12]; exact hD
                obtain ⟨x13, ex13, h⟩ := pl_ex h
                refine lv_iinc (v := x13) (lv' := [(4, .int x13), (0, .ref aq), (1, .ref aw), (2, .ref al), (3, .int v3_1)]) hx hb dL_lays_54 hl (k := 4) rfl (by rw [← ex13]; rfl) (by decide) rfl (fun ls hl => ?_)
                refine lv_goto (tgt := 16) hx hb dL_lays_57 (by decide) ?_
                exact ih x13 vl12 _ _ _ _ h hP hD hS (lv_sub hl [1, 2, 3, 4, 0] rfl) kx
              have h := kj11
              refine lv_if_eq (tgt := 51) hx hb dL_lays_41 (by decide) (fun c14 => ?_) (fun c14 => ?_)
              · have h := if_t c14 h
                refine lv_iconst (v := 0) hx hb dL_lays_51 (by decide) ?_
                cases some_i h
                exact kx1 _ _ _ hP hD hS (lv_sub hl [0, 1, 2, 3, 4] rfl)
              · have h := if_f c14 h
                refine lv_iconst (v := 1) hx hb dL_lays_44 (by decide) ?_
                refine lv_iload hx hb dL_lays_45 (lv_at hl 4 rfl) ?_
                refine lv_ishl hx hb dL_lays_47 ?_
                refine lv_goto (tgt := 52) hx hb dL_lays_48 (by decide) ?_
                cases some_i h
                exact kx1 _ _ _ hP hD hS (lv_sub hl [0, 1, 2, 3, 4] rfl)
        obtain ⟨vl15, kvl15, h⟩ := bd_ex h
        refine L16 1000 (0 : Int32) vl5 vl15 _ _ _ kvl15 hP hD hS (lv_sub hl [1, 2, 3, 4, 0] rfl) (fun H locs ls hP hD hS hl => ?_)
        obtain ⟨x16, ex16, h⟩ := pl_ex h
        refine lv_iinc (v := x16) (lv' := [(3, .int x16), (0, .ref aq), (1, .ref aw), (2, .ref al)]) hx hb dL_lays_60 hl (k := 3) rfl (by rw [← ex16]; rfl) (by decide) rfl (fun ls hl => ?_)
        refine lv_goto (tgt := 2) hx hb dL_lays_63 (by decide) ?_
        exact ih x16 vl15 _ _ _ _ h hP hD hS (lv_sub hl [1, 2, 3, 0] rfl) kx
  obtain ⟨vl17, kvl17, h⟩ := bd_ex h
  refine L2 1000 (0 : Int32) vl vl17 _ _ _ kvl17 hP hD hS (lv_sub hl [1, 2, 3, 0] rfl) (fun H locs ls hP hD hS hl => ?_)
  cases some_i h
  exact hend _ _ _ _ _ hP hD hS (RetOK.v dL_lays_66)
def fL_beside_L5 (vq : AI) (vl : AI) (p0 : Int32) : Nat → Int32 → Int32 → Option (Int32)
  | 0, _, _ => none
  | n + 1, v3_1, v4_2 =>
    (if (vq (0 : Int32).toNatClampNeg) ≤ v4_2 then
    (some v3_1)
    else
    (bd (if ((p0 >>> (v4_2 &&& 31)) &&& (1 : Int32)) = (1 : Int32) then
    (ck (inb v4_2 24)
    (some (vl v4_2.toNatClampNeg)))
    else
    (some (0 : Int32))) fun (j5 : Int32) =>
    (pl ((v3_1 ||| j5)) fun (x6 : Int32) =>
    (pl ((v4_2 + (1 : Int32))) fun (x7 : Int32) =>
    (fL_beside_L5 vq vl p0 n x6 x7)))))
def fL_beside (vq : AI) (vl : AI) (p0 : Int32) : Option (Int32) :=
(bd (fL_beside_L5 vq vl p0 1000 (0 : Int32) (0 : Int32)) fun (v3_9 : Int32) =>
(some v3_9))
abbrev rL_beside : Room := { frames := 0, cells := 0, slots := 0, locals := 0 }
theorem hdL_beside : yL_beside.cls ≠ "java/lang/invoke/MethodHandle" ∧ yL_beside.cls ≠ "java/lang/invoke/VarHandle" ∧ (parseMethodDescriptor yL_beside.desc).map (fun d => d.parameters.length) = some 3 := by decide +kernel
set_option maxRecDepth 100000 in
set_option maxHeartbeats 16000000 in
theorem kL_beside (l : Launch) (g : GG) (aq al : Nat) {vq : AI} {vl : AI} {p0 : Int32} {res : Int32} (h : fL_beside vq vl p0 = some res) : Cg l g yL_beside wsL_beside rL_beside [.int p0, .ref aq, .ref al] ((cAr g aq 10 vq) ++ ((cAr g al 24 vl))) (some (.int res)) ((cAr g aq 10 vq) ++ ((cAr g al 24 vl))) := by
  refine Cg_of (cc := cL_beside) (maxL := 5) (ret := (some .int)) (by decide +kernel) rfl (Nat.le_of_ble_eq_true rfl) ?_
  intro p e su m args below meth c A Q ls hx hb hml hown hts hK hN hA hnm hP hD hS hl hend
  unfold fL_beside at h
  have hl : lv_has ls 5 [(0, .int p0), (1, .ref aq), (2, .ref al)] := hl
  refine lv_iconst (v := 0) hx hb dL_beside_0 (by decide) ?_
  refine lv_istore_n (lv' := [(3, .int (0 : Int32)), (0, .int p0), (1, .ref aq), (2, .ref al)]) hx hb dL_beside_1 rfl hl (by decide) rfl (fun ls hl => ?_)
  refine lv_iconst (v := 0) hx hb dL_beside_2 (by decide) ?_
  refine lv_istore (lv' := [(4, .int (0 : Int32)), (3, .int (0 : Int32)), (0, .int p0), (1, .ref aq), (2, .ref al)]) hx hb dL_beside_3 hl (by decide) rfl (fun ls hl => ?_)
  have L5 : ∀ (n : Nat) (v3_1 : Int32) (v4_2 : Int32) (y3_3 : Int32) (H : Heap) (locs : List Loc) (ls : Array Slot), fL_beside_L5 vq vl p0 n v3_1 v4_2 = some y3_3 → va_P g.1 vwCl ((cAr g aq 10 vq) ++ ((cAr g al 24 vl))) H → va_D A ((cAr g aq 10 vq) ++ ((cAr g al 24 vl))) → va_S A su.heap H locs → lv_has ls 5 [(0, .int p0), (1, .ref aq), (2, .ref al), (3, .int v3_1), (4, .int v4_2)] → (∀ (H : Heap) (locs : List Loc) (ls : Array Slot), va_P g.1 vwCl ((cAr g aq 10 vq) ++ ((cAr g al 24 vl))) H → va_D A ((cAr g aq 10 vq) ++ ((cAr g al 24 vl))) → va_S A su.heap H locs → lv_has ls 5 [(3, .int y3_3)] → W p l e rL_beside su m args below meth c H locs 0 0 Q (F0 m 40 ls [])) → W p l e rL_beside su m args below meth c H locs 0 0 Q (F0 m 5 ls []) := by
    intro n
    induction n with
    | zero => intro v3_1 v4_2 y3_3 H locs ls h hP hD hS hl kx; cases h
    | succ n ih =>
      intro v3_1 v4_2 y3_3 H locs ls h hP hD hS hl kx
      rw [fL_beside_L5] at h
      refine lv_iload hx hb dL_beside_5 (lv_at hl 4 rfl) ?_
      refine lv_aload_n hx hb dL_beside_7 rfl (lv_at hl 1 rfl) ?_
      refine lv_iconst (v := 0) hx hb dL_beside_8 (by decide) ?_
      refine va_iald hx hb hK hP 0 0 rfl rfl (inb_in (i := 0) (n := 10) (by decide)) dL_beside_9 ?_
      refine lv_icmp_ge (tgt := 40) hx hb dL_beside_10 (by decide) (fun c4 => ?_) (fun c4 => ?_)
      · have h := if_t c4 h
        cases some_i h
        exact kx _ _ _ hP hD hS (lv_sub hl [3] rfl)
      · have h := if_f c4 h
        refine lv_iload_n hx hb dL_beside_13 rfl (lv_at hl 3 rfl) ?_
        refine lv_iload_n hx hb dL_beside_14 rfl (lv_at hl 0 rfl) ?_
        refine lv_iload hx hb dL_beside_15 (lv_at hl 4 rfl) ?_
        refine lv_ishr hx hb dL_beside_17 ?_
        refine lv_iconst (v := 1) hx hb dL_beside_18 (by decide) ?_
        refine lv_iand hx hb dL_beside_19 ?_
        refine lv_iconst (v := 1) hx hb dL_beside_20 (by decide) ?_
        obtain ⟨j5, kj5, h⟩ := bd_ex h
        have kx1 : ∀ (H : Heap) (locs : List Loc) (ls : Array Slot), va_P g.1 vwCl ((cAr g aq 10 vq) ++ ((cAr g al 24 vl))) H → va_D A ((cAr g aq 10 vq) ++ ((cAr g al 24 vl))) → va_S A su.heap H locs → lv_has ls 5 [(0, .int p0), (1, .ref aq), (2, .ref al), (4, .int v4_2)] → W p l e rL_beside su m args below meth c H locs 0 0 Q (F0 m 32 ls [.int j5, .int v3_1]) := by
          intro H locs ls hP hD hS hl
          refine lv_ior hx hb dL_beside_32 ?_
          obtain ⟨x6, ex6, h⟩ := pl_ex h
          refine lv_eqi ex6 ?_
          refine lv_istore_n (lv' := [(3, .int x6), (0, .int p0), (1, .ref aq), (2, .ref al), (4, .int v4_2)]) hx hb dL_beside_33 rfl hl (by decide) rfl (fun ls hl => ?_)
          obtain ⟨x7, ex7, h⟩ := pl_ex h
          refine lv_iinc (v := x7) (lv' := [(4, .int x7), (3, .int x6), (0, .int p0), (1, .ref aq), (2, .ref al)]) hx hb dL_beside_34 hl (k := 4) rfl (by rw [← ex7]; rfl) (by decide) rfl (fun ls hl => ?_)
          refine lv_goto (tgt := 5) hx hb dL_beside_37 (by decide) ?_
          exact ih x6 x7 _ _ _ _ h hP hD hS (lv_sub hl [2, 3, 4, 1, 0] rfl) kx
        have h := kj5
        refine lv_icmp_ne (tgt := 31) hx hb dL_beside_21 (by decide) (fun c8 => ?_) (fun c8 => ?_)
        · have h := if_f c8 h
          refine lv_iconst (v := 0) hx hb dL_beside_31 (by decide) ?_
          cases some_i h
          exact kx1 _ _ _ hP hD hS (lv_sub hl [0, 1, 2, 4] rfl)
        · have h := if_t c8 h
          refine lv_aload_n hx hb dL_beside_24 rfl (lv_at hl 2 rfl) ?_
          refine lv_iload hx hb dL_beside_25 (lv_at hl 4 rfl) ?_
          obtain ⟨hi9, h⟩ := ck_ex h
          refine va_iald hx hb hK hP 1 0 rfl rfl (inb_in hi9) dL_beside_27 ?_
          refine lv_goto (tgt := 32) hx hb dL_beside_28 (by decide) ?_
          cases some_i h
          exact kx1 _ _ _ hP hD hS (lv_sub hl [0, 1, 2, 4] rfl)
  obtain ⟨v3_9, kv3_9, h⟩ := bd_ex h
  refine L5 1000 (0 : Int32) (0 : Int32) v3_9 _ _ _ kv3_9 hP hD hS (lv_sub hl [2, 3, 4, 1, 0] rfl) (fun H locs ls hP hD hS hl => ?_)
  refine lv_iload_n hx hb dL_beside_40 rfl (lv_at hl 0 rfl) ?_
  cases some_i h
  exact hend _ _ _ _ _ hP hD hS (RetOK.i dL_beside_41)
def fL_barredSet_L5 (vq : AI) (vw : AI) (p0 : Int32) : Nat → Int32 → Int32 → Option (Int32)
  | 0, _, _ => none
  | n + 1, v3_1, v4_2 =>
    (if (vq (0 : Int32).toNatClampNeg) ≤ v4_2 then
    (some v3_1)
    else
    (ck (inb v4_2 24)
    (bd (fL_isBarred vq (vw v4_2.toNatClampNeg) p0) fun (r5 : Int32) =>
    (bd (if r5 = (0 : Int32) then
    (some (0 : Int32))
    else
    (some ((1 : Int32) <<< (v4_2 &&& 31)))) fun (j6 : Int32) =>
    (pl ((v3_1 ||| j6)) fun (x7 : Int32) =>
    (pl ((v4_2 + (1 : Int32))) fun (x8 : Int32) =>
    (fL_barredSet_L5 vq vw p0 n x7 x8)))))))
def fL_barredSet (vq : AI) (vw : AI) (p0 : Int32) : Option (Int32) :=
(bd (fL_barredSet_L5 vq vw p0 1000 (0 : Int32) (0 : Int32)) fun (v3_10 : Int32) =>
(some v3_10))
abbrev rL_barredSet : Room := { frames := 2, cells := 0, slots := 0, locals := 45 }
theorem hdL_barredSet : yL_barredSet.cls ≠ "java/lang/invoke/MethodHandle" ∧ yL_barredSet.cls ≠ "java/lang/invoke/VarHandle" ∧ (parseMethodDescriptor yL_barredSet.desc).map (fun d => d.parameters.length) = some 3 := by decide +kernel
set_option maxRecDepth 100000 in
set_option maxHeartbeats 16000000 in
theorem kL_barredSet (l : Launch) (g : GG) (aq aw : Nat) {vq : AI} {vw : AI} {p0 : Int32} {res : Int32} (h : fL_barredSet vq vw p0 = some res) : Cg l g yL_barredSet wsL_barredSet rL_barredSet [.int p0, .ref aq, .ref aw] ((cAr g aq 10 vq) ++ ((cAr g aw 24 vw))) (some (.int res)) ((cAr g aq 10 vq) ++ ((cAr g aw 24 vw))) := by
  refine Cg_of (cc := cL_barredSet) (maxL := 5) (ret := (some .int)) (by decide +kernel) rfl (Nat.le_of_ble_eq_true rfl) ?_
  intro p e su m args below meth c A Q ls hx hb hml hown hts hK hN hA hnm hP hD hS hl hend
  unfold fL_barredSet at h
  have hl : lv_has ls 5 [(0, .int p0), (1, .ref aq), (2, .ref aw)] := hl
  refine lv_iconst (v := 0) hx hb dL_barredSet_0 (by decide) ?_
  refine lv_istore_n (lv' := [(3, .int (0 : Int32)), (0, .int p0), (1, .ref aq), (2, .ref aw)]) hx hb dL_barredSet_1 rfl hl (by decide) rfl (fun ls hl => ?_)
  refine lv_iconst (v := 0) hx hb dL_barredSet_2 (by decide) ?_
  refine lv_istore (lv' := [(4, .int (0 : Int32)), (3, .int (0 : Int32)), (0, .int p0), (1, .ref aq), (2, .ref aw)]) hx hb dL_barredSet_3 hl (by decide) rfl (fun ls hl => ?_)
  have L5 : ∀ (n : Nat) (v3_1 : Int32) (v4_2 : Int32) (y3_3 : Int32) (H : Heap) (locs : List Loc) (ls : Array Slot), fL_barredSet_L5 vq vw p0 n v3_1 v4_2 = some y3_3 → va_P g.1 vwCl ((cAr g aq 10 vq) ++ ((cAr g aw 24 vw))) H → va_D A ((cAr g aq 10 vq) ++ ((cAr g aw 24 vw))) → va_S A su.heap H locs → lv_has ls 5 [(0, .int p0), (1, .ref aq), (2, .ref aw), (3, .int v3_1), (4, .int v4_2)] → (∀ (H : Heap) (locs : List Loc) (ls : Array Slot), va_P g.1 vwCl ((cAr g aq 10 vq) ++ ((cAr g aw 24 vw))) H → va_D A ((cAr g aq 10 vq) ++ ((cAr g aw 24 vw))) → va_S A su.heap H locs → lv_has ls 5 [(3, .int y3_3)] → W p l e rL_barredSet su m args below meth c H locs 0 0 Q (F0 m 42 ls [])) → W p l e rL_barredSet su m args below meth c H locs 0 0 Q (F0 m 5 ls []) := by
    intro n
    induction n with
    | zero => intro v3_1 v4_2 y3_3 H locs ls h hP hD hS hl kx; cases h
    | succ n ih =>
      intro v3_1 v4_2 y3_3 H locs ls h hP hD hS hl kx
      rw [fL_barredSet_L5] at h
      refine lv_iload hx hb dL_barredSet_5 (lv_at hl 4 rfl) ?_
      refine lv_aload_n hx hb dL_barredSet_7 rfl (lv_at hl 1 rfl) ?_
      refine lv_iconst (v := 0) hx hb dL_barredSet_8 (by decide) ?_
      refine va_iald hx hb hK hP 0 0 rfl rfl (inb_in (i := 0) (n := 10) (by decide)) dL_barredSet_9 ?_
      refine lv_icmp_ge (tgt := 42) hx hb dL_barredSet_10 (by decide) (fun c4 => ?_) (fun c4 => ?_)
      · have h := if_t c4 h
        cases some_i h
        exact kx _ _ _ hP hD hS (lv_sub hl [3] rfl)
      · have h := if_f c4 h
        refine lv_iload_n hx hb dL_barredSet_13 rfl (lv_at hl 3 rfl) ?_
        refine lv_aload_n hx hb dL_barredSet_14 rfl (lv_at hl 2 rfl) ?_
        refine lv_iload hx hb dL_barredSet_15 (lv_at hl 4 rfl) ?_
        obtain ⟨hi9, h⟩ := ck_ex h
        refine va_iald hx hb hK hP 1 0 rfl rfl (inb_in hi9) dL_barredSet_17 ?_
        refine lv_iload_n hx hb dL_barredSet_18 rfl (lv_at hl 0 rfl) ?_
        refine lv_aload_n hx hb dL_barredSet_19 rfl (lv_at hl 1 rfl) ?_
        obtain ⟨r5, kr5, h⟩ := bd_ex h
        have pq : (((cAr g aq 10 vq) ++ ((cAr g aw 24 vw))) : va_W).Perm (((cAr g aq 10 vq)) ++ ((cAr g aw 24 vw))) := pmS [(cAr g aq 10 vq), (cAr g aw 24 vw)] [0, 1] [0] [1] (by decide)
        have pr : ((((cAr g aq 10 vq)) ++ ((cAr g aw 24 vw))) : va_W).Perm ((cAr g aq 10 vq) ++ ((cAr g aw 24 vw))) := (pmS [(cAr g aq 10 vq), (cAr g aw 24 vw)] [0, 1] [0] [1] (by decide)).symm
        refine aft_p (st1 := [.int r5, .int v3_1]) (ws' := ((cAr g aq 10 vq) ++ ((cAr g aw 24 vw)))) rfl pq pr (runS (As := [.int (vw v4_2.toNatClampNeg), .int p0, .ref aq]) (rest := [.int v3_1]) ⟨hx, hb, hml, hown, hts⟩ (kL_isBarred l g aq kr5) (va_cwS 3 hts gL_barredSet_L_isBarred rfl rfl rfl hdL_isBarred ⟨Nat.le_of_ble_eq_true rfl, Nat.le_of_ble_eq_true rfl⟩) hK hN (hP.perm pq).left (hD.perm pq).left rfl hl.1 rfl (Nat.le_of_ble_eq_true rfl) dL_barredSet_20 ⟨Nat.zero_le _, Nat.zero_le _⟩) hP hD hS hA (fun H locs hP hD hS => ?_)
        obtain ⟨j6, kj6, h⟩ := bd_ex h
        have kx1 : ∀ (H : Heap) (locs : List Loc) (ls : Array Slot), va_P g.1 vwCl ((cAr g aq 10 vq) ++ ((cAr g aw 24 vw))) H → va_D A ((cAr g aq 10 vq) ++ ((cAr g aw 24 vw))) → va_S A su.heap H locs → lv_has ls 5 [(0, .int p0), (1, .ref aq), (2, .ref aw), (4, .int v4_2)] → W p l e rL_barredSet su m args below meth c H locs 0 0 Q (F0 m 34 ls [.int j6, .int v3_1]) := by
          intro H locs ls hP hD hS hl
          refine lv_ior hx hb dL_barredSet_34 ?_
          obtain ⟨x7, ex7, h⟩ := pl_ex h
          refine lv_eqi ex7 ?_
          refine lv_istore_n (lv' := [(3, .int x7), (0, .int p0), (1, .ref aq), (2, .ref aw), (4, .int v4_2)]) hx hb dL_barredSet_35 rfl hl (by decide) rfl (fun ls hl => ?_)
          obtain ⟨x8, ex8, h⟩ := pl_ex h
          refine lv_iinc (v := x8) (lv' := [(4, .int x8), (3, .int x7), (0, .int p0), (1, .ref aq), (2, .ref aw)]) hx hb dL_barredSet_36 hl (k := 4) rfl (by rw [← ex8]; rfl) (by decide) rfl (fun ls hl => ?_)
          refine lv_goto (tgt := 5) hx hb dL_barredSet_39 (by decide) ?_
          exact ih x7 x8 _ _ _ _ h hP hD hS (lv_sub hl [2, 3, 4, 1, 0] rfl) kx
        have h := kj6
        refine lv_if_eq (tgt := 33) hx hb dL_barredSet_23 (by decide) (fun c9 => ?_) (fun c9 => ?_)
        · have h := if_t c9 h
          refine lv_iconst (v := 0) hx hb dL_barredSet_33 (by decide) ?_
          cases some_i h
          exact kx1 _ _ _ hP hD hS (lv_sub hl [0, 1, 2, 4] rfl)
        · have h := if_f c9 h
          refine lv_iconst (v := 1) hx hb dL_barredSet_26 (by decide) ?_
          refine lv_iload hx hb dL_barredSet_27 (lv_at hl 4 rfl) ?_
          refine lv_ishl hx hb dL_barredSet_29 ?_
          refine lv_goto (tgt := 34) hx hb dL_barredSet_30 (by decide) ?_
          cases some_i h
          exact kx1 _ _ _ hP hD hS (lv_sub hl [0, 1, 2, 4] rfl)
  obtain ⟨v3_10, kv3_10, h⟩ := bd_ex h
  refine L5 1000 (0 : Int32) (0 : Int32) v3_10 _ _ _ kv3_10 hP hD hS (lv_sub hl [2, 3, 4, 1, 0] rfl) (fun H locs ls hP hD hS hl => ?_)
  refine lv_iload_n hx hb dL_barredSet_42 rfl (lv_at hl 0 rfl) ?_
  cases some_i h
  exact hend _ _ _ _ _ hP hD hS (RetOK.i dL_barredSet_43)
def fL_fewest_L8 (vq : AI) (vw : AI) (vl : AI) (p1 : Int32) (p2 : Int32) : Nat → Int32 → Int32 → Option (Int32)
  | 0, _, _ => none
  | n + 1, v6_2, v7_3 =>
    (if (800 : Int32) ≤ v7_3 then
    (some (-1 : Int32))
    else
    (if v6_2 = (0 : Int32) then
    (some (-1 : Int32))
    else
    (bd (if p2 = (0 : Int32) then
    (bd (fL_beside vq vl v6_2) fun (r12 : Int32) =>
    (bd (fL_barredSet vq vw v7_3) fun (r13 : Int32) =>
    (some (v6_2 ||| (r12 &&& (r13 ^^^ (-1 : Int32)))))))
    else
    (if v7_3 = (0 : Int32) then
    (some v6_2)
    else
    (bd (fL_beside vq vl v6_2) fun (r15 : Int32) =>
    (bd (fL_barredSet vq vw v7_3) fun (r16 : Int32) =>
    (some (v6_2 ||| (r15 &&& (r16 ^^^ (-1 : Int32))))))))) fun (j6 : Int32) =>
    (if ((j6 >>> (p1 &&& 31)) &&& (1 : Int32)) = (1 : Int32) then
    (some v7_3)
    else
    (bd (fL_barredSet vq vw (v7_3 + (1 : Int32))) fun (r8 : Int32) =>
    (pl ((j6 &&& (r8 ^^^ (-1 : Int32)))) fun (x9 : Int32) =>
    (pl ((v7_3 + (1 : Int32))) fun (x10 : Int32) =>
    (fL_fewest_L8 vq vw vl p1 p2 n x9 x10))))))))
def fL_fewest (vq : AI) (vw : AI) (vl : AI) (p0 : Int32) (p1 : Int32) (p2 : Int32) : Option (Int32) :=
(pl (((1 : Int32) <<< (p0 &&& 31))) fun (x1 : Int32) =>
(fL_fewest_L8 vq vw vl p1 p2 1000 x1 (0 : Int32)))
abbrev rL_fewest : Room := { frames := 3, cells := 0, slots := 0, locals := 69 }
theorem hdL_fewest : yL_fewest.cls ≠ "java/lang/invoke/MethodHandle" ∧ yL_fewest.cls ≠ "java/lang/invoke/VarHandle" ∧ (parseMethodDescriptor yL_fewest.desc).map (fun d => d.parameters.length) = some 6 := by decide +kernel
set_option maxRecDepth 100000 in
set_option maxHeartbeats 16000000 in
theorem kL_fewest (l : Launch) (g : GG) (aq aw al : Nat) {vq : AI} {vw : AI} {vl : AI} {p0 : Int32} {p1 : Int32} {p2 : Int32} {res : Int32} (h : fL_fewest vq vw vl p0 p1 p2 = some res) : Cg l g yL_fewest wsL_fewest rL_fewest [.int p0, .int p1, .int p2, .ref aq, .ref aw, .ref al] ((cAr g aq 10 vq) ++ ((cAr g aw 24 vw) ++ ((cAr g al 24 vl)))) (some (.int res)) ((cAr g aq 10 vq) ++ ((cAr g aw 24 vw) ++ ((cAr g al 24 vl)))) := by
  refine Cg_of (cc := cL_fewest) (maxL := 9) (ret := (some .int)) (by decide +kernel) rfl (Nat.le_of_ble_eq_true rfl) ?_
  intro p e su m args below meth c A Q ls hx hb hml hown hts hK hN hA hnm hP hD hS hl hend
  unfold fL_fewest at h
  have hl : lv_has ls 9 [(0, .int p0), (1, .int p1), (2, .int p2), (3, .ref aq), (4, .ref aw), (5, .ref al)] := hl
  refine lv_iconst (v := 1) hx hb dL_fewest_0 (by decide) ?_
  refine lv_iload_n hx hb dL_fewest_1 rfl (lv_at hl 0 rfl) ?_
  refine lv_ishl hx hb dL_fewest_2 ?_
  obtain ⟨x1, ex1, h⟩ := pl_ex h
  refine lv_eqi ex1 ?_
  refine lv_istore (lv' := [(6, .int x1), (0, .int p0), (1, .int p1), (2, .int p2), (3, .ref aq), (4, .ref aw), (5, .ref al)]) hx hb dL_fewest_3 hl (by decide) rfl (fun ls hl => ?_)
  refine lv_iconst (v := 0) hx hb dL_fewest_5 (by decide) ?_
  refine lv_istore (lv' := [(7, .int (0 : Int32)), (6, .int x1), (0, .int p0), (1, .int p1), (2, .int p2), (3, .ref aq), (4, .ref aw), (5, .ref al)]) hx hb dL_fewest_6 hl (by decide) rfl (fun ls hl => ?_)
  have L8 : ∀ (n : Nat) (v6_2 : Int32) (v7_3 : Int32) (H : Heap) (locs : List Loc) (ls : Array Slot), fL_fewest_L8 vq vw vl p1 p2 n v6_2 v7_3 = some res → va_P g.1 vwCl ((cAr g aq 10 vq) ++ ((cAr g aw 24 vw) ++ ((cAr g al 24 vl)))) H → va_D A ((cAr g aq 10 vq) ++ ((cAr g aw 24 vw) ++ ((cAr g al 24 vl)))) → va_S A su.heap H locs → lv_has ls 9 [(1, .int p1), (2, .int p2), (3, .ref aq), (4, .ref aw), (5, .ref al), (6, .int v6_2), (7, .int v7_3)] → W p l e rL_fewest su m args below meth c H locs 0 0 Q (F0 m 8 ls []) := by
    intro n
    induction n with
    | zero => intro v6_2 v7_3 H locs ls h hP hD hS hl; cases h
    | succ n ih =>
      intro v6_2 v7_3 H locs ls h hP hD hS hl
      rw [fL_fewest_L8] at h
      refine lv_iload hx hb dL_fewest_8 (lv_at hl 6 rfl) ?_
      refine lv_sipush (v := 800) hx hb dL_fewest_10 (by decide) ?_
      refine lv_icmp_ge (tgt := 95) hx hb dL_fewest_13 (by decide) (fun c4 => ?_) (fun c4 => ?_)
      · have h := if_t c4 h
        refine lv_iconst (v := -1) hx hb dL_fewest_95 (by decide) ?_
        cases some_i h
        exact hend _ _ _ _ _ hP hD hS (RetOK.i dL_fewest_96)
      · have h := if_f c4 h
        refine lv_iload hx hb dL_fewest_16 (lv_at hl 5 rfl) ?_
        refine lv_if_eq (tgt := 95) hx hb dL_fewest_18 (by decide) (fun c5 => ?_) (fun c5 => ?_)
        · have h := if_t c5 h
          refine lv_iconst (v := -1) hx hb dL_fewest_95 (by decide) ?_
          cases some_i h
          exact hend _ _ _ _ _ hP hD hS (RetOK.i dL_fewest_96)
        · have h := if_f c5 h
          refine lv_iload_n hx hb dL_fewest_21 rfl (lv_at hl 1 rfl) ?_
          obtain ⟨j6, kj6, h⟩ := bd_ex h
          have kx1 : ∀ (H : Heap) (locs : List Loc) (ls : Array Slot), va_P g.1 vwCl ((cAr g aq 10 vq) ++ ((cAr g aw 24 vw) ++ ((cAr g al 24 vl)))) H → va_D A ((cAr g aq 10 vq) ++ ((cAr g aw 24 vw) ++ ((cAr g al 24 vl)))) → va_S A su.heap H locs → lv_has ls 9 [(1, .int p1), (2, .int p2), (3, .ref aq), (4, .ref aw), (5, .ref al), (7, .int v7_3)] → W p l e rL_fewest su m args below meth c H locs 0 0 Q (F0 m 57 ls [.int j6]) := by
            intro H locs ls hP hD hS hl
            refine lv_istore (lv' := [(8, .int j6), (1, .int p1), (2, .int p2), (3, .ref aq), (4, .ref aw), (5, .ref al), (7, .int v7_3)]) hx hb dL_fewest_57 hl (by decide) rfl (fun ls hl => ?_)
            refine lv_iload hx hb dL_fewest_59 (lv_at hl 0 rfl) ?_
            refine lv_iload_n hx hb dL_fewest_61 rfl (lv_at hl 1 rfl) ?_
            refine lv_ishr hx hb dL_fewest_62 ?_
            refine lv_iconst (v := 1) hx hb dL_fewest_63 (by decide) ?_
            refine lv_iand hx hb dL_fewest_64 ?_
            refine lv_iconst (v := 1) hx hb dL_fewest_65 (by decide) ?_
            refine lv_icmp_ne (tgt := 72) hx hb dL_fewest_66 (by decide) (fun c7 => ?_) (fun c7 => ?_)
            · have h := if_f c7 h
              refine lv_iload hx hb dL_fewest_72 (lv_at hl 0 rfl) ?_
              refine lv_iload hx hb dL_fewest_74 (lv_at hl 6 rfl) ?_
              refine lv_iconst (v := 1) hx hb dL_fewest_76 (by decide) ?_
              refine lv_iadd hx hb dL_fewest_77 ?_
              refine lv_aload_n hx hb dL_fewest_78 rfl (lv_at hl 3 rfl) ?_
              refine lv_aload hx hb dL_fewest_79 (lv_at hl 4 rfl) ?_
              obtain ⟨r8, kr8, h⟩ := bd_ex h
              have pq : (((cAr g aq 10 vq) ++ ((cAr g aw 24 vw) ++ ((cAr g al 24 vl)))) : va_W).Perm (((cAr g aq 10 vq) ++ ((cAr g aw 24 vw))) ++ ((cAr g al 24 vl))) := pmS [(cAr g aq 10 vq), (cAr g aw 24 vw), (cAr g al 24 vl)] [0, 1, 2] [0, 1] [2] (by decide)
              have pr : ((((cAr g aq 10 vq) ++ ((cAr g aw 24 vw))) ++ ((cAr g al 24 vl))) : va_W).Perm ((cAr g aq 10 vq) ++ ((cAr g aw 24 vw) ++ ((cAr g al 24 vl)))) := (pmS [(cAr g aq 10 vq), (cAr g aw 24 vw), (cAr g al 24 vl)] [0, 1, 2] [0, 1] [2] (by decide)).symm
              refine aft_p (st1 := [.int r8, .int j6]) (ws' := ((cAr g aq 10 vq) ++ ((cAr g aw 24 vw) ++ ((cAr g al 24 vl))))) rfl pq pr (runS (As := [.int (v7_3 + (1 : Int32)), .ref aq, .ref aw]) (rest := [.int j6]) ⟨hx, hb, hml, hown, hts⟩ (kL_barredSet l g aq aw kr8) (va_cwS 3 hts gL_fewest_L_barredSet rfl rfl rfl hdL_barredSet ⟨Nat.le_of_ble_eq_true rfl, Nat.le_of_ble_eq_true rfl⟩) hK hN (hP.perm pq).left (hD.perm pq).left rfl hl.1 rfl (Nat.le_of_ble_eq_true rfl) dL_fewest_81 ⟨Nat.zero_le _, Nat.zero_le _⟩) hP hD hS hA (fun H locs hP hD hS => ?_)
              refine lv_iconst (v := -1) hx hb dL_fewest_84 (by decide) ?_
              refine lv_ixor hx hb dL_fewest_85 ?_
              refine lv_iand hx hb dL_fewest_86 ?_
              obtain ⟨x9, ex9, h⟩ := pl_ex h
              refine lv_eqi ex9 ?_
              refine lv_istore (lv' := [(6, .int x9), (8, .int j6), (1, .int p1), (2, .int p2), (3, .ref aq), (4, .ref aw), (5, .ref al), (7, .int v7_3)]) hx hb dL_fewest_87 hl (by decide) rfl (fun ls hl => ?_)
              obtain ⟨x10, ex10, h⟩ := pl_ex h
              refine lv_iinc (v := x10) (lv' := [(7, .int x10), (6, .int x9), (8, .int j6), (1, .int p1), (2, .int p2), (3, .ref aq), (4, .ref aw), (5, .ref al)]) hx hb dL_fewest_89 hl (k := 7) rfl (by rw [← ex10]; rfl) (by decide) rfl (fun ls hl => ?_)
              refine lv_goto (tgt := 8) hx hb dL_fewest_92 (by decide) ?_
              exact ih x9 x10 _ _ _ h hP hD hS (lv_sub hl [3, 4, 5, 6, 7, 1, 0] rfl)
            · have h := if_t c7 h
              refine lv_iload hx hb dL_fewest_69 (lv_at hl 6 rfl) ?_
              cases some_i h
              exact hend _ _ _ _ _ hP hD hS (RetOK.i dL_fewest_71)
          have h := kj6
          refine lv_if_eq (tgt := 35) hx hb dL_fewest_22 (by decide) (fun c11 => ?_) (fun c11 => ?_)
          · have h := if_t c11 h
            refine lv_iload hx hb dL_fewest_35 (lv_at hl 5 rfl) ?_
            refine lv_iload hx hb dL_fewest_37 (lv_at hl 5 rfl) ?_
            refine lv_aload_n hx hb dL_fewest_39 rfl (lv_at hl 2 rfl) ?_
            refine lv_aload hx hb dL_fewest_40 (lv_at hl 4 rfl) ?_
            obtain ⟨r12, kr12, h⟩ := bd_ex h
            have pq : (((cAr g aq 10 vq) ++ ((cAr g aw 24 vw) ++ ((cAr g al 24 vl)))) : va_W).Perm (((cAr g aq 10 vq) ++ ((cAr g al 24 vl))) ++ ((cAr g aw 24 vw))) := pmS [(cAr g aq 10 vq), (cAr g aw 24 vw), (cAr g al 24 vl)] [0, 1, 2] [0, 2] [1] (by decide)
            have pr : ((((cAr g aq 10 vq) ++ ((cAr g al 24 vl))) ++ ((cAr g aw 24 vw))) : va_W).Perm ((cAr g aq 10 vq) ++ ((cAr g aw 24 vw) ++ ((cAr g al 24 vl)))) := (pmS [(cAr g aq 10 vq), (cAr g aw 24 vw), (cAr g al 24 vl)] [0, 1, 2] [0, 2] [1] (by decide)).symm
            refine aft_p (st1 := [.int r12, .int v6_2]) (ws' := ((cAr g aq 10 vq) ++ ((cAr g aw 24 vw) ++ ((cAr g al 24 vl))))) rfl pq pr (runS (As := [.int v6_2, .ref aq, .ref al]) (rest := [.int v6_2]) ⟨hx, hb, hml, hown, hts⟩ (kL_beside l g aq al kr12) (va_cwS 3 hts gL_fewest_L_beside rfl rfl rfl hdL_beside ⟨Nat.le_of_ble_eq_true rfl, Nat.le_of_ble_eq_true rfl⟩) hK hN (hP.perm pq).left (hD.perm pq).left rfl hl.1 rfl (Nat.le_of_ble_eq_true rfl) dL_fewest_42 ⟨Nat.zero_le _, Nat.zero_le _⟩) hP hD hS hA (fun H locs hP hD hS => ?_)
            refine lv_iload hx hb dL_fewest_45 (lv_at hl 6 rfl) ?_
            refine lv_aload_n hx hb dL_fewest_47 rfl (lv_at hl 2 rfl) ?_
            refine lv_aload hx hb dL_fewest_48 (lv_at hl 3 rfl) ?_
            obtain ⟨r13, kr13, h⟩ := bd_ex h
            have pq : (((cAr g aq 10 vq) ++ ((cAr g aw 24 vw) ++ ((cAr g al 24 vl)))) : va_W).Perm (((cAr g aq 10 vq) ++ ((cAr g aw 24 vw))) ++ ((cAr g al 24 vl))) := pmS [(cAr g aq 10 vq), (cAr g aw 24 vw), (cAr g al 24 vl)] [0, 1, 2] [0, 1] [2] (by decide)
            have pr : ((((cAr g aq 10 vq) ++ ((cAr g aw 24 vw))) ++ ((cAr g al 24 vl))) : va_W).Perm ((cAr g aq 10 vq) ++ ((cAr g aw 24 vw) ++ ((cAr g al 24 vl)))) := (pmS [(cAr g aq 10 vq), (cAr g aw 24 vw), (cAr g al 24 vl)] [0, 1, 2] [0, 1] [2] (by decide)).symm
            refine aft_p (st1 := [.int r13, .int r12, .int v6_2]) (ws' := ((cAr g aq 10 vq) ++ ((cAr g aw 24 vw) ++ ((cAr g al 24 vl))))) rfl pq pr (runS (As := [.int v7_3, .ref aq, .ref aw]) (rest := [.int r12, .int v6_2]) ⟨hx, hb, hml, hown, hts⟩ (kL_barredSet l g aq aw kr13) (va_cwS 3 hts gL_fewest_L_barredSet rfl rfl rfl hdL_barredSet ⟨Nat.le_of_ble_eq_true rfl, Nat.le_of_ble_eq_true rfl⟩) hK hN (hP.perm pq).left (hD.perm pq).left rfl hl.1 rfl (Nat.le_of_ble_eq_true rfl) dL_fewest_50 ⟨Nat.zero_le _, Nat.zero_le _⟩) hP hD hS hA (fun H locs hP hD hS => ?_)
            refine lv_iconst (v := -1) hx hb dL_fewest_53 (by decide) ?_
            refine lv_ixor hx hb dL_fewest_54 ?_
            refine lv_iand hx hb dL_fewest_55 ?_
            refine lv_ior hx hb dL_fewest_56 ?_
            cases some_i h
            exact kx1 _ _ _ hP hD hS (lv_sub hl [0, 1, 2, 3, 4, 6] rfl)
          · have h := if_f c11 h
            refine lv_iload hx hb dL_fewest_25 (lv_at hl 6 rfl) ?_
            refine lv_if_ne (tgt := 35) hx hb dL_fewest_27 (by decide) (fun c14 => ?_) (fun c14 => ?_)
            · have h := if_f c14 h
              refine lv_iload hx hb dL_fewest_35 (lv_at hl 5 rfl) ?_
              refine lv_iload hx hb dL_fewest_37 (lv_at hl 5 rfl) ?_
              refine lv_aload_n hx hb dL_fewest_39 rfl (lv_at hl 2 rfl) ?_
              refine lv_aload hx hb dL_fewest_40 (lv_at hl 4 rfl) ?_
              obtain ⟨r15, kr15, h⟩ := bd_ex h
              have pq : (((cAr g aq 10 vq) ++ ((cAr g aw 24 vw) ++ ((cAr g al 24 vl)))) : va_W).Perm (((cAr g aq 10 vq) ++ ((cAr g al 24 vl))) ++ ((cAr g aw 24 vw))) := pmS [(cAr g aq 10 vq), (cAr g aw 24 vw), (cAr g al 24 vl)] [0, 1, 2] [0, 2] [1] (by decide)
              have pr : ((((cAr g aq 10 vq) ++ ((cAr g al 24 vl))) ++ ((cAr g aw 24 vw))) : va_W).Perm ((cAr g aq 10 vq) ++ ((cAr g aw 24 vw) ++ ((cAr g al 24 vl)))) := (pmS [(cAr g aq 10 vq), (cAr g aw 24 vw), (cAr g al 24 vl)] [0, 1, 2] [0, 2] [1] (by decide)).symm
              refine aft_p (st1 := [.int r15, .int v6_2]) (ws' := ((cAr g aq 10 vq) ++ ((cAr g aw 24 vw) ++ ((cAr g al 24 vl))))) rfl pq pr (runS (As := [.int v6_2, .ref aq, .ref al]) (rest := [.int v6_2]) ⟨hx, hb, hml, hown, hts⟩ (kL_beside l g aq al kr15) (va_cwS 3 hts gL_fewest_L_beside rfl rfl rfl hdL_beside ⟨Nat.le_of_ble_eq_true rfl, Nat.le_of_ble_eq_true rfl⟩) hK hN (hP.perm pq).left (hD.perm pq).left rfl hl.1 rfl (Nat.le_of_ble_eq_true rfl) dL_fewest_42 ⟨Nat.zero_le _, Nat.zero_le _⟩) hP hD hS hA (fun H locs hP hD hS => ?_)
              refine lv_iload hx hb dL_fewest_45 (lv_at hl 6 rfl) ?_
              refine lv_aload_n hx hb dL_fewest_47 rfl (lv_at hl 2 rfl) ?_
              refine lv_aload hx hb dL_fewest_48 (lv_at hl 3 rfl) ?_
              obtain ⟨r16, kr16, h⟩ := bd_ex h
              have pq : (((cAr g aq 10 vq) ++ ((cAr g aw 24 vw) ++ ((cAr g al 24 vl)))) : va_W).Perm (((cAr g aq 10 vq) ++ ((cAr g aw 24 vw))) ++ ((cAr g al 24 vl))) := pmS [(cAr g aq 10 vq), (cAr g aw 24 vw), (cAr g al 24 vl)] [0, 1, 2] [0, 1] [2] (by decide)
              have pr : ((((cAr g aq 10 vq) ++ ((cAr g aw 24 vw))) ++ ((cAr g al 24 vl))) : va_W).Perm ((cAr g aq 10 vq) ++ ((cAr g aw 24 vw) ++ ((cAr g al 24 vl)))) := (pmS [(cAr g aq 10 vq), (cAr g aw 24 vw), (cAr g al 24 vl)] [0, 1, 2] [0, 1] [2] (by decide)).symm
              refine aft_p (st1 := [.int r16, .int r15, .int v6_2]) (ws' := ((cAr g aq 10 vq) ++ ((cAr g aw 24 vw) ++ ((cAr g al 24 vl))))) rfl pq pr (runS (As := [.int v7_3, .ref aq, .ref aw]) (rest := [.int r15, .int v6_2]) ⟨hx, hb, hml, hown, hts⟩ (kL_barredSet l g aq aw kr16) (va_cwS 3 hts gL_fewest_L_barredSet rfl rfl rfl hdL_barredSet ⟨Nat.le_of_ble_eq_true rfl, Nat.le_of_ble_eq_true rfl⟩) hK hN (hP.perm pq).left (hD.perm pq).left rfl hl.1 rfl (Nat.le_of_ble_eq_true rfl) dL_fewest_50 ⟨Nat.zero_le _, Nat.zero_le _⟩) hP hD hS hA (fun H locs hP hD hS => ?_)
              refine lv_iconst (v := -1) hx hb dL_fewest_53 (by decide) ?_
              refine lv_ixor hx hb dL_fewest_54 ?_
              refine lv_iand hx hb dL_fewest_55 ?_
              refine lv_ior hx hb dL_fewest_56 ?_
              cases some_i h
              exact kx1 _ _ _ hP hD hS (lv_sub hl [0, 1, 2, 3, 4, 6] rfl)
            · have h := if_t c14 h
              refine lv_iload hx hb dL_fewest_30 (lv_at hl 5 rfl) ?_
              refine lv_goto (tgt := 57) hx hb dL_fewest_32 (by decide) ?_
              cases some_i h
              exact kx1 _ _ _ hP hD hS (lv_sub hl [0, 1, 2, 3, 4, 6] rfl)
  exact L8 1000 x1 (0 : Int32) _ _ _ h hP hD hS (lv_sub hl [3, 4, 5, 6, 7, 1, 0] rfl)
def fL_ladder_L8 (vq : AI) (vl : AI) (p1 : Int32) : Nat → Int32 → Int32 → Option (Int32)
  | 0, _, _ => none
  | n + 1, v4_2, v5_3 =>
    (if (24 : Int32) ≤ v5_3 then
    (some (-1 : Int32))
    else
    (if ((v4_2 >>> (p1 &&& 31)) &&& (1 : Int32)) = (1 : Int32) then
    (some v5_3)
    else
    (bd (fL_beside vq vl v4_2) fun (r6 : Int32) =>
    (pl ((v4_2 ||| r6)) fun (x7 : Int32) =>
    (pl ((v5_3 + (1 : Int32))) fun (x8 : Int32) =>
    (fL_ladder_L8 vq vl p1 n x7 x8))))))
def fL_ladder (vq : AI) (vl : AI) (p0 : Int32) (p1 : Int32) : Option (Int32) :=
(pl (((1 : Int32) <<< (p0 &&& 31))) fun (x1 : Int32) =>
(fL_ladder_L8 vq vl p1 1000 x1 (0 : Int32)))
abbrev rL_ladder : Room := { frames := 1, cells := 0, slots := 0, locals := 24 }
theorem hdL_ladder : yL_ladder.cls ≠ "java/lang/invoke/MethodHandle" ∧ yL_ladder.cls ≠ "java/lang/invoke/VarHandle" ∧ (parseMethodDescriptor yL_ladder.desc).map (fun d => d.parameters.length) = some 4 := by decide +kernel
set_option maxRecDepth 100000 in
set_option maxHeartbeats 16000000 in
theorem kL_ladder (l : Launch) (g : GG) (aq al : Nat) {vq : AI} {vl : AI} {p0 : Int32} {p1 : Int32} {res : Int32} (h : fL_ladder vq vl p0 p1 = some res) : Cg l g yL_ladder wsL_ladder rL_ladder [.int p0, .int p1, .ref aq, .ref al] ((cAr g aq 10 vq) ++ ((cAr g al 24 vl))) (some (.int res)) ((cAr g aq 10 vq) ++ ((cAr g al 24 vl))) := by
  refine Cg_of (cc := cL_ladder) (maxL := 6) (ret := (some .int)) (by decide +kernel) rfl (Nat.le_of_ble_eq_true rfl) ?_
  intro p e su m args below meth c A Q ls hx hb hml hown hts hK hN hA hnm hP hD hS hl hend
  unfold fL_ladder at h
  have hl : lv_has ls 6 [(0, .int p0), (1, .int p1), (2, .ref aq), (3, .ref al)] := hl
  refine lv_iconst (v := 1) hx hb dL_ladder_0 (by decide) ?_
  refine lv_iload_n hx hb dL_ladder_1 rfl (lv_at hl 0 rfl) ?_
  refine lv_ishl hx hb dL_ladder_2 ?_
  obtain ⟨x1, ex1, h⟩ := pl_ex h
  refine lv_eqi ex1 ?_
  refine lv_istore (lv' := [(4, .int x1), (0, .int p0), (1, .int p1), (2, .ref aq), (3, .ref al)]) hx hb dL_ladder_3 hl (by decide) rfl (fun ls hl => ?_)
  refine lv_iconst (v := 0) hx hb dL_ladder_5 (by decide) ?_
  refine lv_istore (lv' := [(5, .int (0 : Int32)), (4, .int x1), (0, .int p0), (1, .int p1), (2, .ref aq), (3, .ref al)]) hx hb dL_ladder_6 hl (by decide) rfl (fun ls hl => ?_)
  have L8 : ∀ (n : Nat) (v4_2 : Int32) (v5_3 : Int32) (H : Heap) (locs : List Loc) (ls : Array Slot), fL_ladder_L8 vq vl p1 n v4_2 v5_3 = some res → va_P g.1 vwCl ((cAr g aq 10 vq) ++ ((cAr g al 24 vl))) H → va_D A ((cAr g aq 10 vq) ++ ((cAr g al 24 vl))) → va_S A su.heap H locs → lv_has ls 6 [(1, .int p1), (2, .ref aq), (3, .ref al), (4, .int v4_2), (5, .int v5_3)] → W p l e rL_ladder su m args below meth c H locs 0 0 Q (F0 m 8 ls []) := by
    intro n
    induction n with
    | zero => intro v4_2 v5_3 H locs ls h hP hD hS hl; cases h
    | succ n ih =>
      intro v4_2 v5_3 H locs ls h hP hD hS hl
      rw [fL_ladder_L8] at h
      refine lv_iload hx hb dL_ladder_8 (lv_at hl 4 rfl) ?_
      refine lv_bipush (v := 24) hx hb dL_ladder_10 (by decide) ?_
      refine lv_icmp_ge (tgt := 46) hx hb dL_ladder_12 (by decide) (fun c4 => ?_) (fun c4 => ?_)
      · have h := if_t c4 h
        refine lv_iconst (v := -1) hx hb dL_ladder_46 (by decide) ?_
        cases some_i h
        exact hend _ _ _ _ _ hP hD hS (RetOK.i dL_ladder_47)
      · have h := if_f c4 h
        refine lv_iload hx hb dL_ladder_15 (lv_at hl 3 rfl) ?_
        refine lv_iload_n hx hb dL_ladder_17 rfl (lv_at hl 0 rfl) ?_
        refine lv_ishr hx hb dL_ladder_18 ?_
        refine lv_iconst (v := 1) hx hb dL_ladder_19 (by decide) ?_
        refine lv_iand hx hb dL_ladder_20 ?_
        refine lv_iconst (v := 1) hx hb dL_ladder_21 (by decide) ?_
        refine lv_icmp_ne (tgt := 28) hx hb dL_ladder_22 (by decide) (fun c5 => ?_) (fun c5 => ?_)
        · have h := if_f c5 h
          refine lv_iload hx hb dL_ladder_28 (lv_at hl 3 rfl) ?_
          refine lv_iload hx hb dL_ladder_30 (lv_at hl 3 rfl) ?_
          refine lv_aload_n hx hb dL_ladder_32 rfl (lv_at hl 1 rfl) ?_
          refine lv_aload_n hx hb dL_ladder_33 rfl (lv_at hl 2 rfl) ?_
          obtain ⟨r6, kr6, h⟩ := bd_ex h
          refine aft_w (st1 := [.int r6, .int v4_2]) rfl (runS (As := [.int v4_2, .ref aq, .ref al]) (rest := [.int v4_2]) ⟨hx, hb, hml, hown, hts⟩ (kL_beside l g aq al kr6) (va_cwS 3 hts gL_ladder_L_beside rfl rfl rfl hdL_beside ⟨Nat.le_of_ble_eq_true rfl, Nat.le_of_ble_eq_true rfl⟩) hK hN hP hD rfl hl.1 rfl (Nat.le_of_ble_eq_true rfl) dL_ladder_34 ⟨Nat.zero_le _, Nat.zero_le _⟩) hD hS hA (fun H locs hP hD hS => ?_)
          refine lv_ior hx hb dL_ladder_37 ?_
          obtain ⟨x7, ex7, h⟩ := pl_ex h
          refine lv_eqi ex7 ?_
          refine lv_istore (lv' := [(4, .int x7), (1, .int p1), (2, .ref aq), (3, .ref al), (5, .int v5_3)]) hx hb dL_ladder_38 hl (by decide) rfl (fun ls hl => ?_)
          obtain ⟨x8, ex8, h⟩ := pl_ex h
          refine lv_iinc (v := x8) (lv' := [(5, .int x8), (4, .int x7), (1, .int p1), (2, .ref aq), (3, .ref al)]) hx hb dL_ladder_40 hl (k := 4) rfl (by rw [← ex8]; rfl) (by decide) rfl (fun ls hl => ?_)
          refine lv_goto (tgt := 8) hx hb dL_ladder_43 (by decide) ?_
          exact ih x7 x8 _ _ _ h hP hD hS (lv_sub hl [2, 3, 4, 1, 0] rfl)
        · have h := if_t c5 h
          refine lv_iload hx hb dL_ladder_25 (lv_at hl 4 rfl) ?_
          cases some_i h
          exact hend _ _ _ _ _ hP hD hS (RetOK.i dL_ladder_27)
  exact L8 1000 x1 (0 : Int32) _ _ _ h hP hD hS (lv_sub hl [3, 4, 5, 1, 0] rfl)
def fL_on_L2 (vc : AI) (p0 : Int32) : Nat → Int32 → Option (Int32)
  | 0, _ => none
  | n + 1, v2_1 =>
    (if (3 : Int32) ≤ v2_1 then
    (some (-1 : Int32))
    else
    (ck (inb ((7 : Int32) * v2_1) 21)
    (if (vc ((7 : Int32) * v2_1).toNatClampNeg) = p0 then
    (some v2_1)
    else
    (pl ((v2_1 + (1 : Int32))) fun (x4 : Int32) =>
    (fL_on_L2 vc p0 n x4)))))
def fL_on (vc : AI) (p0 : Int32) : Option (Int32) :=
(fL_on_L2 vc p0 1000 (0 : Int32))
abbrev rL_on : Room := { frames := 0, cells := 0, slots := 0, locals := 0 }
theorem hdL_on : yL_on.cls ≠ "java/lang/invoke/MethodHandle" ∧ yL_on.cls ≠ "java/lang/invoke/VarHandle" ∧ (parseMethodDescriptor yL_on.desc).map (fun d => d.parameters.length) = some 2 := by decide +kernel
set_option maxRecDepth 100000 in
set_option maxHeartbeats 16000000 in
theorem kL_on (l : Launch) (g : GG) (ac : Nat) {vc : AI} {p0 : Int32} {res : Int32} (h : fL_on vc p0 = some res) : Cg l g yL_on wsL_on rL_on [.int p0, .ref ac] ((cAr g ac 21 vc)) (some (.int res)) ((cAr g ac 21 vc)) := by
  refine Cg_of (cc := cL_on) (maxL := 3) (ret := (some .int)) (by decide +kernel) rfl (Nat.le_of_ble_eq_true rfl) ?_
  intro p e su m args below meth c A Q ls hx hb hml hown hts hK hN hA hnm hP hD hS hl hend
  unfold fL_on at h
  have hl : lv_has ls 3 [(0, .int p0), (1, .ref ac)] := hl
  refine lv_iconst (v := 0) hx hb dL_on_0 (by decide) ?_
  refine lv_istore_n (lv' := [(2, .int (0 : Int32)), (0, .int p0), (1, .ref ac)]) hx hb dL_on_1 rfl hl (by decide) rfl (fun ls hl => ?_)
  have L2 : ∀ (n : Nat) (v2_1 : Int32) (H : Heap) (locs : List Loc) (ls : Array Slot), fL_on_L2 vc p0 n v2_1 = some res → va_P g.1 vwCl ((cAr g ac 21 vc)) H → va_D A ((cAr g ac 21 vc)) → va_S A su.heap H locs → lv_has ls 3 [(0, .int p0), (1, .ref ac), (2, .int v2_1)] → W p l e rL_on su m args below meth c H locs 0 0 Q (F0 m 2 ls []) := by
    intro n
    induction n with
    | zero => intro v2_1 H locs ls h hP hD hS hl; cases h
    | succ n ih =>
      intro v2_1 H locs ls h hP hD hS hl
      rw [fL_on_L2] at h
      refine lv_iload_n hx hb dL_on_2 rfl (lv_at hl 2 rfl) ?_
      refine lv_iconst (v := 3) hx hb dL_on_3 (by decide) ?_
      refine lv_icmp_ge (tgt := 25) hx hb dL_on_4 (by decide) (fun c2 => ?_) (fun c2 => ?_)
      · have h := if_t c2 h
        refine lv_iconst (v := -1) hx hb dL_on_25 (by decide) ?_
        cases some_i h
        exact hend _ _ _ _ _ hP hD hS (RetOK.i dL_on_26)
      · have h := if_f c2 h
        refine lv_aload_n hx hb dL_on_7 rfl (lv_at hl 1 rfl) ?_
        refine lv_bipush (v := 7) hx hb dL_on_8 (by decide) ?_
        refine lv_iload_n hx hb dL_on_10 rfl (lv_at hl 2 rfl) ?_
        refine lv_imul hx hb dL_on_11 ?_
        obtain ⟨hi9, h⟩ := ck_ex h
        refine va_iald hx hb hK hP 0 0 rfl rfl (inb_in hi9) dL_on_12 ?_
        refine lv_iload_n hx hb dL_on_13 rfl (lv_at hl 0 rfl) ?_
        refine lv_icmp_ne (tgt := 19) hx hb dL_on_14 (by decide) (fun c3 => ?_) (fun c3 => ?_)
        · have h := if_f c3 h
          obtain ⟨x4, ex4, h⟩ := pl_ex h
          refine lv_iinc (v := x4) (lv' := [(2, .int x4), (0, .int p0), (1, .ref ac)]) hx hb dL_on_19 hl (k := 2) rfl (by rw [← ex4]; rfl) (by decide) rfl (fun ls hl => ?_)
          refine lv_goto (tgt := 2) hx hb dL_on_22 (by decide) ?_
          exact ih x4 _ _ _ h hP hD hS (lv_sub hl [1, 2, 0] rfl)
        · have h := if_t c3 h
          refine lv_iload_n hx hb dL_on_17 rfl (lv_at hl 2 rfl) ?_
          cases some_i h
          exact hend _ _ _ _ _ hP hD hS (RetOK.i dL_on_18)
  exact L2 1000 (0 : Int32) _ _ _ h hP hD hS (lv_sub hl [1, 2, 0] rfl)
def fL_whyNot (vq : AI) (vw : AI) (vc : AI) (p0 : Int32) (p1 : Int32) : Option (Int32) :=
(ck (inb ((7 : Int32) * p0) 21)
(pl ((vc ((7 : Int32) * p0).toNatClampNeg)) fun (x1 : Int32) =>
(bd (if (0 : Int32) ≤ x1 then
(ck (inb (((7 : Int32) * p0) + (3 : Int32)) 21)
(if (vc (((7 : Int32) * p0) + (3 : Int32)).toNatClampNeg) = (1 : Int32) then
(some (2 : Int32))
else
(ck (inb x1 24)
(ck (inb p1 24)
(bd (fL_linked (vw x1.toNatClampNeg) (vw p1.toNatClampNeg) (vq (4 : Int32).toNatClampNeg)) fun (r5 : Int32) =>
(if r5 = (0 : Int32) then
(some (3 : Int32))
else
(ck (inb p1 24)
(bd (fL_isBarred vq (vw p1.toNatClampNeg) (0 : Int32)) fun (r7 : Int32) =>
(if r7 = (0 : Int32) then
(bd (fL_on vc p1) fun (r9 : Int32) =>
(if r9 < (0 : Int32) then
(some (0 : Int32))
else
(some (5 : Int32))))
else
(some (4 : Int32)))))))))))
else
(some (1 : Int32))) fun (j2 : Int32) =>
(some j2))))
abbrev rL_whyNot : Room := { frames := 2, cells := 0, slots := 0, locals := 46 }
theorem hdL_whyNot : yL_whyNot.cls ≠ "java/lang/invoke/MethodHandle" ∧ yL_whyNot.cls ≠ "java/lang/invoke/VarHandle" ∧ (parseMethodDescriptor yL_whyNot.desc).map (fun d => d.parameters.length) = some 5 := by decide +kernel
set_option maxRecDepth 100000 in
set_option maxHeartbeats 16000000 in
theorem kL_whyNot (l : Launch) (g : GG) (aq aw ac : Nat) {vq : AI} {vw : AI} {vc : AI} {p0 : Int32} {p1 : Int32} {res : Int32} (h : fL_whyNot vq vw vc p0 p1 = some res) : Cg l g yL_whyNot wsL_whyNot rL_whyNot [.int p0, .int p1, .ref aq, .ref aw, .ref ac] ((cAr g aq 10 vq) ++ ((cAr g aw 24 vw) ++ ((cAr g ac 21 vc)))) (some (.int res)) ((cAr g aq 10 vq) ++ ((cAr g aw 24 vw) ++ ((cAr g ac 21 vc)))) := by
  refine Cg_of (cc := cL_whyNot) (maxL := 6) (ret := (some .int)) (by decide +kernel) rfl (Nat.le_of_ble_eq_true rfl) ?_
  intro p e su m args below meth c A Q ls hx hb hml hown hts hK hN hA hnm hP hD hS hl hend
  unfold fL_whyNot at h
  have hl : lv_has ls 6 [(0, .int p0), (1, .int p1), (2, .ref aq), (3, .ref aw), (4, .ref ac)] := hl
  refine lv_aload hx hb dL_whyNot_0 (lv_at hl 4 rfl) ?_
  refine lv_bipush (v := 7) hx hb dL_whyNot_2 (by decide) ?_
  refine lv_iload_n hx hb dL_whyNot_4 rfl (lv_at hl 0 rfl) ?_
  refine lv_imul hx hb dL_whyNot_5 ?_
  obtain ⟨hi9, h⟩ := ck_ex h
  refine va_iald hx hb hK hP 2 0 rfl rfl (inb_in hi9) dL_whyNot_6 ?_
  obtain ⟨x1, ex1, h⟩ := pl_ex h
  refine lv_eqi ex1 ?_
  refine lv_istore (lv' := [(5, .int x1), (0, .int p0), (1, .int p1), (2, .ref aq), (3, .ref aw), (4, .ref ac)]) hx hb dL_whyNot_7 hl (by decide) rfl (fun ls hl => ?_)
  refine lv_iload hx hb dL_whyNot_9 (lv_at hl 0 rfl) ?_
  obtain ⟨j2, kj2, h⟩ := bd_ex h
  have kx1 : ∀ (H : Heap) (locs : List Loc) (ls : Array Slot), va_P g.1 vwCl ((cAr g aq 10 vq) ++ ((cAr g aw 24 vw) ++ ((cAr g ac 21 vc)))) H → va_D A ((cAr g aq 10 vq) ++ ((cAr g aw 24 vw) ++ ((cAr g ac 21 vc)))) → va_S A su.heap H locs → lv_has ls 6 [] → W p l e rL_whyNot su m args below meth c H locs 0 0 Q (F0 m 84 ls [.int j2]) := by
    intro H locs ls hP hD hS hl
    cases some_i h
    exact hend _ _ _ _ _ hP hD hS (RetOK.i dL_whyNot_84)
  have h := kj2
  refine lv_if_ge (tgt := 18) hx hb dL_whyNot_11 (by decide) (fun c3 => ?_) (fun c3 => ?_)
  · have h := if_t c3 h
    refine lv_aload hx hb dL_whyNot_18 (lv_at hl 5 rfl) ?_
    refine lv_bipush (v := 7) hx hb dL_whyNot_20 (by decide) ?_
    refine lv_iload_n hx hb dL_whyNot_22 rfl (lv_at hl 1 rfl) ?_
    refine lv_imul hx hb dL_whyNot_23 ?_
    refine lv_iconst (v := 3) hx hb dL_whyNot_24 (by decide) ?_
    refine lv_iadd hx hb dL_whyNot_25 ?_
    obtain ⟨hi9, h⟩ := ck_ex h
    refine va_iald hx hb hK hP 2 0 rfl rfl (inb_in hi9) dL_whyNot_26 ?_
    refine lv_iconst (v := 1) hx hb dL_whyNot_27 (by decide) ?_
    refine lv_icmp_ne (tgt := 35) hx hb dL_whyNot_28 (by decide) (fun c4 => ?_) (fun c4 => ?_)
    · have h := if_f c4 h
      refine lv_aload_n hx hb dL_whyNot_35 rfl (lv_at hl 4 rfl) ?_
      refine lv_iload hx hb dL_whyNot_36 (lv_at hl 0 rfl) ?_
      obtain ⟨hi9, h⟩ := ck_ex h
      refine va_iald hx hb hK hP 1 0 rfl rfl (inb_in hi9) dL_whyNot_38 ?_
      refine lv_aload_n hx hb dL_whyNot_39 rfl (lv_at hl 4 rfl) ?_
      refine lv_iload_n hx hb dL_whyNot_40 rfl (lv_at hl 2 rfl) ?_
      obtain ⟨hi9, h⟩ := ck_ex h
      refine va_iald hx hb hK hP 1 0 rfl rfl (inb_in hi9) dL_whyNot_41 ?_
      refine lv_aload_n hx hb dL_whyNot_42 rfl (lv_at hl 3 rfl) ?_
      refine lv_iconst (v := 4) hx hb dL_whyNot_43 (by decide) ?_
      refine va_iald hx hb hK hP 0 0 rfl rfl (inb_in (i := 4) (n := 10) (by decide)) dL_whyNot_44 ?_
      obtain ⟨r5, kr5, h⟩ := bd_ex h
      refine aft_e (st1 := [.int r5]) rfl (runS (As := [.int (vw x1.toNatClampNeg), .int (vw p1.toNatClampNeg), .int (vq (4 : Int32).toNatClampNeg)]) (rest := []) ⟨hx, hb, hml, hown, hts⟩ (kL_linked l g kr5) (va_cwS 3 hts gL_whyNot_L_linked rfl rfl rfl hdL_linked ⟨Nat.le_of_ble_eq_true rfl, Nat.le_of_ble_eq_true rfl⟩) hK hN nilP (nilD (A := A)) rfl hl.1 rfl (Nat.le_of_ble_eq_true rfl) dL_whyNot_45 ⟨Nat.zero_le _, Nat.zero_le _⟩) hP hS hA (fun H locs hP hS => ?_)
      refine lv_if_ne (tgt := 55) hx hb dL_whyNot_48 (by decide) (fun c6 => ?_) (fun c6 => ?_)
      · have h := if_f c6 h
        refine lv_aload_n hx hb dL_whyNot_55 rfl (lv_at hl 4 rfl) ?_
        refine lv_iload_n hx hb dL_whyNot_56 rfl (lv_at hl 2 rfl) ?_
        obtain ⟨hi9, h⟩ := ck_ex h
        refine va_iald hx hb hK hP 1 0 rfl rfl (inb_in hi9) dL_whyNot_57 ?_
        refine lv_iconst (v := 0) hx hb dL_whyNot_58 (by decide) ?_
        refine lv_aload_n hx hb dL_whyNot_59 rfl (lv_at hl 3 rfl) ?_
        obtain ⟨r7, kr7, h⟩ := bd_ex h
        have pq : (((cAr g aq 10 vq) ++ ((cAr g aw 24 vw) ++ ((cAr g ac 21 vc)))) : va_W).Perm (((cAr g aq 10 vq)) ++ ((cAr g aw 24 vw) ++ ((cAr g ac 21 vc)))) := pmS [(cAr g aq 10 vq), (cAr g aw 24 vw), (cAr g ac 21 vc)] [0, 1, 2] [0] [1, 2] (by decide)
        have pr : ((((cAr g aq 10 vq)) ++ ((cAr g aw 24 vw) ++ ((cAr g ac 21 vc)))) : va_W).Perm ((cAr g aq 10 vq) ++ ((cAr g aw 24 vw) ++ ((cAr g ac 21 vc)))) := (pmS [(cAr g aq 10 vq), (cAr g aw 24 vw), (cAr g ac 21 vc)] [0, 1, 2] [0] [1, 2] (by decide)).symm
        refine aft_p (st1 := [.int r7]) (ws' := ((cAr g aq 10 vq) ++ ((cAr g aw 24 vw) ++ ((cAr g ac 21 vc))))) rfl pq pr (runS (As := [.int (vw p1.toNatClampNeg), .int (0 : Int32), .ref aq]) (rest := []) ⟨hx, hb, hml, hown, hts⟩ (kL_isBarred l g aq kr7) (va_cwS 3 hts gL_whyNot_L_isBarred rfl rfl rfl hdL_isBarred ⟨Nat.le_of_ble_eq_true rfl, Nat.le_of_ble_eq_true rfl⟩) hK hN (hP.perm pq).left (hD.perm pq).left rfl hl.1 rfl (Nat.le_of_ble_eq_true rfl) dL_whyNot_60 ⟨Nat.zero_le _, Nat.zero_le _⟩) hP hD hS hA (fun H locs hP hD hS => ?_)
        refine lv_if_eq (tgt := 70) hx hb dL_whyNot_63 (by decide) (fun c8 => ?_) (fun c8 => ?_)
        · have h := if_t c8 h
          refine lv_iload_n hx hb dL_whyNot_70 rfl (lv_at hl 2 rfl) ?_
          refine lv_aload hx hb dL_whyNot_71 (lv_at hl 5 rfl) ?_
          obtain ⟨r9, kr9, h⟩ := bd_ex h
          have pq : (((cAr g aq 10 vq) ++ ((cAr g aw 24 vw) ++ ((cAr g ac 21 vc)))) : va_W).Perm (((cAr g ac 21 vc)) ++ ((cAr g aq 10 vq) ++ ((cAr g aw 24 vw)))) := pmS [(cAr g aq 10 vq), (cAr g aw 24 vw), (cAr g ac 21 vc)] [0, 1, 2] [2] [0, 1] (by decide)
          have pr : ((((cAr g ac 21 vc)) ++ ((cAr g aq 10 vq) ++ ((cAr g aw 24 vw)))) : va_W).Perm ((cAr g aq 10 vq) ++ ((cAr g aw 24 vw) ++ ((cAr g ac 21 vc)))) := (pmS [(cAr g aq 10 vq), (cAr g aw 24 vw), (cAr g ac 21 vc)] [0, 1, 2] [2] [0, 1] (by decide)).symm
          refine aft_p (st1 := [.int r9]) (ws' := ((cAr g aq 10 vq) ++ ((cAr g aw 24 vw) ++ ((cAr g ac 21 vc))))) rfl pq pr (runS (As := [.int p1, .ref ac]) (rest := []) ⟨hx, hb, hml, hown, hts⟩ (kL_on l g ac kr9) (va_cwS 2 hts gL_whyNot_L_on rfl rfl rfl hdL_on ⟨Nat.le_of_ble_eq_true rfl, Nat.le_of_ble_eq_true rfl⟩) hK hN (hP.perm pq).left (hD.perm pq).left rfl hl.1 rfl (Nat.le_of_ble_eq_true rfl) dL_whyNot_73 ⟨Nat.zero_le _, Nat.zero_le _⟩) hP hD hS hA (fun H locs hP hD hS => ?_)
          refine lv_if_lt (tgt := 83) hx hb dL_whyNot_76 (by decide) (fun c10 => ?_) (fun c10 => ?_)
          · have h := if_t c10 h
            refine lv_iconst (v := 0) hx hb dL_whyNot_83 (by decide) ?_
            cases some_i h
            exact kx1 _ _ _ hP hD hS (lv_sub hl [] rfl)
          · have h := if_f c10 h
            refine lv_iconst (v := 5) hx hb dL_whyNot_79 (by decide) ?_
            refine lv_goto (tgt := 84) hx hb dL_whyNot_80 (by decide) ?_
            cases some_i h
            exact kx1 _ _ _ hP hD hS (lv_sub hl [] rfl)
        · have h := if_f c8 h
          refine lv_iconst (v := 4) hx hb dL_whyNot_66 (by decide) ?_
          refine lv_goto (tgt := 84) hx hb dL_whyNot_67 (by decide) ?_
          cases some_i h
          exact kx1 _ _ _ hP hD hS (lv_sub hl [] rfl)
      · have h := if_t c6 h
        refine lv_iconst (v := 3) hx hb dL_whyNot_51 (by decide) ?_
        refine lv_goto (tgt := 84) hx hb dL_whyNot_52 (by decide) ?_
        cases some_i h
        exact kx1 _ _ _ hP hD hS (lv_sub hl [] rfl)
    · have h := if_t c4 h
      refine lv_iconst (v := 2) hx hb dL_whyNot_31 (by decide) ?_
      refine lv_goto (tgt := 84) hx hb dL_whyNot_32 (by decide) ?_
      cases some_i h
      exact kx1 _ _ _ hP hD hS (lv_sub hl [] rfl)
  · have h := if_f c3 h
    refine lv_iconst (v := 1) hx hb dL_whyNot_14 (by decide) ?_
    refine lv_goto (tgt := 84) hx hb dL_whyNot_15 (by decide) ?_
    cases some_i h
    exact kx1 _ _ _ hP hD hS (lv_sub hl [] rfl)
def fL_turns_L43 (vw : AI) (vq3 : AI) : Nat → Int32 → Int32 → AI → Option (Int32 × AI)
  | 0, _, _, _ => none
  | n + 1, v3_4, v4_5, vc6 =>
    (if (3 : Int32) ≤ v4_5 then
    (some (v3_4, vc6))
    else
    (ck (inb (((7 : Int32) * v4_5) + (3 : Int32)) 21)
    (pl (upd vc6 (((7 : Int32) * v4_5) + (3 : Int32)).toNatClampNeg (0 : Int32)) fun (vc10 : AI) =>
    (ck (inb ((7 : Int32) * v4_5) 21)
    (bd2 (if (vc10 ((7 : Int32) * v4_5).toNatClampNeg) < (0 : Int32) then
    (some (v3_4, vc10))
    else
    (ck (inb ((7 : Int32) * v4_5) 21)
    (ck (inb (vc10 ((7 : Int32) * v4_5).toNatClampNeg) 24)
    (bd (fL_isBarred vq3 (vw (vc10 ((7 : Int32) * v4_5).toNatClampNeg).toNatClampNeg) (0 : Int32)) fun (r15 : Int32) =>
    (if r15 = (0 : Int32) then
    (some (v3_4, vc10))
    else
    (ck (inb ((7 : Int32) * v4_5) 21)
    (pl (upd vc10 ((7 : Int32) * v4_5).toNatClampNeg (-1 : Int32)) fun (vc17 : AI) =>
    (ck (inb (((7 : Int32) * v4_5) + (6 : Int32)) 21)
    (ck (inb (((7 : Int32) * v4_5) + (6 : Int32)) 21)
    (pl (upd vc17 (((7 : Int32) * v4_5) + (6 : Int32)).toNatClampNeg ((vc17 (((7 : Int32) * v4_5) + (6 : Int32)).toNatClampNeg) + (1 : Int32))) fun (vc18 : AI) =>
    (pl ((v3_4 + (1 : Int32))) fun (x19 : Int32) =>
    (some (x19, vc18))))))))))))) fun (v3_11 : Int32) (vc12 : AI) =>
    (pl ((v4_5 + (1 : Int32))) fun (x13 : Int32) =>
    (fL_turns_L43 vw vq3 n v3_11 x13 vc12)))))))
def fL_turns (vq : AI) (vw : AI) (vc : AI) : Option (Int32 × AI × AI) :=
(ck (inb (1 : Int32) 10)
(pl (upd vq (1 : Int32).toNatClampNeg ((vq (1 : Int32).toNatClampNeg) + (1 : Int32))) fun (vq1 : AI) =>
(bd (if (vq1 (1 : Int32).toNatClampNeg) = (4 : Int32) then
(ck (inb (1 : Int32) 10)
(pl (upd vq1 (1 : Int32).toNatClampNeg (0 : Int32)) fun (vq24 : AI) =>
(ck (inb (2 : Int32) 10)
(pl (upd vq24 (2 : Int32).toNatClampNeg (((vq24 (2 : Int32).toNatClampNeg) + (vq24 (3 : Int32).toNatClampNeg)) - ((vq24 (2 : Int32).toNatClampNeg) + (vq24 (3 : Int32).toNatClampNeg)) / (8 : Int32) * (8 : Int32))) fun (vq25 : AI) =>
(some vq25)))))
else
(some vq1)) fun (vq2 : AI) =>
(ck (inb (5 : Int32) 10)
(pl (upd vq2 (5 : Int32).toNatClampNeg ((vq2 (5 : Int32).toNatClampNeg) + (1 : Int32))) fun (vq3 : AI) =>
(bd2 (fL_turns_L43 vw vq3 1000 (0 : Int32) (0 : Int32) vc) fun (v3_20 : Int32) (vc21 : AI) =>
(ck (inb (8 : Int32) 10)
(pl (upd vq3 (8 : Int32).toNatClampNeg ((vq3 (8 : Int32).toNatClampNeg) + v3_20)) fun (vq22 : AI) =>
(some (v3_20, vq22, vc21))))))))))
abbrev rL_turns : Room := { frames := 2, cells := 0, slots := 0, locals := 45 }
theorem hdL_turns : yL_turns.cls ≠ "java/lang/invoke/MethodHandle" ∧ yL_turns.cls ≠ "java/lang/invoke/VarHandle" ∧ (parseMethodDescriptor yL_turns.desc).map (fun d => d.parameters.length) = some 3 := by decide +kernel
set_option maxRecDepth 100000 in
set_option maxHeartbeats 16000000 in
theorem kL_turns (l : Launch) (g : GG) (aq aw ac : Nat) {vq : AI} {vw : AI} {vc : AI} {res : Int32} {vq' : AI} {vc' : AI} (h : fL_turns vq vw vc = some (res, vq', vc')) : Cg l g yL_turns wsL_turns rL_turns [.ref aq, .ref aw, .ref ac] ((cAr g aq 10 vq) ++ ((cAr g aw 24 vw) ++ ((cAr g ac 21 vc)))) (some (.int res)) ((cAr g aq 10 vq') ++ ((cAr g aw 24 vw) ++ ((cAr g ac 21 vc')))) := by
  refine Cg_of (cc := cL_turns) (maxL := 5) (ret := (some .int)) (by decide +kernel) rfl (Nat.le_of_ble_eq_true rfl) ?_
  intro p e su m args below meth c A Q ls hx hb hml hown hts hK hN hA hnm hP hD hS hl hend
  unfold fL_turns at h
  have hl : lv_has ls 5 [(0, .ref aq), (1, .ref aw), (2, .ref ac)] := hl
  refine lv_aload_n hx hb dL_turns_0 rfl (lv_at hl 0 rfl) ?_
  refine lv_iconst (v := 1) hx hb dL_turns_1 (by decide) ?_
  refine lv_dup2_11 hx hb dL_turns_2 rfl rfl ?_
  refine va_iald hx hb hK hP 0 0 rfl rfl (inb_in (i := 1) (n := 10) (by decide)) dL_turns_3 ?_
  refine lv_iconst (v := 1) hx hb dL_turns_4 (by decide) ?_
  refine lv_iadd hx hb dL_turns_5 ?_
  obtain ⟨hi9, h⟩ := ck_ex h
  obtain ⟨vq1, evq1, h⟩ := pl_ex h
  refine va_iast hx hb hK hP hD hS 0 0 rfl rfl (inb_in hi9) dL_turns_6 (fun H locs hP hD hS => ?_)
  have hP : va_P g.1 vwCl ((cAr g aq 10 vq1) ++ ((cAr g aw 24 vw) ++ ((cAr g ac 21 vc)))) H := by rw [← evq1]; exact hP
  have hD : va_D A ((cAr g aq 10 vq1) ++ ((cAr g aw 24 vw) ++ ((cAr g ac 21 vc)))) := by rw [← evq1]; exact hD
  refine lv_aload_n hx hb dL_turns_7 rfl (lv_at hl 0 rfl) ?_
  refine lv_iconst (v := 1) hx hb dL_turns_8 (by decide) ?_
  refine va_iald hx hb hK hP 0 0 rfl rfl (inb_in (i := 1) (n := 10) (by decide)) dL_turns_9 ?_
  refine lv_iconst (v := 4) hx hb dL_turns_10 (by decide) ?_
  obtain ⟨vq2, kvq2, h⟩ := bd_ex h
  have kx1 : ∀ (H : Heap) (locs : List Loc) (ls : Array Slot), va_P g.1 vwCl ((cAr g aq 10 vq2) ++ ((cAr g aw 24 vw) ++ ((cAr g ac 21 vc)))) H → va_D A ((cAr g aq 10 vq2) ++ ((cAr g aw 24 vw) ++ ((cAr g ac 21 vc)))) → va_S A su.heap H locs → lv_has ls 5 [(0, .ref aq), (1, .ref aw), (2, .ref ac)] → W p l e rL_turns su m args below meth c H locs 0 0 Q (F0 m 31 ls []) := by
    intro H locs ls hP hD hS hl
    refine lv_aload_n hx hb dL_turns_31 rfl (lv_at hl 0 rfl) ?_
    refine lv_iconst (v := 5) hx hb dL_turns_32 (by decide) ?_
    refine lv_dup2_11 hx hb dL_turns_33 rfl rfl ?_
    refine va_iald hx hb hK hP 0 0 rfl rfl (inb_in (i := 5) (n := 10) (by decide)) dL_turns_34 ?_
    refine lv_iconst (v := 1) hx hb dL_turns_35 (by decide) ?_
    refine lv_iadd hx hb dL_turns_36 ?_
    obtain ⟨hi9, h⟩ := ck_ex h
    obtain ⟨vq3, evq3, h⟩ := pl_ex h
    refine va_iast hx hb hK hP hD hS 0 0 rfl rfl (inb_in hi9) dL_turns_37 (fun H locs hP hD hS => ?_)
    have hP : va_P g.1 vwCl ((cAr g aq 10 vq3) ++ ((cAr g aw 24 vw) ++ ((cAr g ac 21 vc)))) H := by rw [← evq3]; exact hP
    have hD : va_D A ((cAr g aq 10 vq3) ++ ((cAr g aw 24 vw) ++ ((cAr g ac 21 vc)))) := by rw [← evq3]; exact hD
    refine lv_iconst (v := 0) hx hb dL_turns_38 (by decide) ?_
    refine lv_istore_n (lv' := [(3, .int (0 : Int32)), (0, .ref aq), (1, .ref aw), (2, .ref ac)]) hx hb dL_turns_39 rfl hl (by decide) rfl (fun ls hl => ?_)
    refine lv_iconst (v := 0) hx hb dL_turns_40 (by decide) ?_
    refine lv_istore (lv' := [(4, .int (0 : Int32)), (3, .int (0 : Int32)), (0, .ref aq), (1, .ref aw), (2, .ref ac)]) hx hb dL_turns_41 hl (by decide) rfl (fun ls hl => ?_)
    have L43 : ∀ (n : Nat) (v3_4 : Int32) (v4_5 : Int32) (vc6 : AI) (y3_7 : Int32) (vc8 : AI) (H : Heap) (locs : List Loc) (ls : Array Slot), fL_turns_L43 vw vq3 n v3_4 v4_5 vc6 = some (y3_7, vc8) → va_P g.1 vwCl ((cAr g aq 10 vq3) ++ ((cAr g aw 24 vw) ++ ((cAr g ac 21 vc6)))) H → va_D A ((cAr g aq 10 vq3) ++ ((cAr g aw 24 vw) ++ ((cAr g ac 21 vc6)))) → va_S A su.heap H locs → lv_has ls 5 [(0, .ref aq), (1, .ref aw), (2, .ref ac), (3, .int v3_4), (4, .int v4_5)] → (∀ (H : Heap) (locs : List Loc) (ls : Array Slot), va_P g.1 vwCl ((cAr g aq 10 vq3) ++ ((cAr g aw 24 vw) ++ ((cAr g ac 21 vc8)))) H → va_D A ((cAr g aq 10 vq3) ++ ((cAr g aw 24 vw) ++ ((cAr g ac 21 vc8)))) → va_S A su.heap H locs → lv_has ls 5 [(0, .ref aq), (3, .int y3_7)] → W p l e rL_turns su m args below meth c H locs 0 0 Q (F0 m 117 ls [])) → W p l e rL_turns su m args below meth c H locs 0 0 Q (F0 m 43 ls []) := by
      intro n
      induction n with
      | zero => intro v3_4 v4_5 vc6 y3_7 vc8 H locs ls h hP hD hS hl kx; cases h
      | succ n ih =>
        intro v3_4 v4_5 vc6 y3_7 vc8 H locs ls h hP hD hS hl kx
        rw [fL_turns_L43] at h
        refine lv_iload hx hb dL_turns_43 (lv_at hl 4 rfl) ?_
        refine lv_iconst (v := 3) hx hb dL_turns_45 (by decide) ?_
        refine lv_icmp_ge (tgt := 117) hx hb dL_turns_46 (by decide) (fun c9 => ?_) (fun c9 => ?_)
        · have h := if_t c9 h
          cases some_i h
          exact kx _ _ _ hP hD hS (lv_sub hl [0, 3] rfl)
        · have h := if_f c9 h
          refine lv_aload_n hx hb dL_turns_49 rfl (lv_at hl 2 rfl) ?_
          refine lv_bipush (v := 7) hx hb dL_turns_50 (by decide) ?_
          refine lv_iload hx hb dL_turns_52 (lv_at hl 4 rfl) ?_
          refine lv_imul hx hb dL_turns_54 ?_
          refine lv_iconst (v := 3) hx hb dL_turns_55 (by decide) ?_
          refine lv_iadd hx hb dL_turns_56 ?_
          refine lv_iconst (v := 0) hx hb dL_turns_57 (by decide) ?_
          obtain ⟨hi9, h⟩ := ck_ex h
          obtain ⟨vc10, evc10, h⟩ := pl_ex h
          refine va_iast hx hb hK hP hD hS 2 0 rfl rfl (inb_in hi9) dL_turns_58 (fun H locs hP hD hS => ?_)
          have hP : va_P g.1 vwCl ((cAr g aq 10 vq3) ++ ((cAr g aw 24 vw) ++ ((cAr g ac 21 vc10)))) H := by rw [← evc10]; exact hP
          have hD : va_D A ((cAr g aq 10 vq3) ++ ((cAr g aw 24 vw) ++ ((cAr g ac 21 vc10)))) := by rw [← evc10]; exact hD
          refine lv_aload_n hx hb dL_turns_59 rfl (lv_at hl 2 rfl) ?_
          refine lv_bipush (v := 7) hx hb dL_turns_60 (by decide) ?_
          refine lv_iload hx hb dL_turns_62 (lv_at hl 4 rfl) ?_
          refine lv_imul hx hb dL_turns_64 ?_
          obtain ⟨hi9, h⟩ := ck_ex h
          refine va_iald hx hb hK hP 2 0 rfl rfl (inb_in hi9) dL_turns_65 ?_
          obtain ⟨v3_11, vc12, kv3_11, h⟩ := bd2_ex h
          have kx2 : ∀ (H : Heap) (locs : List Loc) (ls : Array Slot), va_P g.1 vwCl ((cAr g aq 10 vq3) ++ ((cAr g aw 24 vw) ++ ((cAr g ac 21 vc12)))) H → va_D A ((cAr g aq 10 vq3) ++ ((cAr g aw 24 vw) ++ ((cAr g ac 21 vc12)))) → va_S A su.heap H locs → lv_has ls 5 [(0, .ref aq), (1, .ref aw), (2, .ref ac), (3, .int v3_11), (4, .int v4_5)] → W p l e rL_turns su m args below meth c H locs 0 0 Q (F0 m 111 ls []) := by
            intro H locs ls hP hD hS hl
            obtain ⟨x13, ex13, h⟩ := pl_ex h
            refine lv_iinc (v := x13) (lv' := [(4, .int x13), (0, .ref aq), (1, .ref aw), (2, .ref ac), (3, .int v3_11)]) hx hb dL_turns_111 hl (k := 4) rfl (by rw [← ex13]; rfl) (by decide) rfl (fun ls hl => ?_)
            refine lv_goto (tgt := 43) hx hb dL_turns_114 (by decide) ?_
            exact ih v3_11 x13 vc12 _ _ _ _ _ h hP hD hS (lv_sub hl [1, 2, 3, 4, 0] rfl) kx
          have h := kv3_11
          refine lv_if_lt (tgt := 111) hx hb dL_turns_66 (by decide) (fun c14 => ?_) (fun c14 => ?_)
          · have h := if_t c14 h
            cases some_i h
            exact kx2 _ _ _ hP hD hS (lv_sub hl [0, 1, 2, 3, 4] rfl)
          · have h := if_f c14 h
            refine lv_aload_n hx hb dL_turns_69 rfl (lv_at hl 1 rfl) ?_
            refine lv_aload_n hx hb dL_turns_70 rfl (lv_at hl 2 rfl) ?_
            refine lv_bipush (v := 7) hx hb dL_turns_71 (by decide) ?_
            refine lv_iload hx hb dL_turns_73 (lv_at hl 4 rfl) ?_
            refine lv_imul hx hb dL_turns_75 ?_
            obtain ⟨hi9, h⟩ := ck_ex h
            refine va_iald hx hb hK hP 2 0 rfl rfl (inb_in hi9) dL_turns_76 ?_
            obtain ⟨hi9, h⟩ := ck_ex h
            refine va_iald hx hb hK hP 1 0 rfl rfl (inb_in hi9) dL_turns_77 ?_
            refine lv_iconst (v := 0) hx hb dL_turns_78 (by decide) ?_
            refine lv_aload_n hx hb dL_turns_79 rfl (lv_at hl 0 rfl) ?_
            obtain ⟨r15, kr15, h⟩ := bd_ex h
            have pq : (((cAr g aq 10 vq3) ++ ((cAr g aw 24 vw) ++ ((cAr g ac 21 vc10)))) : va_W).Perm (((cAr g aq 10 vq3)) ++ ((cAr g aw 24 vw) ++ ((cAr g ac 21 vc10)))) := pmS [(cAr g aq 10 vq3), (cAr g aw 24 vw), (cAr g ac 21 vc10)] [0, 1, 2] [0] [1, 2] (by decide)
            have pr : ((((cAr g aq 10 vq3)) ++ ((cAr g aw 24 vw) ++ ((cAr g ac 21 vc10)))) : va_W).Perm ((cAr g aq 10 vq3) ++ ((cAr g aw 24 vw) ++ ((cAr g ac 21 vc10)))) := (pmS [(cAr g aq 10 vq3), (cAr g aw 24 vw), (cAr g ac 21 vc10)] [0, 1, 2] [0] [1, 2] (by decide)).symm
            refine aft_p (st1 := [.int r15]) (ws' := ((cAr g aq 10 vq3) ++ ((cAr g aw 24 vw) ++ ((cAr g ac 21 vc10))))) rfl pq pr (runS (As := [.int (vw (vc10 ((7 : Int32) * v4_5).toNatClampNeg).toNatClampNeg), .int (0 : Int32), .ref aq]) (rest := []) ⟨hx, hb, hml, hown, hts⟩ (kL_isBarred l g aq kr15) (va_cwS 3 hts gL_turns_L_isBarred rfl rfl rfl hdL_isBarred ⟨Nat.le_of_ble_eq_true rfl, Nat.le_of_ble_eq_true rfl⟩) hK hN (hP.perm pq).left (hD.perm pq).left rfl hl.1 rfl (Nat.le_of_ble_eq_true rfl) dL_turns_80 ⟨Nat.zero_le _, Nat.zero_le _⟩) hP hD hS hA (fun H locs hP hD hS => ?_)
            refine lv_if_eq (tgt := 111) hx hb dL_turns_83 (by decide) (fun c16 => ?_) (fun c16 => ?_)
            · have h := if_t c16 h
              cases some_i h
              exact kx2 _ _ _ hP hD hS (lv_sub hl [0, 1, 2, 3, 4] rfl)
            · have h := if_f c16 h
              refine lv_aload_n hx hb dL_turns_86 rfl (lv_at hl 2 rfl) ?_
              refine lv_bipush (v := 7) hx hb dL_turns_87 (by decide) ?_
              refine lv_iload hx hb dL_turns_89 (lv_at hl 4 rfl) ?_
              refine lv_imul hx hb dL_turns_91 ?_
              refine lv_iconst (v := -1) hx hb dL_turns_92 (by decide) ?_
              obtain ⟨hi9, h⟩ := ck_ex h
              obtain ⟨vc17, evc17, h⟩ := pl_ex h
              refine va_iast hx hb hK hP hD hS 2 0 rfl rfl (inb_in hi9) dL_turns_93 (fun H locs hP hD hS => ?_)
              have hP : va_P g.1 vwCl ((cAr g aq 10 vq3) ++ ((cAr g aw 24 vw) ++ ((cAr g ac 21 vc17)))) H := by rw [← evc17]; exact hP
              have hD : va_D A ((cAr g aq 10 vq3) ++ ((cAr g aw 24 vw) ++ ((cAr g ac 21 vc17)))) := by rw [← evc17]; exact hD
              refine lv_aload_n hx hb dL_turns_94 rfl (lv_at hl 2 rfl) ?_
              refine lv_bipush (v := 7) hx hb dL_turns_95 (by decide) ?_
              refine lv_iload hx hb dL_turns_97 (lv_at hl 4 rfl) ?_
              refine lv_imul hx hb dL_turns_99 ?_
              refine lv_bipush (v := 6) hx hb dL_turns_100 (by decide) ?_
              refine lv_iadd hx hb dL_turns_102 ?_
              refine lv_dup2_11 hx hb dL_turns_103 rfl rfl ?_
              obtain ⟨hi9, h⟩ := ck_ex h
              refine va_iald hx hb hK hP 2 0 rfl rfl (inb_in hi9) dL_turns_104 ?_
              refine lv_iconst (v := 1) hx hb dL_turns_105 (by decide) ?_
              refine lv_iadd hx hb dL_turns_106 ?_
              obtain ⟨hi9, h⟩ := ck_ex h
              obtain ⟨vc18, evc18, h⟩ := pl_ex h
              refine va_iast hx hb hK hP hD hS 2 0 rfl rfl (inb_in hi9) dL_turns_107 (fun H locs hP hD hS => ?_)
              have hP : va_P g.1 vwCl ((cAr g aq 10 vq3) ++ ((cAr g aw 24 vw) ++ ((cAr g ac 21 vc18)))) H := by rw [← evc18]; exact hP
              have hD : va_D A ((cAr g aq 10 vq3) ++ ((cAr g aw 24 vw) ++ ((cAr g ac 21 vc18)))) := by rw [← evc18]; exact hD
              obtain ⟨x19, ex19, h⟩ := pl_ex h
              refine lv_iinc (v := x19) (lv' := [(3, .int x19), (0, .ref aq), (1, .ref aw), (2, .ref ac), (4, .int v4_5)]) hx hb dL_turns_108 hl (k := 3) rfl (by rw [← ex19]; rfl) (by decide) rfl (fun ls hl => ?_)
              cases some_i h
              exact kx2 _ _ _ hP hD hS (lv_sub hl [1, 2, 3, 0, 4] rfl)
    obtain ⟨v3_20, vc21, kv3_20, h⟩ := bd2_ex h
    refine L43 1000 (0 : Int32) (0 : Int32) vc v3_20 vc21 _ _ _ kv3_20 hP hD hS (lv_sub hl [2, 3, 4, 1, 0] rfl) (fun H locs ls hP hD hS hl => ?_)
    refine lv_aload_n hx hb dL_turns_117 rfl (lv_at hl 0 rfl) ?_
    refine lv_bipush (v := 8) hx hb dL_turns_118 (by decide) ?_
    refine lv_dup2_11 hx hb dL_turns_120 rfl rfl ?_
    refine va_iald hx hb hK hP 0 0 rfl rfl (inb_in (i := 8) (n := 10) (by decide)) dL_turns_121 ?_
    refine lv_iload_n hx hb dL_turns_122 rfl (lv_at hl 1 rfl) ?_
    refine lv_iadd hx hb dL_turns_123 ?_
    obtain ⟨hi9, h⟩ := ck_ex h
    obtain ⟨vq22, evq22, h⟩ := pl_ex h
    refine va_iast hx hb hK hP hD hS 0 0 rfl rfl (inb_in hi9) dL_turns_124 (fun H locs hP hD hS => ?_)
    have hP : va_P g.1 vwCl ((cAr g aq 10 vq22) ++ ((cAr g aw 24 vw) ++ ((cAr g ac 21 vc21)))) H := by rw [← evq22]; exact hP
    have hD : va_D A ((cAr g aq 10 vq22) ++ ((cAr g aw 24 vw) ++ ((cAr g ac 21 vc21)))) := by rw [← evq22]; exact hD
    refine lv_iload_n hx hb dL_turns_125 rfl (lv_at hl 1 rfl) ?_
    cases some_i h
    exact hend _ _ _ _ _ hP hD hS (RetOK.i dL_turns_126)
  have h := kvq2
  refine lv_icmp_ne (tgt := 31) hx hb dL_turns_11 (by decide) (fun c23 => ?_) (fun c23 => ?_)
  · have h := if_f c23 h
    cases some_i h
    exact kx1 _ _ _ hP hD hS (lv_sub hl [0, 1, 2] rfl)
  · have h := if_t c23 h
    refine lv_aload_n hx hb dL_turns_14 rfl (lv_at hl 0 rfl) ?_
    refine lv_iconst (v := 1) hx hb dL_turns_15 (by decide) ?_
    refine lv_iconst (v := 0) hx hb dL_turns_16 (by decide) ?_
    obtain ⟨hi9, h⟩ := ck_ex h
    obtain ⟨vq24, evq24, h⟩ := pl_ex h
    refine va_iast hx hb hK hP hD hS 0 0 rfl rfl (inb_in hi9) dL_turns_17 (fun H locs hP hD hS => ?_)
    have hP : va_P g.1 vwCl ((cAr g aq 10 vq24) ++ ((cAr g aw 24 vw) ++ ((cAr g ac 21 vc)))) H := by rw [← evq24]; exact hP
    have hD : va_D A ((cAr g aq 10 vq24) ++ ((cAr g aw 24 vw) ++ ((cAr g ac 21 vc)))) := by rw [← evq24]; exact hD
    refine lv_aload_n hx hb dL_turns_18 rfl (lv_at hl 0 rfl) ?_
    refine lv_iconst (v := 2) hx hb dL_turns_19 (by decide) ?_
    refine lv_aload_n hx hb dL_turns_20 rfl (lv_at hl 0 rfl) ?_
    refine lv_iconst (v := 2) hx hb dL_turns_21 (by decide) ?_
    refine va_iald hx hb hK hP 0 0 rfl rfl (inb_in (i := 2) (n := 10) (by decide)) dL_turns_22 ?_
    refine lv_aload_n hx hb dL_turns_23 rfl (lv_at hl 0 rfl) ?_
    refine lv_iconst (v := 3) hx hb dL_turns_24 (by decide) ?_
    refine va_iald hx hb hK hP 0 0 rfl rfl (inb_in (i := 3) (n := 10) (by decide)) dL_turns_25 ?_
    refine lv_iadd hx hb dL_turns_26 ?_
    refine lv_bipush (v := 8) hx hb dL_turns_27 (by decide) ?_
    refine lv_irem hx hb dL_turns_29 (by decide) ?_
    obtain ⟨hi9, h⟩ := ck_ex h
    obtain ⟨vq25, evq25, h⟩ := pl_ex h
    refine va_iast hx hb hK hP hD hS 0 0 rfl rfl (inb_in hi9) dL_turns_30 (fun H locs hP hD hS => ?_)
    have hP : va_P g.1 vwCl ((cAr g aq 10 vq25) ++ ((cAr g aw 24 vw) ++ ((cAr g ac 21 vc)))) H := by rw [← evq25]; exact hP
    have hD : va_D A ((cAr g aq 10 vq25) ++ ((cAr g aw 24 vw) ++ ((cAr g ac 21 vc)))) := by rw [← evq25]; exact hD
    cases some_i h
    exact kx1 _ _ _ hP hD hS (lv_sub hl [0, 1, 2] rfl)
def fL_climbs (vq : AI) (vc : AI) (p0 : Int32) (p1 : Int32) : Option (Int32 × AI × AI) :=
(ck (inb (6 : Int32) 10)
(pl (upd vq (6 : Int32).toNatClampNeg ((vq (6 : Int32).toNatClampNeg) + (1 : Int32))) fun (vq1 : AI) =>
(ck (inb ((7 : Int32) * p0) 21)
(pl (upd vc ((7 : Int32) * p0).toNatClampNeg p1) fun (vc2 : AI) =>
(ck (inb (((7 : Int32) * p0) + (3 : Int32)) 21)
(pl (upd vc2 (((7 : Int32) * p0) + (3 : Int32)).toNatClampNeg (1 : Int32)) fun (vc3 : AI) =>
(ck (inb (((7 : Int32) * p0) + (4 : Int32)) 21)
(ck (inb (((7 : Int32) * p0) + (4 : Int32)) 21)
(pl (upd vc3 (((7 : Int32) * p0) + (4 : Int32)).toNatClampNeg ((vc3 (((7 : Int32) * p0) + (4 : Int32)).toNatClampNeg) + (1 : Int32))) fun (vc4 : AI) =>
(ck (inb (((7 : Int32) * p0) + (2 : Int32)) 21)
(if p1 = (vc4 (((7 : Int32) * p0) + (2 : Int32)).toNatClampNeg) then
(ck (inb (7 : Int32) 10)
(pl (upd vq1 (7 : Int32).toNatClampNeg ((vq1 (7 : Int32).toNatClampNeg) + (1 : Int32))) fun (vq6 : AI) =>
(ck (inb (((7 : Int32) * p0) + (4 : Int32)) 21)
(ck (inb (9 : Int32) 10)
(pl (upd vq6 (9 : Int32).toNatClampNeg ((vq6 (9 : Int32).toNatClampNeg) + (vc4 (((7 : Int32) * p0) + (4 : Int32)).toNatClampNeg))) fun (vq7 : AI) =>
(ck (inb (((7 : Int32) * p0) + (5 : Int32)) 21)
(ck (inb (((7 : Int32) * p0) + (5 : Int32)) 21)
(pl (upd vc4 (((7 : Int32) * p0) + (5 : Int32)).toNatClampNeg ((vc4 (((7 : Int32) * p0) + (5 : Int32)).toNatClampNeg) + (1 : Int32))) fun (vc8 : AI) =>
(ck (inb ((7 : Int32) * p0) 21)
(pl (upd vc8 ((7 : Int32) * p0).toNatClampNeg (-1 : Int32)) fun (vc9 : AI) =>
(ck (inb (((7 : Int32) * p0) + (3 : Int32)) 21)
(pl (upd vc9 (((7 : Int32) * p0) + (3 : Int32)).toNatClampNeg (0 : Int32)) fun (vc10 : AI) =>
(some ((1 : Int32), vq7, vc10))))))))))))))
else
(some ((0 : Int32), vq1, vc4)))))))))))))
abbrev rL_climbs : Room := { frames := 0, cells := 0, slots := 0, locals := 0 }
theorem hdL_climbs : yL_climbs.cls ≠ "java/lang/invoke/MethodHandle" ∧ yL_climbs.cls ≠ "java/lang/invoke/VarHandle" ∧ (parseMethodDescriptor yL_climbs.desc).map (fun d => d.parameters.length) = some 4 := by decide +kernel
set_option maxRecDepth 100000 in
set_option maxHeartbeats 16000000 in
theorem kL_climbs (l : Launch) (g : GG) (aq ac : Nat) {vq : AI} {vc : AI} {p0 : Int32} {p1 : Int32} {res : Int32} {vq' : AI} {vc' : AI} (h : fL_climbs vq vc p0 p1 = some (res, vq', vc')) : Cg l g yL_climbs wsL_climbs rL_climbs [.int p0, .int p1, .ref aq, .ref ac] ((cAr g aq 10 vq) ++ ((cAr g ac 21 vc))) (some (.int res)) ((cAr g aq 10 vq') ++ ((cAr g ac 21 vc'))) := by
  refine Cg_of (cc := cL_climbs) (maxL := 4) (ret := (some .int)) (by decide +kernel) rfl (Nat.le_of_ble_eq_true rfl) ?_
  intro p e su m args below meth c A Q ls hx hb hml hown hts hK hN hA hnm hP hD hS hl hend
  unfold fL_climbs at h
  have hl : lv_has ls 4 [(0, .int p0), (1, .int p1), (2, .ref aq), (3, .ref ac)] := hl
  refine lv_aload_n hx hb dL_climbs_0 rfl (lv_at hl 2 rfl) ?_
  refine lv_bipush (v := 6) hx hb dL_climbs_1 (by decide) ?_
  refine lv_dup2_11 hx hb dL_climbs_3 rfl rfl ?_
  refine va_iald hx hb hK hP 0 0 rfl rfl (inb_in (i := 6) (n := 10) (by decide)) dL_climbs_4 ?_
  refine lv_iconst (v := 1) hx hb dL_climbs_5 (by decide) ?_
  refine lv_iadd hx hb dL_climbs_6 ?_
  obtain ⟨hi9, h⟩ := ck_ex h
  obtain ⟨vq1, evq1, h⟩ := pl_ex h
  refine va_iast hx hb hK hP hD hS 0 0 rfl rfl (inb_in hi9) dL_climbs_7 (fun H locs hP hD hS => ?_)
  have hP : va_P g.1 vwCl ((cAr g aq 10 vq1) ++ ((cAr g ac 21 vc))) H := by rw [← evq1]; exact hP
  have hD : va_D A ((cAr g aq 10 vq1) ++ ((cAr g ac 21 vc))) := by rw [← evq1]; exact hD
  refine lv_aload_n hx hb dL_climbs_8 rfl (lv_at hl 3 rfl) ?_
  refine lv_bipush (v := 7) hx hb dL_climbs_9 (by decide) ?_
  refine lv_iload_n hx hb dL_climbs_11 rfl (lv_at hl 0 rfl) ?_
  refine lv_imul hx hb dL_climbs_12 ?_
  refine lv_iload_n hx hb dL_climbs_13 rfl (lv_at hl 1 rfl) ?_
  obtain ⟨hi9, h⟩ := ck_ex h
  obtain ⟨vc2, evc2, h⟩ := pl_ex h
  refine va_iast hx hb hK hP hD hS 1 0 rfl rfl (inb_in hi9) dL_climbs_14 (fun H locs hP hD hS => ?_)
  have hP : va_P g.1 vwCl ((cAr g aq 10 vq1) ++ ((cAr g ac 21 vc2))) H := by rw [← evc2]; exact hP
  have hD : va_D A ((cAr g aq 10 vq1) ++ ((cAr g ac 21 vc2))) := by rw [← evc2]; exact hD
  refine lv_aload_n hx hb dL_climbs_15 rfl (lv_at hl 3 rfl) ?_
  refine lv_bipush (v := 7) hx hb dL_climbs_16 (by decide) ?_
  refine lv_iload_n hx hb dL_climbs_18 rfl (lv_at hl 0 rfl) ?_
  refine lv_imul hx hb dL_climbs_19 ?_
  refine lv_iconst (v := 3) hx hb dL_climbs_20 (by decide) ?_
  refine lv_iadd hx hb dL_climbs_21 ?_
  refine lv_iconst (v := 1) hx hb dL_climbs_22 (by decide) ?_
  obtain ⟨hi9, h⟩ := ck_ex h
  obtain ⟨vc3, evc3, h⟩ := pl_ex h
  refine va_iast hx hb hK hP hD hS 1 0 rfl rfl (inb_in hi9) dL_climbs_23 (fun H locs hP hD hS => ?_)
  have hP : va_P g.1 vwCl ((cAr g aq 10 vq1) ++ ((cAr g ac 21 vc3))) H := by rw [← evc3]; exact hP
  have hD : va_D A ((cAr g aq 10 vq1) ++ ((cAr g ac 21 vc3))) := by rw [← evc3]; exact hD
  refine lv_aload_n hx hb dL_climbs_24 rfl (lv_at hl 3 rfl) ?_
  refine lv_bipush (v := 7) hx hb dL_climbs_25 (by decide) ?_
  refine lv_iload_n hx hb dL_climbs_27 rfl (lv_at hl 0 rfl) ?_
  refine lv_imul hx hb dL_climbs_28 ?_
  refine lv_iconst (v := 4) hx hb dL_climbs_29 (by decide) ?_
  refine lv_iadd hx hb dL_climbs_30 ?_
  refine lv_dup2_11 hx hb dL_climbs_31 rfl rfl ?_
  obtain ⟨hi9, h⟩ := ck_ex h
  refine va_iald hx hb hK hP 1 0 rfl rfl (inb_in hi9) dL_climbs_32 ?_
  refine lv_iconst (v := 1) hx hb dL_climbs_33 (by decide) ?_
  refine lv_iadd hx hb dL_climbs_34 ?_
  obtain ⟨hi9, h⟩ := ck_ex h
  obtain ⟨vc4, evc4, h⟩ := pl_ex h
  refine va_iast hx hb hK hP hD hS 1 0 rfl rfl (inb_in hi9) dL_climbs_35 (fun H locs hP hD hS => ?_)
  have hP : va_P g.1 vwCl ((cAr g aq 10 vq1) ++ ((cAr g ac 21 vc4))) H := by rw [← evc4]; exact hP
  have hD : va_D A ((cAr g aq 10 vq1) ++ ((cAr g ac 21 vc4))) := by rw [← evc4]; exact hD
  refine lv_iload_n hx hb dL_climbs_36 rfl (lv_at hl 1 rfl) ?_
  refine lv_aload_n hx hb dL_climbs_37 rfl (lv_at hl 3 rfl) ?_
  refine lv_bipush (v := 7) hx hb dL_climbs_38 (by decide) ?_
  refine lv_iload_n hx hb dL_climbs_40 rfl (lv_at hl 0 rfl) ?_
  refine lv_imul hx hb dL_climbs_41 ?_
  refine lv_iconst (v := 2) hx hb dL_climbs_42 (by decide) ?_
  refine lv_iadd hx hb dL_climbs_43 ?_
  obtain ⟨hi9, h⟩ := ck_ex h
  refine va_iald hx hb hK hP 1 0 rfl rfl (inb_in hi9) dL_climbs_44 ?_
  refine lv_icmp_eq (tgt := 50) hx hb dL_climbs_45 (by decide) (fun c5 => ?_) (fun c5 => ?_)
  · have h := if_t c5 h
    refine lv_aload_n hx hb dL_climbs_50 rfl (lv_at hl 2 rfl) ?_
    refine lv_bipush (v := 7) hx hb dL_climbs_51 (by decide) ?_
    refine lv_dup2_11 hx hb dL_climbs_53 rfl rfl ?_
    refine va_iald hx hb hK hP 0 0 rfl rfl (inb_in (i := 7) (n := 10) (by decide)) dL_climbs_54 ?_
    refine lv_iconst (v := 1) hx hb dL_climbs_55 (by decide) ?_
    refine lv_iadd hx hb dL_climbs_56 ?_
    obtain ⟨hi9, h⟩ := ck_ex h
    obtain ⟨vq6, evq6, h⟩ := pl_ex h
    refine va_iast hx hb hK hP hD hS 0 0 rfl rfl (inb_in hi9) dL_climbs_57 (fun H locs hP hD hS => ?_)
    have hP : va_P g.1 vwCl ((cAr g aq 10 vq6) ++ ((cAr g ac 21 vc4))) H := by rw [← evq6]; exact hP
    have hD : va_D A ((cAr g aq 10 vq6) ++ ((cAr g ac 21 vc4))) := by rw [← evq6]; exact hD
    refine lv_aload_n hx hb dL_climbs_58 rfl (lv_at hl 2 rfl) ?_
    refine lv_bipush (v := 9) hx hb dL_climbs_59 (by decide) ?_
    refine lv_dup2_11 hx hb dL_climbs_61 rfl rfl ?_
    refine va_iald hx hb hK hP 0 0 rfl rfl (inb_in (i := 9) (n := 10) (by decide)) dL_climbs_62 ?_
    refine lv_aload_n hx hb dL_climbs_63 rfl (lv_at hl 3 rfl) ?_
    refine lv_bipush (v := 7) hx hb dL_climbs_64 (by decide) ?_
    refine lv_iload_n hx hb dL_climbs_66 rfl (lv_at hl 0 rfl) ?_
    refine lv_imul hx hb dL_climbs_67 ?_
    refine lv_iconst (v := 4) hx hb dL_climbs_68 (by decide) ?_
    refine lv_iadd hx hb dL_climbs_69 ?_
    obtain ⟨hi9, h⟩ := ck_ex h
    refine va_iald hx hb hK hP 1 0 rfl rfl (inb_in hi9) dL_climbs_70 ?_
    refine lv_iadd hx hb dL_climbs_71 ?_
    obtain ⟨hi9, h⟩ := ck_ex h
    obtain ⟨vq7, evq7, h⟩ := pl_ex h
    refine va_iast hx hb hK hP hD hS 0 0 rfl rfl (inb_in hi9) dL_climbs_72 (fun H locs hP hD hS => ?_)
    have hP : va_P g.1 vwCl ((cAr g aq 10 vq7) ++ ((cAr g ac 21 vc4))) H := by rw [← evq7]; exact hP
    have hD : va_D A ((cAr g aq 10 vq7) ++ ((cAr g ac 21 vc4))) := by rw [← evq7]; exact hD
    refine lv_aload_n hx hb dL_climbs_73 rfl (lv_at hl 3 rfl) ?_
    refine lv_bipush (v := 7) hx hb dL_climbs_74 (by decide) ?_
    refine lv_iload_n hx hb dL_climbs_76 rfl (lv_at hl 0 rfl) ?_
    refine lv_imul hx hb dL_climbs_77 ?_
    refine lv_iconst (v := 5) hx hb dL_climbs_78 (by decide) ?_
    refine lv_iadd hx hb dL_climbs_79 ?_
    refine lv_dup2_11 hx hb dL_climbs_80 rfl rfl ?_
    obtain ⟨hi9, h⟩ := ck_ex h
    refine va_iald hx hb hK hP 1 0 rfl rfl (inb_in hi9) dL_climbs_81 ?_
    refine lv_iconst (v := 1) hx hb dL_climbs_82 (by decide) ?_
    refine lv_iadd hx hb dL_climbs_83 ?_
    obtain ⟨hi9, h⟩ := ck_ex h
    obtain ⟨vc8, evc8, h⟩ := pl_ex h
    refine va_iast hx hb hK hP hD hS 1 0 rfl rfl (inb_in hi9) dL_climbs_84 (fun H locs hP hD hS => ?_)
    have hP : va_P g.1 vwCl ((cAr g aq 10 vq7) ++ ((cAr g ac 21 vc8))) H := by rw [← evc8]; exact hP
    have hD : va_D A ((cAr g aq 10 vq7) ++ ((cAr g ac 21 vc8))) := by rw [← evc8]; exact hD
    refine lv_aload_n hx hb dL_climbs_85 rfl (lv_at hl 3 rfl) ?_
    refine lv_bipush (v := 7) hx hb dL_climbs_86 (by decide) ?_
    refine lv_iload_n hx hb dL_climbs_88 rfl (lv_at hl 0 rfl) ?_
    refine lv_imul hx hb dL_climbs_89 ?_
    refine lv_iconst (v := -1) hx hb dL_climbs_90 (by decide) ?_
    obtain ⟨hi9, h⟩ := ck_ex h
    obtain ⟨vc9, evc9, h⟩ := pl_ex h
    refine va_iast hx hb hK hP hD hS 1 0 rfl rfl (inb_in hi9) dL_climbs_91 (fun H locs hP hD hS => ?_)
    have hP : va_P g.1 vwCl ((cAr g aq 10 vq7) ++ ((cAr g ac 21 vc9))) H := by rw [← evc9]; exact hP
    have hD : va_D A ((cAr g aq 10 vq7) ++ ((cAr g ac 21 vc9))) := by rw [← evc9]; exact hD
    refine lv_aload_n hx hb dL_climbs_92 rfl (lv_at hl 3 rfl) ?_
    refine lv_bipush (v := 7) hx hb dL_climbs_93 (by decide) ?_
    refine lv_iload_n hx hb dL_climbs_95 rfl (lv_at hl 0 rfl) ?_
    refine lv_imul hx hb dL_climbs_96 ?_
    refine lv_iconst (v := 3) hx hb dL_climbs_97 (by decide) ?_
    refine lv_iadd hx hb dL_climbs_98 ?_
    refine lv_iconst (v := 0) hx hb dL_climbs_99 (by decide) ?_
    obtain ⟨hi9, h⟩ := ck_ex h
    obtain ⟨vc10, evc10, h⟩ := pl_ex h
    refine va_iast hx hb hK hP hD hS 1 0 rfl rfl (inb_in hi9) dL_climbs_100 (fun H locs hP hD hS => ?_)
    have hP : va_P g.1 vwCl ((cAr g aq 10 vq7) ++ ((cAr g ac 21 vc10))) H := by rw [← evc10]; exact hP
    have hD : va_D A ((cAr g aq 10 vq7) ++ ((cAr g ac 21 vc10))) := by rw [← evc10]; exact hD
    refine lv_iconst (v := 1) hx hb dL_climbs_101 (by decide) ?_
    cases some_i h
    exact hend _ _ _ _ _ hP hD hS (RetOK.i dL_climbs_102)
  · have h := if_f c5 h
    refine lv_iconst (v := 0) hx hb dL_climbs_48 (by decide) ?_
    cases some_i h
    exact hend _ _ _ _ _ hP hD hS (RetOK.i dL_climbs_49)
def fL_wordOf (p0 : Int32) (p1 : Int32) : Option (Int32) :=
(pl (((p0 / (7 : Int32)) + ((613 : Int32) * p1))) fun (x1 : Int32) =>
(bd (fL_low x1 (3 : Int32)) fun (r2 : Int32) =>
(bd (fL_low (x1 >>> ((2 : Int32) &&& 31)) (2 : Int32)) fun (r3 : Int32) =>
(bd (fL_low (x1 >>> ((3 : Int32) &&& 31)) (4 : Int32)) fun (r4 : Int32) =>
(bd (fL_low (x1 >>> ((9 : Int32) &&& 31)) (4 : Int32)) fun (r5 : Int32) =>
(bd (if r5 = (0 : Int32) then
(some (8 : Int32))
else
(some (2 : Int32))) fun (j6 : Int32) =>
(bd (fL_low (x1 >>> ((5 : Int32) &&& 31)) j6) fun (r7 : Int32) =>
(some ((((r2 <<< ((9 : Int32) &&& 31)) ||| (r3 <<< ((6 : Int32) &&& 31))) ||| (r4 <<< ((3 : Int32) &&& 31))) ||| r7)))))))))
abbrev rL_wordOf : Room := { frames := 1, cells := 0, slots := 0, locals := 21 }
theorem hdL_wordOf : yL_wordOf.cls ≠ "java/lang/invoke/MethodHandle" ∧ yL_wordOf.cls ≠ "java/lang/invoke/VarHandle" ∧ (parseMethodDescriptor yL_wordOf.desc).map (fun d => d.parameters.length) = some 2 := by decide +kernel
set_option maxRecDepth 100000 in
set_option maxHeartbeats 16000000 in
theorem kL_wordOf (l : Launch) (g : GG) {p0 : Int32} {p1 : Int32} {res : Int32} (h : fL_wordOf p0 p1 = some res) : Cg l g yL_wordOf wsL_wordOf rL_wordOf [.int p0, .int p1] [] (some (.int res)) [] := by
  refine Cg_of (cc := cL_wordOf) (maxL := 3) (ret := (some .int)) (by decide +kernel) rfl (Nat.le_of_ble_eq_true rfl) ?_
  intro p e su m args below meth c A Q ls hx hb hml hown hts hK hN hA hnm hP hD hS hl hend
  unfold fL_wordOf at h
  have hl : lv_has ls 3 [(0, .int p0), (1, .int p1)] := hl
  refine lv_iload_n hx hb dL_wordOf_0 rfl (lv_at hl 0 rfl) ?_
  refine lv_bipush (v := 7) hx hb dL_wordOf_1 (by decide) ?_
  refine lv_idiv hx hb dL_wordOf_3 (by decide) ?_
  refine lv_sipush (v := 613) hx hb dL_wordOf_4 (by decide) ?_
  refine lv_iload_n hx hb dL_wordOf_7 rfl (lv_at hl 1 rfl) ?_
  refine lv_imul hx hb dL_wordOf_8 ?_
  refine lv_iadd hx hb dL_wordOf_9 ?_
  obtain ⟨x1, ex1, h⟩ := pl_ex h
  refine lv_eqi ex1 ?_
  refine lv_istore_n (lv' := [(2, .int x1), (0, .int p0), (1, .int p1)]) hx hb dL_wordOf_10 rfl hl (by decide) rfl (fun ls hl => ?_)
  refine lv_iload_n hx hb dL_wordOf_11 rfl (lv_at hl 0 rfl) ?_
  refine lv_iconst (v := 3) hx hb dL_wordOf_12 (by decide) ?_
  obtain ⟨r2, kr2, h⟩ := bd_ex h
  refine aft_e (st1 := [.int r2]) rfl (runS (As := [.int x1, .int (3 : Int32)]) (rest := []) ⟨hx, hb, hml, hown, hts⟩ (kL_low l g kr2) (va_cwS 2 hts gL_wordOf_L_low rfl rfl rfl hdL_low ⟨Nat.le_of_ble_eq_true rfl, Nat.le_of_ble_eq_true rfl⟩) hK hN nilP (nilD (A := A)) rfl hl.1 rfl (Nat.le_of_ble_eq_true rfl) dL_wordOf_13 ⟨Nat.zero_le _, Nat.zero_le _⟩) hP hS hA (fun H locs hP hS => ?_)
  refine lv_bipush (v := 9) hx hb dL_wordOf_16 (by decide) ?_
  refine lv_ishl hx hb dL_wordOf_18 ?_
  refine lv_iload_n hx hb dL_wordOf_19 rfl (lv_at hl 0 rfl) ?_
  refine lv_iconst (v := 2) hx hb dL_wordOf_20 (by decide) ?_
  refine lv_ishr hx hb dL_wordOf_21 ?_
  refine lv_iconst (v := 2) hx hb dL_wordOf_22 (by decide) ?_
  obtain ⟨r3, kr3, h⟩ := bd_ex h
  refine aft_e (st1 := [.int r3, .int (r2 <<< ((9 : Int32) &&& 31))]) rfl (runS (As := [.int (x1 >>> ((2 : Int32) &&& 31)), .int (2 : Int32)]) (rest := [.int (r2 <<< ((9 : Int32) &&& 31))]) ⟨hx, hb, hml, hown, hts⟩ (kL_low l g kr3) (va_cwS 2 hts gL_wordOf_L_low rfl rfl rfl hdL_low ⟨Nat.le_of_ble_eq_true rfl, Nat.le_of_ble_eq_true rfl⟩) hK hN nilP (nilD (A := A)) rfl hl.1 rfl (Nat.le_of_ble_eq_true rfl) dL_wordOf_23 ⟨Nat.zero_le _, Nat.zero_le _⟩) hP hS hA (fun H locs hP hS => ?_)
  refine lv_bipush (v := 6) hx hb dL_wordOf_26 (by decide) ?_
  refine lv_ishl hx hb dL_wordOf_28 ?_
  refine lv_ior hx hb dL_wordOf_29 ?_
  refine lv_iload_n hx hb dL_wordOf_30 rfl (lv_at hl 0 rfl) ?_
  refine lv_iconst (v := 3) hx hb dL_wordOf_31 (by decide) ?_
  refine lv_ishr hx hb dL_wordOf_32 ?_
  refine lv_iconst (v := 4) hx hb dL_wordOf_33 (by decide) ?_
  obtain ⟨r4, kr4, h⟩ := bd_ex h
  refine aft_e (st1 := [.int r4, .int ((r2 <<< ((9 : Int32) &&& 31)) ||| (r3 <<< ((6 : Int32) &&& 31)))]) rfl (runS (As := [.int (x1 >>> ((3 : Int32) &&& 31)), .int (4 : Int32)]) (rest := [.int ((r2 <<< ((9 : Int32) &&& 31)) ||| (r3 <<< ((6 : Int32) &&& 31)))]) ⟨hx, hb, hml, hown, hts⟩ (kL_low l g kr4) (va_cwS 2 hts gL_wordOf_L_low rfl rfl rfl hdL_low ⟨Nat.le_of_ble_eq_true rfl, Nat.le_of_ble_eq_true rfl⟩) hK hN nilP (nilD (A := A)) rfl hl.1 rfl (Nat.le_of_ble_eq_true rfl) dL_wordOf_34 ⟨Nat.zero_le _, Nat.zero_le _⟩) hP hS hA (fun H locs hP hS => ?_)
  refine lv_iconst (v := 3) hx hb dL_wordOf_37 (by decide) ?_
  refine lv_ishl hx hb dL_wordOf_38 ?_
  refine lv_ior hx hb dL_wordOf_39 ?_
  refine lv_iload_n hx hb dL_wordOf_40 rfl (lv_at hl 0 rfl) ?_
  refine lv_iconst (v := 5) hx hb dL_wordOf_41 (by decide) ?_
  refine lv_ishr hx hb dL_wordOf_42 ?_
  refine lv_iload_n hx hb dL_wordOf_43 rfl (lv_at hl 0 rfl) ?_
  refine lv_bipush (v := 9) hx hb dL_wordOf_44 (by decide) ?_
  refine lv_ishr hx hb dL_wordOf_46 ?_
  refine lv_iconst (v := 4) hx hb dL_wordOf_47 (by decide) ?_
  obtain ⟨r5, kr5, h⟩ := bd_ex h
  refine aft_e (st1 := [.int r5, .int (x1 >>> ((5 : Int32) &&& 31)), .int (((r2 <<< ((9 : Int32) &&& 31)) ||| (r3 <<< ((6 : Int32) &&& 31))) ||| (r4 <<< ((3 : Int32) &&& 31)))]) rfl (runS (As := [.int (x1 >>> ((9 : Int32) &&& 31)), .int (4 : Int32)]) (rest := [.int (x1 >>> ((5 : Int32) &&& 31)), .int (((r2 <<< ((9 : Int32) &&& 31)) ||| (r3 <<< ((6 : Int32) &&& 31))) ||| (r4 <<< ((3 : Int32) &&& 31)))]) ⟨hx, hb, hml, hown, hts⟩ (kL_low l g kr5) (va_cwS 2 hts gL_wordOf_L_low rfl rfl rfl hdL_low ⟨Nat.le_of_ble_eq_true rfl, Nat.le_of_ble_eq_true rfl⟩) hK hN nilP (nilD (A := A)) rfl hl.1 rfl (Nat.le_of_ble_eq_true rfl) dL_wordOf_48 ⟨Nat.zero_le _, Nat.zero_le _⟩) hP hS hA (fun H locs hP hS => ?_)
  obtain ⟨j6, kj6, h⟩ := bd_ex h
  have kx1 : ∀ (H : Heap) (locs : List Loc) (ls : Array Slot), va_P g.1 vwCl [] H → va_D A [] → va_S A su.heap H locs → lv_has ls 3 [] → W p l e rL_wordOf su m args below meth c H locs 0 0 Q (F0 m 60 ls [.int j6, .int (x1 >>> ((5 : Int32) &&& 31)), .int (((r2 <<< ((9 : Int32) &&& 31)) ||| (r3 <<< ((6 : Int32) &&& 31))) ||| (r4 <<< ((3 : Int32) &&& 31)))]) := by
    intro H locs ls hP hD hS hl
    obtain ⟨r7, kr7, h⟩ := bd_ex h
    refine aft_e (st1 := [.int r7, .int (((r2 <<< ((9 : Int32) &&& 31)) ||| (r3 <<< ((6 : Int32) &&& 31))) ||| (r4 <<< ((3 : Int32) &&& 31)))]) rfl (runS (As := [.int (x1 >>> ((5 : Int32) &&& 31)), .int j6]) (rest := [.int (((r2 <<< ((9 : Int32) &&& 31)) ||| (r3 <<< ((6 : Int32) &&& 31))) ||| (r4 <<< ((3 : Int32) &&& 31)))]) ⟨hx, hb, hml, hown, hts⟩ (kL_low l g kr7) (va_cwS 2 hts gL_wordOf_L_low rfl rfl rfl hdL_low ⟨Nat.le_of_ble_eq_true rfl, Nat.le_of_ble_eq_true rfl⟩) hK hN nilP (nilD (A := A)) rfl hl.1 rfl (Nat.le_of_ble_eq_true rfl) dL_wordOf_60 ⟨Nat.zero_le _, Nat.zero_le _⟩) hP hS hA (fun H locs hP hS => ?_)
    refine lv_ior hx hb dL_wordOf_63 ?_
    cases some_i h
    exact hend _ _ _ _ _ hP hD hS (RetOK.i dL_wordOf_64)
  have h := kj6
  refine lv_if_ne (tgt := 59) hx hb dL_wordOf_51 (by decide) (fun c8 => ?_) (fun c8 => ?_)
  · have h := if_f c8 h
    refine lv_iconst (v := 2) hx hb dL_wordOf_59 (by decide) ?_
    cases some_i h
    exact kx1 _ _ _ hP hD hS (lv_sub hl [] rfl)
  · have h := if_t c8 h
    refine lv_bipush (v := 8) hx hb dL_wordOf_54 (by decide) ?_
    refine lv_goto (tgt := 60) hx hb dL_wordOf_56 (by decide) ?_
    cases some_i h
    exact kx1 _ _ _ hP hD hS (lv_sub hl [] rfl)
end LM
