def fX6_next (mo : Mo) : Option (Int32) :=
(if (Mo_length mo) ≤ (Mo_at mo) then
(some (0 : Int32))
else
(ck (inb (Mo_at mo) 60)
(some (Mo_buffer mo (Mo_at mo).toNatClampNeg))))
abbrev rX6_next : Room := { frames := 0, cells := 0, slots := 0, locals := 0 }
theorem hdX6_next : yX6_next.cls = RX6 ∧ yX6_next.cls ≠ "java/lang/invoke/MethodHandle" ∧ yX6_next.cls ≠ "java/lang/invoke/VarHandle" ∧ (parseMethodDescriptor yX6_next.desc).map (fun d => d.parameters.length) = some 0 := by decide +kernel
set_option maxRecDepth 100000 in
set_option maxHeartbeats 8000000 in
theorem kX6_next (l : Launch) (g : GG) (a : Nat → Nat) {mo : Mo} {res : Int32} (h : fX6_next mo = some res) : Cg l g yX6_next wsX6_next rX6_next [.ref (a 0)] (cMo g a mo) (some (.int res)) (cMo g a mo) := by
  refine Cg_of (cc := cX6_next) (maxL := 1) (ret := (some .int)) (by decide +kernel) rfl (Nat.le_of_ble_eq_true rfl) ?_
  intro p e su m args below meth c A Q ls hx hb hml hown hts hK hN hA hnm hP hD hS hl hend
  have hinX6 : ∀ w ∈ u_ws RX6 TX6 15, w ∈ wsX6_next := fun _ h9 => List.mem_cons_of_mem _ (List.mem_append_right _ h9)
  unfold fX6_next at h
  have hl : lv_has ls 1 [(0, .ref (a 0))] := hl
  refine lv_aload_n hx hb dX6_next_0 rfl (lv_at hl 0 rfl) ?_
  refine va_get (D := g.1) (ci := 6) (v := .int (Mo_at mo)) (C := RX6) (T := TX6) (N := 15) hx hb hts hinX6 hown hK hP 0 rfl rfl 8 (by decide) (hts (.fieldLink RX6 130 "BarredRungsModel" "at" "I") (List.mem_of_getElem? (i := 1) rfl)) (fun _ h9 => h9) rfl dX6_next_1 ?_
  refine lv_aload_n hx hb dX6_next_4 rfl (lv_at hl 0 rfl) ?_
  refine va_get (D := g.1) (ci := 6) (v := .int (Mo_length mo)) (C := RX6) (T := TX6) (N := 15) hx hb hts hinX6 hown hK hP 0 rfl rfl 7 (by decide) (hts (.fieldLink RX6 127 "BarredRungsModel" "length" "I") (List.mem_of_getElem? (i := 2) rfl)) (fun _ h9 => h9) rfl dX6_next_5 ?_
  refine lv_icmp_ge (tgt := 23) hx hb dX6_next_8 (by decide) (fun c1 => ?_) (fun c1 => ?_)
  · have h := if_t c1 h
    refine lv_iconst (v := 0) hx hb dX6_next_23 (by decide) ?_
    cases some_i h
    exact hend _ _ _ _ _ hP hD hS (RetOK.i dX6_next_24)
  · have h := if_f c1 h
    refine lv_aload_n hx hb dX6_next_11 rfl (lv_at hl 0 rfl) ?_
    refine va_get (D := g.1) (ci := 6) (v := .ref (a 4)) (C := RX6) (T := TX6) (N := 15) hx hb hts hinX6 hown hK hP 0 rfl rfl 6 (by decide) (hts (.fieldLink RX6 19 "BarredRungsModel" "buffer" "[I") (List.mem_of_getElem? (i := 3) rfl)) (fun _ h9 => h9) rfl dX6_next_12 ?_
    refine lv_aload_n hx hb dX6_next_15 rfl (lv_at hl 0 rfl) ?_
    refine va_get (D := g.1) (ci := 6) (v := .int (Mo_at mo)) (C := RX6) (T := TX6) (N := 15) hx hb hts hinX6 hown hK hP 0 rfl rfl 8 (by decide) (hts (.fieldLink RX6 130 "BarredRungsModel" "at" "I") (List.mem_of_getElem? (i := 1) rfl)) (fun _ h9 => h9) rfl dX6_next_16 ?_
    obtain ⟨hi9, h⟩ := ck_ex h
    refine va_iald hx hb hK hP 4 0 rfl rfl (inb_in hi9) dX6_next_19 ?_
    refine lv_goto (tgt := 24) hx hb dX6_next_20 (by decide) ?_
    cases some_i h
    exact hend _ _ _ _ _ hP hD hS (RetOK.i dX6_next_24)
def fX6_within (p0 : Int32) (p1 : Int32) (p2 : Int32) : Option (Int32) :=
(if p0 < p1 then
(some (0 : Int32))
else
(if p2 < p0 then
(some (0 : Int32))
else
(some (1 : Int32))))
abbrev rX6_within : Room := { frames := 0, cells := 0, slots := 0, locals := 0 }
theorem hdX6_within : yX6_within.cls = RX6 ∧ yX6_within.cls ≠ "java/lang/invoke/MethodHandle" ∧ yX6_within.cls ≠ "java/lang/invoke/VarHandle" ∧ (parseMethodDescriptor yX6_within.desc).map (fun d => d.parameters.length) = some 3 := by decide +kernel
set_option maxRecDepth 100000 in
set_option maxHeartbeats 8000000 in
theorem kX6_within (l : Launch) (g : GG) {p0 : Int32} {p1 : Int32} {p2 : Int32} {res : Int32} (h : fX6_within p0 p1 p2 = some res) : Cg l g yX6_within wsX6_within rX6_within [.int p0, .int p1, .int p2] [] (some (.int res)) [] := by
  refine Cg_of (cc := cX6_within) (maxL := 3) (ret := (some .boolean)) (by decide +kernel) rfl (Nat.le_of_ble_eq_true rfl) ?_
  intro p e su m args below meth c A Q ls hx hb hml hown hts hK hN hA hnm hP hD hS hl hend
  unfold fX6_within at h
  have hl : lv_has ls 3 [(0, .int p0), (1, .int p1), (2, .int p2)] := hl
  refine lv_iload_n hx hb dX6_within_0 rfl (lv_at hl 0 rfl) ?_
  refine lv_iload_n hx hb dX6_within_1 rfl (lv_at hl 1 rfl) ?_
  refine lv_icmp_lt (tgt := 14) hx hb dX6_within_2 (by decide) (fun c1 => ?_) (fun c1 => ?_)
  · have h := if_t c1 h
    refine lv_iconst (v := 0) hx hb dX6_within_14 (by decide) ?_
    cases some_i h
    exact hend _ _ _ _ _ hP hD hS (RetOK.z dX6_within_15 (Or.inl rfl))
  · have h := if_f c1 h
    refine lv_iload_n hx hb dX6_within_5 rfl (lv_at hl 0 rfl) ?_
    refine lv_iload_n hx hb dX6_within_6 rfl (lv_at hl 2 rfl) ?_
    refine lv_icmp_gt (tgt := 14) hx hb dX6_within_7 (by decide) (fun c2 => ?_) (fun c2 => ?_)
    · have h := if_t c2 h
      refine lv_iconst (v := 0) hx hb dX6_within_14 (by decide) ?_
      cases some_i h
      exact hend _ _ _ _ _ hP hD hS (RetOK.z dX6_within_15 (Or.inl rfl))
    · have h := if_f c2 h
      refine lv_iconst (v := 1) hx hb dX6_within_10 (by decide) ?_
      refine lv_goto (tgt := 15) hx hb dX6_within_11 (by decide) ?_
      cases some_i h
      exact hend _ _ _ _ _ hP hD hS (RetOK.z dX6_within_15 (Or.inr rfl))
def fX6_readsLetters_L7 : Nat → Int32 → Mo → Option (Int32 × Mo)
  | 0, _, _ => none
  | n + 1, v1_2, mo3 =>
    (if (4 : Int32) ≤ v1_2 then
    (some ((1 : Int32), mo3))
    else
    (bd (fX6_next mo3) fun (r5 : Int32) =>
    (bd (fX6_within r5 (97 : Int32) (104 : Int32)) fun (r6 : Int32) =>
    (if r6 = (0 : Int32) then
    (some ((0 : Int32), mo3))
    else
    (bd (fX6_next mo3) fun (r8 : Int32) =>
    (pl (Mo_set_readWord mo3 ((((8 : Int32) * (Mo_readWord mo3)) + r8) - (97 : Int32))) fun (mo9 : Mo) =>
    (pl (Mo_set_at mo9 ((Mo_at mo9) + (1 : Int32))) fun (mo10 : Mo) =>
    (pl ((v1_2 + (1 : Int32))) fun (x11 : Int32) =>
    (fX6_readsLetters_L7 n x11 mo10)))))))))
def fX6_readsLetters (mo : Mo) : Option (Int32 × Mo) :=
(pl (Mo_set_readWord mo (0 : Int32)) fun (mo1 : Mo) =>
(fX6_readsLetters_L7 1000 (0 : Int32) mo1))
abbrev rX6_readsLetters : Room := { frames := 1, cells := 0, slots := 0, locals := 22 }
theorem hdX6_readsLetters : yX6_readsLetters.cls = RX6 ∧ yX6_readsLetters.cls ≠ "java/lang/invoke/MethodHandle" ∧ yX6_readsLetters.cls ≠ "java/lang/invoke/VarHandle" ∧ (parseMethodDescriptor yX6_readsLetters.desc).map (fun d => d.parameters.length) = some 0 := by decide +kernel
set_option maxRecDepth 100000 in
set_option maxHeartbeats 8000000 in
theorem kX6_readsLetters (l : Launch) (g : GG) (a : Nat → Nat) {mo : Mo} {res : Int32} {mo' : Mo} (h : fX6_readsLetters mo = some (res, mo')) : Cg l g yX6_readsLetters wsX6_readsLetters rX6_readsLetters [.ref (a 0)] (cMo g a mo) (some (.int res)) (cMo g a mo') := by
  refine Cg_of (cc := cX6_readsLetters) (maxL := 2) (ret := (some .boolean)) (by decide +kernel) rfl (Nat.le_of_ble_eq_true rfl) ?_
  intro p e su m args below meth c A Q ls hx hb hml hown hts hK hN hA hnm hP hD hS hl hend
  have hinX6 : ∀ w ∈ u_ws RX6 TX6 15, w ∈ wsX6_readsLetters := fun _ h9 => List.mem_cons_of_mem _ (List.mem_append_right _ h9)
  unfold fX6_readsLetters at h
  have hl : lv_has ls 2 [(0, .ref (a 0))] := hl
  refine lv_aload_n hx hb dX6_readsLetters_0 rfl (lv_at hl 0 rfl) ?_
  refine lv_iconst (v := 0) hx hb dX6_readsLetters_1 (by decide) ?_
  obtain ⟨mo1, emo1, h⟩ := pl_ex h
  refine va_put (D := g.1) (ci := 6) (v := .int (0 : Int32)) (ty := .int) (C := RX6) (T := TX6) (N := 15) hx hb hts hinX6 tyX6 tyX6_ok nmX6 hown hK hP hD hS 0 rfl rfl 10 (by decide) (hts (.fieldLink RX6 133 "BarredRungsModel" "readWord" "I") (List.mem_of_getElem? (i := 1) rfl)) (fun _ h9 => h9) rfl (by decide +kernel) rfl rfl (Nat.le_of_ble_eq_true rfl) dX6_readsLetters_2 (fun H locs hP hD hS => ?_)
  have hP : va_P g.1 vwCl (cMo g a mo1) H := by rw [← emo1]; exact hP
  have hD : va_D A (cMo g a mo1) := by rw [← emo1]; exact hD
  refine lv_iconst (v := 0) hx hb dX6_readsLetters_5 (by decide) ?_
  refine lv_istore_n (lv' := [(1, .int (0 : Int32)), (0, .ref (a 0))]) hx hb dX6_readsLetters_6 rfl hl (by decide) rfl (fun ls hl => ?_)
  have L7 : ∀ (n : Nat) (v1_2 : Int32) (mo3 : Mo) (H : Heap) (locs : List Loc) (ls : Array Slot), fX6_readsLetters_L7 n v1_2 mo3 = some (res, mo') → va_P g.1 vwCl (cMo g a mo3) H → va_D A (cMo g a mo3) → va_S A su.heap H locs → lv_has ls 2 [(0, .ref (a 0)), (1, .int v1_2)] → W p l e rX6_readsLetters su m args below meth c H locs 0 0 Q (F0 m 7 ls []) := by
    intro n
    induction n with
    | zero => intro v1_2 mo3 H locs ls h hP hD hS hl; cases h
    | succ n ih =>
      intro v1_2 mo3 H locs ls h hP hD hS hl
      rw [fX6_readsLetters_L7] at h
      refine lv_iload_n hx hb dX6_readsLetters_7 rfl (lv_at hl 1 rfl) ?_
      refine lv_iconst (v := 4) hx hb dX6_readsLetters_8 (by decide) ?_
      refine lv_icmp_ge (tgt := 63) hx hb dX6_readsLetters_9 (by decide) (fun c4 => ?_) (fun c4 => ?_)
      · have h := if_t c4 h
        refine lv_iconst (v := 1) hx hb dX6_readsLetters_63 (by decide) ?_
        cases some_i h
        exact hend _ _ _ _ _ hP hD hS (RetOK.z dX6_readsLetters_64 (Or.inr rfl))
      · have h := if_f c4 h
        refine lv_aload_n hx hb dX6_readsLetters_12 rfl (lv_at hl 0 rfl) ?_
        obtain ⟨r5, kr5, h⟩ := bd_ex h
        refine aft_w (st1 := [.int r5]) rfl (runV (As := []) (rest := []) ⟨hx, hb, hml, hown, hts⟩ (kX6_next l g a kr5) (cwV 0 hts gX6_readsLetters_X6_next rfl rfl rfl hdX6_next ⟨Nat.le_of_ble_eq_true rfl, Nat.le_of_ble_eq_true rfl⟩) hK hN hP hD (va_recv hK hP (ci := 6) (q0 := 0) rfl rfl) rfl hl.1 rfl (Nat.le_of_ble_eq_true rfl) dX6_readsLetters_13 ⟨Nat.zero_le _, Nat.zero_le _⟩) hD hS hA (fun H locs hP hD hS => ?_)
        refine lv_bipush (v := 97) hx hb dX6_readsLetters_16 (by decide) ?_
        refine lv_bipush (v := 104) hx hb dX6_readsLetters_18 (by decide) ?_
        obtain ⟨r6, kr6, h⟩ := bd_ex h
        refine aft_e (st1 := [.int r6]) rfl (runS (As := [.int r5, .int (97 : Int32), .int (104 : Int32)]) (rest := []) ⟨hx, hb, hml, hown, hts⟩ (kX6_within l g kr6) (va_cwS 3 hts gX6_readsLetters_X6_within rfl rfl rfl hdX6_within.2 ⟨Nat.le_of_ble_eq_true rfl, Nat.le_of_ble_eq_true rfl⟩) hK hN nilP (nilD (A := A)) rfl hl.1 rfl (Nat.le_of_ble_eq_true rfl) dX6_readsLetters_20 ⟨Nat.zero_le _, Nat.zero_le _⟩) hP hS hA (fun H locs hP hS => ?_)
        refine lv_if_ne (tgt := 28) hx hb dX6_readsLetters_23 (by decide) (fun c7 => ?_) (fun c7 => ?_)
        · have h := if_f c7 h
          refine lv_aload_n hx hb dX6_readsLetters_28 rfl (lv_at hl 0 rfl) ?_
          refine lv_bipush (v := 8) hx hb dX6_readsLetters_29 (by decide) ?_
          refine lv_aload_n hx hb dX6_readsLetters_31 rfl (lv_at hl 0 rfl) ?_
          refine va_get (D := g.1) (ci := 6) (v := .int (Mo_readWord mo3)) (C := RX6) (T := TX6) (N := 15) hx hb hts hinX6 hown hK hP 0 rfl rfl 10 (by decide) (hts (.fieldLink RX6 133 "BarredRungsModel" "readWord" "I") (List.mem_of_getElem? (i := 1) rfl)) (fun _ h9 => h9) rfl dX6_readsLetters_32 ?_
          refine lv_imul hx hb dX6_readsLetters_35 ?_
          refine lv_aload_n hx hb dX6_readsLetters_36 rfl (lv_at hl 0 rfl) ?_
          obtain ⟨r8, kr8, h⟩ := bd_ex h
          refine aft_w (st1 := [.int r8, .int ((8 : Int32) * (Mo_readWord mo3)), .ref (a 0)]) rfl (runV (As := []) (rest := [.int ((8 : Int32) * (Mo_readWord mo3)), .ref (a 0)]) ⟨hx, hb, hml, hown, hts⟩ (kX6_next l g a kr8) (cwV 0 hts gX6_readsLetters_X6_next rfl rfl rfl hdX6_next ⟨Nat.le_of_ble_eq_true rfl, Nat.le_of_ble_eq_true rfl⟩) hK hN hP hD (va_recv hK hP (ci := 6) (q0 := 0) rfl rfl) rfl hl.1 rfl (Nat.le_of_ble_eq_true rfl) dX6_readsLetters_37 ⟨Nat.zero_le _, Nat.zero_le _⟩) hD hS hA (fun H locs hP hD hS => ?_)
          refine lv_iadd hx hb dX6_readsLetters_40 ?_
          refine lv_bipush (v := 97) hx hb dX6_readsLetters_41 (by decide) ?_
          refine lv_isub hx hb dX6_readsLetters_43 ?_
          obtain ⟨mo9, emo9, h⟩ := pl_ex h
          refine va_put (D := g.1) (ci := 6) (v := .int ((((8 : Int32) * (Mo_readWord mo3)) + r8) - (97 : Int32))) (ty := .int) (C := RX6) (T := TX6) (N := 15) hx hb hts hinX6 tyX6 tyX6_ok nmX6 hown hK hP hD hS 0 rfl rfl 10 (by decide) (hts (.fieldLink RX6 133 "BarredRungsModel" "readWord" "I") (List.mem_of_getElem? (i := 1) rfl)) (fun _ h9 => h9) rfl (by decide +kernel) rfl rfl (Nat.le_of_ble_eq_true rfl) dX6_readsLetters_44 (fun H locs hP hD hS => ?_)
          have hP : va_P g.1 vwCl (cMo g a mo9) H := by rw [← emo9]; exact hP
          have hD : va_D A (cMo g a mo9) := by rw [← emo9]; exact hD
          refine lv_aload_n hx hb dX6_readsLetters_47 rfl (lv_at hl 0 rfl) ?_
          refine lv_dup hx hb dX6_readsLetters_48 rfl ?_
          refine va_get (D := g.1) (ci := 6) (v := .int (Mo_at mo9)) (C := RX6) (T := TX6) (N := 15) hx hb hts hinX6 hown hK hP 0 rfl rfl 8 (by decide) (hts (.fieldLink RX6 130 "BarredRungsModel" "at" "I") (List.mem_of_getElem? (i := 2) rfl)) (fun _ h9 => h9) rfl dX6_readsLetters_49 ?_
          refine lv_iconst (v := 1) hx hb dX6_readsLetters_52 (by decide) ?_
          refine lv_iadd hx hb dX6_readsLetters_53 ?_
          obtain ⟨mo10, emo10, h⟩ := pl_ex h
          refine va_put (D := g.1) (ci := 6) (v := .int ((Mo_at mo9) + (1 : Int32))) (ty := .int) (C := RX6) (T := TX6) (N := 15) hx hb hts hinX6 tyX6 tyX6_ok nmX6 hown hK hP hD hS 0 rfl rfl 8 (by decide) (hts (.fieldLink RX6 130 "BarredRungsModel" "at" "I") (List.mem_of_getElem? (i := 2) rfl)) (fun _ h9 => h9) rfl (by decide +kernel) rfl rfl (Nat.le_of_ble_eq_true rfl) dX6_readsLetters_54 (fun H locs hP hD hS => ?_)
          have hP : va_P g.1 vwCl (cMo g a mo10) H := by rw [← emo10]; exact hP
          have hD : va_D A (cMo g a mo10) := by rw [← emo10]; exact hD
          obtain ⟨x11, ex11, h⟩ := pl_ex h
          refine lv_iinc (v := x11) (lv' := [(1, .int x11), (0, .ref (a 0))]) hx hb dX6_readsLetters_57 hl (k := 1) rfl (by rw [← ex11]; rfl) (by decide) rfl (fun ls hl => ?_)
          refine lv_goto (tgt := 7) hx hb dX6_readsLetters_60 (by decide) ?_
          exact ih x11 mo10 _ _ _ h hP hD hS (lv_sub hl [1, 0] rfl)
        · have h := if_t c7 h
          refine lv_iconst (v := 0) hx hb dX6_readsLetters_26 (by decide) ?_
          cases some_i h
          exact hend _ _ _ _ _ hP hD hS (RetOK.z dX6_readsLetters_27 (Or.inl rfl))
  exact L7 1000 (0 : Int32) mo1 _ _ _ h hP hD hS (lv_sub hl [1, 0] rfl)
def fX6_isClimber (p0 : Int32) : Option (Int32) :=
(bd (fX6_within p0 (0 : Int32) (2 : Int32)) fun (r1 : Int32) =>
(ck (zb r1)
(some r1)))
abbrev rX6_isClimber : Room := { frames := 1, cells := 0, slots := 0, locals := 22 }
theorem hdX6_isClimber : yX6_isClimber.cls = RX6 ∧ yX6_isClimber.cls ≠ "java/lang/invoke/MethodHandle" ∧ yX6_isClimber.cls ≠ "java/lang/invoke/VarHandle" ∧ (parseMethodDescriptor yX6_isClimber.desc).map (fun d => d.parameters.length) = some 1 := by decide +kernel
set_option maxRecDepth 100000 in
set_option maxHeartbeats 8000000 in
theorem kX6_isClimber (l : Launch) (g : GG) {p0 : Int32} {res : Int32} (h : fX6_isClimber p0 = some res) : Cg l g yX6_isClimber wsX6_isClimber rX6_isClimber [.int p0] [] (some (.int res)) [] := by
  refine Cg_of (cc := cX6_isClimber) (maxL := 1) (ret := (some .boolean)) (by decide +kernel) rfl (Nat.le_of_ble_eq_true rfl) ?_
  intro p e su m args below meth c A Q ls hx hb hml hown hts hK hN hA hnm hP hD hS hl hend
  unfold fX6_isClimber at h
  have hl : lv_has ls 1 [(0, .int p0)] := hl
  refine lv_iload_n hx hb dX6_isClimber_0 rfl (lv_at hl 0 rfl) ?_
  refine lv_iconst (v := 0) hx hb dX6_isClimber_1 (by decide) ?_
  refine lv_iconst (v := 2) hx hb dX6_isClimber_2 (by decide) ?_
  obtain ⟨r1, kr1, h⟩ := bd_ex h
  refine aft_e (st1 := [.int r1]) rfl (runS (As := [.int p0, .int (0 : Int32), .int (2 : Int32)]) (rest := []) ⟨hx, hb, hml, hown, hts⟩ (kX6_within l g kr1) (va_cwS 3 hts gX6_isClimber_X6_within rfl rfl rfl hdX6_within.2 ⟨Nat.le_of_ble_eq_true rfl, Nat.le_of_ble_eq_true rfl⟩) hK hN nilP (nilD (A := A)) rfl hl.1 rfl (Nat.le_of_ble_eq_true rfl) dX6_isClimber_3 ⟨Nat.zero_le _, Nat.zero_le _⟩) hP hS hA (fun H locs hP hS => ?_)
  obtain ⟨hz9, h⟩ := ck_ex h
  cases some_i h
  exact hend _ _ _ _ _ hP hD hS (RetOK.z dX6_isClimber_6 (of_decide_eq_true hz9))
def fX6_readsClimb (mo : Mo) : Option (Int32 × Mo) :=
(bd (fX6_next mo) fun (r1 : Int32) =>
(if r1 = (116 : Int32) then
(pl (Mo_set_readClimber mo (-1 : Int32)) fun (mo10 : Mo) =>
(pl (Mo_set_at mo10 ((Mo_at mo10) + (1 : Int32))) fun (mo11 : Mo) =>
(some ((1 : Int32), mo11))))
else
(bd (fX6_next mo) fun (r3 : Int32) =>
(pl (Mo_set_readClimber mo (r3 - (48 : Int32))) fun (mo4 : Mo) =>
(bd (fX6_isClimber (Mo_readClimber mo4)) fun (r5 : Int32) =>
(if r5 = (0 : Int32) then
(some ((0 : Int32), mo4))
else
(pl (Mo_set_at mo4 ((Mo_at mo4) + (1 : Int32))) fun (mo7 : Mo) =>
(bd2 (fX6_readsLetters mo7) fun (r8 : Int32) (mo9 : Mo) =>
(ck (zb r8)
(some (r8, mo9)))))))))))
abbrev rX6_readsClimb : Room := { frames := 2, cells := 0, slots := 0, locals := 43 }
theorem hdX6_readsClimb : yX6_readsClimb.cls = RX6 ∧ yX6_readsClimb.cls ≠ "java/lang/invoke/MethodHandle" ∧ yX6_readsClimb.cls ≠ "java/lang/invoke/VarHandle" ∧ (parseMethodDescriptor yX6_readsClimb.desc).map (fun d => d.parameters.length) = some 0 := by decide +kernel
set_option maxRecDepth 100000 in
set_option maxHeartbeats 8000000 in
theorem kX6_readsClimb (l : Launch) (g : GG) (a : Nat → Nat) {mo : Mo} {res : Int32} {mo' : Mo} (h : fX6_readsClimb mo = some (res, mo')) : Cg l g yX6_readsClimb wsX6_readsClimb rX6_readsClimb [.ref (a 0)] (cMo g a mo) (some (.int res)) (cMo g a mo') := by
  refine Cg_of (cc := cX6_readsClimb) (maxL := 1) (ret := (some .boolean)) (by decide +kernel) rfl (Nat.le_of_ble_eq_true rfl) ?_
  intro p e su m args below meth c A Q ls hx hb hml hown hts hK hN hA hnm hP hD hS hl hend
  have hinX6 : ∀ w ∈ u_ws RX6 TX6 15, w ∈ wsX6_readsClimb := fun _ h9 => List.mem_cons_of_mem _ (List.mem_append_right _ h9)
  unfold fX6_readsClimb at h
  have hl : lv_has ls 1 [(0, .ref (a 0))] := hl
  refine lv_aload_n hx hb dX6_readsClimb_0 rfl (lv_at hl 0 rfl) ?_
  obtain ⟨r1, kr1, h⟩ := bd_ex h
  refine aft_w (st1 := [.int r1]) rfl (runV (As := []) (rest := []) ⟨hx, hb, hml, hown, hts⟩ (kX6_next l g a kr1) (cwV 0 hts gX6_readsClimb_X6_next rfl rfl rfl hdX6_next ⟨Nat.le_of_ble_eq_true rfl, Nat.le_of_ble_eq_true rfl⟩) hK hN hP hD (va_recv hK hP (ci := 6) (q0 := 0) rfl rfl) rfl hl.1 rfl (Nat.le_of_ble_eq_true rfl) dX6_readsClimb_1 ⟨Nat.zero_le _, Nat.zero_le _⟩) hD hS hA (fun H locs hP hD hS => ?_)
  refine lv_bipush (v := 116) hx hb dX6_readsClimb_4 (by decide) ?_
  refine lv_icmp_ne (tgt := 26) hx hb dX6_readsClimb_6 (by decide) (fun c2 => ?_) (fun c2 => ?_)
  · have h := if_f c2 h
    refine lv_aload_n hx hb dX6_readsClimb_26 rfl (lv_at hl 0 rfl) ?_
    refine lv_aload_n hx hb dX6_readsClimb_27 rfl (lv_at hl 0 rfl) ?_
    obtain ⟨r3, kr3, h⟩ := bd_ex h
    refine aft_w (st1 := [.int r3, .ref (a 0)]) rfl (runV (As := []) (rest := [.ref (a 0)]) ⟨hx, hb, hml, hown, hts⟩ (kX6_next l g a kr3) (cwV 0 hts gX6_readsClimb_X6_next rfl rfl rfl hdX6_next ⟨Nat.le_of_ble_eq_true rfl, Nat.le_of_ble_eq_true rfl⟩) hK hN hP hD (va_recv hK hP (ci := 6) (q0 := 0) rfl rfl) rfl hl.1 rfl (Nat.le_of_ble_eq_true rfl) dX6_readsClimb_28 ⟨Nat.zero_le _, Nat.zero_le _⟩) hD hS hA (fun H locs hP hD hS => ?_)
    refine lv_bipush (v := 48) hx hb dX6_readsClimb_31 (by decide) ?_
    refine lv_isub hx hb dX6_readsClimb_33 ?_
    obtain ⟨mo4, emo4, h⟩ := pl_ex h
    refine va_put (D := g.1) (ci := 6) (v := .int (r3 - (48 : Int32))) (ty := .int) (C := RX6) (T := TX6) (N := 15) hx hb hts hinX6 tyX6 tyX6_ok nmX6 hown hK hP hD hS 0 rfl rfl 9 (by decide) (hts (.fieldLink RX6 139 "BarredRungsModel" "readClimber" "I") (List.mem_of_getElem? (i := 1) rfl)) (fun _ h9 => h9) rfl (by decide +kernel) rfl rfl (Nat.le_of_ble_eq_true rfl) dX6_readsClimb_34 (fun H locs hP hD hS => ?_)
    have hP : va_P g.1 vwCl (cMo g a mo4) H := by rw [← emo4]; exact hP
    have hD : va_D A (cMo g a mo4) := by rw [← emo4]; exact hD
    refine lv_aload_n hx hb dX6_readsClimb_37 rfl (lv_at hl 0 rfl) ?_
    refine va_get (D := g.1) (ci := 6) (v := .int (Mo_readClimber mo4)) (C := RX6) (T := TX6) (N := 15) hx hb hts hinX6 hown hK hP 0 rfl rfl 9 (by decide) (hts (.fieldLink RX6 139 "BarredRungsModel" "readClimber" "I") (List.mem_of_getElem? (i := 1) rfl)) (fun _ h9 => h9) rfl dX6_readsClimb_38 ?_
    obtain ⟨r5, kr5, h⟩ := bd_ex h
    refine aft_e (st1 := [.int r5]) rfl (runS (As := [.int (Mo_readClimber mo4)]) (rest := []) ⟨hx, hb, hml, hown, hts⟩ (kX6_isClimber l g kr5) (va_cwS 1 hts gX6_readsClimb_X6_isClimber rfl rfl rfl hdX6_isClimber.2 ⟨Nat.le_of_ble_eq_true rfl, Nat.le_of_ble_eq_true rfl⟩) hK hN nilP (nilD (A := A)) rfl hl.1 rfl (Nat.le_of_ble_eq_true rfl) dX6_readsClimb_41 ⟨Nat.zero_le _, Nat.zero_le _⟩) hP hS hA (fun H locs hP hS => ?_)
    refine lv_if_ne (tgt := 49) hx hb dX6_readsClimb_44 (by decide) (fun c6 => ?_) (fun c6 => ?_)
    · have h := if_f c6 h
      refine lv_aload_n hx hb dX6_readsClimb_49 rfl (lv_at hl 0 rfl) ?_
      refine lv_dup hx hb dX6_readsClimb_50 rfl ?_
      refine va_get (D := g.1) (ci := 6) (v := .int (Mo_at mo4)) (C := RX6) (T := TX6) (N := 15) hx hb hts hinX6 hown hK hP 0 rfl rfl 8 (by decide) (hts (.fieldLink RX6 130 "BarredRungsModel" "at" "I") (List.mem_of_getElem? (i := 2) rfl)) (fun _ h9 => h9) rfl dX6_readsClimb_51 ?_
      refine lv_iconst (v := 1) hx hb dX6_readsClimb_54 (by decide) ?_
      refine lv_iadd hx hb dX6_readsClimb_55 ?_
      obtain ⟨mo7, emo7, h⟩ := pl_ex h
      refine va_put (D := g.1) (ci := 6) (v := .int ((Mo_at mo4) + (1 : Int32))) (ty := .int) (C := RX6) (T := TX6) (N := 15) hx hb hts hinX6 tyX6 tyX6_ok nmX6 hown hK hP hD hS 0 rfl rfl 8 (by decide) (hts (.fieldLink RX6 130 "BarredRungsModel" "at" "I") (List.mem_of_getElem? (i := 2) rfl)) (fun _ h9 => h9) rfl (by decide +kernel) rfl rfl (Nat.le_of_ble_eq_true rfl) dX6_readsClimb_56 (fun H locs hP hD hS => ?_)
      have hP : va_P g.1 vwCl (cMo g a mo7) H := by rw [← emo7]; exact hP
      have hD : va_D A (cMo g a mo7) := by rw [← emo7]; exact hD
      refine lv_aload_n hx hb dX6_readsClimb_59 rfl (lv_at hl 0 rfl) ?_
      obtain ⟨r8, mo9, kr8, h⟩ := bd2_ex h
      refine aft_w (st1 := [.int r8]) rfl (runV (As := []) (rest := []) ⟨hx, hb, hml, hown, hts⟩ (kX6_readsLetters l g a kr8) (cwV 0 hts gX6_readsClimb_X6_readsLetters rfl rfl rfl hdX6_readsLetters ⟨Nat.le_of_ble_eq_true rfl, Nat.le_of_ble_eq_true rfl⟩) hK hN hP hD (va_recv hK hP (ci := 6) (q0 := 0) rfl rfl) rfl hl.1 rfl (Nat.le_of_ble_eq_true rfl) dX6_readsClimb_60 ⟨Nat.zero_le _, Nat.zero_le _⟩) hD hS hA (fun H locs hP hD hS => ?_)
      obtain ⟨hz9, h⟩ := ck_ex h
      cases some_i h
      exact hend _ _ _ _ _ hP hD hS (RetOK.z dX6_readsClimb_63 (of_decide_eq_true hz9))
    · have h := if_t c6 h
      refine lv_iconst (v := 0) hx hb dX6_readsClimb_47 (by decide) ?_
      cases some_i h
      exact hend _ _ _ _ _ hP hD hS (RetOK.z dX6_readsClimb_48 (Or.inl rfl))
  · have h := if_t c2 h
    refine lv_aload_n hx hb dX6_readsClimb_9 rfl (lv_at hl 0 rfl) ?_
    refine lv_iconst (v := -1) hx hb dX6_readsClimb_10 (by decide) ?_
    obtain ⟨mo10, emo10, h⟩ := pl_ex h
    refine va_put (D := g.1) (ci := 6) (v := .int (-1 : Int32)) (ty := .int) (C := RX6) (T := TX6) (N := 15) hx hb hts hinX6 tyX6 tyX6_ok nmX6 hown hK hP hD hS 0 rfl rfl 9 (by decide) (hts (.fieldLink RX6 139 "BarredRungsModel" "readClimber" "I") (List.mem_of_getElem? (i := 1) rfl)) (fun _ h9 => h9) rfl (by decide +kernel) rfl rfl (Nat.le_of_ble_eq_true rfl) dX6_readsClimb_11 (fun H locs hP hD hS => ?_)
    have hP : va_P g.1 vwCl (cMo g a mo10) H := by rw [← emo10]; exact hP
    have hD : va_D A (cMo g a mo10) := by rw [← emo10]; exact hD
    refine lv_aload_n hx hb dX6_readsClimb_14 rfl (lv_at hl 0 rfl) ?_
    refine lv_dup hx hb dX6_readsClimb_15 rfl ?_
    refine va_get (D := g.1) (ci := 6) (v := .int (Mo_at mo10)) (C := RX6) (T := TX6) (N := 15) hx hb hts hinX6 hown hK hP 0 rfl rfl 8 (by decide) (hts (.fieldLink RX6 130 "BarredRungsModel" "at" "I") (List.mem_of_getElem? (i := 2) rfl)) (fun _ h9 => h9) rfl dX6_readsClimb_16 ?_
    refine lv_iconst (v := 1) hx hb dX6_readsClimb_19 (by decide) ?_
    refine lv_iadd hx hb dX6_readsClimb_20 ?_
    obtain ⟨mo11, emo11, h⟩ := pl_ex h
    refine va_put (D := g.1) (ci := 6) (v := .int ((Mo_at mo10) + (1 : Int32))) (ty := .int) (C := RX6) (T := TX6) (N := 15) hx hb hts hinX6 tyX6 tyX6_ok nmX6 hown hK hP hD hS 0 rfl rfl 8 (by decide) (hts (.fieldLink RX6 130 "BarredRungsModel" "at" "I") (List.mem_of_getElem? (i := 2) rfl)) (fun _ h9 => h9) rfl (by decide +kernel) rfl rfl (Nat.le_of_ble_eq_true rfl) dX6_readsClimb_21 (fun H locs hP hD hS => ?_)
    have hP : va_P g.1 vwCl (cMo g a mo11) H := by rw [← emo11]; exact hP
    have hD : va_D A (cMo g a mo11) := by rw [← emo11]; exact hD
    refine lv_iconst (v := 1) hx hb dX6_readsClimb_24 (by decide) ?_
    cases some_i h
    exact hend _ _ _ _ _ hP hD hS (RetOK.z dX6_readsClimb_25 (Or.inr rfl))
def fX6_readsPart (mo : Mo) (p1 : Int32) : Option (Int32 × Mo) :=
(if p1 = (0 : Int32) then
(bd2 (fX6_readsClimb mo) fun (r2 : Int32) (mo3 : Mo) =>
(ck (zb r2)
(some (r2, mo3))))
else
(bd2 (fX6_readsLetters mo) fun (r4 : Int32) (mo5 : Mo) =>
(ck (zb r4)
(some (r4, mo5)))))
abbrev rX6_readsPart : Room := { frames := 3, cells := 0, slots := 0, locals := 63 }
theorem hdX6_readsPart : yX6_readsPart.cls = RX6 ∧ yX6_readsPart.cls ≠ "java/lang/invoke/MethodHandle" ∧ yX6_readsPart.cls ≠ "java/lang/invoke/VarHandle" ∧ (parseMethodDescriptor yX6_readsPart.desc).map (fun d => d.parameters.length) = some 1 := by decide +kernel
set_option maxRecDepth 100000 in
set_option maxHeartbeats 8000000 in
theorem kX6_readsPart (l : Launch) (g : GG) (a : Nat → Nat) {mo : Mo} {p1 : Int32} {res : Int32} {mo' : Mo} (h : fX6_readsPart mo p1 = some (res, mo')) : Cg l g yX6_readsPart wsX6_readsPart rX6_readsPart [.ref (a 0), .int p1] (cMo g a mo) (some (.int res)) (cMo g a mo') := by
  refine Cg_of (cc := cX6_readsPart) (maxL := 2) (ret := (some .boolean)) (by decide +kernel) rfl (Nat.le_of_ble_eq_true rfl) ?_
  intro p e su m args below meth c A Q ls hx hb hml hown hts hK hN hA hnm hP hD hS hl hend
  have hinX6 : ∀ w ∈ u_ws RX6 TX6 15, w ∈ wsX6_readsPart := fun _ h9 => List.mem_cons_of_mem _ (List.mem_append_right _ h9)
  unfold fX6_readsPart at h
  have hl : lv_has ls 2 [(0, .ref (a 0)), (1, .int p1)] := hl
  refine lv_iload_n hx hb dX6_readsPart_0 rfl (lv_at hl 1 rfl) ?_
  refine lv_if_eq (tgt := 11) hx hb dX6_readsPart_1 (by decide) (fun c1 => ?_) (fun c1 => ?_)
  · have h := if_t c1 h
    refine lv_aload_n hx hb dX6_readsPart_11 rfl (lv_at hl 0 rfl) ?_
    obtain ⟨r2, mo3, kr2, h⟩ := bd2_ex h
    refine aft_w (st1 := [.int r2]) rfl (runV (As := []) (rest := []) ⟨hx, hb, hml, hown, hts⟩ (kX6_readsClimb l g a kr2) (cwV 0 hts gX6_readsPart_X6_readsClimb rfl rfl rfl hdX6_readsClimb ⟨Nat.le_of_ble_eq_true rfl, Nat.le_of_ble_eq_true rfl⟩) hK hN hP hD (va_recv hK hP (ci := 6) (q0 := 0) rfl rfl) rfl hl.1 rfl (Nat.le_of_ble_eq_true rfl) dX6_readsPart_12 ⟨Nat.zero_le _, Nat.zero_le _⟩) hD hS hA (fun H locs hP hD hS => ?_)
    obtain ⟨hz9, h⟩ := ck_ex h
    cases some_i h
    exact hend _ _ _ _ _ hP hD hS (RetOK.z dX6_readsPart_15 (of_decide_eq_true hz9))
  · have h := if_f c1 h
    refine lv_aload_n hx hb dX6_readsPart_4 rfl (lv_at hl 0 rfl) ?_
    obtain ⟨r4, mo5, kr4, h⟩ := bd2_ex h
    refine aft_w (st1 := [.int r4]) rfl (runV (As := []) (rest := []) ⟨hx, hb, hml, hown, hts⟩ (kX6_readsLetters l g a kr4) (cwV 0 hts gX6_readsPart_X6_readsLetters rfl rfl rfl hdX6_readsLetters ⟨Nat.le_of_ble_eq_true rfl, Nat.le_of_ble_eq_true rfl⟩) hK hN hP hD (va_recv hK hP (ci := 6) (q0 := 0) rfl rfl) rfl hl.1 rfl (Nat.le_of_ble_eq_true rfl) dX6_readsPart_5 ⟨Nat.zero_le _, Nat.zero_le _⟩) hD hS hA (fun H locs hP hD hS => ?_)
    refine lv_goto (tgt := 15) hx hb dX6_readsPart_8 (by decide) ?_
    obtain ⟨hz9, h⟩ := ck_ex h
    cases some_i h
    exact hend _ _ _ _ _ hP hD hS (RetOK.z dX6_readsPart_15 (of_decide_eq_true hz9))
def fX6_findError_L5 (p1 : Int32) : Nat → Mo → Option (Int32 × Mo)
  | 0, _ => none
  | n + 1, mo2 =>
    (bd2 (fX6_readsPart mo2 p1) fun (r3 : Int32) (mo4 : Mo) =>
    (if r3 = (0 : Int32) then
    (some ((Mo_at mo4), mo4))
    else
    (if (Mo_at mo4) = (Mo_length mo4) then
    (some ((-1 : Int32), mo4))
    else
    (bd (fX6_next mo4) fun (r7 : Int32) =>
    (if p1 = (0 : Int32) then
    (if r7 = (59 : Int32) then
    (pl (Mo_set_at mo4 ((Mo_at mo4) + (1 : Int32))) fun (mo10 : Mo) =>
    (fX6_findError_L5 p1 n mo10))
    else
    (some ((Mo_at mo4), mo4)))
    else
    (if r7 = (44 : Int32) then
    (pl (Mo_set_at mo4 ((Mo_at mo4) + (1 : Int32))) fun (mo12 : Mo) =>
    (fX6_findError_L5 p1 n mo12))
    else
    (some ((Mo_at mo4), mo4))))))))
def fX6_findError (mo : Mo) (p1 : Int32) : Option (Int32 × Mo) :=
(pl (Mo_set_at mo (0 : Int32)) fun (mo1 : Mo) =>
(fX6_findError_L5 p1 1000 mo1))
abbrev rX6_findError : Room := { frames := 4, cells := 0, slots := 0, locals := 84 }
theorem hdX6_findError : yX6_findError.cls = RX6 ∧ yX6_findError.cls ≠ "java/lang/invoke/MethodHandle" ∧ yX6_findError.cls ≠ "java/lang/invoke/VarHandle" ∧ (parseMethodDescriptor yX6_findError.desc).map (fun d => d.parameters.length) = some 1 := by decide +kernel
set_option maxRecDepth 100000 in
set_option maxHeartbeats 8000000 in
theorem kX6_findError (l : Launch) (g : GG) (a : Nat → Nat) {mo : Mo} {p1 : Int32} {res : Int32} {mo' : Mo} (h : fX6_findError mo p1 = some (res, mo')) : Cg l g yX6_findError wsX6_findError rX6_findError [.ref (a 0), .int p1] (cMo g a mo) (some (.int res)) (cMo g a mo') := by
  refine Cg_of (cc := cX6_findError) (maxL := 2) (ret := (some .int)) (by decide +kernel) rfl (Nat.le_of_ble_eq_true rfl) ?_
  intro p e su m args below meth c A Q ls hx hb hml hown hts hK hN hA hnm hP hD hS hl hend
  have hinX6 : ∀ w ∈ u_ws RX6 TX6 15, w ∈ wsX6_findError := fun _ h9 => List.mem_cons_of_mem _ (List.mem_append_right _ h9)
  unfold fX6_findError at h
  have hl : lv_has ls 2 [(0, .ref (a 0)), (1, .int p1)] := hl
  refine lv_aload_n hx hb dX6_findError_0 rfl (lv_at hl 0 rfl) ?_
  refine lv_iconst (v := 0) hx hb dX6_findError_1 (by decide) ?_
  obtain ⟨mo1, emo1, h⟩ := pl_ex h
  refine va_put (D := g.1) (ci := 6) (v := .int (0 : Int32)) (ty := .int) (C := RX6) (T := TX6) (N := 15) hx hb hts hinX6 tyX6 tyX6_ok nmX6 hown hK hP hD hS 0 rfl rfl 8 (by decide) (hts (.fieldLink RX6 130 "BarredRungsModel" "at" "I") (List.mem_of_getElem? (i := 1) rfl)) (fun _ h9 => h9) rfl (by decide +kernel) rfl rfl (Nat.le_of_ble_eq_true rfl) dX6_findError_2 (fun H locs hP hD hS => ?_)
  have hP : va_P g.1 vwCl (cMo g a mo1) H := by rw [← emo1]; exact hP
  have hD : va_D A (cMo g a mo1) := by rw [← emo1]; exact hD
  have L5 : ∀ (n : Nat) (mo2 : Mo) (H : Heap) (locs : List Loc) (ls : Array Slot), fX6_findError_L5 p1 n mo2 = some (res, mo') → va_P g.1 vwCl (cMo g a mo2) H → va_D A (cMo g a mo2) → va_S A su.heap H locs → lv_has ls 2 [(0, .ref (a 0)), (1, .int p1)] → W p l e rX6_findError su m args below meth c H locs 0 0 Q (F0 m 5 ls []) := by
    intro n
    induction n with
    | zero => intro mo2 H locs ls h hP hD hS hl; cases h
    | succ n ih =>
      intro mo2 H locs ls h hP hD hS hl
      rw [fX6_findError_L5] at h
      refine lv_aload_n hx hb dX6_findError_5 rfl (lv_at hl 0 rfl) ?_
      refine lv_iload_n hx hb dX6_findError_6 rfl (lv_at hl 1 rfl) ?_
      obtain ⟨r3, mo4, kr3, h⟩ := bd2_ex h
      refine aft_w (st1 := [.int r3]) rfl (runV (As := [.int p1]) (rest := []) ⟨hx, hb, hml, hown, hts⟩ (kX6_readsPart l g a kr3) (cwV 1 hts gX6_findError_X6_readsPart rfl rfl rfl hdX6_readsPart ⟨Nat.le_of_ble_eq_true rfl, Nat.le_of_ble_eq_true rfl⟩) hK hN hP hD (va_recv hK hP (ci := 6) (q0 := 0) rfl rfl) rfl hl.1 rfl (Nat.le_of_ble_eq_true rfl) dX6_findError_7 ⟨Nat.zero_le _, Nat.zero_le _⟩) hD hS hA (fun H locs hP hD hS => ?_)
      refine lv_if_eq (tgt := 62) hx hb dX6_findError_10 (by decide) (fun c5 => ?_) (fun c5 => ?_)
      · have h := if_t c5 h
        refine lv_aload_n hx hb dX6_findError_62 rfl (lv_at hl 0 rfl) ?_
        refine va_get (D := g.1) (ci := 6) (v := .int (Mo_at mo4)) (C := RX6) (T := TX6) (N := 15) hx hb hts hinX6 hown hK hP 0 rfl rfl 8 (by decide) (hts (.fieldLink RX6 130 "BarredRungsModel" "at" "I") (List.mem_of_getElem? (i := 1) rfl)) (fun _ h9 => h9) rfl dX6_findError_63 ?_
        cases some_i h
        exact hend _ _ _ _ _ hP hD hS (RetOK.i dX6_findError_66)
      · have h := if_f c5 h
        refine lv_aload_n hx hb dX6_findError_13 rfl (lv_at hl 0 rfl) ?_
        refine va_get (D := g.1) (ci := 6) (v := .int (Mo_at mo4)) (C := RX6) (T := TX6) (N := 15) hx hb hts hinX6 hown hK hP 0 rfl rfl 8 (by decide) (hts (.fieldLink RX6 130 "BarredRungsModel" "at" "I") (List.mem_of_getElem? (i := 1) rfl)) (fun _ h9 => h9) rfl dX6_findError_14 ?_
        refine lv_aload_n hx hb dX6_findError_17 rfl (lv_at hl 0 rfl) ?_
        refine va_get (D := g.1) (ci := 6) (v := .int (Mo_length mo4)) (C := RX6) (T := TX6) (N := 15) hx hb hts hinX6 hown hK hP 0 rfl rfl 7 (by decide) (hts (.fieldLink RX6 127 "BarredRungsModel" "length" "I") (List.mem_of_getElem? (i := 2) rfl)) (fun _ h9 => h9) rfl dX6_findError_18 ?_
        refine lv_icmp_ne (tgt := 26) hx hb dX6_findError_21 (by decide) (fun c6 => ?_) (fun c6 => ?_)
        · have h := if_f c6 h
          refine lv_aload_n hx hb dX6_findError_26 rfl (lv_at hl 0 rfl) ?_
          obtain ⟨r7, kr7, h⟩ := bd_ex h
          refine aft_w (st1 := [.int r7]) rfl (runV (As := []) (rest := []) ⟨hx, hb, hml, hown, hts⟩ (kX6_next l g a kr7) (cwV 0 hts gX6_findError_X6_next rfl rfl rfl hdX6_next ⟨Nat.le_of_ble_eq_true rfl, Nat.le_of_ble_eq_true rfl⟩) hK hN hP hD (va_recv hK hP (ci := 6) (q0 := 0) rfl rfl) rfl hl.1 rfl (Nat.le_of_ble_eq_true rfl) dX6_findError_27 ⟨Nat.zero_le _, Nat.zero_le _⟩) hD hS hA (fun H locs hP hD hS => ?_)
          refine lv_iload_n hx hb dX6_findError_30 rfl (lv_at hl 1 rfl) ?_
          refine lv_if_eq (tgt := 39) hx hb dX6_findError_31 (by decide) (fun c8 => ?_) (fun c8 => ?_)
          · have h := if_t c8 h
            refine lv_bipush (v := 59) hx hb dX6_findError_39 (by decide) ?_
            refine lv_icmp_eq (tgt := 49) hx hb dX6_findError_41 (by decide) (fun c9 => ?_) (fun c9 => ?_)
            · have h := if_t c9 h
              refine lv_aload_n hx hb dX6_findError_49 rfl (lv_at hl 0 rfl) ?_
              refine lv_dup hx hb dX6_findError_50 rfl ?_
              refine va_get (D := g.1) (ci := 6) (v := .int (Mo_at mo4)) (C := RX6) (T := TX6) (N := 15) hx hb hts hinX6 hown hK hP 0 rfl rfl 8 (by decide) (hts (.fieldLink RX6 130 "BarredRungsModel" "at" "I") (List.mem_of_getElem? (i := 1) rfl)) (fun _ h9 => h9) rfl dX6_findError_51 ?_
              refine lv_iconst (v := 1) hx hb dX6_findError_54 (by decide) ?_
              refine lv_iadd hx hb dX6_findError_55 ?_
              obtain ⟨mo10, emo10, h⟩ := pl_ex h
              refine va_put (D := g.1) (ci := 6) (v := .int ((Mo_at mo4) + (1 : Int32))) (ty := .int) (C := RX6) (T := TX6) (N := 15) hx hb hts hinX6 tyX6 tyX6_ok nmX6 hown hK hP hD hS 0 rfl rfl 8 (by decide) (hts (.fieldLink RX6 130 "BarredRungsModel" "at" "I") (List.mem_of_getElem? (i := 1) rfl)) (fun _ h9 => h9) rfl (by decide +kernel) rfl rfl (Nat.le_of_ble_eq_true rfl) dX6_findError_56 (fun H locs hP hD hS => ?_)
              have hP : va_P g.1 vwCl (cMo g a mo10) H := by rw [← emo10]; exact hP
              have hD : va_D A (cMo g a mo10) := by rw [← emo10]; exact hD
              refine lv_goto (tgt := 5) hx hb dX6_findError_59 (by decide) ?_
              exact ih mo10 _ _ _ h hP hD hS (lv_sub hl [0, 1] rfl)
            · have h := if_f c9 h
              refine lv_aload_n hx hb dX6_findError_44 rfl (lv_at hl 0 rfl) ?_
              refine va_get (D := g.1) (ci := 6) (v := .int (Mo_at mo4)) (C := RX6) (T := TX6) (N := 15) hx hb hts hinX6 hown hK hP 0 rfl rfl 8 (by decide) (hts (.fieldLink RX6 130 "BarredRungsModel" "at" "I") (List.mem_of_getElem? (i := 1) rfl)) (fun _ h9 => h9) rfl dX6_findError_45 ?_
              cases some_i h
              exact hend _ _ _ _ _ hP hD hS (RetOK.i dX6_findError_48)
          · have h := if_f c8 h
            refine lv_bipush (v := 44) hx hb dX6_findError_34 (by decide) ?_
            refine lv_goto (tgt := 41) hx hb dX6_findError_36 (by decide) ?_
            refine lv_icmp_eq (tgt := 49) hx hb dX6_findError_41 (by decide) (fun c11 => ?_) (fun c11 => ?_)
            · have h := if_t c11 h
              refine lv_aload_n hx hb dX6_findError_49 rfl (lv_at hl 0 rfl) ?_
              refine lv_dup hx hb dX6_findError_50 rfl ?_
              refine va_get (D := g.1) (ci := 6) (v := .int (Mo_at mo4)) (C := RX6) (T := TX6) (N := 15) hx hb hts hinX6 hown hK hP 0 rfl rfl 8 (by decide) (hts (.fieldLink RX6 130 "BarredRungsModel" "at" "I") (List.mem_of_getElem? (i := 1) rfl)) (fun _ h9 => h9) rfl dX6_findError_51 ?_
              refine lv_iconst (v := 1) hx hb dX6_findError_54 (by decide) ?_
              refine lv_iadd hx hb dX6_findError_55 ?_
              obtain ⟨mo12, emo12, h⟩ := pl_ex h
              refine va_put (D := g.1) (ci := 6) (v := .int ((Mo_at mo4) + (1 : Int32))) (ty := .int) (C := RX6) (T := TX6) (N := 15) hx hb hts hinX6 tyX6 tyX6_ok nmX6 hown hK hP hD hS 0 rfl rfl 8 (by decide) (hts (.fieldLink RX6 130 "BarredRungsModel" "at" "I") (List.mem_of_getElem? (i := 1) rfl)) (fun _ h9 => h9) rfl (by decide +kernel) rfl rfl (Nat.le_of_ble_eq_true rfl) dX6_findError_56 (fun H locs hP hD hS => ?_)
              have hP : va_P g.1 vwCl (cMo g a mo12) H := by rw [← emo12]; exact hP
              have hD : va_D A (cMo g a mo12) := by rw [← emo12]; exact hD
              refine lv_goto (tgt := 5) hx hb dX6_findError_59 (by decide) ?_
              exact ih mo12 _ _ _ h hP hD hS (lv_sub hl [0, 1] rfl)
            · have h := if_f c11 h
              refine lv_aload_n hx hb dX6_findError_44 rfl (lv_at hl 0 rfl) ?_
              refine va_get (D := g.1) (ci := 6) (v := .int (Mo_at mo4)) (C := RX6) (T := TX6) (N := 15) hx hb hts hinX6 hown hK hP 0 rfl rfl 8 (by decide) (hts (.fieldLink RX6 130 "BarredRungsModel" "at" "I") (List.mem_of_getElem? (i := 1) rfl)) (fun _ h9 => h9) rfl dX6_findError_45 ?_
              cases some_i h
              exact hend _ _ _ _ _ hP hD hS (RetOK.i dX6_findError_48)
        · have h := if_t c6 h
          refine lv_iconst (v := -1) hx hb dX6_findError_24 (by decide) ?_
          cases some_i h
          exact hend _ _ _ _ _ hP hD hS (RetOK.i dX6_findError_25)
  exact L5 1000 mo1 _ _ _ h hP hD hS (lv_sub hl [0, 1] rfl)
def fX6_fails (mo : Mo) (p1 : Int32) : Option (Int32 × Mo) :=
(pl (Mo_set_thrown mo p1) fun (mo1 : Mo) =>
(some ((0 : Int32), mo1)))
abbrev rX6_fails : Room := { frames := 0, cells := 0, slots := 0, locals := 0 }
theorem hdX6_fails : yX6_fails.cls = RX6 ∧ yX6_fails.cls ≠ "java/lang/invoke/MethodHandle" ∧ yX6_fails.cls ≠ "java/lang/invoke/VarHandle" ∧ (parseMethodDescriptor yX6_fails.desc).map (fun d => d.parameters.length) = some 1 := by decide +kernel
set_option maxRecDepth 100000 in
set_option maxHeartbeats 8000000 in
theorem kX6_fails (l : Launch) (g : GG) (a : Nat → Nat) {mo : Mo} {p1 : Int32} {res : Int32} {mo' : Mo} (h : fX6_fails mo p1 = some (res, mo')) : Cg l g yX6_fails wsX6_fails rX6_fails [.ref (a 0), .int p1] (cMo g a mo) (some (.int res)) (cMo g a mo') := by
  refine Cg_of (cc := cX6_fails) (maxL := 2) (ret := (some .int)) (by decide +kernel) rfl (Nat.le_of_ble_eq_true rfl) ?_
  intro p e su m args below meth c A Q ls hx hb hml hown hts hK hN hA hnm hP hD hS hl hend
  have hinX6 : ∀ w ∈ u_ws RX6 TX6 15, w ∈ wsX6_fails := fun _ h9 => List.mem_cons_of_mem _ (List.mem_append_right _ h9)
  unfold fX6_fails at h
  have hl : lv_has ls 2 [(0, .ref (a 0)), (1, .int p1)] := hl
  refine lv_aload_n hx hb dX6_fails_0 rfl (lv_at hl 0 rfl) ?_
  refine lv_iload_n hx hb dX6_fails_1 rfl (lv_at hl 1 rfl) ?_
  obtain ⟨mo1, emo1, h⟩ := pl_ex h
  refine va_put (D := g.1) (ci := 6) (v := .int p1) (ty := .int) (C := RX6) (T := TX6) (N := 15) hx hb hts hinX6 tyX6 tyX6_ok nmX6 hown hK hP hD hS 0 rfl rfl 0 (by decide) (hts (.fieldLink RX6 29 "BarredRungsModel" "thrown" "I") (List.mem_of_getElem? (i := 1) rfl)) (fun _ h9 => h9) rfl (by decide +kernel) rfl rfl (Nat.le_of_ble_eq_true rfl) dX6_fails_2 (fun H locs hP hD hS => ?_)
  have hP : va_P g.1 vwCl (cMo g a mo1) H := by rw [← emo1]; exact hP
  have hD : va_D A (cMo g a mo1) := by rw [← emo1]; exact hD
  refine lv_iconst (v := 0) hx hb dX6_fails_5 (by decide) ?_
  cases some_i h
  exact hend _ _ _ _ _ hP hD hS (RetOK.i dX6_fails_6)
def fX6_save_L51 : Nat → Int32 → Mo → Option (Mo)
  | 0, _, _ => none
  | n + 1, v1_2, mo3 =>
    (if (55 : Int32) ≤ v1_2 then
    (some mo3)
    else
    (ck (inb v1_2 55)
    (ck (inb (((Mo_savedMany mo3) * (55 : Int32)) + v1_2) 330)
    (pl (Mo_set_saved mo3 (upd (Mo_saved mo3) (((Mo_savedMany mo3) * (55 : Int32)) + v1_2).toNatClampNeg (Mo_state mo3 v1_2.toNatClampNeg))) fun (mo6 : Mo) =>
    (pl ((v1_2 + (1 : Int32))) fun (x7 : Int32) =>
    (fX6_save_L51 n x7 mo6))))))
def fX6_save_L11 : Nat → Int32 → Mo → Option (Mo)
  | 0, _, _ => none
  | n + 1, v1_10, mo11 =>
    (if (275 : Int32) ≤ v1_10 then
    (some mo11)
    else
    (ck (inb (v1_10 + (55 : Int32)) 330)
    (ck (inb v1_10 330)
    (pl (Mo_set_saved mo11 (upd (Mo_saved mo11) v1_10.toNatClampNeg (Mo_saved mo11 (v1_10 + (55 : Int32)).toNatClampNeg))) fun (mo14 : Mo) =>
    (pl ((v1_10 + (1 : Int32))) fun (x15 : Int32) =>
    (fX6_save_L11 n x15 mo14))))))
def fX6_save (mo : Mo) : Option (Mo) :=
(if (Mo_savedMany mo) = (6 : Int32) then
(bd (fX6_save_L11 1000 (0 : Int32) mo) fun (mo16 : Mo) =>
(pl (Mo_set_savedMany mo16 ((Mo_savedMany mo16) - (1 : Int32))) fun (mo17 : Mo) =>
(bd (fX6_save_L51 1000 (0 : Int32) mo17) fun (mo24 : Mo) =>
(pl (Mo_set_savedMany mo24 ((Mo_savedMany mo24) + (1 : Int32))) fun (mo25 : Mo) =>
(some mo25)))))
else
(bd (fX6_save_L51 1000 (0 : Int32) mo) fun (mo8 : Mo) =>
(pl (Mo_set_savedMany mo8 ((Mo_savedMany mo8) + (1 : Int32))) fun (mo9 : Mo) =>
(some mo9))))
abbrev rX6_save : Room := { frames := 0, cells := 0, slots := 0, locals := 0 }
theorem hdX6_save : yX6_save.cls = RX6 ∧ yX6_save.cls ≠ "java/lang/invoke/MethodHandle" ∧ yX6_save.cls ≠ "java/lang/invoke/VarHandle" ∧ (parseMethodDescriptor yX6_save.desc).map (fun d => d.parameters.length) = some 0 := by decide +kernel
set_option maxRecDepth 100000 in
set_option maxHeartbeats 8000000 in
theorem kX6_save (l : Launch) (g : GG) (a : Nat → Nat) {mo : Mo} {mo' : Mo} (h : fX6_save mo = some mo') : Cg l g yX6_save wsX6_save rX6_save [.ref (a 0)] (cMo g a mo) (none) (cMo g a mo') := by
  refine Cg_of (cc := cX6_save) (maxL := 2) (ret := none) (by decide +kernel) rfl (Nat.le_of_ble_eq_true rfl) ?_
  intro p e su m args below meth c A Q ls hx hb hml hown hts hK hN hA hnm hP hD hS hl hend
  have hinX6 : ∀ w ∈ u_ws RX6 TX6 15, w ∈ wsX6_save := fun _ h9 => List.mem_cons_of_mem _ (List.mem_append_right _ h9)
  unfold fX6_save at h
  have hl : lv_has ls 2 [(0, .ref (a 0))] := hl
  refine lv_aload_n hx hb dX6_save_0 rfl (lv_at hl 0 rfl) ?_
  refine va_get (D := g.1) (ci := 6) (v := .int (Mo_savedMany mo)) (C := RX6) (T := TX6) (N := 15) hx hb hts hinX6 hown hK hP 0 rfl rfl 3 (by decide) (hts (.fieldLink RX6 37 "BarredRungsModel" "savedMany" "I") (List.mem_of_getElem? (i := 1) rfl)) (fun _ h9 => h9) rfl dX6_save_1 ?_
  refine lv_bipush (v := 6) hx hb dX6_save_4 (by decide) ?_
  refine lv_icmp_ne (tgt := 49) hx hb dX6_save_6 (by decide) (fun c1 => ?_) (fun c1 => ?_)
  · have h := if_f c1 h
    refine lv_iconst (v := 0) hx hb dX6_save_49 (by decide) ?_
    refine lv_istore_n (lv' := [(1, .int (0 : Int32)), (0, .ref (a 0))]) hx hb dX6_save_50 rfl hl (by decide) rfl (fun ls hl => ?_)
    have L51 : ∀ (n : Nat) (v1_2 : Int32) (mo3 : Mo) (mo4 : Mo) (H : Heap) (locs : List Loc) (ls : Array Slot), fX6_save_L51 n v1_2 mo3 = some mo4 → va_P g.1 vwCl (cMo g a mo3) H → va_D A (cMo g a mo3) → va_S A su.heap H locs → lv_has ls 2 [(0, .ref (a 0)), (1, .int v1_2)] → (∀ (H : Heap) (locs : List Loc) (ls : Array Slot), va_P g.1 vwCl (cMo g a mo4) H → va_D A (cMo g a mo4) → va_S A su.heap H locs → lv_has ls 2 [(0, .ref (a 0))] → W p l e rX6_save su m args below meth c H locs 0 0 Q (F0 m 83 ls [])) → W p l e rX6_save su m args below meth c H locs 0 0 Q (F0 m 51 ls []) := by
      intro n
      induction n with
      | zero => intro v1_2 mo3 mo4 H locs ls h hP hD hS hl kx; cases h
      | succ n ih =>
        intro v1_2 mo3 mo4 H locs ls h hP hD hS hl kx
        rw [fX6_save_L51] at h
        refine lv_iload_n hx hb dX6_save_51 rfl (lv_at hl 1 rfl) ?_
        refine lv_bipush (v := 55) hx hb dX6_save_52 (by decide) ?_
        refine lv_icmp_ge (tgt := 83) hx hb dX6_save_54 (by decide) (fun c5 => ?_) (fun c5 => ?_)
        · have h := if_t c5 h
          cases some_i h
          exact kx _ _ _ hP hD hS (lv_sub hl [0] rfl)
        · have h := if_f c5 h
          refine lv_aload_n hx hb dX6_save_57 rfl (lv_at hl 0 rfl) ?_
          refine va_get (D := g.1) (ci := 6) (v := .ref (a 2)) (C := RX6) (T := TX6) (N := 15) hx hb hts hinX6 hown hK hP 0 rfl rfl 2 (by decide) (hts (.fieldLink RX6 13 "BarredRungsModel" "saved" "[I") (List.mem_of_getElem? (i := 2) rfl)) (fun _ h9 => h9) rfl dX6_save_58 ?_
          refine lv_aload_n hx hb dX6_save_61 rfl (lv_at hl 0 rfl) ?_
          refine va_get (D := g.1) (ci := 6) (v := .int (Mo_savedMany mo3)) (C := RX6) (T := TX6) (N := 15) hx hb hts hinX6 hown hK hP 0 rfl rfl 3 (by decide) (hts (.fieldLink RX6 37 "BarredRungsModel" "savedMany" "I") (List.mem_of_getElem? (i := 1) rfl)) (fun _ h9 => h9) rfl dX6_save_62 ?_
          refine lv_bipush (v := 55) hx hb dX6_save_65 (by decide) ?_
          refine lv_imul hx hb dX6_save_67 ?_
          refine lv_iload_n hx hb dX6_save_68 rfl (lv_at hl 1 rfl) ?_
          refine lv_iadd hx hb dX6_save_69 ?_
          refine lv_aload_n hx hb dX6_save_70 rfl (lv_at hl 0 rfl) ?_
          refine va_get (D := g.1) (ci := 6) (v := .ref (a 1)) (C := RX6) (T := TX6) (N := 15) hx hb hts hinX6 hown hK hP 0 rfl rfl 1 (by decide) (hts (.fieldLink RX6 7 "BarredRungsModel" "state" "[I") (List.mem_of_getElem? (i := 3) rfl)) (fun _ h9 => h9) rfl dX6_save_71 ?_
          refine lv_iload_n hx hb dX6_save_74 rfl (lv_at hl 1 rfl) ?_
          obtain ⟨hi9, h⟩ := ck_ex h
          refine va_iald hx hb hK hP 1 0 rfl rfl (inb_in hi9) dX6_save_75 ?_
          obtain ⟨hi9, h⟩ := ck_ex h
          obtain ⟨mo6, emo6, h⟩ := pl_ex h
          refine va_iast hx hb hK hP hD hS 2 0 rfl rfl (inb_in hi9) dX6_save_76 (fun H locs hP hD hS => ?_)
          have hP : va_P g.1 vwCl (cMo g a mo6) H := by rw [← emo6]; exact hP
          have hD : va_D A (cMo g a mo6) := by rw [← emo6]; exact hD
          obtain ⟨x7, ex7, h⟩ := pl_ex h
          refine lv_iinc (v := x7) (lv' := [(1, .int x7), (0, .ref (a 0))]) hx hb dX6_save_77 hl (k := 1) rfl (by rw [← ex7]; rfl) (by decide) rfl (fun ls hl => ?_)
          refine lv_goto (tgt := 51) hx hb dX6_save_80 (by decide) ?_
          exact ih x7 mo6 _ _ _ _ h hP hD hS (lv_sub hl [1, 0] rfl) kx
    obtain ⟨mo8, kmo8, h⟩ := bd_ex h
    refine L51 1000 (0 : Int32) mo mo8 _ _ _ kmo8 hP hD hS (lv_sub hl [1, 0] rfl) (fun H locs ls hP hD hS hl => ?_)
    refine lv_aload_n hx hb dX6_save_83 rfl (lv_at hl 0 rfl) ?_
    refine lv_dup hx hb dX6_save_84 rfl ?_
    refine va_get (D := g.1) (ci := 6) (v := .int (Mo_savedMany mo8)) (C := RX6) (T := TX6) (N := 15) hx hb hts hinX6 hown hK hP 0 rfl rfl 3 (by decide) (hts (.fieldLink RX6 37 "BarredRungsModel" "savedMany" "I") (List.mem_of_getElem? (i := 1) rfl)) (fun _ h9 => h9) rfl dX6_save_85 ?_
    refine lv_iconst (v := 1) hx hb dX6_save_88 (by decide) ?_
    refine lv_iadd hx hb dX6_save_89 ?_
    obtain ⟨mo9, emo9, h⟩ := pl_ex h
    refine va_put (D := g.1) (ci := 6) (v := .int ((Mo_savedMany mo8) + (1 : Int32))) (ty := .int) (C := RX6) (T := TX6) (N := 15) hx hb hts hinX6 tyX6 tyX6_ok nmX6 hown hK hP hD hS 0 rfl rfl 3 (by decide) (hts (.fieldLink RX6 37 "BarredRungsModel" "savedMany" "I") (List.mem_of_getElem? (i := 1) rfl)) (fun _ h9 => h9) rfl (by decide +kernel) rfl rfl (Nat.le_of_ble_eq_true rfl) dX6_save_90 (fun H locs hP hD hS => ?_)
    have hP : va_P g.1 vwCl (cMo g a mo9) H := by rw [← emo9]; exact hP
    have hD : va_D A (cMo g a mo9) := by rw [← emo9]; exact hD
    cases some_i h
    exact hend _ _ _ _ _ hP hD hS (RetOK.v dX6_save_93)
  · have h := if_t c1 h
    refine lv_iconst (v := 0) hx hb dX6_save_9 (by decide) ?_
    refine lv_istore_n (lv' := [(1, .int (0 : Int32)), (0, .ref (a 0))]) hx hb dX6_save_10 rfl hl (by decide) rfl (fun ls hl => ?_)
    have L11 : ∀ (n : Nat) (v1_10 : Int32) (mo11 : Mo) (mo12 : Mo) (H : Heap) (locs : List Loc) (ls : Array Slot), fX6_save_L11 n v1_10 mo11 = some mo12 → va_P g.1 vwCl (cMo g a mo11) H → va_D A (cMo g a mo11) → va_S A su.heap H locs → lv_has ls 2 [(0, .ref (a 0)), (1, .int v1_10)] → (∀ (H : Heap) (locs : List Loc) (ls : Array Slot), va_P g.1 vwCl (cMo g a mo12) H → va_D A (cMo g a mo12) → va_S A su.heap H locs → lv_has ls 2 [(0, .ref (a 0))] → W p l e rX6_save su m args below meth c H locs 0 0 Q (F0 m 39 ls [])) → W p l e rX6_save su m args below meth c H locs 0 0 Q (F0 m 11 ls []) := by
      intro n
      induction n with
      | zero => intro v1_10 mo11 mo12 H locs ls h hP hD hS hl kx; cases h
      | succ n ih =>
        intro v1_10 mo11 mo12 H locs ls h hP hD hS hl kx
        rw [fX6_save_L11] at h
        refine lv_iload_n hx hb dX6_save_11 rfl (lv_at hl 1 rfl) ?_
        refine lv_sipush (v := 275) hx hb dX6_save_12 (by decide) ?_
        refine lv_icmp_ge (tgt := 39) hx hb dX6_save_15 (by decide) (fun c13 => ?_) (fun c13 => ?_)
        · have h := if_t c13 h
          cases some_i h
          exact kx _ _ _ hP hD hS (lv_sub hl [0] rfl)
        · have h := if_f c13 h
          refine lv_aload_n hx hb dX6_save_18 rfl (lv_at hl 0 rfl) ?_
          refine va_get (D := g.1) (ci := 6) (v := .ref (a 2)) (C := RX6) (T := TX6) (N := 15) hx hb hts hinX6 hown hK hP 0 rfl rfl 2 (by decide) (hts (.fieldLink RX6 13 "BarredRungsModel" "saved" "[I") (List.mem_of_getElem? (i := 2) rfl)) (fun _ h9 => h9) rfl dX6_save_19 ?_
          refine lv_iload_n hx hb dX6_save_22 rfl (lv_at hl 1 rfl) ?_
          refine lv_aload_n hx hb dX6_save_23 rfl (lv_at hl 0 rfl) ?_
          refine va_get (D := g.1) (ci := 6) (v := .ref (a 2)) (C := RX6) (T := TX6) (N := 15) hx hb hts hinX6 hown hK hP 0 rfl rfl 2 (by decide) (hts (.fieldLink RX6 13 "BarredRungsModel" "saved" "[I") (List.mem_of_getElem? (i := 2) rfl)) (fun _ h9 => h9) rfl dX6_save_24 ?_
          refine lv_iload_n hx hb dX6_save_27 rfl (lv_at hl 1 rfl) ?_
          refine lv_bipush (v := 55) hx hb dX6_save_28 (by decide) ?_
          refine lv_iadd hx hb dX6_save_30 ?_
          obtain ⟨hi9, h⟩ := ck_ex h
          refine va_iald hx hb hK hP 2 0 rfl rfl (inb_in hi9) dX6_save_31 ?_
          obtain ⟨hi9, h⟩ := ck_ex h
          obtain ⟨mo14, emo14, h⟩ := pl_ex h
          refine va_iast hx hb hK hP hD hS 2 0 rfl rfl (inb_in hi9) dX6_save_32 (fun H locs hP hD hS => ?_)
          have hP : va_P g.1 vwCl (cMo g a mo14) H := by rw [← emo14]; exact hP
          have hD : va_D A (cMo g a mo14) := by rw [← emo14]; exact hD
          obtain ⟨x15, ex15, h⟩ := pl_ex h
          refine lv_iinc (v := x15) (lv' := [(1, .int x15), (0, .ref (a 0))]) hx hb dX6_save_33 hl (k := 1) rfl (by rw [← ex15]; rfl) (by decide) rfl (fun ls hl => ?_)
          refine lv_goto (tgt := 11) hx hb dX6_save_36 (by decide) ?_
          exact ih x15 mo14 _ _ _ _ h hP hD hS (lv_sub hl [1, 0] rfl) kx
    obtain ⟨mo16, kmo16, h⟩ := bd_ex h
    refine L11 1000 (0 : Int32) mo mo16 _ _ _ kmo16 hP hD hS (lv_sub hl [1, 0] rfl) (fun H locs ls hP hD hS hl => ?_)
    refine lv_aload_n hx hb dX6_save_39 rfl (lv_at hl 0 rfl) ?_
    refine lv_dup hx hb dX6_save_40 rfl ?_
    refine va_get (D := g.1) (ci := 6) (v := .int (Mo_savedMany mo16)) (C := RX6) (T := TX6) (N := 15) hx hb hts hinX6 hown hK hP 0 rfl rfl 3 (by decide) (hts (.fieldLink RX6 37 "BarredRungsModel" "savedMany" "I") (List.mem_of_getElem? (i := 1) rfl)) (fun _ h9 => h9) rfl dX6_save_41 ?_
    refine lv_iconst (v := 1) hx hb dX6_save_44 (by decide) ?_
    refine lv_isub hx hb dX6_save_45 ?_
    obtain ⟨mo17, emo17, h⟩ := pl_ex h
    refine va_put (D := g.1) (ci := 6) (v := .int ((Mo_savedMany mo16) - (1 : Int32))) (ty := .int) (C := RX6) (T := TX6) (N := 15) hx hb hts hinX6 tyX6 tyX6_ok nmX6 hown hK hP hD hS 0 rfl rfl 3 (by decide) (hts (.fieldLink RX6 37 "BarredRungsModel" "savedMany" "I") (List.mem_of_getElem? (i := 1) rfl)) (fun _ h9 => h9) rfl (by decide +kernel) rfl rfl (Nat.le_of_ble_eq_true rfl) dX6_save_46 (fun H locs hP hD hS => ?_)
    have hP : va_P g.1 vwCl (cMo g a mo17) H := by rw [← emo17]; exact hP
    have hD : va_D A (cMo g a mo17) := by rw [← emo17]; exact hD
    refine lv_iconst (v := 0) hx hb dX6_save_49 (by decide) ?_
    refine lv_istore_n (lv' := [(1, .int (0 : Int32)), (0, .ref (a 0))]) hx hb dX6_save_50 rfl hl (by decide) rfl (fun ls hl => ?_)
    have L51 : ∀ (n : Nat) (v1_18 : Int32) (mo19 : Mo) (mo20 : Mo) (H : Heap) (locs : List Loc) (ls : Array Slot), fX6_save_L51 n v1_18 mo19 = some mo20 → va_P g.1 vwCl (cMo g a mo19) H → va_D A (cMo g a mo19) → va_S A su.heap H locs → lv_has ls 2 [(0, .ref (a 0)), (1, .int v1_18)] → (∀ (H : Heap) (locs : List Loc) (ls : Array Slot), va_P g.1 vwCl (cMo g a mo20) H → va_D A (cMo g a mo20) → va_S A su.heap H locs → lv_has ls 2 [(0, .ref (a 0))] → W p l e rX6_save su m args below meth c H locs 0 0 Q (F0 m 83 ls [])) → W p l e rX6_save su m args below meth c H locs 0 0 Q (F0 m 51 ls []) := by
      intro n
      induction n with
      | zero => intro v1_18 mo19 mo20 H locs ls h hP hD hS hl kx; cases h
      | succ n ih =>
        intro v1_18 mo19 mo20 H locs ls h hP hD hS hl kx
        rw [fX6_save_L51] at h
        refine lv_iload_n hx hb dX6_save_51 rfl (lv_at hl 1 rfl) ?_
        refine lv_bipush (v := 55) hx hb dX6_save_52 (by decide) ?_
        refine lv_icmp_ge (tgt := 83) hx hb dX6_save_54 (by decide) (fun c21 => ?_) (fun c21 => ?_)
        · have h := if_t c21 h
          cases some_i h
          exact kx _ _ _ hP hD hS (lv_sub hl [0] rfl)
        · have h := if_f c21 h
          refine lv_aload_n hx hb dX6_save_57 rfl (lv_at hl 0 rfl) ?_
          refine va_get (D := g.1) (ci := 6) (v := .ref (a 2)) (C := RX6) (T := TX6) (N := 15) hx hb hts hinX6 hown hK hP 0 rfl rfl 2 (by decide) (hts (.fieldLink RX6 13 "BarredRungsModel" "saved" "[I") (List.mem_of_getElem? (i := 2) rfl)) (fun _ h9 => h9) rfl dX6_save_58 ?_
          refine lv_aload_n hx hb dX6_save_61 rfl (lv_at hl 0 rfl) ?_
          refine va_get (D := g.1) (ci := 6) (v := .int (Mo_savedMany mo19)) (C := RX6) (T := TX6) (N := 15) hx hb hts hinX6 hown hK hP 0 rfl rfl 3 (by decide) (hts (.fieldLink RX6 37 "BarredRungsModel" "savedMany" "I") (List.mem_of_getElem? (i := 1) rfl)) (fun _ h9 => h9) rfl dX6_save_62 ?_
          refine lv_bipush (v := 55) hx hb dX6_save_65 (by decide) ?_
          refine lv_imul hx hb dX6_save_67 ?_
          refine lv_iload_n hx hb dX6_save_68 rfl (lv_at hl 1 rfl) ?_
          refine lv_iadd hx hb dX6_save_69 ?_
          refine lv_aload_n hx hb dX6_save_70 rfl (lv_at hl 0 rfl) ?_
          refine va_get (D := g.1) (ci := 6) (v := .ref (a 1)) (C := RX6) (T := TX6) (N := 15) hx hb hts hinX6 hown hK hP 0 rfl rfl 1 (by decide) (hts (.fieldLink RX6 7 "BarredRungsModel" "state" "[I") (List.mem_of_getElem? (i := 3) rfl)) (fun _ h9 => h9) rfl dX6_save_71 ?_
          refine lv_iload_n hx hb dX6_save_74 rfl (lv_at hl 1 rfl) ?_
          obtain ⟨hi9, h⟩ := ck_ex h
          refine va_iald hx hb hK hP 1 0 rfl rfl (inb_in hi9) dX6_save_75 ?_
          obtain ⟨hi9, h⟩ := ck_ex h
          obtain ⟨mo22, emo22, h⟩ := pl_ex h
          refine va_iast hx hb hK hP hD hS 2 0 rfl rfl (inb_in hi9) dX6_save_76 (fun H locs hP hD hS => ?_)
          have hP : va_P g.1 vwCl (cMo g a mo22) H := by rw [← emo22]; exact hP
          have hD : va_D A (cMo g a mo22) := by rw [← emo22]; exact hD
          obtain ⟨x23, ex23, h⟩ := pl_ex h
          refine lv_iinc (v := x23) (lv' := [(1, .int x23), (0, .ref (a 0))]) hx hb dX6_save_77 hl (k := 1) rfl (by rw [← ex23]; rfl) (by decide) rfl (fun ls hl => ?_)
          refine lv_goto (tgt := 51) hx hb dX6_save_80 (by decide) ?_
          exact ih x23 mo22 _ _ _ _ h hP hD hS (lv_sub hl [1, 0] rfl) kx
    obtain ⟨mo24, kmo24, h⟩ := bd_ex h
    refine L51 1000 (0 : Int32) mo17 mo24 _ _ _ kmo24 hP hD hS (lv_sub hl [1, 0] rfl) (fun H locs ls hP hD hS hl => ?_)
    refine lv_aload_n hx hb dX6_save_83 rfl (lv_at hl 0 rfl) ?_
    refine lv_dup hx hb dX6_save_84 rfl ?_
    refine va_get (D := g.1) (ci := 6) (v := .int (Mo_savedMany mo24)) (C := RX6) (T := TX6) (N := 15) hx hb hts hinX6 hown hK hP 0 rfl rfl 3 (by decide) (hts (.fieldLink RX6 37 "BarredRungsModel" "savedMany" "I") (List.mem_of_getElem? (i := 1) rfl)) (fun _ h9 => h9) rfl dX6_save_85 ?_
    refine lv_iconst (v := 1) hx hb dX6_save_88 (by decide) ?_
    refine lv_iadd hx hb dX6_save_89 ?_
    obtain ⟨mo25, emo25, h⟩ := pl_ex h
    refine va_put (D := g.1) (ci := 6) (v := .int ((Mo_savedMany mo24) + (1 : Int32))) (ty := .int) (C := RX6) (T := TX6) (N := 15) hx hb hts hinX6 tyX6 tyX6_ok nmX6 hown hK hP hD hS 0 rfl rfl 3 (by decide) (hts (.fieldLink RX6 37 "BarredRungsModel" "savedMany" "I") (List.mem_of_getElem? (i := 1) rfl)) (fun _ h9 => h9) rfl (by decide +kernel) rfl rfl (Nat.le_of_ble_eq_true rfl) dX6_save_90 (fun H locs hP hD hS => ?_)
    have hP : va_P g.1 vwCl (cMo g a mo25) H := by rw [← emo25]; exact hP
    have hD : va_D A (cMo g a mo25) := by rw [← emo25]; exact hD
    cases some_i h
    exact hend _ _ _ _ _ hP hD hS (RetOK.v dX6_save_93)
def fX6_found_L2 (mo : Mo) : Nat → Int32 → Option (Int32)
  | 0, _ => none
  | n + 1, v1_1 =>
    (ck (inb (0 : Int32) 55)
    (if (Mo_state mo (0 : Int32).toNatClampNeg) ≤ v1_1 then
    (some (-1 : Int32))
    else
    (ck (inb ((31 : Int32) + v1_1) 55)
    (if (Mo_state mo ((31 : Int32) + v1_1).toNatClampNeg) = (Mo_readWord mo) then
    (some v1_1)
    else
    (pl ((v1_1 + (1 : Int32))) fun (x4 : Int32) =>
    (fX6_found_L2 mo n x4))))))
def fX6_found (mo : Mo) : Option (Int32) :=
(fX6_found_L2 mo 1000 (0 : Int32))
abbrev rX6_found : Room := { frames := 0, cells := 0, slots := 0, locals := 0 }
theorem hdX6_found : yX6_found.cls = RX6 ∧ yX6_found.cls ≠ "java/lang/invoke/MethodHandle" ∧ yX6_found.cls ≠ "java/lang/invoke/VarHandle" ∧ (parseMethodDescriptor yX6_found.desc).map (fun d => d.parameters.length) = some 0 := by decide +kernel
set_option maxRecDepth 100000 in
set_option maxHeartbeats 8000000 in
theorem kX6_found (l : Launch) (g : GG) (a : Nat → Nat) {mo : Mo} {res : Int32} (h : fX6_found mo = some res) : Cg l g yX6_found wsX6_found rX6_found [.ref (a 0)] (cMo g a mo) (some (.int res)) (cMo g a mo) := by
  refine Cg_of (cc := cX6_found) (maxL := 2) (ret := (some .int)) (by decide +kernel) rfl (Nat.le_of_ble_eq_true rfl) ?_
  intro p e su m args below meth c A Q ls hx hb hml hown hts hK hN hA hnm hP hD hS hl hend
  have hinX6 : ∀ w ∈ u_ws RX6 TX6 15, w ∈ wsX6_found := fun _ h9 => List.mem_cons_of_mem _ (List.mem_append_right _ h9)
  unfold fX6_found at h
  have hl : lv_has ls 2 [(0, .ref (a 0))] := hl
  refine lv_iconst (v := 0) hx hb dX6_found_0 (by decide) ?_
  refine lv_istore_n (lv' := [(1, .int (0 : Int32)), (0, .ref (a 0))]) hx hb dX6_found_1 rfl hl (by decide) rfl (fun ls hl => ?_)
  have L2 : ∀ (n : Nat) (v1_1 : Int32) (H : Heap) (locs : List Loc) (ls : Array Slot), fX6_found_L2 mo n v1_1 = some res → va_P g.1 vwCl (cMo g a mo) H → va_D A (cMo g a mo) → va_S A su.heap H locs → lv_has ls 2 [(0, .ref (a 0)), (1, .int v1_1)] → W p l e rX6_found su m args below meth c H locs 0 0 Q (F0 m 2 ls []) := by
    intro n
    induction n with
    | zero => intro v1_1 H locs ls h hP hD hS hl; cases h
    | succ n ih =>
      intro v1_1 H locs ls h hP hD hS hl
      rw [fX6_found_L2] at h
      refine lv_iload_n hx hb dX6_found_2 rfl (lv_at hl 1 rfl) ?_
      refine lv_aload_n hx hb dX6_found_3 rfl (lv_at hl 0 rfl) ?_
      refine va_get (D := g.1) (ci := 6) (v := .ref (a 1)) (C := RX6) (T := TX6) (N := 15) hx hb hts hinX6 hown hK hP 0 rfl rfl 1 (by decide) (hts (.fieldLink RX6 7 "BarredRungsModel" "state" "[I") (List.mem_of_getElem? (i := 1) rfl)) (fun _ h9 => h9) rfl dX6_found_4 ?_
      refine lv_iconst (v := 0) hx hb dX6_found_7 (by decide) ?_
      obtain ⟨hi9, h⟩ := ck_ex h
      refine va_iald hx hb hK hP 1 0 rfl rfl (inb_in hi9) dX6_found_8 ?_
      refine lv_icmp_ge (tgt := 36) hx hb dX6_found_9 (by decide) (fun c2 => ?_) (fun c2 => ?_)
      · have h := if_t c2 h
        refine lv_iconst (v := -1) hx hb dX6_found_36 (by decide) ?_
        cases some_i h
        exact hend _ _ _ _ _ hP hD hS (RetOK.i dX6_found_37)
      · have h := if_f c2 h
        refine lv_aload_n hx hb dX6_found_12 rfl (lv_at hl 0 rfl) ?_
        refine va_get (D := g.1) (ci := 6) (v := .ref (a 1)) (C := RX6) (T := TX6) (N := 15) hx hb hts hinX6 hown hK hP 0 rfl rfl 1 (by decide) (hts (.fieldLink RX6 7 "BarredRungsModel" "state" "[I") (List.mem_of_getElem? (i := 1) rfl)) (fun _ h9 => h9) rfl dX6_found_13 ?_
        refine lv_bipush (v := 31) hx hb dX6_found_16 (by decide) ?_
        refine lv_iload_n hx hb dX6_found_18 rfl (lv_at hl 1 rfl) ?_
        refine lv_iadd hx hb dX6_found_19 ?_
        obtain ⟨hi9, h⟩ := ck_ex h
        refine va_iald hx hb hK hP 1 0 rfl rfl (inb_in hi9) dX6_found_20 ?_
        refine lv_aload_n hx hb dX6_found_21 rfl (lv_at hl 0 rfl) ?_
        refine va_get (D := g.1) (ci := 6) (v := .int (Mo_readWord mo)) (C := RX6) (T := TX6) (N := 15) hx hb hts hinX6 hown hK hP 0 rfl rfl 10 (by decide) (hts (.fieldLink RX6 133 "BarredRungsModel" "readWord" "I") (List.mem_of_getElem? (i := 2) rfl)) (fun _ h9 => h9) rfl dX6_found_22 ?_
        refine lv_icmp_ne (tgt := 30) hx hb dX6_found_25 (by decide) (fun c3 => ?_) (fun c3 => ?_)
        · have h := if_f c3 h
          obtain ⟨x4, ex4, h⟩ := pl_ex h
          refine lv_iinc (v := x4) (lv' := [(1, .int x4), (0, .ref (a 0))]) hx hb dX6_found_30 hl (k := 1) rfl (by rw [← ex4]; rfl) (by decide) rfl (fun ls hl => ?_)
          refine lv_goto (tgt := 2) hx hb dX6_found_33 (by decide) ?_
          exact ih x4 _ _ _ h hP hD hS (lv_sub hl [1, 0] rfl)
        · have h := if_t c3 h
          refine lv_iload_n hx hb dX6_found_28 rfl (lv_at hl 1 rfl) ?_
          cases some_i h
          exact hend _ _ _ _ _ hP hD hS (RetOK.i dX6_found_29)
  exact L2 1000 (0 : Int32) _ _ _ h hP hD hS (lv_sub hl [1, 0] rfl)
def fX6_add_L33 : Nat → Int32 → Int32 → Mo → Option (Int32 × Mo)
  | 0, _, _, _ => none
  | n + 1, v1_7, v2_8, mo9 =>
    (if v2_8 = (0 : Int32) then
    (some (v1_7, mo9))
    else
    (if (Mo_length mo9) ≤ (Mo_at mo9) then
    (some (v1_7, mo9))
    else
    (bd2 (fX6_readsLetters mo9) fun (r14 : Int32) (mo15 : Mo) =>
    (if r14 = (0 : Int32) then
    (pl (Mo_set_at mo15 ((Mo_at mo15) + (1 : Int32))) fun (mo19 : Mo) =>
    (fX6_add_L33 n v1_7 (1 : Int32) mo19))
    else
    (bd (fX6_found mo15) fun (r20 : Int32) =>
    (if r20 = (-1 : Int32) then
    (ck (inb (0 : Int32) 55)
    (if (24 : Int32) ≤ (Mo_state mo15 (0 : Int32).toNatClampNeg) then
    (pl (Mo_set_at mo15 ((Mo_at mo15) + (1 : Int32))) fun (mo29 : Mo) =>
    (fX6_add_L33 n v1_7 (0 : Int32) mo29))
    else
    (ck (inb (0 : Int32) 55)
    (ck (inb ((31 : Int32) + (Mo_state mo15 (0 : Int32).toNatClampNeg)) 55)
    (pl (Mo_set_state mo15 (upd (Mo_state mo15) ((31 : Int32) + (Mo_state mo15 (0 : Int32).toNatClampNeg)).toNatClampNeg (Mo_readWord mo15))) fun (mo32 : Mo) =>
    (ck (inb (0 : Int32) 55)
    (ck (inb (0 : Int32) 55)
    (pl (Mo_set_state mo32 (upd (Mo_state mo32) (0 : Int32).toNatClampNeg ((Mo_state mo32 (0 : Int32).toNatClampNeg) + (1 : Int32)))) fun (mo33 : Mo) =>
    (pl ((v1_7 + (1 : Int32))) fun (x34 : Int32) =>
    (pl (Mo_set_at mo33 ((Mo_at mo33) + (1 : Int32))) fun (mo35 : Mo) =>
    (fX6_add_L33 n x34 (1 : Int32) mo35)))))))))))
    else
    (pl (Mo_set_at mo15 ((Mo_at mo15) + (1 : Int32))) fun (mo24 : Mo) =>
    (fX6_add_L33 n v1_7 (1 : Int32) mo24))))))))
def fX6_add (mo : Mo) : Option (Int32 × Mo) :=
(pl (Mo_set_thrown mo (0 : Int32)) fun (mo1 : Mo) =>
(bd2 (fX6_findError mo1 (1 : Int32)) fun (r2 : Int32) (mo3 : Mo) =>
(if r2 = (-1 : Int32) then
(bd (fX6_save mo3) fun (mo5 : Mo) =>
(pl (Mo_set_at mo5 (0 : Int32)) fun (mo6 : Mo) =>
(bd2 (fX6_add_L33 1000 (0 : Int32) (1 : Int32) mo6) fun (v1_36 : Int32) (mo37 : Mo) =>
(pl (Mo_set_length mo37 (0 : Int32)) fun (mo38 : Mo) =>
(some (v1_36, mo38))))))
else
(bd2 (fX6_fails mo3 (1 : Int32)) fun (r39 : Int32) (mo40 : Mo) =>
(some (r39, mo40))))))
abbrev rX6_add : Room := { frames := 5, cells := 0, slots := 0, locals := 105 }
theorem hdX6_add : yX6_add.cls = RX6 ∧ yX6_add.cls ≠ "java/lang/invoke/MethodHandle" ∧ yX6_add.cls ≠ "java/lang/invoke/VarHandle" ∧ (parseMethodDescriptor yX6_add.desc).map (fun d => d.parameters.length) = some 0 := by decide +kernel
set_option maxRecDepth 100000 in
set_option maxHeartbeats 8000000 in
theorem kX6_add (l : Launch) (g : GG) (a : Nat → Nat) {mo : Mo} {res : Int32} {mo' : Mo} (h : fX6_add mo = some (res, mo')) : Cg l g yX6_add wsX6_add rX6_add [.ref (a 0)] (cMo g a mo) (some (.int res)) (cMo g a mo') := by
  refine Cg_of (cc := cX6_add) (maxL := 4) (ret := (some .int)) (by decide +kernel) rfl (Nat.le_of_ble_eq_true rfl) ?_
  intro p e su m args below meth c A Q ls hx hb hml hown hts hK hN hA hnm hP hD hS hl hend
  have hinX6 : ∀ w ∈ u_ws RX6 TX6 15, w ∈ wsX6_add := fun _ h9 => List.mem_cons_of_mem _ (List.mem_append_right _ h9)
  unfold fX6_add at h
  have hl : lv_has ls 4 [(0, .ref (a 0))] := hl
  refine lv_aload_n hx hb dX6_add_0 rfl (lv_at hl 0 rfl) ?_
  refine lv_iconst (v := 0) hx hb dX6_add_1 (by decide) ?_
  obtain ⟨mo1, emo1, h⟩ := pl_ex h
  refine va_put (D := g.1) (ci := 6) (v := .int (0 : Int32)) (ty := .int) (C := RX6) (T := TX6) (N := 15) hx hb hts hinX6 tyX6 tyX6_ok nmX6 hown hK hP hD hS 0 rfl rfl 0 (by decide) (hts (.fieldLink RX6 29 "BarredRungsModel" "thrown" "I") (List.mem_of_getElem? (i := 1) rfl)) (fun _ h9 => h9) rfl (by decide +kernel) rfl rfl (Nat.le_of_ble_eq_true rfl) dX6_add_2 (fun H locs hP hD hS => ?_)
  have hP : va_P g.1 vwCl (cMo g a mo1) H := by rw [← emo1]; exact hP
  have hD : va_D A (cMo g a mo1) := by rw [← emo1]; exact hD
  refine lv_aload_n hx hb dX6_add_5 rfl (lv_at hl 0 rfl) ?_
  refine lv_iconst (v := 1) hx hb dX6_add_6 (by decide) ?_
  obtain ⟨r2, mo3, kr2, h⟩ := bd2_ex h
  refine aft_w (st1 := [.int r2]) rfl (runV (As := [.int (1 : Int32)]) (rest := []) ⟨hx, hb, hml, hown, hts⟩ (kX6_findError l g a kr2) (cwV 1 hts gX6_add_X6_findError rfl rfl rfl hdX6_findError ⟨Nat.le_of_ble_eq_true rfl, Nat.le_of_ble_eq_true rfl⟩) hK hN hP hD (va_recv hK hP (ci := 6) (q0 := 0) rfl rfl) rfl hl.1 rfl (Nat.le_of_ble_eq_true rfl) dX6_add_7 ⟨Nat.zero_le _, Nat.zero_le _⟩) hD hS hA (fun H locs hP hD hS => ?_)
  refine lv_iconst (v := -1) hx hb dX6_add_10 (by decide) ?_
  refine lv_icmp_eq (tgt := 20) hx hb dX6_add_11 (by decide) (fun c4 => ?_) (fun c4 => ?_)
  · have h := if_t c4 h
    refine lv_aload_n hx hb dX6_add_20 rfl (lv_at hl 0 rfl) ?_
    obtain ⟨mo5, kmo5, h⟩ := bd_ex h
    refine aft_w (st1 := []) rfl (runV (As := []) (rest := []) ⟨hx, hb, hml, hown, hts⟩ (kX6_save l g a kmo5) (cwV 0 hts gX6_add_X6_save rfl rfl rfl hdX6_save ⟨Nat.le_of_ble_eq_true rfl, Nat.le_of_ble_eq_true rfl⟩) hK hN hP hD (va_recv hK hP (ci := 6) (q0 := 0) rfl rfl) rfl hl.1 rfl (Nat.le_of_ble_eq_true rfl) dX6_add_21 ⟨Nat.zero_le _, Nat.zero_le _⟩) hD hS hA (fun H locs hP hD hS => ?_)
    refine lv_aload_n hx hb dX6_add_24 rfl (lv_at hl 0 rfl) ?_
    refine lv_iconst (v := 0) hx hb dX6_add_25 (by decide) ?_
    obtain ⟨mo6, emo6, h⟩ := pl_ex h
    refine va_put (D := g.1) (ci := 6) (v := .int (0 : Int32)) (ty := .int) (C := RX6) (T := TX6) (N := 15) hx hb hts hinX6 tyX6 tyX6_ok nmX6 hown hK hP hD hS 0 rfl rfl 8 (by decide) (hts (.fieldLink RX6 130 "BarredRungsModel" "at" "I") (List.mem_of_getElem? (i := 2) rfl)) (fun _ h9 => h9) rfl (by decide +kernel) rfl rfl (Nat.le_of_ble_eq_true rfl) dX6_add_26 (fun H locs hP hD hS => ?_)
    have hP : va_P g.1 vwCl (cMo g a mo6) H := by rw [← emo6]; exact hP
    have hD : va_D A (cMo g a mo6) := by rw [← emo6]; exact hD
    refine lv_iconst (v := 0) hx hb dX6_add_29 (by decide) ?_
    refine lv_istore_n (lv' := [(1, .int (0 : Int32)), (0, .ref (a 0))]) hx hb dX6_add_30 rfl hl (by decide) rfl (fun ls hl => ?_)
    refine lv_iconst (v := 1) hx hb dX6_add_31 (by decide) ?_
    refine lv_istore_n (lv' := [(2, .int (1 : Int32)), (1, .int (0 : Int32)), (0, .ref (a 0))]) hx hb dX6_add_32 rfl hl (by decide) rfl (fun ls hl => ?_)
    have L33 : ∀ (n : Nat) (v1_7 : Int32) (v2_8 : Int32) (mo9 : Mo) (y1_10 : Int32) (mo11 : Mo) (H : Heap) (locs : List Loc) (ls : Array Slot), fX6_add_L33 n v1_7 v2_8 mo9 = some (y1_10, mo11) → va_P g.1 vwCl (cMo g a mo9) H → va_D A (cMo g a mo9) → va_S A su.heap H locs → lv_has ls 4 [(0, .ref (a 0)), (1, .int v1_7), (2, .int v2_8)] → (∀ (H : Heap) (locs : List Loc) (ls : Array Slot), va_P g.1 vwCl (cMo g a mo11) H → va_D A (cMo g a mo11) → va_S A su.heap H locs → lv_has ls 4 [(0, .ref (a 0)), (1, .int y1_10)] → W p l e rX6_add su m args below meth c H locs 0 0 Q (F0 m 142 ls [])) → W p l e rX6_add su m args below meth c H locs 0 0 Q (F0 m 33 ls []) := by
      intro n
      induction n with
      | zero => intro v1_7 v2_8 mo9 y1_10 mo11 H locs ls h hP hD hS hl kx; cases h
      | succ n ih =>
        intro v1_7 v2_8 mo9 y1_10 mo11 H locs ls h hP hD hS hl kx
        rw [fX6_add_L33] at h
        refine lv_iload_n hx hb dX6_add_33 rfl (lv_at hl 2 rfl) ?_
        refine lv_if_eq (tgt := 142) hx hb dX6_add_34 (by decide) (fun c12 => ?_) (fun c12 => ?_)
        · have h := if_t c12 h
          cases some_i h
          exact kx _ _ _ hP hD hS (lv_sub hl [0, 1] rfl)
        · have h := if_f c12 h
          refine lv_aload_n hx hb dX6_add_37 rfl (lv_at hl 0 rfl) ?_
          refine va_get (D := g.1) (ci := 6) (v := .int (Mo_at mo9)) (C := RX6) (T := TX6) (N := 15) hx hb hts hinX6 hown hK hP 0 rfl rfl 8 (by decide) (hts (.fieldLink RX6 130 "BarredRungsModel" "at" "I") (List.mem_of_getElem? (i := 2) rfl)) (fun _ h9 => h9) rfl dX6_add_38 ?_
          refine lv_aload_n hx hb dX6_add_41 rfl (lv_at hl 0 rfl) ?_
          refine va_get (D := g.1) (ci := 6) (v := .int (Mo_length mo9)) (C := RX6) (T := TX6) (N := 15) hx hb hts hinX6 hown hK hP 0 rfl rfl 7 (by decide) (hts (.fieldLink RX6 127 "BarredRungsModel" "length" "I") (List.mem_of_getElem? (i := 3) rfl)) (fun _ h9 => h9) rfl dX6_add_42 ?_
          refine lv_icmp_ge (tgt := 142) hx hb dX6_add_45 (by decide) (fun c13 => ?_) (fun c13 => ?_)
          · have h := if_t c13 h
            cases some_i h
            exact kx _ _ _ hP hD hS (lv_sub hl [0, 1] rfl)
          · have h := if_f c13 h
            refine lv_aload_n hx hb dX6_add_48 rfl (lv_at hl 0 rfl) ?_
            obtain ⟨r14, mo15, kr14, h⟩ := bd2_ex h
            refine aft_w (st1 := [.int r14]) rfl (runV (As := []) (rest := []) ⟨hx, hb, hml, hown, hts⟩ (kX6_readsLetters l g a kr14) (cwV 0 hts gX6_add_X6_readsLetters rfl rfl rfl hdX6_readsLetters ⟨Nat.le_of_ble_eq_true rfl, Nat.le_of_ble_eq_true rfl⟩) hK hN hP hD (va_recv hK hP (ci := 6) (q0 := 0) rfl rfl) rfl hl.1 rfl (Nat.le_of_ble_eq_true rfl) dX6_add_49 ⟨Nat.zero_le _, Nat.zero_le _⟩) hD hS hA (fun H locs hP hD hS => ?_)
            refine lv_if_eq (tgt := 67) hx hb dX6_add_52 (by decide) (fun c16 => ?_) (fun c16 => ?_)
            · have h := if_t c16 h
              refine lv_iconst (v := 0) hx hb dX6_add_67 (by decide) ?_
              refine lv_istore_n (lv' := [(3, .int (0 : Int32)), (0, .ref (a 0)), (1, .int v1_7), (2, .int v2_8)]) hx hb dX6_add_68 rfl hl (by decide) rfl (fun ls hl => ?_)
              refine lv_iload_n hx hb dX6_add_69 rfl (lv_at hl 0 rfl) ?_
              refine lv_if_eq (tgt := 84) hx hb dX6_add_70 (by decide) (fun c17 => ?_) (fun c17 => ?_)
              rotate_left
              · exact absurd c17 (by decide)
              refine lv_iconst (v := 1) hx hb dX6_add_84 (by decide) ?_
              refine lv_goto (tgt := 89) hx hb dX6_add_85 (by decide) ?_
              refine lv_istore_n (lv' := [(2, .int (1 : Int32)), (3, .int (0 : Int32)), (0, .ref (a 0)), (1, .int v1_7)]) hx hb dX6_add_89 rfl hl (by decide) rfl (fun ls hl => ?_)
              refine lv_iload_n hx hb dX6_add_90 rfl (lv_at hl 1 rfl) ?_
              refine lv_if_eq (tgt := 129) hx hb dX6_add_91 (by decide) (fun c18 => ?_) (fun c18 => ?_)
              rotate_left
              · exact absurd c18 (by decide)
              refine lv_aload_n hx hb dX6_add_129 rfl (lv_at hl 2 rfl) ?_
              refine lv_dup hx hb dX6_add_130 rfl ?_
              refine va_get (D := g.1) (ci := 6) (v := .int (Mo_at mo15)) (C := RX6) (T := TX6) (N := 15) hx hb hts hinX6 hown hK hP 0 rfl rfl 8 (by decide) (hts (.fieldLink RX6 130 "BarredRungsModel" "at" "I") (List.mem_of_getElem? (i := 2) rfl)) (fun _ h9 => h9) rfl dX6_add_131 ?_
              refine lv_iconst (v := 1) hx hb dX6_add_134 (by decide) ?_
              refine lv_iadd hx hb dX6_add_135 ?_
              obtain ⟨mo19, emo19, h⟩ := pl_ex h
              refine va_put (D := g.1) (ci := 6) (v := .int ((Mo_at mo15) + (1 : Int32))) (ty := .int) (C := RX6) (T := TX6) (N := 15) hx hb hts hinX6 tyX6 tyX6_ok nmX6 hown hK hP hD hS 0 rfl rfl 8 (by decide) (hts (.fieldLink RX6 130 "BarredRungsModel" "at" "I") (List.mem_of_getElem? (i := 2) rfl)) (fun _ h9 => h9) rfl (by decide +kernel) rfl rfl (Nat.le_of_ble_eq_true rfl) dX6_add_136 (fun H locs hP hD hS => ?_)
              have hP : va_P g.1 vwCl (cMo g a mo19) H := by rw [← emo19]; exact hP
              have hD : va_D A (cMo g a mo19) := by rw [← emo19]; exact hD
              refine lv_goto (tgt := 33) hx hb dX6_add_139 (by decide) ?_
              exact ih v1_7 (1 : Int32) mo19 _ _ _ _ _ h hP hD hS (lv_sub hl [2, 3, 0] rfl) kx
            · have h := if_f c16 h
              refine lv_aload_n hx hb dX6_add_55 rfl (lv_at hl 0 rfl) ?_
              obtain ⟨r20, kr20, h⟩ := bd_ex h
              refine aft_w (st1 := [.int r20]) rfl (runV (As := []) (rest := []) ⟨hx, hb, hml, hown, hts⟩ (kX6_found l g a kr20) (cwV 0 hts gX6_add_X6_found rfl rfl rfl hdX6_found ⟨Nat.le_of_ble_eq_true rfl, Nat.le_of_ble_eq_true rfl⟩) hK hN hP hD (va_recv hK hP (ci := 6) (q0 := 0) rfl rfl) rfl hl.1 rfl (Nat.le_of_ble_eq_true rfl) dX6_add_56 ⟨Nat.zero_le _, Nat.zero_le _⟩) hD hS hA (fun H locs hP hD hS => ?_)
              refine lv_iconst (v := -1) hx hb dX6_add_59 (by decide) ?_
              refine lv_icmp_ne (tgt := 67) hx hb dX6_add_60 (by decide) (fun c21 => ?_) (fun c21 => ?_)
              · have h := if_f c21 h
                refine lv_iconst (v := 0) hx hb dX6_add_67 (by decide) ?_
                refine lv_istore_n (lv' := [(3, .int (0 : Int32)), (0, .ref (a 0)), (1, .int v1_7), (2, .int v2_8)]) hx hb dX6_add_68 rfl hl (by decide) rfl (fun ls hl => ?_)
                refine lv_iload_n hx hb dX6_add_69 rfl (lv_at hl 0 rfl) ?_
                refine lv_if_eq (tgt := 84) hx hb dX6_add_70 (by decide) (fun c22 => ?_) (fun c22 => ?_)
                rotate_left
                · exact absurd c22 (by decide)
                refine lv_iconst (v := 1) hx hb dX6_add_84 (by decide) ?_
                refine lv_goto (tgt := 89) hx hb dX6_add_85 (by decide) ?_
                refine lv_istore_n (lv' := [(2, .int (1 : Int32)), (3, .int (0 : Int32)), (0, .ref (a 0)), (1, .int v1_7)]) hx hb dX6_add_89 rfl hl (by decide) rfl (fun ls hl => ?_)
                refine lv_iload_n hx hb dX6_add_90 rfl (lv_at hl 1 rfl) ?_
                refine lv_if_eq (tgt := 129) hx hb dX6_add_91 (by decide) (fun c23 => ?_) (fun c23 => ?_)
                rotate_left
                · exact absurd c23 (by decide)
                refine lv_aload_n hx hb dX6_add_129 rfl (lv_at hl 2 rfl) ?_
                refine lv_dup hx hb dX6_add_130 rfl ?_
                refine va_get (D := g.1) (ci := 6) (v := .int (Mo_at mo15)) (C := RX6) (T := TX6) (N := 15) hx hb hts hinX6 hown hK hP 0 rfl rfl 8 (by decide) (hts (.fieldLink RX6 130 "BarredRungsModel" "at" "I") (List.mem_of_getElem? (i := 2) rfl)) (fun _ h9 => h9) rfl dX6_add_131 ?_
                refine lv_iconst (v := 1) hx hb dX6_add_134 (by decide) ?_
                refine lv_iadd hx hb dX6_add_135 ?_
                obtain ⟨mo24, emo24, h⟩ := pl_ex h
                refine va_put (D := g.1) (ci := 6) (v := .int ((Mo_at mo15) + (1 : Int32))) (ty := .int) (C := RX6) (T := TX6) (N := 15) hx hb hts hinX6 tyX6 tyX6_ok nmX6 hown hK hP hD hS 0 rfl rfl 8 (by decide) (hts (.fieldLink RX6 130 "BarredRungsModel" "at" "I") (List.mem_of_getElem? (i := 2) rfl)) (fun _ h9 => h9) rfl (by decide +kernel) rfl rfl (Nat.le_of_ble_eq_true rfl) dX6_add_136 (fun H locs hP hD hS => ?_)
                have hP : va_P g.1 vwCl (cMo g a mo24) H := by rw [← emo24]; exact hP
                have hD : va_D A (cMo g a mo24) := by rw [← emo24]; exact hD
                refine lv_goto (tgt := 33) hx hb dX6_add_139 (by decide) ?_
                exact ih v1_7 (1 : Int32) mo24 _ _ _ _ _ h hP hD hS (lv_sub hl [2, 3, 0] rfl) kx
              · have h := if_t c21 h
                refine lv_iconst (v := 1) hx hb dX6_add_63 (by decide) ?_
                refine lv_goto (tgt := 68) hx hb dX6_add_64 (by decide) ?_
                refine lv_istore_n (lv' := [(3, .int (1 : Int32)), (0, .ref (a 0)), (1, .int v1_7), (2, .int v2_8)]) hx hb dX6_add_68 rfl hl (by decide) rfl (fun ls hl => ?_)
                refine lv_iload_n hx hb dX6_add_69 rfl (lv_at hl 0 rfl) ?_
                refine lv_if_eq (tgt := 84) hx hb dX6_add_70 (by decide) (fun c25 => ?_) (fun c25 => ?_)
                · exact absurd c25 (by decide)
                refine lv_aload_n hx hb dX6_add_73 rfl (lv_at hl 1 rfl) ?_
                refine va_get (D := g.1) (ci := 6) (v := .ref (a 1)) (C := RX6) (T := TX6) (N := 15) hx hb hts hinX6 hown hK hP 0 rfl rfl 1 (by decide) (hts (.fieldLink RX6 7 "BarredRungsModel" "state" "[I") (List.mem_of_getElem? (i := 4) rfl)) (fun _ h9 => h9) rfl dX6_add_74 ?_
                refine lv_iconst (v := 0) hx hb dX6_add_77 (by decide) ?_
                obtain ⟨hi9, h⟩ := ck_ex h
                refine va_iald hx hb hK hP 1 0 rfl rfl (inb_in hi9) dX6_add_78 ?_
                refine lv_bipush (v := 24) hx hb dX6_add_79 (by decide) ?_
                refine lv_icmp_ge (tgt := 88) hx hb dX6_add_81 (by decide) (fun c26 => ?_) (fun c26 => ?_)
                · have h := if_t c26 h
                  refine lv_iconst (v := 0) hx hb dX6_add_88 (by decide) ?_
                  refine lv_istore_n (lv' := [(2, .int (0 : Int32)), (3, .int (1 : Int32)), (0, .ref (a 0)), (1, .int v1_7)]) hx hb dX6_add_89 rfl hl (by decide) rfl (fun ls hl => ?_)
                  refine lv_iload_n hx hb dX6_add_90 rfl (lv_at hl 1 rfl) ?_
                  refine lv_if_eq (tgt := 129) hx hb dX6_add_91 (by decide) (fun c27 => ?_) (fun c27 => ?_)
                  · exact absurd c27 (by decide)
                  refine lv_iload_n hx hb dX6_add_94 rfl (lv_at hl 0 rfl) ?_
                  refine lv_if_eq (tgt := 129) hx hb dX6_add_95 (by decide) (fun c28 => ?_) (fun c28 => ?_)
                  rotate_left
                  · exact absurd c28 (by decide)
                  refine lv_aload_n hx hb dX6_add_129 rfl (lv_at hl 2 rfl) ?_
                  refine lv_dup hx hb dX6_add_130 rfl ?_
                  refine va_get (D := g.1) (ci := 6) (v := .int (Mo_at mo15)) (C := RX6) (T := TX6) (N := 15) hx hb hts hinX6 hown hK hP 0 rfl rfl 8 (by decide) (hts (.fieldLink RX6 130 "BarredRungsModel" "at" "I") (List.mem_of_getElem? (i := 2) rfl)) (fun _ h9 => h9) rfl dX6_add_131 ?_
                  refine lv_iconst (v := 1) hx hb dX6_add_134 (by decide) ?_
                  refine lv_iadd hx hb dX6_add_135 ?_
                  obtain ⟨mo29, emo29, h⟩ := pl_ex h
                  refine va_put (D := g.1) (ci := 6) (v := .int ((Mo_at mo15) + (1 : Int32))) (ty := .int) (C := RX6) (T := TX6) (N := 15) hx hb hts hinX6 tyX6 tyX6_ok nmX6 hown hK hP hD hS 0 rfl rfl 8 (by decide) (hts (.fieldLink RX6 130 "BarredRungsModel" "at" "I") (List.mem_of_getElem? (i := 2) rfl)) (fun _ h9 => h9) rfl (by decide +kernel) rfl rfl (Nat.le_of_ble_eq_true rfl) dX6_add_136 (fun H locs hP hD hS => ?_)
                  have hP : va_P g.1 vwCl (cMo g a mo29) H := by rw [← emo29]; exact hP
                  have hD : va_D A (cMo g a mo29) := by rw [← emo29]; exact hD
                  refine lv_goto (tgt := 33) hx hb dX6_add_139 (by decide) ?_
                  exact ih v1_7 (0 : Int32) mo29 _ _ _ _ _ h hP hD hS (lv_sub hl [2, 3, 0] rfl) kx
                · have h := if_f c26 h
                  refine lv_iconst (v := 1) hx hb dX6_add_84 (by decide) ?_
                  refine lv_goto (tgt := 89) hx hb dX6_add_85 (by decide) ?_
                  refine lv_istore_n (lv' := [(2, .int (1 : Int32)), (3, .int (1 : Int32)), (0, .ref (a 0)), (1, .int v1_7)]) hx hb dX6_add_89 rfl hl (by decide) rfl (fun ls hl => ?_)
                  refine lv_iload_n hx hb dX6_add_90 rfl (lv_at hl 1 rfl) ?_
                  refine lv_if_eq (tgt := 129) hx hb dX6_add_91 (by decide) (fun c30 => ?_) (fun c30 => ?_)
                  · exact absurd c30 (by decide)
                  refine lv_iload_n hx hb dX6_add_94 rfl (lv_at hl 0 rfl) ?_
                  refine lv_if_eq (tgt := 129) hx hb dX6_add_95 (by decide) (fun c31 => ?_) (fun c31 => ?_)
                  · exact absurd c31 (by decide)
                  refine lv_aload_n hx hb dX6_add_98 rfl (lv_at hl 2 rfl) ?_
                  refine va_get (D := g.1) (ci := 6) (v := .ref (a 1)) (C := RX6) (T := TX6) (N := 15) hx hb hts hinX6 hown hK hP 0 rfl rfl 1 (by decide) (hts (.fieldLink RX6 7 "BarredRungsModel" "state" "[I") (List.mem_of_getElem? (i := 4) rfl)) (fun _ h9 => h9) rfl dX6_add_99 ?_
                  refine lv_bipush (v := 31) hx hb dX6_add_102 (by decide) ?_
                  refine lv_aload_n hx hb dX6_add_104 rfl (lv_at hl 2 rfl) ?_
                  refine va_get (D := g.1) (ci := 6) (v := .ref (a 1)) (C := RX6) (T := TX6) (N := 15) hx hb hts hinX6 hown hK hP 0 rfl rfl 1 (by decide) (hts (.fieldLink RX6 7 "BarredRungsModel" "state" "[I") (List.mem_of_getElem? (i := 4) rfl)) (fun _ h9 => h9) rfl dX6_add_105 ?_
                  refine lv_iconst (v := 0) hx hb dX6_add_108 (by decide) ?_
                  obtain ⟨hi9, h⟩ := ck_ex h
                  refine va_iald hx hb hK hP 1 0 rfl rfl (inb_in hi9) dX6_add_109 ?_
                  refine lv_iadd hx hb dX6_add_110 ?_
                  refine lv_aload_n hx hb dX6_add_111 rfl (lv_at hl 2 rfl) ?_
                  refine va_get (D := g.1) (ci := 6) (v := .int (Mo_readWord mo15)) (C := RX6) (T := TX6) (N := 15) hx hb hts hinX6 hown hK hP 0 rfl rfl 10 (by decide) (hts (.fieldLink RX6 133 "BarredRungsModel" "readWord" "I") (List.mem_of_getElem? (i := 5) rfl)) (fun _ h9 => h9) rfl dX6_add_112 ?_
                  obtain ⟨hi9, h⟩ := ck_ex h
                  obtain ⟨mo32, emo32, h⟩ := pl_ex h
                  refine va_iast hx hb hK hP hD hS 1 0 rfl rfl (inb_in hi9) dX6_add_115 (fun H locs hP hD hS => ?_)
                  have hP : va_P g.1 vwCl (cMo g a mo32) H := by rw [← emo32]; exact hP
                  have hD : va_D A (cMo g a mo32) := by rw [← emo32]; exact hD
                  refine lv_aload_n hx hb dX6_add_116 rfl (lv_at hl 2 rfl) ?_
                  refine va_get (D := g.1) (ci := 6) (v := .ref (a 1)) (C := RX6) (T := TX6) (N := 15) hx hb hts hinX6 hown hK hP 0 rfl rfl 1 (by decide) (hts (.fieldLink RX6 7 "BarredRungsModel" "state" "[I") (List.mem_of_getElem? (i := 4) rfl)) (fun _ h9 => h9) rfl dX6_add_117 ?_
                  refine lv_iconst (v := 0) hx hb dX6_add_120 (by decide) ?_
                  refine lv_dup2_11 hx hb dX6_add_121 rfl rfl ?_
                  obtain ⟨hi9, h⟩ := ck_ex h
                  refine va_iald hx hb hK hP 1 0 rfl rfl (inb_in hi9) dX6_add_122 ?_
                  refine lv_iconst (v := 1) hx hb dX6_add_123 (by decide) ?_
                  refine lv_iadd hx hb dX6_add_124 ?_
                  obtain ⟨hi9, h⟩ := ck_ex h
                  obtain ⟨mo33, emo33, h⟩ := pl_ex h
                  refine va_iast hx hb hK hP hD hS 1 0 rfl rfl (inb_in hi9) dX6_add_125 (fun H locs hP hD hS => ?_)
                  have hP : va_P g.1 vwCl (cMo g a mo33) H := by rw [← emo33]; exact hP
                  have hD : va_D A (cMo g a mo33) := by rw [← emo33]; exact hD
                  obtain ⟨x34, ex34, h⟩ := pl_ex h
                  refine lv_iinc (v := x34) (lv' := [(1, .int x34), (2, .int (1 : Int32)), (3, .int (1 : Int32)), (0, .ref (a 0))]) hx hb dX6_add_126 hl (k := 3) rfl (by rw [← ex34]; rfl) (by decide) rfl (fun ls hl => ?_)
                  refine lv_aload_n hx hb dX6_add_129 rfl (lv_at hl 3 rfl) ?_
                  refine lv_dup hx hb dX6_add_130 rfl ?_
                  refine va_get (D := g.1) (ci := 6) (v := .int (Mo_at mo33)) (C := RX6) (T := TX6) (N := 15) hx hb hts hinX6 hown hK hP 0 rfl rfl 8 (by decide) (hts (.fieldLink RX6 130 "BarredRungsModel" "at" "I") (List.mem_of_getElem? (i := 2) rfl)) (fun _ h9 => h9) rfl dX6_add_131 ?_
                  refine lv_iconst (v := 1) hx hb dX6_add_134 (by decide) ?_
                  refine lv_iadd hx hb dX6_add_135 ?_
                  obtain ⟨mo35, emo35, h⟩ := pl_ex h
                  refine va_put (D := g.1) (ci := 6) (v := .int ((Mo_at mo33) + (1 : Int32))) (ty := .int) (C := RX6) (T := TX6) (N := 15) hx hb hts hinX6 tyX6 tyX6_ok nmX6 hown hK hP hD hS 0 rfl rfl 8 (by decide) (hts (.fieldLink RX6 130 "BarredRungsModel" "at" "I") (List.mem_of_getElem? (i := 2) rfl)) (fun _ h9 => h9) rfl (by decide +kernel) rfl rfl (Nat.le_of_ble_eq_true rfl) dX6_add_136 (fun H locs hP hD hS => ?_)
                  have hP : va_P g.1 vwCl (cMo g a mo35) H := by rw [← emo35]; exact hP
                  have hD : va_D A (cMo g a mo35) := by rw [← emo35]; exact hD
                  refine lv_goto (tgt := 33) hx hb dX6_add_139 (by decide) ?_
                  exact ih x34 (1 : Int32) mo35 _ _ _ _ _ h hP hD hS (lv_sub hl [3, 0, 1] rfl) kx
    obtain ⟨v1_36, mo37, kv1_36, h⟩ := bd2_ex h
    refine L33 1000 (0 : Int32) (1 : Int32) mo6 v1_36 mo37 _ _ _ kv1_36 hP hD hS (lv_sub hl [2, 1, 0] rfl) (fun H locs ls hP hD hS hl => ?_)
    refine lv_aload_n hx hb dX6_add_142 rfl (lv_at hl 0 rfl) ?_
    refine lv_iconst (v := 0) hx hb dX6_add_143 (by decide) ?_
    obtain ⟨mo38, emo38, h⟩ := pl_ex h
    refine va_put (D := g.1) (ci := 6) (v := .int (0 : Int32)) (ty := .int) (C := RX6) (T := TX6) (N := 15) hx hb hts hinX6 tyX6 tyX6_ok nmX6 hown hK hP hD hS 0 rfl rfl 7 (by decide) (hts (.fieldLink RX6 127 "BarredRungsModel" "length" "I") (List.mem_of_getElem? (i := 3) rfl)) (fun _ h9 => h9) rfl (by decide +kernel) rfl rfl (Nat.le_of_ble_eq_true rfl) dX6_add_144 (fun H locs hP hD hS => ?_)
    have hP : va_P g.1 vwCl (cMo g a mo38) H := by rw [← emo38]; exact hP
    have hD : va_D A (cMo g a mo38) := by rw [← emo38]; exact hD
    refine lv_iload_n hx hb dX6_add_147 rfl (lv_at hl 1 rfl) ?_
    cases some_i h
    exact hend _ _ _ _ _ hP hD hS (RetOK.i dX6_add_148)
  · have h := if_f c4 h
    refine lv_aload_n hx hb dX6_add_14 rfl (lv_at hl 0 rfl) ?_
    refine lv_iconst (v := 1) hx hb dX6_add_15 (by decide) ?_
    obtain ⟨r39, mo40, kr39, h⟩ := bd2_ex h
    refine aft_w (st1 := [.int r39]) rfl (runV (As := [.int (1 : Int32)]) (rest := []) ⟨hx, hb, hml, hown, hts⟩ (kX6_fails l g a kr39) (cwV 1 hts gX6_add_X6_fails rfl rfl rfl hdX6_fails ⟨Nat.le_of_ble_eq_true rfl, Nat.le_of_ble_eq_true rfl⟩) hK hN hP hD (va_recv hK hP (ci := 6) (q0 := 0) rfl rfl) rfl hl.1 rfl (Nat.le_of_ble_eq_true rfl) dX6_add_16 ⟨Nat.zero_le _, Nat.zero_le _⟩) hD hS hA (fun H locs hP hD hS => ?_)
    cases some_i h
    exact hend _ _ _ _ _ hP hD hS (RetOK.i dX6_add_19)
def fX6_append (mo : Mo) (p1 : Int32) : Option (Int32 × Mo) :=
(pl (Mo_set_thrown mo (0 : Int32)) fun (mo1 : Mo) =>
(bd (fX6_within p1 (33 : Int32) (126 : Int32)) fun (r2 : Int32) =>
(if r2 = (0 : Int32) then
(bd2 (fX6_fails mo1 (1 : Int32)) fun (r9 : Int32) (mo10 : Mo) =>
(some (r9, mo10)))
else
(if (Mo_length mo1) = (60 : Int32) then
(bd2 (fX6_fails mo1 (2 : Int32)) fun (r7 : Int32) (mo8 : Mo) =>
(some (r7, mo8)))
else
(ck (inb (Mo_length mo1) 60)
(pl (Mo_set_buffer mo1 (upd (Mo_buffer mo1) (Mo_length mo1).toNatClampNeg p1)) fun (mo5 : Mo) =>
(pl (Mo_set_length mo5 ((Mo_length mo5) + (1 : Int32))) fun (mo6 : Mo) =>
(some ((Mo_length mo6), mo6)))))))))
abbrev rX6_append : Room := { frames := 1, cells := 0, slots := 0, locals := 22 }
theorem hdX6_append : yX6_append.cls = RX6 ∧ yX6_append.cls ≠ "java/lang/invoke/MethodHandle" ∧ yX6_append.cls ≠ "java/lang/invoke/VarHandle" ∧ (parseMethodDescriptor yX6_append.desc).map (fun d => d.parameters.length) = some 1 := by decide +kernel
set_option maxRecDepth 100000 in
set_option maxHeartbeats 8000000 in
theorem kX6_append (l : Launch) (g : GG) (a : Nat → Nat) {mo : Mo} {p1 : Int32} {res : Int32} {mo' : Mo} (h : fX6_append mo p1 = some (res, mo')) : Cg l g yX6_append wsX6_append rX6_append [.ref (a 0), .int p1] (cMo g a mo) (some (.int res)) (cMo g a mo') := by
  refine Cg_of (cc := cX6_append) (maxL := 2) (ret := (some .int)) (by decide +kernel) rfl (Nat.le_of_ble_eq_true rfl) ?_
  intro p e su m args below meth c A Q ls hx hb hml hown hts hK hN hA hnm hP hD hS hl hend
  have hinX6 : ∀ w ∈ u_ws RX6 TX6 15, w ∈ wsX6_append := fun _ h9 => List.mem_cons_of_mem _ (List.mem_append_right _ h9)
  unfold fX6_append at h
  have hl : lv_has ls 2 [(0, .ref (a 0)), (1, .int p1)] := hl
  refine lv_aload_n hx hb dX6_append_0 rfl (lv_at hl 0 rfl) ?_
  refine lv_iconst (v := 0) hx hb dX6_append_1 (by decide) ?_
  obtain ⟨mo1, emo1, h⟩ := pl_ex h
  refine va_put (D := g.1) (ci := 6) (v := .int (0 : Int32)) (ty := .int) (C := RX6) (T := TX6) (N := 15) hx hb hts hinX6 tyX6 tyX6_ok nmX6 hown hK hP hD hS 0 rfl rfl 0 (by decide) (hts (.fieldLink RX6 29 "BarredRungsModel" "thrown" "I") (List.mem_of_getElem? (i := 1) rfl)) (fun _ h9 => h9) rfl (by decide +kernel) rfl rfl (Nat.le_of_ble_eq_true rfl) dX6_append_2 (fun H locs hP hD hS => ?_)
  have hP : va_P g.1 vwCl (cMo g a mo1) H := by rw [← emo1]; exact hP
  have hD : va_D A (cMo g a mo1) := by rw [← emo1]; exact hD
  refine lv_iload_n hx hb dX6_append_5 rfl (lv_at hl 1 rfl) ?_
  refine lv_bipush (v := 33) hx hb dX6_append_6 (by decide) ?_
  refine lv_bipush (v := 126) hx hb dX6_append_8 (by decide) ?_
  obtain ⟨r2, kr2, h⟩ := bd_ex h
  refine aft_e (st1 := [.int r2]) rfl (runS (As := [.int p1, .int (33 : Int32), .int (126 : Int32)]) (rest := []) ⟨hx, hb, hml, hown, hts⟩ (kX6_within l g kr2) (va_cwS 3 hts gX6_append_X6_within rfl rfl rfl hdX6_within.2 ⟨Nat.le_of_ble_eq_true rfl, Nat.le_of_ble_eq_true rfl⟩) hK hN nilP (nilD (A := A)) rfl hl.1 rfl (Nat.le_of_ble_eq_true rfl) dX6_append_10 ⟨Nat.zero_le _, Nat.zero_le _⟩) hP hS hA (fun H locs hP hS => ?_)
  refine lv_if_ne (tgt := 22) hx hb dX6_append_13 (by decide) (fun c3 => ?_) (fun c3 => ?_)
  · have h := if_f c3 h
    refine lv_aload_n hx hb dX6_append_22 rfl (lv_at hl 0 rfl) ?_
    refine va_get (D := g.1) (ci := 6) (v := .int (Mo_length mo1)) (C := RX6) (T := TX6) (N := 15) hx hb hts hinX6 hown hK hP 0 rfl rfl 7 (by decide) (hts (.fieldLink RX6 127 "BarredRungsModel" "length" "I") (List.mem_of_getElem? (i := 2) rfl)) (fun _ h9 => h9) rfl dX6_append_23 ?_
    refine lv_bipush (v := 60) hx hb dX6_append_26 (by decide) ?_
    refine lv_icmp_ne (tgt := 37) hx hb dX6_append_28 (by decide) (fun c4 => ?_) (fun c4 => ?_)
    · have h := if_f c4 h
      refine lv_aload_n hx hb dX6_append_37 rfl (lv_at hl 0 rfl) ?_
      refine va_get (D := g.1) (ci := 6) (v := .ref (a 4)) (C := RX6) (T := TX6) (N := 15) hx hb hts hinX6 hown hK hP 0 rfl rfl 6 (by decide) (hts (.fieldLink RX6 19 "BarredRungsModel" "buffer" "[I") (List.mem_of_getElem? (i := 3) rfl)) (fun _ h9 => h9) rfl dX6_append_38 ?_
      refine lv_aload_n hx hb dX6_append_41 rfl (lv_at hl 0 rfl) ?_
      refine va_get (D := g.1) (ci := 6) (v := .int (Mo_length mo1)) (C := RX6) (T := TX6) (N := 15) hx hb hts hinX6 hown hK hP 0 rfl rfl 7 (by decide) (hts (.fieldLink RX6 127 "BarredRungsModel" "length" "I") (List.mem_of_getElem? (i := 2) rfl)) (fun _ h9 => h9) rfl dX6_append_42 ?_
      refine lv_iload_n hx hb dX6_append_45 rfl (lv_at hl 1 rfl) ?_
      obtain ⟨hi9, h⟩ := ck_ex h
      obtain ⟨mo5, emo5, h⟩ := pl_ex h
      refine va_iast hx hb hK hP hD hS 4 0 rfl rfl (inb_in hi9) dX6_append_46 (fun H locs hP hD hS => ?_)
      have hP : va_P g.1 vwCl (cMo g a mo5) H := by rw [← emo5]; exact hP
      have hD : va_D A (cMo g a mo5) := by rw [← emo5]; exact hD
      refine lv_aload_n hx hb dX6_append_47 rfl (lv_at hl 0 rfl) ?_
      refine lv_dup hx hb dX6_append_48 rfl ?_
      refine va_get (D := g.1) (ci := 6) (v := .int (Mo_length mo5)) (C := RX6) (T := TX6) (N := 15) hx hb hts hinX6 hown hK hP 0 rfl rfl 7 (by decide) (hts (.fieldLink RX6 127 "BarredRungsModel" "length" "I") (List.mem_of_getElem? (i := 2) rfl)) (fun _ h9 => h9) rfl dX6_append_49 ?_
      refine lv_iconst (v := 1) hx hb dX6_append_52 (by decide) ?_
      refine lv_iadd hx hb dX6_append_53 ?_
      obtain ⟨mo6, emo6, h⟩ := pl_ex h
      refine va_put (D := g.1) (ci := 6) (v := .int ((Mo_length mo5) + (1 : Int32))) (ty := .int) (C := RX6) (T := TX6) (N := 15) hx hb hts hinX6 tyX6 tyX6_ok nmX6 hown hK hP hD hS 0 rfl rfl 7 (by decide) (hts (.fieldLink RX6 127 "BarredRungsModel" "length" "I") (List.mem_of_getElem? (i := 2) rfl)) (fun _ h9 => h9) rfl (by decide +kernel) rfl rfl (Nat.le_of_ble_eq_true rfl) dX6_append_54 (fun H locs hP hD hS => ?_)
      have hP : va_P g.1 vwCl (cMo g a mo6) H := by rw [← emo6]; exact hP
      have hD : va_D A (cMo g a mo6) := by rw [← emo6]; exact hD
      refine lv_aload_n hx hb dX6_append_57 rfl (lv_at hl 0 rfl) ?_
      refine va_get (D := g.1) (ci := 6) (v := .int (Mo_length mo6)) (C := RX6) (T := TX6) (N := 15) hx hb hts hinX6 hown hK hP 0 rfl rfl 7 (by decide) (hts (.fieldLink RX6 127 "BarredRungsModel" "length" "I") (List.mem_of_getElem? (i := 2) rfl)) (fun _ h9 => h9) rfl dX6_append_58 ?_
      cases some_i h
      exact hend _ _ _ _ _ hP hD hS (RetOK.i dX6_append_61)
    · have h := if_t c4 h
      refine lv_aload_n hx hb dX6_append_31 rfl (lv_at hl 0 rfl) ?_
      refine lv_iconst (v := 2) hx hb dX6_append_32 (by decide) ?_
      obtain ⟨r7, mo8, kr7, h⟩ := bd2_ex h
      refine aft_w (st1 := [.int r7]) rfl (runV (As := [.int (2 : Int32)]) (rest := []) ⟨hx, hb, hml, hown, hts⟩ (kX6_fails l g a kr7) (cwV 1 hts gX6_append_X6_fails rfl rfl rfl hdX6_fails ⟨Nat.le_of_ble_eq_true rfl, Nat.le_of_ble_eq_true rfl⟩) hK hN hP hD (va_recv hK hP (ci := 6) (q0 := 0) rfl rfl) rfl hl.1 rfl (Nat.le_of_ble_eq_true rfl) dX6_append_33 ⟨Nat.zero_le _, Nat.zero_le _⟩) hD hS hA (fun H locs hP hD hS => ?_)
      cases some_i h
      exact hend _ _ _ _ _ hP hD hS (RetOK.i dX6_append_36)
  · have h := if_t c3 h
    refine lv_aload_n hx hb dX6_append_16 rfl (lv_at hl 0 rfl) ?_
    refine lv_iconst (v := 1) hx hb dX6_append_17 (by decide) ?_
    obtain ⟨r9, mo10, kr9, h⟩ := bd2_ex h
    refine aft_w (st1 := [.int r9]) rfl (runV (As := [.int (1 : Int32)]) (rest := []) ⟨hx, hb, hml, hown, hts⟩ (kX6_fails l g a kr9) (cwV 1 hts gX6_append_X6_fails rfl rfl rfl hdX6_fails ⟨Nat.le_of_ble_eq_true rfl, Nat.le_of_ble_eq_true rfl⟩) hK hN hP hD (va_recv hK hP (ci := 6) (q0 := 0) rfl rfl) rfl hl.1 rfl (Nat.le_of_ble_eq_true rfl) dX6_append_18 ⟨Nat.zero_le _, Nat.zero_le _⟩) hD hS hA (fun H locs hP hD hS => ?_)
    cases some_i h
    exact hend _ _ _ _ _ hP hD hS (RetOK.i dX6_append_21)
def fX6_letterAt (p0 : Int32) (p1 : Int32) : Option (Int32) :=
(some ((p0 >>> (((3 : Int32) * ((3 : Int32) - p1)) &&& 31)) &&& (7 : Int32)))
abbrev rX6_letterAt : Room := { frames := 0, cells := 0, slots := 0, locals := 0 }
theorem hdX6_letterAt : yX6_letterAt.cls = RX6 ∧ yX6_letterAt.cls ≠ "java/lang/invoke/MethodHandle" ∧ yX6_letterAt.cls ≠ "java/lang/invoke/VarHandle" ∧ (parseMethodDescriptor yX6_letterAt.desc).map (fun d => d.parameters.length) = some 2 := by decide +kernel
set_option maxRecDepth 100000 in
set_option maxHeartbeats 8000000 in
theorem kX6_letterAt (l : Launch) (g : GG) {p0 : Int32} {p1 : Int32} {res : Int32} (h : fX6_letterAt p0 p1 = some res) : Cg l g yX6_letterAt wsX6_letterAt rX6_letterAt [.int p0, .int p1] [] (some (.int res)) [] := by
  refine Cg_of (cc := cX6_letterAt) (maxL := 2) (ret := (some .int)) (by decide +kernel) rfl (Nat.le_of_ble_eq_true rfl) ?_
  intro p e su m args below meth c A Q ls hx hb hml hown hts hK hN hA hnm hP hD hS hl hend
  unfold fX6_letterAt at h
  have hl : lv_has ls 2 [(0, .int p0), (1, .int p1)] := hl
  refine lv_iload_n hx hb dX6_letterAt_0 rfl (lv_at hl 0 rfl) ?_
  refine lv_iconst (v := 3) hx hb dX6_letterAt_1 (by decide) ?_
  refine lv_iconst (v := 3) hx hb dX6_letterAt_2 (by decide) ?_
  refine lv_iload_n hx hb dX6_letterAt_3 rfl (lv_at hl 1 rfl) ?_
  refine lv_isub hx hb dX6_letterAt_4 ?_
  refine lv_imul hx hb dX6_letterAt_5 ?_
  refine lv_ishr hx hb dX6_letterAt_6 ?_
  refine lv_bipush (v := 7) hx hb dX6_letterAt_7 (by decide) ?_
  refine lv_iand hx hb dX6_letterAt_9 ?_
  cases some_i h
  exact hend _ _ _ _ _ hP hD hS (RetOK.i dX6_letterAt_10)
def fX6_letterOf (mo : Mo) (p1 : Int32) (p2 : Int32) : Option (Int32) :=
(ck (inb ((31 : Int32) + p1) 55)
(bd (fX6_letterAt (Mo_state mo ((31 : Int32) + p1).toNatClampNeg) p2) fun (r1 : Int32) =>
(some r1)))
abbrev rX6_letterOf : Room := { frames := 1, cells := 0, slots := 0, locals := 21 }
theorem hdX6_letterOf : yX6_letterOf.cls = RX6 ∧ yX6_letterOf.cls ≠ "java/lang/invoke/MethodHandle" ∧ yX6_letterOf.cls ≠ "java/lang/invoke/VarHandle" ∧ (parseMethodDescriptor yX6_letterOf.desc).map (fun d => d.parameters.length) = some 2 := by decide +kernel
set_option maxRecDepth 100000 in
set_option maxHeartbeats 8000000 in
theorem kX6_letterOf (l : Launch) (g : GG) (a : Nat → Nat) {mo : Mo} {p1 : Int32} {p2 : Int32} {res : Int32} (h : fX6_letterOf mo p1 p2 = some res) : Cg l g yX6_letterOf wsX6_letterOf rX6_letterOf [.ref (a 0), .int p1, .int p2] (cMo g a mo) (some (.int res)) (cMo g a mo) := by
  refine Cg_of (cc := cX6_letterOf) (maxL := 3) (ret := (some .int)) (by decide +kernel) rfl (Nat.le_of_ble_eq_true rfl) ?_
  intro p e su m args below meth c A Q ls hx hb hml hown hts hK hN hA hnm hP hD hS hl hend
  have hinX6 : ∀ w ∈ u_ws RX6 TX6 15, w ∈ wsX6_letterOf := fun _ h9 => List.mem_cons_of_mem _ (List.mem_append_right _ h9)
  unfold fX6_letterOf at h
  have hl : lv_has ls 3 [(0, .ref (a 0)), (1, .int p1), (2, .int p2)] := hl
  refine lv_aload_n hx hb dX6_letterOf_0 rfl (lv_at hl 0 rfl) ?_
  refine va_get (D := g.1) (ci := 6) (v := .ref (a 1)) (C := RX6) (T := TX6) (N := 15) hx hb hts hinX6 hown hK hP 0 rfl rfl 1 (by decide) (hts (.fieldLink RX6 7 "BarredRungsModel" "state" "[I") (List.mem_of_getElem? (i := 1) rfl)) (fun _ h9 => h9) rfl dX6_letterOf_1 ?_
  refine lv_bipush (v := 31) hx hb dX6_letterOf_4 (by decide) ?_
  refine lv_iload_n hx hb dX6_letterOf_6 rfl (lv_at hl 1 rfl) ?_
  refine lv_iadd hx hb dX6_letterOf_7 ?_
  obtain ⟨hi9, h⟩ := ck_ex h
  refine va_iald hx hb hK hP 1 0 rfl rfl (inb_in hi9) dX6_letterOf_8 ?_
  refine lv_iload_n hx hb dX6_letterOf_9 rfl (lv_at hl 2 rfl) ?_
  obtain ⟨r1, kr1, h⟩ := bd_ex h
  refine aft_e (st1 := [.int r1]) rfl (runS (As := [.int (Mo_state mo ((31 : Int32) + p1).toNatClampNeg), .int p2]) (rest := []) ⟨hx, hb, hml, hown, hts⟩ (kX6_letterAt l g kr1) (va_cwS 2 hts gX6_letterOf_X6_letterAt rfl rfl rfl hdX6_letterAt.2 ⟨Nat.le_of_ble_eq_true rfl, Nat.le_of_ble_eq_true rfl⟩) hK hN nilP (nilD (A := A)) rfl hl.1 rfl (Nat.le_of_ble_eq_true rfl) dX6_letterOf_10 ⟨Nat.zero_le _, Nat.zero_le _⟩) hP hS hA (fun H locs hP hS => ?_)
  cases some_i h
  exact hend _ _ _ _ _ hP hD hS (RetOK.i dX6_letterOf_13)
def fX6_areLinked_L8 (mo : Mo) (p1 : Int32) (p2 : Int32) : Nat → Int32 → Int32 → Int32 → Option (Int32 × Int32)
  | 0, _, _, _ => none
  | n + 1, v3_1, v4_2, v5_3 =>
    (if (4 : Int32) ≤ v5_3 then
    (some (v3_1, v4_2))
    else
    (bd (fX6_letterOf mo p1 v5_3) fun (r7 : Int32) =>
    (bd (fX6_letterOf mo p2 v5_3) fun (r8 : Int32) =>
    (pl ((r7 - r8)) fun (x9 : Int32) =>
    (if x9 = (0 : Int32) then
    (pl ((v3_1 + (0 : Int32))) fun (x11 : Int32) =>
    (if (0 : Int32) ≤ x9 then
    (pl ((v4_2 + x9)) fun (x13 : Int32) =>
    (pl ((v5_3 + (1 : Int32))) fun (x14 : Int32) =>
    (fX6_areLinked_L8 mo p1 p2 n x11 x13 x14)))
    else
    (pl ((v4_2 + (-x9))) fun (x15 : Int32) =>
    (pl ((v5_3 + (1 : Int32))) fun (x16 : Int32) =>
    (fX6_areLinked_L8 mo p1 p2 n x11 x15 x16)))))
    else
    (pl ((v3_1 + (1 : Int32))) fun (x17 : Int32) =>
    (if (0 : Int32) ≤ x9 then
    (pl ((v4_2 + x9)) fun (x19 : Int32) =>
    (pl ((v5_3 + (1 : Int32))) fun (x20 : Int32) =>
    (fX6_areLinked_L8 mo p1 p2 n x17 x19 x20)))
    else
    (pl ((v4_2 + (-x9))) fun (x21 : Int32) =>
    (pl ((v5_3 + (1 : Int32))) fun (x22 : Int32) =>
    (fX6_areLinked_L8 mo p1 p2 n x17 x21 x22))))))))))
def fX6_areLinked (mo : Mo) (p1 : Int32) (p2 : Int32) : Option (Int32) :=
(bd2 (fX6_areLinked_L8 mo p1 p2 1000 (0 : Int32) (0 : Int32) (0 : Int32)) fun (v3_23 : Int32) (v4_24 : Int32) =>
(if v3_23 = (1 : Int32) then
(ck (inb (4 : Int32) 55)
(if (Mo_state mo (4 : Int32).toNatClampNeg) < v4_24 then
(some (0 : Int32))
else
(some (1 : Int32))))
else
(some (0 : Int32))))
abbrev rX6_areLinked : Room := { frames := 2, cells := 0, slots := 0, locals := 43 }
theorem hdX6_areLinked : yX6_areLinked.cls = RX6 ∧ yX6_areLinked.cls ≠ "java/lang/invoke/MethodHandle" ∧ yX6_areLinked.cls ≠ "java/lang/invoke/VarHandle" ∧ (parseMethodDescriptor yX6_areLinked.desc).map (fun d => d.parameters.length) = some 2 := by decide +kernel
set_option maxRecDepth 100000 in
set_option maxHeartbeats 8000000 in
theorem kX6_areLinked (l : Launch) (g : GG) (a : Nat → Nat) {mo : Mo} {p1 : Int32} {p2 : Int32} {res : Int32} (h : fX6_areLinked mo p1 p2 = some res) : Cg l g yX6_areLinked wsX6_areLinked rX6_areLinked [.ref (a 0), .int p1, .int p2] (cMo g a mo) (some (.int res)) (cMo g a mo) := by
  refine Cg_of (cc := cX6_areLinked) (maxL := 7) (ret := (some .boolean)) (by decide +kernel) rfl (Nat.le_of_ble_eq_true rfl) ?_
  intro p e su m args below meth c A Q ls hx hb hml hown hts hK hN hA hnm hP hD hS hl hend
  have hinX6 : ∀ w ∈ u_ws RX6 TX6 15, w ∈ wsX6_areLinked := fun _ h9 => List.mem_cons_of_mem _ (List.mem_append_right _ h9)
  unfold fX6_areLinked at h
  have hl : lv_has ls 7 [(0, .ref (a 0)), (1, .int p1), (2, .int p2)] := hl
  refine lv_iconst (v := 0) hx hb dX6_areLinked_0 (by decide) ?_
  refine lv_istore_n (lv' := [(3, .int (0 : Int32)), (0, .ref (a 0)), (1, .int p1), (2, .int p2)]) hx hb dX6_areLinked_1 rfl hl (by decide) rfl (fun ls hl => ?_)
  refine lv_iconst (v := 0) hx hb dX6_areLinked_2 (by decide) ?_
  refine lv_istore (lv' := [(4, .int (0 : Int32)), (3, .int (0 : Int32)), (0, .ref (a 0)), (1, .int p1), (2, .int p2)]) hx hb dX6_areLinked_3 hl (by decide) rfl (fun ls hl => ?_)
  refine lv_iconst (v := 0) hx hb dX6_areLinked_5 (by decide) ?_
  refine lv_istore (lv' := [(5, .int (0 : Int32)), (4, .int (0 : Int32)), (3, .int (0 : Int32)), (0, .ref (a 0)), (1, .int p1), (2, .int p2)]) hx hb dX6_areLinked_6 hl (by decide) rfl (fun ls hl => ?_)
  have L8 : ∀ (n : Nat) (v3_1 : Int32) (v4_2 : Int32) (v5_3 : Int32) (y3_4 : Int32) (y4_5 : Int32) (H : Heap) (locs : List Loc) (ls : Array Slot), fX6_areLinked_L8 mo p1 p2 n v3_1 v4_2 v5_3 = some (y3_4, y4_5) → va_P g.1 vwCl (cMo g a mo) H → va_D A (cMo g a mo) → va_S A su.heap H locs → lv_has ls 7 [(0, .ref (a 0)), (1, .int p1), (2, .int p2), (3, .int v3_1), (4, .int v4_2), (5, .int v5_3)] → (∀ (H : Heap) (locs : List Loc) (ls : Array Slot), va_P g.1 vwCl (cMo g a mo) H → va_D A (cMo g a mo) → va_S A su.heap H locs → lv_has ls 7 [(0, .ref (a 0)), (3, .int y3_4), (4, .int y4_5)] → W p l e rX6_areLinked su m args below meth c H locs 0 0 Q (F0 m 68 ls [])) → W p l e rX6_areLinked su m args below meth c H locs 0 0 Q (F0 m 8 ls []) := by
    intro n
    induction n with
    | zero => intro v3_1 v4_2 v5_3 y3_4 y4_5 H locs ls h hP hD hS hl kx; cases h
    | succ n ih =>
      intro v3_1 v4_2 v5_3 y3_4 y4_5 H locs ls h hP hD hS hl kx
      rw [fX6_areLinked_L8] at h
      refine lv_iload hx hb dX6_areLinked_8 (lv_at hl 5 rfl) ?_
      refine lv_iconst (v := 4) hx hb dX6_areLinked_10 (by decide) ?_
      refine lv_icmp_ge (tgt := 68) hx hb dX6_areLinked_11 (by decide) (fun c6 => ?_) (fun c6 => ?_)
      · have h := if_t c6 h
        cases some_i h
        exact kx _ _ _ hP hD hS (lv_sub hl [0, 3, 4] rfl)
      · have h := if_f c6 h
        refine lv_aload_n hx hb dX6_areLinked_14 rfl (lv_at hl 0 rfl) ?_
        refine lv_iload_n hx hb dX6_areLinked_15 rfl (lv_at hl 1 rfl) ?_
        refine lv_iload hx hb dX6_areLinked_16 (lv_at hl 5 rfl) ?_
        obtain ⟨r7, kr7, h⟩ := bd_ex h
        refine aft_w (st1 := [.int r7]) rfl (runV (As := [.int p1, .int v5_3]) (rest := []) ⟨hx, hb, hml, hown, hts⟩ (kX6_letterOf l g a kr7) (cwV 2 hts gX6_areLinked_X6_letterOf rfl rfl rfl hdX6_letterOf ⟨Nat.le_of_ble_eq_true rfl, Nat.le_of_ble_eq_true rfl⟩) hK hN hP hD (va_recv hK hP (ci := 6) (q0 := 0) rfl rfl) rfl hl.1 rfl (Nat.le_of_ble_eq_true rfl) dX6_areLinked_18 ⟨Nat.zero_le _, Nat.zero_le _⟩) hD hS hA (fun H locs hP hD hS => ?_)
        refine lv_aload_n hx hb dX6_areLinked_21 rfl (lv_at hl 0 rfl) ?_
        refine lv_iload_n hx hb dX6_areLinked_22 rfl (lv_at hl 2 rfl) ?_
        refine lv_iload hx hb dX6_areLinked_23 (lv_at hl 5 rfl) ?_
        obtain ⟨r8, kr8, h⟩ := bd_ex h
        refine aft_w (st1 := [.int r8, .int r7]) rfl (runV (As := [.int p2, .int v5_3]) (rest := [.int r7]) ⟨hx, hb, hml, hown, hts⟩ (kX6_letterOf l g a kr8) (cwV 2 hts gX6_areLinked_X6_letterOf rfl rfl rfl hdX6_letterOf ⟨Nat.le_of_ble_eq_true rfl, Nat.le_of_ble_eq_true rfl⟩) hK hN hP hD (va_recv hK hP (ci := 6) (q0 := 0) rfl rfl) rfl hl.1 rfl (Nat.le_of_ble_eq_true rfl) dX6_areLinked_25 ⟨Nat.zero_le _, Nat.zero_le _⟩) hD hS hA (fun H locs hP hD hS => ?_)
        refine lv_isub hx hb dX6_areLinked_28 ?_
        obtain ⟨x9, ex9, h⟩ := pl_ex h
        refine lv_eqi ex9 ?_
        refine lv_istore (lv' := [(6, .int x9), (0, .ref (a 0)), (1, .int p1), (2, .int p2), (3, .int v3_1), (4, .int v4_2), (5, .int v5_3)]) hx hb dX6_areLinked_29 hl (by decide) rfl (fun ls hl => ?_)
        refine lv_iload_n hx hb dX6_areLinked_31 rfl (lv_at hl 4 rfl) ?_
        refine lv_iload hx hb dX6_areLinked_32 (lv_at hl 0 rfl) ?_
        refine lv_if_eq (tgt := 41) hx hb dX6_areLinked_34 (by decide) (fun c10 => ?_) (fun c10 => ?_)
        · have h := if_t c10 h
          refine lv_iconst (v := 0) hx hb dX6_areLinked_41 (by decide) ?_
          refine lv_iadd hx hb dX6_areLinked_42 ?_
          obtain ⟨x11, ex11, h⟩ := pl_ex h
          refine lv_eqi ex11 ?_
          refine lv_istore_n (lv' := [(3, .int x11), (6, .int x9), (0, .ref (a 0)), (1, .int p1), (2, .int p2), (4, .int v4_2), (5, .int v5_3)]) hx hb dX6_areLinked_43 rfl hl (by decide) rfl (fun ls hl => ?_)
          refine lv_iload hx hb dX6_areLinked_44 (lv_at hl 5 rfl) ?_
          refine lv_iload hx hb dX6_areLinked_46 (lv_at hl 1 rfl) ?_
          refine lv_if_ge (tgt := 57) hx hb dX6_areLinked_48 (by decide) (fun c12 => ?_) (fun c12 => ?_)
          · have h := if_t c12 h
            refine lv_iload hx hb dX6_areLinked_57 (lv_at hl 1 rfl) ?_
            refine lv_iadd hx hb dX6_areLinked_59 ?_
            obtain ⟨x13, ex13, h⟩ := pl_ex h
            refine lv_eqi ex13 ?_
            refine lv_istore (lv' := [(4, .int x13), (3, .int x11), (6, .int x9), (0, .ref (a 0)), (1, .int p1), (2, .int p2), (5, .int v5_3)]) hx hb dX6_areLinked_60 hl (by decide) rfl (fun ls hl => ?_)
            obtain ⟨x14, ex14, h⟩ := pl_ex h
            refine lv_iinc (v := x14) (lv' := [(5, .int x14), (4, .int x13), (3, .int x11), (6, .int x9), (0, .ref (a 0)), (1, .int p1), (2, .int p2)]) hx hb dX6_areLinked_62 hl (k := 6) rfl (by rw [← ex14]; rfl) (by decide) rfl (fun ls hl => ?_)
            refine lv_goto (tgt := 8) hx hb dX6_areLinked_65 (by decide) ?_
            exact ih x11 x13 x14 _ _ _ _ _ h hP hD hS (lv_sub hl [4, 5, 6, 2, 1, 0] rfl) kx
          · have h := if_f c12 h
            refine lv_iload hx hb dX6_areLinked_51 (lv_at hl 1 rfl) ?_
            refine lv_ineg hx hb dX6_areLinked_53 ?_
            refine lv_goto (tgt := 59) hx hb dX6_areLinked_54 (by decide) ?_
            refine lv_iadd hx hb dX6_areLinked_59 ?_
            obtain ⟨x15, ex15, h⟩ := pl_ex h
            refine lv_eqi ex15 ?_
            refine lv_istore (lv' := [(4, .int x15), (3, .int x11), (6, .int x9), (0, .ref (a 0)), (1, .int p1), (2, .int p2), (5, .int v5_3)]) hx hb dX6_areLinked_60 hl (by decide) rfl (fun ls hl => ?_)
            obtain ⟨x16, ex16, h⟩ := pl_ex h
            refine lv_iinc (v := x16) (lv' := [(5, .int x16), (4, .int x15), (3, .int x11), (6, .int x9), (0, .ref (a 0)), (1, .int p1), (2, .int p2)]) hx hb dX6_areLinked_62 hl (k := 6) rfl (by rw [← ex16]; rfl) (by decide) rfl (fun ls hl => ?_)
            refine lv_goto (tgt := 8) hx hb dX6_areLinked_65 (by decide) ?_
            exact ih x11 x15 x16 _ _ _ _ _ h hP hD hS (lv_sub hl [4, 5, 6, 2, 1, 0] rfl) kx
        · have h := if_f c10 h
          refine lv_iconst (v := 1) hx hb dX6_areLinked_37 (by decide) ?_
          refine lv_goto (tgt := 42) hx hb dX6_areLinked_38 (by decide) ?_
          refine lv_iadd hx hb dX6_areLinked_42 ?_
          obtain ⟨x17, ex17, h⟩ := pl_ex h
          refine lv_eqi ex17 ?_
          refine lv_istore_n (lv' := [(3, .int x17), (6, .int x9), (0, .ref (a 0)), (1, .int p1), (2, .int p2), (4, .int v4_2), (5, .int v5_3)]) hx hb dX6_areLinked_43 rfl hl (by decide) rfl (fun ls hl => ?_)
          refine lv_iload hx hb dX6_areLinked_44 (lv_at hl 5 rfl) ?_
          refine lv_iload hx hb dX6_areLinked_46 (lv_at hl 1 rfl) ?_
          refine lv_if_ge (tgt := 57) hx hb dX6_areLinked_48 (by decide) (fun c18 => ?_) (fun c18 => ?_)
          · have h := if_t c18 h
            refine lv_iload hx hb dX6_areLinked_57 (lv_at hl 1 rfl) ?_
            refine lv_iadd hx hb dX6_areLinked_59 ?_
            obtain ⟨x19, ex19, h⟩ := pl_ex h
            refine lv_eqi ex19 ?_
            refine lv_istore (lv' := [(4, .int x19), (3, .int x17), (6, .int x9), (0, .ref (a 0)), (1, .int p1), (2, .int p2), (5, .int v5_3)]) hx hb dX6_areLinked_60 hl (by decide) rfl (fun ls hl => ?_)
            obtain ⟨x20, ex20, h⟩ := pl_ex h
            refine lv_iinc (v := x20) (lv' := [(5, .int x20), (4, .int x19), (3, .int x17), (6, .int x9), (0, .ref (a 0)), (1, .int p1), (2, .int p2)]) hx hb dX6_areLinked_62 hl (k := 6) rfl (by rw [← ex20]; rfl) (by decide) rfl (fun ls hl => ?_)
            refine lv_goto (tgt := 8) hx hb dX6_areLinked_65 (by decide) ?_
            exact ih x17 x19 x20 _ _ _ _ _ h hP hD hS (lv_sub hl [4, 5, 6, 2, 1, 0] rfl) kx
          · have h := if_f c18 h
            refine lv_iload hx hb dX6_areLinked_51 (lv_at hl 1 rfl) ?_
            refine lv_ineg hx hb dX6_areLinked_53 ?_
            refine lv_goto (tgt := 59) hx hb dX6_areLinked_54 (by decide) ?_
            refine lv_iadd hx hb dX6_areLinked_59 ?_
            obtain ⟨x21, ex21, h⟩ := pl_ex h
            refine lv_eqi ex21 ?_
            refine lv_istore (lv' := [(4, .int x21), (3, .int x17), (6, .int x9), (0, .ref (a 0)), (1, .int p1), (2, .int p2), (5, .int v5_3)]) hx hb dX6_areLinked_60 hl (by decide) rfl (fun ls hl => ?_)
            obtain ⟨x22, ex22, h⟩ := pl_ex h
            refine lv_iinc (v := x22) (lv' := [(5, .int x22), (4, .int x21), (3, .int x17), (6, .int x9), (0, .ref (a 0)), (1, .int p1), (2, .int p2)]) hx hb dX6_areLinked_62 hl (k := 6) rfl (by rw [← ex22]; rfl) (by decide) rfl (fun ls hl => ?_)
            refine lv_goto (tgt := 8) hx hb dX6_areLinked_65 (by decide) ?_
            exact ih x17 x21 x22 _ _ _ _ _ h hP hD hS (lv_sub hl [4, 5, 6, 2, 1, 0] rfl) kx
  obtain ⟨v3_23, v4_24, kv3_23, h⟩ := bd2_ex h
  refine L8 1000 (0 : Int32) (0 : Int32) (0 : Int32) v3_23 v4_24 _ _ _ kv3_23 hP hD hS (lv_sub hl [3, 4, 5, 2, 1, 0] rfl) (fun H locs ls hP hD hS hl => ?_)
  refine lv_iload_n hx hb dX6_areLinked_68 rfl (lv_at hl 1 rfl) ?_
  refine lv_iconst (v := 1) hx hb dX6_areLinked_69 (by decide) ?_
  refine lv_icmp_ne (tgt := 88) hx hb dX6_areLinked_70 (by decide) (fun c25 => ?_) (fun c25 => ?_)
  · have h := if_f c25 h
    refine lv_iconst (v := 0) hx hb dX6_areLinked_88 (by decide) ?_
    cases some_i h
    exact hend _ _ _ _ _ hP hD hS (RetOK.z dX6_areLinked_89 (Or.inl rfl))
  · have h := if_t c25 h
    refine lv_iload hx hb dX6_areLinked_73 (lv_at hl 2 rfl) ?_
    refine lv_aload_n hx hb dX6_areLinked_75 rfl (lv_at hl 0 rfl) ?_
    refine va_get (D := g.1) (ci := 6) (v := .ref (a 1)) (C := RX6) (T := TX6) (N := 15) hx hb hts hinX6 hown hK hP 0 rfl rfl 1 (by decide) (hts (.fieldLink RX6 7 "BarredRungsModel" "state" "[I") (List.mem_of_getElem? (i := 1) rfl)) (fun _ h9 => h9) rfl dX6_areLinked_76 ?_
    refine lv_iconst (v := 4) hx hb dX6_areLinked_79 (by decide) ?_
    obtain ⟨hi9, h⟩ := ck_ex h
    refine va_iald hx hb hK hP 1 0 rfl rfl (inb_in hi9) dX6_areLinked_80 ?_
    refine lv_icmp_gt (tgt := 88) hx hb dX6_areLinked_81 (by decide) (fun c26 => ?_) (fun c26 => ?_)
    · have h := if_t c26 h
      refine lv_iconst (v := 0) hx hb dX6_areLinked_88 (by decide) ?_
      cases some_i h
      exact hend _ _ _ _ _ hP hD hS (RetOK.z dX6_areLinked_89 (Or.inl rfl))
    · have h := if_f c26 h
      refine lv_iconst (v := 1) hx hb dX6_areLinked_84 (by decide) ?_
      refine lv_goto (tgt := 89) hx hb dX6_areLinked_85 (by decide) ?_
      cases some_i h
      exact hend _ _ _ _ _ hP hD hS (RetOK.z dX6_areLinked_89 (Or.inr rfl))
def fX6_bar (mo : Mo) (p1 : Int32) (p2 : Int32) : Option (Int32 × Mo) :=
(pl (Mo_set_thrown mo (0 : Int32)) fun (mo1 : Mo) =>
(bd (fX6_within p1 (0 : Int32) (3 : Int32)) fun (r2 : Int32) =>
(if r2 = (0 : Int32) then
(bd2 (fX6_fails mo1 (1 : Int32)) fun (r12 : Int32) (mo13 : Mo) =>
(some (r12, mo13)))
else
(bd (fX6_within p2 (0 : Int32) (7 : Int32)) fun (r4 : Int32) =>
(if r4 = (0 : Int32) then
(bd2 (fX6_fails mo1 (2 : Int32)) fun (r10 : Int32) (mo11 : Mo) =>
(some (r10, mo11)))
else
(bd (fX6_save mo1) fun (mo6 : Mo) =>
(ck (inb (1 : Int32) 55)
(ck (inb (2 : Int32) 55)
(pl ((((8 : Int32) * (Mo_state mo6 (1 : Int32).toNatClampNeg)) + (Mo_state mo6 (2 : Int32).toNatClampNeg))) fun (x7 : Int32) =>
(ck (inb (1 : Int32) 55)
(pl (Mo_set_state mo6 (upd (Mo_state mo6) (1 : Int32).toNatClampNeg p1)) fun (mo8 : Mo) =>
(ck (inb (2 : Int32) 55)
(pl (Mo_set_state mo8 (upd (Mo_state mo8) (2 : Int32).toNatClampNeg p2)) fun (mo9 : Mo) =>
(some (x7, mo9)))))))))))))))
abbrev rX6_bar : Room := { frames := 1, cells := 0, slots := 0, locals := 22 }
theorem hdX6_bar : yX6_bar.cls = RX6 ∧ yX6_bar.cls ≠ "java/lang/invoke/MethodHandle" ∧ yX6_bar.cls ≠ "java/lang/invoke/VarHandle" ∧ (parseMethodDescriptor yX6_bar.desc).map (fun d => d.parameters.length) = some 2 := by decide +kernel
set_option maxRecDepth 100000 in
set_option maxHeartbeats 8000000 in
theorem kX6_bar (l : Launch) (g : GG) (a : Nat → Nat) {mo : Mo} {p1 : Int32} {p2 : Int32} {res : Int32} {mo' : Mo} (h : fX6_bar mo p1 p2 = some (res, mo')) : Cg l g yX6_bar wsX6_bar rX6_bar [.ref (a 0), .int p1, .int p2] (cMo g a mo) (some (.int res)) (cMo g a mo') := by
  refine Cg_of (cc := cX6_bar) (maxL := 4) (ret := (some .int)) (by decide +kernel) rfl (Nat.le_of_ble_eq_true rfl) ?_
  intro p e su m args below meth c A Q ls hx hb hml hown hts hK hN hA hnm hP hD hS hl hend
  have hinX6 : ∀ w ∈ u_ws RX6 TX6 15, w ∈ wsX6_bar := fun _ h9 => List.mem_cons_of_mem _ (List.mem_append_right _ h9)
  unfold fX6_bar at h
  have hl : lv_has ls 4 [(0, .ref (a 0)), (1, .int p1), (2, .int p2)] := hl
  refine lv_aload_n hx hb dX6_bar_0 rfl (lv_at hl 0 rfl) ?_
  refine lv_iconst (v := 0) hx hb dX6_bar_1 (by decide) ?_
  obtain ⟨mo1, emo1, h⟩ := pl_ex h
  refine va_put (D := g.1) (ci := 6) (v := .int (0 : Int32)) (ty := .int) (C := RX6) (T := TX6) (N := 15) hx hb hts hinX6 tyX6 tyX6_ok nmX6 hown hK hP hD hS 0 rfl rfl 0 (by decide) (hts (.fieldLink RX6 29 "BarredRungsModel" "thrown" "I") (List.mem_of_getElem? (i := 1) rfl)) (fun _ h9 => h9) rfl (by decide +kernel) rfl rfl (Nat.le_of_ble_eq_true rfl) dX6_bar_2 (fun H locs hP hD hS => ?_)
  have hP : va_P g.1 vwCl (cMo g a mo1) H := by rw [← emo1]; exact hP
  have hD : va_D A (cMo g a mo1) := by rw [← emo1]; exact hD
  refine lv_iload_n hx hb dX6_bar_5 rfl (lv_at hl 1 rfl) ?_
  refine lv_iconst (v := 0) hx hb dX6_bar_6 (by decide) ?_
  refine lv_iconst (v := 3) hx hb dX6_bar_7 (by decide) ?_
  obtain ⟨r2, kr2, h⟩ := bd_ex h
  refine aft_e (st1 := [.int r2]) rfl (runS (As := [.int p1, .int (0 : Int32), .int (3 : Int32)]) (rest := []) ⟨hx, hb, hml, hown, hts⟩ (kX6_within l g kr2) (va_cwS 3 hts gX6_bar_X6_within rfl rfl rfl hdX6_within.2 ⟨Nat.le_of_ble_eq_true rfl, Nat.le_of_ble_eq_true rfl⟩) hK hN nilP (nilD (A := A)) rfl hl.1 rfl (Nat.le_of_ble_eq_true rfl) dX6_bar_8 ⟨Nat.zero_le _, Nat.zero_le _⟩) hP hS hA (fun H locs hP hS => ?_)
  refine lv_if_ne (tgt := 20) hx hb dX6_bar_11 (by decide) (fun c3 => ?_) (fun c3 => ?_)
  · have h := if_f c3 h
    refine lv_iload_n hx hb dX6_bar_20 rfl (lv_at hl 2 rfl) ?_
    refine lv_iconst (v := 0) hx hb dX6_bar_21 (by decide) ?_
    refine lv_bipush (v := 7) hx hb dX6_bar_22 (by decide) ?_
    obtain ⟨r4, kr4, h⟩ := bd_ex h
    refine aft_e (st1 := [.int r4]) rfl (runS (As := [.int p2, .int (0 : Int32), .int (7 : Int32)]) (rest := []) ⟨hx, hb, hml, hown, hts⟩ (kX6_within l g kr4) (va_cwS 3 hts gX6_bar_X6_within rfl rfl rfl hdX6_within.2 ⟨Nat.le_of_ble_eq_true rfl, Nat.le_of_ble_eq_true rfl⟩) hK hN nilP (nilD (A := A)) rfl hl.1 rfl (Nat.le_of_ble_eq_true rfl) dX6_bar_24 ⟨Nat.zero_le _, Nat.zero_le _⟩) hP hS hA (fun H locs hP hS => ?_)
    refine lv_if_ne (tgt := 36) hx hb dX6_bar_27 (by decide) (fun c5 => ?_) (fun c5 => ?_)
    · have h := if_f c5 h
      refine lv_aload_n hx hb dX6_bar_36 rfl (lv_at hl 0 rfl) ?_
      obtain ⟨mo6, kmo6, h⟩ := bd_ex h
      refine aft_w (st1 := []) rfl (runV (As := []) (rest := []) ⟨hx, hb, hml, hown, hts⟩ (kX6_save l g a kmo6) (cwV 0 hts gX6_bar_X6_save rfl rfl rfl hdX6_save ⟨Nat.le_of_ble_eq_true rfl, Nat.le_of_ble_eq_true rfl⟩) hK hN hP hD (va_recv hK hP (ci := 6) (q0 := 0) rfl rfl) rfl hl.1 rfl (Nat.le_of_ble_eq_true rfl) dX6_bar_37 ⟨Nat.zero_le _, Nat.zero_le _⟩) hD hS hA (fun H locs hP hD hS => ?_)
      refine lv_bipush (v := 8) hx hb dX6_bar_40 (by decide) ?_
      refine lv_aload_n hx hb dX6_bar_42 rfl (lv_at hl 0 rfl) ?_
      refine va_get (D := g.1) (ci := 6) (v := .ref (a 1)) (C := RX6) (T := TX6) (N := 15) hx hb hts hinX6 hown hK hP 0 rfl rfl 1 (by decide) (hts (.fieldLink RX6 7 "BarredRungsModel" "state" "[I") (List.mem_of_getElem? (i := 2) rfl)) (fun _ h9 => h9) rfl dX6_bar_43 ?_
      refine lv_iconst (v := 1) hx hb dX6_bar_46 (by decide) ?_
      obtain ⟨hi9, h⟩ := ck_ex h
      refine va_iald hx hb hK hP 1 0 rfl rfl (inb_in hi9) dX6_bar_47 ?_
      refine lv_imul hx hb dX6_bar_48 ?_
      refine lv_aload_n hx hb dX6_bar_49 rfl (lv_at hl 0 rfl) ?_
      refine va_get (D := g.1) (ci := 6) (v := .ref (a 1)) (C := RX6) (T := TX6) (N := 15) hx hb hts hinX6 hown hK hP 0 rfl rfl 1 (by decide) (hts (.fieldLink RX6 7 "BarredRungsModel" "state" "[I") (List.mem_of_getElem? (i := 2) rfl)) (fun _ h9 => h9) rfl dX6_bar_50 ?_
      refine lv_iconst (v := 2) hx hb dX6_bar_53 (by decide) ?_
      obtain ⟨hi9, h⟩ := ck_ex h
      refine va_iald hx hb hK hP 1 0 rfl rfl (inb_in hi9) dX6_bar_54 ?_
      refine lv_iadd hx hb dX6_bar_55 ?_
      obtain ⟨x7, ex7, h⟩ := pl_ex h
      refine lv_eqi ex7 ?_
      refine lv_istore_n (lv' := [(3, .int x7), (0, .ref (a 0)), (1, .int p1), (2, .int p2)]) hx hb dX6_bar_56 rfl hl (by decide) rfl (fun ls hl => ?_)
      refine lv_aload_n hx hb dX6_bar_57 rfl (lv_at hl 1 rfl) ?_
      refine va_get (D := g.1) (ci := 6) (v := .ref (a 1)) (C := RX6) (T := TX6) (N := 15) hx hb hts hinX6 hown hK hP 0 rfl rfl 1 (by decide) (hts (.fieldLink RX6 7 "BarredRungsModel" "state" "[I") (List.mem_of_getElem? (i := 2) rfl)) (fun _ h9 => h9) rfl dX6_bar_58 ?_
      refine lv_iconst (v := 1) hx hb dX6_bar_61 (by decide) ?_
      refine lv_iload_n hx hb dX6_bar_62 rfl (lv_at hl 2 rfl) ?_
      obtain ⟨hi9, h⟩ := ck_ex h
      obtain ⟨mo8, emo8, h⟩ := pl_ex h
      refine va_iast hx hb hK hP hD hS 1 0 rfl rfl (inb_in hi9) dX6_bar_63 (fun H locs hP hD hS => ?_)
      have hP : va_P g.1 vwCl (cMo g a mo8) H := by rw [← emo8]; exact hP
      have hD : va_D A (cMo g a mo8) := by rw [← emo8]; exact hD
      refine lv_aload_n hx hb dX6_bar_64 rfl (lv_at hl 1 rfl) ?_
      refine va_get (D := g.1) (ci := 6) (v := .ref (a 1)) (C := RX6) (T := TX6) (N := 15) hx hb hts hinX6 hown hK hP 0 rfl rfl 1 (by decide) (hts (.fieldLink RX6 7 "BarredRungsModel" "state" "[I") (List.mem_of_getElem? (i := 2) rfl)) (fun _ h9 => h9) rfl dX6_bar_65 ?_
      refine lv_iconst (v := 2) hx hb dX6_bar_68 (by decide) ?_
      refine lv_iload_n hx hb dX6_bar_69 rfl (lv_at hl 3 rfl) ?_
      obtain ⟨hi9, h⟩ := ck_ex h
      obtain ⟨mo9, emo9, h⟩ := pl_ex h
      refine va_iast hx hb hK hP hD hS 1 0 rfl rfl (inb_in hi9) dX6_bar_70 (fun H locs hP hD hS => ?_)
      have hP : va_P g.1 vwCl (cMo g a mo9) H := by rw [← emo9]; exact hP
      have hD : va_D A (cMo g a mo9) := by rw [← emo9]; exact hD
      refine lv_iload_n hx hb dX6_bar_71 rfl (lv_at hl 0 rfl) ?_
      cases some_i h
      exact hend _ _ _ _ _ hP hD hS (RetOK.i dX6_bar_72)
    · have h := if_t c5 h
      refine lv_aload_n hx hb dX6_bar_30 rfl (lv_at hl 0 rfl) ?_
      refine lv_iconst (v := 2) hx hb dX6_bar_31 (by decide) ?_
      obtain ⟨r10, mo11, kr10, h⟩ := bd2_ex h
      refine aft_w (st1 := [.int r10]) rfl (runV (As := [.int (2 : Int32)]) (rest := []) ⟨hx, hb, hml, hown, hts⟩ (kX6_fails l g a kr10) (cwV 1 hts gX6_bar_X6_fails rfl rfl rfl hdX6_fails ⟨Nat.le_of_ble_eq_true rfl, Nat.le_of_ble_eq_true rfl⟩) hK hN hP hD (va_recv hK hP (ci := 6) (q0 := 0) rfl rfl) rfl hl.1 rfl (Nat.le_of_ble_eq_true rfl) dX6_bar_32 ⟨Nat.zero_le _, Nat.zero_le _⟩) hD hS hA (fun H locs hP hD hS => ?_)
      cases some_i h
      exact hend _ _ _ _ _ hP hD hS (RetOK.i dX6_bar_35)
  · have h := if_t c3 h
    refine lv_aload_n hx hb dX6_bar_14 rfl (lv_at hl 0 rfl) ?_
    refine lv_iconst (v := 1) hx hb dX6_bar_15 (by decide) ?_
    obtain ⟨r12, mo13, kr12, h⟩ := bd2_ex h
    refine aft_w (st1 := [.int r12]) rfl (runV (As := [.int (1 : Int32)]) (rest := []) ⟨hx, hb, hml, hown, hts⟩ (kX6_fails l g a kr12) (cwV 1 hts gX6_bar_X6_fails rfl rfl rfl hdX6_fails ⟨Nat.le_of_ble_eq_true rfl, Nat.le_of_ble_eq_true rfl⟩) hK hN hP hD (va_recv hK hP (ci := 6) (q0 := 0) rfl rfl) rfl hl.1 rfl (Nat.le_of_ble_eq_true rfl) dX6_bar_16 ⟨Nat.zero_le _, Nat.zero_le _⟩) hD hS hA (fun H locs hP hD hS => ?_)
    cases some_i h
    exact hend _ _ _ _ _ hP hD hS (RetOK.i dX6_bar_19)
def fX6_barNow (mo : Mo) : Option (Mo) :=
(ck (inb (1 : Int32) 55)
(pl (Mo_set_place mo (Mo_state mo (1 : Int32).toNatClampNeg)) fun (mo1 : Mo) =>
(ck (inb (2 : Int32) 55)
(pl (Mo_set_letter mo1 (Mo_state mo1 (2 : Int32).toNatClampNeg)) fun (mo2 : Mo) =>
(some mo2)))))
abbrev rX6_barNow : Room := { frames := 0, cells := 0, slots := 0, locals := 0 }
theorem hdX6_barNow : yX6_barNow.cls = RX6 ∧ yX6_barNow.cls ≠ "java/lang/invoke/MethodHandle" ∧ yX6_barNow.cls ≠ "java/lang/invoke/VarHandle" ∧ (parseMethodDescriptor yX6_barNow.desc).map (fun d => d.parameters.length) = some 0 := by decide +kernel
set_option maxRecDepth 100000 in
set_option maxHeartbeats 8000000 in
theorem kX6_barNow (l : Launch) (g : GG) (a : Nat → Nat) {mo : Mo} {mo' : Mo} (h : fX6_barNow mo = some mo') : Cg l g yX6_barNow wsX6_barNow rX6_barNow [.ref (a 0)] (cMo g a mo) (none) (cMo g a mo') := by
  refine Cg_of (cc := cX6_barNow) (maxL := 1) (ret := none) (by decide +kernel) rfl (Nat.le_of_ble_eq_true rfl) ?_
  intro p e su m args below meth c A Q ls hx hb hml hown hts hK hN hA hnm hP hD hS hl hend
  have hinX6 : ∀ w ∈ u_ws RX6 TX6 15, w ∈ wsX6_barNow := fun _ h9 => List.mem_cons_of_mem _ (List.mem_append_right _ h9)
  unfold fX6_barNow at h
  have hl : lv_has ls 1 [(0, .ref (a 0))] := hl
  refine lv_aload_n hx hb dX6_barNow_0 rfl (lv_at hl 0 rfl) ?_
  refine lv_aload_n hx hb dX6_barNow_1 rfl (lv_at hl 0 rfl) ?_
  refine va_get (D := g.1) (ci := 6) (v := .ref (a 1)) (C := RX6) (T := TX6) (N := 15) hx hb hts hinX6 hown hK hP 0 rfl rfl 1 (by decide) (hts (.fieldLink RX6 7 "BarredRungsModel" "state" "[I") (List.mem_of_getElem? (i := 1) rfl)) (fun _ h9 => h9) rfl dX6_barNow_2 ?_
  refine lv_iconst (v := 1) hx hb dX6_barNow_5 (by decide) ?_
  obtain ⟨hi9, h⟩ := ck_ex h
  refine va_iald hx hb hK hP 1 0 rfl rfl (inb_in hi9) dX6_barNow_6 ?_
  obtain ⟨mo1, emo1, h⟩ := pl_ex h
  refine va_put (D := g.1) (ci := 6) (v := .int (Mo_state mo (1 : Int32).toNatClampNeg)) (ty := .int) (C := RX6) (T := TX6) (N := 15) hx hb hts hinX6 tyX6 tyX6_ok nmX6 hown hK hP hD hS 0 rfl rfl 12 (by decide) (hts (.fieldLink RX6 65 "BarredRungsModel" "place" "I") (List.mem_of_getElem? (i := 2) rfl)) (fun _ h9 => h9) rfl (by decide +kernel) rfl rfl (Nat.le_of_ble_eq_true rfl) dX6_barNow_7 (fun H locs hP hD hS => ?_)
  have hP : va_P g.1 vwCl (cMo g a mo1) H := by rw [← emo1]; exact hP
  have hD : va_D A (cMo g a mo1) := by rw [← emo1]; exact hD
  refine lv_aload_n hx hb dX6_barNow_10 rfl (lv_at hl 0 rfl) ?_
  refine lv_aload_n hx hb dX6_barNow_11 rfl (lv_at hl 0 rfl) ?_
  refine va_get (D := g.1) (ci := 6) (v := .ref (a 1)) (C := RX6) (T := TX6) (N := 15) hx hb hts hinX6 hown hK hP 0 rfl rfl 1 (by decide) (hts (.fieldLink RX6 7 "BarredRungsModel" "state" "[I") (List.mem_of_getElem? (i := 1) rfl)) (fun _ h9 => h9) rfl dX6_barNow_12 ?_
  refine lv_iconst (v := 2) hx hb dX6_barNow_15 (by decide) ?_
  obtain ⟨hi9, h⟩ := ck_ex h
  refine va_iald hx hb hK hP 1 0 rfl rfl (inb_in hi9) dX6_barNow_16 ?_
  obtain ⟨mo2, emo2, h⟩ := pl_ex h
  refine va_put (D := g.1) (ci := 6) (v := .int (Mo_state mo1 (2 : Int32).toNatClampNeg)) (ty := .int) (C := RX6) (T := TX6) (N := 15) hx hb hts hinX6 tyX6 tyX6_ok nmX6 hown hK hP hD hS 0 rfl rfl 13 (by decide) (hts (.fieldLink RX6 68 "BarredRungsModel" "letter" "I") (List.mem_of_getElem? (i := 3) rfl)) (fun _ h9 => h9) rfl (by decide +kernel) rfl rfl (Nat.le_of_ble_eq_true rfl) dX6_barNow_17 (fun H locs hP hD hS => ?_)
  have hP : va_P g.1 vwCl (cMo g a mo2) H := by rw [← emo2]; exact hP
  have hD : va_D A (cMo g a mo2) := by rw [← emo2]; exact hD
  cases some_i h
  exact hend _ _ _ _ _ hP hD hS (RetOK.v dX6_barNow_20)
def fX6_barred_L4 (mo : Mo) : Nat → Int32 → Int32 → Option (Int32)
  | 0, _, _ => none
  | n + 1, v1_1, v2_2 =>
    (ck (inb (0 : Int32) 55)
    (if (Mo_state mo (0 : Int32).toNatClampNeg) ≤ v2_2 then
    (some v1_1)
    else
    (bd (fX6_letterOf mo v2_2 (Mo_place mo)) fun (r5 : Int32) =>
    (if r5 = (Mo_letter mo) then
    (pl ((v1_1 ||| ((1 : Int32) <<< (v2_2 &&& 31)))) fun (x9 : Int32) =>
    (pl ((v2_2 + (1 : Int32))) fun (x10 : Int32) =>
    (fX6_barred_L4 mo n x9 x10)))
    else
    (pl ((v1_1 ||| (0 : Int32))) fun (x7 : Int32) =>
    (pl ((v2_2 + (1 : Int32))) fun (x8 : Int32) =>
    (fX6_barred_L4 mo n x7 x8)))))))
def fX6_barred (mo : Mo) : Option (Int32) :=
(bd (fX6_barred_L4 mo 1000 (0 : Int32) (0 : Int32)) fun (v1_11 : Int32) =>
(some v1_11))
abbrev rX6_barred : Room := { frames := 2, cells := 0, slots := 0, locals := 43 }
theorem hdX6_barred : yX6_barred.cls = RX6 ∧ yX6_barred.cls ≠ "java/lang/invoke/MethodHandle" ∧ yX6_barred.cls ≠ "java/lang/invoke/VarHandle" ∧ (parseMethodDescriptor yX6_barred.desc).map (fun d => d.parameters.length) = some 0 := by decide +kernel
set_option maxRecDepth 100000 in
set_option maxHeartbeats 8000000 in
theorem kX6_barred (l : Launch) (g : GG) (a : Nat → Nat) {mo : Mo} {res : Int32} (h : fX6_barred mo = some res) : Cg l g yX6_barred wsX6_barred rX6_barred [.ref (a 0)] (cMo g a mo) (some (.int res)) (cMo g a mo) := by
  refine Cg_of (cc := cX6_barred) (maxL := 3) (ret := (some .int)) (by decide +kernel) rfl (Nat.le_of_ble_eq_true rfl) ?_
  intro p e su m args below meth c A Q ls hx hb hml hown hts hK hN hA hnm hP hD hS hl hend
  have hinX6 : ∀ w ∈ u_ws RX6 TX6 15, w ∈ wsX6_barred := fun _ h9 => List.mem_cons_of_mem _ (List.mem_append_right _ h9)
  unfold fX6_barred at h
  have hl : lv_has ls 3 [(0, .ref (a 0))] := hl
  refine lv_iconst (v := 0) hx hb dX6_barred_0 (by decide) ?_
  refine lv_istore_n (lv' := [(1, .int (0 : Int32)), (0, .ref (a 0))]) hx hb dX6_barred_1 rfl hl (by decide) rfl (fun ls hl => ?_)
  refine lv_iconst (v := 0) hx hb dX6_barred_2 (by decide) ?_
  refine lv_istore_n (lv' := [(2, .int (0 : Int32)), (1, .int (0 : Int32)), (0, .ref (a 0))]) hx hb dX6_barred_3 rfl hl (by decide) rfl (fun ls hl => ?_)
  have L4 : ∀ (n : Nat) (v1_1 : Int32) (v2_2 : Int32) (y1_3 : Int32) (H : Heap) (locs : List Loc) (ls : Array Slot), fX6_barred_L4 mo n v1_1 v2_2 = some y1_3 → va_P g.1 vwCl (cMo g a mo) H → va_D A (cMo g a mo) → va_S A su.heap H locs → lv_has ls 3 [(0, .ref (a 0)), (1, .int v1_1), (2, .int v2_2)] → (∀ (H : Heap) (locs : List Loc) (ls : Array Slot), va_P g.1 vwCl (cMo g a mo) H → va_D A (cMo g a mo) → va_S A su.heap H locs → lv_has ls 3 [(1, .int y1_3)] → W p l e rX6_barred su m args below meth c H locs 0 0 Q (F0 m 46 ls [])) → W p l e rX6_barred su m args below meth c H locs 0 0 Q (F0 m 4 ls []) := by
    intro n
    induction n with
    | zero => intro v1_1 v2_2 y1_3 H locs ls h hP hD hS hl kx; cases h
    | succ n ih =>
      intro v1_1 v2_2 y1_3 H locs ls h hP hD hS hl kx
      rw [fX6_barred_L4] at h
      refine lv_iload_n hx hb dX6_barred_4 rfl (lv_at hl 2 rfl) ?_
      refine lv_aload_n hx hb dX6_barred_5 rfl (lv_at hl 0 rfl) ?_
      refine va_get (D := g.1) (ci := 6) (v := .ref (a 1)) (C := RX6) (T := TX6) (N := 15) hx hb hts hinX6 hown hK hP 0 rfl rfl 1 (by decide) (hts (.fieldLink RX6 7 "BarredRungsModel" "state" "[I") (List.mem_of_getElem? (i := 1) rfl)) (fun _ h9 => h9) rfl dX6_barred_6 ?_
      refine lv_iconst (v := 0) hx hb dX6_barred_9 (by decide) ?_
      obtain ⟨hi9, h⟩ := ck_ex h
      refine va_iald hx hb hK hP 1 0 rfl rfl (inb_in hi9) dX6_barred_10 ?_
      refine lv_icmp_ge (tgt := 46) hx hb dX6_barred_11 (by decide) (fun c4 => ?_) (fun c4 => ?_)
      · have h := if_t c4 h
        cases some_i h
        exact kx _ _ _ hP hD hS (lv_sub hl [1] rfl)
      · have h := if_f c4 h
        refine lv_iload_n hx hb dX6_barred_14 rfl (lv_at hl 1 rfl) ?_
        refine lv_aload_n hx hb dX6_barred_15 rfl (lv_at hl 0 rfl) ?_
        refine lv_iload_n hx hb dX6_barred_16 rfl (lv_at hl 2 rfl) ?_
        refine lv_aload_n hx hb dX6_barred_17 rfl (lv_at hl 0 rfl) ?_
        refine va_get (D := g.1) (ci := 6) (v := .int (Mo_place mo)) (C := RX6) (T := TX6) (N := 15) hx hb hts hinX6 hown hK hP 0 rfl rfl 12 (by decide) (hts (.fieldLink RX6 65 "BarredRungsModel" "place" "I") (List.mem_of_getElem? (i := 2) rfl)) (fun _ h9 => h9) rfl dX6_barred_18 ?_
        obtain ⟨r5, kr5, h⟩ := bd_ex h
        refine aft_w (st1 := [.int r5, .int v1_1]) rfl (runV (As := [.int v2_2, .int (Mo_place mo)]) (rest := [.int v1_1]) ⟨hx, hb, hml, hown, hts⟩ (kX6_letterOf l g a kr5) (cwV 2 hts gX6_barred_X6_letterOf rfl rfl rfl hdX6_letterOf ⟨Nat.le_of_ble_eq_true rfl, Nat.le_of_ble_eq_true rfl⟩) hK hN hP hD (va_recv hK hP (ci := 6) (q0 := 0) rfl rfl) rfl hl.1 rfl (Nat.le_of_ble_eq_true rfl) dX6_barred_21 ⟨Nat.zero_le _, Nat.zero_le _⟩) hD hS hA (fun H locs hP hD hS => ?_)
        refine lv_aload_n hx hb dX6_barred_24 rfl (lv_at hl 0 rfl) ?_
        refine va_get (D := g.1) (ci := 6) (v := .int (Mo_letter mo)) (C := RX6) (T := TX6) (N := 15) hx hb hts hinX6 hown hK hP 0 rfl rfl 13 (by decide) (hts (.fieldLink RX6 68 "BarredRungsModel" "letter" "I") (List.mem_of_getElem? (i := 3) rfl)) (fun _ h9 => h9) rfl dX6_barred_25 ?_
        refine lv_icmp_ne (tgt := 37) hx hb dX6_barred_28 (by decide) (fun c6 => ?_) (fun c6 => ?_)
        · have h := if_f c6 h
          refine lv_iconst (v := 0) hx hb dX6_barred_37 (by decide) ?_
          refine lv_ior hx hb dX6_barred_38 ?_
          obtain ⟨x7, ex7, h⟩ := pl_ex h
          refine lv_eqi ex7 ?_
          refine lv_istore_n (lv' := [(1, .int x7), (0, .ref (a 0)), (2, .int v2_2)]) hx hb dX6_barred_39 rfl hl (by decide) rfl (fun ls hl => ?_)
          obtain ⟨x8, ex8, h⟩ := pl_ex h
          refine lv_iinc (v := x8) (lv' := [(2, .int x8), (1, .int x7), (0, .ref (a 0))]) hx hb dX6_barred_40 hl (k := 2) rfl (by rw [← ex8]; rfl) (by decide) rfl (fun ls hl => ?_)
          refine lv_goto (tgt := 4) hx hb dX6_barred_43 (by decide) ?_
          exact ih x7 x8 _ _ _ _ h hP hD hS (lv_sub hl [2, 1, 0] rfl) kx
        · have h := if_t c6 h
          refine lv_iconst (v := 1) hx hb dX6_barred_31 (by decide) ?_
          refine lv_iload_n hx hb dX6_barred_32 rfl (lv_at hl 2 rfl) ?_
          refine lv_ishl hx hb dX6_barred_33 ?_
          refine lv_goto (tgt := 38) hx hb dX6_barred_34 (by decide) ?_
          refine lv_ior hx hb dX6_barred_38 ?_
          obtain ⟨x9, ex9, h⟩ := pl_ex h
          refine lv_eqi ex9 ?_
          refine lv_istore_n (lv' := [(1, .int x9), (0, .ref (a 0)), (2, .int v2_2)]) hx hb dX6_barred_39 rfl hl (by decide) rfl (fun ls hl => ?_)
          obtain ⟨x10, ex10, h⟩ := pl_ex h
          refine lv_iinc (v := x10) (lv' := [(2, .int x10), (1, .int x9), (0, .ref (a 0))]) hx hb dX6_barred_40 hl (k := 2) rfl (by rw [← ex10]; rfl) (by decide) rfl (fun ls hl => ?_)
          refine lv_goto (tgt := 4) hx hb dX6_barred_43 (by decide) ?_
          exact ih x9 x10 _ _ _ _ h hP hD hS (lv_sub hl [2, 1, 0] rfl) kx
  obtain ⟨v1_11, kv1_11, h⟩ := bd_ex h
  refine L4 1000 (0 : Int32) (0 : Int32) v1_11 _ _ _ kv1_11 hP hD hS (lv_sub hl [2, 1, 0] rfl) (fun H locs ls hP hD hS hl => ?_)
  refine lv_iload_n hx hb dX6_barred_46 rfl (lv_at hl 0 rfl) ?_
  cases some_i h
  exact hend _ _ _ _ _ hP hD hS (RetOK.i dX6_barred_47)
def fX6_moveBar (mo : Mo) : Option (Mo) :=
(if (Mo_place mo) = (3 : Int32) then
(pl (Mo_set_place mo (0 : Int32)) fun (mo6 : Mo) =>
(if (Mo_place mo6) = (0 : Int32) then
(ck (inb (3 : Int32) 55)
(pl (Mo_set_letter mo6 (((Mo_letter mo6) + (Mo_state mo6 (3 : Int32).toNatClampNeg)) - ((Mo_letter mo6) + (Mo_state mo6 (3 : Int32).toNatClampNeg)) / (8 : Int32) * (8 : Int32))) fun (mo9 : Mo) =>
(some mo9)))
else
(pl (Mo_set_letter mo6 (Mo_letter mo6)) fun (mo8 : Mo) =>
(some mo8))))
else
(pl (Mo_set_place mo ((Mo_place mo) + (1 : Int32))) fun (mo2 : Mo) =>
(if (Mo_place mo2) = (0 : Int32) then
(ck (inb (3 : Int32) 55)
(pl (Mo_set_letter mo2 (((Mo_letter mo2) + (Mo_state mo2 (3 : Int32).toNatClampNeg)) - ((Mo_letter mo2) + (Mo_state mo2 (3 : Int32).toNatClampNeg)) / (8 : Int32) * (8 : Int32))) fun (mo5 : Mo) =>
(some mo5)))
else
(pl (Mo_set_letter mo2 (Mo_letter mo2)) fun (mo4 : Mo) =>
(some mo4)))))
abbrev rX6_moveBar : Room := { frames := 0, cells := 0, slots := 0, locals := 0 }
theorem hdX6_moveBar : yX6_moveBar.cls = RX6 ∧ yX6_moveBar.cls ≠ "java/lang/invoke/MethodHandle" ∧ yX6_moveBar.cls ≠ "java/lang/invoke/VarHandle" ∧ (parseMethodDescriptor yX6_moveBar.desc).map (fun d => d.parameters.length) = some 0 := by decide +kernel
set_option maxRecDepth 100000 in
set_option maxHeartbeats 8000000 in
theorem kX6_moveBar (l : Launch) (g : GG) (a : Nat → Nat) {mo : Mo} {mo' : Mo} (h : fX6_moveBar mo = some mo') : Cg l g yX6_moveBar wsX6_moveBar rX6_moveBar [.ref (a 0)] (cMo g a mo) (none) (cMo g a mo') := by
  refine Cg_of (cc := cX6_moveBar) (maxL := 1) (ret := none) (by decide +kernel) rfl (Nat.le_of_ble_eq_true rfl) ?_
  intro p e su m args below meth c A Q ls hx hb hml hown hts hK hN hA hnm hP hD hS hl hend
  have hinX6 : ∀ w ∈ u_ws RX6 TX6 15, w ∈ wsX6_moveBar := fun _ h9 => List.mem_cons_of_mem _ (List.mem_append_right _ h9)
  unfold fX6_moveBar at h
  have hl : lv_has ls 1 [(0, .ref (a 0))] := hl
  refine lv_aload_n hx hb dX6_moveBar_0 rfl (lv_at hl 0 rfl) ?_
  refine lv_aload_n hx hb dX6_moveBar_1 rfl (lv_at hl 0 rfl) ?_
  refine va_get (D := g.1) (ci := 6) (v := .int (Mo_place mo)) (C := RX6) (T := TX6) (N := 15) hx hb hts hinX6 hown hK hP 0 rfl rfl 12 (by decide) (hts (.fieldLink RX6 65 "BarredRungsModel" "place" "I") (List.mem_of_getElem? (i := 1) rfl)) (fun _ h9 => h9) rfl dX6_moveBar_2 ?_
  refine lv_iconst (v := 3) hx hb dX6_moveBar_5 (by decide) ?_
  refine lv_icmp_ne (tgt := 13) hx hb dX6_moveBar_6 (by decide) (fun c1 => ?_) (fun c1 => ?_)
  · have h := if_f c1 h
    refine lv_aload_n hx hb dX6_moveBar_13 rfl (lv_at hl 0 rfl) ?_
    refine va_get (D := g.1) (ci := 6) (v := .int (Mo_place mo)) (C := RX6) (T := TX6) (N := 15) hx hb hts hinX6 hown hK hP 0 rfl rfl 12 (by decide) (hts (.fieldLink RX6 65 "BarredRungsModel" "place" "I") (List.mem_of_getElem? (i := 1) rfl)) (fun _ h9 => h9) rfl dX6_moveBar_14 ?_
    refine lv_iconst (v := 1) hx hb dX6_moveBar_17 (by decide) ?_
    refine lv_iadd hx hb dX6_moveBar_18 ?_
    obtain ⟨mo2, emo2, h⟩ := pl_ex h
    refine va_put (D := g.1) (ci := 6) (v := .int ((Mo_place mo) + (1 : Int32))) (ty := .int) (C := RX6) (T := TX6) (N := 15) hx hb hts hinX6 tyX6 tyX6_ok nmX6 hown hK hP hD hS 0 rfl rfl 12 (by decide) (hts (.fieldLink RX6 65 "BarredRungsModel" "place" "I") (List.mem_of_getElem? (i := 1) rfl)) (fun _ h9 => h9) rfl (by decide +kernel) rfl rfl (Nat.le_of_ble_eq_true rfl) dX6_moveBar_19 (fun H locs hP hD hS => ?_)
    have hP : va_P g.1 vwCl (cMo g a mo2) H := by rw [← emo2]; exact hP
    have hD : va_D A (cMo g a mo2) := by rw [← emo2]; exact hD
    refine lv_aload_n hx hb dX6_moveBar_22 rfl (lv_at hl 0 rfl) ?_
    refine lv_aload_n hx hb dX6_moveBar_23 rfl (lv_at hl 0 rfl) ?_
    refine va_get (D := g.1) (ci := 6) (v := .int (Mo_place mo2)) (C := RX6) (T := TX6) (N := 15) hx hb hts hinX6 hown hK hP 0 rfl rfl 12 (by decide) (hts (.fieldLink RX6 65 "BarredRungsModel" "place" "I") (List.mem_of_getElem? (i := 1) rfl)) (fun _ h9 => h9) rfl dX6_moveBar_24 ?_
    refine lv_if_ne (tgt := 47) hx hb dX6_moveBar_27 (by decide) (fun c3 => ?_) (fun c3 => ?_)
    · have h := if_f c3 h
      refine lv_aload_n hx hb dX6_moveBar_47 rfl (lv_at hl 0 rfl) ?_
      refine va_get (D := g.1) (ci := 6) (v := .int (Mo_letter mo2)) (C := RX6) (T := TX6) (N := 15) hx hb hts hinX6 hown hK hP 0 rfl rfl 13 (by decide) (hts (.fieldLink RX6 68 "BarredRungsModel" "letter" "I") (List.mem_of_getElem? (i := 2) rfl)) (fun _ h9 => h9) rfl dX6_moveBar_48 ?_
      obtain ⟨mo4, emo4, h⟩ := pl_ex h
      refine va_put (D := g.1) (ci := 6) (v := .int (Mo_letter mo2)) (ty := .int) (C := RX6) (T := TX6) (N := 15) hx hb hts hinX6 tyX6 tyX6_ok nmX6 hown hK hP hD hS 0 rfl rfl 13 (by decide) (hts (.fieldLink RX6 68 "BarredRungsModel" "letter" "I") (List.mem_of_getElem? (i := 2) rfl)) (fun _ h9 => h9) rfl (by decide +kernel) rfl rfl (Nat.le_of_ble_eq_true rfl) dX6_moveBar_51 (fun H locs hP hD hS => ?_)
      have hP : va_P g.1 vwCl (cMo g a mo4) H := by rw [← emo4]; exact hP
      have hD : va_D A (cMo g a mo4) := by rw [← emo4]; exact hD
      cases some_i h
      exact hend _ _ _ _ _ hP hD hS (RetOK.v dX6_moveBar_54)
    · have h := if_t c3 h
      refine lv_aload_n hx hb dX6_moveBar_30 rfl (lv_at hl 0 rfl) ?_
      refine va_get (D := g.1) (ci := 6) (v := .int (Mo_letter mo2)) (C := RX6) (T := TX6) (N := 15) hx hb hts hinX6 hown hK hP 0 rfl rfl 13 (by decide) (hts (.fieldLink RX6 68 "BarredRungsModel" "letter" "I") (List.mem_of_getElem? (i := 2) rfl)) (fun _ h9 => h9) rfl dX6_moveBar_31 ?_
      refine lv_aload_n hx hb dX6_moveBar_34 rfl (lv_at hl 0 rfl) ?_
      refine va_get (D := g.1) (ci := 6) (v := .ref (a 1)) (C := RX6) (T := TX6) (N := 15) hx hb hts hinX6 hown hK hP 0 rfl rfl 1 (by decide) (hts (.fieldLink RX6 7 "BarredRungsModel" "state" "[I") (List.mem_of_getElem? (i := 3) rfl)) (fun _ h9 => h9) rfl dX6_moveBar_35 ?_
      refine lv_iconst (v := 3) hx hb dX6_moveBar_38 (by decide) ?_
      obtain ⟨hi9, h⟩ := ck_ex h
      refine va_iald hx hb hK hP 1 0 rfl rfl (inb_in hi9) dX6_moveBar_39 ?_
      refine lv_iadd hx hb dX6_moveBar_40 ?_
      refine lv_bipush (v := 8) hx hb dX6_moveBar_41 (by decide) ?_
      refine lv_irem hx hb dX6_moveBar_43 (by decide) ?_
      refine lv_goto (tgt := 51) hx hb dX6_moveBar_44 (by decide) ?_
      obtain ⟨mo5, emo5, h⟩ := pl_ex h
      refine va_put (D := g.1) (ci := 6) (v := .int (((Mo_letter mo2) + (Mo_state mo2 (3 : Int32).toNatClampNeg)) - ((Mo_letter mo2) + (Mo_state mo2 (3 : Int32).toNatClampNeg)) / (8 : Int32) * (8 : Int32))) (ty := .int) (C := RX6) (T := TX6) (N := 15) hx hb hts hinX6 tyX6 tyX6_ok nmX6 hown hK hP hD hS 0 rfl rfl 13 (by decide) (hts (.fieldLink RX6 68 "BarredRungsModel" "letter" "I") (List.mem_of_getElem? (i := 2) rfl)) (fun _ h9 => h9) rfl (by decide +kernel) rfl rfl (Nat.le_of_ble_eq_true rfl) dX6_moveBar_51 (fun H locs hP hD hS => ?_)
      have hP : va_P g.1 vwCl (cMo g a mo5) H := by rw [← emo5]; exact hP
      have hD : va_D A (cMo g a mo5) := by rw [← emo5]; exact hD
      cases some_i h
      exact hend _ _ _ _ _ hP hD hS (RetOK.v dX6_moveBar_54)
  · have h := if_t c1 h
    refine lv_iconst (v := 0) hx hb dX6_moveBar_9 (by decide) ?_
    refine lv_goto (tgt := 19) hx hb dX6_moveBar_10 (by decide) ?_
    obtain ⟨mo6, emo6, h⟩ := pl_ex h
    refine va_put (D := g.1) (ci := 6) (v := .int (0 : Int32)) (ty := .int) (C := RX6) (T := TX6) (N := 15) hx hb hts hinX6 tyX6 tyX6_ok nmX6 hown hK hP hD hS 0 rfl rfl 12 (by decide) (hts (.fieldLink RX6 65 "BarredRungsModel" "place" "I") (List.mem_of_getElem? (i := 1) rfl)) (fun _ h9 => h9) rfl (by decide +kernel) rfl rfl (Nat.le_of_ble_eq_true rfl) dX6_moveBar_19 (fun H locs hP hD hS => ?_)
    have hP : va_P g.1 vwCl (cMo g a mo6) H := by rw [← emo6]; exact hP
    have hD : va_D A (cMo g a mo6) := by rw [← emo6]; exact hD
    refine lv_aload_n hx hb dX6_moveBar_22 rfl (lv_at hl 0 rfl) ?_
    refine lv_aload_n hx hb dX6_moveBar_23 rfl (lv_at hl 0 rfl) ?_
    refine va_get (D := g.1) (ci := 6) (v := .int (Mo_place mo6)) (C := RX6) (T := TX6) (N := 15) hx hb hts hinX6 hown hK hP 0 rfl rfl 12 (by decide) (hts (.fieldLink RX6 65 "BarredRungsModel" "place" "I") (List.mem_of_getElem? (i := 1) rfl)) (fun _ h9 => h9) rfl dX6_moveBar_24 ?_
    refine lv_if_ne (tgt := 47) hx hb dX6_moveBar_27 (by decide) (fun c7 => ?_) (fun c7 => ?_)
    · have h := if_f c7 h
      refine lv_aload_n hx hb dX6_moveBar_47 rfl (lv_at hl 0 rfl) ?_
      refine va_get (D := g.1) (ci := 6) (v := .int (Mo_letter mo6)) (C := RX6) (T := TX6) (N := 15) hx hb hts hinX6 hown hK hP 0 rfl rfl 13 (by decide) (hts (.fieldLink RX6 68 "BarredRungsModel" "letter" "I") (List.mem_of_getElem? (i := 2) rfl)) (fun _ h9 => h9) rfl dX6_moveBar_48 ?_
      obtain ⟨mo8, emo8, h⟩ := pl_ex h
      refine va_put (D := g.1) (ci := 6) (v := .int (Mo_letter mo6)) (ty := .int) (C := RX6) (T := TX6) (N := 15) hx hb hts hinX6 tyX6 tyX6_ok nmX6 hown hK hP hD hS 0 rfl rfl 13 (by decide) (hts (.fieldLink RX6 68 "BarredRungsModel" "letter" "I") (List.mem_of_getElem? (i := 2) rfl)) (fun _ h9 => h9) rfl (by decide +kernel) rfl rfl (Nat.le_of_ble_eq_true rfl) dX6_moveBar_51 (fun H locs hP hD hS => ?_)
      have hP : va_P g.1 vwCl (cMo g a mo8) H := by rw [← emo8]; exact hP
      have hD : va_D A (cMo g a mo8) := by rw [← emo8]; exact hD
      cases some_i h
      exact hend _ _ _ _ _ hP hD hS (RetOK.v dX6_moveBar_54)
    · have h := if_t c7 h
      refine lv_aload_n hx hb dX6_moveBar_30 rfl (lv_at hl 0 rfl) ?_
      refine va_get (D := g.1) (ci := 6) (v := .int (Mo_letter mo6)) (C := RX6) (T := TX6) (N := 15) hx hb hts hinX6 hown hK hP 0 rfl rfl 13 (by decide) (hts (.fieldLink RX6 68 "BarredRungsModel" "letter" "I") (List.mem_of_getElem? (i := 2) rfl)) (fun _ h9 => h9) rfl dX6_moveBar_31 ?_
      refine lv_aload_n hx hb dX6_moveBar_34 rfl (lv_at hl 0 rfl) ?_
      refine va_get (D := g.1) (ci := 6) (v := .ref (a 1)) (C := RX6) (T := TX6) (N := 15) hx hb hts hinX6 hown hK hP 0 rfl rfl 1 (by decide) (hts (.fieldLink RX6 7 "BarredRungsModel" "state" "[I") (List.mem_of_getElem? (i := 3) rfl)) (fun _ h9 => h9) rfl dX6_moveBar_35 ?_
      refine lv_iconst (v := 3) hx hb dX6_moveBar_38 (by decide) ?_
      obtain ⟨hi9, h⟩ := ck_ex h
      refine va_iald hx hb hK hP 1 0 rfl rfl (inb_in hi9) dX6_moveBar_39 ?_
      refine lv_iadd hx hb dX6_moveBar_40 ?_
      refine lv_bipush (v := 8) hx hb dX6_moveBar_41 (by decide) ?_
      refine lv_irem hx hb dX6_moveBar_43 (by decide) ?_
      refine lv_goto (tgt := 51) hx hb dX6_moveBar_44 (by decide) ?_
      obtain ⟨mo9, emo9, h⟩ := pl_ex h
      refine va_put (D := g.1) (ci := 6) (v := .int (((Mo_letter mo6) + (Mo_state mo6 (3 : Int32).toNatClampNeg)) - ((Mo_letter mo6) + (Mo_state mo6 (3 : Int32).toNatClampNeg)) / (8 : Int32) * (8 : Int32))) (ty := .int) (C := RX6) (T := TX6) (N := 15) hx hb hts hinX6 tyX6 tyX6_ok nmX6 hown hK hP hD hS 0 rfl rfl 13 (by decide) (hts (.fieldLink RX6 68 "BarredRungsModel" "letter" "I") (List.mem_of_getElem? (i := 2) rfl)) (fun _ h9 => h9) rfl (by decide +kernel) rfl rfl (Nat.le_of_ble_eq_true rfl) dX6_moveBar_51 (fun H locs hP hD hS => ?_)
      have hP : va_P g.1 vwCl (cMo g a mo9) H := by rw [← emo9]; exact hP
      have hD : va_D A (cMo g a mo9) := by rw [← emo9]; exact hD
      cases some_i h
      exact hend _ _ _ _ _ hP hD hS (RetOK.v dX6_moveBar_54)
def fX6_barredIn_L6 (p1 : Int32) : Nat → Int32 → Mo → Option (Int32 × Mo)
  | 0, _, _ => none
  | n + 1, v2_2, mo3 =>
    (if (32 : Int32) ≤ v2_2 then
    (some ((-1 : Int32), mo3))
    else
    (bd (fX6_barred mo3) fun (r5 : Int32) =>
    (if ((r5 >>> (p1 &&& 31)) &&& (1 : Int32)) = (1 : Int32) then
    (some (v2_2, mo3))
    else
    (bd (fX6_moveBar mo3) fun (mo7 : Mo) =>
    (pl ((v2_2 + (1 : Int32))) fun (x8 : Int32) =>
    (fX6_barredIn_L6 p1 n x8 mo7))))))
def fX6_barredIn (mo : Mo) (p1 : Int32) : Option (Int32 × Mo) :=
(bd (fX6_barNow mo) fun (mo1 : Mo) =>
(fX6_barredIn_L6 p1 1000 (0 : Int32) mo1))
abbrev rX6_barredIn : Room := { frames := 3, cells := 0, slots := 0, locals := 65 }
theorem hdX6_barredIn : yX6_barredIn.cls = RX6 ∧ yX6_barredIn.cls ≠ "java/lang/invoke/MethodHandle" ∧ yX6_barredIn.cls ≠ "java/lang/invoke/VarHandle" ∧ (parseMethodDescriptor yX6_barredIn.desc).map (fun d => d.parameters.length) = some 1 := by decide +kernel
set_option maxRecDepth 100000 in
set_option maxHeartbeats 8000000 in
theorem kX6_barredIn (l : Launch) (g : GG) (a : Nat → Nat) {mo : Mo} {p1 : Int32} {res : Int32} {mo' : Mo} (h : fX6_barredIn mo p1 = some (res, mo')) : Cg l g yX6_barredIn wsX6_barredIn rX6_barredIn [.ref (a 0), .int p1] (cMo g a mo) (some (.int res)) (cMo g a mo') := by
  refine Cg_of (cc := cX6_barredIn) (maxL := 3) (ret := (some .int)) (by decide +kernel) rfl (Nat.le_of_ble_eq_true rfl) ?_
  intro p e su m args below meth c A Q ls hx hb hml hown hts hK hN hA hnm hP hD hS hl hend
  have hinX6 : ∀ w ∈ u_ws RX6 TX6 15, w ∈ wsX6_barredIn := fun _ h9 => List.mem_cons_of_mem _ (List.mem_append_right _ h9)
  unfold fX6_barredIn at h
  have hl : lv_has ls 3 [(0, .ref (a 0)), (1, .int p1)] := hl
  refine lv_aload_n hx hb dX6_barredIn_0 rfl (lv_at hl 0 rfl) ?_
  obtain ⟨mo1, kmo1, h⟩ := bd_ex h
  refine aft_w (st1 := []) rfl (runV (As := []) (rest := []) ⟨hx, hb, hml, hown, hts⟩ (kX6_barNow l g a kmo1) (cwV 0 hts gX6_barredIn_X6_barNow rfl rfl rfl hdX6_barNow ⟨Nat.le_of_ble_eq_true rfl, Nat.le_of_ble_eq_true rfl⟩) hK hN hP hD (va_recv hK hP (ci := 6) (q0 := 0) rfl rfl) rfl hl.1 rfl (Nat.le_of_ble_eq_true rfl) dX6_barredIn_1 ⟨Nat.zero_le _, Nat.zero_le _⟩) hD hS hA (fun H locs hP hD hS => ?_)
  refine lv_iconst (v := 0) hx hb dX6_barredIn_4 (by decide) ?_
  refine lv_istore_n (lv' := [(2, .int (0 : Int32)), (0, .ref (a 0)), (1, .int p1)]) hx hb dX6_barredIn_5 rfl hl (by decide) rfl (fun ls hl => ?_)
  have L6 : ∀ (n : Nat) (v2_2 : Int32) (mo3 : Mo) (H : Heap) (locs : List Loc) (ls : Array Slot), fX6_barredIn_L6 p1 n v2_2 mo3 = some (res, mo') → va_P g.1 vwCl (cMo g a mo3) H → va_D A (cMo g a mo3) → va_S A su.heap H locs → lv_has ls 3 [(0, .ref (a 0)), (1, .int p1), (2, .int v2_2)] → W p l e rX6_barredIn su m args below meth c H locs 0 0 Q (F0 m 6 ls []) := by
    intro n
    induction n with
    | zero => intro v2_2 mo3 H locs ls h hP hD hS hl; cases h
    | succ n ih =>
      intro v2_2 mo3 H locs ls h hP hD hS hl
      rw [fX6_barredIn_L6] at h
      refine lv_iload_n hx hb dX6_barredIn_6 rfl (lv_at hl 2 rfl) ?_
      refine lv_bipush (v := 32) hx hb dX6_barredIn_7 (by decide) ?_
      refine lv_icmp_ge (tgt := 36) hx hb dX6_barredIn_9 (by decide) (fun c4 => ?_) (fun c4 => ?_)
      · have h := if_t c4 h
        refine lv_iconst (v := -1) hx hb dX6_barredIn_36 (by decide) ?_
        cases some_i h
        exact hend _ _ _ _ _ hP hD hS (RetOK.i dX6_barredIn_37)
      · have h := if_f c4 h
        refine lv_aload_n hx hb dX6_barredIn_12 rfl (lv_at hl 0 rfl) ?_
        obtain ⟨r5, kr5, h⟩ := bd_ex h
        refine aft_w (st1 := [.int r5]) rfl (runV (As := []) (rest := []) ⟨hx, hb, hml, hown, hts⟩ (kX6_barred l g a kr5) (cwV 0 hts gX6_barredIn_X6_barred rfl rfl rfl hdX6_barred ⟨Nat.le_of_ble_eq_true rfl, Nat.le_of_ble_eq_true rfl⟩) hK hN hP hD (va_recv hK hP (ci := 6) (q0 := 0) rfl rfl) rfl hl.1 rfl (Nat.le_of_ble_eq_true rfl) dX6_barredIn_13 ⟨Nat.zero_le _, Nat.zero_le _⟩) hD hS hA (fun H locs hP hD hS => ?_)
        refine lv_iload_n hx hb dX6_barredIn_16 rfl (lv_at hl 1 rfl) ?_
        refine lv_ishr hx hb dX6_barredIn_17 ?_
        refine lv_iconst (v := 1) hx hb dX6_barredIn_18 (by decide) ?_
        refine lv_iand hx hb dX6_barredIn_19 ?_
        refine lv_iconst (v := 1) hx hb dX6_barredIn_20 (by decide) ?_
        refine lv_icmp_ne (tgt := 26) hx hb dX6_barredIn_21 (by decide) (fun c6 => ?_) (fun c6 => ?_)
        · have h := if_f c6 h
          refine lv_aload_n hx hb dX6_barredIn_26 rfl (lv_at hl 0 rfl) ?_
          obtain ⟨mo7, kmo7, h⟩ := bd_ex h
          refine aft_w (st1 := []) rfl (runV (As := []) (rest := []) ⟨hx, hb, hml, hown, hts⟩ (kX6_moveBar l g a kmo7) (cwV 0 hts gX6_barredIn_X6_moveBar rfl rfl rfl hdX6_moveBar ⟨Nat.le_of_ble_eq_true rfl, Nat.le_of_ble_eq_true rfl⟩) hK hN hP hD (va_recv hK hP (ci := 6) (q0 := 0) rfl rfl) rfl hl.1 rfl (Nat.le_of_ble_eq_true rfl) dX6_barredIn_27 ⟨Nat.zero_le _, Nat.zero_le _⟩) hD hS hA (fun H locs hP hD hS => ?_)
          obtain ⟨x8, ex8, h⟩ := pl_ex h
          refine lv_iinc (v := x8) (lv' := [(2, .int x8), (0, .ref (a 0)), (1, .int p1)]) hx hb dX6_barredIn_30 hl (k := 2) rfl (by rw [← ex8]; rfl) (by decide) rfl (fun ls hl => ?_)
          refine lv_goto (tgt := 6) hx hb dX6_barredIn_33 (by decide) ?_
          exact ih x8 mo7 _ _ _ h hP hD hS (lv_sub hl [1, 2, 0] rfl)
        · have h := if_t c6 h
          refine lv_iload_n hx hb dX6_barredIn_24 rfl (lv_at hl 2 rfl) ?_
          cases some_i h
          exact hend _ _ _ _ _ hP hD hS (RetOK.i dX6_barredIn_25)
  exact L6 1000 (0 : Int32) mo1 _ _ _ h hP hD hS (lv_sub hl [1, 2, 0] rfl)
def fX6_ones_L4 (p0 : Int32) : Nat → Int32 → Int32 → Option (Int32)
  | 0, _, _ => none
  | n + 1, v1_1, v2_2 =>
    (if (24 : Int32) ≤ v2_2 then
    (some v1_1)
    else
    (pl ((v1_1 + ((p0 >>> (v2_2 &&& 31)) &&& (1 : Int32)))) fun (x5 : Int32) =>
    (pl ((v2_2 + (1 : Int32))) fun (x6 : Int32) =>
    (fX6_ones_L4 p0 n x5 x6))))
def fX6_ones (p0 : Int32) : Option (Int32) :=
(bd (fX6_ones_L4 p0 1000 (0 : Int32) (0 : Int32)) fun (v1_7 : Int32) =>
(some v1_7))
abbrev rX6_ones : Room := { frames := 0, cells := 0, slots := 0, locals := 0 }
theorem hdX6_ones : yX6_ones.cls = RX6 ∧ yX6_ones.cls ≠ "java/lang/invoke/MethodHandle" ∧ yX6_ones.cls ≠ "java/lang/invoke/VarHandle" ∧ (parseMethodDescriptor yX6_ones.desc).map (fun d => d.parameters.length) = some 1 := by decide +kernel
set_option maxRecDepth 100000 in
set_option maxHeartbeats 8000000 in
theorem kX6_ones (l : Launch) (g : GG) {p0 : Int32} {res : Int32} (h : fX6_ones p0 = some res) : Cg l g yX6_ones wsX6_ones rX6_ones [.int p0] [] (some (.int res)) [] := by
  refine Cg_of (cc := cX6_ones) (maxL := 3) (ret := (some .int)) (by decide +kernel) rfl (Nat.le_of_ble_eq_true rfl) ?_
  intro p e su m args below meth c A Q ls hx hb hml hown hts hK hN hA hnm hP hD hS hl hend
  unfold fX6_ones at h
  have hl : lv_has ls 3 [(0, .int p0)] := hl
  refine lv_iconst (v := 0) hx hb dX6_ones_0 (by decide) ?_
  refine lv_istore_n (lv' := [(1, .int (0 : Int32)), (0, .int p0)]) hx hb dX6_ones_1 rfl hl (by decide) rfl (fun ls hl => ?_)
  refine lv_iconst (v := 0) hx hb dX6_ones_2 (by decide) ?_
  refine lv_istore_n (lv' := [(2, .int (0 : Int32)), (1, .int (0 : Int32)), (0, .int p0)]) hx hb dX6_ones_3 rfl hl (by decide) rfl (fun ls hl => ?_)
  have L4 : ∀ (n : Nat) (v1_1 : Int32) (v2_2 : Int32) (y1_3 : Int32) (H : Heap) (locs : List Loc) (ls : Array Slot), fX6_ones_L4 p0 n v1_1 v2_2 = some y1_3 → va_P g.1 vwCl [] H → va_D A [] → va_S A su.heap H locs → lv_has ls 3 [(0, .int p0), (1, .int v1_1), (2, .int v2_2)] → (∀ (H : Heap) (locs : List Loc) (ls : Array Slot), va_P g.1 vwCl [] H → va_D A [] → va_S A su.heap H locs → lv_has ls 3 [(1, .int y1_3)] → W p l e rX6_ones su m args below meth c H locs 0 0 Q (F0 m 24 ls [])) → W p l e rX6_ones su m args below meth c H locs 0 0 Q (F0 m 4 ls []) := by
    intro n
    induction n with
    | zero => intro v1_1 v2_2 y1_3 H locs ls h hP hD hS hl kx; cases h
    | succ n ih =>
      intro v1_1 v2_2 y1_3 H locs ls h hP hD hS hl kx
      rw [fX6_ones_L4] at h
      refine lv_iload_n hx hb dX6_ones_4 rfl (lv_at hl 2 rfl) ?_
      refine lv_bipush (v := 24) hx hb dX6_ones_5 (by decide) ?_
      refine lv_icmp_ge (tgt := 24) hx hb dX6_ones_7 (by decide) (fun c4 => ?_) (fun c4 => ?_)
      · have h := if_t c4 h
        cases some_i h
        exact kx _ _ _ hP hD hS (lv_sub hl [1] rfl)
      · have h := if_f c4 h
        refine lv_iload_n hx hb dX6_ones_10 rfl (lv_at hl 1 rfl) ?_
        refine lv_iload_n hx hb dX6_ones_11 rfl (lv_at hl 0 rfl) ?_
        refine lv_iload_n hx hb dX6_ones_12 rfl (lv_at hl 2 rfl) ?_
        refine lv_ishr hx hb dX6_ones_13 ?_
        refine lv_iconst (v := 1) hx hb dX6_ones_14 (by decide) ?_
        refine lv_iand hx hb dX6_ones_15 ?_
        refine lv_iadd hx hb dX6_ones_16 ?_
        obtain ⟨x5, ex5, h⟩ := pl_ex h
        refine lv_eqi ex5 ?_
        refine lv_istore_n (lv' := [(1, .int x5), (0, .int p0), (2, .int v2_2)]) hx hb dX6_ones_17 rfl hl (by decide) rfl (fun ls hl => ?_)
        obtain ⟨x6, ex6, h⟩ := pl_ex h
        refine lv_iinc (v := x6) (lv' := [(2, .int x6), (1, .int x5), (0, .int p0)]) hx hb dX6_ones_18 hl (k := 2) rfl (by rw [← ex6]; rfl) (by decide) rfl (fun ls hl => ?_)
        refine lv_goto (tgt := 4) hx hb dX6_ones_21 (by decide) ?_
        exact ih x5 x6 _ _ _ _ h hP hD hS (lv_sub hl [2, 1, 0] rfl) kx
  obtain ⟨v1_7, kv1_7, h⟩ := bd_ex h
  refine L4 1000 (0 : Int32) (0 : Int32) v1_7 _ _ _ kv1_7 hP hD hS (lv_sub hl [2, 1, 0] rfl) (fun H locs ls hP hD hS hl => ?_)
  refine lv_iload_n hx hb dX6_ones_24 rfl (lv_at hl 0 rfl) ?_
  cases some_i h
  exact hend _ _ _ _ _ hP hD hS (RetOK.i dX6_ones_25)
def fX6_barredMany (mo : Mo) : Option (Int32 × Mo) :=
(bd (fX6_barNow mo) fun (mo1 : Mo) =>
(bd (fX6_barred mo1) fun (r2 : Int32) =>
(bd (fX6_ones r2) fun (r3 : Int32) =>
(some (r3, mo1)))))
abbrev rX6_barredMany : Room := { frames := 3, cells := 0, slots := 0, locals := 65 }
theorem hdX6_barredMany : yX6_barredMany.cls = RX6 ∧ yX6_barredMany.cls ≠ "java/lang/invoke/MethodHandle" ∧ yX6_barredMany.cls ≠ "java/lang/invoke/VarHandle" ∧ (parseMethodDescriptor yX6_barredMany.desc).map (fun d => d.parameters.length) = some 0 := by decide +kernel
set_option maxRecDepth 100000 in
set_option maxHeartbeats 8000000 in
theorem kX6_barredMany (l : Launch) (g : GG) (a : Nat → Nat) {mo : Mo} {res : Int32} {mo' : Mo} (h : fX6_barredMany mo = some (res, mo')) : Cg l g yX6_barredMany wsX6_barredMany rX6_barredMany [.ref (a 0)] (cMo g a mo) (some (.int res)) (cMo g a mo') := by
  refine Cg_of (cc := cX6_barredMany) (maxL := 1) (ret := (some .int)) (by decide +kernel) rfl (Nat.le_of_ble_eq_true rfl) ?_
  intro p e su m args below meth c A Q ls hx hb hml hown hts hK hN hA hnm hP hD hS hl hend
  have hinX6 : ∀ w ∈ u_ws RX6 TX6 15, w ∈ wsX6_barredMany := fun _ h9 => List.mem_cons_of_mem _ (List.mem_append_right _ h9)
  unfold fX6_barredMany at h
  have hl : lv_has ls 1 [(0, .ref (a 0))] := hl
  refine lv_aload_n hx hb dX6_barredMany_0 rfl (lv_at hl 0 rfl) ?_
  obtain ⟨mo1, kmo1, h⟩ := bd_ex h
  refine aft_w (st1 := []) rfl (runV (As := []) (rest := []) ⟨hx, hb, hml, hown, hts⟩ (kX6_barNow l g a kmo1) (cwV 0 hts gX6_barredMany_X6_barNow rfl rfl rfl hdX6_barNow ⟨Nat.le_of_ble_eq_true rfl, Nat.le_of_ble_eq_true rfl⟩) hK hN hP hD (va_recv hK hP (ci := 6) (q0 := 0) rfl rfl) rfl hl.1 rfl (Nat.le_of_ble_eq_true rfl) dX6_barredMany_1 ⟨Nat.zero_le _, Nat.zero_le _⟩) hD hS hA (fun H locs hP hD hS => ?_)
  refine lv_aload_n hx hb dX6_barredMany_4 rfl (lv_at hl 0 rfl) ?_
  obtain ⟨r2, kr2, h⟩ := bd_ex h
  refine aft_w (st1 := [.int r2]) rfl (runV (As := []) (rest := []) ⟨hx, hb, hml, hown, hts⟩ (kX6_barred l g a kr2) (cwV 0 hts gX6_barredMany_X6_barred rfl rfl rfl hdX6_barred ⟨Nat.le_of_ble_eq_true rfl, Nat.le_of_ble_eq_true rfl⟩) hK hN hP hD (va_recv hK hP (ci := 6) (q0 := 0) rfl rfl) rfl hl.1 rfl (Nat.le_of_ble_eq_true rfl) dX6_barredMany_5 ⟨Nat.zero_le _, Nat.zero_le _⟩) hD hS hA (fun H locs hP hD hS => ?_)
  obtain ⟨r3, kr3, h⟩ := bd_ex h
  refine aft_e (st1 := [.int r3]) rfl (runS (As := [.int r2]) (rest := []) ⟨hx, hb, hml, hown, hts⟩ (kX6_ones l g kr3) (va_cwS 1 hts gX6_barredMany_X6_ones rfl rfl rfl hdX6_ones.2 ⟨Nat.le_of_ble_eq_true rfl, Nat.le_of_ble_eq_true rfl⟩) hK hN nilP (nilD (A := A)) rfl hl.1 rfl (Nat.le_of_ble_eq_true rfl) dX6_barredMany_8 ⟨Nat.zero_le _, Nat.zero_le _⟩) hP hS hA (fun H locs hP hS => ?_)
  cases some_i h
  exact hend _ _ _ _ _ hP hD hS (RetOK.i dX6_barredMany_11)
def fX6_beside_L4 (mo : Mo) (p1 : Int32) : Nat → Int32 → Int32 → Option (Int32)
  | 0, _, _ => none
  | n + 1, v2_1, v3_2 =>
    (ck (inb (0 : Int32) 55)
    (if (Mo_state mo (0 : Int32).toNatClampNeg) ≤ v3_2 then
    (some v2_1)
    else
    (if ((p1 >>> (v3_2 &&& 31)) &&& (1 : Int32)) = (1 : Int32) then
    (ck (inb v3_2 24)
    (pl ((v2_1 ||| (Mo_links mo v3_2.toNatClampNeg))) fun (x8 : Int32) =>
    (pl ((v3_2 + (1 : Int32))) fun (x9 : Int32) =>
    (fX6_beside_L4 mo p1 n x8 x9))))
    else
    (pl ((v2_1 ||| (0 : Int32))) fun (x6 : Int32) =>
    (pl ((v3_2 + (1 : Int32))) fun (x7 : Int32) =>
    (fX6_beside_L4 mo p1 n x6 x7))))))
def fX6_beside (mo : Mo) (p1 : Int32) : Option (Int32) :=
(bd (fX6_beside_L4 mo p1 1000 (0 : Int32) (0 : Int32)) fun (v2_10 : Int32) =>
(some v2_10))
abbrev rX6_beside : Room := { frames := 0, cells := 0, slots := 0, locals := 0 }
theorem hdX6_beside : yX6_beside.cls = RX6 ∧ yX6_beside.cls ≠ "java/lang/invoke/MethodHandle" ∧ yX6_beside.cls ≠ "java/lang/invoke/VarHandle" ∧ (parseMethodDescriptor yX6_beside.desc).map (fun d => d.parameters.length) = some 1 := by decide +kernel
set_option maxRecDepth 100000 in
set_option maxHeartbeats 8000000 in
theorem kX6_beside (l : Launch) (g : GG) (a : Nat → Nat) {mo : Mo} {p1 : Int32} {res : Int32} (h : fX6_beside mo p1 = some res) : Cg l g yX6_beside wsX6_beside rX6_beside [.ref (a 0), .int p1] (cMo g a mo) (some (.int res)) (cMo g a mo) := by
  refine Cg_of (cc := cX6_beside) (maxL := 4) (ret := (some .int)) (by decide +kernel) rfl (Nat.le_of_ble_eq_true rfl) ?_
  intro p e su m args below meth c A Q ls hx hb hml hown hts hK hN hA hnm hP hD hS hl hend
  have hinX6 : ∀ w ∈ u_ws RX6 TX6 15, w ∈ wsX6_beside := fun _ h9 => List.mem_cons_of_mem _ (List.mem_append_right _ h9)
  unfold fX6_beside at h
  have hl : lv_has ls 4 [(0, .ref (a 0)), (1, .int p1)] := hl
  refine lv_iconst (v := 0) hx hb dX6_beside_0 (by decide) ?_
  refine lv_istore_n (lv' := [(2, .int (0 : Int32)), (0, .ref (a 0)), (1, .int p1)]) hx hb dX6_beside_1 rfl hl (by decide) rfl (fun ls hl => ?_)
  refine lv_iconst (v := 0) hx hb dX6_beside_2 (by decide) ?_
  refine lv_istore_n (lv' := [(3, .int (0 : Int32)), (2, .int (0 : Int32)), (0, .ref (a 0)), (1, .int p1)]) hx hb dX6_beside_3 rfl hl (by decide) rfl (fun ls hl => ?_)
  have L4 : ∀ (n : Nat) (v2_1 : Int32) (v3_2 : Int32) (y2_3 : Int32) (H : Heap) (locs : List Loc) (ls : Array Slot), fX6_beside_L4 mo p1 n v2_1 v3_2 = some y2_3 → va_P g.1 vwCl (cMo g a mo) H → va_D A (cMo g a mo) → va_S A su.heap H locs → lv_has ls 4 [(0, .ref (a 0)), (1, .int p1), (2, .int v2_1), (3, .int v3_2)] → (∀ (H : Heap) (locs : List Loc) (ls : Array Slot), va_P g.1 vwCl (cMo g a mo) H → va_D A (cMo g a mo) → va_S A su.heap H locs → lv_has ls 4 [(2, .int y2_3)] → W p l e rX6_beside su m args below meth c H locs 0 0 Q (F0 m 42 ls [])) → W p l e rX6_beside su m args below meth c H locs 0 0 Q (F0 m 4 ls []) := by
    intro n
    induction n with
    | zero => intro v2_1 v3_2 y2_3 H locs ls h hP hD hS hl kx; cases h
    | succ n ih =>
      intro v2_1 v3_2 y2_3 H locs ls h hP hD hS hl kx
      rw [fX6_beside_L4] at h
      refine lv_iload_n hx hb dX6_beside_4 rfl (lv_at hl 3 rfl) ?_
      refine lv_aload_n hx hb dX6_beside_5 rfl (lv_at hl 0 rfl) ?_
      refine va_get (D := g.1) (ci := 6) (v := .ref (a 1)) (C := RX6) (T := TX6) (N := 15) hx hb hts hinX6 hown hK hP 0 rfl rfl 1 (by decide) (hts (.fieldLink RX6 7 "BarredRungsModel" "state" "[I") (List.mem_of_getElem? (i := 1) rfl)) (fun _ h9 => h9) rfl dX6_beside_6 ?_
      refine lv_iconst (v := 0) hx hb dX6_beside_9 (by decide) ?_
      obtain ⟨hi9, h⟩ := ck_ex h
      refine va_iald hx hb hK hP 1 0 rfl rfl (inb_in hi9) dX6_beside_10 ?_
      refine lv_icmp_ge (tgt := 42) hx hb dX6_beside_11 (by decide) (fun c4 => ?_) (fun c4 => ?_)
      · have h := if_t c4 h
        cases some_i h
        exact kx _ _ _ hP hD hS (lv_sub hl [2] rfl)
      · have h := if_f c4 h
        refine lv_iload_n hx hb dX6_beside_14 rfl (lv_at hl 2 rfl) ?_
        refine lv_iload_n hx hb dX6_beside_15 rfl (lv_at hl 1 rfl) ?_
        refine lv_iload_n hx hb dX6_beside_16 rfl (lv_at hl 3 rfl) ?_
        refine lv_ishr hx hb dX6_beside_17 ?_
        refine lv_iconst (v := 1) hx hb dX6_beside_18 (by decide) ?_
        refine lv_iand hx hb dX6_beside_19 ?_
        refine lv_iconst (v := 1) hx hb dX6_beside_20 (by decide) ?_
        refine lv_icmp_ne (tgt := 33) hx hb dX6_beside_21 (by decide) (fun c5 => ?_) (fun c5 => ?_)
        · have h := if_f c5 h
          refine lv_iconst (v := 0) hx hb dX6_beside_33 (by decide) ?_
          refine lv_ior hx hb dX6_beside_34 ?_
          obtain ⟨x6, ex6, h⟩ := pl_ex h
          refine lv_eqi ex6 ?_
          refine lv_istore_n (lv' := [(2, .int x6), (0, .ref (a 0)), (1, .int p1), (3, .int v3_2)]) hx hb dX6_beside_35 rfl hl (by decide) rfl (fun ls hl => ?_)
          obtain ⟨x7, ex7, h⟩ := pl_ex h
          refine lv_iinc (v := x7) (lv' := [(3, .int x7), (2, .int x6), (0, .ref (a 0)), (1, .int p1)]) hx hb dX6_beside_36 hl (k := 3) rfl (by rw [← ex7]; rfl) (by decide) rfl (fun ls hl => ?_)
          refine lv_goto (tgt := 4) hx hb dX6_beside_39 (by decide) ?_
          exact ih x6 x7 _ _ _ _ h hP hD hS (lv_sub hl [2, 3, 1, 0] rfl) kx
        · have h := if_t c5 h
          refine lv_aload_n hx hb dX6_beside_24 rfl (lv_at hl 0 rfl) ?_
          refine va_get (D := g.1) (ci := 6) (v := .ref (a 5)) (C := RX6) (T := TX6) (N := 15) hx hb hts hinX6 hown hK hP 0 rfl rfl 11 (by decide) (hts (.fieldLink RX6 22 "BarredRungsModel" "links" "[I") (List.mem_of_getElem? (i := 2) rfl)) (fun _ h9 => h9) rfl dX6_beside_25 ?_
          refine lv_iload_n hx hb dX6_beside_28 rfl (lv_at hl 3 rfl) ?_
          obtain ⟨hi9, h⟩ := ck_ex h
          refine va_iald hx hb hK hP 5 0 rfl rfl (inb_in hi9) dX6_beside_29 ?_
          refine lv_goto (tgt := 34) hx hb dX6_beside_30 (by decide) ?_
          refine lv_ior hx hb dX6_beside_34 ?_
          obtain ⟨x8, ex8, h⟩ := pl_ex h
          refine lv_eqi ex8 ?_
          refine lv_istore_n (lv' := [(2, .int x8), (0, .ref (a 0)), (1, .int p1), (3, .int v3_2)]) hx hb dX6_beside_35 rfl hl (by decide) rfl (fun ls hl => ?_)
          obtain ⟨x9, ex9, h⟩ := pl_ex h
          refine lv_iinc (v := x9) (lv' := [(3, .int x9), (2, .int x8), (0, .ref (a 0)), (1, .int p1)]) hx hb dX6_beside_36 hl (k := 3) rfl (by rw [← ex9]; rfl) (by decide) rfl (fun ls hl => ?_)
          refine lv_goto (tgt := 4) hx hb dX6_beside_39 (by decide) ?_
          exact ih x8 x9 _ _ _ _ h hP hD hS (lv_sub hl [2, 3, 1, 0] rfl) kx
  obtain ⟨v2_10, kv2_10, h⟩ := bd_ex h
  refine L4 1000 (0 : Int32) (0 : Int32) v2_10 _ _ _ kv2_10 hP hD hS (lv_sub hl [2, 3, 1, 0] rfl) (fun H locs ls hP hD hS hl => ?_)
  refine lv_iload_n hx hb dX6_beside_42 rfl (lv_at hl 0 rfl) ?_
  cases some_i h
  exact hend _ _ _ _ _ hP hD hS (RetOK.i dX6_beside_43)
def fX6_clearBuffer (mo : Mo) : Option (Int32 × Mo) :=
(pl (Mo_set_thrown mo (0 : Int32)) fun (mo1 : Mo) =>
(pl ((Mo_length mo1)) fun (x2 : Int32) =>
(pl (Mo_set_length mo1 (0 : Int32)) fun (mo3 : Mo) =>
(some (x2, mo3)))))
abbrev rX6_clearBuffer : Room := { frames := 0, cells := 0, slots := 0, locals := 0 }
theorem hdX6_clearBuffer : yX6_clearBuffer.cls = RX6 ∧ yX6_clearBuffer.cls ≠ "java/lang/invoke/MethodHandle" ∧ yX6_clearBuffer.cls ≠ "java/lang/invoke/VarHandle" ∧ (parseMethodDescriptor yX6_clearBuffer.desc).map (fun d => d.parameters.length) = some 0 := by decide +kernel
set_option maxRecDepth 100000 in
set_option maxHeartbeats 8000000 in
theorem kX6_clearBuffer (l : Launch) (g : GG) (a : Nat → Nat) {mo : Mo} {res : Int32} {mo' : Mo} (h : fX6_clearBuffer mo = some (res, mo')) : Cg l g yX6_clearBuffer wsX6_clearBuffer rX6_clearBuffer [.ref (a 0)] (cMo g a mo) (some (.int res)) (cMo g a mo') := by
  refine Cg_of (cc := cX6_clearBuffer) (maxL := 2) (ret := (some .int)) (by decide +kernel) rfl (Nat.le_of_ble_eq_true rfl) ?_
  intro p e su m args below meth c A Q ls hx hb hml hown hts hK hN hA hnm hP hD hS hl hend
  have hinX6 : ∀ w ∈ u_ws RX6 TX6 15, w ∈ wsX6_clearBuffer := fun _ h9 => List.mem_cons_of_mem _ (List.mem_append_right _ h9)
  unfold fX6_clearBuffer at h
  have hl : lv_has ls 2 [(0, .ref (a 0))] := hl
  refine lv_aload_n hx hb dX6_clearBuffer_0 rfl (lv_at hl 0 rfl) ?_
  refine lv_iconst (v := 0) hx hb dX6_clearBuffer_1 (by decide) ?_
  obtain ⟨mo1, emo1, h⟩ := pl_ex h
  refine va_put (D := g.1) (ci := 6) (v := .int (0 : Int32)) (ty := .int) (C := RX6) (T := TX6) (N := 15) hx hb hts hinX6 tyX6 tyX6_ok nmX6 hown hK hP hD hS 0 rfl rfl 0 (by decide) (hts (.fieldLink RX6 29 "BarredRungsModel" "thrown" "I") (List.mem_of_getElem? (i := 1) rfl)) (fun _ h9 => h9) rfl (by decide +kernel) rfl rfl (Nat.le_of_ble_eq_true rfl) dX6_clearBuffer_2 (fun H locs hP hD hS => ?_)
  have hP : va_P g.1 vwCl (cMo g a mo1) H := by rw [← emo1]; exact hP
  have hD : va_D A (cMo g a mo1) := by rw [← emo1]; exact hD
  refine lv_aload_n hx hb dX6_clearBuffer_5 rfl (lv_at hl 0 rfl) ?_
  refine va_get (D := g.1) (ci := 6) (v := .int (Mo_length mo1)) (C := RX6) (T := TX6) (N := 15) hx hb hts hinX6 hown hK hP 0 rfl rfl 7 (by decide) (hts (.fieldLink RX6 127 "BarredRungsModel" "length" "I") (List.mem_of_getElem? (i := 2) rfl)) (fun _ h9 => h9) rfl dX6_clearBuffer_6 ?_
  obtain ⟨x2, ex2, h⟩ := pl_ex h
  refine lv_eqi ex2 ?_
  refine lv_istore_n (lv' := [(1, .int x2), (0, .ref (a 0))]) hx hb dX6_clearBuffer_9 rfl hl (by decide) rfl (fun ls hl => ?_)
  refine lv_aload_n hx hb dX6_clearBuffer_10 rfl (lv_at hl 1 rfl) ?_
  refine lv_iconst (v := 0) hx hb dX6_clearBuffer_11 (by decide) ?_
  obtain ⟨mo3, emo3, h⟩ := pl_ex h
  refine va_put (D := g.1) (ci := 6) (v := .int (0 : Int32)) (ty := .int) (C := RX6) (T := TX6) (N := 15) hx hb hts hinX6 tyX6 tyX6_ok nmX6 hown hK hP hD hS 0 rfl rfl 7 (by decide) (hts (.fieldLink RX6 127 "BarredRungsModel" "length" "I") (List.mem_of_getElem? (i := 2) rfl)) (fun _ h9 => h9) rfl (by decide +kernel) rfl rfl (Nat.le_of_ble_eq_true rfl) dX6_clearBuffer_12 (fun H locs hP hD hS => ?_)
  have hP : va_P g.1 vwCl (cMo g a mo3) H := by rw [← emo3]; exact hP
  have hD : va_D A (cMo g a mo3) := by rw [← emo3]; exact hD
  refine lv_iload_n hx hb dX6_clearBuffer_15 rfl (lv_at hl 0 rfl) ?_
  cases some_i h
  exact hend _ _ _ _ _ hP hD hS (RetOK.i dX6_clearBuffer_16)
def fX6_isWord (mo : Mo) (p1 : Int32) : Option (Int32) :=
(ck (inb (0 : Int32) 55)
(bd (fX6_within p1 (0 : Int32) ((Mo_state mo (0 : Int32).toNatClampNeg) - (1 : Int32))) fun (r1 : Int32) =>
(ck (zb r1)
(some r1))))
abbrev rX6_isWord : Room := { frames := 1, cells := 0, slots := 0, locals := 22 }
theorem hdX6_isWord : yX6_isWord.cls = RX6 ∧ yX6_isWord.cls ≠ "java/lang/invoke/MethodHandle" ∧ yX6_isWord.cls ≠ "java/lang/invoke/VarHandle" ∧ (parseMethodDescriptor yX6_isWord.desc).map (fun d => d.parameters.length) = some 1 := by decide +kernel
set_option maxRecDepth 100000 in
set_option maxHeartbeats 8000000 in
theorem kX6_isWord (l : Launch) (g : GG) (a : Nat → Nat) {mo : Mo} {p1 : Int32} {res : Int32} (h : fX6_isWord mo p1 = some res) : Cg l g yX6_isWord wsX6_isWord rX6_isWord [.ref (a 0), .int p1] (cMo g a mo) (some (.int res)) (cMo g a mo) := by
  refine Cg_of (cc := cX6_isWord) (maxL := 2) (ret := (some .boolean)) (by decide +kernel) rfl (Nat.le_of_ble_eq_true rfl) ?_
  intro p e su m args below meth c A Q ls hx hb hml hown hts hK hN hA hnm hP hD hS hl hend
  have hinX6 : ∀ w ∈ u_ws RX6 TX6 15, w ∈ wsX6_isWord := fun _ h9 => List.mem_cons_of_mem _ (List.mem_append_right _ h9)
  unfold fX6_isWord at h
  have hl : lv_has ls 2 [(0, .ref (a 0)), (1, .int p1)] := hl
  refine lv_iload_n hx hb dX6_isWord_0 rfl (lv_at hl 1 rfl) ?_
  refine lv_iconst (v := 0) hx hb dX6_isWord_1 (by decide) ?_
  refine lv_aload_n hx hb dX6_isWord_2 rfl (lv_at hl 0 rfl) ?_
  refine va_get (D := g.1) (ci := 6) (v := .ref (a 1)) (C := RX6) (T := TX6) (N := 15) hx hb hts hinX6 hown hK hP 0 rfl rfl 1 (by decide) (hts (.fieldLink RX6 7 "BarredRungsModel" "state" "[I") (List.mem_of_getElem? (i := 1) rfl)) (fun _ h9 => h9) rfl dX6_isWord_3 ?_
  refine lv_iconst (v := 0) hx hb dX6_isWord_6 (by decide) ?_
  obtain ⟨hi9, h⟩ := ck_ex h
  refine va_iald hx hb hK hP 1 0 rfl rfl (inb_in hi9) dX6_isWord_7 ?_
  refine lv_iconst (v := 1) hx hb dX6_isWord_8 (by decide) ?_
  refine lv_isub hx hb dX6_isWord_9 ?_
  obtain ⟨r1, kr1, h⟩ := bd_ex h
  refine aft_e (st1 := [.int r1]) rfl (runS (As := [.int p1, .int (0 : Int32), .int ((Mo_state mo (0 : Int32).toNatClampNeg) - (1 : Int32))]) (rest := []) ⟨hx, hb, hml, hown, hts⟩ (kX6_within l g kr1) (va_cwS 3 hts gX6_isWord_X6_within rfl rfl rfl hdX6_within.2 ⟨Nat.le_of_ble_eq_true rfl, Nat.le_of_ble_eq_true rfl⟩) hK hN nilP (nilD (A := A)) rfl hl.1 rfl (Nat.le_of_ble_eq_true rfl) dX6_isWord_10 ⟨Nat.zero_le _, Nat.zero_le _⟩) hP hS hA (fun H locs hP hS => ?_)
  obtain ⟨hz9, h⟩ := ck_ex h
  cases some_i h
  exact hend _ _ _ _ _ hP hD hS (RetOK.z dX6_isWord_13 (of_decide_eq_true hz9))
def fX6_of (mo : Mo) (p1 : Int32) (p2 : Int32) : Option (Int32) :=
(ck (inb (((10 : Int32) + ((7 : Int32) * p1)) + p2) 55)
(some (Mo_state mo (((10 : Int32) + ((7 : Int32) * p1)) + p2).toNatClampNeg)))
abbrev rX6_of : Room := { frames := 0, cells := 0, slots := 0, locals := 0 }
theorem hdX6_of : yX6_of.cls = RX6 ∧ yX6_of.cls ≠ "java/lang/invoke/MethodHandle" ∧ yX6_of.cls ≠ "java/lang/invoke/VarHandle" ∧ (parseMethodDescriptor yX6_of.desc).map (fun d => d.parameters.length) = some 2 := by decide +kernel
set_option maxRecDepth 100000 in
set_option maxHeartbeats 8000000 in
theorem kX6_of (l : Launch) (g : GG) (a : Nat → Nat) {mo : Mo} {p1 : Int32} {p2 : Int32} {res : Int32} (h : fX6_of mo p1 p2 = some res) : Cg l g yX6_of wsX6_of rX6_of [.ref (a 0), .int p1, .int p2] (cMo g a mo) (some (.int res)) (cMo g a mo) := by
  refine Cg_of (cc := cX6_of) (maxL := 3) (ret := (some .int)) (by decide +kernel) rfl (Nat.le_of_ble_eq_true rfl) ?_
  intro p e su m args below meth c A Q ls hx hb hml hown hts hK hN hA hnm hP hD hS hl hend
  have hinX6 : ∀ w ∈ u_ws RX6 TX6 15, w ∈ wsX6_of := fun _ h9 => List.mem_cons_of_mem _ (List.mem_append_right _ h9)
  unfold fX6_of at h
  have hl : lv_has ls 3 [(0, .ref (a 0)), (1, .int p1), (2, .int p2)] := hl
  refine lv_aload_n hx hb dX6_of_0 rfl (lv_at hl 0 rfl) ?_
  refine va_get (D := g.1) (ci := 6) (v := .ref (a 1)) (C := RX6) (T := TX6) (N := 15) hx hb hts hinX6 hown hK hP 0 rfl rfl 1 (by decide) (hts (.fieldLink RX6 7 "BarredRungsModel" "state" "[I") (List.mem_of_getElem? (i := 1) rfl)) (fun _ h9 => h9) rfl dX6_of_1 ?_
  refine lv_bipush (v := 10) hx hb dX6_of_4 (by decide) ?_
  refine lv_bipush (v := 7) hx hb dX6_of_6 (by decide) ?_
  refine lv_iload_n hx hb dX6_of_8 rfl (lv_at hl 1 rfl) ?_
  refine lv_imul hx hb dX6_of_9 ?_
  refine lv_iadd hx hb dX6_of_10 ?_
  refine lv_iload_n hx hb dX6_of_11 rfl (lv_at hl 2 rfl) ?_
  refine lv_iadd hx hb dX6_of_12 ?_
  obtain ⟨hi9, h⟩ := ck_ex h
  refine va_iald hx hb hK hP 1 0 rfl rfl (inb_in hi9) dX6_of_13 ?_
  cases some_i h
  exact hend _ _ _ _ _ hP hD hS (RetOK.i dX6_of_14)
def fX6_isBarred (mo : Mo) (p1 : Int32) : Option (Int32 × Mo) :=
(bd (fX6_barNow mo) fun (mo1 : Mo) =>
(bd (fX6_barred mo1) fun (r2 : Int32) =>
(if ((r2 >>> (p1 &&& 31)) &&& (1 : Int32)) = (1 : Int32) then
(some ((1 : Int32), mo1))
else
(some ((0 : Int32), mo1)))))
abbrev rX6_isBarred : Room := { frames := 3, cells := 0, slots := 0, locals := 65 }
theorem hdX6_isBarred : yX6_isBarred.cls = RX6 ∧ yX6_isBarred.cls ≠ "java/lang/invoke/MethodHandle" ∧ yX6_isBarred.cls ≠ "java/lang/invoke/VarHandle" ∧ (parseMethodDescriptor yX6_isBarred.desc).map (fun d => d.parameters.length) = some 1 := by decide +kernel
set_option maxRecDepth 100000 in
set_option maxHeartbeats 8000000 in
theorem kX6_isBarred (l : Launch) (g : GG) (a : Nat → Nat) {mo : Mo} {p1 : Int32} {res : Int32} {mo' : Mo} (h : fX6_isBarred mo p1 = some (res, mo')) : Cg l g yX6_isBarred wsX6_isBarred rX6_isBarred [.ref (a 0), .int p1] (cMo g a mo) (some (.int res)) (cMo g a mo') := by
  refine Cg_of (cc := cX6_isBarred) (maxL := 2) (ret := (some .boolean)) (by decide +kernel) rfl (Nat.le_of_ble_eq_true rfl) ?_
  intro p e su m args below meth c A Q ls hx hb hml hown hts hK hN hA hnm hP hD hS hl hend
  have hinX6 : ∀ w ∈ u_ws RX6 TX6 15, w ∈ wsX6_isBarred := fun _ h9 => List.mem_cons_of_mem _ (List.mem_append_right _ h9)
  unfold fX6_isBarred at h
  have hl : lv_has ls 2 [(0, .ref (a 0)), (1, .int p1)] := hl
  refine lv_aload_n hx hb dX6_isBarred_0 rfl (lv_at hl 0 rfl) ?_
  obtain ⟨mo1, kmo1, h⟩ := bd_ex h
  refine aft_w (st1 := []) rfl (runV (As := []) (rest := []) ⟨hx, hb, hml, hown, hts⟩ (kX6_barNow l g a kmo1) (cwV 0 hts gX6_isBarred_X6_barNow rfl rfl rfl hdX6_barNow ⟨Nat.le_of_ble_eq_true rfl, Nat.le_of_ble_eq_true rfl⟩) hK hN hP hD (va_recv hK hP (ci := 6) (q0 := 0) rfl rfl) rfl hl.1 rfl (Nat.le_of_ble_eq_true rfl) dX6_isBarred_1 ⟨Nat.zero_le _, Nat.zero_le _⟩) hD hS hA (fun H locs hP hD hS => ?_)
  refine lv_aload_n hx hb dX6_isBarred_4 rfl (lv_at hl 0 rfl) ?_
  obtain ⟨r2, kr2, h⟩ := bd_ex h
  refine aft_w (st1 := [.int r2]) rfl (runV (As := []) (rest := []) ⟨hx, hb, hml, hown, hts⟩ (kX6_barred l g a kr2) (cwV 0 hts gX6_isBarred_X6_barred rfl rfl rfl hdX6_barred ⟨Nat.le_of_ble_eq_true rfl, Nat.le_of_ble_eq_true rfl⟩) hK hN hP hD (va_recv hK hP (ci := 6) (q0 := 0) rfl rfl) rfl hl.1 rfl (Nat.le_of_ble_eq_true rfl) dX6_isBarred_5 ⟨Nat.zero_le _, Nat.zero_le _⟩) hD hS hA (fun H locs hP hD hS => ?_)
  refine lv_iload_n hx hb dX6_isBarred_8 rfl (lv_at hl 1 rfl) ?_
  refine lv_ishr hx hb dX6_isBarred_9 ?_
  refine lv_iconst (v := 1) hx hb dX6_isBarred_10 (by decide) ?_
  refine lv_iand hx hb dX6_isBarred_11 ?_
  refine lv_iconst (v := 1) hx hb dX6_isBarred_12 (by decide) ?_
  refine lv_icmp_ne (tgt := 20) hx hb dX6_isBarred_13 (by decide) (fun c3 => ?_) (fun c3 => ?_)
  · have h := if_f c3 h
    refine lv_iconst (v := 0) hx hb dX6_isBarred_20 (by decide) ?_
    cases some_i h
    exact hend _ _ _ _ _ hP hD hS (RetOK.z dX6_isBarred_21 (Or.inl rfl))
  · have h := if_t c3 h
    refine lv_iconst (v := 1) hx hb dX6_isBarred_16 (by decide) ?_
    refine lv_goto (tgt := 21) hx hb dX6_isBarred_17 (by decide) ?_
    cases some_i h
    exact hend _ _ _ _ _ hP hD hS (RetOK.z dX6_isBarred_21 (Or.inr rfl))
def fX6_climberOn_L2 (mo : Mo) (p1 : Int32) : Nat → Int32 → Option (Int32)
  | 0, _ => none
  | n + 1, v2_1 =>
    (if (3 : Int32) ≤ v2_1 then
    (some (-1 : Int32))
    else
    (bd (fX6_of mo v2_1 (0 : Int32)) fun (r3 : Int32) =>
    (if r3 = p1 then
    (some v2_1)
    else
    (pl ((v2_1 + (1 : Int32))) fun (x5 : Int32) =>
    (fX6_climberOn_L2 mo p1 n x5)))))
def fX6_climberOn (mo : Mo) (p1 : Int32) : Option (Int32) :=
(fX6_climberOn_L2 mo p1 1000 (0 : Int32))
abbrev rX6_climberOn : Room := { frames := 1, cells := 0, slots := 0, locals := 22 }
theorem hdX6_climberOn : yX6_climberOn.cls = RX6 ∧ yX6_climberOn.cls ≠ "java/lang/invoke/MethodHandle" ∧ yX6_climberOn.cls ≠ "java/lang/invoke/VarHandle" ∧ (parseMethodDescriptor yX6_climberOn.desc).map (fun d => d.parameters.length) = some 1 := by decide +kernel
set_option maxRecDepth 100000 in
set_option maxHeartbeats 8000000 in
theorem kX6_climberOn (l : Launch) (g : GG) (a : Nat → Nat) {mo : Mo} {p1 : Int32} {res : Int32} (h : fX6_climberOn mo p1 = some res) : Cg l g yX6_climberOn wsX6_climberOn rX6_climberOn [.ref (a 0), .int p1] (cMo g a mo) (some (.int res)) (cMo g a mo) := by
  refine Cg_of (cc := cX6_climberOn) (maxL := 3) (ret := (some .int)) (by decide +kernel) rfl (Nat.le_of_ble_eq_true rfl) ?_
  intro p e su m args below meth c A Q ls hx hb hml hown hts hK hN hA hnm hP hD hS hl hend
  have hinX6 : ∀ w ∈ u_ws RX6 TX6 15, w ∈ wsX6_climberOn := fun _ h9 => List.mem_cons_of_mem _ (List.mem_append_right _ h9)
  unfold fX6_climberOn at h
  have hl : lv_has ls 3 [(0, .ref (a 0)), (1, .int p1)] := hl
  refine lv_iconst (v := 0) hx hb dX6_climberOn_0 (by decide) ?_
  refine lv_istore_n (lv' := [(2, .int (0 : Int32)), (0, .ref (a 0)), (1, .int p1)]) hx hb dX6_climberOn_1 rfl hl (by decide) rfl (fun ls hl => ?_)
  have L2 : ∀ (n : Nat) (v2_1 : Int32) (H : Heap) (locs : List Loc) (ls : Array Slot), fX6_climberOn_L2 mo p1 n v2_1 = some res → va_P g.1 vwCl (cMo g a mo) H → va_D A (cMo g a mo) → va_S A su.heap H locs → lv_has ls 3 [(0, .ref (a 0)), (1, .int p1), (2, .int v2_1)] → W p l e rX6_climberOn su m args below meth c H locs 0 0 Q (F0 m 2 ls []) := by
    intro n
    induction n with
    | zero => intro v2_1 H locs ls h hP hD hS hl; cases h
    | succ n ih =>
      intro v2_1 H locs ls h hP hD hS hl
      rw [fX6_climberOn_L2] at h
      refine lv_iload_n hx hb dX6_climberOn_2 rfl (lv_at hl 2 rfl) ?_
      refine lv_iconst (v := 3) hx hb dX6_climberOn_3 (by decide) ?_
      refine lv_icmp_ge (tgt := 25) hx hb dX6_climberOn_4 (by decide) (fun c2 => ?_) (fun c2 => ?_)
      · have h := if_t c2 h
        refine lv_iconst (v := -1) hx hb dX6_climberOn_25 (by decide) ?_
        cases some_i h
        exact hend _ _ _ _ _ hP hD hS (RetOK.i dX6_climberOn_26)
      · have h := if_f c2 h
        refine lv_aload_n hx hb dX6_climberOn_7 rfl (lv_at hl 0 rfl) ?_
        refine lv_iload_n hx hb dX6_climberOn_8 rfl (lv_at hl 2 rfl) ?_
        refine lv_iconst (v := 0) hx hb dX6_climberOn_9 (by decide) ?_
        obtain ⟨r3, kr3, h⟩ := bd_ex h
        refine aft_w (st1 := [.int r3]) rfl (runV (As := [.int v2_1, .int (0 : Int32)]) (rest := []) ⟨hx, hb, hml, hown, hts⟩ (kX6_of l g a kr3) (cwV 2 hts gX6_climberOn_X6_of rfl rfl rfl hdX6_of ⟨Nat.le_of_ble_eq_true rfl, Nat.le_of_ble_eq_true rfl⟩) hK hN hP hD (va_recv hK hP (ci := 6) (q0 := 0) rfl rfl) rfl hl.1 rfl (Nat.le_of_ble_eq_true rfl) dX6_climberOn_10 ⟨Nat.zero_le _, Nat.zero_le _⟩) hD hS hA (fun H locs hP hD hS => ?_)
        refine lv_iload_n hx hb dX6_climberOn_13 rfl (lv_at hl 1 rfl) ?_
        refine lv_icmp_ne (tgt := 19) hx hb dX6_climberOn_14 (by decide) (fun c4 => ?_) (fun c4 => ?_)
        · have h := if_f c4 h
          obtain ⟨x5, ex5, h⟩ := pl_ex h
          refine lv_iinc (v := x5) (lv' := [(2, .int x5), (0, .ref (a 0)), (1, .int p1)]) hx hb dX6_climberOn_19 hl (k := 2) rfl (by rw [← ex5]; rfl) (by decide) rfl (fun ls hl => ?_)
          refine lv_goto (tgt := 2) hx hb dX6_climberOn_22 (by decide) ?_
          exact ih x5 _ _ _ h hP hD hS (lv_sub hl [1, 2, 0] rfl)
        · have h := if_t c4 h
          refine lv_iload_n hx hb dX6_climberOn_17 rfl (lv_at hl 2 rfl) ?_
          cases some_i h
          exact hend _ _ _ _ _ hP hD hS (RetOK.i dX6_climberOn_18)
  exact L2 1000 (0 : Int32) _ _ _ h hP hD hS (lv_sub hl [1, 2, 0] rfl)
def fX6_reason (mo : Mo) (p1 : Int32) (p2 : Int32) : Option (Int32 × Mo) :=
(bd (fX6_of mo p1 (0 : Int32)) fun (r1 : Int32) =>
(if r1 = (-1 : Int32) then
(some ((1 : Int32), mo))
else
(bd (fX6_of mo p1 (3 : Int32)) fun (r3 : Int32) =>
(if r3 = (1 : Int32) then
(some ((2 : Int32), mo))
else
(bd (fX6_areLinked mo r1 p2) fun (r5 : Int32) =>
(if r5 = (0 : Int32) then
(some ((3 : Int32), mo))
else
(bd2 (fX6_isBarred mo p2) fun (r7 : Int32) (mo8 : Mo) =>
(if r7 = (0 : Int32) then
(bd (fX6_climberOn mo8 p2) fun (r10 : Int32) =>
(if r10 = (-1 : Int32) then
(some ((0 : Int32), mo8))
else
(some ((5 : Int32), mo8))))
else
(some ((4 : Int32), mo8))))))))))
abbrev rX6_reason : Room := { frames := 4, cells := 0, slots := 0, locals := 86 }
theorem hdX6_reason : yX6_reason.cls = RX6 ∧ yX6_reason.cls ≠ "java/lang/invoke/MethodHandle" ∧ yX6_reason.cls ≠ "java/lang/invoke/VarHandle" ∧ (parseMethodDescriptor yX6_reason.desc).map (fun d => d.parameters.length) = some 2 := by decide +kernel
set_option maxRecDepth 100000 in
set_option maxHeartbeats 8000000 in
theorem kX6_reason (l : Launch) (g : GG) (a : Nat → Nat) {mo : Mo} {p1 : Int32} {p2 : Int32} {res : Int32} {mo' : Mo} (h : fX6_reason mo p1 p2 = some (res, mo')) : Cg l g yX6_reason wsX6_reason rX6_reason [.ref (a 0), .int p1, .int p2] (cMo g a mo) (some (.int res)) (cMo g a mo') := by
  refine Cg_of (cc := cX6_reason) (maxL := 4) (ret := (some .int)) (by decide +kernel) rfl (Nat.le_of_ble_eq_true rfl) ?_
  intro p e su m args below meth c A Q ls hx hb hml hown hts hK hN hA hnm hP hD hS hl hend
  have hinX6 : ∀ w ∈ u_ws RX6 TX6 15, w ∈ wsX6_reason := fun _ h9 => List.mem_cons_of_mem _ (List.mem_append_right _ h9)
  unfold fX6_reason at h
  have hl : lv_has ls 4 [(0, .ref (a 0)), (1, .int p1), (2, .int p2)] := hl
  refine lv_aload_n hx hb dX6_reason_0 rfl (lv_at hl 0 rfl) ?_
  refine lv_iload_n hx hb dX6_reason_1 rfl (lv_at hl 1 rfl) ?_
  refine lv_iconst (v := 0) hx hb dX6_reason_2 (by decide) ?_
  obtain ⟨r1, kr1, h⟩ := bd_ex h
  refine aft_w (st1 := [.int r1]) rfl (runV (As := [.int p1, .int (0 : Int32)]) (rest := []) ⟨hx, hb, hml, hown, hts⟩ (kX6_of l g a kr1) (cwV 2 hts gX6_reason_X6_of rfl rfl rfl hdX6_of ⟨Nat.le_of_ble_eq_true rfl, Nat.le_of_ble_eq_true rfl⟩) hK hN hP hD (va_recv hK hP (ci := 6) (q0 := 0) rfl rfl) rfl hl.1 rfl (Nat.le_of_ble_eq_true rfl) dX6_reason_3 ⟨Nat.zero_le _, Nat.zero_le _⟩) hD hS hA (fun H locs hP hD hS => ?_)
  refine lv_istore_n (lv' := [(3, .int r1), (0, .ref (a 0)), (1, .int p1), (2, .int p2)]) hx hb dX6_reason_6 rfl hl (by decide) rfl (fun ls hl => ?_)
  refine lv_iload_n hx hb dX6_reason_7 rfl (lv_at hl 0 rfl) ?_
  refine lv_iconst (v := -1) hx hb dX6_reason_8 (by decide) ?_
  refine lv_icmp_ne (tgt := 14) hx hb dX6_reason_9 (by decide) (fun c2 => ?_) (fun c2 => ?_)
  · have h := if_f c2 h
    refine lv_aload_n hx hb dX6_reason_14 rfl (lv_at hl 1 rfl) ?_
    refine lv_iload_n hx hb dX6_reason_15 rfl (lv_at hl 2 rfl) ?_
    refine lv_iconst (v := 3) hx hb dX6_reason_16 (by decide) ?_
    obtain ⟨r3, kr3, h⟩ := bd_ex h
    refine aft_w (st1 := [.int r3]) rfl (runV (As := [.int p1, .int (3 : Int32)]) (rest := []) ⟨hx, hb, hml, hown, hts⟩ (kX6_of l g a kr3) (cwV 2 hts gX6_reason_X6_of rfl rfl rfl hdX6_of ⟨Nat.le_of_ble_eq_true rfl, Nat.le_of_ble_eq_true rfl⟩) hK hN hP hD (va_recv hK hP (ci := 6) (q0 := 0) rfl rfl) rfl hl.1 rfl (Nat.le_of_ble_eq_true rfl) dX6_reason_17 ⟨Nat.zero_le _, Nat.zero_le _⟩) hD hS hA (fun H locs hP hD hS => ?_)
    refine lv_iconst (v := 1) hx hb dX6_reason_20 (by decide) ?_
    refine lv_icmp_ne (tgt := 26) hx hb dX6_reason_21 (by decide) (fun c4 => ?_) (fun c4 => ?_)
    · have h := if_f c4 h
      refine lv_aload_n hx hb dX6_reason_26 rfl (lv_at hl 1 rfl) ?_
      refine lv_iload_n hx hb dX6_reason_27 rfl (lv_at hl 0 rfl) ?_
      refine lv_iload_n hx hb dX6_reason_28 rfl (lv_at hl 3 rfl) ?_
      obtain ⟨r5, kr5, h⟩ := bd_ex h
      refine aft_w (st1 := [.int r5]) rfl (runV (As := [.int r1, .int p2]) (rest := []) ⟨hx, hb, hml, hown, hts⟩ (kX6_areLinked l g a kr5) (cwV 2 hts gX6_reason_X6_areLinked rfl rfl rfl hdX6_areLinked ⟨Nat.le_of_ble_eq_true rfl, Nat.le_of_ble_eq_true rfl⟩) hK hN hP hD (va_recv hK hP (ci := 6) (q0 := 0) rfl rfl) rfl hl.1 rfl (Nat.le_of_ble_eq_true rfl) dX6_reason_29 ⟨Nat.zero_le _, Nat.zero_le _⟩) hD hS hA (fun H locs hP hD hS => ?_)
      refine lv_if_ne (tgt := 37) hx hb dX6_reason_32 (by decide) (fun c6 => ?_) (fun c6 => ?_)
      · have h := if_f c6 h
        refine lv_aload_n hx hb dX6_reason_37 rfl (lv_at hl 1 rfl) ?_
        refine lv_iload_n hx hb dX6_reason_38 rfl (lv_at hl 3 rfl) ?_
        obtain ⟨r7, mo8, kr7, h⟩ := bd2_ex h
        refine aft_w (st1 := [.int r7]) rfl (runV (As := [.int p2]) (rest := []) ⟨hx, hb, hml, hown, hts⟩ (kX6_isBarred l g a kr7) (cwV 1 hts gX6_reason_X6_isBarred rfl rfl rfl hdX6_isBarred ⟨Nat.le_of_ble_eq_true rfl, Nat.le_of_ble_eq_true rfl⟩) hK hN hP hD (va_recv hK hP (ci := 6) (q0 := 0) rfl rfl) rfl hl.1 rfl (Nat.le_of_ble_eq_true rfl) dX6_reason_39 ⟨Nat.zero_le _, Nat.zero_le _⟩) hD hS hA (fun H locs hP hD hS => ?_)
        refine lv_if_eq (tgt := 49) hx hb dX6_reason_42 (by decide) (fun c9 => ?_) (fun c9 => ?_)
        · have h := if_t c9 h
          refine lv_aload_n hx hb dX6_reason_49 rfl (lv_at hl 1 rfl) ?_
          refine lv_iload_n hx hb dX6_reason_50 rfl (lv_at hl 3 rfl) ?_
          obtain ⟨r10, kr10, h⟩ := bd_ex h
          refine aft_w (st1 := [.int r10]) rfl (runV (As := [.int p2]) (rest := []) ⟨hx, hb, hml, hown, hts⟩ (kX6_climberOn l g a kr10) (cwV 1 hts gX6_reason_X6_climberOn rfl rfl rfl hdX6_climberOn ⟨Nat.le_of_ble_eq_true rfl, Nat.le_of_ble_eq_true rfl⟩) hK hN hP hD (va_recv hK hP (ci := 6) (q0 := 0) rfl rfl) rfl hl.1 rfl (Nat.le_of_ble_eq_true rfl) dX6_reason_51 ⟨Nat.zero_le _, Nat.zero_le _⟩) hD hS hA (fun H locs hP hD hS => ?_)
          refine lv_iconst (v := -1) hx hb dX6_reason_54 (by decide) ?_
          refine lv_icmp_eq (tgt := 62) hx hb dX6_reason_55 (by decide) (fun c11 => ?_) (fun c11 => ?_)
          · have h := if_t c11 h
            refine lv_iconst (v := 0) hx hb dX6_reason_62 (by decide) ?_
            cases some_i h
            exact hend _ _ _ _ _ hP hD hS (RetOK.i dX6_reason_63)
          · have h := if_f c11 h
            refine lv_iconst (v := 5) hx hb dX6_reason_58 (by decide) ?_
            refine lv_goto (tgt := 63) hx hb dX6_reason_59 (by decide) ?_
            cases some_i h
            exact hend _ _ _ _ _ hP hD hS (RetOK.i dX6_reason_63)
        · have h := if_f c9 h
          refine lv_iconst (v := 4) hx hb dX6_reason_45 (by decide) ?_
          refine lv_goto (tgt := 63) hx hb dX6_reason_46 (by decide) ?_
          cases some_i h
          exact hend _ _ _ _ _ hP hD hS (RetOK.i dX6_reason_63)
      · have h := if_t c6 h
        refine lv_iconst (v := 3) hx hb dX6_reason_35 (by decide) ?_
        cases some_i h
        exact hend _ _ _ _ _ hP hD hS (RetOK.i dX6_reason_36)
    · have h := if_t c4 h
      refine lv_iconst (v := 2) hx hb dX6_reason_24 (by decide) ?_
      cases some_i h
      exact hend _ _ _ _ _ hP hD hS (RetOK.i dX6_reason_25)
  · have h := if_t c2 h
    refine lv_iconst (v := 1) hx hb dX6_reason_12 (by decide) ?_
    cases some_i h
    exact hend _ _ _ _ _ hP hD hS (RetOK.i dX6_reason_13)
def fX6_setOf (mo : Mo) (p1 : Int32) (p2 : Int32) (p3 : Int32) : Option (Mo) :=
(ck (inb (((10 : Int32) + ((7 : Int32) * p1)) + p2) 55)
(pl (Mo_set_state mo (upd (Mo_state mo) (((10 : Int32) + ((7 : Int32) * p1)) + p2).toNatClampNeg p3)) fun (mo1 : Mo) =>
(some mo1)))
abbrev rX6_setOf : Room := { frames := 0, cells := 0, slots := 0, locals := 0 }
theorem hdX6_setOf : yX6_setOf.cls = RX6 ∧ yX6_setOf.cls ≠ "java/lang/invoke/MethodHandle" ∧ yX6_setOf.cls ≠ "java/lang/invoke/VarHandle" ∧ (parseMethodDescriptor yX6_setOf.desc).map (fun d => d.parameters.length) = some 3 := by decide +kernel
set_option maxRecDepth 100000 in
set_option maxHeartbeats 8000000 in
theorem kX6_setOf (l : Launch) (g : GG) (a : Nat → Nat) {mo : Mo} {p1 : Int32} {p2 : Int32} {p3 : Int32} {mo' : Mo} (h : fX6_setOf mo p1 p2 p3 = some mo') : Cg l g yX6_setOf wsX6_setOf rX6_setOf [.ref (a 0), .int p1, .int p2, .int p3] (cMo g a mo) (none) (cMo g a mo') := by
  refine Cg_of (cc := cX6_setOf) (maxL := 4) (ret := none) (by decide +kernel) rfl (Nat.le_of_ble_eq_true rfl) ?_
  intro p e su m args below meth c A Q ls hx hb hml hown hts hK hN hA hnm hP hD hS hl hend
  have hinX6 : ∀ w ∈ u_ws RX6 TX6 15, w ∈ wsX6_setOf := fun _ h9 => List.mem_cons_of_mem _ (List.mem_append_right _ h9)
  unfold fX6_setOf at h
  have hl : lv_has ls 4 [(0, .ref (a 0)), (1, .int p1), (2, .int p2), (3, .int p3)] := hl
  refine lv_aload_n hx hb dX6_setOf_0 rfl (lv_at hl 0 rfl) ?_
  refine va_get (D := g.1) (ci := 6) (v := .ref (a 1)) (C := RX6) (T := TX6) (N := 15) hx hb hts hinX6 hown hK hP 0 rfl rfl 1 (by decide) (hts (.fieldLink RX6 7 "BarredRungsModel" "state" "[I") (List.mem_of_getElem? (i := 1) rfl)) (fun _ h9 => h9) rfl dX6_setOf_1 ?_
  refine lv_bipush (v := 10) hx hb dX6_setOf_4 (by decide) ?_
  refine lv_bipush (v := 7) hx hb dX6_setOf_6 (by decide) ?_
  refine lv_iload_n hx hb dX6_setOf_8 rfl (lv_at hl 1 rfl) ?_
  refine lv_imul hx hb dX6_setOf_9 ?_
  refine lv_iadd hx hb dX6_setOf_10 ?_
  refine lv_iload_n hx hb dX6_setOf_11 rfl (lv_at hl 2 rfl) ?_
  refine lv_iadd hx hb dX6_setOf_12 ?_
  refine lv_iload_n hx hb dX6_setOf_13 rfl (lv_at hl 3 rfl) ?_
  obtain ⟨hi9, h⟩ := ck_ex h
  obtain ⟨mo1, emo1, h⟩ := pl_ex h
  refine va_iast hx hb hK hP hD hS 1 0 rfl rfl (inb_in hi9) dX6_setOf_14 (fun H locs hP hD hS => ?_)
  have hP : va_P g.1 vwCl (cMo g a mo1) H := by rw [← emo1]; exact hP
  have hD : va_D A (cMo g a mo1) := by rw [← emo1]; exact hD
  cases some_i h
  exact hend _ _ _ _ _ hP hD hS (RetOK.v dX6_setOf_15)
def fX6_takeOff (mo : Mo) (p1 : Int32) : Option (Mo) :=
(bd (fX6_setOf mo p1 (0 : Int32) (-1 : Int32)) fun (mo1 : Mo) =>
(bd (fX6_setOf mo1 p1 (3 : Int32) (0 : Int32)) fun (mo2 : Mo) =>
(some mo2)))
abbrev rX6_takeOff : Room := { frames := 1, cells := 0, slots := 0, locals := 23 }
theorem hdX6_takeOff : yX6_takeOff.cls = RX6 ∧ yX6_takeOff.cls ≠ "java/lang/invoke/MethodHandle" ∧ yX6_takeOff.cls ≠ "java/lang/invoke/VarHandle" ∧ (parseMethodDescriptor yX6_takeOff.desc).map (fun d => d.parameters.length) = some 1 := by decide +kernel
set_option maxRecDepth 100000 in
set_option maxHeartbeats 8000000 in
theorem kX6_takeOff (l : Launch) (g : GG) (a : Nat → Nat) {mo : Mo} {p1 : Int32} {mo' : Mo} (h : fX6_takeOff mo p1 = some mo') : Cg l g yX6_takeOff wsX6_takeOff rX6_takeOff [.ref (a 0), .int p1] (cMo g a mo) (none) (cMo g a mo') := by
  refine Cg_of (cc := cX6_takeOff) (maxL := 2) (ret := none) (by decide +kernel) rfl (Nat.le_of_ble_eq_true rfl) ?_
  intro p e su m args below meth c A Q ls hx hb hml hown hts hK hN hA hnm hP hD hS hl hend
  have hinX6 : ∀ w ∈ u_ws RX6 TX6 15, w ∈ wsX6_takeOff := fun _ h9 => List.mem_cons_of_mem _ (List.mem_append_right _ h9)
  unfold fX6_takeOff at h
  have hl : lv_has ls 2 [(0, .ref (a 0)), (1, .int p1)] := hl
  refine lv_aload_n hx hb dX6_takeOff_0 rfl (lv_at hl 0 rfl) ?_
  refine lv_iload_n hx hb dX6_takeOff_1 rfl (lv_at hl 1 rfl) ?_
  refine lv_iconst (v := 0) hx hb dX6_takeOff_2 (by decide) ?_
  refine lv_iconst (v := -1) hx hb dX6_takeOff_3 (by decide) ?_
  obtain ⟨mo1, kmo1, h⟩ := bd_ex h
  refine aft_w (st1 := []) rfl (runV (As := [.int p1, .int (0 : Int32), .int (-1 : Int32)]) (rest := []) ⟨hx, hb, hml, hown, hts⟩ (kX6_setOf l g a kmo1) (cwV 3 hts gX6_takeOff_X6_setOf rfl rfl rfl hdX6_setOf ⟨Nat.le_of_ble_eq_true rfl, Nat.le_of_ble_eq_true rfl⟩) hK hN hP hD (va_recv hK hP (ci := 6) (q0 := 0) rfl rfl) rfl hl.1 rfl (Nat.le_of_ble_eq_true rfl) dX6_takeOff_4 ⟨Nat.zero_le _, Nat.zero_le _⟩) hD hS hA (fun H locs hP hD hS => ?_)
  refine lv_aload_n hx hb dX6_takeOff_7 rfl (lv_at hl 0 rfl) ?_
  refine lv_iload_n hx hb dX6_takeOff_8 rfl (lv_at hl 1 rfl) ?_
  refine lv_iconst (v := 3) hx hb dX6_takeOff_9 (by decide) ?_
  refine lv_iconst (v := 0) hx hb dX6_takeOff_10 (by decide) ?_
  obtain ⟨mo2, kmo2, h⟩ := bd_ex h
  refine aft_w (st1 := []) rfl (runV (As := [.int p1, .int (3 : Int32), .int (0 : Int32)]) (rest := []) ⟨hx, hb, hml, hown, hts⟩ (kX6_setOf l g a kmo2) (cwV 3 hts gX6_takeOff_X6_setOf rfl rfl rfl hdX6_setOf ⟨Nat.le_of_ble_eq_true rfl, Nat.le_of_ble_eq_true rfl⟩) hK hN hP hD (va_recv hK hP (ci := 6) (q0 := 0) rfl rfl) rfl hl.1 rfl (Nat.le_of_ble_eq_true rfl) dX6_takeOff_11 ⟨Nat.zero_le _, Nat.zero_le _⟩) hD hS hA (fun H locs hP hD hS => ?_)
  cases some_i h
  exact hend _ _ _ _ _ hP hD hS (RetOK.v dX6_takeOff_14)
def fX6_goes (mo : Mo) (p1 : Int32) (p2 : Int32) : Option (Int32 × Mo) :=
(ck (inb (6 : Int32) 55)
(ck (inb (6 : Int32) 55)
(pl (Mo_set_state mo (upd (Mo_state mo) (6 : Int32).toNatClampNeg ((Mo_state mo (6 : Int32).toNatClampNeg) + (1 : Int32)))) fun (mo1 : Mo) =>
(bd (fX6_setOf mo1 p1 (0 : Int32) p2) fun (mo2 : Mo) =>
(bd (fX6_setOf mo2 p1 (3 : Int32) (1 : Int32)) fun (mo3 : Mo) =>
(bd (fX6_of mo3 p1 (4 : Int32)) fun (r4 : Int32) =>
(bd (fX6_setOf mo3 p1 (4 : Int32) (r4 + (1 : Int32))) fun (mo5 : Mo) =>
(bd (fX6_of mo5 p1 (2 : Int32)) fun (r6 : Int32) =>
(if p2 = r6 then
(ck (inb (7 : Int32) 55)
(ck (inb (7 : Int32) 55)
(pl (Mo_set_state mo5 (upd (Mo_state mo5) (7 : Int32).toNatClampNeg ((Mo_state mo5 (7 : Int32).toNatClampNeg) + (1 : Int32)))) fun (mo8 : Mo) =>
(ck (inb (9 : Int32) 55)
(bd (fX6_of mo8 p1 (4 : Int32)) fun (r9 : Int32) =>
(ck (inb (9 : Int32) 55)
(pl (Mo_set_state mo8 (upd (Mo_state mo8) (9 : Int32).toNatClampNeg ((Mo_state mo8 (9 : Int32).toNatClampNeg) + r9))) fun (mo10 : Mo) =>
(bd (fX6_of mo10 p1 (5 : Int32)) fun (r11 : Int32) =>
(bd (fX6_setOf mo10 p1 (5 : Int32) (r11 + (1 : Int32))) fun (mo12 : Mo) =>
(bd (fX6_takeOff mo12 p1) fun (mo13 : Mo) =>
(some ((1 : Int32), mo13))))))))))))
else
(some ((0 : Int32), mo5)))))))))))
abbrev rX6_goes : Room := { frames := 2, cells := 0, slots := 0, locals := 44 }
theorem hdX6_goes : yX6_goes.cls = RX6 ∧ yX6_goes.cls ≠ "java/lang/invoke/MethodHandle" ∧ yX6_goes.cls ≠ "java/lang/invoke/VarHandle" ∧ (parseMethodDescriptor yX6_goes.desc).map (fun d => d.parameters.length) = some 2 := by decide +kernel
set_option maxRecDepth 100000 in
set_option maxHeartbeats 8000000 in
theorem kX6_goes (l : Launch) (g : GG) (a : Nat → Nat) {mo : Mo} {p1 : Int32} {p2 : Int32} {res : Int32} {mo' : Mo} (h : fX6_goes mo p1 p2 = some (res, mo')) : Cg l g yX6_goes wsX6_goes rX6_goes [.ref (a 0), .int p1, .int p2] (cMo g a mo) (some (.int res)) (cMo g a mo') := by
  refine Cg_of (cc := cX6_goes) (maxL := 3) (ret := (some .int)) (by decide +kernel) rfl (Nat.le_of_ble_eq_true rfl) ?_
  intro p e su m args below meth c A Q ls hx hb hml hown hts hK hN hA hnm hP hD hS hl hend
  have hinX6 : ∀ w ∈ u_ws RX6 TX6 15, w ∈ wsX6_goes := fun _ h9 => List.mem_cons_of_mem _ (List.mem_append_right _ h9)
  unfold fX6_goes at h
  have hl : lv_has ls 3 [(0, .ref (a 0)), (1, .int p1), (2, .int p2)] := hl
  refine lv_aload_n hx hb dX6_goes_0 rfl (lv_at hl 0 rfl) ?_
  refine va_get (D := g.1) (ci := 6) (v := .ref (a 1)) (C := RX6) (T := TX6) (N := 15) hx hb hts hinX6 hown hK hP 0 rfl rfl 1 (by decide) (hts (.fieldLink RX6 7 "BarredRungsModel" "state" "[I") (List.mem_of_getElem? (i := 1) rfl)) (fun _ h9 => h9) rfl dX6_goes_1 ?_
  refine lv_bipush (v := 6) hx hb dX6_goes_4 (by decide) ?_
  refine lv_dup2_11 hx hb dX6_goes_6 rfl rfl ?_
  obtain ⟨hi9, h⟩ := ck_ex h
  refine va_iald hx hb hK hP 1 0 rfl rfl (inb_in hi9) dX6_goes_7 ?_
  refine lv_iconst (v := 1) hx hb dX6_goes_8 (by decide) ?_
  refine lv_iadd hx hb dX6_goes_9 ?_
  obtain ⟨hi9, h⟩ := ck_ex h
  obtain ⟨mo1, emo1, h⟩ := pl_ex h
  refine va_iast hx hb hK hP hD hS 1 0 rfl rfl (inb_in hi9) dX6_goes_10 (fun H locs hP hD hS => ?_)
  have hP : va_P g.1 vwCl (cMo g a mo1) H := by rw [← emo1]; exact hP
  have hD : va_D A (cMo g a mo1) := by rw [← emo1]; exact hD
  refine lv_aload_n hx hb dX6_goes_11 rfl (lv_at hl 0 rfl) ?_
  refine lv_iload_n hx hb dX6_goes_12 rfl (lv_at hl 1 rfl) ?_
  refine lv_iconst (v := 0) hx hb dX6_goes_13 (by decide) ?_
  refine lv_iload_n hx hb dX6_goes_14 rfl (lv_at hl 2 rfl) ?_
  obtain ⟨mo2, kmo2, h⟩ := bd_ex h
  refine aft_w (st1 := []) rfl (runV (As := [.int p1, .int (0 : Int32), .int p2]) (rest := []) ⟨hx, hb, hml, hown, hts⟩ (kX6_setOf l g a kmo2) (cwV 3 hts gX6_goes_X6_setOf rfl rfl rfl hdX6_setOf ⟨Nat.le_of_ble_eq_true rfl, Nat.le_of_ble_eq_true rfl⟩) hK hN hP hD (va_recv hK hP (ci := 6) (q0 := 0) rfl rfl) rfl hl.1 rfl (Nat.le_of_ble_eq_true rfl) dX6_goes_15 ⟨Nat.zero_le _, Nat.zero_le _⟩) hD hS hA (fun H locs hP hD hS => ?_)
  refine lv_aload_n hx hb dX6_goes_18 rfl (lv_at hl 0 rfl) ?_
  refine lv_iload_n hx hb dX6_goes_19 rfl (lv_at hl 1 rfl) ?_
  refine lv_iconst (v := 3) hx hb dX6_goes_20 (by decide) ?_
  refine lv_iconst (v := 1) hx hb dX6_goes_21 (by decide) ?_
  obtain ⟨mo3, kmo3, h⟩ := bd_ex h
  refine aft_w (st1 := []) rfl (runV (As := [.int p1, .int (3 : Int32), .int (1 : Int32)]) (rest := []) ⟨hx, hb, hml, hown, hts⟩ (kX6_setOf l g a kmo3) (cwV 3 hts gX6_goes_X6_setOf rfl rfl rfl hdX6_setOf ⟨Nat.le_of_ble_eq_true rfl, Nat.le_of_ble_eq_true rfl⟩) hK hN hP hD (va_recv hK hP (ci := 6) (q0 := 0) rfl rfl) rfl hl.1 rfl (Nat.le_of_ble_eq_true rfl) dX6_goes_22 ⟨Nat.zero_le _, Nat.zero_le _⟩) hD hS hA (fun H locs hP hD hS => ?_)
  refine lv_aload_n hx hb dX6_goes_25 rfl (lv_at hl 0 rfl) ?_
  refine lv_iload_n hx hb dX6_goes_26 rfl (lv_at hl 1 rfl) ?_
  refine lv_iconst (v := 4) hx hb dX6_goes_27 (by decide) ?_
  refine lv_aload_n hx hb dX6_goes_28 rfl (lv_at hl 0 rfl) ?_
  refine lv_iload_n hx hb dX6_goes_29 rfl (lv_at hl 1 rfl) ?_
  refine lv_iconst (v := 4) hx hb dX6_goes_30 (by decide) ?_
  obtain ⟨r4, kr4, h⟩ := bd_ex h
  refine aft_w (st1 := [.int r4, .int (4 : Int32), .int p1, .ref (a 0)]) rfl (runV (As := [.int p1, .int (4 : Int32)]) (rest := [.int (4 : Int32), .int p1, .ref (a 0)]) ⟨hx, hb, hml, hown, hts⟩ (kX6_of l g a kr4) (cwV 2 hts gX6_goes_X6_of rfl rfl rfl hdX6_of ⟨Nat.le_of_ble_eq_true rfl, Nat.le_of_ble_eq_true rfl⟩) hK hN hP hD (va_recv hK hP (ci := 6) (q0 := 0) rfl rfl) rfl hl.1 rfl (Nat.le_of_ble_eq_true rfl) dX6_goes_31 ⟨Nat.zero_le _, Nat.zero_le _⟩) hD hS hA (fun H locs hP hD hS => ?_)
  refine lv_iconst (v := 1) hx hb dX6_goes_34 (by decide) ?_
  refine lv_iadd hx hb dX6_goes_35 ?_
  obtain ⟨mo5, kmo5, h⟩ := bd_ex h
  refine aft_w (st1 := []) rfl (runV (As := [.int p1, .int (4 : Int32), .int (r4 + (1 : Int32))]) (rest := []) ⟨hx, hb, hml, hown, hts⟩ (kX6_setOf l g a kmo5) (cwV 3 hts gX6_goes_X6_setOf rfl rfl rfl hdX6_setOf ⟨Nat.le_of_ble_eq_true rfl, Nat.le_of_ble_eq_true rfl⟩) hK hN hP hD (va_recv hK hP (ci := 6) (q0 := 0) rfl rfl) rfl hl.1 rfl (Nat.le_of_ble_eq_true rfl) dX6_goes_36 ⟨Nat.zero_le _, Nat.zero_le _⟩) hD hS hA (fun H locs hP hD hS => ?_)
  refine lv_iload_n hx hb dX6_goes_39 rfl (lv_at hl 2 rfl) ?_
  refine lv_aload_n hx hb dX6_goes_40 rfl (lv_at hl 0 rfl) ?_
  refine lv_iload_n hx hb dX6_goes_41 rfl (lv_at hl 1 rfl) ?_
  refine lv_iconst (v := 2) hx hb dX6_goes_42 (by decide) ?_
  obtain ⟨r6, kr6, h⟩ := bd_ex h
  refine aft_w (st1 := [.int r6, .int p2]) rfl (runV (As := [.int p1, .int (2 : Int32)]) (rest := [.int p2]) ⟨hx, hb, hml, hown, hts⟩ (kX6_of l g a kr6) (cwV 2 hts gX6_goes_X6_of rfl rfl rfl hdX6_of ⟨Nat.le_of_ble_eq_true rfl, Nat.le_of_ble_eq_true rfl⟩) hK hN hP hD (va_recv hK hP (ci := 6) (q0 := 0) rfl rfl) rfl hl.1 rfl (Nat.le_of_ble_eq_true rfl) dX6_goes_43 ⟨Nat.zero_le _, Nat.zero_le _⟩) hD hS hA (fun H locs hP hD hS => ?_)
  refine lv_icmp_eq (tgt := 51) hx hb dX6_goes_46 (by decide) (fun c7 => ?_) (fun c7 => ?_)
  · have h := if_t c7 h
    refine lv_aload_n hx hb dX6_goes_51 rfl (lv_at hl 0 rfl) ?_
    refine va_get (D := g.1) (ci := 6) (v := .ref (a 1)) (C := RX6) (T := TX6) (N := 15) hx hb hts hinX6 hown hK hP 0 rfl rfl 1 (by decide) (hts (.fieldLink RX6 7 "BarredRungsModel" "state" "[I") (List.mem_of_getElem? (i := 1) rfl)) (fun _ h9 => h9) rfl dX6_goes_52 ?_
    refine lv_bipush (v := 7) hx hb dX6_goes_55 (by decide) ?_
    refine lv_dup2_11 hx hb dX6_goes_57 rfl rfl ?_
    obtain ⟨hi9, h⟩ := ck_ex h
    refine va_iald hx hb hK hP 1 0 rfl rfl (inb_in hi9) dX6_goes_58 ?_
    refine lv_iconst (v := 1) hx hb dX6_goes_59 (by decide) ?_
    refine lv_iadd hx hb dX6_goes_60 ?_
    obtain ⟨hi9, h⟩ := ck_ex h
    obtain ⟨mo8, emo8, h⟩ := pl_ex h
    refine va_iast hx hb hK hP hD hS 1 0 rfl rfl (inb_in hi9) dX6_goes_61 (fun H locs hP hD hS => ?_)
    have hP : va_P g.1 vwCl (cMo g a mo8) H := by rw [← emo8]; exact hP
    have hD : va_D A (cMo g a mo8) := by rw [← emo8]; exact hD
    refine lv_aload_n hx hb dX6_goes_62 rfl (lv_at hl 0 rfl) ?_
    refine va_get (D := g.1) (ci := 6) (v := .ref (a 1)) (C := RX6) (T := TX6) (N := 15) hx hb hts hinX6 hown hK hP 0 rfl rfl 1 (by decide) (hts (.fieldLink RX6 7 "BarredRungsModel" "state" "[I") (List.mem_of_getElem? (i := 1) rfl)) (fun _ h9 => h9) rfl dX6_goes_63 ?_
    refine lv_bipush (v := 9) hx hb dX6_goes_66 (by decide) ?_
    refine lv_dup2_11 hx hb dX6_goes_68 rfl rfl ?_
    obtain ⟨hi9, h⟩ := ck_ex h
    refine va_iald hx hb hK hP 1 0 rfl rfl (inb_in hi9) dX6_goes_69 ?_
    refine lv_aload_n hx hb dX6_goes_70 rfl (lv_at hl 0 rfl) ?_
    refine lv_iload_n hx hb dX6_goes_71 rfl (lv_at hl 1 rfl) ?_
    refine lv_iconst (v := 4) hx hb dX6_goes_72 (by decide) ?_
    obtain ⟨r9, kr9, h⟩ := bd_ex h
    refine aft_w (st1 := [.int r9, .int (Mo_state mo8 (9 : Int32).toNatClampNeg), .int (9 : Int32), .ref (a 1)]) rfl (runV (As := [.int p1, .int (4 : Int32)]) (rest := [.int (Mo_state mo8 (9 : Int32).toNatClampNeg), .int (9 : Int32), .ref (a 1)]) ⟨hx, hb, hml, hown, hts⟩ (kX6_of l g a kr9) (cwV 2 hts gX6_goes_X6_of rfl rfl rfl hdX6_of ⟨Nat.le_of_ble_eq_true rfl, Nat.le_of_ble_eq_true rfl⟩) hK hN hP hD (va_recv hK hP (ci := 6) (q0 := 0) rfl rfl) rfl hl.1 rfl (Nat.le_of_ble_eq_true rfl) dX6_goes_73 ⟨Nat.zero_le _, Nat.zero_le _⟩) hD hS hA (fun H locs hP hD hS => ?_)
    refine lv_iadd hx hb dX6_goes_76 ?_
    obtain ⟨hi9, h⟩ := ck_ex h
    obtain ⟨mo10, emo10, h⟩ := pl_ex h
    refine va_iast hx hb hK hP hD hS 1 0 rfl rfl (inb_in hi9) dX6_goes_77 (fun H locs hP hD hS => ?_)
    have hP : va_P g.1 vwCl (cMo g a mo10) H := by rw [← emo10]; exact hP
    have hD : va_D A (cMo g a mo10) := by rw [← emo10]; exact hD
    refine lv_aload_n hx hb dX6_goes_78 rfl (lv_at hl 0 rfl) ?_
    refine lv_iload_n hx hb dX6_goes_79 rfl (lv_at hl 1 rfl) ?_
    refine lv_iconst (v := 5) hx hb dX6_goes_80 (by decide) ?_
    refine lv_aload_n hx hb dX6_goes_81 rfl (lv_at hl 0 rfl) ?_
    refine lv_iload_n hx hb dX6_goes_82 rfl (lv_at hl 1 rfl) ?_
    refine lv_iconst (v := 5) hx hb dX6_goes_83 (by decide) ?_
    obtain ⟨r11, kr11, h⟩ := bd_ex h
    refine aft_w (st1 := [.int r11, .int (5 : Int32), .int p1, .ref (a 0)]) rfl (runV (As := [.int p1, .int (5 : Int32)]) (rest := [.int (5 : Int32), .int p1, .ref (a 0)]) ⟨hx, hb, hml, hown, hts⟩ (kX6_of l g a kr11) (cwV 2 hts gX6_goes_X6_of rfl rfl rfl hdX6_of ⟨Nat.le_of_ble_eq_true rfl, Nat.le_of_ble_eq_true rfl⟩) hK hN hP hD (va_recv hK hP (ci := 6) (q0 := 0) rfl rfl) rfl hl.1 rfl (Nat.le_of_ble_eq_true rfl) dX6_goes_84 ⟨Nat.zero_le _, Nat.zero_le _⟩) hD hS hA (fun H locs hP hD hS => ?_)
    refine lv_iconst (v := 1) hx hb dX6_goes_87 (by decide) ?_
    refine lv_iadd hx hb dX6_goes_88 ?_
    obtain ⟨mo12, kmo12, h⟩ := bd_ex h
    refine aft_w (st1 := []) rfl (runV (As := [.int p1, .int (5 : Int32), .int (r11 + (1 : Int32))]) (rest := []) ⟨hx, hb, hml, hown, hts⟩ (kX6_setOf l g a kmo12) (cwV 3 hts gX6_goes_X6_setOf rfl rfl rfl hdX6_setOf ⟨Nat.le_of_ble_eq_true rfl, Nat.le_of_ble_eq_true rfl⟩) hK hN hP hD (va_recv hK hP (ci := 6) (q0 := 0) rfl rfl) rfl hl.1 rfl (Nat.le_of_ble_eq_true rfl) dX6_goes_89 ⟨Nat.zero_le _, Nat.zero_le _⟩) hD hS hA (fun H locs hP hD hS => ?_)
    refine lv_aload_n hx hb dX6_goes_92 rfl (lv_at hl 0 rfl) ?_
    refine lv_iload_n hx hb dX6_goes_93 rfl (lv_at hl 1 rfl) ?_
    obtain ⟨mo13, kmo13, h⟩ := bd_ex h
    refine aft_w (st1 := []) rfl (runV (As := [.int p1]) (rest := []) ⟨hx, hb, hml, hown, hts⟩ (kX6_takeOff l g a kmo13) (cwV 1 hts gX6_goes_X6_takeOff rfl rfl rfl hdX6_takeOff ⟨Nat.le_of_ble_eq_true rfl, Nat.le_of_ble_eq_true rfl⟩) hK hN hP hD (va_recv hK hP (ci := 6) (q0 := 0) rfl rfl) rfl hl.1 rfl (Nat.le_of_ble_eq_true rfl) dX6_goes_94 ⟨Nat.zero_le _, Nat.zero_le _⟩) hD hS hA (fun H locs hP hD hS => ?_)
    refine lv_iconst (v := 1) hx hb dX6_goes_97 (by decide) ?_
    cases some_i h
    exact hend _ _ _ _ _ hP hD hS (RetOK.i dX6_goes_98)
  · have h := if_f c7 h
    refine lv_iconst (v := 0) hx hb dX6_goes_49 (by decide) ?_
    cases some_i h
    exact hend _ _ _ _ _ hP hD hS (RetOK.i dX6_goes_50)
def fX6_climb (mo : Mo) (p1 : Int32) (p2 : Int32) : Option (Int32 × Mo) :=
(pl (Mo_set_thrown mo (0 : Int32)) fun (mo1 : Mo) =>
(bd (fX6_isClimber p1) fun (r2 : Int32) =>
(if r2 = (0 : Int32) then
(bd2 (fX6_fails mo1 (1 : Int32)) fun (r4 : Int32) (mo5 : Mo) =>
(some (r4, mo5)))
else
(bd (fX6_isWord mo1 p2) fun (r6 : Int32) =>
(if r6 = (0 : Int32) then
(bd2 (fX6_fails mo1 (1 : Int32)) fun (r16 : Int32) (mo17 : Mo) =>
(some (r16, mo17)))
else
(bd2 (fX6_reason mo1 p1 p2) fun (r8 : Int32) (mo9 : Mo) =>
(if r8 = (0 : Int32) then
(bd (fX6_save mo9) fun (mo11 : Mo) =>
(bd2 (fX6_goes mo11 p1 p2) fun (r12 : Int32) (mo13 : Mo) =>
(some (r12, mo13))))
else
(bd2 (fX6_fails mo9 (2 : Int32)) fun (r14 : Int32) (mo15 : Mo) =>
(some (r14, mo15))))))))))
abbrev rX6_climb : Room := { frames := 5, cells := 0, slots := 0, locals := 109 }
theorem hdX6_climb : yX6_climb.cls = RX6 ∧ yX6_climb.cls ≠ "java/lang/invoke/MethodHandle" ∧ yX6_climb.cls ≠ "java/lang/invoke/VarHandle" ∧ (parseMethodDescriptor yX6_climb.desc).map (fun d => d.parameters.length) = some 2 := by decide +kernel
set_option maxRecDepth 100000 in
set_option maxHeartbeats 8000000 in
theorem kX6_climb (l : Launch) (g : GG) (a : Nat → Nat) {mo : Mo} {p1 : Int32} {p2 : Int32} {res : Int32} {mo' : Mo} (h : fX6_climb mo p1 p2 = some (res, mo')) : Cg l g yX6_climb wsX6_climb rX6_climb [.ref (a 0), .int p1, .int p2] (cMo g a mo) (some (.int res)) (cMo g a mo') := by
  refine Cg_of (cc := cX6_climb) (maxL := 3) (ret := (some .int)) (by decide +kernel) rfl (Nat.le_of_ble_eq_true rfl) ?_
  intro p e su m args below meth c A Q ls hx hb hml hown hts hK hN hA hnm hP hD hS hl hend
  have hinX6 : ∀ w ∈ u_ws RX6 TX6 15, w ∈ wsX6_climb := fun _ h9 => List.mem_cons_of_mem _ (List.mem_append_right _ h9)
  unfold fX6_climb at h
  have hl : lv_has ls 3 [(0, .ref (a 0)), (1, .int p1), (2, .int p2)] := hl
  refine lv_aload_n hx hb dX6_climb_0 rfl (lv_at hl 0 rfl) ?_
  refine lv_iconst (v := 0) hx hb dX6_climb_1 (by decide) ?_
  obtain ⟨mo1, emo1, h⟩ := pl_ex h
  refine va_put (D := g.1) (ci := 6) (v := .int (0 : Int32)) (ty := .int) (C := RX6) (T := TX6) (N := 15) hx hb hts hinX6 tyX6 tyX6_ok nmX6 hown hK hP hD hS 0 rfl rfl 0 (by decide) (hts (.fieldLink RX6 29 "BarredRungsModel" "thrown" "I") (List.mem_of_getElem? (i := 1) rfl)) (fun _ h9 => h9) rfl (by decide +kernel) rfl rfl (Nat.le_of_ble_eq_true rfl) dX6_climb_2 (fun H locs hP hD hS => ?_)
  have hP : va_P g.1 vwCl (cMo g a mo1) H := by rw [← emo1]; exact hP
  have hD : va_D A (cMo g a mo1) := by rw [← emo1]; exact hD
  refine lv_iload_n hx hb dX6_climb_5 rfl (lv_at hl 1 rfl) ?_
  obtain ⟨r2, kr2, h⟩ := bd_ex h
  refine aft_e (st1 := [.int r2]) rfl (runS (As := [.int p1]) (rest := []) ⟨hx, hb, hml, hown, hts⟩ (kX6_isClimber l g kr2) (va_cwS 1 hts gX6_climb_X6_isClimber rfl rfl rfl hdX6_isClimber.2 ⟨Nat.le_of_ble_eq_true rfl, Nat.le_of_ble_eq_true rfl⟩) hK hN nilP (nilD (A := A)) rfl hl.1 rfl (Nat.le_of_ble_eq_true rfl) dX6_climb_6 ⟨Nat.zero_le _, Nat.zero_le _⟩) hP hS hA (fun H locs hP hS => ?_)
  refine lv_if_eq (tgt := 20) hx hb dX6_climb_9 (by decide) (fun c3 => ?_) (fun c3 => ?_)
  · have h := if_t c3 h
    refine lv_aload_n hx hb dX6_climb_20 rfl (lv_at hl 0 rfl) ?_
    refine lv_iconst (v := 1) hx hb dX6_climb_21 (by decide) ?_
    obtain ⟨r4, mo5, kr4, h⟩ := bd2_ex h
    refine aft_w (st1 := [.int r4]) rfl (runV (As := [.int (1 : Int32)]) (rest := []) ⟨hx, hb, hml, hown, hts⟩ (kX6_fails l g a kr4) (cwV 1 hts gX6_climb_X6_fails rfl rfl rfl hdX6_fails ⟨Nat.le_of_ble_eq_true rfl, Nat.le_of_ble_eq_true rfl⟩) hK hN hP hD (va_recv hK hP (ci := 6) (q0 := 0) rfl rfl) rfl hl.1 rfl (Nat.le_of_ble_eq_true rfl) dX6_climb_22 ⟨Nat.zero_le _, Nat.zero_le _⟩) hD hS hA (fun H locs hP hD hS => ?_)
    cases some_i h
    exact hend _ _ _ _ _ hP hD hS (RetOK.i dX6_climb_25)
  · have h := if_f c3 h
    refine lv_aload_n hx hb dX6_climb_12 rfl (lv_at hl 0 rfl) ?_
    refine lv_iload_n hx hb dX6_climb_13 rfl (lv_at hl 2 rfl) ?_
    obtain ⟨r6, kr6, h⟩ := bd_ex h
    refine aft_w (st1 := [.int r6]) rfl (runV (As := [.int p2]) (rest := []) ⟨hx, hb, hml, hown, hts⟩ (kX6_isWord l g a kr6) (cwV 1 hts gX6_climb_X6_isWord rfl rfl rfl hdX6_isWord ⟨Nat.le_of_ble_eq_true rfl, Nat.le_of_ble_eq_true rfl⟩) hK hN hP hD (va_recv hK hP (ci := 6) (q0 := 0) rfl rfl) rfl hl.1 rfl (Nat.le_of_ble_eq_true rfl) dX6_climb_14 ⟨Nat.zero_le _, Nat.zero_le _⟩) hD hS hA (fun H locs hP hD hS => ?_)
    refine lv_if_ne (tgt := 26) hx hb dX6_climb_17 (by decide) (fun c7 => ?_) (fun c7 => ?_)
    · have h := if_f c7 h
      refine lv_aload_n hx hb dX6_climb_26 rfl (lv_at hl 0 rfl) ?_
      refine lv_iload_n hx hb dX6_climb_27 rfl (lv_at hl 1 rfl) ?_
      refine lv_iload_n hx hb dX6_climb_28 rfl (lv_at hl 2 rfl) ?_
      obtain ⟨r8, mo9, kr8, h⟩ := bd2_ex h
      refine aft_w (st1 := [.int r8]) rfl (runV (As := [.int p1, .int p2]) (rest := []) ⟨hx, hb, hml, hown, hts⟩ (kX6_reason l g a kr8) (cwV 2 hts gX6_climb_X6_reason rfl rfl rfl hdX6_reason ⟨Nat.le_of_ble_eq_true rfl, Nat.le_of_ble_eq_true rfl⟩) hK hN hP hD (va_recv hK hP (ci := 6) (q0 := 0) rfl rfl) rfl hl.1 rfl (Nat.le_of_ble_eq_true rfl) dX6_climb_29 ⟨Nat.zero_le _, Nat.zero_le _⟩) hD hS hA (fun H locs hP hD hS => ?_)
      refine lv_if_eq (tgt := 41) hx hb dX6_climb_32 (by decide) (fun c10 => ?_) (fun c10 => ?_)
      · have h := if_t c10 h
        refine lv_aload_n hx hb dX6_climb_41 rfl (lv_at hl 0 rfl) ?_
        obtain ⟨mo11, kmo11, h⟩ := bd_ex h
        refine aft_w (st1 := []) rfl (runV (As := []) (rest := []) ⟨hx, hb, hml, hown, hts⟩ (kX6_save l g a kmo11) (cwV 0 hts gX6_climb_X6_save rfl rfl rfl hdX6_save ⟨Nat.le_of_ble_eq_true rfl, Nat.le_of_ble_eq_true rfl⟩) hK hN hP hD (va_recv hK hP (ci := 6) (q0 := 0) rfl rfl) rfl hl.1 rfl (Nat.le_of_ble_eq_true rfl) dX6_climb_42 ⟨Nat.zero_le _, Nat.zero_le _⟩) hD hS hA (fun H locs hP hD hS => ?_)
        refine lv_aload_n hx hb dX6_climb_45 rfl (lv_at hl 0 rfl) ?_
        refine lv_iload_n hx hb dX6_climb_46 rfl (lv_at hl 1 rfl) ?_
        refine lv_iload_n hx hb dX6_climb_47 rfl (lv_at hl 2 rfl) ?_
        obtain ⟨r12, mo13, kr12, h⟩ := bd2_ex h
        refine aft_w (st1 := [.int r12]) rfl (runV (As := [.int p1, .int p2]) (rest := []) ⟨hx, hb, hml, hown, hts⟩ (kX6_goes l g a kr12) (cwV 2 hts gX6_climb_X6_goes rfl rfl rfl hdX6_goes ⟨Nat.le_of_ble_eq_true rfl, Nat.le_of_ble_eq_true rfl⟩) hK hN hP hD (va_recv hK hP (ci := 6) (q0 := 0) rfl rfl) rfl hl.1 rfl (Nat.le_of_ble_eq_true rfl) dX6_climb_48 ⟨Nat.zero_le _, Nat.zero_le _⟩) hD hS hA (fun H locs hP hD hS => ?_)
        cases some_i h
        exact hend _ _ _ _ _ hP hD hS (RetOK.i dX6_climb_51)
      · have h := if_f c10 h
        refine lv_aload_n hx hb dX6_climb_35 rfl (lv_at hl 0 rfl) ?_
        refine lv_iconst (v := 2) hx hb dX6_climb_36 (by decide) ?_
        obtain ⟨r14, mo15, kr14, h⟩ := bd2_ex h
        refine aft_w (st1 := [.int r14]) rfl (runV (As := [.int (2 : Int32)]) (rest := []) ⟨hx, hb, hml, hown, hts⟩ (kX6_fails l g a kr14) (cwV 1 hts gX6_climb_X6_fails rfl rfl rfl hdX6_fails ⟨Nat.le_of_ble_eq_true rfl, Nat.le_of_ble_eq_true rfl⟩) hK hN hP hD (va_recv hK hP (ci := 6) (q0 := 0) rfl rfl) rfl hl.1 rfl (Nat.le_of_ble_eq_true rfl) dX6_climb_37 ⟨Nat.zero_le _, Nat.zero_le _⟩) hD hS hA (fun H locs hP hD hS => ?_)
        cases some_i h
        exact hend _ _ _ _ _ hP hD hS (RetOK.i dX6_climb_40)
    · have h := if_t c7 h
      refine lv_aload_n hx hb dX6_climb_20 rfl (lv_at hl 0 rfl) ?_
      refine lv_iconst (v := 1) hx hb dX6_climb_21 (by decide) ?_
      obtain ⟨r16, mo17, kr16, h⟩ := bd2_ex h
      refine aft_w (st1 := [.int r16]) rfl (runV (As := [.int (1 : Int32)]) (rest := []) ⟨hx, hb, hml, hown, hts⟩ (kX6_fails l g a kr16) (cwV 1 hts gX6_climb_X6_fails rfl rfl rfl hdX6_fails ⟨Nat.le_of_ble_eq_true rfl, Nat.le_of_ble_eq_true rfl⟩) hK hN hP hD (va_recv hK hP (ci := 6) (q0 := 0) rfl rfl) rfl hl.1 rfl (Nat.le_of_ble_eq_true rfl) dX6_climb_22 ⟨Nat.zero_le _, Nat.zero_le _⟩) hD hS hA (fun H locs hP hD hS => ?_)
      cases some_i h
      exact hend _ _ _ _ _ hP hD hS (RetOK.i dX6_climb_25)
def fX6_layLinks_L21 (v1_1 : Int32) : Nat → Int32 → Mo → Option (Mo)
  | 0, _, _ => none
  | n + 1, v2_6, mo7 =>
    (ck (inb (0 : Int32) 55)
    (if (Mo_state mo7 (0 : Int32).toNatClampNeg) ≤ v2_6 then
    (some mo7)
    else
    (ck (inb v1_1 24)
    (bd (fX6_areLinked mo7 v1_1 v2_6) fun (r10 : Int32) =>
    (if r10 = (0 : Int32) then
    (ck (inb v1_1 24)
    (pl (Mo_set_links mo7 (upd (Mo_links mo7) v1_1.toNatClampNeg ((Mo_links mo7 v1_1.toNatClampNeg) ||| (0 : Int32)))) fun (mo12 : Mo) =>
    (pl ((v2_6 + (1 : Int32))) fun (x13 : Int32) =>
    (fX6_layLinks_L21 v1_1 n x13 mo12))))
    else
    (ck (inb v1_1 24)
    (pl (Mo_set_links mo7 (upd (Mo_links mo7) v1_1.toNatClampNeg ((Mo_links mo7 v1_1.toNatClampNeg) ||| ((1 : Int32) <<< (v2_6 &&& 31))))) fun (mo14 : Mo) =>
    (pl ((v2_6 + (1 : Int32))) fun (x15 : Int32) =>
    (fX6_layLinks_L21 v1_1 n x15 mo14)))))))))
def fX6_layLinks_L2 : Nat → Int32 → Mo → Option (Mo)
  | 0, _, _ => none
  | n + 1, v1_1, mo2 =>
    (ck (inb (0 : Int32) 55)
    (if (Mo_state mo2 (0 : Int32).toNatClampNeg) ≤ v1_1 then
    (some mo2)
    else
    (ck (inb v1_1 24)
    (pl (Mo_set_links mo2 (upd (Mo_links mo2) v1_1.toNatClampNeg (0 : Int32))) fun (mo5 : Mo) =>
    (bd (fX6_layLinks_L21 v1_1 1000 (0 : Int32) mo5) fun (mo16 : Mo) =>
    (pl ((v1_1 + (1 : Int32))) fun (x17 : Int32) =>
    (fX6_layLinks_L2 n x17 mo16)))))))
def fX6_layLinks (mo : Mo) : Option (Mo) :=
(bd (fX6_layLinks_L2 1000 (0 : Int32) mo) fun (mo18 : Mo) =>
(some mo18))
abbrev rX6_layLinks : Room := { frames := 3, cells := 0, slots := 0, locals := 69 }
theorem hdX6_layLinks : yX6_layLinks.cls = RX6 ∧ yX6_layLinks.cls ≠ "java/lang/invoke/MethodHandle" ∧ yX6_layLinks.cls ≠ "java/lang/invoke/VarHandle" ∧ (parseMethodDescriptor yX6_layLinks.desc).map (fun d => d.parameters.length) = some 0 := by decide +kernel
set_option maxRecDepth 100000 in
set_option maxHeartbeats 8000000 in
theorem kX6_layLinks (l : Launch) (g : GG) (a : Nat → Nat) {mo : Mo} {mo' : Mo} (h : fX6_layLinks mo = some mo') : Cg l g yX6_layLinks wsX6_layLinks rX6_layLinks [.ref (a 0)] (cMo g a mo) (none) (cMo g a mo') := by
  refine Cg_of (cc := cX6_layLinks) (maxL := 3) (ret := none) (by decide +kernel) rfl (Nat.le_of_ble_eq_true rfl) ?_
  intro p e su m args below meth c A Q ls hx hb hml hown hts hK hN hA hnm hP hD hS hl hend
  have hinX6 : ∀ w ∈ u_ws RX6 TX6 15, w ∈ wsX6_layLinks := fun _ h9 => List.mem_cons_of_mem _ (List.mem_append_right _ h9)
  unfold fX6_layLinks at h
  have hl : lv_has ls 3 [(0, .ref (a 0))] := hl
  refine lv_iconst (v := 0) hx hb dX6_layLinks_0 (by decide) ?_
  refine lv_istore_n (lv' := [(1, .int (0 : Int32)), (0, .ref (a 0))]) hx hb dX6_layLinks_1 rfl hl (by decide) rfl (fun ls hl => ?_)
  have L2 : ∀ (n : Nat) (v1_1 : Int32) (mo2 : Mo) (mo3 : Mo) (H : Heap) (locs : List Loc) (ls : Array Slot), fX6_layLinks_L2 n v1_1 mo2 = some mo3 → va_P g.1 vwCl (cMo g a mo2) H → va_D A (cMo g a mo2) → va_S A su.heap H locs → lv_has ls 3 [(0, .ref (a 0)), (1, .int v1_1)] → (∀ (H : Heap) (locs : List Loc) (ls : Array Slot), va_P g.1 vwCl (cMo g a mo3) H → va_D A (cMo g a mo3) → va_S A su.heap H locs → lv_has ls 3 [] → W p l e rX6_layLinks su m args below meth c H locs 0 0 Q (F0 m 68 ls [])) → W p l e rX6_layLinks su m args below meth c H locs 0 0 Q (F0 m 2 ls []) := by
    intro n
    induction n with
    | zero => intro v1_1 mo2 mo3 H locs ls h hP hD hS hl kx; cases h
    | succ n ih =>
      intro v1_1 mo2 mo3 H locs ls h hP hD hS hl kx
      rw [fX6_layLinks_L2] at h
      refine lv_iload_n hx hb dX6_layLinks_2 rfl (lv_at hl 1 rfl) ?_
      refine lv_aload_n hx hb dX6_layLinks_3 rfl (lv_at hl 0 rfl) ?_
      refine va_get (D := g.1) (ci := 6) (v := .ref (a 1)) (C := RX6) (T := TX6) (N := 15) hx hb hts hinX6 hown hK hP 0 rfl rfl 1 (by decide) (hts (.fieldLink RX6 7 "BarredRungsModel" "state" "[I") (List.mem_of_getElem? (i := 1) rfl)) (fun _ h9 => h9) rfl dX6_layLinks_4 ?_
      refine lv_iconst (v := 0) hx hb dX6_layLinks_7 (by decide) ?_
      obtain ⟨hi9, h⟩ := ck_ex h
      refine va_iald hx hb hK hP 1 0 rfl rfl (inb_in hi9) dX6_layLinks_8 ?_
      refine lv_icmp_ge (tgt := 68) hx hb dX6_layLinks_9 (by decide) (fun c4 => ?_) (fun c4 => ?_)
      · have h := if_t c4 h
        cases some_i h
        exact kx _ _ _ hP hD hS (lv_sub hl [] rfl)
      · have h := if_f c4 h
        refine lv_aload_n hx hb dX6_layLinks_12 rfl (lv_at hl 0 rfl) ?_
        refine va_get (D := g.1) (ci := 6) (v := .ref (a 5)) (C := RX6) (T := TX6) (N := 15) hx hb hts hinX6 hown hK hP 0 rfl rfl 11 (by decide) (hts (.fieldLink RX6 22 "BarredRungsModel" "links" "[I") (List.mem_of_getElem? (i := 2) rfl)) (fun _ h9 => h9) rfl dX6_layLinks_13 ?_
        refine lv_iload_n hx hb dX6_layLinks_16 rfl (lv_at hl 1 rfl) ?_
        refine lv_iconst (v := 0) hx hb dX6_layLinks_17 (by decide) ?_
        obtain ⟨hi9, h⟩ := ck_ex h
        obtain ⟨mo5, emo5, h⟩ := pl_ex h
        refine va_iast hx hb hK hP hD hS 5 0 rfl rfl (inb_in hi9) dX6_layLinks_18 (fun H locs hP hD hS => ?_)
        have hP : va_P g.1 vwCl (cMo g a mo5) H := by rw [← emo5]; exact hP
        have hD : va_D A (cMo g a mo5) := by rw [← emo5]; exact hD
        refine lv_iconst (v := 0) hx hb dX6_layLinks_19 (by decide) ?_
        refine lv_istore_n (lv' := [(2, .int (0 : Int32)), (0, .ref (a 0)), (1, .int v1_1)]) hx hb dX6_layLinks_20 rfl hl (by decide) rfl (fun ls hl => ?_)
        have L21 : ∀ (n : Nat) (v2_6 : Int32) (mo7 : Mo) (mo8 : Mo) (H : Heap) (locs : List Loc) (ls : Array Slot), fX6_layLinks_L21 v1_1 n v2_6 mo7 = some mo8 → va_P g.1 vwCl (cMo g a mo7) H → va_D A (cMo g a mo7) → va_S A su.heap H locs → lv_has ls 3 [(0, .ref (a 0)), (1, .int v1_1), (2, .int v2_6)] → (∀ (H : Heap) (locs : List Loc) (ls : Array Slot), va_P g.1 vwCl (cMo g a mo8) H → va_D A (cMo g a mo8) → va_S A su.heap H locs → lv_has ls 3 [(0, .ref (a 0)), (1, .int v1_1)] → W p l e rX6_layLinks su m args below meth c H locs 0 0 Q (F0 m 62 ls [])) → W p l e rX6_layLinks su m args below meth c H locs 0 0 Q (F0 m 21 ls []) := by
          intro n
          induction n with
          | zero => intro v2_6 mo7 mo8 H locs ls h hP hD hS hl kx; cases h
          | succ n ih =>
            intro v2_6 mo7 mo8 H locs ls h hP hD hS hl kx
            rw [fX6_layLinks_L21] at h
            refine lv_iload_n hx hb dX6_layLinks_21 rfl (lv_at hl 2 rfl) ?_
            refine lv_aload_n hx hb dX6_layLinks_22 rfl (lv_at hl 0 rfl) ?_
            refine va_get (D := g.1) (ci := 6) (v := .ref (a 1)) (C := RX6) (T := TX6) (N := 15) hx hb hts hinX6 hown hK hP 0 rfl rfl 1 (by decide) (hts (.fieldLink RX6 7 "BarredRungsModel" "state" "[I") (List.mem_of_getElem? (i := 1) rfl)) (fun _ h9 => h9) rfl dX6_layLinks_23 ?_
            refine lv_iconst (v := 0) hx hb dX6_layLinks_26 (by decide) ?_
            obtain ⟨hi9, h⟩ := ck_ex h
            refine va_iald hx hb hK hP 1 0 rfl rfl (inb_in hi9) dX6_layLinks_27 ?_
            refine lv_icmp_ge (tgt := 62) hx hb dX6_layLinks_28 (by decide) (fun c9 => ?_) (fun c9 => ?_)
            · have h := if_t c9 h
              cases some_i h
              exact kx _ _ _ hP hD hS (lv_sub hl [0, 1] rfl)
            · have h := if_f c9 h
              refine lv_aload_n hx hb dX6_layLinks_31 rfl (lv_at hl 0 rfl) ?_
              refine va_get (D := g.1) (ci := 6) (v := .ref (a 5)) (C := RX6) (T := TX6) (N := 15) hx hb hts hinX6 hown hK hP 0 rfl rfl 11 (by decide) (hts (.fieldLink RX6 22 "BarredRungsModel" "links" "[I") (List.mem_of_getElem? (i := 2) rfl)) (fun _ h9 => h9) rfl dX6_layLinks_32 ?_
              refine lv_iload_n hx hb dX6_layLinks_35 rfl (lv_at hl 1 rfl) ?_
              refine lv_dup2_11 hx hb dX6_layLinks_36 rfl rfl ?_
              obtain ⟨hi9, h⟩ := ck_ex h
              refine va_iald hx hb hK hP 5 0 rfl rfl (inb_in hi9) dX6_layLinks_37 ?_
              refine lv_aload_n hx hb dX6_layLinks_38 rfl (lv_at hl 0 rfl) ?_
              refine lv_iload_n hx hb dX6_layLinks_39 rfl (lv_at hl 1 rfl) ?_
              refine lv_iload_n hx hb dX6_layLinks_40 rfl (lv_at hl 2 rfl) ?_
              obtain ⟨r10, kr10, h⟩ := bd_ex h
              refine aft_w (st1 := [.int r10, .int (Mo_links mo7 v1_1.toNatClampNeg), .int v1_1, .ref (a 5)]) rfl (runV (As := [.int v1_1, .int v2_6]) (rest := [.int (Mo_links mo7 v1_1.toNatClampNeg), .int v1_1, .ref (a 5)]) ⟨hx, hb, hml, hown, hts⟩ (kX6_areLinked l g a kr10) (cwV 2 hts gX6_layLinks_X6_areLinked rfl rfl rfl hdX6_areLinked ⟨Nat.le_of_ble_eq_true rfl, Nat.le_of_ble_eq_true rfl⟩) hK hN hP hD (va_recv hK hP (ci := 6) (q0 := 0) rfl rfl) rfl hl.1 rfl (Nat.le_of_ble_eq_true rfl) dX6_layLinks_41 ⟨Nat.zero_le _, Nat.zero_le _⟩) hD hS hA (fun H locs hP hD hS => ?_)
              refine lv_if_eq (tgt := 53) hx hb dX6_layLinks_44 (by decide) (fun c11 => ?_) (fun c11 => ?_)
              · have h := if_t c11 h
                refine lv_iconst (v := 0) hx hb dX6_layLinks_53 (by decide) ?_
                refine lv_ior hx hb dX6_layLinks_54 ?_
                obtain ⟨hi9, h⟩ := ck_ex h
                obtain ⟨mo12, emo12, h⟩ := pl_ex h
                refine va_iast hx hb hK hP hD hS 5 0 rfl rfl (inb_in hi9) dX6_layLinks_55 (fun H locs hP hD hS => ?_)
                have hP : va_P g.1 vwCl (cMo g a mo12) H := by rw [← emo12]; exact hP
                have hD : va_D A (cMo g a mo12) := by rw [← emo12]; exact hD
                obtain ⟨x13, ex13, h⟩ := pl_ex h
                refine lv_iinc (v := x13) (lv' := [(2, .int x13), (0, .ref (a 0)), (1, .int v1_1)]) hx hb dX6_layLinks_56 hl (k := 2) rfl (by rw [← ex13]; rfl) (by decide) rfl (fun ls hl => ?_)
                refine lv_goto (tgt := 21) hx hb dX6_layLinks_59 (by decide) ?_
                exact ih x13 mo12 _ _ _ _ h hP hD hS (lv_sub hl [1, 2, 0] rfl) kx
              · have h := if_f c11 h
                refine lv_iconst (v := 1) hx hb dX6_layLinks_47 (by decide) ?_
                refine lv_iload_n hx hb dX6_layLinks_48 rfl (lv_at hl 2 rfl) ?_
                refine lv_ishl hx hb dX6_layLinks_49 ?_
                refine lv_goto (tgt := 54) hx hb dX6_layLinks_50 (by decide) ?_
                refine lv_ior hx hb dX6_layLinks_54 ?_
                obtain ⟨hi9, h⟩ := ck_ex h
                obtain ⟨mo14, emo14, h⟩ := pl_ex h
                refine va_iast hx hb hK hP hD hS 5 0 rfl rfl (inb_in hi9) dX6_layLinks_55 (fun H locs hP hD hS => ?_)
                have hP : va_P g.1 vwCl (cMo g a mo14) H := by rw [← emo14]; exact hP
                have hD : va_D A (cMo g a mo14) := by rw [← emo14]; exact hD
                obtain ⟨x15, ex15, h⟩ := pl_ex h
                refine lv_iinc (v := x15) (lv' := [(2, .int x15), (0, .ref (a 0)), (1, .int v1_1)]) hx hb dX6_layLinks_56 hl (k := 2) rfl (by rw [← ex15]; rfl) (by decide) rfl (fun ls hl => ?_)
                refine lv_goto (tgt := 21) hx hb dX6_layLinks_59 (by decide) ?_
                exact ih x15 mo14 _ _ _ _ h hP hD hS (lv_sub hl [1, 2, 0] rfl) kx
        obtain ⟨mo16, kmo16, h⟩ := bd_ex h
        refine L21 1000 (0 : Int32) mo5 mo16 _ _ _ kmo16 hP hD hS (lv_sub hl [1, 2, 0] rfl) (fun H locs ls hP hD hS hl => ?_)
        obtain ⟨x17, ex17, h⟩ := pl_ex h
        refine lv_iinc (v := x17) (lv' := [(1, .int x17), (0, .ref (a 0))]) hx hb dX6_layLinks_62 hl (k := 1) rfl (by rw [← ex17]; rfl) (by decide) rfl (fun ls hl => ?_)
        refine lv_goto (tgt := 2) hx hb dX6_layLinks_65 (by decide) ?_
        exact ih x17 mo16 _ _ _ _ h hP hD hS (lv_sub hl [1, 0] rfl) kx
  obtain ⟨mo18, kmo18, h⟩ := bd_ex h
  refine L2 1000 (0 : Int32) mo mo18 _ _ _ kmo18 hP hD hS (lv_sub hl [1, 0] rfl) (fun H locs ls hP hD hS hl => ?_)
  cases some_i h
  exact hend _ _ _ _ _ hP hD hS (RetOK.v dX6_layLinks_68)
def fX6_options (mo : Mo) (p1 : Int32) (p2 : Int32) : Option (Int32) :=
(if p2 = (0 : Int32) then
(some p1)
else
(bd (fX6_beside mo p1) fun (r2 : Int32) =>
(bd (fX6_barred mo) fun (r3 : Int32) =>
(some (p1 ||| (r2 &&& (r3 ^^^ (-1 : Int32))))))))
abbrev rX6_options : Room := { frames := 3, cells := 0, slots := 0, locals := 65 }
theorem hdX6_options : yX6_options.cls = RX6 ∧ yX6_options.cls ≠ "java/lang/invoke/MethodHandle" ∧ yX6_options.cls ≠ "java/lang/invoke/VarHandle" ∧ (parseMethodDescriptor yX6_options.desc).map (fun d => d.parameters.length) = some 2 := by decide +kernel
set_option maxRecDepth 100000 in
set_option maxHeartbeats 8000000 in
theorem kX6_options (l : Launch) (g : GG) (a : Nat → Nat) {mo : Mo} {p1 : Int32} {p2 : Int32} {res : Int32} (h : fX6_options mo p1 p2 = some res) : Cg l g yX6_options wsX6_options rX6_options [.ref (a 0), .int p1, .int p2] (cMo g a mo) (some (.int res)) (cMo g a mo) := by
  refine Cg_of (cc := cX6_options) (maxL := 3) (ret := (some .int)) (by decide +kernel) rfl (Nat.le_of_ble_eq_true rfl) ?_
  intro p e su m args below meth c A Q ls hx hb hml hown hts hK hN hA hnm hP hD hS hl hend
  have hinX6 : ∀ w ∈ u_ws RX6 TX6 15, w ∈ wsX6_options := fun _ h9 => List.mem_cons_of_mem _ (List.mem_append_right _ h9)
  unfold fX6_options at h
  have hl : lv_has ls 3 [(0, .ref (a 0)), (1, .int p1), (2, .int p2)] := hl
  refine lv_iload_n hx hb dX6_options_0 rfl (lv_at hl 2 rfl) ?_
  refine lv_if_eq (tgt := 21) hx hb dX6_options_1 (by decide) (fun c1 => ?_) (fun c1 => ?_)
  · have h := if_t c1 h
    refine lv_iload_n hx hb dX6_options_21 rfl (lv_at hl 1 rfl) ?_
    cases some_i h
    exact hend _ _ _ _ _ hP hD hS (RetOK.i dX6_options_22)
  · have h := if_f c1 h
    refine lv_iload_n hx hb dX6_options_4 rfl (lv_at hl 1 rfl) ?_
    refine lv_aload_n hx hb dX6_options_5 rfl (lv_at hl 0 rfl) ?_
    refine lv_iload_n hx hb dX6_options_6 rfl (lv_at hl 1 rfl) ?_
    obtain ⟨r2, kr2, h⟩ := bd_ex h
    refine aft_w (st1 := [.int r2, .int p1]) rfl (runV (As := [.int p1]) (rest := [.int p1]) ⟨hx, hb, hml, hown, hts⟩ (kX6_beside l g a kr2) (cwV 1 hts gX6_options_X6_beside rfl rfl rfl hdX6_beside ⟨Nat.le_of_ble_eq_true rfl, Nat.le_of_ble_eq_true rfl⟩) hK hN hP hD (va_recv hK hP (ci := 6) (q0 := 0) rfl rfl) rfl hl.1 rfl (Nat.le_of_ble_eq_true rfl) dX6_options_7 ⟨Nat.zero_le _, Nat.zero_le _⟩) hD hS hA (fun H locs hP hD hS => ?_)
    refine lv_aload_n hx hb dX6_options_10 rfl (lv_at hl 0 rfl) ?_
    obtain ⟨r3, kr3, h⟩ := bd_ex h
    refine aft_w (st1 := [.int r3, .int r2, .int p1]) rfl (runV (As := []) (rest := [.int r2, .int p1]) ⟨hx, hb, hml, hown, hts⟩ (kX6_barred l g a kr3) (cwV 0 hts gX6_options_X6_barred rfl rfl rfl hdX6_barred ⟨Nat.le_of_ble_eq_true rfl, Nat.le_of_ble_eq_true rfl⟩) hK hN hP hD (va_recv hK hP (ci := 6) (q0 := 0) rfl rfl) rfl hl.1 rfl (Nat.le_of_ble_eq_true rfl) dX6_options_11 ⟨Nat.zero_le _, Nat.zero_le _⟩) hD hS hA (fun H locs hP hD hS => ?_)
    refine lv_iconst (v := -1) hx hb dX6_options_14 (by decide) ?_
    refine lv_ixor hx hb dX6_options_15 ?_
    refine lv_iand hx hb dX6_options_16 ?_
    refine lv_ior hx hb dX6_options_17 ?_
    refine lv_goto (tgt := 22) hx hb dX6_options_18 (by decide) ?_
    cases some_i h
    exact hend _ _ _ _ _ hP hD hS (RetOK.i dX6_options_22)
def fX6_fewestFrom_L11 (p2 : Int32) : Nat → Int32 → Int32 → Int32 → Mo → Option (Int32 × Mo)
  | 0, _, _, _, _ => none
  | n + 1, v4_2, v5_3, v6_4, mo5 =>
    (if (800 : Int32) ≤ v6_4 then
    (some ((-1 : Int32), mo5))
    else
    (if v4_2 = (0 : Int32) then
    (some ((-1 : Int32), mo5))
    else
    (bd (fX6_options mo5 v4_2 v5_3) fun (r8 : Int32) =>
    (if ((r8 >>> (p2 &&& 31)) &&& (1 : Int32)) = (1 : Int32) then
    (some (v6_4, mo5))
    else
    (bd (fX6_moveBar mo5) fun (mo10 : Mo) =>
    (bd (fX6_barred mo10) fun (r11 : Int32) =>
    (pl ((r8 &&& (r11 ^^^ (-1 : Int32)))) fun (x12 : Int32) =>
    (pl ((v6_4 + (1 : Int32))) fun (x13 : Int32) =>
    (fX6_fewestFrom_L11 p2 n x12 (1 : Int32) x13 mo10)))))))))
def fX6_fewestFrom (mo : Mo) (p1 : Int32) (p2 : Int32) (p3 : Int32) : Option (Int32 × Mo) :=
(pl (((1 : Int32) <<< (p1 &&& 31))) fun (x1 : Int32) =>
(fX6_fewestFrom_L11 p2 1000 x1 p3 (0 : Int32) mo))
abbrev rX6_fewestFrom : Room := { frames := 4, cells := 0, slots := 0, locals := 87 }
theorem hdX6_fewestFrom : yX6_fewestFrom.cls = RX6 ∧ yX6_fewestFrom.cls ≠ "java/lang/invoke/MethodHandle" ∧ yX6_fewestFrom.cls ≠ "java/lang/invoke/VarHandle" ∧ (parseMethodDescriptor yX6_fewestFrom.desc).map (fun d => d.parameters.length) = some 3 := by decide +kernel
set_option maxRecDepth 100000 in
set_option maxHeartbeats 8000000 in
theorem kX6_fewestFrom (l : Launch) (g : GG) (a : Nat → Nat) {mo : Mo} {p1 : Int32} {p2 : Int32} {p3 : Int32} {res : Int32} {mo' : Mo} (h : fX6_fewestFrom mo p1 p2 p3 = some (res, mo')) : Cg l g yX6_fewestFrom wsX6_fewestFrom rX6_fewestFrom [.ref (a 0), .int p1, .int p2, .int p3] (cMo g a mo) (some (.int res)) (cMo g a mo') := by
  refine Cg_of (cc := cX6_fewestFrom) (maxL := 8) (ret := (some .int)) (by decide +kernel) rfl (Nat.le_of_ble_eq_true rfl) ?_
  intro p e su m args below meth c A Q ls hx hb hml hown hts hK hN hA hnm hP hD hS hl hend
  have hinX6 : ∀ w ∈ u_ws RX6 TX6 15, w ∈ wsX6_fewestFrom := fun _ h9 => List.mem_cons_of_mem _ (List.mem_append_right _ h9)
  unfold fX6_fewestFrom at h
  have hl : lv_has ls 8 [(0, .ref (a 0)), (1, .int p1), (2, .int p2), (3, .int p3)] := hl
  refine lv_iconst (v := 1) hx hb dX6_fewestFrom_0 (by decide) ?_
  refine lv_iload_n hx hb dX6_fewestFrom_1 rfl (lv_at hl 1 rfl) ?_
  refine lv_ishl hx hb dX6_fewestFrom_2 ?_
  obtain ⟨x1, ex1, h⟩ := pl_ex h
  refine lv_eqi ex1 ?_
  refine lv_istore (lv' := [(4, .int x1), (0, .ref (a 0)), (1, .int p1), (2, .int p2), (3, .int p3)]) hx hb dX6_fewestFrom_3 hl (by decide) rfl (fun ls hl => ?_)
  refine lv_iload_n hx hb dX6_fewestFrom_5 rfl (lv_at hl 4 rfl) ?_
  refine lv_istore (lv' := [(5, .int p3), (4, .int x1), (0, .ref (a 0)), (1, .int p1), (2, .int p2), (3, .int p3)]) hx hb dX6_fewestFrom_6 hl (by decide) rfl (fun ls hl => ?_)
  refine lv_iconst (v := 0) hx hb dX6_fewestFrom_8 (by decide) ?_
  refine lv_istore (lv' := [(6, .int (0 : Int32)), (5, .int p3), (4, .int x1), (0, .ref (a 0)), (1, .int p1), (2, .int p2), (3, .int p3)]) hx hb dX6_fewestFrom_9 hl (by decide) rfl (fun ls hl => ?_)
  have L11 : ∀ (n : Nat) (v4_2 : Int32) (v5_3 : Int32) (v6_4 : Int32) (mo5 : Mo) (H : Heap) (locs : List Loc) (ls : Array Slot), fX6_fewestFrom_L11 p2 n v4_2 v5_3 v6_4 mo5 = some (res, mo') → va_P g.1 vwCl (cMo g a mo5) H → va_D A (cMo g a mo5) → va_S A su.heap H locs → lv_has ls 8 [(0, .ref (a 0)), (2, .int p2), (4, .int v4_2), (5, .int v5_3), (6, .int v6_4)] → W p l e rX6_fewestFrom su m args below meth c H locs 0 0 Q (F0 m 11 ls []) := by
    intro n
    induction n with
    | zero => intro v4_2 v5_3 v6_4 mo5 H locs ls h hP hD hS hl; cases h
    | succ n ih =>
      intro v4_2 v5_3 v6_4 mo5 H locs ls h hP hD hS hl
      rw [fX6_fewestFrom_L11] at h
      refine lv_iload hx hb dX6_fewestFrom_11 (lv_at hl 4 rfl) ?_
      refine lv_sipush (v := 800) hx hb dX6_fewestFrom_13 (by decide) ?_
      refine lv_icmp_ge (tgt := 71) hx hb dX6_fewestFrom_16 (by decide) (fun c6 => ?_) (fun c6 => ?_)
      · have h := if_t c6 h
        refine lv_iconst (v := -1) hx hb dX6_fewestFrom_71 (by decide) ?_
        cases some_i h
        exact hend _ _ _ _ _ hP hD hS (RetOK.i dX6_fewestFrom_72)
      · have h := if_f c6 h
        refine lv_iload hx hb dX6_fewestFrom_19 (lv_at hl 2 rfl) ?_
        refine lv_if_eq (tgt := 71) hx hb dX6_fewestFrom_21 (by decide) (fun c7 => ?_) (fun c7 => ?_)
        · have h := if_t c7 h
          refine lv_iconst (v := -1) hx hb dX6_fewestFrom_71 (by decide) ?_
          cases some_i h
          exact hend _ _ _ _ _ hP hD hS (RetOK.i dX6_fewestFrom_72)
        · have h := if_f c7 h
          refine lv_aload_n hx hb dX6_fewestFrom_24 rfl (lv_at hl 0 rfl) ?_
          refine lv_iload hx hb dX6_fewestFrom_25 (lv_at hl 2 rfl) ?_
          refine lv_iload hx hb dX6_fewestFrom_27 (lv_at hl 3 rfl) ?_
          obtain ⟨r8, kr8, h⟩ := bd_ex h
          refine aft_w (st1 := [.int r8]) rfl (runV (As := [.int v4_2, .int v5_3]) (rest := []) ⟨hx, hb, hml, hown, hts⟩ (kX6_options l g a kr8) (cwV 2 hts gX6_fewestFrom_X6_options rfl rfl rfl hdX6_options ⟨Nat.le_of_ble_eq_true rfl, Nat.le_of_ble_eq_true rfl⟩) hK hN hP hD (va_recv hK hP (ci := 6) (q0 := 0) rfl rfl) rfl hl.1 rfl (Nat.le_of_ble_eq_true rfl) dX6_fewestFrom_29 ⟨Nat.zero_le _, Nat.zero_le _⟩) hD hS hA (fun H locs hP hD hS => ?_)
          refine lv_istore (lv' := [(7, .int r8), (0, .ref (a 0)), (2, .int p2), (4, .int v4_2), (5, .int v5_3), (6, .int v6_4)]) hx hb dX6_fewestFrom_32 hl (by decide) rfl (fun ls hl => ?_)
          refine lv_iload hx hb dX6_fewestFrom_34 (lv_at hl 0 rfl) ?_
          refine lv_iload_n hx hb dX6_fewestFrom_36 rfl (lv_at hl 2 rfl) ?_
          refine lv_ishr hx hb dX6_fewestFrom_37 ?_
          refine lv_iconst (v := 1) hx hb dX6_fewestFrom_38 (by decide) ?_
          refine lv_iand hx hb dX6_fewestFrom_39 ?_
          refine lv_iconst (v := 1) hx hb dX6_fewestFrom_40 (by decide) ?_
          refine lv_icmp_ne (tgt := 47) hx hb dX6_fewestFrom_41 (by decide) (fun c9 => ?_) (fun c9 => ?_)
          · have h := if_f c9 h
            refine lv_aload_n hx hb dX6_fewestFrom_47 rfl (lv_at hl 1 rfl) ?_
            obtain ⟨mo10, kmo10, h⟩ := bd_ex h
            refine aft_w (st1 := []) rfl (runV (As := []) (rest := []) ⟨hx, hb, hml, hown, hts⟩ (kX6_moveBar l g a kmo10) (cwV 0 hts gX6_fewestFrom_X6_moveBar rfl rfl rfl hdX6_moveBar ⟨Nat.le_of_ble_eq_true rfl, Nat.le_of_ble_eq_true rfl⟩) hK hN hP hD (va_recv hK hP (ci := 6) (q0 := 0) rfl rfl) rfl hl.1 rfl (Nat.le_of_ble_eq_true rfl) dX6_fewestFrom_48 ⟨Nat.zero_le _, Nat.zero_le _⟩) hD hS hA (fun H locs hP hD hS => ?_)
            refine lv_iload hx hb dX6_fewestFrom_51 (lv_at hl 0 rfl) ?_
            refine lv_aload_n hx hb dX6_fewestFrom_53 rfl (lv_at hl 1 rfl) ?_
            obtain ⟨r11, kr11, h⟩ := bd_ex h
            refine aft_w (st1 := [.int r11, .int r8]) rfl (runV (As := []) (rest := [.int r8]) ⟨hx, hb, hml, hown, hts⟩ (kX6_barred l g a kr11) (cwV 0 hts gX6_fewestFrom_X6_barred rfl rfl rfl hdX6_barred ⟨Nat.le_of_ble_eq_true rfl, Nat.le_of_ble_eq_true rfl⟩) hK hN hP hD (va_recv hK hP (ci := 6) (q0 := 0) rfl rfl) rfl hl.1 rfl (Nat.le_of_ble_eq_true rfl) dX6_fewestFrom_54 ⟨Nat.zero_le _, Nat.zero_le _⟩) hD hS hA (fun H locs hP hD hS => ?_)
            refine lv_iconst (v := -1) hx hb dX6_fewestFrom_57 (by decide) ?_
            refine lv_ixor hx hb dX6_fewestFrom_58 ?_
            refine lv_iand hx hb dX6_fewestFrom_59 ?_
            obtain ⟨x12, ex12, h⟩ := pl_ex h
            refine lv_eqi ex12 ?_
            refine lv_istore (lv' := [(4, .int x12), (7, .int r8), (0, .ref (a 0)), (2, .int p2), (5, .int v5_3), (6, .int v6_4)]) hx hb dX6_fewestFrom_60 hl (by decide) rfl (fun ls hl => ?_)
            refine lv_iconst (v := 1) hx hb dX6_fewestFrom_62 (by decide) ?_
            refine lv_istore (lv' := [(5, .int (1 : Int32)), (4, .int x12), (7, .int r8), (0, .ref (a 0)), (2, .int p2), (6, .int v6_4)]) hx hb dX6_fewestFrom_63 hl (by decide) rfl (fun ls hl => ?_)
            obtain ⟨x13, ex13, h⟩ := pl_ex h
            refine lv_iinc (v := x13) (lv' := [(6, .int x13), (5, .int (1 : Int32)), (4, .int x12), (7, .int r8), (0, .ref (a 0)), (2, .int p2)]) hx hb dX6_fewestFrom_65 hl (k := 5) rfl (by rw [← ex13]; rfl) (by decide) rfl (fun ls hl => ?_)
            refine lv_goto (tgt := 11) hx hb dX6_fewestFrom_68 (by decide) ?_
            exact ih x12 (1 : Int32) x13 mo10 _ _ _ h hP hD hS (lv_sub hl [4, 5, 2, 1, 0] rfl)
          · have h := if_t c9 h
            refine lv_iload hx hb dX6_fewestFrom_44 (lv_at hl 5 rfl) ?_
            cases some_i h
            exact hend _ _ _ _ _ hP hD hS (RetOK.i dX6_fewestFrom_46)
  exact L11 1000 x1 p3 (0 : Int32) mo _ _ _ h hP hD hS (lv_sub hl [3, 5, 2, 1, 0] rfl)
def fX6_fewest (mo : Mo) (p1 : Int32) (p2 : Int32) (p3 : Int32) : Option (Int32 × Mo) :=
(bd (fX6_layLinks mo) fun (mo1 : Mo) =>
(bd (fX6_barNow mo1) fun (mo2 : Mo) =>
(bd2 (fX6_fewestFrom mo2 p1 p2 p3) fun (r3 : Int32) (mo4 : Mo) =>
(some (r3, mo4)))))
abbrev rX6_fewest : Room := { frames := 5, cells := 0, slots := 0, locals := 114 }
theorem hdX6_fewest : yX6_fewest.cls = RX6 ∧ yX6_fewest.cls ≠ "java/lang/invoke/MethodHandle" ∧ yX6_fewest.cls ≠ "java/lang/invoke/VarHandle" ∧ (parseMethodDescriptor yX6_fewest.desc).map (fun d => d.parameters.length) = some 3 := by decide +kernel
set_option maxRecDepth 100000 in
set_option maxHeartbeats 8000000 in
theorem kX6_fewest (l : Launch) (g : GG) (a : Nat → Nat) {mo : Mo} {p1 : Int32} {p2 : Int32} {p3 : Int32} {res : Int32} {mo' : Mo} (h : fX6_fewest mo p1 p2 p3 = some (res, mo')) : Cg l g yX6_fewest wsX6_fewest rX6_fewest [.ref (a 0), .int p1, .int p2, .int p3] (cMo g a mo) (some (.int res)) (cMo g a mo') := by
  refine Cg_of (cc := cX6_fewest) (maxL := 4) (ret := (some .int)) (by decide +kernel) rfl (Nat.le_of_ble_eq_true rfl) ?_
  intro p e su m args below meth c A Q ls hx hb hml hown hts hK hN hA hnm hP hD hS hl hend
  have hinX6 : ∀ w ∈ u_ws RX6 TX6 15, w ∈ wsX6_fewest := fun _ h9 => List.mem_cons_of_mem _ (List.mem_append_right _ h9)
  unfold fX6_fewest at h
  have hl : lv_has ls 4 [(0, .ref (a 0)), (1, .int p1), (2, .int p2), (3, .int p3)] := hl
  refine lv_aload_n hx hb dX6_fewest_0 rfl (lv_at hl 0 rfl) ?_
  obtain ⟨mo1, kmo1, h⟩ := bd_ex h
  refine aft_w (st1 := []) rfl (runV (As := []) (rest := []) ⟨hx, hb, hml, hown, hts⟩ (kX6_layLinks l g a kmo1) (cwV 0 hts gX6_fewest_X6_layLinks rfl rfl rfl hdX6_layLinks ⟨Nat.le_of_ble_eq_true rfl, Nat.le_of_ble_eq_true rfl⟩) hK hN hP hD (va_recv hK hP (ci := 6) (q0 := 0) rfl rfl) rfl hl.1 rfl (Nat.le_of_ble_eq_true rfl) dX6_fewest_1 ⟨Nat.zero_le _, Nat.zero_le _⟩) hD hS hA (fun H locs hP hD hS => ?_)
  refine lv_aload_n hx hb dX6_fewest_4 rfl (lv_at hl 0 rfl) ?_
  obtain ⟨mo2, kmo2, h⟩ := bd_ex h
  refine aft_w (st1 := []) rfl (runV (As := []) (rest := []) ⟨hx, hb, hml, hown, hts⟩ (kX6_barNow l g a kmo2) (cwV 0 hts gX6_fewest_X6_barNow rfl rfl rfl hdX6_barNow ⟨Nat.le_of_ble_eq_true rfl, Nat.le_of_ble_eq_true rfl⟩) hK hN hP hD (va_recv hK hP (ci := 6) (q0 := 0) rfl rfl) rfl hl.1 rfl (Nat.le_of_ble_eq_true rfl) dX6_fewest_5 ⟨Nat.zero_le _, Nat.zero_le _⟩) hD hS hA (fun H locs hP hD hS => ?_)
  refine lv_aload_n hx hb dX6_fewest_8 rfl (lv_at hl 0 rfl) ?_
  refine lv_iload_n hx hb dX6_fewest_9 rfl (lv_at hl 1 rfl) ?_
  refine lv_iload_n hx hb dX6_fewest_10 rfl (lv_at hl 2 rfl) ?_
  refine lv_iload_n hx hb dX6_fewest_11 rfl (lv_at hl 3 rfl) ?_
  obtain ⟨r3, mo4, kr3, h⟩ := bd2_ex h
  refine aft_w (st1 := [.int r3]) rfl (runV (As := [.int p1, .int p2, .int p3]) (rest := []) ⟨hx, hb, hml, hown, hts⟩ (kX6_fewestFrom l g a kr3) (cwV 3 hts gX6_fewest_X6_fewestFrom rfl rfl rfl hdX6_fewestFrom ⟨Nat.le_of_ble_eq_true rfl, Nat.le_of_ble_eq_true rfl⟩) hK hN hP hD (va_recv hK hP (ci := 6) (q0 := 0) rfl rfl) rfl hl.1 rfl (Nat.le_of_ble_eq_true rfl) dX6_fewest_12 ⟨Nat.zero_le _, Nat.zero_le _⟩) hD hS hA (fun H locs hP hD hS => ?_)
  cases some_i h
  exact hend _ _ _ _ _ hP hD hS (RetOK.i dX6_fewest_15)
def fX6_fewestOf (mo : Mo) (p1 : Int32) : Option (Int32 × Mo) :=
(bd (fX6_of mo p1 (0 : Int32)) fun (r1 : Int32) =>
(bd (fX6_of mo p1 (2 : Int32)) fun (r2 : Int32) =>
(bd (fX6_of mo p1 (3 : Int32)) fun (r3 : Int32) =>
(if r3 = (0 : Int32) then
(bd2 (fX6_fewest mo r1 r2 (1 : Int32)) fun (r7 : Int32) (mo8 : Mo) =>
(some (r7, mo8)))
else
(bd2 (fX6_fewest mo r1 r2 (0 : Int32)) fun (r5 : Int32) (mo6 : Mo) =>
(some (r5, mo6)))))))
abbrev rX6_fewestOf : Room := { frames := 6, cells := 0, slots := 0, locals := 137 }
theorem hdX6_fewestOf : yX6_fewestOf.cls = RX6 ∧ yX6_fewestOf.cls ≠ "java/lang/invoke/MethodHandle" ∧ yX6_fewestOf.cls ≠ "java/lang/invoke/VarHandle" ∧ (parseMethodDescriptor yX6_fewestOf.desc).map (fun d => d.parameters.length) = some 1 := by decide +kernel
set_option maxRecDepth 100000 in
set_option maxHeartbeats 8000000 in
theorem kX6_fewestOf (l : Launch) (g : GG) (a : Nat → Nat) {mo : Mo} {p1 : Int32} {res : Int32} {mo' : Mo} (h : fX6_fewestOf mo p1 = some (res, mo')) : Cg l g yX6_fewestOf wsX6_fewestOf rX6_fewestOf [.ref (a 0), .int p1] (cMo g a mo) (some (.int res)) (cMo g a mo') := by
  refine Cg_of (cc := cX6_fewestOf) (maxL := 2) (ret := (some .int)) (by decide +kernel) rfl (Nat.le_of_ble_eq_true rfl) ?_
  intro p e su m args below meth c A Q ls hx hb hml hown hts hK hN hA hnm hP hD hS hl hend
  have hinX6 : ∀ w ∈ u_ws RX6 TX6 15, w ∈ wsX6_fewestOf := fun _ h9 => List.mem_cons_of_mem _ (List.mem_append_right _ h9)
  unfold fX6_fewestOf at h
  have hl : lv_has ls 2 [(0, .ref (a 0)), (1, .int p1)] := hl
  refine lv_aload_n hx hb dX6_fewestOf_0 rfl (lv_at hl 0 rfl) ?_
  refine lv_aload_n hx hb dX6_fewestOf_1 rfl (lv_at hl 0 rfl) ?_
  refine lv_iload_n hx hb dX6_fewestOf_2 rfl (lv_at hl 1 rfl) ?_
  refine lv_iconst (v := 0) hx hb dX6_fewestOf_3 (by decide) ?_
  obtain ⟨r1, kr1, h⟩ := bd_ex h
  refine aft_w (st1 := [.int r1, .ref (a 0)]) rfl (runV (As := [.int p1, .int (0 : Int32)]) (rest := [.ref (a 0)]) ⟨hx, hb, hml, hown, hts⟩ (kX6_of l g a kr1) (cwV 2 hts gX6_fewestOf_X6_of rfl rfl rfl hdX6_of ⟨Nat.le_of_ble_eq_true rfl, Nat.le_of_ble_eq_true rfl⟩) hK hN hP hD (va_recv hK hP (ci := 6) (q0 := 0) rfl rfl) rfl hl.1 rfl (Nat.le_of_ble_eq_true rfl) dX6_fewestOf_4 ⟨Nat.zero_le _, Nat.zero_le _⟩) hD hS hA (fun H locs hP hD hS => ?_)
  refine lv_aload_n hx hb dX6_fewestOf_7 rfl (lv_at hl 0 rfl) ?_
  refine lv_iload_n hx hb dX6_fewestOf_8 rfl (lv_at hl 1 rfl) ?_
  refine lv_iconst (v := 2) hx hb dX6_fewestOf_9 (by decide) ?_
  obtain ⟨r2, kr2, h⟩ := bd_ex h
  refine aft_w (st1 := [.int r2, .int r1, .ref (a 0)]) rfl (runV (As := [.int p1, .int (2 : Int32)]) (rest := [.int r1, .ref (a 0)]) ⟨hx, hb, hml, hown, hts⟩ (kX6_of l g a kr2) (cwV 2 hts gX6_fewestOf_X6_of rfl rfl rfl hdX6_of ⟨Nat.le_of_ble_eq_true rfl, Nat.le_of_ble_eq_true rfl⟩) hK hN hP hD (va_recv hK hP (ci := 6) (q0 := 0) rfl rfl) rfl hl.1 rfl (Nat.le_of_ble_eq_true rfl) dX6_fewestOf_10 ⟨Nat.zero_le _, Nat.zero_le _⟩) hD hS hA (fun H locs hP hD hS => ?_)
  refine lv_aload_n hx hb dX6_fewestOf_13 rfl (lv_at hl 0 rfl) ?_
  refine lv_iload_n hx hb dX6_fewestOf_14 rfl (lv_at hl 1 rfl) ?_
  refine lv_iconst (v := 3) hx hb dX6_fewestOf_15 (by decide) ?_
  obtain ⟨r3, kr3, h⟩ := bd_ex h
  refine aft_w (st1 := [.int r3, .int r2, .int r1, .ref (a 0)]) rfl (runV (As := [.int p1, .int (3 : Int32)]) (rest := [.int r2, .int r1, .ref (a 0)]) ⟨hx, hb, hml, hown, hts⟩ (kX6_of l g a kr3) (cwV 2 hts gX6_fewestOf_X6_of rfl rfl rfl hdX6_of ⟨Nat.le_of_ble_eq_true rfl, Nat.le_of_ble_eq_true rfl⟩) hK hN hP hD (va_recv hK hP (ci := 6) (q0 := 0) rfl rfl) rfl hl.1 rfl (Nat.le_of_ble_eq_true rfl) dX6_fewestOf_16 ⟨Nat.zero_le _, Nat.zero_le _⟩) hD hS hA (fun H locs hP hD hS => ?_)
  refine lv_if_ne (tgt := 26) hx hb dX6_fewestOf_19 (by decide) (fun c4 => ?_) (fun c4 => ?_)
  · have h := if_f c4 h
    refine lv_iconst (v := 0) hx hb dX6_fewestOf_26 (by decide) ?_
    obtain ⟨r5, mo6, kr5, h⟩ := bd2_ex h
    refine aft_w (st1 := [.int r5]) rfl (runV (As := [.int r1, .int r2, .int (0 : Int32)]) (rest := []) ⟨hx, hb, hml, hown, hts⟩ (kX6_fewest l g a kr5) (cwV 3 hts gX6_fewestOf_X6_fewest rfl rfl rfl hdX6_fewest ⟨Nat.le_of_ble_eq_true rfl, Nat.le_of_ble_eq_true rfl⟩) hK hN hP hD (va_recv hK hP (ci := 6) (q0 := 0) rfl rfl) rfl hl.1 rfl (Nat.le_of_ble_eq_true rfl) dX6_fewestOf_27 ⟨Nat.zero_le _, Nat.zero_le _⟩) hD hS hA (fun H locs hP hD hS => ?_)
    cases some_i h
    exact hend _ _ _ _ _ hP hD hS (RetOK.i dX6_fewestOf_30)
  · have h := if_t c4 h
    refine lv_iconst (v := 1) hx hb dX6_fewestOf_22 (by decide) ?_
    refine lv_goto (tgt := 27) hx hb dX6_fewestOf_23 (by decide) ?_
    obtain ⟨r7, mo8, kr7, h⟩ := bd2_ex h
    refine aft_w (st1 := [.int r7]) rfl (runV (As := [.int r1, .int r2, .int (1 : Int32)]) (rest := []) ⟨hx, hb, hml, hown, hts⟩ (kX6_fewest l g a kr7) (cwV 3 hts gX6_fewestOf_X6_fewest rfl rfl rfl hdX6_fewest ⟨Nat.le_of_ble_eq_true rfl, Nat.le_of_ble_eq_true rfl⟩) hK hN hP hD (va_recv hK hP (ci := 6) (q0 := 0) rfl rfl) rfl hl.1 rfl (Nat.le_of_ble_eq_true rfl) dX6_fewestOf_27 ⟨Nat.zero_le _, Nat.zero_le _⟩) hD hS hA (fun H locs hP hD hS => ?_)
    cases some_i h
    exact hend _ _ _ _ _ hP hD hS (RetOK.i dX6_fewestOf_30)
def fX6_firstStep_L63 (r1 : Int32) (r2 : Int32) (r9 : Int32) : Nat → Int32 → Mo → Option (Int32 × Mo)
  | 0, _, _ => none
  | n + 1, v5_10, mo11 =>
    (ck (inb (0 : Int32) 55)
    (if (Mo_state mo11 (0 : Int32).toNatClampNeg) ≤ v5_10 then
    (some ((-1 : Int32), mo11))
    else
    (bd (fX6_barNow mo11) fun (mo13 : Mo) =>
    (bd (fX6_moveBar mo13) fun (mo14 : Mo) =>
    (if ((r9 >>> (v5_10 &&& 31)) &&& (1 : Int32)) = (1 : Int32) then
    (bd (fX6_barred mo14) fun (r18 : Int32) =>
    (if ((r18 >>> (v5_10 &&& 31)) &&& (1 : Int32)) = (0 : Int32) then
    (bd2 (fX6_fewestFrom mo14 v5_10 r1 (1 : Int32)) fun (r23 : Int32) (mo24 : Mo) =>
    (if r23 = (r2 - (1 : Int32)) then
    (some (v5_10, mo24))
    else
    (pl ((v5_10 + (1 : Int32))) fun (x26 : Int32) =>
    (fX6_firstStep_L63 r1 r2 r9 n x26 mo24))))
    else
    (pl ((v5_10 + (1 : Int32))) fun (x21 : Int32) =>
    (fX6_firstStep_L63 r1 r2 r9 n x21 mo14))))
    else
    (pl ((v5_10 + (1 : Int32))) fun (x17 : Int32) =>
    (fX6_firstStep_L63 r1 r2 r9 n x17 mo14)))))))
def fX6_firstStep (mo : Mo) (p1 : Int32) : Option (Int32 × Mo) :=
(bd (fX6_of mo p1 (2 : Int32)) fun (r1 : Int32) =>
(bd2 (fX6_fewestOf mo p1) fun (r2 : Int32) (mo3 : Mo) =>
(if (1 : Int32) ≤ r2 then
(bd (fX6_barNow mo3) fun (mo5 : Mo) =>
(bd (fX6_of mo5 p1 (0 : Int32)) fun (r6 : Int32) =>
(bd (fX6_of mo5 p1 (3 : Int32)) fun (r7 : Int32) =>
(if r7 = (0 : Int32) then
(bd (fX6_options mo5 ((1 : Int32) <<< (r6 &&& 31)) (1 : Int32)) fun (r27 : Int32) =>
(fX6_firstStep_L63 r1 r2 r27 1000 (0 : Int32) mo5))
else
(bd (fX6_options mo5 ((1 : Int32) <<< (r6 &&& 31)) (0 : Int32)) fun (r9 : Int32) =>
(fX6_firstStep_L63 r1 r2 r9 1000 (0 : Int32) mo5))))))
else
(if r2 = (0 : Int32) then
(some (r1, mo3))
else
(some ((-1 : Int32), mo3))))))
abbrev rX6_firstStep : Room := { frames := 7, cells := 0, slots := 0, locals := 158 }
theorem hdX6_firstStep : yX6_firstStep.cls = RX6 ∧ yX6_firstStep.cls ≠ "java/lang/invoke/MethodHandle" ∧ yX6_firstStep.cls ≠ "java/lang/invoke/VarHandle" ∧ (parseMethodDescriptor yX6_firstStep.desc).map (fun d => d.parameters.length) = some 1 := by decide +kernel
set_option maxRecDepth 100000 in
set_option maxHeartbeats 8000000 in
theorem kX6_firstStep (l : Launch) (g : GG) (a : Nat → Nat) {mo : Mo} {p1 : Int32} {res : Int32} {mo' : Mo} (h : fX6_firstStep mo p1 = some (res, mo')) : Cg l g yX6_firstStep wsX6_firstStep rX6_firstStep [.ref (a 0), .int p1] (cMo g a mo) (some (.int res)) (cMo g a mo') := by
  refine Cg_of (cc := cX6_firstStep) (maxL := 7) (ret := (some .int)) (by decide +kernel) rfl (Nat.le_of_ble_eq_true rfl) ?_
  intro p e su m args below meth c A Q ls hx hb hml hown hts hK hN hA hnm hP hD hS hl hend
  have hinX6 : ∀ w ∈ u_ws RX6 TX6 15, w ∈ wsX6_firstStep := fun _ h9 => List.mem_cons_of_mem _ (List.mem_append_right _ h9)
  unfold fX6_firstStep at h
  have hl : lv_has ls 7 [(0, .ref (a 0)), (1, .int p1)] := hl
  refine lv_aload_n hx hb dX6_firstStep_0 rfl (lv_at hl 0 rfl) ?_
  refine lv_iload_n hx hb dX6_firstStep_1 rfl (lv_at hl 1 rfl) ?_
  refine lv_iconst (v := 2) hx hb dX6_firstStep_2 (by decide) ?_
  obtain ⟨r1, kr1, h⟩ := bd_ex h
  refine aft_w (st1 := [.int r1]) rfl (runV (As := [.int p1, .int (2 : Int32)]) (rest := []) ⟨hx, hb, hml, hown, hts⟩ (kX6_of l g a kr1) (cwV 2 hts gX6_firstStep_X6_of rfl rfl rfl hdX6_of ⟨Nat.le_of_ble_eq_true rfl, Nat.le_of_ble_eq_true rfl⟩) hK hN hP hD (va_recv hK hP (ci := 6) (q0 := 0) rfl rfl) rfl hl.1 rfl (Nat.le_of_ble_eq_true rfl) dX6_firstStep_3 ⟨Nat.zero_le _, Nat.zero_le _⟩) hD hS hA (fun H locs hP hD hS => ?_)
  refine lv_istore_n (lv' := [(2, .int r1), (0, .ref (a 0)), (1, .int p1)]) hx hb dX6_firstStep_6 rfl hl (by decide) rfl (fun ls hl => ?_)
  refine lv_aload_n hx hb dX6_firstStep_7 rfl (lv_at hl 1 rfl) ?_
  refine lv_iload_n hx hb dX6_firstStep_8 rfl (lv_at hl 2 rfl) ?_
  obtain ⟨r2, mo3, kr2, h⟩ := bd2_ex h
  refine aft_w (st1 := [.int r2]) rfl (runV (As := [.int p1]) (rest := []) ⟨hx, hb, hml, hown, hts⟩ (kX6_fewestOf l g a kr2) (cwV 1 hts gX6_firstStep_X6_fewestOf rfl rfl rfl hdX6_fewestOf ⟨Nat.le_of_ble_eq_true rfl, Nat.le_of_ble_eq_true rfl⟩) hK hN hP hD (va_recv hK hP (ci := 6) (q0 := 0) rfl rfl) rfl hl.1 rfl (Nat.le_of_ble_eq_true rfl) dX6_firstStep_9 ⟨Nat.zero_le _, Nat.zero_le _⟩) hD hS hA (fun H locs hP hD hS => ?_)
  refine lv_istore_n (lv' := [(3, .int r2), (2, .int r1), (0, .ref (a 0)), (1, .int p1)]) hx hb dX6_firstStep_12 rfl hl (by decide) rfl (fun ls hl => ?_)
  refine lv_iload_n hx hb dX6_firstStep_13 rfl (lv_at hl 0 rfl) ?_
  refine lv_iconst (v := 1) hx hb dX6_firstStep_14 (by decide) ?_
  refine lv_icmp_ge (tgt := 28) hx hb dX6_firstStep_15 (by decide) (fun c4 => ?_) (fun c4 => ?_)
  · have h := if_t c4 h
    refine lv_aload_n hx hb dX6_firstStep_28 rfl (lv_at hl 2 rfl) ?_
    obtain ⟨mo5, kmo5, h⟩ := bd_ex h
    refine aft_w (st1 := []) rfl (runV (As := []) (rest := []) ⟨hx, hb, hml, hown, hts⟩ (kX6_barNow l g a kmo5) (cwV 0 hts gX6_firstStep_X6_barNow rfl rfl rfl hdX6_barNow ⟨Nat.le_of_ble_eq_true rfl, Nat.le_of_ble_eq_true rfl⟩) hK hN hP hD (va_recv hK hP (ci := 6) (q0 := 0) rfl rfl) rfl hl.1 rfl (Nat.le_of_ble_eq_true rfl) dX6_firstStep_29 ⟨Nat.zero_le _, Nat.zero_le _⟩) hD hS hA (fun H locs hP hD hS => ?_)
    refine lv_aload_n hx hb dX6_firstStep_32 rfl (lv_at hl 2 rfl) ?_
    refine lv_iconst (v := 1) hx hb dX6_firstStep_33 (by decide) ?_
    refine lv_aload_n hx hb dX6_firstStep_34 rfl (lv_at hl 2 rfl) ?_
    refine lv_iload_n hx hb dX6_firstStep_35 rfl (lv_at hl 3 rfl) ?_
    refine lv_iconst (v := 0) hx hb dX6_firstStep_36 (by decide) ?_
    obtain ⟨r6, kr6, h⟩ := bd_ex h
    refine aft_w (st1 := [.int r6, .int (1 : Int32), .ref (a 0)]) rfl (runV (As := [.int p1, .int (0 : Int32)]) (rest := [.int (1 : Int32), .ref (a 0)]) ⟨hx, hb, hml, hown, hts⟩ (kX6_of l g a kr6) (cwV 2 hts gX6_firstStep_X6_of rfl rfl rfl hdX6_of ⟨Nat.le_of_ble_eq_true rfl, Nat.le_of_ble_eq_true rfl⟩) hK hN hP hD (va_recv hK hP (ci := 6) (q0 := 0) rfl rfl) rfl hl.1 rfl (Nat.le_of_ble_eq_true rfl) dX6_firstStep_37 ⟨Nat.zero_le _, Nat.zero_le _⟩) hD hS hA (fun H locs hP hD hS => ?_)
    refine lv_ishl hx hb dX6_firstStep_40 ?_
    refine lv_aload_n hx hb dX6_firstStep_41 rfl (lv_at hl 2 rfl) ?_
    refine lv_iload_n hx hb dX6_firstStep_42 rfl (lv_at hl 3 rfl) ?_
    refine lv_iconst (v := 3) hx hb dX6_firstStep_43 (by decide) ?_
    obtain ⟨r7, kr7, h⟩ := bd_ex h
    refine aft_w (st1 := [.int r7, .int ((1 : Int32) <<< (r6 &&& 31)), .ref (a 0)]) rfl (runV (As := [.int p1, .int (3 : Int32)]) (rest := [.int ((1 : Int32) <<< (r6 &&& 31)), .ref (a 0)]) ⟨hx, hb, hml, hown, hts⟩ (kX6_of l g a kr7) (cwV 2 hts gX6_firstStep_X6_of rfl rfl rfl hdX6_of ⟨Nat.le_of_ble_eq_true rfl, Nat.le_of_ble_eq_true rfl⟩) hK hN hP hD (va_recv hK hP (ci := 6) (q0 := 0) rfl rfl) rfl hl.1 rfl (Nat.le_of_ble_eq_true rfl) dX6_firstStep_44 ⟨Nat.zero_le _, Nat.zero_le _⟩) hD hS hA (fun H locs hP hD hS => ?_)
    refine lv_if_ne (tgt := 54) hx hb dX6_firstStep_47 (by decide) (fun c8 => ?_) (fun c8 => ?_)
    · have h := if_f c8 h
      refine lv_iconst (v := 0) hx hb dX6_firstStep_54 (by decide) ?_
      obtain ⟨r9, kr9, h⟩ := bd_ex h
      refine aft_w (st1 := [.int r9]) rfl (runV (As := [.int ((1 : Int32) <<< (r6 &&& 31)), .int (0 : Int32)]) (rest := []) ⟨hx, hb, hml, hown, hts⟩ (kX6_options l g a kr9) (cwV 2 hts gX6_firstStep_X6_options rfl rfl rfl hdX6_options ⟨Nat.le_of_ble_eq_true rfl, Nat.le_of_ble_eq_true rfl⟩) hK hN hP hD (va_recv hK hP (ci := 6) (q0 := 0) rfl rfl) rfl hl.1 rfl (Nat.le_of_ble_eq_true rfl) dX6_firstStep_55 ⟨Nat.zero_le _, Nat.zero_le _⟩) hD hS hA (fun H locs hP hD hS => ?_)
      refine lv_istore (lv' := [(4, .int r9), (3, .int r2), (2, .int r1), (0, .ref (a 0)), (1, .int p1)]) hx hb dX6_firstStep_58 hl (by decide) rfl (fun ls hl => ?_)
      refine lv_iconst (v := 0) hx hb dX6_firstStep_60 (by decide) ?_
      refine lv_istore (lv' := [(5, .int (0 : Int32)), (4, .int r9), (3, .int r2), (2, .int r1), (0, .ref (a 0)), (1, .int p1)]) hx hb dX6_firstStep_61 hl (by decide) rfl (fun ls hl => ?_)
      have L63 : ∀ (n : Nat) (v5_10 : Int32) (mo11 : Mo) (H : Heap) (locs : List Loc) (ls : Array Slot), fX6_firstStep_L63 r1 r2 r9 n v5_10 mo11 = some (res, mo') → va_P g.1 vwCl (cMo g a mo11) H → va_D A (cMo g a mo11) → va_S A su.heap H locs → lv_has ls 7 [(0, .ref (a 0)), (2, .int r1), (3, .int r2), (4, .int r9), (5, .int v5_10)] → W p l e rX6_firstStep su m args below meth c H locs 0 0 Q (F0 m 63 ls []) := by
        intro n
        induction n with
        | zero => intro v5_10 mo11 H locs ls h hP hD hS hl; cases h
        | succ n ih =>
          intro v5_10 mo11 H locs ls h hP hD hS hl
          rw [fX6_firstStep_L63] at h
          refine lv_iload hx hb dX6_firstStep_63 (lv_at hl 4 rfl) ?_
          refine lv_aload_n hx hb dX6_firstStep_65 rfl (lv_at hl 0 rfl) ?_
          refine va_get (D := g.1) (ci := 6) (v := .ref (a 1)) (C := RX6) (T := TX6) (N := 15) hx hb hts hinX6 hown hK hP 0 rfl rfl 1 (by decide) (hts (.fieldLink RX6 7 "BarredRungsModel" "state" "[I") (List.mem_of_getElem? (i := 1) rfl)) (fun _ h9 => h9) rfl dX6_firstStep_66 ?_
          refine lv_iconst (v := 0) hx hb dX6_firstStep_69 (by decide) ?_
          obtain ⟨hi9, h⟩ := ck_ex h
          refine va_iald hx hb hK hP 1 0 rfl rfl (inb_in hi9) dX6_firstStep_70 ?_
          refine lv_icmp_ge (tgt := 140) hx hb dX6_firstStep_71 (by decide) (fun c12 => ?_) (fun c12 => ?_)
          · have h := if_t c12 h
            refine lv_iconst (v := -1) hx hb dX6_firstStep_140 (by decide) ?_
            cases some_i h
            exact hend _ _ _ _ _ hP hD hS (RetOK.i dX6_firstStep_141)
          · have h := if_f c12 h
            refine lv_aload_n hx hb dX6_firstStep_74 rfl (lv_at hl 0 rfl) ?_
            obtain ⟨mo13, kmo13, h⟩ := bd_ex h
            refine aft_w (st1 := []) rfl (runV (As := []) (rest := []) ⟨hx, hb, hml, hown, hts⟩ (kX6_barNow l g a kmo13) (cwV 0 hts gX6_firstStep_X6_barNow rfl rfl rfl hdX6_barNow ⟨Nat.le_of_ble_eq_true rfl, Nat.le_of_ble_eq_true rfl⟩) hK hN hP hD (va_recv hK hP (ci := 6) (q0 := 0) rfl rfl) rfl hl.1 rfl (Nat.le_of_ble_eq_true rfl) dX6_firstStep_75 ⟨Nat.zero_le _, Nat.zero_le _⟩) hD hS hA (fun H locs hP hD hS => ?_)
            refine lv_aload_n hx hb dX6_firstStep_78 rfl (lv_at hl 0 rfl) ?_
            obtain ⟨mo14, kmo14, h⟩ := bd_ex h
            refine aft_w (st1 := []) rfl (runV (As := []) (rest := []) ⟨hx, hb, hml, hown, hts⟩ (kX6_moveBar l g a kmo14) (cwV 0 hts gX6_firstStep_X6_moveBar rfl rfl rfl hdX6_moveBar ⟨Nat.le_of_ble_eq_true rfl, Nat.le_of_ble_eq_true rfl⟩) hK hN hP hD (va_recv hK hP (ci := 6) (q0 := 0) rfl rfl) rfl hl.1 rfl (Nat.le_of_ble_eq_true rfl) dX6_firstStep_79 ⟨Nat.zero_le _, Nat.zero_le _⟩) hD hS hA (fun H locs hP hD hS => ?_)
            refine lv_iload hx hb dX6_firstStep_82 (lv_at hl 3 rfl) ?_
            refine lv_iload hx hb dX6_firstStep_84 (lv_at hl 4 rfl) ?_
            refine lv_ishr hx hb dX6_firstStep_86 ?_
            refine lv_iconst (v := 1) hx hb dX6_firstStep_87 (by decide) ?_
            refine lv_iand hx hb dX6_firstStep_88 ?_
            refine lv_iconst (v := 1) hx hb dX6_firstStep_89 (by decide) ?_
            refine lv_icmp_ne (tgt := 109) hx hb dX6_firstStep_90 (by decide) (fun c15 => ?_) (fun c15 => ?_)
            · have h := if_f c15 h
              refine lv_iconst (v := 0) hx hb dX6_firstStep_109 (by decide) ?_
              refine lv_istore (lv' := [(6, .int (0 : Int32)), (0, .ref (a 0)), (2, .int r1), (3, .int r2), (4, .int r9), (5, .int v5_10)]) hx hb dX6_firstStep_110 hl (by decide) rfl (fun ls hl => ?_)
              refine lv_iload hx hb dX6_firstStep_112 (lv_at hl 0 rfl) ?_
              refine lv_if_eq (tgt := 134) hx hb dX6_firstStep_114 (by decide) (fun c16 => ?_) (fun c16 => ?_)
              rotate_left
              · exact absurd c16 (by decide)
              obtain ⟨x17, ex17, h⟩ := pl_ex h
              refine lv_iinc (v := x17) (lv' := [(5, .int x17), (6, .int (0 : Int32)), (0, .ref (a 0)), (2, .int r1), (3, .int r2), (4, .int r9)]) hx hb dX6_firstStep_134 hl (k := 5) rfl (by rw [← ex17]; rfl) (by decide) rfl (fun ls hl => ?_)
              refine lv_goto (tgt := 63) hx hb dX6_firstStep_137 (by decide) ?_
              exact ih x17 mo14 _ _ _ h hP hD hS (lv_sub hl [2, 3, 4, 5, 0] rfl)
            · have h := if_t c15 h
              refine lv_aload_n hx hb dX6_firstStep_93 rfl (lv_at hl 0 rfl) ?_
              obtain ⟨r18, kr18, h⟩ := bd_ex h
              refine aft_w (st1 := [.int r18]) rfl (runV (As := []) (rest := []) ⟨hx, hb, hml, hown, hts⟩ (kX6_barred l g a kr18) (cwV 0 hts gX6_firstStep_X6_barred rfl rfl rfl hdX6_barred ⟨Nat.le_of_ble_eq_true rfl, Nat.le_of_ble_eq_true rfl⟩) hK hN hP hD (va_recv hK hP (ci := 6) (q0 := 0) rfl rfl) rfl hl.1 rfl (Nat.le_of_ble_eq_true rfl) dX6_firstStep_94 ⟨Nat.zero_le _, Nat.zero_le _⟩) hD hS hA (fun H locs hP hD hS => ?_)
              refine lv_iload hx hb dX6_firstStep_97 (lv_at hl 4 rfl) ?_
              refine lv_ishr hx hb dX6_firstStep_99 ?_
              refine lv_iconst (v := 1) hx hb dX6_firstStep_100 (by decide) ?_
              refine lv_iand hx hb dX6_firstStep_101 ?_
              refine lv_if_ne (tgt := 109) hx hb dX6_firstStep_102 (by decide) (fun c19 => ?_) (fun c19 => ?_)
              · have h := if_f c19 h
                refine lv_iconst (v := 0) hx hb dX6_firstStep_109 (by decide) ?_
                refine lv_istore (lv' := [(6, .int (0 : Int32)), (0, .ref (a 0)), (2, .int r1), (3, .int r2), (4, .int r9), (5, .int v5_10)]) hx hb dX6_firstStep_110 hl (by decide) rfl (fun ls hl => ?_)
                refine lv_iload hx hb dX6_firstStep_112 (lv_at hl 0 rfl) ?_
                refine lv_if_eq (tgt := 134) hx hb dX6_firstStep_114 (by decide) (fun c20 => ?_) (fun c20 => ?_)
                rotate_left
                · exact absurd c20 (by decide)
                obtain ⟨x21, ex21, h⟩ := pl_ex h
                refine lv_iinc (v := x21) (lv' := [(5, .int x21), (6, .int (0 : Int32)), (0, .ref (a 0)), (2, .int r1), (3, .int r2), (4, .int r9)]) hx hb dX6_firstStep_134 hl (k := 5) rfl (by rw [← ex21]; rfl) (by decide) rfl (fun ls hl => ?_)
                refine lv_goto (tgt := 63) hx hb dX6_firstStep_137 (by decide) ?_
                exact ih x21 mo14 _ _ _ h hP hD hS (lv_sub hl [2, 3, 4, 5, 0] rfl)
              · have h := if_t c19 h
                refine lv_iconst (v := 1) hx hb dX6_firstStep_105 (by decide) ?_
                refine lv_goto (tgt := 110) hx hb dX6_firstStep_106 (by decide) ?_
                refine lv_istore (lv' := [(6, .int (1 : Int32)), (0, .ref (a 0)), (2, .int r1), (3, .int r2), (4, .int r9), (5, .int v5_10)]) hx hb dX6_firstStep_110 hl (by decide) rfl (fun ls hl => ?_)
                refine lv_iload hx hb dX6_firstStep_112 (lv_at hl 0 rfl) ?_
                refine lv_if_eq (tgt := 134) hx hb dX6_firstStep_114 (by decide) (fun c22 => ?_) (fun c22 => ?_)
                · exact absurd c22 (by decide)
                refine lv_aload_n hx hb dX6_firstStep_117 rfl (lv_at hl 1 rfl) ?_
                refine lv_iload hx hb dX6_firstStep_118 (lv_at hl 5 rfl) ?_
                refine lv_iload_n hx hb dX6_firstStep_120 rfl (lv_at hl 2 rfl) ?_
                refine lv_iconst (v := 1) hx hb dX6_firstStep_121 (by decide) ?_
                obtain ⟨r23, mo24, kr23, h⟩ := bd2_ex h
                refine aft_w (st1 := [.int r23]) rfl (runV (As := [.int v5_10, .int r1, .int (1 : Int32)]) (rest := []) ⟨hx, hb, hml, hown, hts⟩ (kX6_fewestFrom l g a kr23) (cwV 3 hts gX6_firstStep_X6_fewestFrom rfl rfl rfl hdX6_fewestFrom ⟨Nat.le_of_ble_eq_true rfl, Nat.le_of_ble_eq_true rfl⟩) hK hN hP hD (va_recv hK hP (ci := 6) (q0 := 0) rfl rfl) rfl hl.1 rfl (Nat.le_of_ble_eq_true rfl) dX6_firstStep_122 ⟨Nat.zero_le _, Nat.zero_le _⟩) hD hS hA (fun H locs hP hD hS => ?_)
                refine lv_iload_n hx hb dX6_firstStep_125 rfl (lv_at hl 3 rfl) ?_
                refine lv_iconst (v := 1) hx hb dX6_firstStep_126 (by decide) ?_
                refine lv_isub hx hb dX6_firstStep_127 ?_
                refine lv_icmp_ne (tgt := 134) hx hb dX6_firstStep_128 (by decide) (fun c25 => ?_) (fun c25 => ?_)
                · have h := if_f c25 h
                  obtain ⟨x26, ex26, h⟩ := pl_ex h
                  refine lv_iinc (v := x26) (lv' := [(5, .int x26), (6, .int (1 : Int32)), (0, .ref (a 0)), (2, .int r1), (3, .int r2), (4, .int r9)]) hx hb dX6_firstStep_134 hl (k := 5) rfl (by rw [← ex26]; rfl) (by decide) rfl (fun ls hl => ?_)
                  refine lv_goto (tgt := 63) hx hb dX6_firstStep_137 (by decide) ?_
                  exact ih x26 mo24 _ _ _ h hP hD hS (lv_sub hl [2, 3, 4, 5, 0] rfl)
                · have h := if_t c25 h
                  refine lv_iload hx hb dX6_firstStep_131 (lv_at hl 5 rfl) ?_
                  cases some_i h
                  exact hend _ _ _ _ _ hP hD hS (RetOK.i dX6_firstStep_133)
      exact L63 1000 (0 : Int32) mo5 _ _ _ h hP hD hS (lv_sub hl [4, 3, 2, 1, 0] rfl)
    · have h := if_t c8 h
      refine lv_iconst (v := 1) hx hb dX6_firstStep_50 (by decide) ?_
      refine lv_goto (tgt := 55) hx hb dX6_firstStep_51 (by decide) ?_
      obtain ⟨r27, kr27, h⟩ := bd_ex h
      refine aft_w (st1 := [.int r27]) rfl (runV (As := [.int ((1 : Int32) <<< (r6 &&& 31)), .int (1 : Int32)]) (rest := []) ⟨hx, hb, hml, hown, hts⟩ (kX6_options l g a kr27) (cwV 2 hts gX6_firstStep_X6_options rfl rfl rfl hdX6_options ⟨Nat.le_of_ble_eq_true rfl, Nat.le_of_ble_eq_true rfl⟩) hK hN hP hD (va_recv hK hP (ci := 6) (q0 := 0) rfl rfl) rfl hl.1 rfl (Nat.le_of_ble_eq_true rfl) dX6_firstStep_55 ⟨Nat.zero_le _, Nat.zero_le _⟩) hD hS hA (fun H locs hP hD hS => ?_)
      refine lv_istore (lv' := [(4, .int r27), (3, .int r2), (2, .int r1), (0, .ref (a 0)), (1, .int p1)]) hx hb dX6_firstStep_58 hl (by decide) rfl (fun ls hl => ?_)
      refine lv_iconst (v := 0) hx hb dX6_firstStep_60 (by decide) ?_
      refine lv_istore (lv' := [(5, .int (0 : Int32)), (4, .int r27), (3, .int r2), (2, .int r1), (0, .ref (a 0)), (1, .int p1)]) hx hb dX6_firstStep_61 hl (by decide) rfl (fun ls hl => ?_)
      have L63 : ∀ (n : Nat) (v5_28 : Int32) (mo29 : Mo) (H : Heap) (locs : List Loc) (ls : Array Slot), fX6_firstStep_L63 r1 r2 r27 n v5_28 mo29 = some (res, mo') → va_P g.1 vwCl (cMo g a mo29) H → va_D A (cMo g a mo29) → va_S A su.heap H locs → lv_has ls 7 [(0, .ref (a 0)), (2, .int r1), (3, .int r2), (4, .int r27), (5, .int v5_28)] → W p l e rX6_firstStep su m args below meth c H locs 0 0 Q (F0 m 63 ls []) := by
        intro n
        induction n with
        | zero => intro v5_28 mo29 H locs ls h hP hD hS hl; cases h
        | succ n ih =>
          intro v5_28 mo29 H locs ls h hP hD hS hl
          rw [fX6_firstStep_L63] at h
          refine lv_iload hx hb dX6_firstStep_63 (lv_at hl 4 rfl) ?_
          refine lv_aload_n hx hb dX6_firstStep_65 rfl (lv_at hl 0 rfl) ?_
          refine va_get (D := g.1) (ci := 6) (v := .ref (a 1)) (C := RX6) (T := TX6) (N := 15) hx hb hts hinX6 hown hK hP 0 rfl rfl 1 (by decide) (hts (.fieldLink RX6 7 "BarredRungsModel" "state" "[I") (List.mem_of_getElem? (i := 1) rfl)) (fun _ h9 => h9) rfl dX6_firstStep_66 ?_
          refine lv_iconst (v := 0) hx hb dX6_firstStep_69 (by decide) ?_
          obtain ⟨hi9, h⟩ := ck_ex h
          refine va_iald hx hb hK hP 1 0 rfl rfl (inb_in hi9) dX6_firstStep_70 ?_
          refine lv_icmp_ge (tgt := 140) hx hb dX6_firstStep_71 (by decide) (fun c30 => ?_) (fun c30 => ?_)
          · have h := if_t c30 h
            refine lv_iconst (v := -1) hx hb dX6_firstStep_140 (by decide) ?_
            cases some_i h
            exact hend _ _ _ _ _ hP hD hS (RetOK.i dX6_firstStep_141)
          · have h := if_f c30 h
            refine lv_aload_n hx hb dX6_firstStep_74 rfl (lv_at hl 0 rfl) ?_
            obtain ⟨mo31, kmo31, h⟩ := bd_ex h
            refine aft_w (st1 := []) rfl (runV (As := []) (rest := []) ⟨hx, hb, hml, hown, hts⟩ (kX6_barNow l g a kmo31) (cwV 0 hts gX6_firstStep_X6_barNow rfl rfl rfl hdX6_barNow ⟨Nat.le_of_ble_eq_true rfl, Nat.le_of_ble_eq_true rfl⟩) hK hN hP hD (va_recv hK hP (ci := 6) (q0 := 0) rfl rfl) rfl hl.1 rfl (Nat.le_of_ble_eq_true rfl) dX6_firstStep_75 ⟨Nat.zero_le _, Nat.zero_le _⟩) hD hS hA (fun H locs hP hD hS => ?_)
            refine lv_aload_n hx hb dX6_firstStep_78 rfl (lv_at hl 0 rfl) ?_
            obtain ⟨mo32, kmo32, h⟩ := bd_ex h
            refine aft_w (st1 := []) rfl (runV (As := []) (rest := []) ⟨hx, hb, hml, hown, hts⟩ (kX6_moveBar l g a kmo32) (cwV 0 hts gX6_firstStep_X6_moveBar rfl rfl rfl hdX6_moveBar ⟨Nat.le_of_ble_eq_true rfl, Nat.le_of_ble_eq_true rfl⟩) hK hN hP hD (va_recv hK hP (ci := 6) (q0 := 0) rfl rfl) rfl hl.1 rfl (Nat.le_of_ble_eq_true rfl) dX6_firstStep_79 ⟨Nat.zero_le _, Nat.zero_le _⟩) hD hS hA (fun H locs hP hD hS => ?_)
            refine lv_iload hx hb dX6_firstStep_82 (lv_at hl 3 rfl) ?_
            refine lv_iload hx hb dX6_firstStep_84 (lv_at hl 4 rfl) ?_
            refine lv_ishr hx hb dX6_firstStep_86 ?_
            refine lv_iconst (v := 1) hx hb dX6_firstStep_87 (by decide) ?_
            refine lv_iand hx hb dX6_firstStep_88 ?_
            refine lv_iconst (v := 1) hx hb dX6_firstStep_89 (by decide) ?_
            refine lv_icmp_ne (tgt := 109) hx hb dX6_firstStep_90 (by decide) (fun c33 => ?_) (fun c33 => ?_)
            · have h := if_f c33 h
              refine lv_iconst (v := 0) hx hb dX6_firstStep_109 (by decide) ?_
              refine lv_istore (lv' := [(6, .int (0 : Int32)), (0, .ref (a 0)), (2, .int r1), (3, .int r2), (4, .int r27), (5, .int v5_28)]) hx hb dX6_firstStep_110 hl (by decide) rfl (fun ls hl => ?_)
              refine lv_iload hx hb dX6_firstStep_112 (lv_at hl 0 rfl) ?_
              refine lv_if_eq (tgt := 134) hx hb dX6_firstStep_114 (by decide) (fun c34 => ?_) (fun c34 => ?_)
              rotate_left
              · exact absurd c34 (by decide)
              obtain ⟨x35, ex35, h⟩ := pl_ex h
              refine lv_iinc (v := x35) (lv' := [(5, .int x35), (6, .int (0 : Int32)), (0, .ref (a 0)), (2, .int r1), (3, .int r2), (4, .int r27)]) hx hb dX6_firstStep_134 hl (k := 5) rfl (by rw [← ex35]; rfl) (by decide) rfl (fun ls hl => ?_)
              refine lv_goto (tgt := 63) hx hb dX6_firstStep_137 (by decide) ?_
              exact ih x35 mo32 _ _ _ h hP hD hS (lv_sub hl [2, 3, 4, 5, 0] rfl)
            · have h := if_t c33 h
              refine lv_aload_n hx hb dX6_firstStep_93 rfl (lv_at hl 0 rfl) ?_
              obtain ⟨r36, kr36, h⟩ := bd_ex h
              refine aft_w (st1 := [.int r36]) rfl (runV (As := []) (rest := []) ⟨hx, hb, hml, hown, hts⟩ (kX6_barred l g a kr36) (cwV 0 hts gX6_firstStep_X6_barred rfl rfl rfl hdX6_barred ⟨Nat.le_of_ble_eq_true rfl, Nat.le_of_ble_eq_true rfl⟩) hK hN hP hD (va_recv hK hP (ci := 6) (q0 := 0) rfl rfl) rfl hl.1 rfl (Nat.le_of_ble_eq_true rfl) dX6_firstStep_94 ⟨Nat.zero_le _, Nat.zero_le _⟩) hD hS hA (fun H locs hP hD hS => ?_)
              refine lv_iload hx hb dX6_firstStep_97 (lv_at hl 4 rfl) ?_
              refine lv_ishr hx hb dX6_firstStep_99 ?_
              refine lv_iconst (v := 1) hx hb dX6_firstStep_100 (by decide) ?_
              refine lv_iand hx hb dX6_firstStep_101 ?_
              refine lv_if_ne (tgt := 109) hx hb dX6_firstStep_102 (by decide) (fun c37 => ?_) (fun c37 => ?_)
              · have h := if_f c37 h
                refine lv_iconst (v := 0) hx hb dX6_firstStep_109 (by decide) ?_
                refine lv_istore (lv' := [(6, .int (0 : Int32)), (0, .ref (a 0)), (2, .int r1), (3, .int r2), (4, .int r27), (5, .int v5_28)]) hx hb dX6_firstStep_110 hl (by decide) rfl (fun ls hl => ?_)
                refine lv_iload hx hb dX6_firstStep_112 (lv_at hl 0 rfl) ?_
                refine lv_if_eq (tgt := 134) hx hb dX6_firstStep_114 (by decide) (fun c38 => ?_) (fun c38 => ?_)
                rotate_left
                · exact absurd c38 (by decide)
                obtain ⟨x39, ex39, h⟩ := pl_ex h
                refine lv_iinc (v := x39) (lv' := [(5, .int x39), (6, .int (0 : Int32)), (0, .ref (a 0)), (2, .int r1), (3, .int r2), (4, .int r27)]) hx hb dX6_firstStep_134 hl (k := 5) rfl (by rw [← ex39]; rfl) (by decide) rfl (fun ls hl => ?_)
                refine lv_goto (tgt := 63) hx hb dX6_firstStep_137 (by decide) ?_
                exact ih x39 mo32 _ _ _ h hP hD hS (lv_sub hl [2, 3, 4, 5, 0] rfl)
              · have h := if_t c37 h
                refine lv_iconst (v := 1) hx hb dX6_firstStep_105 (by decide) ?_
                refine lv_goto (tgt := 110) hx hb dX6_firstStep_106 (by decide) ?_
                refine lv_istore (lv' := [(6, .int (1 : Int32)), (0, .ref (a 0)), (2, .int r1), (3, .int r2), (4, .int r27), (5, .int v5_28)]) hx hb dX6_firstStep_110 hl (by decide) rfl (fun ls hl => ?_)
                refine lv_iload hx hb dX6_firstStep_112 (lv_at hl 0 rfl) ?_
                refine lv_if_eq (tgt := 134) hx hb dX6_firstStep_114 (by decide) (fun c40 => ?_) (fun c40 => ?_)
                · exact absurd c40 (by decide)
                refine lv_aload_n hx hb dX6_firstStep_117 rfl (lv_at hl 1 rfl) ?_
                refine lv_iload hx hb dX6_firstStep_118 (lv_at hl 5 rfl) ?_
                refine lv_iload_n hx hb dX6_firstStep_120 rfl (lv_at hl 2 rfl) ?_
                refine lv_iconst (v := 1) hx hb dX6_firstStep_121 (by decide) ?_
                obtain ⟨r41, mo42, kr41, h⟩ := bd2_ex h
                refine aft_w (st1 := [.int r41]) rfl (runV (As := [.int v5_28, .int r1, .int (1 : Int32)]) (rest := []) ⟨hx, hb, hml, hown, hts⟩ (kX6_fewestFrom l g a kr41) (cwV 3 hts gX6_firstStep_X6_fewestFrom rfl rfl rfl hdX6_fewestFrom ⟨Nat.le_of_ble_eq_true rfl, Nat.le_of_ble_eq_true rfl⟩) hK hN hP hD (va_recv hK hP (ci := 6) (q0 := 0) rfl rfl) rfl hl.1 rfl (Nat.le_of_ble_eq_true rfl) dX6_firstStep_122 ⟨Nat.zero_le _, Nat.zero_le _⟩) hD hS hA (fun H locs hP hD hS => ?_)
                refine lv_iload_n hx hb dX6_firstStep_125 rfl (lv_at hl 3 rfl) ?_
                refine lv_iconst (v := 1) hx hb dX6_firstStep_126 (by decide) ?_
                refine lv_isub hx hb dX6_firstStep_127 ?_
                refine lv_icmp_ne (tgt := 134) hx hb dX6_firstStep_128 (by decide) (fun c43 => ?_) (fun c43 => ?_)
                · have h := if_f c43 h
                  obtain ⟨x44, ex44, h⟩ := pl_ex h
                  refine lv_iinc (v := x44) (lv' := [(5, .int x44), (6, .int (1 : Int32)), (0, .ref (a 0)), (2, .int r1), (3, .int r2), (4, .int r27)]) hx hb dX6_firstStep_134 hl (k := 5) rfl (by rw [← ex44]; rfl) (by decide) rfl (fun ls hl => ?_)
                  refine lv_goto (tgt := 63) hx hb dX6_firstStep_137 (by decide) ?_
                  exact ih x44 mo42 _ _ _ h hP hD hS (lv_sub hl [2, 3, 4, 5, 0] rfl)
                · have h := if_t c43 h
                  refine lv_iload hx hb dX6_firstStep_131 (lv_at hl 5 rfl) ?_
                  cases some_i h
                  exact hend _ _ _ _ _ hP hD hS (RetOK.i dX6_firstStep_133)
      exact L63 1000 (0 : Int32) mo5 _ _ _ h hP hD hS (lv_sub hl [4, 3, 2, 1, 0] rfl)
  · have h := if_f c4 h
    refine lv_iload_n hx hb dX6_firstStep_18 rfl (lv_at hl 0 rfl) ?_
    refine lv_if_ne (tgt := 26) hx hb dX6_firstStep_19 (by decide) (fun c45 => ?_) (fun c45 => ?_)
    · have h := if_f c45 h
      refine lv_iconst (v := -1) hx hb dX6_firstStep_26 (by decide) ?_
      cases some_i h
      exact hend _ _ _ _ _ hP hD hS (RetOK.i dX6_firstStep_27)
    · have h := if_t c45 h
      refine lv_iload_n hx hb dX6_firstStep_22 rfl (lv_at hl 1 rfl) ?_
      refine lv_goto (tgt := 27) hx hb dX6_firstStep_23 (by decide) ?_
      cases some_i h
      exact hend _ _ _ _ _ hP hD hS (RetOK.i dX6_firstStep_27)
def fX6_tellsClimber (mo : Mo) (p1 : Int32) (p2 : Int32) : Option (Int32 × Mo) :=
(if (7 : Int32) ≤ p2 then
(bd (fX6_of mo p1 (0 : Int32)) fun (r2 : Int32) =>
(if r2 = (-1 : Int32) then
(some ((-1 : Int32), mo))
else
(if p2 = (9 : Int32) then
(bd2 (fX6_firstStep mo p1) fun (r7 : Int32) (mo8 : Mo) =>
(some (r7, mo8)))
else
(bd2 (fX6_fewestOf mo p1) fun (r5 : Int32) (mo6 : Mo) =>
(some (r5, mo6))))))
else
(bd (fX6_of mo p1 p2) fun (r9 : Int32) =>
(some (r9, mo))))
abbrev rX6_tellsClimber : Room := { frames := 8, cells := 0, slots := 0, locals := 184 }
theorem hdX6_tellsClimber : yX6_tellsClimber.cls = RX6 ∧ yX6_tellsClimber.cls ≠ "java/lang/invoke/MethodHandle" ∧ yX6_tellsClimber.cls ≠ "java/lang/invoke/VarHandle" ∧ (parseMethodDescriptor yX6_tellsClimber.desc).map (fun d => d.parameters.length) = some 2 := by decide +kernel
set_option maxRecDepth 100000 in
set_option maxHeartbeats 8000000 in
theorem kX6_tellsClimber (l : Launch) (g : GG) (a : Nat → Nat) {mo : Mo} {p1 : Int32} {p2 : Int32} {res : Int32} {mo' : Mo} (h : fX6_tellsClimber mo p1 p2 = some (res, mo')) : Cg l g yX6_tellsClimber wsX6_tellsClimber rX6_tellsClimber [.ref (a 0), .int p1, .int p2] (cMo g a mo) (some (.int res)) (cMo g a mo') := by
  refine Cg_of (cc := cX6_tellsClimber) (maxL := 3) (ret := (some .int)) (by decide +kernel) rfl (Nat.le_of_ble_eq_true rfl) ?_
  intro p e su m args below meth c A Q ls hx hb hml hown hts hK hN hA hnm hP hD hS hl hend
  have hinX6 : ∀ w ∈ u_ws RX6 TX6 15, w ∈ wsX6_tellsClimber := fun _ h9 => List.mem_cons_of_mem _ (List.mem_append_right _ h9)
  unfold fX6_tellsClimber at h
  have hl : lv_has ls 3 [(0, .ref (a 0)), (1, .int p1), (2, .int p2)] := hl
  refine lv_iload_n hx hb dX6_tellsClimber_0 rfl (lv_at hl 2 rfl) ?_
  refine lv_bipush (v := 7) hx hb dX6_tellsClimber_1 (by decide) ?_
  refine lv_icmp_ge (tgt := 13) hx hb dX6_tellsClimber_3 (by decide) (fun c1 => ?_) (fun c1 => ?_)
  · have h := if_t c1 h
    refine lv_aload_n hx hb dX6_tellsClimber_13 rfl (lv_at hl 0 rfl) ?_
    refine lv_iload_n hx hb dX6_tellsClimber_14 rfl (lv_at hl 1 rfl) ?_
    refine lv_iconst (v := 0) hx hb dX6_tellsClimber_15 (by decide) ?_
    obtain ⟨r2, kr2, h⟩ := bd_ex h
    refine aft_w (st1 := [.int r2]) rfl (runV (As := [.int p1, .int (0 : Int32)]) (rest := []) ⟨hx, hb, hml, hown, hts⟩ (kX6_of l g a kr2) (cwV 2 hts gX6_tellsClimber_X6_of rfl rfl rfl hdX6_of ⟨Nat.le_of_ble_eq_true rfl, Nat.le_of_ble_eq_true rfl⟩) hK hN hP hD (va_recv hK hP (ci := 6) (q0 := 0) rfl rfl) rfl hl.1 rfl (Nat.le_of_ble_eq_true rfl) dX6_tellsClimber_16 ⟨Nat.zero_le _, Nat.zero_le _⟩) hD hS hA (fun H locs hP hD hS => ?_)
    refine lv_iconst (v := -1) hx hb dX6_tellsClimber_19 (by decide) ?_
    refine lv_icmp_ne (tgt := 25) hx hb dX6_tellsClimber_20 (by decide) (fun c3 => ?_) (fun c3 => ?_)
    · have h := if_f c3 h
      refine lv_iload_n hx hb dX6_tellsClimber_25 rfl (lv_at hl 2 rfl) ?_
      refine lv_bipush (v := 9) hx hb dX6_tellsClimber_26 (by decide) ?_
      refine lv_icmp_ne (tgt := 39) hx hb dX6_tellsClimber_28 (by decide) (fun c4 => ?_) (fun c4 => ?_)
      · have h := if_f c4 h
        refine lv_aload_n hx hb dX6_tellsClimber_39 rfl (lv_at hl 0 rfl) ?_
        refine lv_iload_n hx hb dX6_tellsClimber_40 rfl (lv_at hl 1 rfl) ?_
        obtain ⟨r5, mo6, kr5, h⟩ := bd2_ex h
        refine aft_w (st1 := [.int r5]) rfl (runV (As := [.int p1]) (rest := []) ⟨hx, hb, hml, hown, hts⟩ (kX6_fewestOf l g a kr5) (cwV 1 hts gX6_tellsClimber_X6_fewestOf rfl rfl rfl hdX6_fewestOf ⟨Nat.le_of_ble_eq_true rfl, Nat.le_of_ble_eq_true rfl⟩) hK hN hP hD (va_recv hK hP (ci := 6) (q0 := 0) rfl rfl) rfl hl.1 rfl (Nat.le_of_ble_eq_true rfl) dX6_tellsClimber_41 ⟨Nat.zero_le _, Nat.zero_le _⟩) hD hS hA (fun H locs hP hD hS => ?_)
        cases some_i h
        exact hend _ _ _ _ _ hP hD hS (RetOK.i dX6_tellsClimber_44)
      · have h := if_t c4 h
        refine lv_aload_n hx hb dX6_tellsClimber_31 rfl (lv_at hl 0 rfl) ?_
        refine lv_iload_n hx hb dX6_tellsClimber_32 rfl (lv_at hl 1 rfl) ?_
        obtain ⟨r7, mo8, kr7, h⟩ := bd2_ex h
        refine aft_w (st1 := [.int r7]) rfl (runV (As := [.int p1]) (rest := []) ⟨hx, hb, hml, hown, hts⟩ (kX6_firstStep l g a kr7) (cwV 1 hts gX6_tellsClimber_X6_firstStep rfl rfl rfl hdX6_firstStep ⟨Nat.le_of_ble_eq_true rfl, Nat.le_of_ble_eq_true rfl⟩) hK hN hP hD (va_recv hK hP (ci := 6) (q0 := 0) rfl rfl) rfl hl.1 rfl (Nat.le_of_ble_eq_true rfl) dX6_tellsClimber_33 ⟨Nat.zero_le _, Nat.zero_le _⟩) hD hS hA (fun H locs hP hD hS => ?_)
        refine lv_goto (tgt := 44) hx hb dX6_tellsClimber_36 (by decide) ?_
        cases some_i h
        exact hend _ _ _ _ _ hP hD hS (RetOK.i dX6_tellsClimber_44)
    · have h := if_t c3 h
      refine lv_iconst (v := -1) hx hb dX6_tellsClimber_23 (by decide) ?_
      cases some_i h
      exact hend _ _ _ _ _ hP hD hS (RetOK.i dX6_tellsClimber_24)
  · have h := if_f c1 h
    refine lv_aload_n hx hb dX6_tellsClimber_6 rfl (lv_at hl 0 rfl) ?_
    refine lv_iload_n hx hb dX6_tellsClimber_7 rfl (lv_at hl 1 rfl) ?_
    refine lv_iload_n hx hb dX6_tellsClimber_8 rfl (lv_at hl 2 rfl) ?_
    obtain ⟨r9, kr9, h⟩ := bd_ex h
    refine aft_w (st1 := [.int r9]) rfl (runV (As := [.int p1, .int p2]) (rest := []) ⟨hx, hb, hml, hown, hts⟩ (kX6_of l g a kr9) (cwV 2 hts gX6_tellsClimber_X6_of rfl rfl rfl hdX6_of ⟨Nat.le_of_ble_eq_true rfl, Nat.le_of_ble_eq_true rfl⟩) hK hN hP hD (va_recv hK hP (ci := 6) (q0 := 0) rfl rfl) rfl hl.1 rfl (Nat.le_of_ble_eq_true rfl) dX6_tellsClimber_9 ⟨Nat.zero_le _, Nat.zero_le _⟩) hD hS hA (fun H locs hP hD hS => ?_)
    cases some_i h
    exact hend _ _ _ _ _ hP hD hS (RetOK.i dX6_tellsClimber_12)
def fX6_climber (mo : Mo) (p1 : Int32) (p2 : Int32) : Option (Int32 × Mo) :=
(pl (Mo_set_thrown mo (0 : Int32)) fun (mo1 : Mo) =>
(bd (fX6_isClimber p1) fun (r2 : Int32) =>
(if r2 = (0 : Int32) then
(bd2 (fX6_fails mo1 (1 : Int32)) fun (r10 : Int32) (mo11 : Mo) =>
(some (r10, mo11)))
else
(bd (fX6_within p2 (0 : Int32) (9 : Int32)) fun (r4 : Int32) =>
(if r4 = (0 : Int32) then
(bd2 (fX6_fails mo1 (2 : Int32)) fun (r6 : Int32) (mo7 : Mo) =>
(some (r6, mo7)))
else
(bd2 (fX6_tellsClimber mo1 p1 p2) fun (r8 : Int32) (mo9 : Mo) =>
(some (r8, mo9))))))))
abbrev rX6_climber : Room := { frames := 9, cells := 0, slots := 0, locals := 206 }
theorem hdX6_climber : yX6_climber.cls = RX6 ∧ yX6_climber.cls ≠ "java/lang/invoke/MethodHandle" ∧ yX6_climber.cls ≠ "java/lang/invoke/VarHandle" ∧ (parseMethodDescriptor yX6_climber.desc).map (fun d => d.parameters.length) = some 2 := by decide +kernel
set_option maxRecDepth 100000 in
set_option maxHeartbeats 8000000 in
theorem kX6_climber (l : Launch) (g : GG) (a : Nat → Nat) {mo : Mo} {p1 : Int32} {p2 : Int32} {res : Int32} {mo' : Mo} (h : fX6_climber mo p1 p2 = some (res, mo')) : Cg l g yX6_climber wsX6_climber rX6_climber [.ref (a 0), .int p1, .int p2] (cMo g a mo) (some (.int res)) (cMo g a mo') := by
  refine Cg_of (cc := cX6_climber) (maxL := 3) (ret := (some .int)) (by decide +kernel) rfl (Nat.le_of_ble_eq_true rfl) ?_
  intro p e su m args below meth c A Q ls hx hb hml hown hts hK hN hA hnm hP hD hS hl hend
  have hinX6 : ∀ w ∈ u_ws RX6 TX6 15, w ∈ wsX6_climber := fun _ h9 => List.mem_cons_of_mem _ (List.mem_append_right _ h9)
  unfold fX6_climber at h
  have hl : lv_has ls 3 [(0, .ref (a 0)), (1, .int p1), (2, .int p2)] := hl
  refine lv_aload_n hx hb dX6_climber_0 rfl (lv_at hl 0 rfl) ?_
  refine lv_iconst (v := 0) hx hb dX6_climber_1 (by decide) ?_
  obtain ⟨mo1, emo1, h⟩ := pl_ex h
  refine va_put (D := g.1) (ci := 6) (v := .int (0 : Int32)) (ty := .int) (C := RX6) (T := TX6) (N := 15) hx hb hts hinX6 tyX6 tyX6_ok nmX6 hown hK hP hD hS 0 rfl rfl 0 (by decide) (hts (.fieldLink RX6 29 "BarredRungsModel" "thrown" "I") (List.mem_of_getElem? (i := 1) rfl)) (fun _ h9 => h9) rfl (by decide +kernel) rfl rfl (Nat.le_of_ble_eq_true rfl) dX6_climber_2 (fun H locs hP hD hS => ?_)
  have hP : va_P g.1 vwCl (cMo g a mo1) H := by rw [← emo1]; exact hP
  have hD : va_D A (cMo g a mo1) := by rw [← emo1]; exact hD
  refine lv_iload_n hx hb dX6_climber_5 rfl (lv_at hl 1 rfl) ?_
  obtain ⟨r2, kr2, h⟩ := bd_ex h
  refine aft_e (st1 := [.int r2]) rfl (runS (As := [.int p1]) (rest := []) ⟨hx, hb, hml, hown, hts⟩ (kX6_isClimber l g kr2) (va_cwS 1 hts gX6_climber_X6_isClimber rfl rfl rfl hdX6_isClimber.2 ⟨Nat.le_of_ble_eq_true rfl, Nat.le_of_ble_eq_true rfl⟩) hK hN nilP (nilD (A := A)) rfl hl.1 rfl (Nat.le_of_ble_eq_true rfl) dX6_climber_6 ⟨Nat.zero_le _, Nat.zero_le _⟩) hP hS hA (fun H locs hP hS => ?_)
  refine lv_if_ne (tgt := 18) hx hb dX6_climber_9 (by decide) (fun c3 => ?_) (fun c3 => ?_)
  · have h := if_f c3 h
    refine lv_iload_n hx hb dX6_climber_18 rfl (lv_at hl 2 rfl) ?_
    refine lv_iconst (v := 0) hx hb dX6_climber_19 (by decide) ?_
    refine lv_bipush (v := 9) hx hb dX6_climber_20 (by decide) ?_
    obtain ⟨r4, kr4, h⟩ := bd_ex h
    refine aft_e (st1 := [.int r4]) rfl (runS (As := [.int p2, .int (0 : Int32), .int (9 : Int32)]) (rest := []) ⟨hx, hb, hml, hown, hts⟩ (kX6_within l g kr4) (va_cwS 3 hts gX6_climber_X6_within rfl rfl rfl hdX6_within.2 ⟨Nat.le_of_ble_eq_true rfl, Nat.le_of_ble_eq_true rfl⟩) hK hN nilP (nilD (A := A)) rfl hl.1 rfl (Nat.le_of_ble_eq_true rfl) dX6_climber_22 ⟨Nat.zero_le _, Nat.zero_le _⟩) hP hS hA (fun H locs hP hS => ?_)
    refine lv_if_eq (tgt := 37) hx hb dX6_climber_25 (by decide) (fun c5 => ?_) (fun c5 => ?_)
    · have h := if_t c5 h
      refine lv_aload_n hx hb dX6_climber_37 rfl (lv_at hl 0 rfl) ?_
      refine lv_iconst (v := 2) hx hb dX6_climber_38 (by decide) ?_
      obtain ⟨r6, mo7, kr6, h⟩ := bd2_ex h
      refine aft_w (st1 := [.int r6]) rfl (runV (As := [.int (2 : Int32)]) (rest := []) ⟨hx, hb, hml, hown, hts⟩ (kX6_fails l g a kr6) (cwV 1 hts gX6_climber_X6_fails rfl rfl rfl hdX6_fails ⟨Nat.le_of_ble_eq_true rfl, Nat.le_of_ble_eq_true rfl⟩) hK hN hP hD (va_recv hK hP (ci := 6) (q0 := 0) rfl rfl) rfl hl.1 rfl (Nat.le_of_ble_eq_true rfl) dX6_climber_39 ⟨Nat.zero_le _, Nat.zero_le _⟩) hD hS hA (fun H locs hP hD hS => ?_)
      cases some_i h
      exact hend _ _ _ _ _ hP hD hS (RetOK.i dX6_climber_42)
    · have h := if_f c5 h
      refine lv_aload_n hx hb dX6_climber_28 rfl (lv_at hl 0 rfl) ?_
      refine lv_iload_n hx hb dX6_climber_29 rfl (lv_at hl 1 rfl) ?_
      refine lv_iload_n hx hb dX6_climber_30 rfl (lv_at hl 2 rfl) ?_
      obtain ⟨r8, mo9, kr8, h⟩ := bd2_ex h
      refine aft_w (st1 := [.int r8]) rfl (runV (As := [.int p1, .int p2]) (rest := []) ⟨hx, hb, hml, hown, hts⟩ (kX6_tellsClimber l g a kr8) (cwV 2 hts gX6_climber_X6_tellsClimber rfl rfl rfl hdX6_tellsClimber ⟨Nat.le_of_ble_eq_true rfl, Nat.le_of_ble_eq_true rfl⟩) hK hN hP hD (va_recv hK hP (ci := 6) (q0 := 0) rfl rfl) rfl hl.1 rfl (Nat.le_of_ble_eq_true rfl) dX6_climber_31 ⟨Nat.zero_le _, Nat.zero_le _⟩) hD hS hA (fun H locs hP hD hS => ?_)
      refine lv_goto (tgt := 42) hx hb dX6_climber_34 (by decide) ?_
      cases some_i h
      exact hend _ _ _ _ _ hP hD hS (RetOK.i dX6_climber_42)
  · have h := if_t c3 h
    refine lv_aload_n hx hb dX6_climber_12 rfl (lv_at hl 0 rfl) ?_
    refine lv_iconst (v := 1) hx hb dX6_climber_13 (by decide) ?_
    obtain ⟨r10, mo11, kr10, h⟩ := bd2_ex h
    refine aft_w (st1 := [.int r10]) rfl (runV (As := [.int (1 : Int32)]) (rest := []) ⟨hx, hb, hml, hown, hts⟩ (kX6_fails l g a kr10) (cwV 1 hts gX6_climber_X6_fails rfl rfl rfl hdX6_fails ⟨Nat.le_of_ble_eq_true rfl, Nat.le_of_ble_eq_true rfl⟩) hK hN hP hD (va_recv hK hP (ci := 6) (q0 := 0) rfl rfl) rfl hl.1 rfl (Nat.le_of_ble_eq_true rfl) dX6_climber_14 ⟨Nat.zero_le _, Nat.zero_le _⟩) hD hS hA (fun H locs hP hD hS => ?_)
    cases some_i h
    exact hend _ _ _ _ _ hP hD hS (RetOK.i dX6_climber_17)
def fX6_climbing_L4 (mo : Mo) : Nat → Int32 → Int32 → Option (Int32)
  | 0, _, _ => none
  | n + 1, v1_1, v2_2 =>
    (if (3 : Int32) ≤ v2_2 then
    (some v1_1)
    else
    (bd (fX6_of mo v2_2 (0 : Int32)) fun (r5 : Int32) =>
    (if r5 = (-1 : Int32) then
    (pl ((v1_1 + (0 : Int32))) fun (x7 : Int32) =>
    (pl ((v2_2 + (1 : Int32))) fun (x8 : Int32) =>
    (fX6_climbing_L4 mo n x7 x8)))
    else
    (pl ((v1_1 + (1 : Int32))) fun (x9 : Int32) =>
    (pl ((v2_2 + (1 : Int32))) fun (x10 : Int32) =>
    (fX6_climbing_L4 mo n x9 x10))))))
def fX6_climbing (mo : Mo) : Option (Int32) :=
(bd (fX6_climbing_L4 mo 1000 (0 : Int32) (0 : Int32)) fun (v1_11 : Int32) =>
(some v1_11))
abbrev rX6_climbing : Room := { frames := 1, cells := 0, slots := 0, locals := 22 }
theorem hdX6_climbing : yX6_climbing.cls = RX6 ∧ yX6_climbing.cls ≠ "java/lang/invoke/MethodHandle" ∧ yX6_climbing.cls ≠ "java/lang/invoke/VarHandle" ∧ (parseMethodDescriptor yX6_climbing.desc).map (fun d => d.parameters.length) = some 0 := by decide +kernel
set_option maxRecDepth 100000 in
set_option maxHeartbeats 8000000 in
theorem kX6_climbing (l : Launch) (g : GG) (a : Nat → Nat) {mo : Mo} {res : Int32} (h : fX6_climbing mo = some res) : Cg l g yX6_climbing wsX6_climbing rX6_climbing [.ref (a 0)] (cMo g a mo) (some (.int res)) (cMo g a mo) := by
  refine Cg_of (cc := cX6_climbing) (maxL := 3) (ret := (some .int)) (by decide +kernel) rfl (Nat.le_of_ble_eq_true rfl) ?_
  intro p e su m args below meth c A Q ls hx hb hml hown hts hK hN hA hnm hP hD hS hl hend
  have hinX6 : ∀ w ∈ u_ws RX6 TX6 15, w ∈ wsX6_climbing := fun _ h9 => List.mem_cons_of_mem _ (List.mem_append_right _ h9)
  unfold fX6_climbing at h
  have hl : lv_has ls 3 [(0, .ref (a 0))] := hl
  refine lv_iconst (v := 0) hx hb dX6_climbing_0 (by decide) ?_
  refine lv_istore_n (lv' := [(1, .int (0 : Int32)), (0, .ref (a 0))]) hx hb dX6_climbing_1 rfl hl (by decide) rfl (fun ls hl => ?_)
  refine lv_iconst (v := 0) hx hb dX6_climbing_2 (by decide) ?_
  refine lv_istore_n (lv' := [(2, .int (0 : Int32)), (1, .int (0 : Int32)), (0, .ref (a 0))]) hx hb dX6_climbing_3 rfl hl (by decide) rfl (fun ls hl => ?_)
  have L4 : ∀ (n : Nat) (v1_1 : Int32) (v2_2 : Int32) (y1_3 : Int32) (H : Heap) (locs : List Loc) (ls : Array Slot), fX6_climbing_L4 mo n v1_1 v2_2 = some y1_3 → va_P g.1 vwCl (cMo g a mo) H → va_D A (cMo g a mo) → va_S A su.heap H locs → lv_has ls 3 [(0, .ref (a 0)), (1, .int v1_1), (2, .int v2_2)] → (∀ (H : Heap) (locs : List Loc) (ls : Array Slot), va_P g.1 vwCl (cMo g a mo) H → va_D A (cMo g a mo) → va_S A su.heap H locs → lv_has ls 3 [(1, .int y1_3)] → W p l e rX6_climbing su m args below meth c H locs 0 0 Q (F0 m 33 ls [])) → W p l e rX6_climbing su m args below meth c H locs 0 0 Q (F0 m 4 ls []) := by
    intro n
    induction n with
    | zero => intro v1_1 v2_2 y1_3 H locs ls h hP hD hS hl kx; cases h
    | succ n ih =>
      intro v1_1 v2_2 y1_3 H locs ls h hP hD hS hl kx
      rw [fX6_climbing_L4] at h
      refine lv_iload_n hx hb dX6_climbing_4 rfl (lv_at hl 2 rfl) ?_
      refine lv_iconst (v := 3) hx hb dX6_climbing_5 (by decide) ?_
      refine lv_icmp_ge (tgt := 33) hx hb dX6_climbing_6 (by decide) (fun c4 => ?_) (fun c4 => ?_)
      · have h := if_t c4 h
        cases some_i h
        exact kx _ _ _ hP hD hS (lv_sub hl [1] rfl)
      · have h := if_f c4 h
        refine lv_iload_n hx hb dX6_climbing_9 rfl (lv_at hl 1 rfl) ?_
        refine lv_aload_n hx hb dX6_climbing_10 rfl (lv_at hl 0 rfl) ?_
        refine lv_iload_n hx hb dX6_climbing_11 rfl (lv_at hl 2 rfl) ?_
        refine lv_iconst (v := 0) hx hb dX6_climbing_12 (by decide) ?_
        obtain ⟨r5, kr5, h⟩ := bd_ex h
        refine aft_w (st1 := [.int r5, .int v1_1]) rfl (runV (As := [.int v2_2, .int (0 : Int32)]) (rest := [.int v1_1]) ⟨hx, hb, hml, hown, hts⟩ (kX6_of l g a kr5) (cwV 2 hts gX6_climbing_X6_of rfl rfl rfl hdX6_of ⟨Nat.le_of_ble_eq_true rfl, Nat.le_of_ble_eq_true rfl⟩) hK hN hP hD (va_recv hK hP (ci := 6) (q0 := 0) rfl rfl) rfl hl.1 rfl (Nat.le_of_ble_eq_true rfl) dX6_climbing_13 ⟨Nat.zero_le _, Nat.zero_le _⟩) hD hS hA (fun H locs hP hD hS => ?_)
        refine lv_iconst (v := -1) hx hb dX6_climbing_16 (by decide) ?_
        refine lv_icmp_eq (tgt := 24) hx hb dX6_climbing_17 (by decide) (fun c6 => ?_) (fun c6 => ?_)
        · have h := if_t c6 h
          refine lv_iconst (v := 0) hx hb dX6_climbing_24 (by decide) ?_
          refine lv_iadd hx hb dX6_climbing_25 ?_
          obtain ⟨x7, ex7, h⟩ := pl_ex h
          refine lv_eqi ex7 ?_
          refine lv_istore_n (lv' := [(1, .int x7), (0, .ref (a 0)), (2, .int v2_2)]) hx hb dX6_climbing_26 rfl hl (by decide) rfl (fun ls hl => ?_)
          obtain ⟨x8, ex8, h⟩ := pl_ex h
          refine lv_iinc (v := x8) (lv' := [(2, .int x8), (1, .int x7), (0, .ref (a 0))]) hx hb dX6_climbing_27 hl (k := 2) rfl (by rw [← ex8]; rfl) (by decide) rfl (fun ls hl => ?_)
          refine lv_goto (tgt := 4) hx hb dX6_climbing_30 (by decide) ?_
          exact ih x7 x8 _ _ _ _ h hP hD hS (lv_sub hl [2, 1, 0] rfl) kx
        · have h := if_f c6 h
          refine lv_iconst (v := 1) hx hb dX6_climbing_20 (by decide) ?_
          refine lv_goto (tgt := 25) hx hb dX6_climbing_21 (by decide) ?_
          refine lv_iadd hx hb dX6_climbing_25 ?_
          obtain ⟨x9, ex9, h⟩ := pl_ex h
          refine lv_eqi ex9 ?_
          refine lv_istore_n (lv' := [(1, .int x9), (0, .ref (a 0)), (2, .int v2_2)]) hx hb dX6_climbing_26 rfl hl (by decide) rfl (fun ls hl => ?_)
          obtain ⟨x10, ex10, h⟩ := pl_ex h
          refine lv_iinc (v := x10) (lv' := [(2, .int x10), (1, .int x9), (0, .ref (a 0))]) hx hb dX6_climbing_27 hl (k := 2) rfl (by rw [← ex10]; rfl) (by decide) rfl (fun ls hl => ?_)
          refine lv_goto (tgt := 4) hx hb dX6_climbing_30 (by decide) ?_
          exact ih x9 x10 _ _ _ _ h hP hD hS (lv_sub hl [2, 1, 0] rfl) kx
  obtain ⟨v1_11, kv1_11, h⟩ := bd_ex h
  refine L4 1000 (0 : Int32) (0 : Int32) v1_11 _ _ _ kv1_11 hP hD hS (lv_sub hl [2, 1, 0] rfl) (fun H locs ls hP hD hS hl => ?_)
  refine lv_iload_n hx hb dX6_climbing_33 rfl (lv_at hl 0 rfl) ?_
  cases some_i h
  exact hend _ _ _ _ _ hP hD hS (RetOK.i dX6_climbing_34)
def fX6_linkedPairs_L8 (mo1 : Mo) : Nat → Int32 → Int32 → Option (Int32)
  | 0, _, _ => none
  | n + 1, v1_2, v2_3 =>
    (ck (inb (0 : Int32) 55)
    (if (Mo_state mo1 (0 : Int32).toNatClampNeg) ≤ v2_3 then
    (some v1_2)
    else
    (ck (inb v2_3 24)
    (bd (fX6_ones (Mo_links mo1 v2_3.toNatClampNeg)) fun (r6 : Int32) =>
    (pl ((v1_2 + r6)) fun (x7 : Int32) =>
    (pl ((v2_3 + (1 : Int32))) fun (x8 : Int32) =>
    (fX6_linkedPairs_L8 mo1 n x7 x8)))))))
def fX6_linkedPairs (mo : Mo) : Option (Int32 × Mo) :=
(bd (fX6_layLinks mo) fun (mo1 : Mo) =>
(bd (fX6_linkedPairs_L8 mo1 1000 (0 : Int32) (0 : Int32)) fun (v1_9 : Int32) =>
(some ((v1_9 / (2 : Int32)), mo1))))
abbrev rX6_linkedPairs : Room := { frames := 4, cells := 0, slots := 0, locals := 91 }
theorem hdX6_linkedPairs : yX6_linkedPairs.cls = RX6 ∧ yX6_linkedPairs.cls ≠ "java/lang/invoke/MethodHandle" ∧ yX6_linkedPairs.cls ≠ "java/lang/invoke/VarHandle" ∧ (parseMethodDescriptor yX6_linkedPairs.desc).map (fun d => d.parameters.length) = some 0 := by decide +kernel
set_option maxRecDepth 100000 in
set_option maxHeartbeats 8000000 in
theorem kX6_linkedPairs (l : Launch) (g : GG) (a : Nat → Nat) {mo : Mo} {res : Int32} {mo' : Mo} (h : fX6_linkedPairs mo = some (res, mo')) : Cg l g yX6_linkedPairs wsX6_linkedPairs rX6_linkedPairs [.ref (a 0)] (cMo g a mo) (some (.int res)) (cMo g a mo') := by
  refine Cg_of (cc := cX6_linkedPairs) (maxL := 3) (ret := (some .int)) (by decide +kernel) rfl (Nat.le_of_ble_eq_true rfl) ?_
  intro p e su m args below meth c A Q ls hx hb hml hown hts hK hN hA hnm hP hD hS hl hend
  have hinX6 : ∀ w ∈ u_ws RX6 TX6 15, w ∈ wsX6_linkedPairs := fun _ h9 => List.mem_cons_of_mem _ (List.mem_append_right _ h9)
  unfold fX6_linkedPairs at h
  have hl : lv_has ls 3 [(0, .ref (a 0))] := hl
  refine lv_aload_n hx hb dX6_linkedPairs_0 rfl (lv_at hl 0 rfl) ?_
  obtain ⟨mo1, kmo1, h⟩ := bd_ex h
  refine aft_w (st1 := []) rfl (runV (As := []) (rest := []) ⟨hx, hb, hml, hown, hts⟩ (kX6_layLinks l g a kmo1) (cwV 0 hts gX6_linkedPairs_X6_layLinks rfl rfl rfl hdX6_layLinks ⟨Nat.le_of_ble_eq_true rfl, Nat.le_of_ble_eq_true rfl⟩) hK hN hP hD (va_recv hK hP (ci := 6) (q0 := 0) rfl rfl) rfl hl.1 rfl (Nat.le_of_ble_eq_true rfl) dX6_linkedPairs_1 ⟨Nat.zero_le _, Nat.zero_le _⟩) hD hS hA (fun H locs hP hD hS => ?_)
  refine lv_iconst (v := 0) hx hb dX6_linkedPairs_4 (by decide) ?_
  refine lv_istore_n (lv' := [(1, .int (0 : Int32)), (0, .ref (a 0))]) hx hb dX6_linkedPairs_5 rfl hl (by decide) rfl (fun ls hl => ?_)
  refine lv_iconst (v := 0) hx hb dX6_linkedPairs_6 (by decide) ?_
  refine lv_istore_n (lv' := [(2, .int (0 : Int32)), (1, .int (0 : Int32)), (0, .ref (a 0))]) hx hb dX6_linkedPairs_7 rfl hl (by decide) rfl (fun ls hl => ?_)
  have L8 : ∀ (n : Nat) (v1_2 : Int32) (v2_3 : Int32) (y1_4 : Int32) (H : Heap) (locs : List Loc) (ls : Array Slot), fX6_linkedPairs_L8 mo1 n v1_2 v2_3 = some y1_4 → va_P g.1 vwCl (cMo g a mo1) H → va_D A (cMo g a mo1) → va_S A su.heap H locs → lv_has ls 3 [(0, .ref (a 0)), (1, .int v1_2), (2, .int v2_3)] → (∀ (H : Heap) (locs : List Loc) (ls : Array Slot), va_P g.1 vwCl (cMo g a mo1) H → va_D A (cMo g a mo1) → va_S A su.heap H locs → lv_has ls 3 [(1, .int y1_4)] → W p l e rX6_linkedPairs su m args below meth c H locs 0 0 Q (F0 m 36 ls [])) → W p l e rX6_linkedPairs su m args below meth c H locs 0 0 Q (F0 m 8 ls []) := by
    intro n
    induction n with
    | zero => intro v1_2 v2_3 y1_4 H locs ls h hP hD hS hl kx; cases h
    | succ n ih =>
      intro v1_2 v2_3 y1_4 H locs ls h hP hD hS hl kx
      rw [fX6_linkedPairs_L8] at h
      refine lv_iload_n hx hb dX6_linkedPairs_8 rfl (lv_at hl 2 rfl) ?_
      refine lv_aload_n hx hb dX6_linkedPairs_9 rfl (lv_at hl 0 rfl) ?_
      refine va_get (D := g.1) (ci := 6) (v := .ref (a 1)) (C := RX6) (T := TX6) (N := 15) hx hb hts hinX6 hown hK hP 0 rfl rfl 1 (by decide) (hts (.fieldLink RX6 7 "BarredRungsModel" "state" "[I") (List.mem_of_getElem? (i := 1) rfl)) (fun _ h9 => h9) rfl dX6_linkedPairs_10 ?_
      refine lv_iconst (v := 0) hx hb dX6_linkedPairs_13 (by decide) ?_
      obtain ⟨hi9, h⟩ := ck_ex h
      refine va_iald hx hb hK hP 1 0 rfl rfl (inb_in hi9) dX6_linkedPairs_14 ?_
      refine lv_icmp_ge (tgt := 36) hx hb dX6_linkedPairs_15 (by decide) (fun c5 => ?_) (fun c5 => ?_)
      · have h := if_t c5 h
        cases some_i h
        exact kx _ _ _ hP hD hS (lv_sub hl [1] rfl)
      · have h := if_f c5 h
        refine lv_iload_n hx hb dX6_linkedPairs_18 rfl (lv_at hl 1 rfl) ?_
        refine lv_aload_n hx hb dX6_linkedPairs_19 rfl (lv_at hl 0 rfl) ?_
        refine va_get (D := g.1) (ci := 6) (v := .ref (a 5)) (C := RX6) (T := TX6) (N := 15) hx hb hts hinX6 hown hK hP 0 rfl rfl 11 (by decide) (hts (.fieldLink RX6 22 "BarredRungsModel" "links" "[I") (List.mem_of_getElem? (i := 2) rfl)) (fun _ h9 => h9) rfl dX6_linkedPairs_20 ?_
        refine lv_iload_n hx hb dX6_linkedPairs_23 rfl (lv_at hl 2 rfl) ?_
        obtain ⟨hi9, h⟩ := ck_ex h
        refine va_iald hx hb hK hP 5 0 rfl rfl (inb_in hi9) dX6_linkedPairs_24 ?_
        obtain ⟨r6, kr6, h⟩ := bd_ex h
        refine aft_e (st1 := [.int r6, .int v1_2]) rfl (runS (As := [.int (Mo_links mo1 v2_3.toNatClampNeg)]) (rest := [.int v1_2]) ⟨hx, hb, hml, hown, hts⟩ (kX6_ones l g kr6) (va_cwS 1 hts gX6_linkedPairs_X6_ones rfl rfl rfl hdX6_ones.2 ⟨Nat.le_of_ble_eq_true rfl, Nat.le_of_ble_eq_true rfl⟩) hK hN nilP (nilD (A := A)) rfl hl.1 rfl (Nat.le_of_ble_eq_true rfl) dX6_linkedPairs_25 ⟨Nat.zero_le _, Nat.zero_le _⟩) hP hS hA (fun H locs hP hS => ?_)
        refine lv_iadd hx hb dX6_linkedPairs_28 ?_
        obtain ⟨x7, ex7, h⟩ := pl_ex h
        refine lv_eqi ex7 ?_
        refine lv_istore_n (lv' := [(1, .int x7), (0, .ref (a 0)), (2, .int v2_3)]) hx hb dX6_linkedPairs_29 rfl hl (by decide) rfl (fun ls hl => ?_)
        obtain ⟨x8, ex8, h⟩ := pl_ex h
        refine lv_iinc (v := x8) (lv' := [(2, .int x8), (1, .int x7), (0, .ref (a 0))]) hx hb dX6_linkedPairs_30 hl (k := 2) rfl (by rw [← ex8]; rfl) (by decide) rfl (fun ls hl => ?_)
        refine lv_goto (tgt := 8) hx hb dX6_linkedPairs_33 (by decide) ?_
        exact ih x7 x8 _ _ _ _ h hP hD hS (lv_sub hl [2, 1, 0] rfl) kx
  obtain ⟨v1_9, kv1_9, h⟩ := bd_ex h
  refine L8 1000 (0 : Int32) (0 : Int32) v1_9 _ _ _ kv1_9 hP hD hS (lv_sub hl [2, 1, 0] rfl) (fun H locs ls hP hD hS hl => ?_)
  refine lv_iload_n hx hb dX6_linkedPairs_36 rfl (lv_at hl 0 rfl) ?_
  refine lv_iconst (v := 2) hx hb dX6_linkedPairs_37 (by decide) ?_
  refine lv_idiv hx hb dX6_linkedPairs_38 (by decide) ?_
  cases some_i h
  exact hend _ _ _ _ _ hP hD hS (RetOK.i dX6_linkedPairs_39)
def fX6_island_L14 (mo : Mo) : Nat → Int32 → Int32 → Option (Int32)
  | 0, _, _ => none
  | n + 1, v2_4, v3_5 =>
    (if v3_5 = (0 : Int32) then
    (some v2_4)
    else
    (pl ((v2_4 ||| v3_5)) fun (x8 : Int32) =>
    (bd (fX6_beside mo x8) fun (r9 : Int32) =>
    (pl ((r9 &&& (x8 ^^^ (-1 : Int32)))) fun (x10 : Int32) =>
    (fX6_island_L14 mo n x8 x10)))))
def fX6_island (mo : Mo) (p1 : Int32) : Option (Int32) :=
(pl (((1 : Int32) <<< (p1 &&& 31))) fun (x1 : Int32) =>
(bd (fX6_beside mo x1) fun (r2 : Int32) =>
(pl ((r2 &&& (x1 ^^^ (-1 : Int32)))) fun (x3 : Int32) =>
(bd (fX6_island_L14 mo 1000 x1 x3) fun (v2_11 : Int32) =>
(some v2_11)))))
abbrev rX6_island : Room := { frames := 1, cells := 0, slots := 0, locals := 23 }
theorem hdX6_island : yX6_island.cls = RX6 ∧ yX6_island.cls ≠ "java/lang/invoke/MethodHandle" ∧ yX6_island.cls ≠ "java/lang/invoke/VarHandle" ∧ (parseMethodDescriptor yX6_island.desc).map (fun d => d.parameters.length) = some 1 := by decide +kernel
set_option maxRecDepth 100000 in
set_option maxHeartbeats 8000000 in
theorem kX6_island (l : Launch) (g : GG) (a : Nat → Nat) {mo : Mo} {p1 : Int32} {res : Int32} (h : fX6_island mo p1 = some res) : Cg l g yX6_island wsX6_island rX6_island [.ref (a 0), .int p1] (cMo g a mo) (some (.int res)) (cMo g a mo) := by
  refine Cg_of (cc := cX6_island) (maxL := 4) (ret := (some .int)) (by decide +kernel) rfl (Nat.le_of_ble_eq_true rfl) ?_
  intro p e su m args below meth c A Q ls hx hb hml hown hts hK hN hA hnm hP hD hS hl hend
  have hinX6 : ∀ w ∈ u_ws RX6 TX6 15, w ∈ wsX6_island := fun _ h9 => List.mem_cons_of_mem _ (List.mem_append_right _ h9)
  unfold fX6_island at h
  have hl : lv_has ls 4 [(0, .ref (a 0)), (1, .int p1)] := hl
  refine lv_iconst (v := 1) hx hb dX6_island_0 (by decide) ?_
  refine lv_iload_n hx hb dX6_island_1 rfl (lv_at hl 1 rfl) ?_
  refine lv_ishl hx hb dX6_island_2 ?_
  obtain ⟨x1, ex1, h⟩ := pl_ex h
  refine lv_eqi ex1 ?_
  refine lv_istore_n (lv' := [(2, .int x1), (0, .ref (a 0)), (1, .int p1)]) hx hb dX6_island_3 rfl hl (by decide) rfl (fun ls hl => ?_)
  refine lv_aload_n hx hb dX6_island_4 rfl (lv_at hl 1 rfl) ?_
  refine lv_iload_n hx hb dX6_island_5 rfl (lv_at hl 0 rfl) ?_
  obtain ⟨r2, kr2, h⟩ := bd_ex h
  refine aft_w (st1 := [.int r2]) rfl (runV (As := [.int x1]) (rest := []) ⟨hx, hb, hml, hown, hts⟩ (kX6_beside l g a kr2) (cwV 1 hts gX6_island_X6_beside rfl rfl rfl hdX6_beside ⟨Nat.le_of_ble_eq_true rfl, Nat.le_of_ble_eq_true rfl⟩) hK hN hP hD (va_recv hK hP (ci := 6) (q0 := 0) rfl rfl) rfl hl.1 rfl (Nat.le_of_ble_eq_true rfl) dX6_island_6 ⟨Nat.zero_le _, Nat.zero_le _⟩) hD hS hA (fun H locs hP hD hS => ?_)
  refine lv_iload_n hx hb dX6_island_9 rfl (lv_at hl 0 rfl) ?_
  refine lv_iconst (v := -1) hx hb dX6_island_10 (by decide) ?_
  refine lv_ixor hx hb dX6_island_11 ?_
  refine lv_iand hx hb dX6_island_12 ?_
  obtain ⟨x3, ex3, h⟩ := pl_ex h
  refine lv_eqi ex3 ?_
  refine lv_istore_n (lv' := [(3, .int x3), (2, .int x1), (0, .ref (a 0)), (1, .int p1)]) hx hb dX6_island_13 rfl hl (by decide) rfl (fun ls hl => ?_)
  have L14 : ∀ (n : Nat) (v2_4 : Int32) (v3_5 : Int32) (y2_6 : Int32) (H : Heap) (locs : List Loc) (ls : Array Slot), fX6_island_L14 mo n v2_4 v3_5 = some y2_6 → va_P g.1 vwCl (cMo g a mo) H → va_D A (cMo g a mo) → va_S A su.heap H locs → lv_has ls 4 [(0, .ref (a 0)), (2, .int v2_4), (3, .int v3_5)] → (∀ (H : Heap) (locs : List Loc) (ls : Array Slot), va_P g.1 vwCl (cMo g a mo) H → va_D A (cMo g a mo) → va_S A su.heap H locs → lv_has ls 4 [(2, .int y2_6)] → W p l e rX6_island su m args below meth c H locs 0 0 Q (F0 m 35 ls [])) → W p l e rX6_island su m args below meth c H locs 0 0 Q (F0 m 14 ls []) := by
    intro n
    induction n with
    | zero => intro v2_4 v3_5 y2_6 H locs ls h hP hD hS hl kx; cases h
    | succ n ih =>
      intro v2_4 v3_5 y2_6 H locs ls h hP hD hS hl kx
      rw [fX6_island_L14] at h
      refine lv_iload_n hx hb dX6_island_14 rfl (lv_at hl 2 rfl) ?_
      refine lv_if_eq (tgt := 35) hx hb dX6_island_15 (by decide) (fun c7 => ?_) (fun c7 => ?_)
      · have h := if_t c7 h
        cases some_i h
        exact kx _ _ _ hP hD hS (lv_sub hl [1] rfl)
      · have h := if_f c7 h
        refine lv_iload_n hx hb dX6_island_18 rfl (lv_at hl 1 rfl) ?_
        refine lv_iload_n hx hb dX6_island_19 rfl (lv_at hl 2 rfl) ?_
        refine lv_ior hx hb dX6_island_20 ?_
        obtain ⟨x8, ex8, h⟩ := pl_ex h
        refine lv_eqi ex8 ?_
        refine lv_istore_n (lv' := [(2, .int x8), (0, .ref (a 0)), (3, .int v3_5)]) hx hb dX6_island_21 rfl hl (by decide) rfl (fun ls hl => ?_)
        refine lv_aload_n hx hb dX6_island_22 rfl (lv_at hl 1 rfl) ?_
        refine lv_iload_n hx hb dX6_island_23 rfl (lv_at hl 0 rfl) ?_
        obtain ⟨r9, kr9, h⟩ := bd_ex h
        refine aft_w (st1 := [.int r9]) rfl (runV (As := [.int x8]) (rest := []) ⟨hx, hb, hml, hown, hts⟩ (kX6_beside l g a kr9) (cwV 1 hts gX6_island_X6_beside rfl rfl rfl hdX6_beside ⟨Nat.le_of_ble_eq_true rfl, Nat.le_of_ble_eq_true rfl⟩) hK hN hP hD (va_recv hK hP (ci := 6) (q0 := 0) rfl rfl) rfl hl.1 rfl (Nat.le_of_ble_eq_true rfl) dX6_island_24 ⟨Nat.zero_le _, Nat.zero_le _⟩) hD hS hA (fun H locs hP hD hS => ?_)
        refine lv_iload_n hx hb dX6_island_27 rfl (lv_at hl 0 rfl) ?_
        refine lv_iconst (v := -1) hx hb dX6_island_28 (by decide) ?_
        refine lv_ixor hx hb dX6_island_29 ?_
        refine lv_iand hx hb dX6_island_30 ?_
        obtain ⟨x10, ex10, h⟩ := pl_ex h
        refine lv_eqi ex10 ?_
        refine lv_istore_n (lv' := [(3, .int x10), (2, .int x8), (0, .ref (a 0))]) hx hb dX6_island_31 rfl hl (by decide) rfl (fun ls hl => ?_)
        refine lv_goto (tgt := 14) hx hb dX6_island_32 (by decide) ?_
        exact ih x8 x10 _ _ _ _ h hP hD hS (lv_sub hl [2, 1, 0] rfl) kx
  obtain ⟨v2_11, kv2_11, h⟩ := bd_ex h
  refine L14 1000 x1 x3 v2_11 _ _ _ kv2_11 hP hD hS (lv_sub hl [2, 1, 0] rfl) (fun H locs ls hP hD hS hl => ?_)
  refine lv_iload_n hx hb dX6_island_35 rfl (lv_at hl 0 rfl) ?_
  cases some_i h
  exact hend _ _ _ _ _ hP hD hS (RetOK.i dX6_island_36)
def fX6_lowest_L2 (p0 : Int32) : Nat → Int32 → Option (Int32)
  | 0, _ => none
  | n + 1, v1_1 =>
    (if ((p0 >>> (v1_1 &&& 31)) &&& (1 : Int32)) = (0 : Int32) then
    (pl ((v1_1 + (1 : Int32))) fun (x4 : Int32) =>
    (fX6_lowest_L2 p0 n x4))
    else
    (some v1_1))
def fX6_lowest (p0 : Int32) : Option (Int32) :=
(bd (fX6_lowest_L2 p0 1000 (0 : Int32)) fun (v1_5 : Int32) =>
(some v1_5))
abbrev rX6_lowest : Room := { frames := 0, cells := 0, slots := 0, locals := 0 }
theorem hdX6_lowest : yX6_lowest.cls = RX6 ∧ yX6_lowest.cls ≠ "java/lang/invoke/MethodHandle" ∧ yX6_lowest.cls ≠ "java/lang/invoke/VarHandle" ∧ (parseMethodDescriptor yX6_lowest.desc).map (fun d => d.parameters.length) = some 1 := by decide +kernel
set_option maxRecDepth 100000 in
set_option maxHeartbeats 8000000 in
theorem kX6_lowest (l : Launch) (g : GG) {p0 : Int32} {res : Int32} (h : fX6_lowest p0 = some res) : Cg l g yX6_lowest wsX6_lowest rX6_lowest [.int p0] [] (some (.int res)) [] := by
  refine Cg_of (cc := cX6_lowest) (maxL := 2) (ret := (some .int)) (by decide +kernel) rfl (Nat.le_of_ble_eq_true rfl) ?_
  intro p e su m args below meth c A Q ls hx hb hml hown hts hK hN hA hnm hP hD hS hl hend
  unfold fX6_lowest at h
  have hl : lv_has ls 2 [(0, .int p0)] := hl
  refine lv_iconst (v := 0) hx hb dX6_lowest_0 (by decide) ?_
  refine lv_istore_n (lv' := [(1, .int (0 : Int32)), (0, .int p0)]) hx hb dX6_lowest_1 rfl hl (by decide) rfl (fun ls hl => ?_)
  have L2 : ∀ (n : Nat) (v1_1 : Int32) (y1_2 : Int32) (H : Heap) (locs : List Loc) (ls : Array Slot), fX6_lowest_L2 p0 n v1_1 = some y1_2 → va_P g.1 vwCl [] H → va_D A [] → va_S A su.heap H locs → lv_has ls 2 [(0, .int p0), (1, .int v1_1)] → (∀ (H : Heap) (locs : List Loc) (ls : Array Slot), va_P g.1 vwCl [] H → va_D A [] → va_S A su.heap H locs → lv_has ls 2 [(1, .int y1_2)] → W p l e rX6_lowest su m args below meth c H locs 0 0 Q (F0 m 16 ls [])) → W p l e rX6_lowest su m args below meth c H locs 0 0 Q (F0 m 2 ls []) := by
    intro n
    induction n with
    | zero => intro v1_1 y1_2 H locs ls h hP hD hS hl kx; cases h
    | succ n ih =>
      intro v1_1 y1_2 H locs ls h hP hD hS hl kx
      rw [fX6_lowest_L2] at h
      refine lv_iload_n hx hb dX6_lowest_2 rfl (lv_at hl 0 rfl) ?_
      refine lv_iload_n hx hb dX6_lowest_3 rfl (lv_at hl 1 rfl) ?_
      refine lv_ishr hx hb dX6_lowest_4 ?_
      refine lv_iconst (v := 1) hx hb dX6_lowest_5 (by decide) ?_
      refine lv_iand hx hb dX6_lowest_6 ?_
      refine lv_if_ne (tgt := 16) hx hb dX6_lowest_7 (by decide) (fun c3 => ?_) (fun c3 => ?_)
      · have h := if_f c3 h
        cases some_i h
        exact kx _ _ _ hP hD hS (lv_sub hl [1] rfl)
      · have h := if_t c3 h
        obtain ⟨x4, ex4, h⟩ := pl_ex h
        refine lv_iinc (v := x4) (lv' := [(1, .int x4), (0, .int p0)]) hx hb dX6_lowest_10 hl (k := 1) rfl (by rw [← ex4]; rfl) (by decide) rfl (fun ls hl => ?_)
        refine lv_goto (tgt := 2) hx hb dX6_lowest_13 (by decide) ?_
        exact ih x4 _ _ _ _ h hP hD hS (lv_sub hl [1, 0] rfl) kx
  obtain ⟨v1_5, kv1_5, h⟩ := bd_ex h
  refine L2 1000 (0 : Int32) v1_5 _ _ _ kv1_5 hP hD hS (lv_sub hl [1, 0] rfl) (fun H locs ls hP hD hS hl => ?_)
  refine lv_iload_n hx hb dX6_lowest_16 rfl (lv_at hl 0 rfl) ?_
  cases some_i h
  exact hend _ _ _ _ _ hP hD hS (RetOK.i dX6_lowest_17)
def fX6_islands_L8 (mo1 : Mo) : Nat → Int32 → Int32 → Option (Int32)
  | 0, _, _ => none
  | n + 1, v1_2, v2_3 =>
    (ck (inb (0 : Int32) 55)
    (if (Mo_state mo1 (0 : Int32).toNatClampNeg) ≤ v2_3 then
    (some v1_2)
    else
    (bd (fX6_island mo1 v2_3) fun (r6 : Int32) =>
    (bd (fX6_lowest r6) fun (r7 : Int32) =>
    (if r7 = v2_3 then
    (pl ((v1_2 + (1 : Int32))) fun (x11 : Int32) =>
    (pl ((v2_3 + (1 : Int32))) fun (x12 : Int32) =>
    (fX6_islands_L8 mo1 n x11 x12)))
    else
    (pl ((v1_2 + (0 : Int32))) fun (x9 : Int32) =>
    (pl ((v2_3 + (1 : Int32))) fun (x10 : Int32) =>
    (fX6_islands_L8 mo1 n x9 x10))))))))
def fX6_islands (mo : Mo) : Option (Int32 × Mo) :=
(bd (fX6_layLinks mo) fun (mo1 : Mo) =>
(bd (fX6_islands_L8 mo1 1000 (0 : Int32) (0 : Int32)) fun (v1_13 : Int32) =>
(some (v1_13, mo1))))
abbrev rX6_islands : Room := { frames := 4, cells := 0, slots := 0, locals := 91 }
theorem hdX6_islands : yX6_islands.cls = RX6 ∧ yX6_islands.cls ≠ "java/lang/invoke/MethodHandle" ∧ yX6_islands.cls ≠ "java/lang/invoke/VarHandle" ∧ (parseMethodDescriptor yX6_islands.desc).map (fun d => d.parameters.length) = some 0 := by decide +kernel
set_option maxRecDepth 100000 in
set_option maxHeartbeats 8000000 in
theorem kX6_islands (l : Launch) (g : GG) (a : Nat → Nat) {mo : Mo} {res : Int32} {mo' : Mo} (h : fX6_islands mo = some (res, mo')) : Cg l g yX6_islands wsX6_islands rX6_islands [.ref (a 0)] (cMo g a mo) (some (.int res)) (cMo g a mo') := by
  refine Cg_of (cc := cX6_islands) (maxL := 3) (ret := (some .int)) (by decide +kernel) rfl (Nat.le_of_ble_eq_true rfl) ?_
  intro p e su m args below meth c A Q ls hx hb hml hown hts hK hN hA hnm hP hD hS hl hend
  have hinX6 : ∀ w ∈ u_ws RX6 TX6 15, w ∈ wsX6_islands := fun _ h9 => List.mem_cons_of_mem _ (List.mem_append_right _ h9)
  unfold fX6_islands at h
  have hl : lv_has ls 3 [(0, .ref (a 0))] := hl
  refine lv_aload_n hx hb dX6_islands_0 rfl (lv_at hl 0 rfl) ?_
  obtain ⟨mo1, kmo1, h⟩ := bd_ex h
  refine aft_w (st1 := []) rfl (runV (As := []) (rest := []) ⟨hx, hb, hml, hown, hts⟩ (kX6_layLinks l g a kmo1) (cwV 0 hts gX6_islands_X6_layLinks rfl rfl rfl hdX6_layLinks ⟨Nat.le_of_ble_eq_true rfl, Nat.le_of_ble_eq_true rfl⟩) hK hN hP hD (va_recv hK hP (ci := 6) (q0 := 0) rfl rfl) rfl hl.1 rfl (Nat.le_of_ble_eq_true rfl) dX6_islands_1 ⟨Nat.zero_le _, Nat.zero_le _⟩) hD hS hA (fun H locs hP hD hS => ?_)
  refine lv_iconst (v := 0) hx hb dX6_islands_4 (by decide) ?_
  refine lv_istore_n (lv' := [(1, .int (0 : Int32)), (0, .ref (a 0))]) hx hb dX6_islands_5 rfl hl (by decide) rfl (fun ls hl => ?_)
  refine lv_iconst (v := 0) hx hb dX6_islands_6 (by decide) ?_
  refine lv_istore_n (lv' := [(2, .int (0 : Int32)), (1, .int (0 : Int32)), (0, .ref (a 0))]) hx hb dX6_islands_7 rfl hl (by decide) rfl (fun ls hl => ?_)
  have L8 : ∀ (n : Nat) (v1_2 : Int32) (v2_3 : Int32) (y1_4 : Int32) (H : Heap) (locs : List Loc) (ls : Array Slot), fX6_islands_L8 mo1 n v1_2 v2_3 = some y1_4 → va_P g.1 vwCl (cMo g a mo1) H → va_D A (cMo g a mo1) → va_S A su.heap H locs → lv_has ls 3 [(0, .ref (a 0)), (1, .int v1_2), (2, .int v2_3)] → (∀ (H : Heap) (locs : List Loc) (ls : Array Slot), va_P g.1 vwCl (cMo g a mo1) H → va_D A (cMo g a mo1) → va_S A su.heap H locs → lv_has ls 3 [(1, .int y1_4)] → W p l e rX6_islands su m args below meth c H locs 0 0 Q (F0 m 44 ls [])) → W p l e rX6_islands su m args below meth c H locs 0 0 Q (F0 m 8 ls []) := by
    intro n
    induction n with
    | zero => intro v1_2 v2_3 y1_4 H locs ls h hP hD hS hl kx; cases h
    | succ n ih =>
      intro v1_2 v2_3 y1_4 H locs ls h hP hD hS hl kx
      rw [fX6_islands_L8] at h
      refine lv_iload_n hx hb dX6_islands_8 rfl (lv_at hl 2 rfl) ?_
      refine lv_aload_n hx hb dX6_islands_9 rfl (lv_at hl 0 rfl) ?_
      refine va_get (D := g.1) (ci := 6) (v := .ref (a 1)) (C := RX6) (T := TX6) (N := 15) hx hb hts hinX6 hown hK hP 0 rfl rfl 1 (by decide) (hts (.fieldLink RX6 7 "BarredRungsModel" "state" "[I") (List.mem_of_getElem? (i := 1) rfl)) (fun _ h9 => h9) rfl dX6_islands_10 ?_
      refine lv_iconst (v := 0) hx hb dX6_islands_13 (by decide) ?_
      obtain ⟨hi9, h⟩ := ck_ex h
      refine va_iald hx hb hK hP 1 0 rfl rfl (inb_in hi9) dX6_islands_14 ?_
      refine lv_icmp_ge (tgt := 44) hx hb dX6_islands_15 (by decide) (fun c5 => ?_) (fun c5 => ?_)
      · have h := if_t c5 h
        cases some_i h
        exact kx _ _ _ hP hD hS (lv_sub hl [1] rfl)
      · have h := if_f c5 h
        refine lv_iload_n hx hb dX6_islands_18 rfl (lv_at hl 1 rfl) ?_
        refine lv_aload_n hx hb dX6_islands_19 rfl (lv_at hl 0 rfl) ?_
        refine lv_iload_n hx hb dX6_islands_20 rfl (lv_at hl 2 rfl) ?_
        obtain ⟨r6, kr6, h⟩ := bd_ex h
        refine aft_w (st1 := [.int r6, .int v1_2]) rfl (runV (As := [.int v2_3]) (rest := [.int v1_2]) ⟨hx, hb, hml, hown, hts⟩ (kX6_island l g a kr6) (cwV 1 hts gX6_islands_X6_island rfl rfl rfl hdX6_island ⟨Nat.le_of_ble_eq_true rfl, Nat.le_of_ble_eq_true rfl⟩) hK hN hP hD (va_recv hK hP (ci := 6) (q0 := 0) rfl rfl) rfl hl.1 rfl (Nat.le_of_ble_eq_true rfl) dX6_islands_21 ⟨Nat.zero_le _, Nat.zero_le _⟩) hD hS hA (fun H locs hP hD hS => ?_)
        obtain ⟨r7, kr7, h⟩ := bd_ex h
        refine aft_e (st1 := [.int r7, .int v1_2]) rfl (runS (As := [.int r6]) (rest := [.int v1_2]) ⟨hx, hb, hml, hown, hts⟩ (kX6_lowest l g kr7) (va_cwS 1 hts gX6_islands_X6_lowest rfl rfl rfl hdX6_lowest.2 ⟨Nat.le_of_ble_eq_true rfl, Nat.le_of_ble_eq_true rfl⟩) hK hN nilP (nilD (A := A)) rfl hl.1 rfl (Nat.le_of_ble_eq_true rfl) dX6_islands_24 ⟨Nat.zero_le _, Nat.zero_le _⟩) hP hS hA (fun H locs hP hS => ?_)
        refine lv_iload_n hx hb dX6_islands_27 rfl (lv_at hl 2 rfl) ?_
        refine lv_icmp_ne (tgt := 35) hx hb dX6_islands_28 (by decide) (fun c8 => ?_) (fun c8 => ?_)
        · have h := if_f c8 h
          refine lv_iconst (v := 0) hx hb dX6_islands_35 (by decide) ?_
          refine lv_iadd hx hb dX6_islands_36 ?_
          obtain ⟨x9, ex9, h⟩ := pl_ex h
          refine lv_eqi ex9 ?_
          refine lv_istore_n (lv' := [(1, .int x9), (0, .ref (a 0)), (2, .int v2_3)]) hx hb dX6_islands_37 rfl hl (by decide) rfl (fun ls hl => ?_)
          obtain ⟨x10, ex10, h⟩ := pl_ex h
          refine lv_iinc (v := x10) (lv' := [(2, .int x10), (1, .int x9), (0, .ref (a 0))]) hx hb dX6_islands_38 hl (k := 2) rfl (by rw [← ex10]; rfl) (by decide) rfl (fun ls hl => ?_)
          refine lv_goto (tgt := 8) hx hb dX6_islands_41 (by decide) ?_
          exact ih x9 x10 _ _ _ _ h hP hD hS (lv_sub hl [2, 1, 0] rfl) kx
        · have h := if_t c8 h
          refine lv_iconst (v := 1) hx hb dX6_islands_31 (by decide) ?_
          refine lv_goto (tgt := 36) hx hb dX6_islands_32 (by decide) ?_
          refine lv_iadd hx hb dX6_islands_36 ?_
          obtain ⟨x11, ex11, h⟩ := pl_ex h
          refine lv_eqi ex11 ?_
          refine lv_istore_n (lv' := [(1, .int x11), (0, .ref (a 0)), (2, .int v2_3)]) hx hb dX6_islands_37 rfl hl (by decide) rfl (fun ls hl => ?_)
          obtain ⟨x12, ex12, h⟩ := pl_ex h
          refine lv_iinc (v := x12) (lv' := [(2, .int x12), (1, .int x11), (0, .ref (a 0))]) hx hb dX6_islands_38 hl (k := 2) rfl (by rw [← ex12]; rfl) (by decide) rfl (fun ls hl => ?_)
          refine lv_goto (tgt := 8) hx hb dX6_islands_41 (by decide) ?_
          exact ih x11 x12 _ _ _ _ h hP hD hS (lv_sub hl [2, 1, 0] rfl) kx
  obtain ⟨v1_13, kv1_13, h⟩ := bd_ex h
  refine L8 1000 (0 : Int32) (0 : Int32) v1_13 _ _ _ kv1_13 hP hD hS (lv_sub hl [2, 1, 0] rfl) (fun H locs ls hP hD hS hl => ?_)
  refine lv_iload_n hx hb dX6_islands_44 rfl (lv_at hl 0 rfl) ?_
  cases some_i h
  exact hend _ _ _ _ _ hP hD hS (RetOK.i dX6_islands_45)
def fX6_tellsCount (mo : Mo) (p1 : Int32) : Option (Int32 × Mo) :=
(if p1 = (0 : Int32) then
(ck (inb (0 : Int32) 55)
(some ((Mo_state mo (0 : Int32).toNatClampNeg), mo)))
else
(if p1 = (1 : Int32) then
(bd2 (fX6_linkedPairs mo) fun (r3 : Int32) (mo4 : Mo) =>
(some (r3, mo4)))
else
(if p1 = (2 : Int32) then
(bd2 (fX6_islands mo) fun (r6 : Int32) (mo7 : Mo) =>
(some (r6, mo7)))
else
(if p1 = (3 : Int32) then
(bd2 (fX6_islands mo) fun (r9 : Int32) (mo10 : Mo) =>
(some (r9, mo10)))
else
(if p1 = (4 : Int32) then
(ck (inb (1 : Int32) 55)
(some ((Mo_state mo (1 : Int32).toNatClampNeg), mo)))
else
(if p1 = (5 : Int32) then
(ck (inb (2 : Int32) 55)
(some ((Mo_state mo (2 : Int32).toNatClampNeg), mo)))
else
(if p1 = (6 : Int32) then
(ck (inb (5 : Int32) 55)
(some ((Mo_state mo (5 : Int32).toNatClampNeg), mo)))
else
(if p1 = (7 : Int32) then
(bd2 (fX6_barredMany mo) fun (r15 : Int32) (mo16 : Mo) =>
(some (r15, mo16)))
else
(if p1 = (8 : Int32) then
(bd (fX6_climbing mo) fun (r18 : Int32) =>
(some (r18, mo)))
else
(if p1 = (9 : Int32) then
(ck (inb (7 : Int32) 55)
(some ((Mo_state mo (7 : Int32).toNatClampNeg), mo)))
else
(if p1 = (10 : Int32) then
(ck (inb (8 : Int32) 55)
(some ((Mo_state mo (8 : Int32).toNatClampNeg), mo)))
else
(if p1 = (11 : Int32) then
(ck (inb (6 : Int32) 55)
(some ((Mo_state mo (6 : Int32).toNatClampNeg), mo)))
else
(some ((Mo_savedMany mo), mo))))))))))))))
abbrev rX6_tellsCount : Room := { frames := 5, cells := 0, slots := 0, locals := 113 }
theorem hdX6_tellsCount : yX6_tellsCount.cls = RX6 ∧ yX6_tellsCount.cls ≠ "java/lang/invoke/MethodHandle" ∧ yX6_tellsCount.cls ≠ "java/lang/invoke/VarHandle" ∧ (parseMethodDescriptor yX6_tellsCount.desc).map (fun d => d.parameters.length) = some 1 := by decide +kernel
set_option maxRecDepth 100000 in
set_option maxHeartbeats 8000000 in
theorem kX6_tellsCount (l : Launch) (g : GG) (a : Nat → Nat) {mo : Mo} {p1 : Int32} {res : Int32} {mo' : Mo} (h : fX6_tellsCount mo p1 = some (res, mo')) : Cg l g yX6_tellsCount wsX6_tellsCount rX6_tellsCount [.ref (a 0), .int p1] (cMo g a mo) (some (.int res)) (cMo g a mo') := by
  refine Cg_of (cc := cX6_tellsCount) (maxL := 2) (ret := (some .int)) (by decide +kernel) rfl (Nat.le_of_ble_eq_true rfl) ?_
  intro p e su m args below meth c A Q ls hx hb hml hown hts hK hN hA hnm hP hD hS hl hend
  have hinX6 : ∀ w ∈ u_ws RX6 TX6 15, w ∈ wsX6_tellsCount := fun _ h9 => List.mem_cons_of_mem _ (List.mem_append_right _ h9)
  unfold fX6_tellsCount at h
  have hl : lv_has ls 2 [(0, .ref (a 0)), (1, .int p1)] := hl
  refine lv_iload_n hx hb dX6_tellsCount_0 rfl (lv_at hl 1 rfl) ?_
  by_cases c1 : p1 = (0 : Int32)
  · have h := if_t c1 h
    refine lv_tableIn (x := p1) (off := 63) (tgt := 64) hx hb dX6_tellsCount_1 (by rw [c1]; decide) (by rw [c1]; decide) (by rw [c1]; decide) (by decide) ?_
    refine lv_aload_n hx hb dX6_tellsCount_64 rfl (lv_at hl 0 rfl) ?_
    refine va_get (D := g.1) (ci := 6) (v := .ref (a 1)) (C := RX6) (T := TX6) (N := 15) hx hb hts hinX6 hown hK hP 0 rfl rfl 1 (by decide) (hts (.fieldLink RX6 7 "BarredRungsModel" "state" "[I") (List.mem_of_getElem? (i := 1) rfl)) (fun _ h9 => h9) rfl dX6_tellsCount_65 ?_
    refine lv_iconst (v := 0) hx hb dX6_tellsCount_68 (by decide) ?_
    obtain ⟨hi9, h⟩ := ck_ex h
    refine va_iald hx hb hK hP 1 0 rfl rfl (inb_in hi9) dX6_tellsCount_69 ?_
    cases some_i h
    exact hend _ _ _ _ _ hP hD hS (RetOK.i dX6_tellsCount_70)
  have h := if_f c1 h
  by_cases c2 : p1 = (1 : Int32)
  · have h := if_t c2 h
    refine lv_tableIn (x := p1) (off := 70) (tgt := 71) hx hb dX6_tellsCount_1 (by rw [c2]; decide) (by rw [c2]; decide) (by rw [c2]; decide) (by decide) ?_
    refine lv_aload_n hx hb dX6_tellsCount_71 rfl (lv_at hl 0 rfl) ?_
    obtain ⟨r3, mo4, kr3, h⟩ := bd2_ex h
    refine aft_w (st1 := [.int r3]) rfl (runV (As := []) (rest := []) ⟨hx, hb, hml, hown, hts⟩ (kX6_linkedPairs l g a kr3) (cwV 0 hts gX6_tellsCount_X6_linkedPairs rfl rfl rfl hdX6_linkedPairs ⟨Nat.le_of_ble_eq_true rfl, Nat.le_of_ble_eq_true rfl⟩) hK hN hP hD (va_recv hK hP (ci := 6) (q0 := 0) rfl rfl) rfl hl.1 rfl (Nat.le_of_ble_eq_true rfl) dX6_tellsCount_72 ⟨Nat.zero_le _, Nat.zero_le _⟩) hD hS hA (fun H locs hP hD hS => ?_)
    cases some_i h
    exact hend _ _ _ _ _ hP hD hS (RetOK.i dX6_tellsCount_75)
  have h := if_f c2 h
  by_cases c5 : p1 = (2 : Int32)
  · have h := if_t c5 h
    refine lv_tableIn (x := p1) (off := 75) (tgt := 76) hx hb dX6_tellsCount_1 (by rw [c5]; decide) (by rw [c5]; decide) (by rw [c5]; decide) (by decide) ?_
    refine lv_aload_n hx hb dX6_tellsCount_76 rfl (lv_at hl 0 rfl) ?_
    obtain ⟨r6, mo7, kr6, h⟩ := bd2_ex h
    refine aft_w (st1 := [.int r6]) rfl (runV (As := []) (rest := []) ⟨hx, hb, hml, hown, hts⟩ (kX6_islands l g a kr6) (cwV 0 hts gX6_tellsCount_X6_islands rfl rfl rfl hdX6_islands ⟨Nat.le_of_ble_eq_true rfl, Nat.le_of_ble_eq_true rfl⟩) hK hN hP hD (va_recv hK hP (ci := 6) (q0 := 0) rfl rfl) rfl hl.1 rfl (Nat.le_of_ble_eq_true rfl) dX6_tellsCount_77 ⟨Nat.zero_le _, Nat.zero_le _⟩) hD hS hA (fun H locs hP hD hS => ?_)
    cases some_i h
    exact hend _ _ _ _ _ hP hD hS (RetOK.i dX6_tellsCount_80)
  have h := if_f c5 h
  by_cases c8 : p1 = (3 : Int32)
  · have h := if_t c8 h
    refine lv_tableIn (x := p1) (off := 75) (tgt := 76) hx hb dX6_tellsCount_1 (by rw [c8]; decide) (by rw [c8]; decide) (by rw [c8]; decide) (by decide) ?_
    refine lv_aload_n hx hb dX6_tellsCount_76 rfl (lv_at hl 0 rfl) ?_
    obtain ⟨r9, mo10, kr9, h⟩ := bd2_ex h
    refine aft_w (st1 := [.int r9]) rfl (runV (As := []) (rest := []) ⟨hx, hb, hml, hown, hts⟩ (kX6_islands l g a kr9) (cwV 0 hts gX6_tellsCount_X6_islands rfl rfl rfl hdX6_islands ⟨Nat.le_of_ble_eq_true rfl, Nat.le_of_ble_eq_true rfl⟩) hK hN hP hD (va_recv hK hP (ci := 6) (q0 := 0) rfl rfl) rfl hl.1 rfl (Nat.le_of_ble_eq_true rfl) dX6_tellsCount_77 ⟨Nat.zero_le _, Nat.zero_le _⟩) hD hS hA (fun H locs hP hD hS => ?_)
    cases some_i h
    exact hend _ _ _ _ _ hP hD hS (RetOK.i dX6_tellsCount_80)
  have h := if_f c8 h
  by_cases c11 : p1 = (4 : Int32)
  · have h := if_t c11 h
    refine lv_tableIn (x := p1) (off := 80) (tgt := 81) hx hb dX6_tellsCount_1 (by rw [c11]; decide) (by rw [c11]; decide) (by rw [c11]; decide) (by decide) ?_
    refine lv_aload_n hx hb dX6_tellsCount_81 rfl (lv_at hl 0 rfl) ?_
    refine va_get (D := g.1) (ci := 6) (v := .ref (a 1)) (C := RX6) (T := TX6) (N := 15) hx hb hts hinX6 hown hK hP 0 rfl rfl 1 (by decide) (hts (.fieldLink RX6 7 "BarredRungsModel" "state" "[I") (List.mem_of_getElem? (i := 1) rfl)) (fun _ h9 => h9) rfl dX6_tellsCount_82 ?_
    refine lv_iconst (v := 1) hx hb dX6_tellsCount_85 (by decide) ?_
    obtain ⟨hi9, h⟩ := ck_ex h
    refine va_iald hx hb hK hP 1 0 rfl rfl (inb_in hi9) dX6_tellsCount_86 ?_
    cases some_i h
    exact hend _ _ _ _ _ hP hD hS (RetOK.i dX6_tellsCount_87)
  have h := if_f c11 h
  by_cases c12 : p1 = (5 : Int32)
  · have h := if_t c12 h
    refine lv_tableIn (x := p1) (off := 87) (tgt := 88) hx hb dX6_tellsCount_1 (by rw [c12]; decide) (by rw [c12]; decide) (by rw [c12]; decide) (by decide) ?_
    refine lv_aload_n hx hb dX6_tellsCount_88 rfl (lv_at hl 0 rfl) ?_
    refine va_get (D := g.1) (ci := 6) (v := .ref (a 1)) (C := RX6) (T := TX6) (N := 15) hx hb hts hinX6 hown hK hP 0 rfl rfl 1 (by decide) (hts (.fieldLink RX6 7 "BarredRungsModel" "state" "[I") (List.mem_of_getElem? (i := 1) rfl)) (fun _ h9 => h9) rfl dX6_tellsCount_89 ?_
    refine lv_iconst (v := 2) hx hb dX6_tellsCount_92 (by decide) ?_
    obtain ⟨hi9, h⟩ := ck_ex h
    refine va_iald hx hb hK hP 1 0 rfl rfl (inb_in hi9) dX6_tellsCount_93 ?_
    cases some_i h
    exact hend _ _ _ _ _ hP hD hS (RetOK.i dX6_tellsCount_94)
  have h := if_f c12 h
  by_cases c13 : p1 = (6 : Int32)
  · have h := if_t c13 h
    refine lv_tableIn (x := p1) (off := 94) (tgt := 95) hx hb dX6_tellsCount_1 (by rw [c13]; decide) (by rw [c13]; decide) (by rw [c13]; decide) (by decide) ?_
    refine lv_aload_n hx hb dX6_tellsCount_95 rfl (lv_at hl 0 rfl) ?_
    refine va_get (D := g.1) (ci := 6) (v := .ref (a 1)) (C := RX6) (T := TX6) (N := 15) hx hb hts hinX6 hown hK hP 0 rfl rfl 1 (by decide) (hts (.fieldLink RX6 7 "BarredRungsModel" "state" "[I") (List.mem_of_getElem? (i := 1) rfl)) (fun _ h9 => h9) rfl dX6_tellsCount_96 ?_
    refine lv_iconst (v := 5) hx hb dX6_tellsCount_99 (by decide) ?_
    obtain ⟨hi9, h⟩ := ck_ex h
    refine va_iald hx hb hK hP 1 0 rfl rfl (inb_in hi9) dX6_tellsCount_100 ?_
    cases some_i h
    exact hend _ _ _ _ _ hP hD hS (RetOK.i dX6_tellsCount_101)
  have h := if_f c13 h
  by_cases c14 : p1 = (7 : Int32)
  · have h := if_t c14 h
    refine lv_tableIn (x := p1) (off := 101) (tgt := 102) hx hb dX6_tellsCount_1 (by rw [c14]; decide) (by rw [c14]; decide) (by rw [c14]; decide) (by decide) ?_
    refine lv_aload_n hx hb dX6_tellsCount_102 rfl (lv_at hl 0 rfl) ?_
    obtain ⟨r15, mo16, kr15, h⟩ := bd2_ex h
    refine aft_w (st1 := [.int r15]) rfl (runV (As := []) (rest := []) ⟨hx, hb, hml, hown, hts⟩ (kX6_barredMany l g a kr15) (cwV 0 hts gX6_tellsCount_X6_barredMany rfl rfl rfl hdX6_barredMany ⟨Nat.le_of_ble_eq_true rfl, Nat.le_of_ble_eq_true rfl⟩) hK hN hP hD (va_recv hK hP (ci := 6) (q0 := 0) rfl rfl) rfl hl.1 rfl (Nat.le_of_ble_eq_true rfl) dX6_tellsCount_103 ⟨Nat.zero_le _, Nat.zero_le _⟩) hD hS hA (fun H locs hP hD hS => ?_)
    cases some_i h
    exact hend _ _ _ _ _ hP hD hS (RetOK.i dX6_tellsCount_106)
  have h := if_f c14 h
  by_cases c17 : p1 = (8 : Int32)
  · have h := if_t c17 h
    refine lv_tableIn (x := p1) (off := 106) (tgt := 107) hx hb dX6_tellsCount_1 (by rw [c17]; decide) (by rw [c17]; decide) (by rw [c17]; decide) (by decide) ?_
    refine lv_aload_n hx hb dX6_tellsCount_107 rfl (lv_at hl 0 rfl) ?_
    obtain ⟨r18, kr18, h⟩ := bd_ex h
    refine aft_w (st1 := [.int r18]) rfl (runV (As := []) (rest := []) ⟨hx, hb, hml, hown, hts⟩ (kX6_climbing l g a kr18) (cwV 0 hts gX6_tellsCount_X6_climbing rfl rfl rfl hdX6_climbing ⟨Nat.le_of_ble_eq_true rfl, Nat.le_of_ble_eq_true rfl⟩) hK hN hP hD (va_recv hK hP (ci := 6) (q0 := 0) rfl rfl) rfl hl.1 rfl (Nat.le_of_ble_eq_true rfl) dX6_tellsCount_108 ⟨Nat.zero_le _, Nat.zero_le _⟩) hD hS hA (fun H locs hP hD hS => ?_)
    cases some_i h
    exact hend _ _ _ _ _ hP hD hS (RetOK.i dX6_tellsCount_111)
  have h := if_f c17 h
  by_cases c19 : p1 = (9 : Int32)
  · have h := if_t c19 h
    refine lv_tableIn (x := p1) (off := 111) (tgt := 112) hx hb dX6_tellsCount_1 (by rw [c19]; decide) (by rw [c19]; decide) (by rw [c19]; decide) (by decide) ?_
    refine lv_aload_n hx hb dX6_tellsCount_112 rfl (lv_at hl 0 rfl) ?_
    refine va_get (D := g.1) (ci := 6) (v := .ref (a 1)) (C := RX6) (T := TX6) (N := 15) hx hb hts hinX6 hown hK hP 0 rfl rfl 1 (by decide) (hts (.fieldLink RX6 7 "BarredRungsModel" "state" "[I") (List.mem_of_getElem? (i := 1) rfl)) (fun _ h9 => h9) rfl dX6_tellsCount_113 ?_
    refine lv_bipush (v := 7) hx hb dX6_tellsCount_116 (by decide) ?_
    obtain ⟨hi9, h⟩ := ck_ex h
    refine va_iald hx hb hK hP 1 0 rfl rfl (inb_in hi9) dX6_tellsCount_118 ?_
    cases some_i h
    exact hend _ _ _ _ _ hP hD hS (RetOK.i dX6_tellsCount_119)
  have h := if_f c19 h
  by_cases c20 : p1 = (10 : Int32)
  · have h := if_t c20 h
    refine lv_tableIn (x := p1) (off := 119) (tgt := 120) hx hb dX6_tellsCount_1 (by rw [c20]; decide) (by rw [c20]; decide) (by rw [c20]; decide) (by decide) ?_
    refine lv_aload_n hx hb dX6_tellsCount_120 rfl (lv_at hl 0 rfl) ?_
    refine va_get (D := g.1) (ci := 6) (v := .ref (a 1)) (C := RX6) (T := TX6) (N := 15) hx hb hts hinX6 hown hK hP 0 rfl rfl 1 (by decide) (hts (.fieldLink RX6 7 "BarredRungsModel" "state" "[I") (List.mem_of_getElem? (i := 1) rfl)) (fun _ h9 => h9) rfl dX6_tellsCount_121 ?_
    refine lv_bipush (v := 8) hx hb dX6_tellsCount_124 (by decide) ?_
    obtain ⟨hi9, h⟩ := ck_ex h
    refine va_iald hx hb hK hP 1 0 rfl rfl (inb_in hi9) dX6_tellsCount_126 ?_
    cases some_i h
    exact hend _ _ _ _ _ hP hD hS (RetOK.i dX6_tellsCount_127)
  have h := if_f c20 h
  by_cases c21 : p1 = (11 : Int32)
  · have h := if_t c21 h
    refine lv_tableIn (x := p1) (off := 127) (tgt := 128) hx hb dX6_tellsCount_1 (by rw [c21]; decide) (by rw [c21]; decide) (by rw [c21]; decide) (by decide) ?_
    refine lv_aload_n hx hb dX6_tellsCount_128 rfl (lv_at hl 0 rfl) ?_
    refine va_get (D := g.1) (ci := 6) (v := .ref (a 1)) (C := RX6) (T := TX6) (N := 15) hx hb hts hinX6 hown hK hP 0 rfl rfl 1 (by decide) (hts (.fieldLink RX6 7 "BarredRungsModel" "state" "[I") (List.mem_of_getElem? (i := 1) rfl)) (fun _ h9 => h9) rfl dX6_tellsCount_129 ?_
    refine lv_bipush (v := 6) hx hb dX6_tellsCount_132 (by decide) ?_
    obtain ⟨hi9, h⟩ := ck_ex h
    refine va_iald hx hb hK hP 1 0 rfl rfl (inb_in hi9) dX6_tellsCount_134 ?_
    cases some_i h
    exact hend _ _ _ _ _ hP hD hS (RetOK.i dX6_tellsCount_135)
  have h := if_f c21 h
  have nc1 : ¬ (p1).toInt = 0 := fun q => c1 (Int32.toInt_inj.mp (by rw [q]; rfl))
  have nc2 : ¬ (p1).toInt = 1 := fun q => c2 (Int32.toInt_inj.mp (by rw [q]; rfl))
  have nc5 : ¬ (p1).toInt = 2 := fun q => c5 (Int32.toInt_inj.mp (by rw [q]; rfl))
  have nc8 : ¬ (p1).toInt = 3 := fun q => c8 (Int32.toInt_inj.mp (by rw [q]; rfl))
  have nc11 : ¬ (p1).toInt = 4 := fun q => c11 (Int32.toInt_inj.mp (by rw [q]; rfl))
  have nc12 : ¬ (p1).toInt = 5 := fun q => c12 (Int32.toInt_inj.mp (by rw [q]; rfl))
  have nc13 : ¬ (p1).toInt = 6 := fun q => c13 (Int32.toInt_inj.mp (by rw [q]; rfl))
  have nc14 : ¬ (p1).toInt = 7 := fun q => c14 (Int32.toInt_inj.mp (by rw [q]; rfl))
  have nc17 : ¬ (p1).toInt = 8 := fun q => c17 (Int32.toInt_inj.mp (by rw [q]; rfl))
  have nc19 : ¬ (p1).toInt = 9 := fun q => c19 (Int32.toInt_inj.mp (by rw [q]; rfl))
  have nc20 : ¬ (p1).toInt = 10 := fun q => c20 (Int32.toInt_inj.mp (by rw [q]; rfl))
  have nc21 : ¬ (p1).toInt = 11 := fun q => c21 (Int32.toInt_inj.mp (by rw [q]; rfl))
  refine lv_tableOut (x := p1) (tgt := 136) hx hb dX6_tellsCount_1 (by omega) (by decide) ?_
  refine lv_aload_n hx hb dX6_tellsCount_136 rfl (lv_at hl 0 rfl) ?_
  refine va_get (D := g.1) (ci := 6) (v := .int (Mo_savedMany mo)) (C := RX6) (T := TX6) (N := 15) hx hb hts hinX6 hown hK hP 0 rfl rfl 3 (by decide) (hts (.fieldLink RX6 37 "BarredRungsModel" "savedMany" "I") (List.mem_of_getElem? (i := 2) rfl)) (fun _ h9 => h9) rfl dX6_tellsCount_137 ?_
  cases some_i h
  exact hend _ _ _ _ _ hP hD hS (RetOK.i dX6_tellsCount_140)
def fX6_count (mo : Mo) (p1 : Int32) : Option (Int32 × Mo) :=
(pl (Mo_set_thrown mo (0 : Int32)) fun (mo1 : Mo) =>
(bd (fX6_within p1 (0 : Int32) (12 : Int32)) fun (r2 : Int32) =>
(if r2 = (0 : Int32) then
(bd2 (fX6_fails mo1 (1 : Int32)) fun (r4 : Int32) (mo5 : Mo) =>
(some (r4, mo5)))
else
(bd2 (fX6_tellsCount mo1 p1) fun (r6 : Int32) (mo7 : Mo) =>
(some (r6, mo7))))))
abbrev rX6_count : Room := { frames := 6, cells := 0, slots := 0, locals := 134 }
theorem hdX6_count : yX6_count.cls = RX6 ∧ yX6_count.cls ≠ "java/lang/invoke/MethodHandle" ∧ yX6_count.cls ≠ "java/lang/invoke/VarHandle" ∧ (parseMethodDescriptor yX6_count.desc).map (fun d => d.parameters.length) = some 1 := by decide +kernel
set_option maxRecDepth 100000 in
set_option maxHeartbeats 8000000 in
theorem kX6_count (l : Launch) (g : GG) (a : Nat → Nat) {mo : Mo} {p1 : Int32} {res : Int32} {mo' : Mo} (h : fX6_count mo p1 = some (res, mo')) : Cg l g yX6_count wsX6_count rX6_count [.ref (a 0), .int p1] (cMo g a mo) (some (.int res)) (cMo g a mo') := by
  refine Cg_of (cc := cX6_count) (maxL := 2) (ret := (some .int)) (by decide +kernel) rfl (Nat.le_of_ble_eq_true rfl) ?_
  intro p e su m args below meth c A Q ls hx hb hml hown hts hK hN hA hnm hP hD hS hl hend
  have hinX6 : ∀ w ∈ u_ws RX6 TX6 15, w ∈ wsX6_count := fun _ h9 => List.mem_cons_of_mem _ (List.mem_append_right _ h9)
  unfold fX6_count at h
  have hl : lv_has ls 2 [(0, .ref (a 0)), (1, .int p1)] := hl
  refine lv_aload_n hx hb dX6_count_0 rfl (lv_at hl 0 rfl) ?_
  refine lv_iconst (v := 0) hx hb dX6_count_1 (by decide) ?_
  obtain ⟨mo1, emo1, h⟩ := pl_ex h
  refine va_put (D := g.1) (ci := 6) (v := .int (0 : Int32)) (ty := .int) (C := RX6) (T := TX6) (N := 15) hx hb hts hinX6 tyX6 tyX6_ok nmX6 hown hK hP hD hS 0 rfl rfl 0 (by decide) (hts (.fieldLink RX6 29 "BarredRungsModel" "thrown" "I") (List.mem_of_getElem? (i := 1) rfl)) (fun _ h9 => h9) rfl (by decide +kernel) rfl rfl (Nat.le_of_ble_eq_true rfl) dX6_count_2 (fun H locs hP hD hS => ?_)
  have hP : va_P g.1 vwCl (cMo g a mo1) H := by rw [← emo1]; exact hP
  have hD : va_D A (cMo g a mo1) := by rw [← emo1]; exact hD
  refine lv_iload_n hx hb dX6_count_5 rfl (lv_at hl 1 rfl) ?_
  refine lv_iconst (v := 0) hx hb dX6_count_6 (by decide) ?_
  refine lv_bipush (v := 12) hx hb dX6_count_7 (by decide) ?_
  obtain ⟨r2, kr2, h⟩ := bd_ex h
  refine aft_e (st1 := [.int r2]) rfl (runS (As := [.int p1, .int (0 : Int32), .int (12 : Int32)]) (rest := []) ⟨hx, hb, hml, hown, hts⟩ (kX6_within l g kr2) (va_cwS 3 hts gX6_count_X6_within rfl rfl rfl hdX6_within.2 ⟨Nat.le_of_ble_eq_true rfl, Nat.le_of_ble_eq_true rfl⟩) hK hN nilP (nilD (A := A)) rfl hl.1 rfl (Nat.le_of_ble_eq_true rfl) dX6_count_9 ⟨Nat.zero_le _, Nat.zero_le _⟩) hP hS hA (fun H locs hP hS => ?_)
  refine lv_if_eq (tgt := 23) hx hb dX6_count_12 (by decide) (fun c3 => ?_) (fun c3 => ?_)
  · have h := if_t c3 h
    refine lv_aload_n hx hb dX6_count_23 rfl (lv_at hl 0 rfl) ?_
    refine lv_iconst (v := 1) hx hb dX6_count_24 (by decide) ?_
    obtain ⟨r4, mo5, kr4, h⟩ := bd2_ex h
    refine aft_w (st1 := [.int r4]) rfl (runV (As := [.int (1 : Int32)]) (rest := []) ⟨hx, hb, hml, hown, hts⟩ (kX6_fails l g a kr4) (cwV 1 hts gX6_count_X6_fails rfl rfl rfl hdX6_fails ⟨Nat.le_of_ble_eq_true rfl, Nat.le_of_ble_eq_true rfl⟩) hK hN hP hD (va_recv hK hP (ci := 6) (q0 := 0) rfl rfl) rfl hl.1 rfl (Nat.le_of_ble_eq_true rfl) dX6_count_25 ⟨Nat.zero_le _, Nat.zero_le _⟩) hD hS hA (fun H locs hP hD hS => ?_)
    cases some_i h
    exact hend _ _ _ _ _ hP hD hS (RetOK.i dX6_count_28)
  · have h := if_f c3 h
    refine lv_aload_n hx hb dX6_count_15 rfl (lv_at hl 0 rfl) ?_
    refine lv_iload_n hx hb dX6_count_16 rfl (lv_at hl 1 rfl) ?_
    obtain ⟨r6, mo7, kr6, h⟩ := bd2_ex h
    refine aft_w (st1 := [.int r6]) rfl (runV (As := [.int p1]) (rest := []) ⟨hx, hb, hml, hown, hts⟩ (kX6_tellsCount l g a kr6) (cwV 1 hts gX6_count_X6_tellsCount rfl rfl rfl hdX6_tellsCount ⟨Nat.le_of_ble_eq_true rfl, Nat.le_of_ble_eq_true rfl⟩) hK hN hP hD (va_recv hK hP (ci := 6) (q0 := 0) rfl rfl) rfl hl.1 rfl (Nat.le_of_ble_eq_true rfl) dX6_count_17 ⟨Nat.zero_le _, Nat.zero_le _⟩) hD hS hA (fun H locs hP hD hS => ?_)
    refine lv_goto (tgt := 28) hx hb dX6_count_20 (by decide) ?_
    cases some_i h
    exact hend _ _ _ _ _ hP hD hS (RetOK.i dX6_count_28)
def fX6_mix (mo : Mo) (p1 : Int64) : Option (Mo) :=
(pl (Mo_set_hash mo (((31 : Int64) * (Mo_hash mo)) + p1)) fun (mo1 : Mo) =>
(some mo1))
abbrev rX6_mix : Room := { frames := 0, cells := 0, slots := 0, locals := 0 }
theorem hdX6_mix : yX6_mix.cls = RX6 ∧ yX6_mix.cls ≠ "java/lang/invoke/MethodHandle" ∧ yX6_mix.cls ≠ "java/lang/invoke/VarHandle" ∧ (parseMethodDescriptor yX6_mix.desc).map (fun d => d.parameters.length) = some 1 := by decide +kernel
set_option maxRecDepth 100000 in
set_option maxHeartbeats 8000000 in
theorem kX6_mix (l : Launch) (g : GG) (a : Nat → Nat) {mo : Mo} {p1 : Int64} {mo' : Mo} (h : fX6_mix mo p1 = some mo') : Cg l g yX6_mix wsX6_mix rX6_mix [.ref (a 0), .long p1] (cMo g a mo) (none) (cMo g a mo') := by
  refine Cg_of (cc := cX6_mix) (maxL := 3) (ret := none) (by decide +kernel) rfl (Nat.le_of_ble_eq_true rfl) ?_
  intro p e su m args below meth c A Q ls hx hb hml hown hts hK hN hA hnm hP hD hS hl hend
  have hinX6 : ∀ w ∈ u_ws RX6 TX6 15, w ∈ wsX6_mix := fun _ h9 => List.mem_cons_of_mem _ (List.mem_append_right _ h9)
  unfold fX6_mix at h
  have hl : lv_has ls 3 [(0, .ref (a 0)), (1, .long p1)] := hl
  refine lv_aload_n hx hb dX6_mix_0 rfl (lv_at hl 0 rfl) ?_
  refine lv_ldc2 hx hb hown (hts (.constantLong RX6 216 (31)) (List.mem_of_getElem? (i := 1) rfl)) dX6_mix_1 ?_
  refine lv_aload_n hx hb dX6_mix_4 rfl (lv_at hl 0 rfl) ?_
  refine va_get (D := g.1) (ci := 6) (v := .long (Mo_hash mo)) (C := RX6) (T := TX6) (N := 15) hx hb hts hinX6 hown hK hP 0 rfl rfl 14 (by decide) (hts (.fieldLink RX6 218 "BarredRungsModel" "hash" "J") (List.mem_of_getElem? (i := 2) rfl)) (fun _ h9 => h9) rfl dX6_mix_5 ?_
  refine lv_lmul hx hb dX6_mix_8 ?_
  refine lv_lload_n hx hb dX6_mix_9 rfl (lv_at hl 1 rfl) ?_
  refine lv_ladd hx hb dX6_mix_10 ?_
  obtain ⟨mo1, emo1, h⟩ := pl_ex h
  refine va_put (D := g.1) (ci := 6) (v := .long (((31 : Int64) * (Mo_hash mo)) + p1)) (ty := .long) (C := RX6) (T := TX6) (N := 15) hx hb hts hinX6 tyX6 tyX6_ok nmX6 hown hK hP hD hS 0 rfl rfl 14 (by decide) (hts (.fieldLink RX6 218 "BarredRungsModel" "hash" "J") (List.mem_of_getElem? (i := 2) rfl)) (fun _ h9 => h9) rfl (by decide +kernel) rfl rfl (Nat.le_of_ble_eq_true rfl) dX6_mix_11 (fun H locs hP hD hS => ?_)
  have hP : va_P g.1 vwCl (cMo g a mo1) H := by rw [← emo1]; exact hP
  have hD : va_D A (cMo g a mo1) := by rw [← emo1]; exact hD
  cases some_i h
  exact hend _ _ _ _ _ hP hD hS (RetOK.v dX6_mix_14)
def fX6_tellsWord (mo : Mo) (p1 : Int32) (p2 : Int32) : Option (Int32 × Mo) :=
(bd (fX6_layLinks mo) fun (mo1 : Mo) =>
(if p2 = (0 : Int32) then
(bd (fX6_letterOf mo1 p1 p2) fun (r3 : Int32) =>
(some (r3, mo1)))
else
(if p2 = (1 : Int32) then
(bd (fX6_letterOf mo1 p1 p2) fun (r5 : Int32) =>
(some (r5, mo1)))
else
(if p2 = (2 : Int32) then
(bd (fX6_letterOf mo1 p1 p2) fun (r7 : Int32) =>
(some (r7, mo1)))
else
(if p2 = (3 : Int32) then
(bd (fX6_letterOf mo1 p1 p2) fun (r9 : Int32) =>
(some (r9, mo1)))
else
(if p2 = (4 : Int32) then
(bd2 (fX6_isBarred mo1 p1) fun (r11 : Int32) (mo12 : Mo) =>
(if r11 = (0 : Int32) then
(some ((0 : Int32), mo12))
else
(some ((1 : Int32), mo12))))
else
(if p2 = (5 : Int32) then
(ck (inb p1 24)
(bd (fX6_ones (Mo_links mo1 p1.toNatClampNeg)) fun (r15 : Int32) =>
(some (r15, mo1))))
else
(if p2 = (6 : Int32) then
(bd (fX6_climberOn mo1 p1) fun (r17 : Int32) =>
(some (r17, mo1)))
else
(if p2 = (7 : Int32) then
(bd (fX6_island mo1 p1) fun (r19 : Int32) =>
(bd (fX6_lowest r19) fun (r20 : Int32) =>
(some (r20, mo1))))
else
(if p2 = (8 : Int32) then
(bd (fX6_island mo1 p1) fun (r22 : Int32) =>
(bd (fX6_ones r22) fun (r23 : Int32) =>
(some (r23, mo1))))
else
(bd2 (fX6_barredIn mo1 p1) fun (r24 : Int32) (mo25 : Mo) =>
(some (r24, mo25)))))))))))))
abbrev rX6_tellsWord : Room := { frames := 4, cells := 0, slots := 0, locals := 91 }
theorem hdX6_tellsWord : yX6_tellsWord.cls = RX6 ∧ yX6_tellsWord.cls ≠ "java/lang/invoke/MethodHandle" ∧ yX6_tellsWord.cls ≠ "java/lang/invoke/VarHandle" ∧ (parseMethodDescriptor yX6_tellsWord.desc).map (fun d => d.parameters.length) = some 2 := by decide +kernel
set_option maxRecDepth 100000 in
set_option maxHeartbeats 8000000 in
theorem kX6_tellsWord (l : Launch) (g : GG) (a : Nat → Nat) {mo : Mo} {p1 : Int32} {p2 : Int32} {res : Int32} {mo' : Mo} (h : fX6_tellsWord mo p1 p2 = some (res, mo')) : Cg l g yX6_tellsWord wsX6_tellsWord rX6_tellsWord [.ref (a 0), .int p1, .int p2] (cMo g a mo) (some (.int res)) (cMo g a mo') := by
  refine Cg_of (cc := cX6_tellsWord) (maxL := 3) (ret := (some .int)) (by decide +kernel) rfl (Nat.le_of_ble_eq_true rfl) ?_
  intro p e su m args below meth c A Q ls hx hb hml hown hts hK hN hA hnm hP hD hS hl hend
  have hinX6 : ∀ w ∈ u_ws RX6 TX6 15, w ∈ wsX6_tellsWord := fun _ h9 => List.mem_cons_of_mem _ (List.mem_append_right _ h9)
  unfold fX6_tellsWord at h
  have hl : lv_has ls 3 [(0, .ref (a 0)), (1, .int p1), (2, .int p2)] := hl
  refine lv_aload_n hx hb dX6_tellsWord_0 rfl (lv_at hl 0 rfl) ?_
  obtain ⟨mo1, kmo1, h⟩ := bd_ex h
  refine aft_w (st1 := []) rfl (runV (As := []) (rest := []) ⟨hx, hb, hml, hown, hts⟩ (kX6_layLinks l g a kmo1) (cwV 0 hts gX6_tellsWord_X6_layLinks rfl rfl rfl hdX6_layLinks ⟨Nat.le_of_ble_eq_true rfl, Nat.le_of_ble_eq_true rfl⟩) hK hN hP hD (va_recv hK hP (ci := 6) (q0 := 0) rfl rfl) rfl hl.1 rfl (Nat.le_of_ble_eq_true rfl) dX6_tellsWord_1 ⟨Nat.zero_le _, Nat.zero_le _⟩) hD hS hA (fun H locs hP hD hS => ?_)
  refine lv_iload_n hx hb dX6_tellsWord_4 rfl (lv_at hl 2 rfl) ?_
  by_cases c2 : p2 = (0 : Int32)
  · have h := if_t c2 h
    refine lv_tableIn (x := p2) (off := 51) (tgt := 56) hx hb dX6_tellsWord_5 (by rw [c2]; decide) (by rw [c2]; decide) (by rw [c2]; decide) (by decide) ?_
    refine lv_aload_n hx hb dX6_tellsWord_56 rfl (lv_at hl 0 rfl) ?_
    refine lv_iload_n hx hb dX6_tellsWord_57 rfl (lv_at hl 1 rfl) ?_
    refine lv_iload_n hx hb dX6_tellsWord_58 rfl (lv_at hl 2 rfl) ?_
    obtain ⟨r3, kr3, h⟩ := bd_ex h
    refine aft_w (st1 := [.int r3]) rfl (runV (As := [.int p1, .int p2]) (rest := []) ⟨hx, hb, hml, hown, hts⟩ (kX6_letterOf l g a kr3) (cwV 2 hts gX6_tellsWord_X6_letterOf rfl rfl rfl hdX6_letterOf ⟨Nat.le_of_ble_eq_true rfl, Nat.le_of_ble_eq_true rfl⟩) hK hN hP hD (va_recv hK hP (ci := 6) (q0 := 0) rfl rfl) rfl hl.1 rfl (Nat.le_of_ble_eq_true rfl) dX6_tellsWord_59 ⟨Nat.zero_le _, Nat.zero_le _⟩) hD hS hA (fun H locs hP hD hS => ?_)
    cases some_i h
    exact hend _ _ _ _ _ hP hD hS (RetOK.i dX6_tellsWord_62)
  have h := if_f c2 h
  by_cases c4 : p2 = (1 : Int32)
  · have h := if_t c4 h
    refine lv_tableIn (x := p2) (off := 51) (tgt := 56) hx hb dX6_tellsWord_5 (by rw [c4]; decide) (by rw [c4]; decide) (by rw [c4]; decide) (by decide) ?_
    refine lv_aload_n hx hb dX6_tellsWord_56 rfl (lv_at hl 0 rfl) ?_
    refine lv_iload_n hx hb dX6_tellsWord_57 rfl (lv_at hl 1 rfl) ?_
    refine lv_iload_n hx hb dX6_tellsWord_58 rfl (lv_at hl 2 rfl) ?_
    obtain ⟨r5, kr5, h⟩ := bd_ex h
    refine aft_w (st1 := [.int r5]) rfl (runV (As := [.int p1, .int p2]) (rest := []) ⟨hx, hb, hml, hown, hts⟩ (kX6_letterOf l g a kr5) (cwV 2 hts gX6_tellsWord_X6_letterOf rfl rfl rfl hdX6_letterOf ⟨Nat.le_of_ble_eq_true rfl, Nat.le_of_ble_eq_true rfl⟩) hK hN hP hD (va_recv hK hP (ci := 6) (q0 := 0) rfl rfl) rfl hl.1 rfl (Nat.le_of_ble_eq_true rfl) dX6_tellsWord_59 ⟨Nat.zero_le _, Nat.zero_le _⟩) hD hS hA (fun H locs hP hD hS => ?_)
    cases some_i h
    exact hend _ _ _ _ _ hP hD hS (RetOK.i dX6_tellsWord_62)
  have h := if_f c4 h
  by_cases c6 : p2 = (2 : Int32)
  · have h := if_t c6 h
    refine lv_tableIn (x := p2) (off := 51) (tgt := 56) hx hb dX6_tellsWord_5 (by rw [c6]; decide) (by rw [c6]; decide) (by rw [c6]; decide) (by decide) ?_
    refine lv_aload_n hx hb dX6_tellsWord_56 rfl (lv_at hl 0 rfl) ?_
    refine lv_iload_n hx hb dX6_tellsWord_57 rfl (lv_at hl 1 rfl) ?_
    refine lv_iload_n hx hb dX6_tellsWord_58 rfl (lv_at hl 2 rfl) ?_
    obtain ⟨r7, kr7, h⟩ := bd_ex h
    refine aft_w (st1 := [.int r7]) rfl (runV (As := [.int p1, .int p2]) (rest := []) ⟨hx, hb, hml, hown, hts⟩ (kX6_letterOf l g a kr7) (cwV 2 hts gX6_tellsWord_X6_letterOf rfl rfl rfl hdX6_letterOf ⟨Nat.le_of_ble_eq_true rfl, Nat.le_of_ble_eq_true rfl⟩) hK hN hP hD (va_recv hK hP (ci := 6) (q0 := 0) rfl rfl) rfl hl.1 rfl (Nat.le_of_ble_eq_true rfl) dX6_tellsWord_59 ⟨Nat.zero_le _, Nat.zero_le _⟩) hD hS hA (fun H locs hP hD hS => ?_)
    cases some_i h
    exact hend _ _ _ _ _ hP hD hS (RetOK.i dX6_tellsWord_62)
  have h := if_f c6 h
  by_cases c8 : p2 = (3 : Int32)
  · have h := if_t c8 h
    refine lv_tableIn (x := p2) (off := 51) (tgt := 56) hx hb dX6_tellsWord_5 (by rw [c8]; decide) (by rw [c8]; decide) (by rw [c8]; decide) (by decide) ?_
    refine lv_aload_n hx hb dX6_tellsWord_56 rfl (lv_at hl 0 rfl) ?_
    refine lv_iload_n hx hb dX6_tellsWord_57 rfl (lv_at hl 1 rfl) ?_
    refine lv_iload_n hx hb dX6_tellsWord_58 rfl (lv_at hl 2 rfl) ?_
    obtain ⟨r9, kr9, h⟩ := bd_ex h
    refine aft_w (st1 := [.int r9]) rfl (runV (As := [.int p1, .int p2]) (rest := []) ⟨hx, hb, hml, hown, hts⟩ (kX6_letterOf l g a kr9) (cwV 2 hts gX6_tellsWord_X6_letterOf rfl rfl rfl hdX6_letterOf ⟨Nat.le_of_ble_eq_true rfl, Nat.le_of_ble_eq_true rfl⟩) hK hN hP hD (va_recv hK hP (ci := 6) (q0 := 0) rfl rfl) rfl hl.1 rfl (Nat.le_of_ble_eq_true rfl) dX6_tellsWord_59 ⟨Nat.zero_le _, Nat.zero_le _⟩) hD hS hA (fun H locs hP hD hS => ?_)
    cases some_i h
    exact hend _ _ _ _ _ hP hD hS (RetOK.i dX6_tellsWord_62)
  have h := if_f c8 h
  by_cases c10 : p2 = (4 : Int32)
  · have h := if_t c10 h
    refine lv_tableIn (x := p2) (off := 58) (tgt := 63) hx hb dX6_tellsWord_5 (by rw [c10]; decide) (by rw [c10]; decide) (by rw [c10]; decide) (by decide) ?_
    refine lv_aload_n hx hb dX6_tellsWord_63 rfl (lv_at hl 0 rfl) ?_
    refine lv_iload_n hx hb dX6_tellsWord_64 rfl (lv_at hl 1 rfl) ?_
    obtain ⟨r11, mo12, kr11, h⟩ := bd2_ex h
    refine aft_w (st1 := [.int r11]) rfl (runV (As := [.int p1]) (rest := []) ⟨hx, hb, hml, hown, hts⟩ (kX6_isBarred l g a kr11) (cwV 1 hts gX6_tellsWord_X6_isBarred rfl rfl rfl hdX6_isBarred ⟨Nat.le_of_ble_eq_true rfl, Nat.le_of_ble_eq_true rfl⟩) hK hN hP hD (va_recv hK hP (ci := 6) (q0 := 0) rfl rfl) rfl hl.1 rfl (Nat.le_of_ble_eq_true rfl) dX6_tellsWord_65 ⟨Nat.zero_le _, Nat.zero_le _⟩) hD hS hA (fun H locs hP hD hS => ?_)
    refine lv_if_eq (tgt := 75) hx hb dX6_tellsWord_68 (by decide) (fun c13 => ?_) (fun c13 => ?_)
    · have h := if_t c13 h
      refine lv_iconst (v := 0) hx hb dX6_tellsWord_75 (by decide) ?_
      cases some_i h
      exact hend _ _ _ _ _ hP hD hS (RetOK.i dX6_tellsWord_76)
    · have h := if_f c13 h
      refine lv_iconst (v := 1) hx hb dX6_tellsWord_71 (by decide) ?_
      refine lv_goto (tgt := 76) hx hb dX6_tellsWord_72 (by decide) ?_
      cases some_i h
      exact hend _ _ _ _ _ hP hD hS (RetOK.i dX6_tellsWord_76)
  have h := if_f c10 h
  by_cases c14 : p2 = (5 : Int32)
  · have h := if_t c14 h
    refine lv_tableIn (x := p2) (off := 72) (tgt := 77) hx hb dX6_tellsWord_5 (by rw [c14]; decide) (by rw [c14]; decide) (by rw [c14]; decide) (by decide) ?_
    refine lv_aload_n hx hb dX6_tellsWord_77 rfl (lv_at hl 0 rfl) ?_
    refine va_get (D := g.1) (ci := 6) (v := .ref (a 5)) (C := RX6) (T := TX6) (N := 15) hx hb hts hinX6 hown hK hP 0 rfl rfl 11 (by decide) (hts (.fieldLink RX6 22 "BarredRungsModel" "links" "[I") (List.mem_of_getElem? (i := 1) rfl)) (fun _ h9 => h9) rfl dX6_tellsWord_78 ?_
    refine lv_iload_n hx hb dX6_tellsWord_81 rfl (lv_at hl 1 rfl) ?_
    obtain ⟨hi9, h⟩ := ck_ex h
    refine va_iald hx hb hK hP 5 0 rfl rfl (inb_in hi9) dX6_tellsWord_82 ?_
    obtain ⟨r15, kr15, h⟩ := bd_ex h
    refine aft_e (st1 := [.int r15]) rfl (runS (As := [.int (Mo_links mo1 p1.toNatClampNeg)]) (rest := []) ⟨hx, hb, hml, hown, hts⟩ (kX6_ones l g kr15) (va_cwS 1 hts gX6_tellsWord_X6_ones rfl rfl rfl hdX6_ones.2 ⟨Nat.le_of_ble_eq_true rfl, Nat.le_of_ble_eq_true rfl⟩) hK hN nilP (nilD (A := A)) rfl hl.1 rfl (Nat.le_of_ble_eq_true rfl) dX6_tellsWord_83 ⟨Nat.zero_le _, Nat.zero_le _⟩) hP hS hA (fun H locs hP hS => ?_)
    cases some_i h
    exact hend _ _ _ _ _ hP hD hS (RetOK.i dX6_tellsWord_86)
  have h := if_f c14 h
  by_cases c16 : p2 = (6 : Int32)
  · have h := if_t c16 h
    refine lv_tableIn (x := p2) (off := 82) (tgt := 87) hx hb dX6_tellsWord_5 (by rw [c16]; decide) (by rw [c16]; decide) (by rw [c16]; decide) (by decide) ?_
    refine lv_aload_n hx hb dX6_tellsWord_87 rfl (lv_at hl 0 rfl) ?_
    refine lv_iload_n hx hb dX6_tellsWord_88 rfl (lv_at hl 1 rfl) ?_
    obtain ⟨r17, kr17, h⟩ := bd_ex h
    refine aft_w (st1 := [.int r17]) rfl (runV (As := [.int p1]) (rest := []) ⟨hx, hb, hml, hown, hts⟩ (kX6_climberOn l g a kr17) (cwV 1 hts gX6_tellsWord_X6_climberOn rfl rfl rfl hdX6_climberOn ⟨Nat.le_of_ble_eq_true rfl, Nat.le_of_ble_eq_true rfl⟩) hK hN hP hD (va_recv hK hP (ci := 6) (q0 := 0) rfl rfl) rfl hl.1 rfl (Nat.le_of_ble_eq_true rfl) dX6_tellsWord_89 ⟨Nat.zero_le _, Nat.zero_le _⟩) hD hS hA (fun H locs hP hD hS => ?_)
    cases some_i h
    exact hend _ _ _ _ _ hP hD hS (RetOK.i dX6_tellsWord_92)
  have h := if_f c16 h
  by_cases c18 : p2 = (7 : Int32)
  · have h := if_t c18 h
    refine lv_tableIn (x := p2) (off := 88) (tgt := 93) hx hb dX6_tellsWord_5 (by rw [c18]; decide) (by rw [c18]; decide) (by rw [c18]; decide) (by decide) ?_
    refine lv_aload_n hx hb dX6_tellsWord_93 rfl (lv_at hl 0 rfl) ?_
    refine lv_iload_n hx hb dX6_tellsWord_94 rfl (lv_at hl 1 rfl) ?_
    obtain ⟨r19, kr19, h⟩ := bd_ex h
    refine aft_w (st1 := [.int r19]) rfl (runV (As := [.int p1]) (rest := []) ⟨hx, hb, hml, hown, hts⟩ (kX6_island l g a kr19) (cwV 1 hts gX6_tellsWord_X6_island rfl rfl rfl hdX6_island ⟨Nat.le_of_ble_eq_true rfl, Nat.le_of_ble_eq_true rfl⟩) hK hN hP hD (va_recv hK hP (ci := 6) (q0 := 0) rfl rfl) rfl hl.1 rfl (Nat.le_of_ble_eq_true rfl) dX6_tellsWord_95 ⟨Nat.zero_le _, Nat.zero_le _⟩) hD hS hA (fun H locs hP hD hS => ?_)
    obtain ⟨r20, kr20, h⟩ := bd_ex h
    refine aft_e (st1 := [.int r20]) rfl (runS (As := [.int r19]) (rest := []) ⟨hx, hb, hml, hown, hts⟩ (kX6_lowest l g kr20) (va_cwS 1 hts gX6_tellsWord_X6_lowest rfl rfl rfl hdX6_lowest.2 ⟨Nat.le_of_ble_eq_true rfl, Nat.le_of_ble_eq_true rfl⟩) hK hN nilP (nilD (A := A)) rfl hl.1 rfl (Nat.le_of_ble_eq_true rfl) dX6_tellsWord_98 ⟨Nat.zero_le _, Nat.zero_le _⟩) hP hS hA (fun H locs hP hS => ?_)
    cases some_i h
    exact hend _ _ _ _ _ hP hD hS (RetOK.i dX6_tellsWord_101)
  have h := if_f c18 h
  by_cases c21 : p2 = (8 : Int32)
  · have h := if_t c21 h
    refine lv_tableIn (x := p2) (off := 97) (tgt := 102) hx hb dX6_tellsWord_5 (by rw [c21]; decide) (by rw [c21]; decide) (by rw [c21]; decide) (by decide) ?_
    refine lv_aload_n hx hb dX6_tellsWord_102 rfl (lv_at hl 0 rfl) ?_
    refine lv_iload_n hx hb dX6_tellsWord_103 rfl (lv_at hl 1 rfl) ?_
    obtain ⟨r22, kr22, h⟩ := bd_ex h
    refine aft_w (st1 := [.int r22]) rfl (runV (As := [.int p1]) (rest := []) ⟨hx, hb, hml, hown, hts⟩ (kX6_island l g a kr22) (cwV 1 hts gX6_tellsWord_X6_island rfl rfl rfl hdX6_island ⟨Nat.le_of_ble_eq_true rfl, Nat.le_of_ble_eq_true rfl⟩) hK hN hP hD (va_recv hK hP (ci := 6) (q0 := 0) rfl rfl) rfl hl.1 rfl (Nat.le_of_ble_eq_true rfl) dX6_tellsWord_104 ⟨Nat.zero_le _, Nat.zero_le _⟩) hD hS hA (fun H locs hP hD hS => ?_)
    obtain ⟨r23, kr23, h⟩ := bd_ex h
    refine aft_e (st1 := [.int r23]) rfl (runS (As := [.int r22]) (rest := []) ⟨hx, hb, hml, hown, hts⟩ (kX6_ones l g kr23) (va_cwS 1 hts gX6_tellsWord_X6_ones rfl rfl rfl hdX6_ones.2 ⟨Nat.le_of_ble_eq_true rfl, Nat.le_of_ble_eq_true rfl⟩) hK hN nilP (nilD (A := A)) rfl hl.1 rfl (Nat.le_of_ble_eq_true rfl) dX6_tellsWord_107 ⟨Nat.zero_le _, Nat.zero_le _⟩) hP hS hA (fun H locs hP hS => ?_)
    cases some_i h
    exact hend _ _ _ _ _ hP hD hS (RetOK.i dX6_tellsWord_110)
  have h := if_f c21 h
  have nc2 : ¬ (p2).toInt = 0 := fun q => c2 (Int32.toInt_inj.mp (by rw [q]; rfl))
  have nc4 : ¬ (p2).toInt = 1 := fun q => c4 (Int32.toInt_inj.mp (by rw [q]; rfl))
  have nc6 : ¬ (p2).toInt = 2 := fun q => c6 (Int32.toInt_inj.mp (by rw [q]; rfl))
  have nc8 : ¬ (p2).toInt = 3 := fun q => c8 (Int32.toInt_inj.mp (by rw [q]; rfl))
  have nc10 : ¬ (p2).toInt = 4 := fun q => c10 (Int32.toInt_inj.mp (by rw [q]; rfl))
  have nc14 : ¬ (p2).toInt = 5 := fun q => c14 (Int32.toInt_inj.mp (by rw [q]; rfl))
  have nc16 : ¬ (p2).toInt = 6 := fun q => c16 (Int32.toInt_inj.mp (by rw [q]; rfl))
  have nc18 : ¬ (p2).toInt = 7 := fun q => c18 (Int32.toInt_inj.mp (by rw [q]; rfl))
  have nc21 : ¬ (p2).toInt = 8 := fun q => c21 (Int32.toInt_inj.mp (by rw [q]; rfl))
  refine lv_tableOut (x := p2) (tgt := 111) hx hb dX6_tellsWord_5 (by omega) (by decide) ?_
  refine lv_aload_n hx hb dX6_tellsWord_111 rfl (lv_at hl 0 rfl) ?_
  refine lv_iload_n hx hb dX6_tellsWord_112 rfl (lv_at hl 1 rfl) ?_
  obtain ⟨r24, mo25, kr24, h⟩ := bd2_ex h
  refine aft_w (st1 := [.int r24]) rfl (runV (As := [.int p1]) (rest := []) ⟨hx, hb, hml, hown, hts⟩ (kX6_barredIn l g a kr24) (cwV 1 hts gX6_tellsWord_X6_barredIn rfl rfl rfl hdX6_barredIn ⟨Nat.le_of_ble_eq_true rfl, Nat.le_of_ble_eq_true rfl⟩) hK hN hP hD (va_recv hK hP (ci := 6) (q0 := 0) rfl rfl) rfl hl.1 rfl (Nat.le_of_ble_eq_true rfl) dX6_tellsWord_113 ⟨Nat.zero_le _, Nat.zero_le _⟩) hD hS hA (fun H locs hP hD hS => ?_)
  cases some_i h
  exact hend _ _ _ _ _ hP hD hS (RetOK.i dX6_tellsWord_116)
def fX6_tellsPlain_L11 (p2 : Int32) (mo1 : Mo) : Nat → Int32 → Int32 → Option (Int32 × Mo)
  | 0, _, _ => none
  | n + 1, v3_3, v4_4 =>
    (ck (inb (0 : Int32) 55)
    (if (Mo_state mo1 (0 : Int32).toNatClampNeg) ≤ v4_4 then
    (some ((-1 : Int32), mo1))
    else
    (if ((v3_3 >>> (p2 &&& 31)) &&& (1 : Int32)) = (1 : Int32) then
    (some (v4_4, mo1))
    else
    (bd (fX6_beside mo1 v3_3) fun (r7 : Int32) =>
    (pl ((v3_3 ||| r7)) fun (x8 : Int32) =>
    (pl ((v4_4 + (1 : Int32))) fun (x9 : Int32) =>
    (fX6_tellsPlain_L11 p2 mo1 n x8 x9)))))))
def fX6_tellsPlain (mo : Mo) (p1 : Int32) (p2 : Int32) : Option (Int32 × Mo) :=
(bd (fX6_layLinks mo) fun (mo1 : Mo) =>
(pl (((1 : Int32) <<< (p1 &&& 31))) fun (x2 : Int32) =>
(fX6_tellsPlain_L11 p2 mo1 1000 x2 (0 : Int32))))
abbrev rX6_tellsPlain : Room := { frames := 4, cells := 0, slots := 0, locals := 91 }
theorem hdX6_tellsPlain : yX6_tellsPlain.cls = RX6 ∧ yX6_tellsPlain.cls ≠ "java/lang/invoke/MethodHandle" ∧ yX6_tellsPlain.cls ≠ "java/lang/invoke/VarHandle" ∧ (parseMethodDescriptor yX6_tellsPlain.desc).map (fun d => d.parameters.length) = some 2 := by decide +kernel
set_option maxRecDepth 100000 in
set_option maxHeartbeats 8000000 in
theorem kX6_tellsPlain (l : Launch) (g : GG) (a : Nat → Nat) {mo : Mo} {p1 : Int32} {p2 : Int32} {res : Int32} {mo' : Mo} (h : fX6_tellsPlain mo p1 p2 = some (res, mo')) : Cg l g yX6_tellsPlain wsX6_tellsPlain rX6_tellsPlain [.ref (a 0), .int p1, .int p2] (cMo g a mo) (some (.int res)) (cMo g a mo') := by
  refine Cg_of (cc := cX6_tellsPlain) (maxL := 5) (ret := (some .int)) (by decide +kernel) rfl (Nat.le_of_ble_eq_true rfl) ?_
  intro p e su m args below meth c A Q ls hx hb hml hown hts hK hN hA hnm hP hD hS hl hend
  have hinX6 : ∀ w ∈ u_ws RX6 TX6 15, w ∈ wsX6_tellsPlain := fun _ h9 => List.mem_cons_of_mem _ (List.mem_append_right _ h9)
  unfold fX6_tellsPlain at h
  have hl : lv_has ls 5 [(0, .ref (a 0)), (1, .int p1), (2, .int p2)] := hl
  refine lv_aload_n hx hb dX6_tellsPlain_0 rfl (lv_at hl 0 rfl) ?_
  obtain ⟨mo1, kmo1, h⟩ := bd_ex h
  refine aft_w (st1 := []) rfl (runV (As := []) (rest := []) ⟨hx, hb, hml, hown, hts⟩ (kX6_layLinks l g a kmo1) (cwV 0 hts gX6_tellsPlain_X6_layLinks rfl rfl rfl hdX6_layLinks ⟨Nat.le_of_ble_eq_true rfl, Nat.le_of_ble_eq_true rfl⟩) hK hN hP hD (va_recv hK hP (ci := 6) (q0 := 0) rfl rfl) rfl hl.1 rfl (Nat.le_of_ble_eq_true rfl) dX6_tellsPlain_1 ⟨Nat.zero_le _, Nat.zero_le _⟩) hD hS hA (fun H locs hP hD hS => ?_)
  refine lv_iconst (v := 1) hx hb dX6_tellsPlain_4 (by decide) ?_
  refine lv_iload_n hx hb dX6_tellsPlain_5 rfl (lv_at hl 1 rfl) ?_
  refine lv_ishl hx hb dX6_tellsPlain_6 ?_
  obtain ⟨x2, ex2, h⟩ := pl_ex h
  refine lv_eqi ex2 ?_
  refine lv_istore_n (lv' := [(3, .int x2), (0, .ref (a 0)), (1, .int p1), (2, .int p2)]) hx hb dX6_tellsPlain_7 rfl hl (by decide) rfl (fun ls hl => ?_)
  refine lv_iconst (v := 0) hx hb dX6_tellsPlain_8 (by decide) ?_
  refine lv_istore (lv' := [(4, .int (0 : Int32)), (3, .int x2), (0, .ref (a 0)), (1, .int p1), (2, .int p2)]) hx hb dX6_tellsPlain_9 hl (by decide) rfl (fun ls hl => ?_)
  have L11 : ∀ (n : Nat) (v3_3 : Int32) (v4_4 : Int32) (H : Heap) (locs : List Loc) (ls : Array Slot), fX6_tellsPlain_L11 p2 mo1 n v3_3 v4_4 = some (res, mo') → va_P g.1 vwCl (cMo g a mo1) H → va_D A (cMo g a mo1) → va_S A su.heap H locs → lv_has ls 5 [(0, .ref (a 0)), (2, .int p2), (3, .int v3_3), (4, .int v4_4)] → W p l e rX6_tellsPlain su m args below meth c H locs 0 0 Q (F0 m 11 ls []) := by
    intro n
    induction n with
    | zero => intro v3_3 v4_4 H locs ls h hP hD hS hl; cases h
    | succ n ih =>
      intro v3_3 v4_4 H locs ls h hP hD hS hl
      rw [fX6_tellsPlain_L11] at h
      refine lv_iload hx hb dX6_tellsPlain_11 (lv_at hl 3 rfl) ?_
      refine lv_aload_n hx hb dX6_tellsPlain_13 rfl (lv_at hl 0 rfl) ?_
      refine va_get (D := g.1) (ci := 6) (v := .ref (a 1)) (C := RX6) (T := TX6) (N := 15) hx hb hts hinX6 hown hK hP 0 rfl rfl 1 (by decide) (hts (.fieldLink RX6 7 "BarredRungsModel" "state" "[I") (List.mem_of_getElem? (i := 1) rfl)) (fun _ h9 => h9) rfl dX6_tellsPlain_14 ?_
      refine lv_iconst (v := 0) hx hb dX6_tellsPlain_17 (by decide) ?_
      obtain ⟨hi9, h⟩ := ck_ex h
      refine va_iald hx hb hK hP 1 0 rfl rfl (inb_in hi9) dX6_tellsPlain_18 ?_
      refine lv_icmp_ge (tgt := 48) hx hb dX6_tellsPlain_19 (by decide) (fun c5 => ?_) (fun c5 => ?_)
      · have h := if_t c5 h
        refine lv_iconst (v := -1) hx hb dX6_tellsPlain_48 (by decide) ?_
        cases some_i h
        exact hend _ _ _ _ _ hP hD hS (RetOK.i dX6_tellsPlain_49)
      · have h := if_f c5 h
        refine lv_iload_n hx hb dX6_tellsPlain_22 rfl (lv_at hl 2 rfl) ?_
        refine lv_iload_n hx hb dX6_tellsPlain_23 rfl (lv_at hl 1 rfl) ?_
        refine lv_ishr hx hb dX6_tellsPlain_24 ?_
        refine lv_iconst (v := 1) hx hb dX6_tellsPlain_25 (by decide) ?_
        refine lv_iand hx hb dX6_tellsPlain_26 ?_
        refine lv_iconst (v := 1) hx hb dX6_tellsPlain_27 (by decide) ?_
        refine lv_icmp_ne (tgt := 34) hx hb dX6_tellsPlain_28 (by decide) (fun c6 => ?_) (fun c6 => ?_)
        · have h := if_f c6 h
          refine lv_iload_n hx hb dX6_tellsPlain_34 rfl (lv_at hl 2 rfl) ?_
          refine lv_aload_n hx hb dX6_tellsPlain_35 rfl (lv_at hl 0 rfl) ?_
          refine lv_iload_n hx hb dX6_tellsPlain_36 rfl (lv_at hl 2 rfl) ?_
          obtain ⟨r7, kr7, h⟩ := bd_ex h
          refine aft_w (st1 := [.int r7, .int v3_3]) rfl (runV (As := [.int v3_3]) (rest := [.int v3_3]) ⟨hx, hb, hml, hown, hts⟩ (kX6_beside l g a kr7) (cwV 1 hts gX6_tellsPlain_X6_beside rfl rfl rfl hdX6_beside ⟨Nat.le_of_ble_eq_true rfl, Nat.le_of_ble_eq_true rfl⟩) hK hN hP hD (va_recv hK hP (ci := 6) (q0 := 0) rfl rfl) rfl hl.1 rfl (Nat.le_of_ble_eq_true rfl) dX6_tellsPlain_37 ⟨Nat.zero_le _, Nat.zero_le _⟩) hD hS hA (fun H locs hP hD hS => ?_)
          refine lv_ior hx hb dX6_tellsPlain_40 ?_
          obtain ⟨x8, ex8, h⟩ := pl_ex h
          refine lv_eqi ex8 ?_
          refine lv_istore_n (lv' := [(3, .int x8), (0, .ref (a 0)), (2, .int p2), (4, .int v4_4)]) hx hb dX6_tellsPlain_41 rfl hl (by decide) rfl (fun ls hl => ?_)
          obtain ⟨x9, ex9, h⟩ := pl_ex h
          refine lv_iinc (v := x9) (lv' := [(4, .int x9), (3, .int x8), (0, .ref (a 0)), (2, .int p2)]) hx hb dX6_tellsPlain_42 hl (k := 3) rfl (by rw [← ex9]; rfl) (by decide) rfl (fun ls hl => ?_)
          refine lv_goto (tgt := 11) hx hb dX6_tellsPlain_45 (by decide) ?_
          exact ih x8 x9 _ _ _ h hP hD hS (lv_sub hl [2, 3, 1, 0] rfl)
        · have h := if_t c6 h
          refine lv_iload hx hb dX6_tellsPlain_31 (lv_at hl 3 rfl) ?_
          cases some_i h
          exact hend _ _ _ _ _ hP hD hS (RetOK.i dX6_tellsPlain_33)
  exact L11 1000 x2 (0 : Int32) _ _ _ h hP hD hS (lv_sub hl [2, 4, 1, 0] rfl)
def fX6_tellsSafest_L6 : Nat → Int32 → Int32 → Int32 → Mo → Option (Int32 × Mo)
  | 0, _, _, _, _ => none
  | n + 1, v1_1, v2_2, v3_3, mo4 =>
    (ck (inb (0 : Int32) 55)
    (if (Mo_state mo4 (0 : Int32).toNatClampNeg) ≤ v3_3 then
    (some (v1_1, mo4))
    else
    (bd2 (fX6_barredIn mo4 v3_3) fun (r6 : Int32) (mo7 : Mo) =>
    (if r6 = (-1 : Int32) then
    (some (v3_3, mo7))
    else
    (if v1_1 = (-1 : Int32) then
    (pl ((v3_3 + (1 : Int32))) fun (x12 : Int32) =>
    (fX6_tellsSafest_L6 n v3_3 r6 x12 mo7))
    else
    (if r6 ≤ v2_2 then
    (pl ((v3_3 + (1 : Int32))) fun (x16 : Int32) =>
    (fX6_tellsSafest_L6 n v1_1 v2_2 x16 mo7))
    else
    (pl ((v3_3 + (1 : Int32))) fun (x19 : Int32) =>
    (fX6_tellsSafest_L6 n v3_3 r6 x19 mo7))))))))
def fX6_tellsSafest (mo : Mo) : Option (Int32 × Mo) :=
(fX6_tellsSafest_L6 1000 (-1 : Int32) (0 : Int32) (0 : Int32) mo)
abbrev rX6_tellsSafest : Room := { frames := 4, cells := 0, slots := 0, locals := 87 }
theorem hdX6_tellsSafest : yX6_tellsSafest.cls = RX6 ∧ yX6_tellsSafest.cls ≠ "java/lang/invoke/MethodHandle" ∧ yX6_tellsSafest.cls ≠ "java/lang/invoke/VarHandle" ∧ (parseMethodDescriptor yX6_tellsSafest.desc).map (fun d => d.parameters.length) = some 0 := by decide +kernel
set_option maxRecDepth 100000 in
set_option maxHeartbeats 8000000 in
theorem kX6_tellsSafest (l : Launch) (g : GG) (a : Nat → Nat) {mo : Mo} {res : Int32} {mo' : Mo} (h : fX6_tellsSafest mo = some (res, mo')) : Cg l g yX6_tellsSafest wsX6_tellsSafest rX6_tellsSafest [.ref (a 0)] (cMo g a mo) (some (.int res)) (cMo g a mo') := by
  refine Cg_of (cc := cX6_tellsSafest) (maxL := 6) (ret := (some .int)) (by decide +kernel) rfl (Nat.le_of_ble_eq_true rfl) ?_
  intro p e su m args below meth c A Q ls hx hb hml hown hts hK hN hA hnm hP hD hS hl hend
  have hinX6 : ∀ w ∈ u_ws RX6 TX6 15, w ∈ wsX6_tellsSafest := fun _ h9 => List.mem_cons_of_mem _ (List.mem_append_right _ h9)
  unfold fX6_tellsSafest at h
  have hl : lv_has ls 6 [(0, .ref (a 0))] := hl
  refine lv_iconst (v := -1) hx hb dX6_tellsSafest_0 (by decide) ?_
  refine lv_istore_n (lv' := [(1, .int (-1 : Int32)), (0, .ref (a 0))]) hx hb dX6_tellsSafest_1 rfl hl (by decide) rfl (fun ls hl => ?_)
  refine lv_iconst (v := 0) hx hb dX6_tellsSafest_2 (by decide) ?_
  refine lv_istore_n (lv' := [(2, .int (0 : Int32)), (1, .int (-1 : Int32)), (0, .ref (a 0))]) hx hb dX6_tellsSafest_3 rfl hl (by decide) rfl (fun ls hl => ?_)
  refine lv_iconst (v := 0) hx hb dX6_tellsSafest_4 (by decide) ?_
  refine lv_istore_n (lv' := [(3, .int (0 : Int32)), (2, .int (0 : Int32)), (1, .int (-1 : Int32)), (0, .ref (a 0))]) hx hb dX6_tellsSafest_5 rfl hl (by decide) rfl (fun ls hl => ?_)
  have L6 : ∀ (n : Nat) (v1_1 : Int32) (v2_2 : Int32) (v3_3 : Int32) (mo4 : Mo) (H : Heap) (locs : List Loc) (ls : Array Slot), fX6_tellsSafest_L6 n v1_1 v2_2 v3_3 mo4 = some (res, mo') → va_P g.1 vwCl (cMo g a mo4) H → va_D A (cMo g a mo4) → va_S A su.heap H locs → lv_has ls 6 [(0, .ref (a 0)), (1, .int v1_1), (2, .int v2_2), (3, .int v3_3)] → W p l e rX6_tellsSafest su m args below meth c H locs 0 0 Q (F0 m 6 ls []) := by
    intro n
    induction n with
    | zero => intro v1_1 v2_2 v3_3 mo4 H locs ls h hP hD hS hl; cases h
    | succ n ih =>
      intro v1_1 v2_2 v3_3 mo4 H locs ls h hP hD hS hl
      rw [fX6_tellsSafest_L6] at h
      refine lv_iload_n hx hb dX6_tellsSafest_6 rfl (lv_at hl 3 rfl) ?_
      refine lv_aload_n hx hb dX6_tellsSafest_7 rfl (lv_at hl 0 rfl) ?_
      refine va_get (D := g.1) (ci := 6) (v := .ref (a 1)) (C := RX6) (T := TX6) (N := 15) hx hb hts hinX6 hown hK hP 0 rfl rfl 1 (by decide) (hts (.fieldLink RX6 7 "BarredRungsModel" "state" "[I") (List.mem_of_getElem? (i := 1) rfl)) (fun _ h9 => h9) rfl dX6_tellsSafest_8 ?_
      refine lv_iconst (v := 0) hx hb dX6_tellsSafest_11 (by decide) ?_
      obtain ⟨hi9, h⟩ := ck_ex h
      refine va_iald hx hb hK hP 1 0 rfl rfl (inb_in hi9) dX6_tellsSafest_12 ?_
      refine lv_icmp_ge (tgt := 78) hx hb dX6_tellsSafest_13 (by decide) (fun c5 => ?_) (fun c5 => ?_)
      · have h := if_t c5 h
        refine lv_iload_n hx hb dX6_tellsSafest_78 rfl (lv_at hl 1 rfl) ?_
        cases some_i h
        exact hend _ _ _ _ _ hP hD hS (RetOK.i dX6_tellsSafest_79)
      · have h := if_f c5 h
        refine lv_aload_n hx hb dX6_tellsSafest_16 rfl (lv_at hl 0 rfl) ?_
        refine lv_iload_n hx hb dX6_tellsSafest_17 rfl (lv_at hl 3 rfl) ?_
        obtain ⟨r6, mo7, kr6, h⟩ := bd2_ex h
        refine aft_w (st1 := [.int r6]) rfl (runV (As := [.int v3_3]) (rest := []) ⟨hx, hb, hml, hown, hts⟩ (kX6_barredIn l g a kr6) (cwV 1 hts gX6_tellsSafest_X6_barredIn rfl rfl rfl hdX6_barredIn ⟨Nat.le_of_ble_eq_true rfl, Nat.le_of_ble_eq_true rfl⟩) hK hN hP hD (va_recv hK hP (ci := 6) (q0 := 0) rfl rfl) rfl hl.1 rfl (Nat.le_of_ble_eq_true rfl) dX6_tellsSafest_18 ⟨Nat.zero_le _, Nat.zero_le _⟩) hD hS hA (fun H locs hP hD hS => ?_)
        refine lv_istore (lv' := [(4, .int r6), (0, .ref (a 0)), (1, .int v1_1), (2, .int v2_2), (3, .int v3_3)]) hx hb dX6_tellsSafest_21 hl (by decide) rfl (fun ls hl => ?_)
        refine lv_iload hx hb dX6_tellsSafest_23 (lv_at hl 0 rfl) ?_
        refine lv_iconst (v := -1) hx hb dX6_tellsSafest_25 (by decide) ?_
        refine lv_icmp_ne (tgt := 31) hx hb dX6_tellsSafest_26 (by decide) (fun c8 => ?_) (fun c8 => ?_)
        · have h := if_f c8 h
          refine lv_iload_n hx hb dX6_tellsSafest_31 rfl (lv_at hl 2 rfl) ?_
          refine lv_iconst (v := -1) hx hb dX6_tellsSafest_32 (by decide) ?_
          refine lv_icmp_eq (tgt := 42) hx hb dX6_tellsSafest_33 (by decide) (fun c9 => ?_) (fun c9 => ?_)
          · have h := if_t c9 h
            refine lv_iconst (v := 1) hx hb dX6_tellsSafest_42 (by decide) ?_
            refine lv_goto (tgt := 47) hx hb dX6_tellsSafest_43 (by decide) ?_
            refine lv_istore (lv' := [(5, .int (1 : Int32)), (4, .int r6), (0, .ref (a 0)), (1, .int v1_1), (2, .int v2_2), (3, .int v3_3)]) hx hb dX6_tellsSafest_47 hl (by decide) rfl (fun ls hl => ?_)
            refine lv_iload hx hb dX6_tellsSafest_49 (lv_at hl 0 rfl) ?_
            refine lv_if_eq (tgt := 58) hx hb dX6_tellsSafest_51 (by decide) (fun c10 => ?_) (fun c10 => ?_)
            · exact absurd c10 (by decide)
            refine lv_iload_n hx hb dX6_tellsSafest_54 rfl (lv_at hl 5 rfl) ?_
            refine lv_goto (tgt := 59) hx hb dX6_tellsSafest_55 (by decide) ?_
            refine lv_istore_n (lv' := [(1, .int v3_3), (5, .int (1 : Int32)), (4, .int r6), (0, .ref (a 0)), (2, .int v2_2), (3, .int v3_3)]) hx hb dX6_tellsSafest_59 rfl hl (by decide) rfl (fun ls hl => ?_)
            refine lv_iload hx hb dX6_tellsSafest_60 (lv_at hl 1 rfl) ?_
            refine lv_if_eq (tgt := 70) hx hb dX6_tellsSafest_62 (by decide) (fun c11 => ?_) (fun c11 => ?_)
            · exact absurd c11 (by decide)
            refine lv_iload hx hb dX6_tellsSafest_65 (lv_at hl 2 rfl) ?_
            refine lv_goto (tgt := 71) hx hb dX6_tellsSafest_67 (by decide) ?_
            refine lv_istore_n (lv' := [(2, .int r6), (1, .int v3_3), (5, .int (1 : Int32)), (4, .int r6), (0, .ref (a 0)), (3, .int v3_3)]) hx hb dX6_tellsSafest_71 rfl hl (by decide) rfl (fun ls hl => ?_)
            obtain ⟨x12, ex12, h⟩ := pl_ex h
            refine lv_iinc (v := x12) (lv' := [(3, .int x12), (2, .int r6), (1, .int v3_3), (5, .int (1 : Int32)), (4, .int r6), (0, .ref (a 0))]) hx hb dX6_tellsSafest_72 hl (k := 5) rfl (by rw [← ex12]; rfl) (by decide) rfl (fun ls hl => ?_)
            refine lv_goto (tgt := 6) hx hb dX6_tellsSafest_75 (by decide) ?_
            exact ih v3_3 r6 x12 mo7 _ _ _ h hP hD hS (lv_sub hl [5, 2, 1, 0] rfl)
          · have h := if_f c9 h
            refine lv_iload hx hb dX6_tellsSafest_36 (lv_at hl 0 rfl) ?_
            refine lv_iload_n hx hb dX6_tellsSafest_38 rfl (lv_at hl 3 rfl) ?_
            refine lv_icmp_le (tgt := 46) hx hb dX6_tellsSafest_39 (by decide) (fun c13 => ?_) (fun c13 => ?_)
            · have h := if_t c13 h
              refine lv_iconst (v := 0) hx hb dX6_tellsSafest_46 (by decide) ?_
              refine lv_istore (lv' := [(5, .int (0 : Int32)), (4, .int r6), (0, .ref (a 0)), (1, .int v1_1), (2, .int v2_2), (3, .int v3_3)]) hx hb dX6_tellsSafest_47 hl (by decide) rfl (fun ls hl => ?_)
              refine lv_iload hx hb dX6_tellsSafest_49 (lv_at hl 0 rfl) ?_
              refine lv_if_eq (tgt := 58) hx hb dX6_tellsSafest_51 (by decide) (fun c14 => ?_) (fun c14 => ?_)
              rotate_left
              · exact absurd c14 (by decide)
              refine lv_iload_n hx hb dX6_tellsSafest_58 rfl (lv_at hl 3 rfl) ?_
              refine lv_istore_n (lv' := [(1, .int v1_1), (5, .int (0 : Int32)), (4, .int r6), (0, .ref (a 0)), (2, .int v2_2), (3, .int v3_3)]) hx hb dX6_tellsSafest_59 rfl hl (by decide) rfl (fun ls hl => ?_)
              refine lv_iload hx hb dX6_tellsSafest_60 (lv_at hl 1 rfl) ?_
              refine lv_if_eq (tgt := 70) hx hb dX6_tellsSafest_62 (by decide) (fun c15 => ?_) (fun c15 => ?_)
              rotate_left
              · exact absurd c15 (by decide)
              refine lv_iload_n hx hb dX6_tellsSafest_70 rfl (lv_at hl 4 rfl) ?_
              refine lv_istore_n (lv' := [(2, .int v2_2), (1, .int v1_1), (5, .int (0 : Int32)), (4, .int r6), (0, .ref (a 0)), (3, .int v3_3)]) hx hb dX6_tellsSafest_71 rfl hl (by decide) rfl (fun ls hl => ?_)
              obtain ⟨x16, ex16, h⟩ := pl_ex h
              refine lv_iinc (v := x16) (lv' := [(3, .int x16), (2, .int v2_2), (1, .int v1_1), (5, .int (0 : Int32)), (4, .int r6), (0, .ref (a 0))]) hx hb dX6_tellsSafest_72 hl (k := 5) rfl (by rw [← ex16]; rfl) (by decide) rfl (fun ls hl => ?_)
              refine lv_goto (tgt := 6) hx hb dX6_tellsSafest_75 (by decide) ?_
              exact ih v1_1 v2_2 x16 mo7 _ _ _ h hP hD hS (lv_sub hl [5, 2, 1, 0] rfl)
            · have h := if_f c13 h
              refine lv_iconst (v := 1) hx hb dX6_tellsSafest_42 (by decide) ?_
              refine lv_goto (tgt := 47) hx hb dX6_tellsSafest_43 (by decide) ?_
              refine lv_istore (lv' := [(5, .int (1 : Int32)), (4, .int r6), (0, .ref (a 0)), (1, .int v1_1), (2, .int v2_2), (3, .int v3_3)]) hx hb dX6_tellsSafest_47 hl (by decide) rfl (fun ls hl => ?_)
              refine lv_iload hx hb dX6_tellsSafest_49 (lv_at hl 0 rfl) ?_
              refine lv_if_eq (tgt := 58) hx hb dX6_tellsSafest_51 (by decide) (fun c17 => ?_) (fun c17 => ?_)
              · exact absurd c17 (by decide)
              refine lv_iload_n hx hb dX6_tellsSafest_54 rfl (lv_at hl 5 rfl) ?_
              refine lv_goto (tgt := 59) hx hb dX6_tellsSafest_55 (by decide) ?_
              refine lv_istore_n (lv' := [(1, .int v3_3), (5, .int (1 : Int32)), (4, .int r6), (0, .ref (a 0)), (2, .int v2_2), (3, .int v3_3)]) hx hb dX6_tellsSafest_59 rfl hl (by decide) rfl (fun ls hl => ?_)
              refine lv_iload hx hb dX6_tellsSafest_60 (lv_at hl 1 rfl) ?_
              refine lv_if_eq (tgt := 70) hx hb dX6_tellsSafest_62 (by decide) (fun c18 => ?_) (fun c18 => ?_)
              · exact absurd c18 (by decide)
              refine lv_iload hx hb dX6_tellsSafest_65 (lv_at hl 2 rfl) ?_
              refine lv_goto (tgt := 71) hx hb dX6_tellsSafest_67 (by decide) ?_
              refine lv_istore_n (lv' := [(2, .int r6), (1, .int v3_3), (5, .int (1 : Int32)), (4, .int r6), (0, .ref (a 0)), (3, .int v3_3)]) hx hb dX6_tellsSafest_71 rfl hl (by decide) rfl (fun ls hl => ?_)
              obtain ⟨x19, ex19, h⟩ := pl_ex h
              refine lv_iinc (v := x19) (lv' := [(3, .int x19), (2, .int r6), (1, .int v3_3), (5, .int (1 : Int32)), (4, .int r6), (0, .ref (a 0))]) hx hb dX6_tellsSafest_72 hl (k := 5) rfl (by rw [← ex19]; rfl) (by decide) rfl (fun ls hl => ?_)
              refine lv_goto (tgt := 6) hx hb dX6_tellsSafest_75 (by decide) ?_
              exact ih v3_3 r6 x19 mo7 _ _ _ h hP hD hS (lv_sub hl [5, 2, 1, 0] rfl)
        · have h := if_t c8 h
          refine lv_iload_n hx hb dX6_tellsSafest_29 rfl (lv_at hl 4 rfl) ?_
          cases some_i h
          exact hend _ _ _ _ _ hP hD hS (RetOK.i dX6_tellsSafest_30)
  exact L6 1000 (-1 : Int32) (0 : Int32) (0 : Int32) mo _ _ _ h hP hD hS (lv_sub hl [3, 2, 1, 0] rfl)
def fX6_share (mo : Mo) : Option (UInt64 × Mo) :=
(ck (inb (0 : Int32) 55)
(pl ((Mo_state mo (0 : Int32).toNatClampNeg)) fun (x1 : Int32) =>
(if (2 : Int32) ≤ x1 then
(bd2 (fX6_linkedPairs mo) fun (r3 : Int32) (mo4 : Mo) =>
(ck (nnd (FP.ddiv (FP.i2d r3) (FP.i2d ((x1 * (x1 - (1 : Int32))) / (2 : Int32)))))
(some ((FP.ddiv (FP.i2d r3) (FP.i2d ((x1 * (x1 - (1 : Int32))) / (2 : Int32)))), mo4))))
else
(some (FP.dconst0, mo)))))
abbrev rX6_share : Room := { frames := 5, cells := 0, slots := 0, locals := 113 }
theorem hdX6_share : yX6_share.cls = RX6 ∧ yX6_share.cls ≠ "java/lang/invoke/MethodHandle" ∧ yX6_share.cls ≠ "java/lang/invoke/VarHandle" ∧ (parseMethodDescriptor yX6_share.desc).map (fun d => d.parameters.length) = some 0 := by decide +kernel
set_option maxRecDepth 100000 in
set_option maxHeartbeats 8000000 in
theorem kX6_share (l : Launch) (g : GG) (a : Nat → Nat) {mo : Mo} {res : UInt64} {mo' : Mo} (h : fX6_share mo = some (res, mo')) : Cg l g yX6_share wsX6_share rX6_share [.ref (a 0)] (cMo g a mo) (some (.double res)) (cMo g a mo') := by
  refine Cg_of (cc := cX6_share) (maxL := 2) (ret := (some .double)) (by decide +kernel) rfl (Nat.le_of_ble_eq_true rfl) ?_
  intro p e su m args below meth c A Q ls hx hb hml hown hts hK hN hA hnm hP hD hS hl hend
  have hinX6 : ∀ w ∈ u_ws RX6 TX6 15, w ∈ wsX6_share := fun _ h9 => List.mem_cons_of_mem _ (List.mem_append_right _ h9)
  unfold fX6_share at h
  have hl : lv_has ls 2 [(0, .ref (a 0))] := hl
  refine lv_aload_n hx hb dX6_share_0 rfl (lv_at hl 0 rfl) ?_
  refine va_get (D := g.1) (ci := 6) (v := .ref (a 1)) (C := RX6) (T := TX6) (N := 15) hx hb hts hinX6 hown hK hP 0 rfl rfl 1 (by decide) (hts (.fieldLink RX6 7 "BarredRungsModel" "state" "[I") (List.mem_of_getElem? (i := 1) rfl)) (fun _ h9 => h9) rfl dX6_share_1 ?_
  refine lv_iconst (v := 0) hx hb dX6_share_4 (by decide) ?_
  obtain ⟨hi9, h⟩ := ck_ex h
  refine va_iald hx hb hK hP 1 0 rfl rfl (inb_in hi9) dX6_share_5 ?_
  obtain ⟨x1, ex1, h⟩ := pl_ex h
  refine lv_eqi ex1 ?_
  refine lv_istore_n (lv' := [(1, .int x1), (0, .ref (a 0))]) hx hb dX6_share_6 rfl hl (by decide) rfl (fun ls hl => ?_)
  refine lv_iload_n hx hb dX6_share_7 rfl (lv_at hl 0 rfl) ?_
  refine lv_iconst (v := 2) hx hb dX6_share_8 (by decide) ?_
  refine lv_icmp_ge (tgt := 16) hx hb dX6_share_9 (by decide) (fun c2 => ?_) (fun c2 => ?_)
  · have h := if_t c2 h
    refine lv_aload_n hx hb dX6_share_16 rfl (lv_at hl 1 rfl) ?_
    obtain ⟨r3, mo4, kr3, h⟩ := bd2_ex h
    refine aft_w (st1 := [.int r3]) rfl (runV (As := []) (rest := []) ⟨hx, hb, hml, hown, hts⟩ (kX6_linkedPairs l g a kr3) (cwV 0 hts gX6_share_X6_linkedPairs rfl rfl rfl hdX6_linkedPairs ⟨Nat.le_of_ble_eq_true rfl, Nat.le_of_ble_eq_true rfl⟩) hK hN hP hD (va_recv hK hP (ci := 6) (q0 := 0) rfl rfl) rfl hl.1 rfl (Nat.le_of_ble_eq_true rfl) dX6_share_17 ⟨Nat.zero_le _, Nat.zero_le _⟩) hD hS hA (fun H locs hP hD hS => ?_)
    refine lv_i2d hx hb dX6_share_20 ?_
    refine lv_iload_n hx hb dX6_share_21 rfl (lv_at hl 0 rfl) ?_
    refine lv_iload_n hx hb dX6_share_22 rfl (lv_at hl 0 rfl) ?_
    refine lv_iconst (v := 1) hx hb dX6_share_23 (by decide) ?_
    refine lv_isub hx hb dX6_share_24 ?_
    refine lv_imul hx hb dX6_share_25 ?_
    refine lv_iconst (v := 2) hx hb dX6_share_26 (by decide) ?_
    refine lv_idiv hx hb dX6_share_27 (by decide) ?_
    refine lv_i2d hx hb dX6_share_28 ?_
    obtain ⟨hn9, h⟩ := ck_ex h
    refine lv_ddiv hx hb dX6_share_29 (nnd_ok hn9) ?_
    cases some_i h
    exact hend _ _ _ _ _ hP hD hS (RetOK.d dX6_share_30)
  · have h := if_f c2 h
    refine lv_dconst0 hx hb dX6_share_12 ?_
    refine lv_goto (tgt := 30) hx hb dX6_share_13 (by decide) ?_
    cases some_i h
    exact hend _ _ _ _ _ hP hD hS (RetOK.d dX6_share_30)
def fX6_mean (mo : Mo) : Option (UInt32) :=
(ck (inb (7 : Int32) 55)
(if (Mo_state mo (7 : Int32).toNatClampNeg) = (0 : Int32) then
(some FP.fconst0)
else
(ck (inb (9 : Int32) 55)
(ck (inb (7 : Int32) 55)
(ck (nnf (FP.fdiv (FP.i2f (Mo_state mo (9 : Int32).toNatClampNeg)) (FP.i2f (Mo_state mo (7 : Int32).toNatClampNeg))))
(some (FP.fdiv (FP.i2f (Mo_state mo (9 : Int32).toNatClampNeg)) (FP.i2f (Mo_state mo (7 : Int32).toNatClampNeg)))))))))
abbrev rX6_mean : Room := { frames := 0, cells := 0, slots := 0, locals := 0 }
theorem hdX6_mean : yX6_mean.cls = RX6 ∧ yX6_mean.cls ≠ "java/lang/invoke/MethodHandle" ∧ yX6_mean.cls ≠ "java/lang/invoke/VarHandle" ∧ (parseMethodDescriptor yX6_mean.desc).map (fun d => d.parameters.length) = some 0 := by decide +kernel
set_option maxRecDepth 100000 in
set_option maxHeartbeats 8000000 in
theorem kX6_mean (l : Launch) (g : GG) (a : Nat → Nat) {mo : Mo} {res : UInt32} (h : fX6_mean mo = some res) : Cg l g yX6_mean wsX6_mean rX6_mean [.ref (a 0)] (cMo g a mo) (some (.float res)) (cMo g a mo) := by
  refine Cg_of (cc := cX6_mean) (maxL := 1) (ret := (some .float)) (by decide +kernel) rfl (Nat.le_of_ble_eq_true rfl) ?_
  intro p e su m args below meth c A Q ls hx hb hml hown hts hK hN hA hnm hP hD hS hl hend
  have hinX6 : ∀ w ∈ u_ws RX6 TX6 15, w ∈ wsX6_mean := fun _ h9 => List.mem_cons_of_mem _ (List.mem_append_right _ h9)
  unfold fX6_mean at h
  have hl : lv_has ls 1 [(0, .ref (a 0))] := hl
  refine lv_aload_n hx hb dX6_mean_0 rfl (lv_at hl 0 rfl) ?_
  refine va_get (D := g.1) (ci := 6) (v := .ref (a 1)) (C := RX6) (T := TX6) (N := 15) hx hb hts hinX6 hown hK hP 0 rfl rfl 1 (by decide) (hts (.fieldLink RX6 7 "BarredRungsModel" "state" "[I") (List.mem_of_getElem? (i := 1) rfl)) (fun _ h9 => h9) rfl dX6_mean_1 ?_
  refine lv_bipush (v := 7) hx hb dX6_mean_4 (by decide) ?_
  obtain ⟨hi9, h⟩ := ck_ex h
  refine va_iald hx hb hK hP 1 0 rfl rfl (inb_in hi9) dX6_mean_6 ?_
  refine lv_if_ne (tgt := 14) hx hb dX6_mean_7 (by decide) (fun c1 => ?_) (fun c1 => ?_)
  · have h := if_f c1 h
    refine lv_aload_n hx hb dX6_mean_14 rfl (lv_at hl 0 rfl) ?_
    refine va_get (D := g.1) (ci := 6) (v := .ref (a 1)) (C := RX6) (T := TX6) (N := 15) hx hb hts hinX6 hown hK hP 0 rfl rfl 1 (by decide) (hts (.fieldLink RX6 7 "BarredRungsModel" "state" "[I") (List.mem_of_getElem? (i := 1) rfl)) (fun _ h9 => h9) rfl dX6_mean_15 ?_
    refine lv_bipush (v := 9) hx hb dX6_mean_18 (by decide) ?_
    obtain ⟨hi9, h⟩ := ck_ex h
    refine va_iald hx hb hK hP 1 0 rfl rfl (inb_in hi9) dX6_mean_20 ?_
    refine lv_i2f hx hb dX6_mean_21 ?_
    refine lv_aload_n hx hb dX6_mean_22 rfl (lv_at hl 0 rfl) ?_
    refine va_get (D := g.1) (ci := 6) (v := .ref (a 1)) (C := RX6) (T := TX6) (N := 15) hx hb hts hinX6 hown hK hP 0 rfl rfl 1 (by decide) (hts (.fieldLink RX6 7 "BarredRungsModel" "state" "[I") (List.mem_of_getElem? (i := 1) rfl)) (fun _ h9 => h9) rfl dX6_mean_23 ?_
    refine lv_bipush (v := 7) hx hb dX6_mean_26 (by decide) ?_
    obtain ⟨hi9, h⟩ := ck_ex h
    refine va_iald hx hb hK hP 1 0 rfl rfl (inb_in hi9) dX6_mean_28 ?_
    refine lv_i2f hx hb dX6_mean_29 ?_
    obtain ⟨hn9, h⟩ := ck_ex h
    refine lv_fdiv hx hb dX6_mean_30 (nnf_ok hn9) ?_
    cases some_i h
    exact hend _ _ _ _ _ hP hD hS (RetOK.f dX6_mean_31)
  · have h := if_t c1 h
    refine lv_fconst0 hx hb dX6_mean_10 ?_
    refine lv_goto (tgt := 31) hx hb dX6_mean_11 (by decide) ?_
    cases some_i h
    exact hend _ _ _ _ _ hP hD hS (RetOK.f dX6_mean_31)
def fX6_digest_L14 : Nat → Int32 → Mo → Option (Mo)
  | 0, _, _ => none
  | n + 1, v1_3, mo4 =>
    (if (13 : Int32) ≤ v1_3 then
    (some mo4)
    else
    (bd2 (fX6_tellsCount mo4 v1_3) fun (r7 : Int32) (mo8 : Mo) =>
    (bd (fX6_mix mo8 (r7.toInt64)) fun (mo9 : Mo) =>
    (pl ((v1_3 + (1 : Int32))) fun (x10 : Int32) =>
    (fX6_digest_L14 n x10 mo9)))))
def fX6_digest_L60 : Nat → Int32 → Mo → Option (Mo)
  | 0, _, _ => none
  | n + 1, v1_14, mo15 =>
    (ck (inb (0 : Int32) 55)
    (if ((10 : Int32) * (Mo_state mo15 (0 : Int32).toNatClampNeg)) ≤ v1_14 then
    (some mo15)
    else
    (bd2 (fX6_tellsWord mo15 (v1_14 / (10 : Int32)) (v1_14 - v1_14 / (10 : Int32) * (10 : Int32))) fun (r18 : Int32) (mo19 : Mo) =>
    (bd (fX6_mix mo19 (r18.toInt64)) fun (mo20 : Mo) =>
    (pl ((v1_14 + (1 : Int32))) fun (x21 : Int32) =>
    (fX6_digest_L60 n x21 mo20))))))
def fX6_digest_L98 : Nat → Int32 → Mo → Option (Mo)
  | 0, _, _ => none
  | n + 1, v1_23, mo24 =>
    (if (30 : Int32) ≤ v1_23 then
    (some mo24)
    else
    (bd2 (fX6_tellsClimber mo24 (v1_23 / (10 : Int32)) (v1_23 - v1_23 / (10 : Int32) * (10 : Int32))) fun (r27 : Int32) (mo28 : Mo) =>
    (bd (fX6_mix mo28 (r27.toInt64)) fun (mo29 : Mo) =>
    (pl ((v1_23 + (1 : Int32))) fun (x30 : Int32) =>
    (fX6_digest_L98 n x30 mo29)))))
def fX6_digest_L129 : Nat → Int32 → Mo → Option (Mo)
  | 0, _, _ => none
  | n + 1, v1_32, mo33 =>
    (ck (inb (0 : Int32) 55)
    (if (Mo_state mo33 (0 : Int32).toNatClampNeg) ≤ v1_32 then
    (some mo33)
    else
    (bd2 (fX6_tellsPlain mo33 (0 : Int32) v1_32) fun (r36 : Int32) (mo37 : Mo) =>
    (bd (fX6_mix mo37 (r36.toInt64)) fun (mo38 : Mo) =>
    (pl ((v1_32 + (1 : Int32))) fun (x39 : Int32) =>
    (fX6_digest_L129 n x39 mo38))))))
def fX6_digest_L215 : Nat → Int32 → Mo → Option (Mo)
  | 0, _, _ => none
  | n + 1, v1_54, mo55 =>
    (if (Mo_length mo55) ≤ v1_54 then
    (some mo55)
    else
    (ck (inb v1_54 60)
    (bd (fX6_mix mo55 ((Mo_buffer mo55 v1_54.toNatClampNeg).toInt64)) fun (mo58 : Mo) =>
    (pl ((v1_54 + (1 : Int32))) fun (x59 : Int32) =>
    (fX6_digest_L215 n x59 mo58)))))
def fX6_digest (mo : Mo) : Option (Int64 × Mo) :=
(pl (Mo_set_thrown mo (0 : Int32)) fun (mo1 : Mo) =>
(pl (Mo_set_hash mo1 (3709 : Int64)) fun (mo2 : Mo) =>
(bd (fX6_digest_L14 1000 (0 : Int32) mo2) fun (mo11 : Mo) =>
(ck (inb (3 : Int32) 55)
(bd (fX6_mix mo11 ((Mo_state mo11 (3 : Int32).toNatClampNeg).toInt64)) fun (mo12 : Mo) =>
(ck (inb (4 : Int32) 55)
(bd (fX6_mix mo12 ((Mo_state mo12 (4 : Int32).toNatClampNeg).toInt64)) fun (mo13 : Mo) =>
(bd (fX6_digest_L60 1000 (0 : Int32) mo13) fun (mo22 : Mo) =>
(bd (fX6_digest_L98 1000 (0 : Int32) mo22) fun (mo31 : Mo) =>
(bd (fX6_digest_L129 1000 (0 : Int32) mo31) fun (mo40 : Mo) =>
(bd2 (fX6_tellsSafest mo40) fun (r41 : Int32) (mo42 : Mo) =>
(bd (fX6_mix mo42 (r41.toInt64)) fun (mo43 : Mo) =>
(bd2 (fX6_share mo43) fun (r44 : UInt64) (mo45 : Mo) =>
(bd (fJxe99ae_doubleToLongBits_ccdee r44) fun (r46 : Int64) =>
(bd (fX6_mix mo45 r46) fun (mo47 : Mo) =>
(bd (fX6_mean mo47) fun (r48 : UInt32) =>
(bd (fJxf58ca_floatToIntBits_5c35a r48) fun (r49 : Int32) =>
(bd (fX6_mix mo47 (r49.toInt64)) fun (mo50 : Mo) =>
(if (Mo_hasSnapshot mo50) = (0 : Int32) then
(bd (fX6_mix mo50 (0 : Int64)) fun (mo52 : Mo) =>
(bd (fX6_mix mo52 ((Mo_length mo52).toInt64)) fun (mo53 : Mo) =>
(bd (fX6_digest_L215 1000 (0 : Int32) mo53) fun (mo60 : Mo) =>
(some ((Mo_hash mo60), mo60)))))
else
(bd (fX6_mix mo50 (1 : Int64)) fun (mo61 : Mo) =>
(bd (fX6_mix mo61 ((Mo_length mo61).toInt64)) fun (mo62 : Mo) =>
(bd (fX6_digest_L215 1000 (0 : Int32) mo62) fun (mo69 : Mo) =>
(some ((Mo_hash mo69), mo69))))))))))))))))))))))))
abbrev rX6_digest : Room := { frames := 9, cells := 0, slots := 0, locals := 206 }
theorem hdX6_digest : yX6_digest.cls = RX6 ∧ yX6_digest.cls ≠ "java/lang/invoke/MethodHandle" ∧ yX6_digest.cls ≠ "java/lang/invoke/VarHandle" ∧ (parseMethodDescriptor yX6_digest.desc).map (fun d => d.parameters.length) = some 0 := by decide +kernel
set_option maxRecDepth 100000 in
set_option maxHeartbeats 8000000 in
theorem kX6_digest (l : Launch) (g : GG) (a : Nat → Nat) {mo : Mo} {res : Int64} {mo' : Mo} (h : fX6_digest mo = some (res, mo')) : Cg l g yX6_digest wsX6_digest rX6_digest [.ref (a 0)] (cMo g a mo) (some (.long res)) (cMo g a mo') := by
  refine Cg_of (cc := cX6_digest) (maxL := 2) (ret := (some .long)) (by decide +kernel) rfl (Nat.le_of_ble_eq_true rfl) ?_
  intro p e su m args below meth c A Q ls hx hb hml hown hts hK hN hA hnm hP hD hS hl hend
  have hinX6 : ∀ w ∈ u_ws RX6 TX6 15, w ∈ wsX6_digest := fun _ h9 => List.mem_cons_of_mem _ (List.mem_append_right _ h9)
  unfold fX6_digest at h
  have hl : lv_has ls 2 [(0, .ref (a 0))] := hl
  refine lv_aload_n hx hb dX6_digest_0 rfl (lv_at hl 0 rfl) ?_
  refine lv_iconst (v := 0) hx hb dX6_digest_1 (by decide) ?_
  obtain ⟨mo1, emo1, h⟩ := pl_ex h
  refine va_put (D := g.1) (ci := 6) (v := .int (0 : Int32)) (ty := .int) (C := RX6) (T := TX6) (N := 15) hx hb hts hinX6 tyX6 tyX6_ok nmX6 hown hK hP hD hS 0 rfl rfl 0 (by decide) (hts (.fieldLink RX6 29 "BarredRungsModel" "thrown" "I") (List.mem_of_getElem? (i := 1) rfl)) (fun _ h9 => h9) rfl (by decide +kernel) rfl rfl (Nat.le_of_ble_eq_true rfl) dX6_digest_2 (fun H locs hP hD hS => ?_)
  have hP : va_P g.1 vwCl (cMo g a mo1) H := by rw [← emo1]; exact hP
  have hD : va_D A (cMo g a mo1) := by rw [← emo1]; exact hD
  refine lv_aload_n hx hb dX6_digest_5 rfl (lv_at hl 0 rfl) ?_
  refine lv_ldc2 hx hb hown (hts (.constantLong RX6 222 (3709)) (List.mem_of_getElem? (i := 2) rfl)) dX6_digest_6 ?_
  obtain ⟨mo2, emo2, h⟩ := pl_ex h
  refine va_put (D := g.1) (ci := 6) (v := .long (3709 : Int64)) (ty := .long) (C := RX6) (T := TX6) (N := 15) hx hb hts hinX6 tyX6 tyX6_ok nmX6 hown hK hP hD hS 0 rfl rfl 14 (by decide) (hts (.fieldLink RX6 218 "BarredRungsModel" "hash" "J") (List.mem_of_getElem? (i := 3) rfl)) (fun _ h9 => h9) rfl (by decide +kernel) rfl rfl (Nat.le_of_ble_eq_true rfl) dX6_digest_9 (fun H locs hP hD hS => ?_)
  have hP : va_P g.1 vwCl (cMo g a mo2) H := by rw [← emo2]; exact hP
  have hD : va_D A (cMo g a mo2) := by rw [← emo2]; exact hD
  refine lv_iconst (v := 0) hx hb dX6_digest_12 (by decide) ?_
  refine lv_istore_n (lv' := [(1, .int (0 : Int32)), (0, .ref (a 0))]) hx hb dX6_digest_13 rfl hl (by decide) rfl (fun ls hl => ?_)
  have L14 : ∀ (n : Nat) (v1_3 : Int32) (mo4 : Mo) (mo5 : Mo) (H : Heap) (locs : List Loc) (ls : Array Slot), fX6_digest_L14 n v1_3 mo4 = some mo5 → va_P g.1 vwCl (cMo g a mo4) H → va_D A (cMo g a mo4) → va_S A su.heap H locs → lv_has ls 2 [(0, .ref (a 0)), (1, .int v1_3)] → (∀ (H : Heap) (locs : List Loc) (ls : Array Slot), va_P g.1 vwCl (cMo g a mo5) H → va_D A (cMo g a mo5) → va_S A su.heap H locs → lv_has ls 2 [(0, .ref (a 0))] → W p l e rX6_digest su m args below meth c H locs 0 0 Q (F0 m 36 ls [])) → W p l e rX6_digest su m args below meth c H locs 0 0 Q (F0 m 14 ls []) := by
    intro n
    induction n with
    | zero => intro v1_3 mo4 mo5 H locs ls h hP hD hS hl kx; cases h
    | succ n ih =>
      intro v1_3 mo4 mo5 H locs ls h hP hD hS hl kx
      rw [fX6_digest_L14] at h
      refine lv_iload_n hx hb dX6_digest_14 rfl (lv_at hl 1 rfl) ?_
      refine lv_bipush (v := 13) hx hb dX6_digest_15 (by decide) ?_
      refine lv_icmp_ge (tgt := 36) hx hb dX6_digest_17 (by decide) (fun c6 => ?_) (fun c6 => ?_)
      · have h := if_t c6 h
        cases some_i h
        exact kx _ _ _ hP hD hS (lv_sub hl [0] rfl)
      · have h := if_f c6 h
        refine lv_aload_n hx hb dX6_digest_20 rfl (lv_at hl 0 rfl) ?_
        refine lv_aload_n hx hb dX6_digest_21 rfl (lv_at hl 0 rfl) ?_
        refine lv_iload_n hx hb dX6_digest_22 rfl (lv_at hl 1 rfl) ?_
        obtain ⟨r7, mo8, kr7, h⟩ := bd2_ex h
        refine aft_w (st1 := [.int r7, .ref (a 0)]) rfl (runV (As := [.int v1_3]) (rest := [.ref (a 0)]) ⟨hx, hb, hml, hown, hts⟩ (kX6_tellsCount l g a kr7) (cwV 1 hts gX6_digest_X6_tellsCount rfl rfl rfl hdX6_tellsCount ⟨Nat.le_of_ble_eq_true rfl, Nat.le_of_ble_eq_true rfl⟩) hK hN hP hD (va_recv hK hP (ci := 6) (q0 := 0) rfl rfl) rfl hl.1 rfl (Nat.le_of_ble_eq_true rfl) dX6_digest_23 ⟨Nat.zero_le _, Nat.zero_le _⟩) hD hS hA (fun H locs hP hD hS => ?_)
        refine lv_i2l (v := (r7.toInt64)) hx hb dX6_digest_26 rfl ?_
        obtain ⟨mo9, kmo9, h⟩ := bd_ex h
        refine aft_w (st1 := []) rfl (runV (As := [.long (r7.toInt64)]) (rest := []) ⟨hx, hb, hml, hown, hts⟩ (kX6_mix l g a kmo9) (cwV 1 hts gX6_digest_X6_mix rfl rfl rfl hdX6_mix ⟨Nat.le_of_ble_eq_true rfl, Nat.le_of_ble_eq_true rfl⟩) hK hN hP hD (va_recv hK hP (ci := 6) (q0 := 0) rfl rfl) rfl hl.1 rfl (Nat.le_of_ble_eq_true rfl) dX6_digest_27 ⟨Nat.zero_le _, Nat.zero_le _⟩) hD hS hA (fun H locs hP hD hS => ?_)
        obtain ⟨x10, ex10, h⟩ := pl_ex h
        refine lv_iinc (v := x10) (lv' := [(1, .int x10), (0, .ref (a 0))]) hx hb dX6_digest_30 hl (k := 1) rfl (by rw [← ex10]; rfl) (by decide) rfl (fun ls hl => ?_)
        refine lv_goto (tgt := 14) hx hb dX6_digest_33 (by decide) ?_
        exact ih x10 mo9 _ _ _ _ h hP hD hS (lv_sub hl [1, 0] rfl) kx
  obtain ⟨mo11, kmo11, h⟩ := bd_ex h
  refine L14 1000 (0 : Int32) mo2 mo11 _ _ _ kmo11 hP hD hS (lv_sub hl [1, 0] rfl) (fun H locs ls hP hD hS hl => ?_)
  refine lv_aload_n hx hb dX6_digest_36 rfl (lv_at hl 0 rfl) ?_
  refine lv_aload_n hx hb dX6_digest_37 rfl (lv_at hl 0 rfl) ?_
  refine va_get (D := g.1) (ci := 6) (v := .ref (a 1)) (C := RX6) (T := TX6) (N := 15) hx hb hts hinX6 hown hK hP 0 rfl rfl 1 (by decide) (hts (.fieldLink RX6 7 "BarredRungsModel" "state" "[I") (List.mem_of_getElem? (i := 4) rfl)) (fun _ h9 => h9) rfl dX6_digest_38 ?_
  refine lv_iconst (v := 3) hx hb dX6_digest_41 (by decide) ?_
  obtain ⟨hi9, h⟩ := ck_ex h
  refine va_iald hx hb hK hP 1 0 rfl rfl (inb_in hi9) dX6_digest_42 ?_
  refine lv_i2l (v := ((Mo_state mo11 (3 : Int32).toNatClampNeg).toInt64)) hx hb dX6_digest_43 rfl ?_
  obtain ⟨mo12, kmo12, h⟩ := bd_ex h
  refine aft_w (st1 := []) rfl (runV (As := [.long ((Mo_state mo11 (3 : Int32).toNatClampNeg).toInt64)]) (rest := []) ⟨hx, hb, hml, hown, hts⟩ (kX6_mix l g a kmo12) (cwV 1 hts gX6_digest_X6_mix rfl rfl rfl hdX6_mix ⟨Nat.le_of_ble_eq_true rfl, Nat.le_of_ble_eq_true rfl⟩) hK hN hP hD (va_recv hK hP (ci := 6) (q0 := 0) rfl rfl) rfl hl.1 rfl (Nat.le_of_ble_eq_true rfl) dX6_digest_44 ⟨Nat.zero_le _, Nat.zero_le _⟩) hD hS hA (fun H locs hP hD hS => ?_)
  refine lv_aload_n hx hb dX6_digest_47 rfl (lv_at hl 0 rfl) ?_
  refine lv_aload_n hx hb dX6_digest_48 rfl (lv_at hl 0 rfl) ?_
  refine va_get (D := g.1) (ci := 6) (v := .ref (a 1)) (C := RX6) (T := TX6) (N := 15) hx hb hts hinX6 hown hK hP 0 rfl rfl 1 (by decide) (hts (.fieldLink RX6 7 "BarredRungsModel" "state" "[I") (List.mem_of_getElem? (i := 4) rfl)) (fun _ h9 => h9) rfl dX6_digest_49 ?_
  refine lv_iconst (v := 4) hx hb dX6_digest_52 (by decide) ?_
  obtain ⟨hi9, h⟩ := ck_ex h
  refine va_iald hx hb hK hP 1 0 rfl rfl (inb_in hi9) dX6_digest_53 ?_
  refine lv_i2l (v := ((Mo_state mo12 (4 : Int32).toNatClampNeg).toInt64)) hx hb dX6_digest_54 rfl ?_
  obtain ⟨mo13, kmo13, h⟩ := bd_ex h
  refine aft_w (st1 := []) rfl (runV (As := [.long ((Mo_state mo12 (4 : Int32).toNatClampNeg).toInt64)]) (rest := []) ⟨hx, hb, hml, hown, hts⟩ (kX6_mix l g a kmo13) (cwV 1 hts gX6_digest_X6_mix rfl rfl rfl hdX6_mix ⟨Nat.le_of_ble_eq_true rfl, Nat.le_of_ble_eq_true rfl⟩) hK hN hP hD (va_recv hK hP (ci := 6) (q0 := 0) rfl rfl) rfl hl.1 rfl (Nat.le_of_ble_eq_true rfl) dX6_digest_55 ⟨Nat.zero_le _, Nat.zero_le _⟩) hD hS hA (fun H locs hP hD hS => ?_)
  refine lv_iconst (v := 0) hx hb dX6_digest_58 (by decide) ?_
  refine lv_istore_n (lv' := [(1, .int (0 : Int32)), (0, .ref (a 0))]) hx hb dX6_digest_59 rfl hl (by decide) rfl (fun ls hl => ?_)
  have L60 : ∀ (n : Nat) (v1_14 : Int32) (mo15 : Mo) (mo16 : Mo) (H : Heap) (locs : List Loc) (ls : Array Slot), fX6_digest_L60 n v1_14 mo15 = some mo16 → va_P g.1 vwCl (cMo g a mo15) H → va_D A (cMo g a mo15) → va_S A su.heap H locs → lv_has ls 2 [(0, .ref (a 0)), (1, .int v1_14)] → (∀ (H : Heap) (locs : List Loc) (ls : Array Slot), va_P g.1 vwCl (cMo g a mo16) H → va_D A (cMo g a mo16) → va_S A su.heap H locs → lv_has ls 2 [(0, .ref (a 0))] → W p l e rX6_digest su m args below meth c H locs 0 0 Q (F0 m 96 ls [])) → W p l e rX6_digest su m args below meth c H locs 0 0 Q (F0 m 60 ls []) := by
    intro n
    induction n with
    | zero => intro v1_14 mo15 mo16 H locs ls h hP hD hS hl kx; cases h
    | succ n ih =>
      intro v1_14 mo15 mo16 H locs ls h hP hD hS hl kx
      rw [fX6_digest_L60] at h
      refine lv_iload_n hx hb dX6_digest_60 rfl (lv_at hl 1 rfl) ?_
      refine lv_bipush (v := 10) hx hb dX6_digest_61 (by decide) ?_
      refine lv_aload_n hx hb dX6_digest_63 rfl (lv_at hl 0 rfl) ?_
      refine va_get (D := g.1) (ci := 6) (v := .ref (a 1)) (C := RX6) (T := TX6) (N := 15) hx hb hts hinX6 hown hK hP 0 rfl rfl 1 (by decide) (hts (.fieldLink RX6 7 "BarredRungsModel" "state" "[I") (List.mem_of_getElem? (i := 4) rfl)) (fun _ h9 => h9) rfl dX6_digest_64 ?_
      refine lv_iconst (v := 0) hx hb dX6_digest_67 (by decide) ?_
      obtain ⟨hi9, h⟩ := ck_ex h
      refine va_iald hx hb hK hP 1 0 rfl rfl (inb_in hi9) dX6_digest_68 ?_
      refine lv_imul hx hb dX6_digest_69 ?_
      refine lv_icmp_ge (tgt := 96) hx hb dX6_digest_70 (by decide) (fun c17 => ?_) (fun c17 => ?_)
      · have h := if_t c17 h
        cases some_i h
        exact kx _ _ _ hP hD hS (lv_sub hl [0] rfl)
      · have h := if_f c17 h
        refine lv_aload_n hx hb dX6_digest_73 rfl (lv_at hl 0 rfl) ?_
        refine lv_aload_n hx hb dX6_digest_74 rfl (lv_at hl 0 rfl) ?_
        refine lv_iload_n hx hb dX6_digest_75 rfl (lv_at hl 1 rfl) ?_
        refine lv_bipush (v := 10) hx hb dX6_digest_76 (by decide) ?_
        refine lv_idiv hx hb dX6_digest_78 (by decide) ?_
        refine lv_iload_n hx hb dX6_digest_79 rfl (lv_at hl 1 rfl) ?_
        refine lv_bipush (v := 10) hx hb dX6_digest_80 (by decide) ?_
        refine lv_irem hx hb dX6_digest_82 (by decide) ?_
        obtain ⟨r18, mo19, kr18, h⟩ := bd2_ex h
        refine aft_w (st1 := [.int r18, .ref (a 0)]) rfl (runV (As := [.int (v1_14 / (10 : Int32)), .int (v1_14 - v1_14 / (10 : Int32) * (10 : Int32))]) (rest := [.ref (a 0)]) ⟨hx, hb, hml, hown, hts⟩ (kX6_tellsWord l g a kr18) (cwV 2 hts gX6_digest_X6_tellsWord rfl rfl rfl hdX6_tellsWord ⟨Nat.le_of_ble_eq_true rfl, Nat.le_of_ble_eq_true rfl⟩) hK hN hP hD (va_recv hK hP (ci := 6) (q0 := 0) rfl rfl) rfl hl.1 rfl (Nat.le_of_ble_eq_true rfl) dX6_digest_83 ⟨Nat.zero_le _, Nat.zero_le _⟩) hD hS hA (fun H locs hP hD hS => ?_)
        refine lv_i2l (v := (r18.toInt64)) hx hb dX6_digest_86 rfl ?_
        obtain ⟨mo20, kmo20, h⟩ := bd_ex h
        refine aft_w (st1 := []) rfl (runV (As := [.long (r18.toInt64)]) (rest := []) ⟨hx, hb, hml, hown, hts⟩ (kX6_mix l g a kmo20) (cwV 1 hts gX6_digest_X6_mix rfl rfl rfl hdX6_mix ⟨Nat.le_of_ble_eq_true rfl, Nat.le_of_ble_eq_true rfl⟩) hK hN hP hD (va_recv hK hP (ci := 6) (q0 := 0) rfl rfl) rfl hl.1 rfl (Nat.le_of_ble_eq_true rfl) dX6_digest_87 ⟨Nat.zero_le _, Nat.zero_le _⟩) hD hS hA (fun H locs hP hD hS => ?_)
        obtain ⟨x21, ex21, h⟩ := pl_ex h
        refine lv_iinc (v := x21) (lv' := [(1, .int x21), (0, .ref (a 0))]) hx hb dX6_digest_90 hl (k := 1) rfl (by rw [← ex21]; rfl) (by decide) rfl (fun ls hl => ?_)
        refine lv_goto (tgt := 60) hx hb dX6_digest_93 (by decide) ?_
        exact ih x21 mo20 _ _ _ _ h hP hD hS (lv_sub hl [1, 0] rfl) kx
  obtain ⟨mo22, kmo22, h⟩ := bd_ex h
  refine L60 1000 (0 : Int32) mo13 mo22 _ _ _ kmo22 hP hD hS (lv_sub hl [1, 0] rfl) (fun H locs ls hP hD hS hl => ?_)
  refine lv_iconst (v := 0) hx hb dX6_digest_96 (by decide) ?_
  refine lv_istore_n (lv' := [(1, .int (0 : Int32)), (0, .ref (a 0))]) hx hb dX6_digest_97 rfl hl (by decide) rfl (fun ls hl => ?_)
  have L98 : ∀ (n : Nat) (v1_23 : Int32) (mo24 : Mo) (mo25 : Mo) (H : Heap) (locs : List Loc) (ls : Array Slot), fX6_digest_L98 n v1_23 mo24 = some mo25 → va_P g.1 vwCl (cMo g a mo24) H → va_D A (cMo g a mo24) → va_S A su.heap H locs → lv_has ls 2 [(0, .ref (a 0)), (1, .int v1_23)] → (∀ (H : Heap) (locs : List Loc) (ls : Array Slot), va_P g.1 vwCl (cMo g a mo25) H → va_D A (cMo g a mo25) → va_S A su.heap H locs → lv_has ls 2 [(0, .ref (a 0))] → W p l e rX6_digest su m args below meth c H locs 0 0 Q (F0 m 127 ls [])) → W p l e rX6_digest su m args below meth c H locs 0 0 Q (F0 m 98 ls []) := by
    intro n
    induction n with
    | zero => intro v1_23 mo24 mo25 H locs ls h hP hD hS hl kx; cases h
    | succ n ih =>
      intro v1_23 mo24 mo25 H locs ls h hP hD hS hl kx
      rw [fX6_digest_L98] at h
      refine lv_iload_n hx hb dX6_digest_98 rfl (lv_at hl 1 rfl) ?_
      refine lv_bipush (v := 30) hx hb dX6_digest_99 (by decide) ?_
      refine lv_icmp_ge (tgt := 127) hx hb dX6_digest_101 (by decide) (fun c26 => ?_) (fun c26 => ?_)
      · have h := if_t c26 h
        cases some_i h
        exact kx _ _ _ hP hD hS (lv_sub hl [0] rfl)
      · have h := if_f c26 h
        refine lv_aload_n hx hb dX6_digest_104 rfl (lv_at hl 0 rfl) ?_
        refine lv_aload_n hx hb dX6_digest_105 rfl (lv_at hl 0 rfl) ?_
        refine lv_iload_n hx hb dX6_digest_106 rfl (lv_at hl 1 rfl) ?_
        refine lv_bipush (v := 10) hx hb dX6_digest_107 (by decide) ?_
        refine lv_idiv hx hb dX6_digest_109 (by decide) ?_
        refine lv_iload_n hx hb dX6_digest_110 rfl (lv_at hl 1 rfl) ?_
        refine lv_bipush (v := 10) hx hb dX6_digest_111 (by decide) ?_
        refine lv_irem hx hb dX6_digest_113 (by decide) ?_
        obtain ⟨r27, mo28, kr27, h⟩ := bd2_ex h
        refine aft_w (st1 := [.int r27, .ref (a 0)]) rfl (runV (As := [.int (v1_23 / (10 : Int32)), .int (v1_23 - v1_23 / (10 : Int32) * (10 : Int32))]) (rest := [.ref (a 0)]) ⟨hx, hb, hml, hown, hts⟩ (kX6_tellsClimber l g a kr27) (cwV 2 hts gX6_digest_X6_tellsClimber rfl rfl rfl hdX6_tellsClimber ⟨Nat.le_of_ble_eq_true rfl, Nat.le_of_ble_eq_true rfl⟩) hK hN hP hD (va_recv hK hP (ci := 6) (q0 := 0) rfl rfl) rfl hl.1 rfl (Nat.le_of_ble_eq_true rfl) dX6_digest_114 ⟨Nat.zero_le _, Nat.zero_le _⟩) hD hS hA (fun H locs hP hD hS => ?_)
        refine lv_i2l (v := (r27.toInt64)) hx hb dX6_digest_117 rfl ?_
        obtain ⟨mo29, kmo29, h⟩ := bd_ex h
        refine aft_w (st1 := []) rfl (runV (As := [.long (r27.toInt64)]) (rest := []) ⟨hx, hb, hml, hown, hts⟩ (kX6_mix l g a kmo29) (cwV 1 hts gX6_digest_X6_mix rfl rfl rfl hdX6_mix ⟨Nat.le_of_ble_eq_true rfl, Nat.le_of_ble_eq_true rfl⟩) hK hN hP hD (va_recv hK hP (ci := 6) (q0 := 0) rfl rfl) rfl hl.1 rfl (Nat.le_of_ble_eq_true rfl) dX6_digest_118 ⟨Nat.zero_le _, Nat.zero_le _⟩) hD hS hA (fun H locs hP hD hS => ?_)
        obtain ⟨x30, ex30, h⟩ := pl_ex h
        refine lv_iinc (v := x30) (lv' := [(1, .int x30), (0, .ref (a 0))]) hx hb dX6_digest_121 hl (k := 1) rfl (by rw [← ex30]; rfl) (by decide) rfl (fun ls hl => ?_)
        refine lv_goto (tgt := 98) hx hb dX6_digest_124 (by decide) ?_
        exact ih x30 mo29 _ _ _ _ h hP hD hS (lv_sub hl [1, 0] rfl) kx
  obtain ⟨mo31, kmo31, h⟩ := bd_ex h
  refine L98 1000 (0 : Int32) mo22 mo31 _ _ _ kmo31 hP hD hS (lv_sub hl [1, 0] rfl) (fun H locs ls hP hD hS hl => ?_)
  refine lv_iconst (v := 0) hx hb dX6_digest_127 (by decide) ?_
  refine lv_istore_n (lv' := [(1, .int (0 : Int32)), (0, .ref (a 0))]) hx hb dX6_digest_128 rfl hl (by decide) rfl (fun ls hl => ?_)
  have L129 : ∀ (n : Nat) (v1_32 : Int32) (mo33 : Mo) (mo34 : Mo) (H : Heap) (locs : List Loc) (ls : Array Slot), fX6_digest_L129 n v1_32 mo33 = some mo34 → va_P g.1 vwCl (cMo g a mo33) H → va_D A (cMo g a mo33) → va_S A su.heap H locs → lv_has ls 2 [(0, .ref (a 0)), (1, .int v1_32)] → (∀ (H : Heap) (locs : List Loc) (ls : Array Slot), va_P g.1 vwCl (cMo g a mo34) H → va_D A (cMo g a mo34) → va_S A su.heap H locs → lv_has ls 2 [(0, .ref (a 0))] → W p l e rX6_digest su m args below meth c H locs 0 0 Q (F0 m 156 ls [])) → W p l e rX6_digest su m args below meth c H locs 0 0 Q (F0 m 129 ls []) := by
    intro n
    induction n with
    | zero => intro v1_32 mo33 mo34 H locs ls h hP hD hS hl kx; cases h
    | succ n ih =>
      intro v1_32 mo33 mo34 H locs ls h hP hD hS hl kx
      rw [fX6_digest_L129] at h
      refine lv_iload_n hx hb dX6_digest_129 rfl (lv_at hl 1 rfl) ?_
      refine lv_aload_n hx hb dX6_digest_130 rfl (lv_at hl 0 rfl) ?_
      refine va_get (D := g.1) (ci := 6) (v := .ref (a 1)) (C := RX6) (T := TX6) (N := 15) hx hb hts hinX6 hown hK hP 0 rfl rfl 1 (by decide) (hts (.fieldLink RX6 7 "BarredRungsModel" "state" "[I") (List.mem_of_getElem? (i := 4) rfl)) (fun _ h9 => h9) rfl dX6_digest_131 ?_
      refine lv_iconst (v := 0) hx hb dX6_digest_134 (by decide) ?_
      obtain ⟨hi9, h⟩ := ck_ex h
      refine va_iald hx hb hK hP 1 0 rfl rfl (inb_in hi9) dX6_digest_135 ?_
      refine lv_icmp_ge (tgt := 156) hx hb dX6_digest_136 (by decide) (fun c35 => ?_) (fun c35 => ?_)
      · have h := if_t c35 h
        cases some_i h
        exact kx _ _ _ hP hD hS (lv_sub hl [0] rfl)
      · have h := if_f c35 h
        refine lv_aload_n hx hb dX6_digest_139 rfl (lv_at hl 0 rfl) ?_
        refine lv_aload_n hx hb dX6_digest_140 rfl (lv_at hl 0 rfl) ?_
        refine lv_iconst (v := 0) hx hb dX6_digest_141 (by decide) ?_
        refine lv_iload_n hx hb dX6_digest_142 rfl (lv_at hl 1 rfl) ?_
        obtain ⟨r36, mo37, kr36, h⟩ := bd2_ex h
        refine aft_w (st1 := [.int r36, .ref (a 0)]) rfl (runV (As := [.int (0 : Int32), .int v1_32]) (rest := [.ref (a 0)]) ⟨hx, hb, hml, hown, hts⟩ (kX6_tellsPlain l g a kr36) (cwV 2 hts gX6_digest_X6_tellsPlain rfl rfl rfl hdX6_tellsPlain ⟨Nat.le_of_ble_eq_true rfl, Nat.le_of_ble_eq_true rfl⟩) hK hN hP hD (va_recv hK hP (ci := 6) (q0 := 0) rfl rfl) rfl hl.1 rfl (Nat.le_of_ble_eq_true rfl) dX6_digest_143 ⟨Nat.zero_le _, Nat.zero_le _⟩) hD hS hA (fun H locs hP hD hS => ?_)
        refine lv_i2l (v := (r36.toInt64)) hx hb dX6_digest_146 rfl ?_
        obtain ⟨mo38, kmo38, h⟩ := bd_ex h
        refine aft_w (st1 := []) rfl (runV (As := [.long (r36.toInt64)]) (rest := []) ⟨hx, hb, hml, hown, hts⟩ (kX6_mix l g a kmo38) (cwV 1 hts gX6_digest_X6_mix rfl rfl rfl hdX6_mix ⟨Nat.le_of_ble_eq_true rfl, Nat.le_of_ble_eq_true rfl⟩) hK hN hP hD (va_recv hK hP (ci := 6) (q0 := 0) rfl rfl) rfl hl.1 rfl (Nat.le_of_ble_eq_true rfl) dX6_digest_147 ⟨Nat.zero_le _, Nat.zero_le _⟩) hD hS hA (fun H locs hP hD hS => ?_)
        obtain ⟨x39, ex39, h⟩ := pl_ex h
        refine lv_iinc (v := x39) (lv' := [(1, .int x39), (0, .ref (a 0))]) hx hb dX6_digest_150 hl (k := 1) rfl (by rw [← ex39]; rfl) (by decide) rfl (fun ls hl => ?_)
        refine lv_goto (tgt := 129) hx hb dX6_digest_153 (by decide) ?_
        exact ih x39 mo38 _ _ _ _ h hP hD hS (lv_sub hl [1, 0] rfl) kx
  obtain ⟨mo40, kmo40, h⟩ := bd_ex h
  refine L129 1000 (0 : Int32) mo31 mo40 _ _ _ kmo40 hP hD hS (lv_sub hl [1, 0] rfl) (fun H locs ls hP hD hS hl => ?_)
  refine lv_aload_n hx hb dX6_digest_156 rfl (lv_at hl 0 rfl) ?_
  refine lv_aload_n hx hb dX6_digest_157 rfl (lv_at hl 0 rfl) ?_
  obtain ⟨r41, mo42, kr41, h⟩ := bd2_ex h
  refine aft_w (st1 := [.int r41, .ref (a 0)]) rfl (runV (As := []) (rest := [.ref (a 0)]) ⟨hx, hb, hml, hown, hts⟩ (kX6_tellsSafest l g a kr41) (cwV 0 hts gX6_digest_X6_tellsSafest rfl rfl rfl hdX6_tellsSafest ⟨Nat.le_of_ble_eq_true rfl, Nat.le_of_ble_eq_true rfl⟩) hK hN hP hD (va_recv hK hP (ci := 6) (q0 := 0) rfl rfl) rfl hl.1 rfl (Nat.le_of_ble_eq_true rfl) dX6_digest_158 ⟨Nat.zero_le _, Nat.zero_le _⟩) hD hS hA (fun H locs hP hD hS => ?_)
  refine lv_i2l (v := (r41.toInt64)) hx hb dX6_digest_161 rfl ?_
  obtain ⟨mo43, kmo43, h⟩ := bd_ex h
  refine aft_w (st1 := []) rfl (runV (As := [.long (r41.toInt64)]) (rest := []) ⟨hx, hb, hml, hown, hts⟩ (kX6_mix l g a kmo43) (cwV 1 hts gX6_digest_X6_mix rfl rfl rfl hdX6_mix ⟨Nat.le_of_ble_eq_true rfl, Nat.le_of_ble_eq_true rfl⟩) hK hN hP hD (va_recv hK hP (ci := 6) (q0 := 0) rfl rfl) rfl hl.1 rfl (Nat.le_of_ble_eq_true rfl) dX6_digest_162 ⟨Nat.zero_le _, Nat.zero_le _⟩) hD hS hA (fun H locs hP hD hS => ?_)
  refine lv_aload_n hx hb dX6_digest_165 rfl (lv_at hl 0 rfl) ?_
  refine lv_aload_n hx hb dX6_digest_166 rfl (lv_at hl 0 rfl) ?_
  obtain ⟨r44, mo45, kr44, h⟩ := bd2_ex h
  refine aft_w (st1 := [.double r44, .ref (a 0)]) rfl (runV (As := []) (rest := [.ref (a 0)]) ⟨hx, hb, hml, hown, hts⟩ (kX6_share l g a kr44) (cwV 0 hts gX6_digest_X6_share rfl rfl rfl hdX6_share ⟨Nat.le_of_ble_eq_true rfl, Nat.le_of_ble_eq_true rfl⟩) hK hN hP hD (va_recv hK hP (ci := 6) (q0 := 0) rfl rfl) rfl hl.1 rfl (Nat.le_of_ble_eq_true rfl) dX6_digest_167 ⟨Nat.zero_le _, Nat.zero_le _⟩) hD hS hA (fun H locs hP hD hS => ?_)
  obtain ⟨r46, kr46, h⟩ := bd_ex h
  refine aft_e (st1 := [.long r46, .ref (a 0)]) rfl (runS (As := [.double r44]) (rest := [.ref (a 0)]) ⟨hx, hb, hml, hown, hts⟩ (kJxe99ae_doubleToLongBits_ccdee l g kr46) (va_cwS 1 hts gX6_digest_Jxe99ae_doubleToLongBits_ccdee rfl rfl rfl hdJxe99ae_doubleToLongBits_ccdee.2 ⟨Nat.le_of_ble_eq_true rfl, Nat.le_of_ble_eq_true rfl⟩) hK hN nilP (nilD (A := A)) rfl hl.1 rfl (Nat.le_of_ble_eq_true rfl) dX6_digest_170 ⟨Nat.zero_le _, Nat.zero_le _⟩) hP hS hA (fun H locs hP hS => ?_)
  obtain ⟨mo47, kmo47, h⟩ := bd_ex h
  refine aft_w (st1 := []) rfl (runV (As := [.long r46]) (rest := []) ⟨hx, hb, hml, hown, hts⟩ (kX6_mix l g a kmo47) (cwV 1 hts gX6_digest_X6_mix rfl rfl rfl hdX6_mix ⟨Nat.le_of_ble_eq_true rfl, Nat.le_of_ble_eq_true rfl⟩) hK hN hP hD (va_recv hK hP (ci := 6) (q0 := 0) rfl rfl) rfl hl.1 rfl (Nat.le_of_ble_eq_true rfl) dX6_digest_173 ⟨Nat.zero_le _, Nat.zero_le _⟩) hD hS hA (fun H locs hP hD hS => ?_)
  refine lv_aload_n hx hb dX6_digest_176 rfl (lv_at hl 0 rfl) ?_
  refine lv_aload_n hx hb dX6_digest_177 rfl (lv_at hl 0 rfl) ?_
  obtain ⟨r48, kr48, h⟩ := bd_ex h
  refine aft_w (st1 := [.float r48, .ref (a 0)]) rfl (runV (As := []) (rest := [.ref (a 0)]) ⟨hx, hb, hml, hown, hts⟩ (kX6_mean l g a kr48) (cwV 0 hts gX6_digest_X6_mean rfl rfl rfl hdX6_mean ⟨Nat.le_of_ble_eq_true rfl, Nat.le_of_ble_eq_true rfl⟩) hK hN hP hD (va_recv hK hP (ci := 6) (q0 := 0) rfl rfl) rfl hl.1 rfl (Nat.le_of_ble_eq_true rfl) dX6_digest_178 ⟨Nat.zero_le _, Nat.zero_le _⟩) hD hS hA (fun H locs hP hD hS => ?_)
  obtain ⟨r49, kr49, h⟩ := bd_ex h
  refine aft_e (st1 := [.int r49, .ref (a 0)]) rfl (runS (As := [.float r48]) (rest := [.ref (a 0)]) ⟨hx, hb, hml, hown, hts⟩ (kJxf58ca_floatToIntBits_5c35a l g kr49) (va_cwS 1 hts gX6_digest_Jxf58ca_floatToIntBits_5c35a rfl rfl rfl hdJxf58ca_floatToIntBits_5c35a.2 ⟨Nat.le_of_ble_eq_true rfl, Nat.le_of_ble_eq_true rfl⟩) hK hN nilP (nilD (A := A)) rfl hl.1 rfl (Nat.le_of_ble_eq_true rfl) dX6_digest_181 ⟨Nat.zero_le _, Nat.zero_le _⟩) hP hS hA (fun H locs hP hS => ?_)
  refine lv_i2l (v := (r49.toInt64)) hx hb dX6_digest_184 rfl ?_
  obtain ⟨mo50, kmo50, h⟩ := bd_ex h
  refine aft_w (st1 := []) rfl (runV (As := [.long (r49.toInt64)]) (rest := []) ⟨hx, hb, hml, hown, hts⟩ (kX6_mix l g a kmo50) (cwV 1 hts gX6_digest_X6_mix rfl rfl rfl hdX6_mix ⟨Nat.le_of_ble_eq_true rfl, Nat.le_of_ble_eq_true rfl⟩) hK hN hP hD (va_recv hK hP (ci := 6) (q0 := 0) rfl rfl) rfl hl.1 rfl (Nat.le_of_ble_eq_true rfl) dX6_digest_185 ⟨Nat.zero_le _, Nat.zero_le _⟩) hD hS hA (fun H locs hP hD hS => ?_)
  refine lv_aload_n hx hb dX6_digest_188 rfl (lv_at hl 0 rfl) ?_
  refine lv_aload_n hx hb dX6_digest_189 rfl (lv_at hl 0 rfl) ?_
  refine va_get (D := g.1) (ci := 6) (v := .int (Mo_hasSnapshot mo50)) (C := RX6) (T := TX6) (N := 15) hx hb hts hinX6 hown hK hP 0 rfl rfl 5 (by decide) (hts (.fieldLink RX6 44 "BarredRungsModel" "hasSnapshot" "Z") (List.mem_of_getElem? (i := 5) rfl)) (fun _ h9 => h9) rfl dX6_digest_190 ?_
  refine lv_if_eq (tgt := 200) hx hb dX6_digest_193 (by decide) (fun c51 => ?_) (fun c51 => ?_)
  · have h := if_t c51 h
    refine lv_lconst (v := 0) hx hb dX6_digest_200 rfl ?_
    obtain ⟨mo52, kmo52, h⟩ := bd_ex h
    refine aft_w (st1 := []) rfl (runV (As := [.long (0 : Int64)]) (rest := []) ⟨hx, hb, hml, hown, hts⟩ (kX6_mix l g a kmo52) (cwV 1 hts gX6_digest_X6_mix rfl rfl rfl hdX6_mix ⟨Nat.le_of_ble_eq_true rfl, Nat.le_of_ble_eq_true rfl⟩) hK hN hP hD (va_recv hK hP (ci := 6) (q0 := 0) rfl rfl) rfl hl.1 rfl (Nat.le_of_ble_eq_true rfl) dX6_digest_201 ⟨Nat.zero_le _, Nat.zero_le _⟩) hD hS hA (fun H locs hP hD hS => ?_)
    refine lv_aload_n hx hb dX6_digest_204 rfl (lv_at hl 0 rfl) ?_
    refine lv_aload_n hx hb dX6_digest_205 rfl (lv_at hl 0 rfl) ?_
    refine va_get (D := g.1) (ci := 6) (v := .int (Mo_length mo52)) (C := RX6) (T := TX6) (N := 15) hx hb hts hinX6 hown hK hP 0 rfl rfl 7 (by decide) (hts (.fieldLink RX6 127 "BarredRungsModel" "length" "I") (List.mem_of_getElem? (i := 6) rfl)) (fun _ h9 => h9) rfl dX6_digest_206 ?_
    refine lv_i2l (v := ((Mo_length mo52).toInt64)) hx hb dX6_digest_209 rfl ?_
    obtain ⟨mo53, kmo53, h⟩ := bd_ex h
    refine aft_w (st1 := []) rfl (runV (As := [.long ((Mo_length mo52).toInt64)]) (rest := []) ⟨hx, hb, hml, hown, hts⟩ (kX6_mix l g a kmo53) (cwV 1 hts gX6_digest_X6_mix rfl rfl rfl hdX6_mix ⟨Nat.le_of_ble_eq_true rfl, Nat.le_of_ble_eq_true rfl⟩) hK hN hP hD (va_recv hK hP (ci := 6) (q0 := 0) rfl rfl) rfl hl.1 rfl (Nat.le_of_ble_eq_true rfl) dX6_digest_210 ⟨Nat.zero_le _, Nat.zero_le _⟩) hD hS hA (fun H locs hP hD hS => ?_)
    refine lv_iconst (v := 0) hx hb dX6_digest_213 (by decide) ?_
    refine lv_istore_n (lv' := [(1, .int (0 : Int32)), (0, .ref (a 0))]) hx hb dX6_digest_214 rfl hl (by decide) rfl (fun ls hl => ?_)
    have L215 : ∀ (n : Nat) (v1_54 : Int32) (mo55 : Mo) (mo56 : Mo) (H : Heap) (locs : List Loc) (ls : Array Slot), fX6_digest_L215 n v1_54 mo55 = some mo56 → va_P g.1 vwCl (cMo g a mo55) H → va_D A (cMo g a mo55) → va_S A su.heap H locs → lv_has ls 2 [(0, .ref (a 0)), (1, .int v1_54)] → (∀ (H : Heap) (locs : List Loc) (ls : Array Slot), va_P g.1 vwCl (cMo g a mo56) H → va_D A (cMo g a mo56) → va_S A su.heap H locs → lv_has ls 2 [(0, .ref (a 0))] → W p l e rX6_digest su m args below meth c H locs 0 0 Q (F0 m 240 ls [])) → W p l e rX6_digest su m args below meth c H locs 0 0 Q (F0 m 215 ls []) := by
      intro n
      induction n with
      | zero => intro v1_54 mo55 mo56 H locs ls h hP hD hS hl kx; cases h
      | succ n ih =>
        intro v1_54 mo55 mo56 H locs ls h hP hD hS hl kx
        rw [fX6_digest_L215] at h
        refine lv_iload_n hx hb dX6_digest_215 rfl (lv_at hl 1 rfl) ?_
        refine lv_aload_n hx hb dX6_digest_216 rfl (lv_at hl 0 rfl) ?_
        refine va_get (D := g.1) (ci := 6) (v := .int (Mo_length mo55)) (C := RX6) (T := TX6) (N := 15) hx hb hts hinX6 hown hK hP 0 rfl rfl 7 (by decide) (hts (.fieldLink RX6 127 "BarredRungsModel" "length" "I") (List.mem_of_getElem? (i := 6) rfl)) (fun _ h9 => h9) rfl dX6_digest_217 ?_
        refine lv_icmp_ge (tgt := 240) hx hb dX6_digest_220 (by decide) (fun c57 => ?_) (fun c57 => ?_)
        · have h := if_t c57 h
          cases some_i h
          exact kx _ _ _ hP hD hS (lv_sub hl [0] rfl)
        · have h := if_f c57 h
          refine lv_aload_n hx hb dX6_digest_223 rfl (lv_at hl 0 rfl) ?_
          refine lv_aload_n hx hb dX6_digest_224 rfl (lv_at hl 0 rfl) ?_
          refine va_get (D := g.1) (ci := 6) (v := .ref (a 4)) (C := RX6) (T := TX6) (N := 15) hx hb hts hinX6 hown hK hP 0 rfl rfl 6 (by decide) (hts (.fieldLink RX6 19 "BarredRungsModel" "buffer" "[I") (List.mem_of_getElem? (i := 7) rfl)) (fun _ h9 => h9) rfl dX6_digest_225 ?_
          refine lv_iload_n hx hb dX6_digest_228 rfl (lv_at hl 1 rfl) ?_
          obtain ⟨hi9, h⟩ := ck_ex h
          refine va_iald hx hb hK hP 4 0 rfl rfl (inb_in hi9) dX6_digest_229 ?_
          refine lv_i2l (v := ((Mo_buffer mo55 v1_54.toNatClampNeg).toInt64)) hx hb dX6_digest_230 rfl ?_
          obtain ⟨mo58, kmo58, h⟩ := bd_ex h
          refine aft_w (st1 := []) rfl (runV (As := [.long ((Mo_buffer mo55 v1_54.toNatClampNeg).toInt64)]) (rest := []) ⟨hx, hb, hml, hown, hts⟩ (kX6_mix l g a kmo58) (cwV 1 hts gX6_digest_X6_mix rfl rfl rfl hdX6_mix ⟨Nat.le_of_ble_eq_true rfl, Nat.le_of_ble_eq_true rfl⟩) hK hN hP hD (va_recv hK hP (ci := 6) (q0 := 0) rfl rfl) rfl hl.1 rfl (Nat.le_of_ble_eq_true rfl) dX6_digest_231 ⟨Nat.zero_le _, Nat.zero_le _⟩) hD hS hA (fun H locs hP hD hS => ?_)
          obtain ⟨x59, ex59, h⟩ := pl_ex h
          refine lv_iinc (v := x59) (lv' := [(1, .int x59), (0, .ref (a 0))]) hx hb dX6_digest_234 hl (k := 1) rfl (by rw [← ex59]; rfl) (by decide) rfl (fun ls hl => ?_)
          refine lv_goto (tgt := 215) hx hb dX6_digest_237 (by decide) ?_
          exact ih x59 mo58 _ _ _ _ h hP hD hS (lv_sub hl [1, 0] rfl) kx
    obtain ⟨mo60, kmo60, h⟩ := bd_ex h
    refine L215 1000 (0 : Int32) mo53 mo60 _ _ _ kmo60 hP hD hS (lv_sub hl [1, 0] rfl) (fun H locs ls hP hD hS hl => ?_)
    refine lv_aload_n hx hb dX6_digest_240 rfl (lv_at hl 0 rfl) ?_
    refine va_get (D := g.1) (ci := 6) (v := .long (Mo_hash mo60)) (C := RX6) (T := TX6) (N := 15) hx hb hts hinX6 hown hK hP 0 rfl rfl 14 (by decide) (hts (.fieldLink RX6 218 "BarredRungsModel" "hash" "J") (List.mem_of_getElem? (i := 3) rfl)) (fun _ h9 => h9) rfl dX6_digest_241 ?_
    cases some_i h
    exact hend _ _ _ _ _ hP hD hS (RetOK.l dX6_digest_244)
  · have h := if_f c51 h
    refine lv_lconst (v := 1) hx hb dX6_digest_196 rfl ?_
    refine lv_goto (tgt := 201) hx hb dX6_digest_197 (by decide) ?_
    obtain ⟨mo61, kmo61, h⟩ := bd_ex h
    refine aft_w (st1 := []) rfl (runV (As := [.long (1 : Int64)]) (rest := []) ⟨hx, hb, hml, hown, hts⟩ (kX6_mix l g a kmo61) (cwV 1 hts gX6_digest_X6_mix rfl rfl rfl hdX6_mix ⟨Nat.le_of_ble_eq_true rfl, Nat.le_of_ble_eq_true rfl⟩) hK hN hP hD (va_recv hK hP (ci := 6) (q0 := 0) rfl rfl) rfl hl.1 rfl (Nat.le_of_ble_eq_true rfl) dX6_digest_201 ⟨Nat.zero_le _, Nat.zero_le _⟩) hD hS hA (fun H locs hP hD hS => ?_)
    refine lv_aload_n hx hb dX6_digest_204 rfl (lv_at hl 0 rfl) ?_
    refine lv_aload_n hx hb dX6_digest_205 rfl (lv_at hl 0 rfl) ?_
    refine va_get (D := g.1) (ci := 6) (v := .int (Mo_length mo61)) (C := RX6) (T := TX6) (N := 15) hx hb hts hinX6 hown hK hP 0 rfl rfl 7 (by decide) (hts (.fieldLink RX6 127 "BarredRungsModel" "length" "I") (List.mem_of_getElem? (i := 6) rfl)) (fun _ h9 => h9) rfl dX6_digest_206 ?_
    refine lv_i2l (v := ((Mo_length mo61).toInt64)) hx hb dX6_digest_209 rfl ?_
    obtain ⟨mo62, kmo62, h⟩ := bd_ex h
    refine aft_w (st1 := []) rfl (runV (As := [.long ((Mo_length mo61).toInt64)]) (rest := []) ⟨hx, hb, hml, hown, hts⟩ (kX6_mix l g a kmo62) (cwV 1 hts gX6_digest_X6_mix rfl rfl rfl hdX6_mix ⟨Nat.le_of_ble_eq_true rfl, Nat.le_of_ble_eq_true rfl⟩) hK hN hP hD (va_recv hK hP (ci := 6) (q0 := 0) rfl rfl) rfl hl.1 rfl (Nat.le_of_ble_eq_true rfl) dX6_digest_210 ⟨Nat.zero_le _, Nat.zero_le _⟩) hD hS hA (fun H locs hP hD hS => ?_)
    refine lv_iconst (v := 0) hx hb dX6_digest_213 (by decide) ?_
    refine lv_istore_n (lv' := [(1, .int (0 : Int32)), (0, .ref (a 0))]) hx hb dX6_digest_214 rfl hl (by decide) rfl (fun ls hl => ?_)
    have L215 : ∀ (n : Nat) (v1_63 : Int32) (mo64 : Mo) (mo65 : Mo) (H : Heap) (locs : List Loc) (ls : Array Slot), fX6_digest_L215 n v1_63 mo64 = some mo65 → va_P g.1 vwCl (cMo g a mo64) H → va_D A (cMo g a mo64) → va_S A su.heap H locs → lv_has ls 2 [(0, .ref (a 0)), (1, .int v1_63)] → (∀ (H : Heap) (locs : List Loc) (ls : Array Slot), va_P g.1 vwCl (cMo g a mo65) H → va_D A (cMo g a mo65) → va_S A su.heap H locs → lv_has ls 2 [(0, .ref (a 0))] → W p l e rX6_digest su m args below meth c H locs 0 0 Q (F0 m 240 ls [])) → W p l e rX6_digest su m args below meth c H locs 0 0 Q (F0 m 215 ls []) := by
      intro n
      induction n with
      | zero => intro v1_63 mo64 mo65 H locs ls h hP hD hS hl kx; cases h
      | succ n ih =>
        intro v1_63 mo64 mo65 H locs ls h hP hD hS hl kx
        rw [fX6_digest_L215] at h
        refine lv_iload_n hx hb dX6_digest_215 rfl (lv_at hl 1 rfl) ?_
        refine lv_aload_n hx hb dX6_digest_216 rfl (lv_at hl 0 rfl) ?_
        refine va_get (D := g.1) (ci := 6) (v := .int (Mo_length mo64)) (C := RX6) (T := TX6) (N := 15) hx hb hts hinX6 hown hK hP 0 rfl rfl 7 (by decide) (hts (.fieldLink RX6 127 "BarredRungsModel" "length" "I") (List.mem_of_getElem? (i := 6) rfl)) (fun _ h9 => h9) rfl dX6_digest_217 ?_
        refine lv_icmp_ge (tgt := 240) hx hb dX6_digest_220 (by decide) (fun c66 => ?_) (fun c66 => ?_)
        · have h := if_t c66 h
          cases some_i h
          exact kx _ _ _ hP hD hS (lv_sub hl [0] rfl)
        · have h := if_f c66 h
          refine lv_aload_n hx hb dX6_digest_223 rfl (lv_at hl 0 rfl) ?_
          refine lv_aload_n hx hb dX6_digest_224 rfl (lv_at hl 0 rfl) ?_
          refine va_get (D := g.1) (ci := 6) (v := .ref (a 4)) (C := RX6) (T := TX6) (N := 15) hx hb hts hinX6 hown hK hP 0 rfl rfl 6 (by decide) (hts (.fieldLink RX6 19 "BarredRungsModel" "buffer" "[I") (List.mem_of_getElem? (i := 7) rfl)) (fun _ h9 => h9) rfl dX6_digest_225 ?_
          refine lv_iload_n hx hb dX6_digest_228 rfl (lv_at hl 1 rfl) ?_
          obtain ⟨hi9, h⟩ := ck_ex h
          refine va_iald hx hb hK hP 4 0 rfl rfl (inb_in hi9) dX6_digest_229 ?_
          refine lv_i2l (v := ((Mo_buffer mo64 v1_63.toNatClampNeg).toInt64)) hx hb dX6_digest_230 rfl ?_
          obtain ⟨mo67, kmo67, h⟩ := bd_ex h
          refine aft_w (st1 := []) rfl (runV (As := [.long ((Mo_buffer mo64 v1_63.toNatClampNeg).toInt64)]) (rest := []) ⟨hx, hb, hml, hown, hts⟩ (kX6_mix l g a kmo67) (cwV 1 hts gX6_digest_X6_mix rfl rfl rfl hdX6_mix ⟨Nat.le_of_ble_eq_true rfl, Nat.le_of_ble_eq_true rfl⟩) hK hN hP hD (va_recv hK hP (ci := 6) (q0 := 0) rfl rfl) rfl hl.1 rfl (Nat.le_of_ble_eq_true rfl) dX6_digest_231 ⟨Nat.zero_le _, Nat.zero_le _⟩) hD hS hA (fun H locs hP hD hS => ?_)
          obtain ⟨x68, ex68, h⟩ := pl_ex h
          refine lv_iinc (v := x68) (lv' := [(1, .int x68), (0, .ref (a 0))]) hx hb dX6_digest_234 hl (k := 1) rfl (by rw [← ex68]; rfl) (by decide) rfl (fun ls hl => ?_)
          refine lv_goto (tgt := 215) hx hb dX6_digest_237 (by decide) ?_
          exact ih x68 mo67 _ _ _ _ h hP hD hS (lv_sub hl [1, 0] rfl) kx
    obtain ⟨mo69, kmo69, h⟩ := bd_ex h
    refine L215 1000 (0 : Int32) mo62 mo69 _ _ _ kmo69 hP hD hS (lv_sub hl [1, 0] rfl) (fun H locs ls hP hD hS hl => ?_)
    refine lv_aload_n hx hb dX6_digest_240 rfl (lv_at hl 0 rfl) ?_
    refine va_get (D := g.1) (ci := 6) (v := .long (Mo_hash mo69)) (C := RX6) (T := TX6) (N := 15) hx hb hts hinX6 hown hK hP 0 rfl rfl 14 (by decide) (hts (.fieldLink RX6 218 "BarredRungsModel" "hash" "J") (List.mem_of_getElem? (i := 3) rfl)) (fun _ h9 => h9) rfl dX6_digest_241 ?_
    cases some_i h
    exact hend _ _ _ _ _ hP hD hS (RetOK.l dX6_digest_244)
def fX6_passes_L42 : Nat → Int32 → Int32 → Mo → Option (Int32 × Mo)
  | 0, _, _, _ => none
  | n + 1, v1_6, v2_7, mo8 =>
    (if (3 : Int32) ≤ v2_7 then
    (some (v1_6, mo8))
    else
    (bd (fX6_setOf mo8 v2_7 (3 : Int32) (0 : Int32)) fun (mo12 : Mo) =>
    (bd (fX6_of mo12 v2_7 (0 : Int32)) fun (r13 : Int32) =>
    (if r13 = (-1 : Int32) then
    (pl ((v2_7 + (1 : Int32))) fun (x15 : Int32) =>
    (fX6_passes_L42 n v1_6 x15 mo12))
    else
    (bd (fX6_of mo12 v2_7 (0 : Int32)) fun (r16 : Int32) =>
    (bd2 (fX6_isBarred mo12 r16) fun (r17 : Int32) (mo18 : Mo) =>
    (if r17 = (0 : Int32) then
    (pl ((v2_7 + (1 : Int32))) fun (x20 : Int32) =>
    (fX6_passes_L42 n v1_6 x20 mo18))
    else
    (bd (fX6_takeOff mo18 v2_7) fun (mo21 : Mo) =>
    (bd (fX6_of mo21 v2_7 (6 : Int32)) fun (r22 : Int32) =>
    (bd (fX6_setOf mo21 v2_7 (6 : Int32) (r22 + (1 : Int32))) fun (mo23 : Mo) =>
    (pl ((v1_6 + (1 : Int32))) fun (x24 : Int32) =>
    (pl ((v2_7 + (1 : Int32))) fun (x25 : Int32) =>
    (fX6_passes_L42 n x24 x25 mo23)))))))))))))
def fX6_passes (mo : Mo) : Option (Int32 × Mo) :=
(bd (fX6_barNow mo) fun (mo1 : Mo) =>
(bd (fX6_moveBar mo1) fun (mo2 : Mo) =>
(ck (inb (1 : Int32) 55)
(pl (Mo_set_state mo2 (upd (Mo_state mo2) (1 : Int32).toNatClampNeg (Mo_place mo2))) fun (mo3 : Mo) =>
(ck (inb (2 : Int32) 55)
(pl (Mo_set_state mo3 (upd (Mo_state mo3) (2 : Int32).toNatClampNeg (Mo_letter mo3))) fun (mo4 : Mo) =>
(ck (inb (5 : Int32) 55)
(ck (inb (5 : Int32) 55)
(pl (Mo_set_state mo4 (upd (Mo_state mo4) (5 : Int32).toNatClampNeg ((Mo_state mo4 (5 : Int32).toNatClampNeg) + (1 : Int32)))) fun (mo5 : Mo) =>
(bd2 (fX6_passes_L42 1000 (0 : Int32) (0 : Int32) mo5) fun (v1_26 : Int32) (mo27 : Mo) =>
(ck (inb (8 : Int32) 55)
(ck (inb (8 : Int32) 55)
(pl (Mo_set_state mo27 (upd (Mo_state mo27) (8 : Int32).toNatClampNeg ((Mo_state mo27 (8 : Int32).toNatClampNeg) + v1_26))) fun (mo28 : Mo) =>
(some (v1_26, mo28)))))))))))))))
abbrev rX6_passes : Room := { frames := 4, cells := 0, slots := 0, locals := 86 }
theorem hdX6_passes : yX6_passes.cls = RX6 ∧ yX6_passes.cls ≠ "java/lang/invoke/MethodHandle" ∧ yX6_passes.cls ≠ "java/lang/invoke/VarHandle" ∧ (parseMethodDescriptor yX6_passes.desc).map (fun d => d.parameters.length) = some 0 := by decide +kernel
set_option maxRecDepth 100000 in
set_option maxHeartbeats 8000000 in
theorem kX6_passes (l : Launch) (g : GG) (a : Nat → Nat) {mo : Mo} {res : Int32} {mo' : Mo} (h : fX6_passes mo = some (res, mo')) : Cg l g yX6_passes wsX6_passes rX6_passes [.ref (a 0)] (cMo g a mo) (some (.int res)) (cMo g a mo') := by
  refine Cg_of (cc := cX6_passes) (maxL := 3) (ret := (some .int)) (by decide +kernel) rfl (Nat.le_of_ble_eq_true rfl) ?_
  intro p e su m args below meth c A Q ls hx hb hml hown hts hK hN hA hnm hP hD hS hl hend
  have hinX6 : ∀ w ∈ u_ws RX6 TX6 15, w ∈ wsX6_passes := fun _ h9 => List.mem_cons_of_mem _ (List.mem_append_right _ h9)
  unfold fX6_passes at h
  have hl : lv_has ls 3 [(0, .ref (a 0))] := hl
  refine lv_aload_n hx hb dX6_passes_0 rfl (lv_at hl 0 rfl) ?_
  obtain ⟨mo1, kmo1, h⟩ := bd_ex h
  refine aft_w (st1 := []) rfl (runV (As := []) (rest := []) ⟨hx, hb, hml, hown, hts⟩ (kX6_barNow l g a kmo1) (cwV 0 hts gX6_passes_X6_barNow rfl rfl rfl hdX6_barNow ⟨Nat.le_of_ble_eq_true rfl, Nat.le_of_ble_eq_true rfl⟩) hK hN hP hD (va_recv hK hP (ci := 6) (q0 := 0) rfl rfl) rfl hl.1 rfl (Nat.le_of_ble_eq_true rfl) dX6_passes_1 ⟨Nat.zero_le _, Nat.zero_le _⟩) hD hS hA (fun H locs hP hD hS => ?_)
  refine lv_aload_n hx hb dX6_passes_4 rfl (lv_at hl 0 rfl) ?_
  obtain ⟨mo2, kmo2, h⟩ := bd_ex h
  refine aft_w (st1 := []) rfl (runV (As := []) (rest := []) ⟨hx, hb, hml, hown, hts⟩ (kX6_moveBar l g a kmo2) (cwV 0 hts gX6_passes_X6_moveBar rfl rfl rfl hdX6_moveBar ⟨Nat.le_of_ble_eq_true rfl, Nat.le_of_ble_eq_true rfl⟩) hK hN hP hD (va_recv hK hP (ci := 6) (q0 := 0) rfl rfl) rfl hl.1 rfl (Nat.le_of_ble_eq_true rfl) dX6_passes_5 ⟨Nat.zero_le _, Nat.zero_le _⟩) hD hS hA (fun H locs hP hD hS => ?_)
  refine lv_aload_n hx hb dX6_passes_8 rfl (lv_at hl 0 rfl) ?_
  refine va_get (D := g.1) (ci := 6) (v := .ref (a 1)) (C := RX6) (T := TX6) (N := 15) hx hb hts hinX6 hown hK hP 0 rfl rfl 1 (by decide) (hts (.fieldLink RX6 7 "BarredRungsModel" "state" "[I") (List.mem_of_getElem? (i := 1) rfl)) (fun _ h9 => h9) rfl dX6_passes_9 ?_
  refine lv_iconst (v := 1) hx hb dX6_passes_12 (by decide) ?_
  refine lv_aload_n hx hb dX6_passes_13 rfl (lv_at hl 0 rfl) ?_
  refine va_get (D := g.1) (ci := 6) (v := .int (Mo_place mo2)) (C := RX6) (T := TX6) (N := 15) hx hb hts hinX6 hown hK hP 0 rfl rfl 12 (by decide) (hts (.fieldLink RX6 65 "BarredRungsModel" "place" "I") (List.mem_of_getElem? (i := 2) rfl)) (fun _ h9 => h9) rfl dX6_passes_14 ?_
  obtain ⟨hi9, h⟩ := ck_ex h
  obtain ⟨mo3, emo3, h⟩ := pl_ex h
  refine va_iast hx hb hK hP hD hS 1 0 rfl rfl (inb_in hi9) dX6_passes_17 (fun H locs hP hD hS => ?_)
  have hP : va_P g.1 vwCl (cMo g a mo3) H := by rw [← emo3]; exact hP
  have hD : va_D A (cMo g a mo3) := by rw [← emo3]; exact hD
  refine lv_aload_n hx hb dX6_passes_18 rfl (lv_at hl 0 rfl) ?_
  refine va_get (D := g.1) (ci := 6) (v := .ref (a 1)) (C := RX6) (T := TX6) (N := 15) hx hb hts hinX6 hown hK hP 0 rfl rfl 1 (by decide) (hts (.fieldLink RX6 7 "BarredRungsModel" "state" "[I") (List.mem_of_getElem? (i := 1) rfl)) (fun _ h9 => h9) rfl dX6_passes_19 ?_
  refine lv_iconst (v := 2) hx hb dX6_passes_22 (by decide) ?_
  refine lv_aload_n hx hb dX6_passes_23 rfl (lv_at hl 0 rfl) ?_
  refine va_get (D := g.1) (ci := 6) (v := .int (Mo_letter mo3)) (C := RX6) (T := TX6) (N := 15) hx hb hts hinX6 hown hK hP 0 rfl rfl 13 (by decide) (hts (.fieldLink RX6 68 "BarredRungsModel" "letter" "I") (List.mem_of_getElem? (i := 3) rfl)) (fun _ h9 => h9) rfl dX6_passes_24 ?_
  obtain ⟨hi9, h⟩ := ck_ex h
  obtain ⟨mo4, emo4, h⟩ := pl_ex h
  refine va_iast hx hb hK hP hD hS 1 0 rfl rfl (inb_in hi9) dX6_passes_27 (fun H locs hP hD hS => ?_)
  have hP : va_P g.1 vwCl (cMo g a mo4) H := by rw [← emo4]; exact hP
  have hD : va_D A (cMo g a mo4) := by rw [← emo4]; exact hD
  refine lv_aload_n hx hb dX6_passes_28 rfl (lv_at hl 0 rfl) ?_
  refine va_get (D := g.1) (ci := 6) (v := .ref (a 1)) (C := RX6) (T := TX6) (N := 15) hx hb hts hinX6 hown hK hP 0 rfl rfl 1 (by decide) (hts (.fieldLink RX6 7 "BarredRungsModel" "state" "[I") (List.mem_of_getElem? (i := 1) rfl)) (fun _ h9 => h9) rfl dX6_passes_29 ?_
  refine lv_iconst (v := 5) hx hb dX6_passes_32 (by decide) ?_
  refine lv_dup2_11 hx hb dX6_passes_33 rfl rfl ?_
  obtain ⟨hi9, h⟩ := ck_ex h
  refine va_iald hx hb hK hP 1 0 rfl rfl (inb_in hi9) dX6_passes_34 ?_
  refine lv_iconst (v := 1) hx hb dX6_passes_35 (by decide) ?_
  refine lv_iadd hx hb dX6_passes_36 ?_
  obtain ⟨hi9, h⟩ := ck_ex h
  obtain ⟨mo5, emo5, h⟩ := pl_ex h
  refine va_iast hx hb hK hP hD hS 1 0 rfl rfl (inb_in hi9) dX6_passes_37 (fun H locs hP hD hS => ?_)
  have hP : va_P g.1 vwCl (cMo g a mo5) H := by rw [← emo5]; exact hP
  have hD : va_D A (cMo g a mo5) := by rw [← emo5]; exact hD
  refine lv_iconst (v := 0) hx hb dX6_passes_38 (by decide) ?_
  refine lv_istore_n (lv' := [(1, .int (0 : Int32)), (0, .ref (a 0))]) hx hb dX6_passes_39 rfl hl (by decide) rfl (fun ls hl => ?_)
  refine lv_iconst (v := 0) hx hb dX6_passes_40 (by decide) ?_
  refine lv_istore_n (lv' := [(2, .int (0 : Int32)), (1, .int (0 : Int32)), (0, .ref (a 0))]) hx hb dX6_passes_41 rfl hl (by decide) rfl (fun ls hl => ?_)
  have L42 : ∀ (n : Nat) (v1_6 : Int32) (v2_7 : Int32) (mo8 : Mo) (y1_9 : Int32) (mo10 : Mo) (H : Heap) (locs : List Loc) (ls : Array Slot), fX6_passes_L42 n v1_6 v2_7 mo8 = some (y1_9, mo10) → va_P g.1 vwCl (cMo g a mo8) H → va_D A (cMo g a mo8) → va_S A su.heap H locs → lv_has ls 3 [(0, .ref (a 0)), (1, .int v1_6), (2, .int v2_7)] → (∀ (H : Heap) (locs : List Loc) (ls : Array Slot), va_P g.1 vwCl (cMo g a mo10) H → va_D A (cMo g a mo10) → va_S A su.heap H locs → lv_has ls 3 [(0, .ref (a 0)), (1, .int y1_9)] → W p l e rX6_passes su m args below meth c H locs 0 0 Q (F0 m 107 ls [])) → W p l e rX6_passes su m args below meth c H locs 0 0 Q (F0 m 42 ls []) := by
    intro n
    induction n with
    | zero => intro v1_6 v2_7 mo8 y1_9 mo10 H locs ls h hP hD hS hl kx; cases h
    | succ n ih =>
      intro v1_6 v2_7 mo8 y1_9 mo10 H locs ls h hP hD hS hl kx
      rw [fX6_passes_L42] at h
      refine lv_iload_n hx hb dX6_passes_42 rfl (lv_at hl 2 rfl) ?_
      refine lv_iconst (v := 3) hx hb dX6_passes_43 (by decide) ?_
      refine lv_icmp_ge (tgt := 107) hx hb dX6_passes_44 (by decide) (fun c11 => ?_) (fun c11 => ?_)
      · have h := if_t c11 h
        cases some_i h
        exact kx _ _ _ hP hD hS (lv_sub hl [0, 1] rfl)
      · have h := if_f c11 h
        refine lv_aload_n hx hb dX6_passes_47 rfl (lv_at hl 0 rfl) ?_
        refine lv_iload_n hx hb dX6_passes_48 rfl (lv_at hl 2 rfl) ?_
        refine lv_iconst (v := 3) hx hb dX6_passes_49 (by decide) ?_
        refine lv_iconst (v := 0) hx hb dX6_passes_50 (by decide) ?_
        obtain ⟨mo12, kmo12, h⟩ := bd_ex h
        refine aft_w (st1 := []) rfl (runV (As := [.int v2_7, .int (3 : Int32), .int (0 : Int32)]) (rest := []) ⟨hx, hb, hml, hown, hts⟩ (kX6_setOf l g a kmo12) (cwV 3 hts gX6_passes_X6_setOf rfl rfl rfl hdX6_setOf ⟨Nat.le_of_ble_eq_true rfl, Nat.le_of_ble_eq_true rfl⟩) hK hN hP hD (va_recv hK hP (ci := 6) (q0 := 0) rfl rfl) rfl hl.1 rfl (Nat.le_of_ble_eq_true rfl) dX6_passes_51 ⟨Nat.zero_le _, Nat.zero_le _⟩) hD hS hA (fun H locs hP hD hS => ?_)
        refine lv_aload_n hx hb dX6_passes_54 rfl (lv_at hl 0 rfl) ?_
        refine lv_iload_n hx hb dX6_passes_55 rfl (lv_at hl 2 rfl) ?_
        refine lv_iconst (v := 0) hx hb dX6_passes_56 (by decide) ?_
        obtain ⟨r13, kr13, h⟩ := bd_ex h
        refine aft_w (st1 := [.int r13]) rfl (runV (As := [.int v2_7, .int (0 : Int32)]) (rest := []) ⟨hx, hb, hml, hown, hts⟩ (kX6_of l g a kr13) (cwV 2 hts gX6_passes_X6_of rfl rfl rfl hdX6_of ⟨Nat.le_of_ble_eq_true rfl, Nat.le_of_ble_eq_true rfl⟩) hK hN hP hD (va_recv hK hP (ci := 6) (q0 := 0) rfl rfl) rfl hl.1 rfl (Nat.le_of_ble_eq_true rfl) dX6_passes_57 ⟨Nat.zero_le _, Nat.zero_le _⟩) hD hS hA (fun H locs hP hD hS => ?_)
        refine lv_iconst (v := -1) hx hb dX6_passes_60 (by decide) ?_
        refine lv_icmp_eq (tgt := 101) hx hb dX6_passes_61 (by decide) (fun c14 => ?_) (fun c14 => ?_)
        · have h := if_t c14 h
          obtain ⟨x15, ex15, h⟩ := pl_ex h
          refine lv_iinc (v := x15) (lv' := [(2, .int x15), (0, .ref (a 0)), (1, .int v1_6)]) hx hb dX6_passes_101 hl (k := 2) rfl (by rw [← ex15]; rfl) (by decide) rfl (fun ls hl => ?_)
          refine lv_goto (tgt := 42) hx hb dX6_passes_104 (by decide) ?_
          exact ih v1_6 x15 mo12 _ _ _ _ _ h hP hD hS (lv_sub hl [1, 2, 0] rfl) kx
        · have h := if_f c14 h
          refine lv_aload_n hx hb dX6_passes_64 rfl (lv_at hl 0 rfl) ?_
          refine lv_aload_n hx hb dX6_passes_65 rfl (lv_at hl 0 rfl) ?_
          refine lv_iload_n hx hb dX6_passes_66 rfl (lv_at hl 2 rfl) ?_
          refine lv_iconst (v := 0) hx hb dX6_passes_67 (by decide) ?_
          obtain ⟨r16, kr16, h⟩ := bd_ex h
          refine aft_w (st1 := [.int r16, .ref (a 0)]) rfl (runV (As := [.int v2_7, .int (0 : Int32)]) (rest := [.ref (a 0)]) ⟨hx, hb, hml, hown, hts⟩ (kX6_of l g a kr16) (cwV 2 hts gX6_passes_X6_of rfl rfl rfl hdX6_of ⟨Nat.le_of_ble_eq_true rfl, Nat.le_of_ble_eq_true rfl⟩) hK hN hP hD (va_recv hK hP (ci := 6) (q0 := 0) rfl rfl) rfl hl.1 rfl (Nat.le_of_ble_eq_true rfl) dX6_passes_68 ⟨Nat.zero_le _, Nat.zero_le _⟩) hD hS hA (fun H locs hP hD hS => ?_)
          obtain ⟨r17, mo18, kr17, h⟩ := bd2_ex h
          refine aft_w (st1 := [.int r17]) rfl (runV (As := [.int r16]) (rest := []) ⟨hx, hb, hml, hown, hts⟩ (kX6_isBarred l g a kr17) (cwV 1 hts gX6_passes_X6_isBarred rfl rfl rfl hdX6_isBarred ⟨Nat.le_of_ble_eq_true rfl, Nat.le_of_ble_eq_true rfl⟩) hK hN hP hD (va_recv hK hP (ci := 6) (q0 := 0) rfl rfl) rfl hl.1 rfl (Nat.le_of_ble_eq_true rfl) dX6_passes_71 ⟨Nat.zero_le _, Nat.zero_le _⟩) hD hS hA (fun H locs hP hD hS => ?_)
          refine lv_if_eq (tgt := 101) hx hb dX6_passes_74 (by decide) (fun c19 => ?_) (fun c19 => ?_)
          · have h := if_t c19 h
            obtain ⟨x20, ex20, h⟩ := pl_ex h
            refine lv_iinc (v := x20) (lv' := [(2, .int x20), (0, .ref (a 0)), (1, .int v1_6)]) hx hb dX6_passes_101 hl (k := 2) rfl (by rw [← ex20]; rfl) (by decide) rfl (fun ls hl => ?_)
            refine lv_goto (tgt := 42) hx hb dX6_passes_104 (by decide) ?_
            exact ih v1_6 x20 mo18 _ _ _ _ _ h hP hD hS (lv_sub hl [1, 2, 0] rfl) kx
          · have h := if_f c19 h
            refine lv_aload_n hx hb dX6_passes_77 rfl (lv_at hl 0 rfl) ?_
            refine lv_iload_n hx hb dX6_passes_78 rfl (lv_at hl 2 rfl) ?_
            obtain ⟨mo21, kmo21, h⟩ := bd_ex h
            refine aft_w (st1 := []) rfl (runV (As := [.int v2_7]) (rest := []) ⟨hx, hb, hml, hown, hts⟩ (kX6_takeOff l g a kmo21) (cwV 1 hts gX6_passes_X6_takeOff rfl rfl rfl hdX6_takeOff ⟨Nat.le_of_ble_eq_true rfl, Nat.le_of_ble_eq_true rfl⟩) hK hN hP hD (va_recv hK hP (ci := 6) (q0 := 0) rfl rfl) rfl hl.1 rfl (Nat.le_of_ble_eq_true rfl) dX6_passes_79 ⟨Nat.zero_le _, Nat.zero_le _⟩) hD hS hA (fun H locs hP hD hS => ?_)
            refine lv_aload_n hx hb dX6_passes_82 rfl (lv_at hl 0 rfl) ?_
            refine lv_iload_n hx hb dX6_passes_83 rfl (lv_at hl 2 rfl) ?_
            refine lv_bipush (v := 6) hx hb dX6_passes_84 (by decide) ?_
            refine lv_aload_n hx hb dX6_passes_86 rfl (lv_at hl 0 rfl) ?_
            refine lv_iload_n hx hb dX6_passes_87 rfl (lv_at hl 2 rfl) ?_
            refine lv_bipush (v := 6) hx hb dX6_passes_88 (by decide) ?_
            obtain ⟨r22, kr22, h⟩ := bd_ex h
            refine aft_w (st1 := [.int r22, .int (6 : Int32), .int v2_7, .ref (a 0)]) rfl (runV (As := [.int v2_7, .int (6 : Int32)]) (rest := [.int (6 : Int32), .int v2_7, .ref (a 0)]) ⟨hx, hb, hml, hown, hts⟩ (kX6_of l g a kr22) (cwV 2 hts gX6_passes_X6_of rfl rfl rfl hdX6_of ⟨Nat.le_of_ble_eq_true rfl, Nat.le_of_ble_eq_true rfl⟩) hK hN hP hD (va_recv hK hP (ci := 6) (q0 := 0) rfl rfl) rfl hl.1 rfl (Nat.le_of_ble_eq_true rfl) dX6_passes_90 ⟨Nat.zero_le _, Nat.zero_le _⟩) hD hS hA (fun H locs hP hD hS => ?_)
            refine lv_iconst (v := 1) hx hb dX6_passes_93 (by decide) ?_
            refine lv_iadd hx hb dX6_passes_94 ?_
            obtain ⟨mo23, kmo23, h⟩ := bd_ex h
            refine aft_w (st1 := []) rfl (runV (As := [.int v2_7, .int (6 : Int32), .int (r22 + (1 : Int32))]) (rest := []) ⟨hx, hb, hml, hown, hts⟩ (kX6_setOf l g a kmo23) (cwV 3 hts gX6_passes_X6_setOf rfl rfl rfl hdX6_setOf ⟨Nat.le_of_ble_eq_true rfl, Nat.le_of_ble_eq_true rfl⟩) hK hN hP hD (va_recv hK hP (ci := 6) (q0 := 0) rfl rfl) rfl hl.1 rfl (Nat.le_of_ble_eq_true rfl) dX6_passes_95 ⟨Nat.zero_le _, Nat.zero_le _⟩) hD hS hA (fun H locs hP hD hS => ?_)
            obtain ⟨x24, ex24, h⟩ := pl_ex h
            refine lv_iinc (v := x24) (lv' := [(1, .int x24), (0, .ref (a 0)), (2, .int v2_7)]) hx hb dX6_passes_98 hl (k := 1) rfl (by rw [← ex24]; rfl) (by decide) rfl (fun ls hl => ?_)
            obtain ⟨x25, ex25, h⟩ := pl_ex h
            refine lv_iinc (v := x25) (lv' := [(2, .int x25), (1, .int x24), (0, .ref (a 0))]) hx hb dX6_passes_101 hl (k := 2) rfl (by rw [← ex25]; rfl) (by decide) rfl (fun ls hl => ?_)
            refine lv_goto (tgt := 42) hx hb dX6_passes_104 (by decide) ?_
            exact ih x24 x25 mo23 _ _ _ _ _ h hP hD hS (lv_sub hl [2, 1, 0] rfl) kx
  obtain ⟨v1_26, mo27, kv1_26, h⟩ := bd2_ex h
  refine L42 1000 (0 : Int32) (0 : Int32) mo5 v1_26 mo27 _ _ _ kv1_26 hP hD hS (lv_sub hl [2, 1, 0] rfl) (fun H locs ls hP hD hS hl => ?_)
  refine lv_aload_n hx hb dX6_passes_107 rfl (lv_at hl 0 rfl) ?_
  refine va_get (D := g.1) (ci := 6) (v := .ref (a 1)) (C := RX6) (T := TX6) (N := 15) hx hb hts hinX6 hown hK hP 0 rfl rfl 1 (by decide) (hts (.fieldLink RX6 7 "BarredRungsModel" "state" "[I") (List.mem_of_getElem? (i := 1) rfl)) (fun _ h9 => h9) rfl dX6_passes_108 ?_
  refine lv_bipush (v := 8) hx hb dX6_passes_111 (by decide) ?_
  refine lv_dup2_11 hx hb dX6_passes_113 rfl rfl ?_
  obtain ⟨hi9, h⟩ := ck_ex h
  refine va_iald hx hb hK hP 1 0 rfl rfl (inb_in hi9) dX6_passes_114 ?_
  refine lv_iload_n hx hb dX6_passes_115 rfl (lv_at hl 1 rfl) ?_
  refine lv_iadd hx hb dX6_passes_116 ?_
  obtain ⟨hi9, h⟩ := ck_ex h
  obtain ⟨mo28, emo28, h⟩ := pl_ex h
  refine va_iast hx hb hK hP hD hS 1 0 rfl rfl (inb_in hi9) dX6_passes_117 (fun H locs hP hD hS => ?_)
  have hP : va_P g.1 vwCl (cMo g a mo28) H := by rw [← emo28]; exact hP
  have hD : va_D A (cMo g a mo28) := by rw [← emo28]; exact hD
  refine lv_iload_n hx hb dX6_passes_118 rfl (lv_at hl 1 rfl) ?_
  cases some_i h
  exact hend _ _ _ _ _ hP hD hS (RetOK.i dX6_passes_119)
def fX6_doesClimb (mo : Mo) : Option (Int32 × Mo) :=
(if (Mo_readClimber mo) = (-1 : Int32) then
(bd2 (fX6_passes mo) fun (r10 : Int32) (mo11 : Mo) =>
(if r10 < (0 : Int32) then
(some ((0 : Int32), mo11))
else
(some ((1 : Int32), mo11))))
else
(bd (fX6_found mo) fun (r2 : Int32) =>
(if r2 = (-1 : Int32) then
(some ((0 : Int32), mo))
else
(bd2 (fX6_reason mo (Mo_readClimber mo) r2) fun (r4 : Int32) (mo5 : Mo) =>
(if r4 = (0 : Int32) then
(bd2 (fX6_goes mo5 (Mo_readClimber mo5) r2) fun (r7 : Int32) (mo8 : Mo) =>
(if r7 < (0 : Int32) then
(some ((0 : Int32), mo8))
else
(some ((1 : Int32), mo8))))
else
(some ((0 : Int32), mo5)))))))
abbrev rX6_doesClimb : Room := { frames := 5, cells := 0, slots := 0, locals := 109 }
theorem hdX6_doesClimb : yX6_doesClimb.cls = RX6 ∧ yX6_doesClimb.cls ≠ "java/lang/invoke/MethodHandle" ∧ yX6_doesClimb.cls ≠ "java/lang/invoke/VarHandle" ∧ (parseMethodDescriptor yX6_doesClimb.desc).map (fun d => d.parameters.length) = some 0 := by decide +kernel
set_option maxRecDepth 100000 in
set_option maxHeartbeats 8000000 in
theorem kX6_doesClimb (l : Launch) (g : GG) (a : Nat → Nat) {mo : Mo} {res : Int32} {mo' : Mo} (h : fX6_doesClimb mo = some (res, mo')) : Cg l g yX6_doesClimb wsX6_doesClimb rX6_doesClimb [.ref (a 0)] (cMo g a mo) (some (.int res)) (cMo g a mo') := by
  refine Cg_of (cc := cX6_doesClimb) (maxL := 2) (ret := (some .boolean)) (by decide +kernel) rfl (Nat.le_of_ble_eq_true rfl) ?_
  intro p e su m args below meth c A Q ls hx hb hml hown hts hK hN hA hnm hP hD hS hl hend
  have hinX6 : ∀ w ∈ u_ws RX6 TX6 15, w ∈ wsX6_doesClimb := fun _ h9 => List.mem_cons_of_mem _ (List.mem_append_right _ h9)
  unfold fX6_doesClimb at h
  have hl : lv_has ls 2 [(0, .ref (a 0))] := hl
  refine lv_aload_n hx hb dX6_doesClimb_0 rfl (lv_at hl 0 rfl) ?_
  refine va_get (D := g.1) (ci := 6) (v := .int (Mo_readClimber mo)) (C := RX6) (T := TX6) (N := 15) hx hb hts hinX6 hown hK hP 0 rfl rfl 9 (by decide) (hts (.fieldLink RX6 139 "BarredRungsModel" "readClimber" "I") (List.mem_of_getElem? (i := 1) rfl)) (fun _ h9 => h9) rfl dX6_doesClimb_1 ?_
  refine lv_iconst (v := -1) hx hb dX6_doesClimb_4 (by decide) ?_
  refine lv_icmp_ne (tgt := 21) hx hb dX6_doesClimb_5 (by decide) (fun c1 => ?_) (fun c1 => ?_)
  · have h := if_f c1 h
    refine lv_aload_n hx hb dX6_doesClimb_21 rfl (lv_at hl 0 rfl) ?_
    obtain ⟨r2, kr2, h⟩ := bd_ex h
    refine aft_w (st1 := [.int r2]) rfl (runV (As := []) (rest := []) ⟨hx, hb, hml, hown, hts⟩ (kX6_found l g a kr2) (cwV 0 hts gX6_doesClimb_X6_found rfl rfl rfl hdX6_found ⟨Nat.le_of_ble_eq_true rfl, Nat.le_of_ble_eq_true rfl⟩) hK hN hP hD (va_recv hK hP (ci := 6) (q0 := 0) rfl rfl) rfl hl.1 rfl (Nat.le_of_ble_eq_true rfl) dX6_doesClimb_22 ⟨Nat.zero_le _, Nat.zero_le _⟩) hD hS hA (fun H locs hP hD hS => ?_)
    refine lv_istore_n (lv' := [(1, .int r2), (0, .ref (a 0))]) hx hb dX6_doesClimb_25 rfl hl (by decide) rfl (fun ls hl => ?_)
    refine lv_iload_n hx hb dX6_doesClimb_26 rfl (lv_at hl 0 rfl) ?_
    refine lv_iconst (v := -1) hx hb dX6_doesClimb_27 (by decide) ?_
    refine lv_icmp_eq (tgt := 59) hx hb dX6_doesClimb_28 (by decide) (fun c3 => ?_) (fun c3 => ?_)
    · have h := if_t c3 h
      refine lv_iconst (v := 0) hx hb dX6_doesClimb_59 (by decide) ?_
      cases some_i h
      exact hend _ _ _ _ _ hP hD hS (RetOK.z dX6_doesClimb_60 (Or.inl rfl))
    · have h := if_f c3 h
      refine lv_aload_n hx hb dX6_doesClimb_31 rfl (lv_at hl 1 rfl) ?_
      refine lv_aload_n hx hb dX6_doesClimb_32 rfl (lv_at hl 1 rfl) ?_
      refine va_get (D := g.1) (ci := 6) (v := .int (Mo_readClimber mo)) (C := RX6) (T := TX6) (N := 15) hx hb hts hinX6 hown hK hP 0 rfl rfl 9 (by decide) (hts (.fieldLink RX6 139 "BarredRungsModel" "readClimber" "I") (List.mem_of_getElem? (i := 1) rfl)) (fun _ h9 => h9) rfl dX6_doesClimb_33 ?_
      refine lv_iload_n hx hb dX6_doesClimb_36 rfl (lv_at hl 0 rfl) ?_
      obtain ⟨r4, mo5, kr4, h⟩ := bd2_ex h
      refine aft_w (st1 := [.int r4]) rfl (runV (As := [.int (Mo_readClimber mo), .int r2]) (rest := []) ⟨hx, hb, hml, hown, hts⟩ (kX6_reason l g a kr4) (cwV 2 hts gX6_doesClimb_X6_reason rfl rfl rfl hdX6_reason ⟨Nat.le_of_ble_eq_true rfl, Nat.le_of_ble_eq_true rfl⟩) hK hN hP hD (va_recv hK hP (ci := 6) (q0 := 0) rfl rfl) rfl hl.1 rfl (Nat.le_of_ble_eq_true rfl) dX6_doesClimb_37 ⟨Nat.zero_le _, Nat.zero_le _⟩) hD hS hA (fun H locs hP hD hS => ?_)
      refine lv_if_ne (tgt := 59) hx hb dX6_doesClimb_40 (by decide) (fun c6 => ?_) (fun c6 => ?_)
      · have h := if_f c6 h
        refine lv_iconst (v := 0) hx hb dX6_doesClimb_59 (by decide) ?_
        cases some_i h
        exact hend _ _ _ _ _ hP hD hS (RetOK.z dX6_doesClimb_60 (Or.inl rfl))
      · have h := if_t c6 h
        refine lv_aload_n hx hb dX6_doesClimb_43 rfl (lv_at hl 1 rfl) ?_
        refine lv_aload_n hx hb dX6_doesClimb_44 rfl (lv_at hl 1 rfl) ?_
        refine va_get (D := g.1) (ci := 6) (v := .int (Mo_readClimber mo5)) (C := RX6) (T := TX6) (N := 15) hx hb hts hinX6 hown hK hP 0 rfl rfl 9 (by decide) (hts (.fieldLink RX6 139 "BarredRungsModel" "readClimber" "I") (List.mem_of_getElem? (i := 1) rfl)) (fun _ h9 => h9) rfl dX6_doesClimb_45 ?_
        refine lv_iload_n hx hb dX6_doesClimb_48 rfl (lv_at hl 0 rfl) ?_
        obtain ⟨r7, mo8, kr7, h⟩ := bd2_ex h
        refine aft_w (st1 := [.int r7]) rfl (runV (As := [.int (Mo_readClimber mo5), .int r2]) (rest := []) ⟨hx, hb, hml, hown, hts⟩ (kX6_goes l g a kr7) (cwV 2 hts gX6_doesClimb_X6_goes rfl rfl rfl hdX6_goes ⟨Nat.le_of_ble_eq_true rfl, Nat.le_of_ble_eq_true rfl⟩) hK hN hP hD (va_recv hK hP (ci := 6) (q0 := 0) rfl rfl) rfl hl.1 rfl (Nat.le_of_ble_eq_true rfl) dX6_doesClimb_49 ⟨Nat.zero_le _, Nat.zero_le _⟩) hD hS hA (fun H locs hP hD hS => ?_)
        refine lv_if_lt (tgt := 59) hx hb dX6_doesClimb_52 (by decide) (fun c9 => ?_) (fun c9 => ?_)
        · have h := if_t c9 h
          refine lv_iconst (v := 0) hx hb dX6_doesClimb_59 (by decide) ?_
          cases some_i h
          exact hend _ _ _ _ _ hP hD hS (RetOK.z dX6_doesClimb_60 (Or.inl rfl))
        · have h := if_f c9 h
          refine lv_iconst (v := 1) hx hb dX6_doesClimb_55 (by decide) ?_
          refine lv_goto (tgt := 60) hx hb dX6_doesClimb_56 (by decide) ?_
          cases some_i h
          exact hend _ _ _ _ _ hP hD hS (RetOK.z dX6_doesClimb_60 (Or.inr rfl))
  · have h := if_t c1 h
    refine lv_aload_n hx hb dX6_doesClimb_8 rfl (lv_at hl 0 rfl) ?_
    obtain ⟨r10, mo11, kr10, h⟩ := bd2_ex h
    refine aft_w (st1 := [.int r10]) rfl (runV (As := []) (rest := []) ⟨hx, hb, hml, hown, hts⟩ (kX6_passes l g a kr10) (cwV 0 hts gX6_doesClimb_X6_passes rfl rfl rfl hdX6_passes ⟨Nat.le_of_ble_eq_true rfl, Nat.le_of_ble_eq_true rfl⟩) hK hN hP hD (va_recv hK hP (ci := 6) (q0 := 0) rfl rfl) rfl hl.1 rfl (Nat.le_of_ble_eq_true rfl) dX6_doesClimb_9 ⟨Nat.zero_le _, Nat.zero_le _⟩) hD hS hA (fun H locs hP hD hS => ?_)
    refine lv_if_lt (tgt := 19) hx hb dX6_doesClimb_12 (by decide) (fun c12 => ?_) (fun c12 => ?_)
    · have h := if_t c12 h
      refine lv_iconst (v := 0) hx hb dX6_doesClimb_19 (by decide) ?_
      cases some_i h
      exact hend _ _ _ _ _ hP hD hS (RetOK.z dX6_doesClimb_20 (Or.inl rfl))
    · have h := if_f c12 h
      refine lv_iconst (v := 1) hx hb dX6_doesClimb_15 (by decide) ?_
      refine lv_goto (tgt := 20) hx hb dX6_doesClimb_16 (by decide) ?_
      cases some_i h
      exact hend _ _ _ _ _ hP hD hS (RetOK.z dX6_doesClimb_20 (Or.inr rfl))
def fX6_tellsError (mo : Mo) (p1 : Int32) : Option (Int32 × Mo) :=
(bd2 (fX6_findError mo p1) fun (r1 : Int32) (mo2 : Mo) =>
(if r1 = (-1 : Int32) then
(some ((Mo_length mo2), mo2))
else
(some (r1, mo2))))
abbrev rX6_tellsError : Room := { frames := 5, cells := 0, slots := 0, locals := 105 }
theorem hdX6_tellsError : yX6_tellsError.cls = RX6 ∧ yX6_tellsError.cls ≠ "java/lang/invoke/MethodHandle" ∧ yX6_tellsError.cls ≠ "java/lang/invoke/VarHandle" ∧ (parseMethodDescriptor yX6_tellsError.desc).map (fun d => d.parameters.length) = some 1 := by decide +kernel
set_option maxRecDepth 100000 in
set_option maxHeartbeats 8000000 in
theorem kX6_tellsError (l : Launch) (g : GG) (a : Nat → Nat) {mo : Mo} {p1 : Int32} {res : Int32} {mo' : Mo} (h : fX6_tellsError mo p1 = some (res, mo')) : Cg l g yX6_tellsError wsX6_tellsError rX6_tellsError [.ref (a 0), .int p1] (cMo g a mo) (some (.int res)) (cMo g a mo') := by
  refine Cg_of (cc := cX6_tellsError) (maxL := 3) (ret := (some .int)) (by decide +kernel) rfl (Nat.le_of_ble_eq_true rfl) ?_
  intro p e su m args below meth c A Q ls hx hb hml hown hts hK hN hA hnm hP hD hS hl hend
  have hinX6 : ∀ w ∈ u_ws RX6 TX6 15, w ∈ wsX6_tellsError := fun _ h9 => List.mem_cons_of_mem _ (List.mem_append_right _ h9)
  unfold fX6_tellsError at h
  have hl : lv_has ls 3 [(0, .ref (a 0)), (1, .int p1)] := hl
  refine lv_aload_n hx hb dX6_tellsError_0 rfl (lv_at hl 0 rfl) ?_
  refine lv_iload_n hx hb dX6_tellsError_1 rfl (lv_at hl 1 rfl) ?_
  obtain ⟨r1, mo2, kr1, h⟩ := bd2_ex h
  refine aft_w (st1 := [.int r1]) rfl (runV (As := [.int p1]) (rest := []) ⟨hx, hb, hml, hown, hts⟩ (kX6_findError l g a kr1) (cwV 1 hts gX6_tellsError_X6_findError rfl rfl rfl hdX6_findError ⟨Nat.le_of_ble_eq_true rfl, Nat.le_of_ble_eq_true rfl⟩) hK hN hP hD (va_recv hK hP (ci := 6) (q0 := 0) rfl rfl) rfl hl.1 rfl (Nat.le_of_ble_eq_true rfl) dX6_tellsError_2 ⟨Nat.zero_le _, Nat.zero_le _⟩) hD hS hA (fun H locs hP hD hS => ?_)
  refine lv_istore_n (lv' := [(2, .int r1), (0, .ref (a 0)), (1, .int p1)]) hx hb dX6_tellsError_5 rfl hl (by decide) rfl (fun ls hl => ?_)
  refine lv_iload_n hx hb dX6_tellsError_6 rfl (lv_at hl 0 rfl) ?_
  refine lv_iconst (v := -1) hx hb dX6_tellsError_7 (by decide) ?_
  refine lv_icmp_ne (tgt := 18) hx hb dX6_tellsError_8 (by decide) (fun c3 => ?_) (fun c3 => ?_)
  · have h := if_f c3 h
    refine lv_iload_n hx hb dX6_tellsError_18 rfl (lv_at hl 0 rfl) ?_
    cases some_i h
    exact hend _ _ _ _ _ hP hD hS (RetOK.i dX6_tellsError_19)
  · have h := if_t c3 h
    refine lv_aload_n hx hb dX6_tellsError_11 rfl (lv_at hl 1 rfl) ?_
    refine va_get (D := g.1) (ci := 6) (v := .int (Mo_length mo2)) (C := RX6) (T := TX6) (N := 15) hx hb hts hinX6 hown hK hP 0 rfl rfl 7 (by decide) (hts (.fieldLink RX6 127 "BarredRungsModel" "length" "I") (List.mem_of_getElem? (i := 1) rfl)) (fun _ h9 => h9) rfl dX6_tellsError_12 ?_
    refine lv_goto (tgt := 19) hx hb dX6_tellsError_15 (by decide) ?_
    cases some_i h
    exact hend _ _ _ _ _ hP hD hS (RetOK.i dX6_tellsError_19)
def fX6_firstError (mo : Mo) (p1 : Int32) : Option (Int32 × Mo) :=
(pl (Mo_set_thrown mo (0 : Int32)) fun (mo1 : Mo) =>
(bd (fX6_within p1 (0 : Int32) (1 : Int32)) fun (r2 : Int32) =>
(if r2 = (0 : Int32) then
(bd2 (fX6_fails mo1 (1 : Int32)) fun (r4 : Int32) (mo5 : Mo) =>
(some (r4, mo5)))
else
(if p1 = (1 : Int32) then
(bd2 (fX6_tellsError mo1 (1 : Int32)) fun (r9 : Int32) (mo10 : Mo) =>
(some (r9, mo10)))
else
(bd2 (fX6_tellsError mo1 (0 : Int32)) fun (r7 : Int32) (mo8 : Mo) =>
(some (r7, mo8)))))))
abbrev rX6_firstError : Room := { frames := 6, cells := 0, slots := 0, locals := 127 }
theorem hdX6_firstError : yX6_firstError.cls = RX6 ∧ yX6_firstError.cls ≠ "java/lang/invoke/MethodHandle" ∧ yX6_firstError.cls ≠ "java/lang/invoke/VarHandle" ∧ (parseMethodDescriptor yX6_firstError.desc).map (fun d => d.parameters.length) = some 1 := by decide +kernel
set_option maxRecDepth 100000 in
set_option maxHeartbeats 8000000 in
theorem kX6_firstError (l : Launch) (g : GG) (a : Nat → Nat) {mo : Mo} {p1 : Int32} {res : Int32} {mo' : Mo} (h : fX6_firstError mo p1 = some (res, mo')) : Cg l g yX6_firstError wsX6_firstError rX6_firstError [.ref (a 0), .int p1] (cMo g a mo) (some (.int res)) (cMo g a mo') := by
  refine Cg_of (cc := cX6_firstError) (maxL := 2) (ret := (some .int)) (by decide +kernel) rfl (Nat.le_of_ble_eq_true rfl) ?_
  intro p e su m args below meth c A Q ls hx hb hml hown hts hK hN hA hnm hP hD hS hl hend
  have hinX6 : ∀ w ∈ u_ws RX6 TX6 15, w ∈ wsX6_firstError := fun _ h9 => List.mem_cons_of_mem _ (List.mem_append_right _ h9)
  unfold fX6_firstError at h
  have hl : lv_has ls 2 [(0, .ref (a 0)), (1, .int p1)] := hl
  refine lv_aload_n hx hb dX6_firstError_0 rfl (lv_at hl 0 rfl) ?_
  refine lv_iconst (v := 0) hx hb dX6_firstError_1 (by decide) ?_
  obtain ⟨mo1, emo1, h⟩ := pl_ex h
  refine va_put (D := g.1) (ci := 6) (v := .int (0 : Int32)) (ty := .int) (C := RX6) (T := TX6) (N := 15) hx hb hts hinX6 tyX6 tyX6_ok nmX6 hown hK hP hD hS 0 rfl rfl 0 (by decide) (hts (.fieldLink RX6 29 "BarredRungsModel" "thrown" "I") (List.mem_of_getElem? (i := 1) rfl)) (fun _ h9 => h9) rfl (by decide +kernel) rfl rfl (Nat.le_of_ble_eq_true rfl) dX6_firstError_2 (fun H locs hP hD hS => ?_)
  have hP : va_P g.1 vwCl (cMo g a mo1) H := by rw [← emo1]; exact hP
  have hD : va_D A (cMo g a mo1) := by rw [← emo1]; exact hD
  refine lv_iload_n hx hb dX6_firstError_5 rfl (lv_at hl 1 rfl) ?_
  refine lv_iconst (v := 0) hx hb dX6_firstError_6 (by decide) ?_
  refine lv_iconst (v := 1) hx hb dX6_firstError_7 (by decide) ?_
  obtain ⟨r2, kr2, h⟩ := bd_ex h
  refine aft_e (st1 := [.int r2]) rfl (runS (As := [.int p1, .int (0 : Int32), .int (1 : Int32)]) (rest := []) ⟨hx, hb, hml, hown, hts⟩ (kX6_within l g kr2) (va_cwS 3 hts gX6_firstError_X6_within rfl rfl rfl hdX6_within.2 ⟨Nat.le_of_ble_eq_true rfl, Nat.le_of_ble_eq_true rfl⟩) hK hN nilP (nilD (A := A)) rfl hl.1 rfl (Nat.le_of_ble_eq_true rfl) dX6_firstError_8 ⟨Nat.zero_le _, Nat.zero_le _⟩) hP hS hA (fun H locs hP hS => ?_)
  refine lv_if_eq (tgt := 31) hx hb dX6_firstError_11 (by decide) (fun c3 => ?_) (fun c3 => ?_)
  · have h := if_t c3 h
    refine lv_aload_n hx hb dX6_firstError_31 rfl (lv_at hl 0 rfl) ?_
    refine lv_iconst (v := 1) hx hb dX6_firstError_32 (by decide) ?_
    obtain ⟨r4, mo5, kr4, h⟩ := bd2_ex h
    refine aft_w (st1 := [.int r4]) rfl (runV (As := [.int (1 : Int32)]) (rest := []) ⟨hx, hb, hml, hown, hts⟩ (kX6_fails l g a kr4) (cwV 1 hts gX6_firstError_X6_fails rfl rfl rfl hdX6_fails ⟨Nat.le_of_ble_eq_true rfl, Nat.le_of_ble_eq_true rfl⟩) hK hN hP hD (va_recv hK hP (ci := 6) (q0 := 0) rfl rfl) rfl hl.1 rfl (Nat.le_of_ble_eq_true rfl) dX6_firstError_33 ⟨Nat.zero_le _, Nat.zero_le _⟩) hD hS hA (fun H locs hP hD hS => ?_)
    cases some_i h
    exact hend _ _ _ _ _ hP hD hS (RetOK.i dX6_firstError_36)
  · have h := if_f c3 h
    refine lv_aload_n hx hb dX6_firstError_14 rfl (lv_at hl 0 rfl) ?_
    refine lv_iload_n hx hb dX6_firstError_15 rfl (lv_at hl 1 rfl) ?_
    refine lv_iconst (v := 1) hx hb dX6_firstError_16 (by decide) ?_
    refine lv_icmp_ne (tgt := 24) hx hb dX6_firstError_17 (by decide) (fun c6 => ?_) (fun c6 => ?_)
    · have h := if_f c6 h
      refine lv_iconst (v := 0) hx hb dX6_firstError_24 (by decide) ?_
      obtain ⟨r7, mo8, kr7, h⟩ := bd2_ex h
      refine aft_w (st1 := [.int r7]) rfl (runV (As := [.int (0 : Int32)]) (rest := []) ⟨hx, hb, hml, hown, hts⟩ (kX6_tellsError l g a kr7) (cwV 1 hts gX6_firstError_X6_tellsError rfl rfl rfl hdX6_tellsError ⟨Nat.le_of_ble_eq_true rfl, Nat.le_of_ble_eq_true rfl⟩) hK hN hP hD (va_recv hK hP (ci := 6) (q0 := 0) rfl rfl) rfl hl.1 rfl (Nat.le_of_ble_eq_true rfl) dX6_firstError_25 ⟨Nat.zero_le _, Nat.zero_le _⟩) hD hS hA (fun H locs hP hD hS => ?_)
      refine lv_goto (tgt := 36) hx hb dX6_firstError_28 (by decide) ?_
      cases some_i h
      exact hend _ _ _ _ _ hP hD hS (RetOK.i dX6_firstError_36)
    · have h := if_t c6 h
      refine lv_iconst (v := 1) hx hb dX6_firstError_20 (by decide) ?_
      refine lv_goto (tgt := 25) hx hb dX6_firstError_21 (by decide) ?_
      obtain ⟨r9, mo10, kr9, h⟩ := bd2_ex h
      refine aft_w (st1 := [.int r9]) rfl (runV (As := [.int (1 : Int32)]) (rest := []) ⟨hx, hb, hml, hown, hts⟩ (kX6_tellsError l g a kr9) (cwV 1 hts gX6_firstError_X6_tellsError rfl rfl rfl hdX6_tellsError ⟨Nat.le_of_ble_eq_true rfl, Nat.le_of_ble_eq_true rfl⟩) hK hN hP hD (va_recv hK hP (ci := 6) (q0 := 0) rfl rfl) rfl hl.1 rfl (Nat.le_of_ble_eq_true rfl) dX6_firstError_25 ⟨Nat.zero_le _, Nat.zero_le _⟩) hD hS hA (fun H locs hP hD hS => ?_)
      refine lv_goto (tgt := 36) hx hb dX6_firstError_28 (by decide) ?_
      cases some_i h
      exact hend _ _ _ _ _ hP hD hS (RetOK.i dX6_firstError_36)
def fX6_goBack_L24 : Nat → Int32 → Mo → Option (Mo)
  | 0, _, _ => none
  | n + 1, v1_4, mo5 =>
    (if (55 : Int32) ≤ v1_4 then
    (some mo5)
    else
    (ck (inb v1_4 55)
    (ck (inb v1_4 55)
    (pl (Mo_set_state mo5 (upd (Mo_state mo5) v1_4.toNatClampNeg (Mo_snapshot mo5 v1_4.toNatClampNeg))) fun (mo8 : Mo) =>
    (pl ((v1_4 + (1 : Int32))) fun (x9 : Int32) =>
    (fX6_goBack_L24 n x9 mo8))))))
def fX6_goBack (mo : Mo) : Option (Int32 × Mo) :=
(pl (Mo_set_thrown mo (0 : Int32)) fun (mo1 : Mo) =>
(if (Mo_hasSnapshot mo1) = (0 : Int32) then
(bd2 (fX6_fails mo1 (1 : Int32)) fun (r11 : Int32) (mo12 : Mo) =>
(some (r11, mo12)))
else
(bd (fX6_save mo1) fun (mo3 : Mo) =>
(bd (fX6_goBack_L24 1000 (0 : Int32) mo3) fun (mo10 : Mo) =>
(ck (inb (5 : Int32) 55)
(some ((Mo_state mo10 (5 : Int32).toNatClampNeg), mo10)))))))
abbrev rX6_goBack : Room := { frames := 1, cells := 0, slots := 0, locals := 21 }
theorem hdX6_goBack : yX6_goBack.cls = RX6 ∧ yX6_goBack.cls ≠ "java/lang/invoke/MethodHandle" ∧ yX6_goBack.cls ≠ "java/lang/invoke/VarHandle" ∧ (parseMethodDescriptor yX6_goBack.desc).map (fun d => d.parameters.length) = some 0 := by decide +kernel
set_option maxRecDepth 100000 in
set_option maxHeartbeats 8000000 in
theorem kX6_goBack (l : Launch) (g : GG) (a : Nat → Nat) {mo : Mo} {res : Int32} {mo' : Mo} (h : fX6_goBack mo = some (res, mo')) : Cg l g yX6_goBack wsX6_goBack rX6_goBack [.ref (a 0)] (cMo g a mo) (some (.int res)) (cMo g a mo') := by
  refine Cg_of (cc := cX6_goBack) (maxL := 2) (ret := (some .int)) (by decide +kernel) rfl (Nat.le_of_ble_eq_true rfl) ?_
  intro p e su m args below meth c A Q ls hx hb hml hown hts hK hN hA hnm hP hD hS hl hend
  have hinX6 : ∀ w ∈ u_ws RX6 TX6 15, w ∈ wsX6_goBack := fun _ h9 => List.mem_cons_of_mem _ (List.mem_append_right _ h9)
  unfold fX6_goBack at h
  have hl : lv_has ls 2 [(0, .ref (a 0))] := hl
  refine lv_aload_n hx hb dX6_goBack_0 rfl (lv_at hl 0 rfl) ?_
  refine lv_iconst (v := 0) hx hb dX6_goBack_1 (by decide) ?_
  obtain ⟨mo1, emo1, h⟩ := pl_ex h
  refine va_put (D := g.1) (ci := 6) (v := .int (0 : Int32)) (ty := .int) (C := RX6) (T := TX6) (N := 15) hx hb hts hinX6 tyX6 tyX6_ok nmX6 hown hK hP hD hS 0 rfl rfl 0 (by decide) (hts (.fieldLink RX6 29 "BarredRungsModel" "thrown" "I") (List.mem_of_getElem? (i := 1) rfl)) (fun _ h9 => h9) rfl (by decide +kernel) rfl rfl (Nat.le_of_ble_eq_true rfl) dX6_goBack_2 (fun H locs hP hD hS => ?_)
  have hP : va_P g.1 vwCl (cMo g a mo1) H := by rw [← emo1]; exact hP
  have hD : va_D A (cMo g a mo1) := by rw [← emo1]; exact hD
  refine lv_aload_n hx hb dX6_goBack_5 rfl (lv_at hl 0 rfl) ?_
  refine va_get (D := g.1) (ci := 6) (v := .int (Mo_hasSnapshot mo1)) (C := RX6) (T := TX6) (N := 15) hx hb hts hinX6 hown hK hP 0 rfl rfl 5 (by decide) (hts (.fieldLink RX6 44 "BarredRungsModel" "hasSnapshot" "Z") (List.mem_of_getElem? (i := 2) rfl)) (fun _ h9 => h9) rfl dX6_goBack_6 ?_
  refine lv_if_ne (tgt := 18) hx hb dX6_goBack_9 (by decide) (fun c2 => ?_) (fun c2 => ?_)
  · have h := if_f c2 h
    refine lv_aload_n hx hb dX6_goBack_18 rfl (lv_at hl 0 rfl) ?_
    obtain ⟨mo3, kmo3, h⟩ := bd_ex h
    refine aft_w (st1 := []) rfl (runV (As := []) (rest := []) ⟨hx, hb, hml, hown, hts⟩ (kX6_save l g a kmo3) (cwV 0 hts gX6_goBack_X6_save rfl rfl rfl hdX6_save ⟨Nat.le_of_ble_eq_true rfl, Nat.le_of_ble_eq_true rfl⟩) hK hN hP hD (va_recv hK hP (ci := 6) (q0 := 0) rfl rfl) rfl hl.1 rfl (Nat.le_of_ble_eq_true rfl) dX6_goBack_19 ⟨Nat.zero_le _, Nat.zero_le _⟩) hD hS hA (fun H locs hP hD hS => ?_)
    refine lv_iconst (v := 0) hx hb dX6_goBack_22 (by decide) ?_
    refine lv_istore_n (lv' := [(1, .int (0 : Int32)), (0, .ref (a 0))]) hx hb dX6_goBack_23 rfl hl (by decide) rfl (fun ls hl => ?_)
    have L24 : ∀ (n : Nat) (v1_4 : Int32) (mo5 : Mo) (mo6 : Mo) (H : Heap) (locs : List Loc) (ls : Array Slot), fX6_goBack_L24 n v1_4 mo5 = some mo6 → va_P g.1 vwCl (cMo g a mo5) H → va_D A (cMo g a mo5) → va_S A su.heap H locs → lv_has ls 2 [(0, .ref (a 0)), (1, .int v1_4)] → (∀ (H : Heap) (locs : List Loc) (ls : Array Slot), va_P g.1 vwCl (cMo g a mo6) H → va_D A (cMo g a mo6) → va_S A su.heap H locs → lv_has ls 2 [(0, .ref (a 0))] → W p l e rX6_goBack su m args below meth c H locs 0 0 Q (F0 m 48 ls [])) → W p l e rX6_goBack su m args below meth c H locs 0 0 Q (F0 m 24 ls []) := by
      intro n
      induction n with
      | zero => intro v1_4 mo5 mo6 H locs ls h hP hD hS hl kx; cases h
      | succ n ih =>
        intro v1_4 mo5 mo6 H locs ls h hP hD hS hl kx
        rw [fX6_goBack_L24] at h
        refine lv_iload_n hx hb dX6_goBack_24 rfl (lv_at hl 1 rfl) ?_
        refine lv_bipush (v := 55) hx hb dX6_goBack_25 (by decide) ?_
        refine lv_icmp_ge (tgt := 48) hx hb dX6_goBack_27 (by decide) (fun c7 => ?_) (fun c7 => ?_)
        · have h := if_t c7 h
          cases some_i h
          exact kx _ _ _ hP hD hS (lv_sub hl [0] rfl)
        · have h := if_f c7 h
          refine lv_aload_n hx hb dX6_goBack_30 rfl (lv_at hl 0 rfl) ?_
          refine va_get (D := g.1) (ci := 6) (v := .ref (a 1)) (C := RX6) (T := TX6) (N := 15) hx hb hts hinX6 hown hK hP 0 rfl rfl 1 (by decide) (hts (.fieldLink RX6 7 "BarredRungsModel" "state" "[I") (List.mem_of_getElem? (i := 3) rfl)) (fun _ h9 => h9) rfl dX6_goBack_31 ?_
          refine lv_iload_n hx hb dX6_goBack_34 rfl (lv_at hl 1 rfl) ?_
          refine lv_aload_n hx hb dX6_goBack_35 rfl (lv_at hl 0 rfl) ?_
          refine va_get (D := g.1) (ci := 6) (v := .ref (a 3)) (C := RX6) (T := TX6) (N := 15) hx hb hts hinX6 hown hK hP 0 rfl rfl 4 (by decide) (hts (.fieldLink RX6 16 "BarredRungsModel" "snapshot" "[I") (List.mem_of_getElem? (i := 4) rfl)) (fun _ h9 => h9) rfl dX6_goBack_36 ?_
          refine lv_iload_n hx hb dX6_goBack_39 rfl (lv_at hl 1 rfl) ?_
          obtain ⟨hi9, h⟩ := ck_ex h
          refine va_iald hx hb hK hP 3 0 rfl rfl (inb_in hi9) dX6_goBack_40 ?_
          obtain ⟨hi9, h⟩ := ck_ex h
          obtain ⟨mo8, emo8, h⟩ := pl_ex h
          refine va_iast hx hb hK hP hD hS 1 0 rfl rfl (inb_in hi9) dX6_goBack_41 (fun H locs hP hD hS => ?_)
          have hP : va_P g.1 vwCl (cMo g a mo8) H := by rw [← emo8]; exact hP
          have hD : va_D A (cMo g a mo8) := by rw [← emo8]; exact hD
          obtain ⟨x9, ex9, h⟩ := pl_ex h
          refine lv_iinc (v := x9) (lv' := [(1, .int x9), (0, .ref (a 0))]) hx hb dX6_goBack_42 hl (k := 1) rfl (by rw [← ex9]; rfl) (by decide) rfl (fun ls hl => ?_)
          refine lv_goto (tgt := 24) hx hb dX6_goBack_45 (by decide) ?_
          exact ih x9 mo8 _ _ _ _ h hP hD hS (lv_sub hl [1, 0] rfl) kx
    obtain ⟨mo10, kmo10, h⟩ := bd_ex h
    refine L24 1000 (0 : Int32) mo3 mo10 _ _ _ kmo10 hP hD hS (lv_sub hl [1, 0] rfl) (fun H locs ls hP hD hS hl => ?_)
    refine lv_aload_n hx hb dX6_goBack_48 rfl (lv_at hl 0 rfl) ?_
    refine va_get (D := g.1) (ci := 6) (v := .ref (a 1)) (C := RX6) (T := TX6) (N := 15) hx hb hts hinX6 hown hK hP 0 rfl rfl 1 (by decide) (hts (.fieldLink RX6 7 "BarredRungsModel" "state" "[I") (List.mem_of_getElem? (i := 3) rfl)) (fun _ h9 => h9) rfl dX6_goBack_49 ?_
    refine lv_iconst (v := 5) hx hb dX6_goBack_52 (by decide) ?_
    obtain ⟨hi9, h⟩ := ck_ex h
    refine va_iald hx hb hK hP 1 0 rfl rfl (inb_in hi9) dX6_goBack_53 ?_
    cases some_i h
    exact hend _ _ _ _ _ hP hD hS (RetOK.i dX6_goBack_54)
  · have h := if_t c2 h
    refine lv_aload_n hx hb dX6_goBack_12 rfl (lv_at hl 0 rfl) ?_
    refine lv_iconst (v := 1) hx hb dX6_goBack_13 (by decide) ?_
    obtain ⟨r11, mo12, kr11, h⟩ := bd2_ex h
    refine aft_w (st1 := [.int r11]) rfl (runV (As := [.int (1 : Int32)]) (rest := []) ⟨hx, hb, hml, hown, hts⟩ (kX6_fails l g a kr11) (cwV 1 hts gX6_goBack_X6_fails rfl rfl rfl hdX6_fails ⟨Nat.le_of_ble_eq_true rfl, Nat.le_of_ble_eq_true rfl⟩) hK hN hP hD (va_recv hK hP (ci := 6) (q0 := 0) rfl rfl) rfl hl.1 rfl (Nat.le_of_ble_eq_true rfl) dX6_goBack_14 ⟨Nat.zero_le _, Nat.zero_le _⟩) hD hS hA (fun H locs hP hD hS => ?_)
    cases some_i h
    exact hend _ _ _ _ _ hP hD hS (RetOK.i dX6_goBack_17)
def fX6_ifPut (mo : Mo) (p1 : Int32) (p2 : Int32) : Option (Int32 × Mo) :=
(pl (Mo_set_thrown mo (0 : Int32)) fun (mo1 : Mo) =>
(bd (fX6_isWord mo1 p1) fun (r2 : Int32) =>
(if r2 = (0 : Int32) then
(bd2 (fX6_fails mo1 (1 : Int32)) fun (r4 : Int32) (mo5 : Mo) =>
(some (r4, mo5)))
else
(bd (fX6_isWord mo1 p2) fun (r6 : Int32) =>
(if r6 = (0 : Int32) then
(bd2 (fX6_fails mo1 (1 : Int32)) fun (r16 : Int32) (mo17 : Mo) =>
(some (r16, mo17)))
else
(if p1 = p2 then
(bd2 (fX6_fails mo1 (2 : Int32)) fun (r14 : Int32) (mo15 : Mo) =>
(some (r14, mo15)))
else
(bd2 (fX6_isBarred mo1 p1) fun (r9 : Int32) (mo10 : Mo) =>
(if r9 = (0 : Int32) then
(bd2 (fX6_fewest mo10 p1 p2 (1 : Int32)) fun (r12 : Int32) (mo13 : Mo) =>
(some (r12, mo13)))
else
(some ((-1 : Int32), mo10))))))))))
abbrev rX6_ifPut : Room := { frames := 6, cells := 0, slots := 0, locals := 137 }
theorem hdX6_ifPut : yX6_ifPut.cls = RX6 ∧ yX6_ifPut.cls ≠ "java/lang/invoke/MethodHandle" ∧ yX6_ifPut.cls ≠ "java/lang/invoke/VarHandle" ∧ (parseMethodDescriptor yX6_ifPut.desc).map (fun d => d.parameters.length) = some 2 := by decide +kernel
set_option maxRecDepth 100000 in
set_option maxHeartbeats 8000000 in
theorem kX6_ifPut (l : Launch) (g : GG) (a : Nat → Nat) {mo : Mo} {p1 : Int32} {p2 : Int32} {res : Int32} {mo' : Mo} (h : fX6_ifPut mo p1 p2 = some (res, mo')) : Cg l g yX6_ifPut wsX6_ifPut rX6_ifPut [.ref (a 0), .int p1, .int p2] (cMo g a mo) (some (.int res)) (cMo g a mo') := by
  refine Cg_of (cc := cX6_ifPut) (maxL := 3) (ret := (some .int)) (by decide +kernel) rfl (Nat.le_of_ble_eq_true rfl) ?_
  intro p e su m args below meth c A Q ls hx hb hml hown hts hK hN hA hnm hP hD hS hl hend
  have hinX6 : ∀ w ∈ u_ws RX6 TX6 15, w ∈ wsX6_ifPut := fun _ h9 => List.mem_cons_of_mem _ (List.mem_append_right _ h9)
  unfold fX6_ifPut at h
  have hl : lv_has ls 3 [(0, .ref (a 0)), (1, .int p1), (2, .int p2)] := hl
  refine lv_aload_n hx hb dX6_ifPut_0 rfl (lv_at hl 0 rfl) ?_
  refine lv_iconst (v := 0) hx hb dX6_ifPut_1 (by decide) ?_
  obtain ⟨mo1, emo1, h⟩ := pl_ex h
  refine va_put (D := g.1) (ci := 6) (v := .int (0 : Int32)) (ty := .int) (C := RX6) (T := TX6) (N := 15) hx hb hts hinX6 tyX6 tyX6_ok nmX6 hown hK hP hD hS 0 rfl rfl 0 (by decide) (hts (.fieldLink RX6 29 "BarredRungsModel" "thrown" "I") (List.mem_of_getElem? (i := 1) rfl)) (fun _ h9 => h9) rfl (by decide +kernel) rfl rfl (Nat.le_of_ble_eq_true rfl) dX6_ifPut_2 (fun H locs hP hD hS => ?_)
  have hP : va_P g.1 vwCl (cMo g a mo1) H := by rw [← emo1]; exact hP
  have hD : va_D A (cMo g a mo1) := by rw [← emo1]; exact hD
  refine lv_aload_n hx hb dX6_ifPut_5 rfl (lv_at hl 0 rfl) ?_
  refine lv_iload_n hx hb dX6_ifPut_6 rfl (lv_at hl 1 rfl) ?_
  obtain ⟨r2, kr2, h⟩ := bd_ex h
  refine aft_w (st1 := [.int r2]) rfl (runV (As := [.int p1]) (rest := []) ⟨hx, hb, hml, hown, hts⟩ (kX6_isWord l g a kr2) (cwV 1 hts gX6_ifPut_X6_isWord rfl rfl rfl hdX6_isWord ⟨Nat.le_of_ble_eq_true rfl, Nat.le_of_ble_eq_true rfl⟩) hK hN hP hD (va_recv hK hP (ci := 6) (q0 := 0) rfl rfl) rfl hl.1 rfl (Nat.le_of_ble_eq_true rfl) dX6_ifPut_7 ⟨Nat.zero_le _, Nat.zero_le _⟩) hD hS hA (fun H locs hP hD hS => ?_)
  refine lv_if_eq (tgt := 21) hx hb dX6_ifPut_10 (by decide) (fun c3 => ?_) (fun c3 => ?_)
  · have h := if_t c3 h
    refine lv_aload_n hx hb dX6_ifPut_21 rfl (lv_at hl 0 rfl) ?_
    refine lv_iconst (v := 1) hx hb dX6_ifPut_22 (by decide) ?_
    obtain ⟨r4, mo5, kr4, h⟩ := bd2_ex h
    refine aft_w (st1 := [.int r4]) rfl (runV (As := [.int (1 : Int32)]) (rest := []) ⟨hx, hb, hml, hown, hts⟩ (kX6_fails l g a kr4) (cwV 1 hts gX6_ifPut_X6_fails rfl rfl rfl hdX6_fails ⟨Nat.le_of_ble_eq_true rfl, Nat.le_of_ble_eq_true rfl⟩) hK hN hP hD (va_recv hK hP (ci := 6) (q0 := 0) rfl rfl) rfl hl.1 rfl (Nat.le_of_ble_eq_true rfl) dX6_ifPut_23 ⟨Nat.zero_le _, Nat.zero_le _⟩) hD hS hA (fun H locs hP hD hS => ?_)
    cases some_i h
    exact hend _ _ _ _ _ hP hD hS (RetOK.i dX6_ifPut_26)
  · have h := if_f c3 h
    refine lv_aload_n hx hb dX6_ifPut_13 rfl (lv_at hl 0 rfl) ?_
    refine lv_iload_n hx hb dX6_ifPut_14 rfl (lv_at hl 2 rfl) ?_
    obtain ⟨r6, kr6, h⟩ := bd_ex h
    refine aft_w (st1 := [.int r6]) rfl (runV (As := [.int p2]) (rest := []) ⟨hx, hb, hml, hown, hts⟩ (kX6_isWord l g a kr6) (cwV 1 hts gX6_ifPut_X6_isWord rfl rfl rfl hdX6_isWord ⟨Nat.le_of_ble_eq_true rfl, Nat.le_of_ble_eq_true rfl⟩) hK hN hP hD (va_recv hK hP (ci := 6) (q0 := 0) rfl rfl) rfl hl.1 rfl (Nat.le_of_ble_eq_true rfl) dX6_ifPut_15 ⟨Nat.zero_le _, Nat.zero_le _⟩) hD hS hA (fun H locs hP hD hS => ?_)
    refine lv_if_ne (tgt := 27) hx hb dX6_ifPut_18 (by decide) (fun c7 => ?_) (fun c7 => ?_)
    · have h := if_f c7 h
      refine lv_iload_n hx hb dX6_ifPut_27 rfl (lv_at hl 1 rfl) ?_
      refine lv_iload_n hx hb dX6_ifPut_28 rfl (lv_at hl 2 rfl) ?_
      refine lv_icmp_ne (tgt := 38) hx hb dX6_ifPut_29 (by decide) (fun c8 => ?_) (fun c8 => ?_)
      · have h := if_f c8 h
        refine lv_aload_n hx hb dX6_ifPut_38 rfl (lv_at hl 0 rfl) ?_
        refine lv_iload_n hx hb dX6_ifPut_39 rfl (lv_at hl 1 rfl) ?_
        obtain ⟨r9, mo10, kr9, h⟩ := bd2_ex h
        refine aft_w (st1 := [.int r9]) rfl (runV (As := [.int p1]) (rest := []) ⟨hx, hb, hml, hown, hts⟩ (kX6_isBarred l g a kr9) (cwV 1 hts gX6_ifPut_X6_isBarred rfl rfl rfl hdX6_isBarred ⟨Nat.le_of_ble_eq_true rfl, Nat.le_of_ble_eq_true rfl⟩) hK hN hP hD (va_recv hK hP (ci := 6) (q0 := 0) rfl rfl) rfl hl.1 rfl (Nat.le_of_ble_eq_true rfl) dX6_ifPut_40 ⟨Nat.zero_le _, Nat.zero_le _⟩) hD hS hA (fun H locs hP hD hS => ?_)
        refine lv_if_eq (tgt := 50) hx hb dX6_ifPut_43 (by decide) (fun c11 => ?_) (fun c11 => ?_)
        · have h := if_t c11 h
          refine lv_aload_n hx hb dX6_ifPut_50 rfl (lv_at hl 0 rfl) ?_
          refine lv_iload_n hx hb dX6_ifPut_51 rfl (lv_at hl 1 rfl) ?_
          refine lv_iload_n hx hb dX6_ifPut_52 rfl (lv_at hl 2 rfl) ?_
          refine lv_iconst (v := 1) hx hb dX6_ifPut_53 (by decide) ?_
          obtain ⟨r12, mo13, kr12, h⟩ := bd2_ex h
          refine aft_w (st1 := [.int r12]) rfl (runV (As := [.int p1, .int p2, .int (1 : Int32)]) (rest := []) ⟨hx, hb, hml, hown, hts⟩ (kX6_fewest l g a kr12) (cwV 3 hts gX6_ifPut_X6_fewest rfl rfl rfl hdX6_fewest ⟨Nat.le_of_ble_eq_true rfl, Nat.le_of_ble_eq_true rfl⟩) hK hN hP hD (va_recv hK hP (ci := 6) (q0 := 0) rfl rfl) rfl hl.1 rfl (Nat.le_of_ble_eq_true rfl) dX6_ifPut_54 ⟨Nat.zero_le _, Nat.zero_le _⟩) hD hS hA (fun H locs hP hD hS => ?_)
          cases some_i h
          exact hend _ _ _ _ _ hP hD hS (RetOK.i dX6_ifPut_57)
        · have h := if_f c11 h
          refine lv_iconst (v := -1) hx hb dX6_ifPut_46 (by decide) ?_
          refine lv_goto (tgt := 57) hx hb dX6_ifPut_47 (by decide) ?_
          cases some_i h
          exact hend _ _ _ _ _ hP hD hS (RetOK.i dX6_ifPut_57)
      · have h := if_t c8 h
        refine lv_aload_n hx hb dX6_ifPut_32 rfl (lv_at hl 0 rfl) ?_
        refine lv_iconst (v := 2) hx hb dX6_ifPut_33 (by decide) ?_
        obtain ⟨r14, mo15, kr14, h⟩ := bd2_ex h
        refine aft_w (st1 := [.int r14]) rfl (runV (As := [.int (2 : Int32)]) (rest := []) ⟨hx, hb, hml, hown, hts⟩ (kX6_fails l g a kr14) (cwV 1 hts gX6_ifPut_X6_fails rfl rfl rfl hdX6_fails ⟨Nat.le_of_ble_eq_true rfl, Nat.le_of_ble_eq_true rfl⟩) hK hN hP hD (va_recv hK hP (ci := 6) (q0 := 0) rfl rfl) rfl hl.1 rfl (Nat.le_of_ble_eq_true rfl) dX6_ifPut_34 ⟨Nat.zero_le _, Nat.zero_le _⟩) hD hS hA (fun H locs hP hD hS => ?_)
        cases some_i h
        exact hend _ _ _ _ _ hP hD hS (RetOK.i dX6_ifPut_37)
    · have h := if_t c7 h
      refine lv_aload_n hx hb dX6_ifPut_21 rfl (lv_at hl 0 rfl) ?_
      refine lv_iconst (v := 1) hx hb dX6_ifPut_22 (by decide) ?_
      obtain ⟨r16, mo17, kr16, h⟩ := bd2_ex h
      refine aft_w (st1 := [.int r16]) rfl (runV (As := [.int (1 : Int32)]) (rest := []) ⟨hx, hb, hml, hown, hts⟩ (kX6_fails l g a kr16) (cwV 1 hts gX6_ifPut_X6_fails rfl rfl rfl hdX6_fails ⟨Nat.le_of_ble_eq_true rfl, Nat.le_of_ble_eq_true rfl⟩) hK hN hP hD (va_recv hK hP (ci := 6) (q0 := 0) rfl rfl) rfl hl.1 rfl (Nat.le_of_ble_eq_true rfl) dX6_ifPut_23 ⟨Nat.zero_le _, Nat.zero_le _⟩) hD hS hA (fun H locs hP hD hS => ?_)
      cases some_i h
      exact hend _ _ _ _ _ hP hD hS (RetOK.i dX6_ifPut_26)
def fX6_keep_L7 : Nat → Int32 → Mo → Option (Mo)
  | 0, _, _ => none
  | n + 1, v1_2, mo3 =>
    (if (55 : Int32) ≤ v1_2 then
    (some mo3)
    else
    (ck (inb v1_2 55)
    (ck (inb v1_2 55)
    (pl (Mo_set_snapshot mo3 (upd (Mo_snapshot mo3) v1_2.toNatClampNeg (Mo_state mo3 v1_2.toNatClampNeg))) fun (mo6 : Mo) =>
    (pl ((v1_2 + (1 : Int32))) fun (x7 : Int32) =>
    (fX6_keep_L7 n x7 mo6))))))
def fX6_keep (mo : Mo) : Option (Int32 × Mo) :=
(pl (Mo_set_thrown mo (0 : Int32)) fun (mo1 : Mo) =>
(bd (fX6_keep_L7 1000 (0 : Int32) mo1) fun (mo8 : Mo) =>
(pl (Mo_set_hasSnapshot mo8 (1 : Int32)) fun (mo9 : Mo) =>
(ck (inb (5 : Int32) 55)
(some ((Mo_state mo9 (5 : Int32).toNatClampNeg), mo9))))))
abbrev rX6_keep : Room := { frames := 0, cells := 0, slots := 0, locals := 0 }
theorem hdX6_keep : yX6_keep.cls = RX6 ∧ yX6_keep.cls ≠ "java/lang/invoke/MethodHandle" ∧ yX6_keep.cls ≠ "java/lang/invoke/VarHandle" ∧ (parseMethodDescriptor yX6_keep.desc).map (fun d => d.parameters.length) = some 0 := by decide +kernel
set_option maxRecDepth 100000 in
set_option maxHeartbeats 8000000 in
theorem kX6_keep (l : Launch) (g : GG) (a : Nat → Nat) {mo : Mo} {res : Int32} {mo' : Mo} (h : fX6_keep mo = some (res, mo')) : Cg l g yX6_keep wsX6_keep rX6_keep [.ref (a 0)] (cMo g a mo) (some (.int res)) (cMo g a mo') := by
  refine Cg_of (cc := cX6_keep) (maxL := 2) (ret := (some .int)) (by decide +kernel) rfl (Nat.le_of_ble_eq_true rfl) ?_
  intro p e su m args below meth c A Q ls hx hb hml hown hts hK hN hA hnm hP hD hS hl hend
  have hinX6 : ∀ w ∈ u_ws RX6 TX6 15, w ∈ wsX6_keep := fun _ h9 => List.mem_cons_of_mem _ (List.mem_append_right _ h9)
  unfold fX6_keep at h
  have hl : lv_has ls 2 [(0, .ref (a 0))] := hl
  refine lv_aload_n hx hb dX6_keep_0 rfl (lv_at hl 0 rfl) ?_
  refine lv_iconst (v := 0) hx hb dX6_keep_1 (by decide) ?_
  obtain ⟨mo1, emo1, h⟩ := pl_ex h
  refine va_put (D := g.1) (ci := 6) (v := .int (0 : Int32)) (ty := .int) (C := RX6) (T := TX6) (N := 15) hx hb hts hinX6 tyX6 tyX6_ok nmX6 hown hK hP hD hS 0 rfl rfl 0 (by decide) (hts (.fieldLink RX6 29 "BarredRungsModel" "thrown" "I") (List.mem_of_getElem? (i := 1) rfl)) (fun _ h9 => h9) rfl (by decide +kernel) rfl rfl (Nat.le_of_ble_eq_true rfl) dX6_keep_2 (fun H locs hP hD hS => ?_)
  have hP : va_P g.1 vwCl (cMo g a mo1) H := by rw [← emo1]; exact hP
  have hD : va_D A (cMo g a mo1) := by rw [← emo1]; exact hD
  refine lv_iconst (v := 0) hx hb dX6_keep_5 (by decide) ?_
  refine lv_istore_n (lv' := [(1, .int (0 : Int32)), (0, .ref (a 0))]) hx hb dX6_keep_6 rfl hl (by decide) rfl (fun ls hl => ?_)
  have L7 : ∀ (n : Nat) (v1_2 : Int32) (mo3 : Mo) (mo4 : Mo) (H : Heap) (locs : List Loc) (ls : Array Slot), fX6_keep_L7 n v1_2 mo3 = some mo4 → va_P g.1 vwCl (cMo g a mo3) H → va_D A (cMo g a mo3) → va_S A su.heap H locs → lv_has ls 2 [(0, .ref (a 0)), (1, .int v1_2)] → (∀ (H : Heap) (locs : List Loc) (ls : Array Slot), va_P g.1 vwCl (cMo g a mo4) H → va_D A (cMo g a mo4) → va_S A su.heap H locs → lv_has ls 2 [(0, .ref (a 0))] → W p l e rX6_keep su m args below meth c H locs 0 0 Q (F0 m 31 ls [])) → W p l e rX6_keep su m args below meth c H locs 0 0 Q (F0 m 7 ls []) := by
    intro n
    induction n with
    | zero => intro v1_2 mo3 mo4 H locs ls h hP hD hS hl kx; cases h
    | succ n ih =>
      intro v1_2 mo3 mo4 H locs ls h hP hD hS hl kx
      rw [fX6_keep_L7] at h
      refine lv_iload_n hx hb dX6_keep_7 rfl (lv_at hl 1 rfl) ?_
      refine lv_bipush (v := 55) hx hb dX6_keep_8 (by decide) ?_
      refine lv_icmp_ge (tgt := 31) hx hb dX6_keep_10 (by decide) (fun c5 => ?_) (fun c5 => ?_)
      · have h := if_t c5 h
        cases some_i h
        exact kx _ _ _ hP hD hS (lv_sub hl [0] rfl)
      · have h := if_f c5 h
        refine lv_aload_n hx hb dX6_keep_13 rfl (lv_at hl 0 rfl) ?_
        refine va_get (D := g.1) (ci := 6) (v := .ref (a 3)) (C := RX6) (T := TX6) (N := 15) hx hb hts hinX6 hown hK hP 0 rfl rfl 4 (by decide) (hts (.fieldLink RX6 16 "BarredRungsModel" "snapshot" "[I") (List.mem_of_getElem? (i := 2) rfl)) (fun _ h9 => h9) rfl dX6_keep_14 ?_
        refine lv_iload_n hx hb dX6_keep_17 rfl (lv_at hl 1 rfl) ?_
        refine lv_aload_n hx hb dX6_keep_18 rfl (lv_at hl 0 rfl) ?_
        refine va_get (D := g.1) (ci := 6) (v := .ref (a 1)) (C := RX6) (T := TX6) (N := 15) hx hb hts hinX6 hown hK hP 0 rfl rfl 1 (by decide) (hts (.fieldLink RX6 7 "BarredRungsModel" "state" "[I") (List.mem_of_getElem? (i := 3) rfl)) (fun _ h9 => h9) rfl dX6_keep_19 ?_
        refine lv_iload_n hx hb dX6_keep_22 rfl (lv_at hl 1 rfl) ?_
        obtain ⟨hi9, h⟩ := ck_ex h
        refine va_iald hx hb hK hP 1 0 rfl rfl (inb_in hi9) dX6_keep_23 ?_
        obtain ⟨hi9, h⟩ := ck_ex h
        obtain ⟨mo6, emo6, h⟩ := pl_ex h
        refine va_iast hx hb hK hP hD hS 3 0 rfl rfl (inb_in hi9) dX6_keep_24 (fun H locs hP hD hS => ?_)
        have hP : va_P g.1 vwCl (cMo g a mo6) H := by rw [← emo6]; exact hP
        have hD : va_D A (cMo g a mo6) := by rw [← emo6]; exact hD
        obtain ⟨x7, ex7, h⟩ := pl_ex h
        refine lv_iinc (v := x7) (lv' := [(1, .int x7), (0, .ref (a 0))]) hx hb dX6_keep_25 hl (k := 1) rfl (by rw [← ex7]; rfl) (by decide) rfl (fun ls hl => ?_)
        refine lv_goto (tgt := 7) hx hb dX6_keep_28 (by decide) ?_
        exact ih x7 mo6 _ _ _ _ h hP hD hS (lv_sub hl [1, 0] rfl) kx
  obtain ⟨mo8, kmo8, h⟩ := bd_ex h
  refine L7 1000 (0 : Int32) mo1 mo8 _ _ _ kmo8 hP hD hS (lv_sub hl [1, 0] rfl) (fun H locs ls hP hD hS hl => ?_)
  refine lv_aload_n hx hb dX6_keep_31 rfl (lv_at hl 0 rfl) ?_
  refine lv_iconst (v := 1) hx hb dX6_keep_32 (by decide) ?_
  obtain ⟨mo9, emo9, h⟩ := pl_ex h
  refine va_put (D := g.1) (ci := 6) (v := .int (1 : Int32)) (ty := .boolean) (C := RX6) (T := TX6) (N := 15) hx hb hts hinX6 tyX6 tyX6_ok nmX6 hown hK hP hD hS 0 rfl rfl 5 (by decide) (hts (.fieldLink RX6 44 "BarredRungsModel" "hasSnapshot" "Z") (List.mem_of_getElem? (i := 4) rfl)) (fun _ h9 => h9) rfl (by decide +kernel) rfl rfl (Nat.le_of_ble_eq_true rfl) dX6_keep_33 (fun H locs hP hD hS => ?_)
  have hP : va_P g.1 vwCl (cMo g a mo9) H := by rw [← emo9]; exact hP
  have hD : va_D A (cMo g a mo9) := by rw [← emo9]; exact hD
  refine lv_aload_n hx hb dX6_keep_36 rfl (lv_at hl 0 rfl) ?_
  refine va_get (D := g.1) (ci := 6) (v := .ref (a 1)) (C := RX6) (T := TX6) (N := 15) hx hb hts hinX6 hown hK hP 0 rfl rfl 1 (by decide) (hts (.fieldLink RX6 7 "BarredRungsModel" "state" "[I") (List.mem_of_getElem? (i := 3) rfl)) (fun _ h9 => h9) rfl dX6_keep_37 ?_
  refine lv_iconst (v := 5) hx hb dX6_keep_40 (by decide) ?_
  obtain ⟨hi9, h⟩ := ck_ex h
  refine va_iald hx hb hK hP 1 0 rfl rfl (inb_in hi9) dX6_keep_41 ?_
  cases some_i h
  exact hend _ _ _ _ _ hP hD hS (RetOK.i dX6_keep_42)
def fX6_leave (mo : Mo) (p1 : Int32) : Option (Int32 × Mo) :=
(pl (Mo_set_thrown mo (0 : Int32)) fun (mo1 : Mo) =>
(bd (fX6_isClimber p1) fun (r2 : Int32) =>
(if r2 = (0 : Int32) then
(bd2 (fX6_fails mo1 (1 : Int32)) fun (r11 : Int32) (mo12 : Mo) =>
(some (r11, mo12)))
else
(bd (fX6_of mo1 p1 (0 : Int32)) fun (r4 : Int32) =>
(if r4 = (-1 : Int32) then
(bd2 (fX6_fails mo1 (2 : Int32)) fun (r9 : Int32) (mo10 : Mo) =>
(some (r9, mo10)))
else
(bd (fX6_save mo1) fun (mo6 : Mo) =>
(bd (fX6_of mo6 p1 (0 : Int32)) fun (r7 : Int32) =>
(bd (fX6_takeOff mo6 p1) fun (mo8 : Mo) =>
(some (r7, mo8))))))))))
abbrev rX6_leave : Room := { frames := 2, cells := 0, slots := 0, locals := 44 }
theorem hdX6_leave : yX6_leave.cls = RX6 ∧ yX6_leave.cls ≠ "java/lang/invoke/MethodHandle" ∧ yX6_leave.cls ≠ "java/lang/invoke/VarHandle" ∧ (parseMethodDescriptor yX6_leave.desc).map (fun d => d.parameters.length) = some 1 := by decide +kernel
set_option maxRecDepth 100000 in
set_option maxHeartbeats 8000000 in
theorem kX6_leave (l : Launch) (g : GG) (a : Nat → Nat) {mo : Mo} {p1 : Int32} {res : Int32} {mo' : Mo} (h : fX6_leave mo p1 = some (res, mo')) : Cg l g yX6_leave wsX6_leave rX6_leave [.ref (a 0), .int p1] (cMo g a mo) (some (.int res)) (cMo g a mo') := by
  refine Cg_of (cc := cX6_leave) (maxL := 3) (ret := (some .int)) (by decide +kernel) rfl (Nat.le_of_ble_eq_true rfl) ?_
  intro p e su m args below meth c A Q ls hx hb hml hown hts hK hN hA hnm hP hD hS hl hend
  have hinX6 : ∀ w ∈ u_ws RX6 TX6 15, w ∈ wsX6_leave := fun _ h9 => List.mem_cons_of_mem _ (List.mem_append_right _ h9)
  unfold fX6_leave at h
  have hl : lv_has ls 3 [(0, .ref (a 0)), (1, .int p1)] := hl
  refine lv_aload_n hx hb dX6_leave_0 rfl (lv_at hl 0 rfl) ?_
  refine lv_iconst (v := 0) hx hb dX6_leave_1 (by decide) ?_
  obtain ⟨mo1, emo1, h⟩ := pl_ex h
  refine va_put (D := g.1) (ci := 6) (v := .int (0 : Int32)) (ty := .int) (C := RX6) (T := TX6) (N := 15) hx hb hts hinX6 tyX6 tyX6_ok nmX6 hown hK hP hD hS 0 rfl rfl 0 (by decide) (hts (.fieldLink RX6 29 "BarredRungsModel" "thrown" "I") (List.mem_of_getElem? (i := 1) rfl)) (fun _ h9 => h9) rfl (by decide +kernel) rfl rfl (Nat.le_of_ble_eq_true rfl) dX6_leave_2 (fun H locs hP hD hS => ?_)
  have hP : va_P g.1 vwCl (cMo g a mo1) H := by rw [← emo1]; exact hP
  have hD : va_D A (cMo g a mo1) := by rw [← emo1]; exact hD
  refine lv_iload_n hx hb dX6_leave_5 rfl (lv_at hl 1 rfl) ?_
  obtain ⟨r2, kr2, h⟩ := bd_ex h
  refine aft_e (st1 := [.int r2]) rfl (runS (As := [.int p1]) (rest := []) ⟨hx, hb, hml, hown, hts⟩ (kX6_isClimber l g kr2) (va_cwS 1 hts gX6_leave_X6_isClimber rfl rfl rfl hdX6_isClimber.2 ⟨Nat.le_of_ble_eq_true rfl, Nat.le_of_ble_eq_true rfl⟩) hK hN nilP (nilD (A := A)) rfl hl.1 rfl (Nat.le_of_ble_eq_true rfl) dX6_leave_6 ⟨Nat.zero_le _, Nat.zero_le _⟩) hP hS hA (fun H locs hP hS => ?_)
  refine lv_if_ne (tgt := 18) hx hb dX6_leave_9 (by decide) (fun c3 => ?_) (fun c3 => ?_)
  · have h := if_f c3 h
    refine lv_aload_n hx hb dX6_leave_18 rfl (lv_at hl 0 rfl) ?_
    refine lv_iload_n hx hb dX6_leave_19 rfl (lv_at hl 1 rfl) ?_
    refine lv_iconst (v := 0) hx hb dX6_leave_20 (by decide) ?_
    obtain ⟨r4, kr4, h⟩ := bd_ex h
    refine aft_w (st1 := [.int r4]) rfl (runV (As := [.int p1, .int (0 : Int32)]) (rest := []) ⟨hx, hb, hml, hown, hts⟩ (kX6_of l g a kr4) (cwV 2 hts gX6_leave_X6_of rfl rfl rfl hdX6_of ⟨Nat.le_of_ble_eq_true rfl, Nat.le_of_ble_eq_true rfl⟩) hK hN hP hD (va_recv hK hP (ci := 6) (q0 := 0) rfl rfl) rfl hl.1 rfl (Nat.le_of_ble_eq_true rfl) dX6_leave_21 ⟨Nat.zero_le _, Nat.zero_le _⟩) hD hS hA (fun H locs hP hD hS => ?_)
    refine lv_iconst (v := -1) hx hb dX6_leave_24 (by decide) ?_
    refine lv_icmp_ne (tgt := 34) hx hb dX6_leave_25 (by decide) (fun c5 => ?_) (fun c5 => ?_)
    · have h := if_f c5 h
      refine lv_aload_n hx hb dX6_leave_34 rfl (lv_at hl 0 rfl) ?_
      obtain ⟨mo6, kmo6, h⟩ := bd_ex h
      refine aft_w (st1 := []) rfl (runV (As := []) (rest := []) ⟨hx, hb, hml, hown, hts⟩ (kX6_save l g a kmo6) (cwV 0 hts gX6_leave_X6_save rfl rfl rfl hdX6_save ⟨Nat.le_of_ble_eq_true rfl, Nat.le_of_ble_eq_true rfl⟩) hK hN hP hD (va_recv hK hP (ci := 6) (q0 := 0) rfl rfl) rfl hl.1 rfl (Nat.le_of_ble_eq_true rfl) dX6_leave_35 ⟨Nat.zero_le _, Nat.zero_le _⟩) hD hS hA (fun H locs hP hD hS => ?_)
      refine lv_aload_n hx hb dX6_leave_38 rfl (lv_at hl 0 rfl) ?_
      refine lv_iload_n hx hb dX6_leave_39 rfl (lv_at hl 1 rfl) ?_
      refine lv_iconst (v := 0) hx hb dX6_leave_40 (by decide) ?_
      obtain ⟨r7, kr7, h⟩ := bd_ex h
      refine aft_w (st1 := [.int r7]) rfl (runV (As := [.int p1, .int (0 : Int32)]) (rest := []) ⟨hx, hb, hml, hown, hts⟩ (kX6_of l g a kr7) (cwV 2 hts gX6_leave_X6_of rfl rfl rfl hdX6_of ⟨Nat.le_of_ble_eq_true rfl, Nat.le_of_ble_eq_true rfl⟩) hK hN hP hD (va_recv hK hP (ci := 6) (q0 := 0) rfl rfl) rfl hl.1 rfl (Nat.le_of_ble_eq_true rfl) dX6_leave_41 ⟨Nat.zero_le _, Nat.zero_le _⟩) hD hS hA (fun H locs hP hD hS => ?_)
      refine lv_istore_n (lv' := [(2, .int r7), (0, .ref (a 0)), (1, .int p1)]) hx hb dX6_leave_44 rfl hl (by decide) rfl (fun ls hl => ?_)
      refine lv_aload_n hx hb dX6_leave_45 rfl (lv_at hl 1 rfl) ?_
      refine lv_iload_n hx hb dX6_leave_46 rfl (lv_at hl 2 rfl) ?_
      obtain ⟨mo8, kmo8, h⟩ := bd_ex h
      refine aft_w (st1 := []) rfl (runV (As := [.int p1]) (rest := []) ⟨hx, hb, hml, hown, hts⟩ (kX6_takeOff l g a kmo8) (cwV 1 hts gX6_leave_X6_takeOff rfl rfl rfl hdX6_takeOff ⟨Nat.le_of_ble_eq_true rfl, Nat.le_of_ble_eq_true rfl⟩) hK hN hP hD (va_recv hK hP (ci := 6) (q0 := 0) rfl rfl) rfl hl.1 rfl (Nat.le_of_ble_eq_true rfl) dX6_leave_47 ⟨Nat.zero_le _, Nat.zero_le _⟩) hD hS hA (fun H locs hP hD hS => ?_)
      refine lv_iload_n hx hb dX6_leave_50 rfl (lv_at hl 0 rfl) ?_
      cases some_i h
      exact hend _ _ _ _ _ hP hD hS (RetOK.i dX6_leave_51)
    · have h := if_t c5 h
      refine lv_aload_n hx hb dX6_leave_28 rfl (lv_at hl 0 rfl) ?_
      refine lv_iconst (v := 2) hx hb dX6_leave_29 (by decide) ?_
      obtain ⟨r9, mo10, kr9, h⟩ := bd2_ex h
      refine aft_w (st1 := [.int r9]) rfl (runV (As := [.int (2 : Int32)]) (rest := []) ⟨hx, hb, hml, hown, hts⟩ (kX6_fails l g a kr9) (cwV 1 hts gX6_leave_X6_fails rfl rfl rfl hdX6_fails ⟨Nat.le_of_ble_eq_true rfl, Nat.le_of_ble_eq_true rfl⟩) hK hN hP hD (va_recv hK hP (ci := 6) (q0 := 0) rfl rfl) rfl hl.1 rfl (Nat.le_of_ble_eq_true rfl) dX6_leave_30 ⟨Nat.zero_le _, Nat.zero_le _⟩) hD hS hA (fun H locs hP hD hS => ?_)
      cases some_i h
      exact hend _ _ _ _ _ hP hD hS (RetOK.i dX6_leave_33)
  · have h := if_t c3 h
    refine lv_aload_n hx hb dX6_leave_12 rfl (lv_at hl 0 rfl) ?_
    refine lv_iconst (v := 1) hx hb dX6_leave_13 (by decide) ?_
    obtain ⟨r11, mo12, kr11, h⟩ := bd2_ex h
    refine aft_w (st1 := [.int r11]) rfl (runV (As := [.int (1 : Int32)]) (rest := []) ⟨hx, hb, hml, hown, hts⟩ (kX6_fails l g a kr11) (cwV 1 hts gX6_leave_X6_fails rfl rfl rfl hdX6_fails ⟨Nat.le_of_ble_eq_true rfl, Nat.le_of_ble_eq_true rfl⟩) hK hN hP hD (va_recv hK hP (ci := 6) (q0 := 0) rfl rfl) rfl hl.1 rfl (Nat.le_of_ble_eq_true rfl) dX6_leave_14 ⟨Nat.zero_le _, Nat.zero_le _⟩) hD hS hA (fun H locs hP hD hS => ?_)
    cases some_i h
    exact hend _ _ _ _ _ hP hD hS (RetOK.i dX6_leave_17)
def fX6_linkShare (mo : Mo) : Option (UInt64 × Mo) :=
(pl (Mo_set_thrown mo (0 : Int32)) fun (mo1 : Mo) =>
(bd2 (fX6_share mo1) fun (r2 : UInt64) (mo3 : Mo) =>
(some (r2, mo3))))
abbrev rX6_linkShare : Room := { frames := 6, cells := 0, slots := 0, locals := 134 }
theorem hdX6_linkShare : yX6_linkShare.cls = RX6 ∧ yX6_linkShare.cls ≠ "java/lang/invoke/MethodHandle" ∧ yX6_linkShare.cls ≠ "java/lang/invoke/VarHandle" ∧ (parseMethodDescriptor yX6_linkShare.desc).map (fun d => d.parameters.length) = some 0 := by decide +kernel
set_option maxRecDepth 100000 in
set_option maxHeartbeats 8000000 in
theorem kX6_linkShare (l : Launch) (g : GG) (a : Nat → Nat) {mo : Mo} {res : UInt64} {mo' : Mo} (h : fX6_linkShare mo = some (res, mo')) : Cg l g yX6_linkShare wsX6_linkShare rX6_linkShare [.ref (a 0)] (cMo g a mo) (some (.double res)) (cMo g a mo') := by
  refine Cg_of (cc := cX6_linkShare) (maxL := 1) (ret := (some .double)) (by decide +kernel) rfl (Nat.le_of_ble_eq_true rfl) ?_
  intro p e su m args below meth c A Q ls hx hb hml hown hts hK hN hA hnm hP hD hS hl hend
  have hinX6 : ∀ w ∈ u_ws RX6 TX6 15, w ∈ wsX6_linkShare := fun _ h9 => List.mem_cons_of_mem _ (List.mem_append_right _ h9)
  unfold fX6_linkShare at h
  have hl : lv_has ls 1 [(0, .ref (a 0))] := hl
  refine lv_aload_n hx hb dX6_linkShare_0 rfl (lv_at hl 0 rfl) ?_
  refine lv_iconst (v := 0) hx hb dX6_linkShare_1 (by decide) ?_
  obtain ⟨mo1, emo1, h⟩ := pl_ex h
  refine va_put (D := g.1) (ci := 6) (v := .int (0 : Int32)) (ty := .int) (C := RX6) (T := TX6) (N := 15) hx hb hts hinX6 tyX6 tyX6_ok nmX6 hown hK hP hD hS 0 rfl rfl 0 (by decide) (hts (.fieldLink RX6 29 "BarredRungsModel" "thrown" "I") (List.mem_of_getElem? (i := 1) rfl)) (fun _ h9 => h9) rfl (by decide +kernel) rfl rfl (Nat.le_of_ble_eq_true rfl) dX6_linkShare_2 (fun H locs hP hD hS => ?_)
  have hP : va_P g.1 vwCl (cMo g a mo1) H := by rw [← emo1]; exact hP
  have hD : va_D A (cMo g a mo1) := by rw [← emo1]; exact hD
  refine lv_aload_n hx hb dX6_linkShare_5 rfl (lv_at hl 0 rfl) ?_
  obtain ⟨r2, mo3, kr2, h⟩ := bd2_ex h
  refine aft_w (st1 := [.double r2]) rfl (runV (As := []) (rest := []) ⟨hx, hb, hml, hown, hts⟩ (kX6_share l g a kr2) (cwV 0 hts gX6_linkShare_X6_share rfl rfl rfl hdX6_share ⟨Nat.le_of_ble_eq_true rfl, Nat.le_of_ble_eq_true rfl⟩) hK hN hP hD (va_recv hK hP (ci := 6) (q0 := 0) rfl rfl) rfl hl.1 rfl (Nat.le_of_ble_eq_true rfl) dX6_linkShare_6 ⟨Nat.zero_le _, Nat.zero_le _⟩) hD hS hA (fun H locs hP hD hS => ?_)
  cases some_i h
  exact hend _ _ _ _ _ hP hD hS (RetOK.d dX6_linkShare_9)
def fX6_meanLadder (mo : Mo) : Option (UInt32 × Mo) :=
(pl (Mo_set_thrown mo (0 : Int32)) fun (mo1 : Mo) =>
(bd (fX6_mean mo1) fun (r2 : UInt32) =>
(some (r2, mo1))))
abbrev rX6_meanLadder : Room := { frames := 1, cells := 0, slots := 0, locals := 20 }
theorem hdX6_meanLadder : yX6_meanLadder.cls = RX6 ∧ yX6_meanLadder.cls ≠ "java/lang/invoke/MethodHandle" ∧ yX6_meanLadder.cls ≠ "java/lang/invoke/VarHandle" ∧ (parseMethodDescriptor yX6_meanLadder.desc).map (fun d => d.parameters.length) = some 0 := by decide +kernel
set_option maxRecDepth 100000 in
set_option maxHeartbeats 8000000 in
theorem kX6_meanLadder (l : Launch) (g : GG) (a : Nat → Nat) {mo : Mo} {res : UInt32} {mo' : Mo} (h : fX6_meanLadder mo = some (res, mo')) : Cg l g yX6_meanLadder wsX6_meanLadder rX6_meanLadder [.ref (a 0)] (cMo g a mo) (some (.float res)) (cMo g a mo') := by
  refine Cg_of (cc := cX6_meanLadder) (maxL := 1) (ret := (some .float)) (by decide +kernel) rfl (Nat.le_of_ble_eq_true rfl) ?_
  intro p e su m args below meth c A Q ls hx hb hml hown hts hK hN hA hnm hP hD hS hl hend
  have hinX6 : ∀ w ∈ u_ws RX6 TX6 15, w ∈ wsX6_meanLadder := fun _ h9 => List.mem_cons_of_mem _ (List.mem_append_right _ h9)
  unfold fX6_meanLadder at h
  have hl : lv_has ls 1 [(0, .ref (a 0))] := hl
  refine lv_aload_n hx hb dX6_meanLadder_0 rfl (lv_at hl 0 rfl) ?_
  refine lv_iconst (v := 0) hx hb dX6_meanLadder_1 (by decide) ?_
  obtain ⟨mo1, emo1, h⟩ := pl_ex h
  refine va_put (D := g.1) (ci := 6) (v := .int (0 : Int32)) (ty := .int) (C := RX6) (T := TX6) (N := 15) hx hb hts hinX6 tyX6 tyX6_ok nmX6 hown hK hP hD hS 0 rfl rfl 0 (by decide) (hts (.fieldLink RX6 29 "BarredRungsModel" "thrown" "I") (List.mem_of_getElem? (i := 1) rfl)) (fun _ h9 => h9) rfl (by decide +kernel) rfl rfl (Nat.le_of_ble_eq_true rfl) dX6_meanLadder_2 (fun H locs hP hD hS => ?_)
  have hP : va_P g.1 vwCl (cMo g a mo1) H := by rw [← emo1]; exact hP
  have hD : va_D A (cMo g a mo1) := by rw [← emo1]; exact hD
  refine lv_aload_n hx hb dX6_meanLadder_5 rfl (lv_at hl 0 rfl) ?_
  obtain ⟨r2, kr2, h⟩ := bd_ex h
  refine aft_w (st1 := [.float r2]) rfl (runV (As := []) (rest := []) ⟨hx, hb, hml, hown, hts⟩ (kX6_mean l g a kr2) (cwV 0 hts gX6_meanLadder_X6_mean rfl rfl rfl hdX6_mean ⟨Nat.le_of_ble_eq_true rfl, Nat.le_of_ble_eq_true rfl⟩) hK hN hP hD (va_recv hK hP (ci := 6) (q0 := 0) rfl rfl) rfl hl.1 rfl (Nat.le_of_ble_eq_true rfl) dX6_meanLadder_6 ⟨Nat.zero_le _, Nat.zero_le _⟩) hD hS hA (fun H locs hP hD hS => ?_)
  cases some_i h
  exact hend _ _ _ _ _ hP hD hS (RetOK.f dX6_meanLadder_9)
def fX6_plain (mo : Mo) (p1 : Int32) (p2 : Int32) : Option (Int32 × Mo) :=
(pl (Mo_set_thrown mo (0 : Int32)) fun (mo1 : Mo) =>
(bd (fX6_isWord mo1 p1) fun (r2 : Int32) =>
(if r2 = (0 : Int32) then
(bd2 (fX6_fails mo1 (1 : Int32)) fun (r4 : Int32) (mo5 : Mo) =>
(some (r4, mo5)))
else
(bd (fX6_isWord mo1 p2) fun (r6 : Int32) =>
(if r6 = (0 : Int32) then
(bd2 (fX6_fails mo1 (1 : Int32)) fun (r8 : Int32) (mo9 : Mo) =>
(some (r8, mo9)))
else
(bd2 (fX6_tellsPlain mo1 p1 p2) fun (r10 : Int32) (mo11 : Mo) =>
(some (r10, mo11))))))))
abbrev rX6_plain : Room := { frames := 5, cells := 0, slots := 0, locals := 115 }
theorem hdX6_plain : yX6_plain.cls = RX6 ∧ yX6_plain.cls ≠ "java/lang/invoke/MethodHandle" ∧ yX6_plain.cls ≠ "java/lang/invoke/VarHandle" ∧ (parseMethodDescriptor yX6_plain.desc).map (fun d => d.parameters.length) = some 2 := by decide +kernel
set_option maxRecDepth 100000 in
set_option maxHeartbeats 8000000 in
theorem kX6_plain (l : Launch) (g : GG) (a : Nat → Nat) {mo : Mo} {p1 : Int32} {p2 : Int32} {res : Int32} {mo' : Mo} (h : fX6_plain mo p1 p2 = some (res, mo')) : Cg l g yX6_plain wsX6_plain rX6_plain [.ref (a 0), .int p1, .int p2] (cMo g a mo) (some (.int res)) (cMo g a mo') := by
  refine Cg_of (cc := cX6_plain) (maxL := 3) (ret := (some .int)) (by decide +kernel) rfl (Nat.le_of_ble_eq_true rfl) ?_
  intro p e su m args below meth c A Q ls hx hb hml hown hts hK hN hA hnm hP hD hS hl hend
  have hinX6 : ∀ w ∈ u_ws RX6 TX6 15, w ∈ wsX6_plain := fun _ h9 => List.mem_cons_of_mem _ (List.mem_append_right _ h9)
  unfold fX6_plain at h
  have hl : lv_has ls 3 [(0, .ref (a 0)), (1, .int p1), (2, .int p2)] := hl
  refine lv_aload_n hx hb dX6_plain_0 rfl (lv_at hl 0 rfl) ?_
  refine lv_iconst (v := 0) hx hb dX6_plain_1 (by decide) ?_
  obtain ⟨mo1, emo1, h⟩ := pl_ex h
  refine va_put (D := g.1) (ci := 6) (v := .int (0 : Int32)) (ty := .int) (C := RX6) (T := TX6) (N := 15) hx hb hts hinX6 tyX6 tyX6_ok nmX6 hown hK hP hD hS 0 rfl rfl 0 (by decide) (hts (.fieldLink RX6 29 "BarredRungsModel" "thrown" "I") (List.mem_of_getElem? (i := 1) rfl)) (fun _ h9 => h9) rfl (by decide +kernel) rfl rfl (Nat.le_of_ble_eq_true rfl) dX6_plain_2 (fun H locs hP hD hS => ?_)
  have hP : va_P g.1 vwCl (cMo g a mo1) H := by rw [← emo1]; exact hP
  have hD : va_D A (cMo g a mo1) := by rw [← emo1]; exact hD
  refine lv_aload_n hx hb dX6_plain_5 rfl (lv_at hl 0 rfl) ?_
  refine lv_iload_n hx hb dX6_plain_6 rfl (lv_at hl 1 rfl) ?_
  obtain ⟨r2, kr2, h⟩ := bd_ex h
  refine aft_w (st1 := [.int r2]) rfl (runV (As := [.int p1]) (rest := []) ⟨hx, hb, hml, hown, hts⟩ (kX6_isWord l g a kr2) (cwV 1 hts gX6_plain_X6_isWord rfl rfl rfl hdX6_isWord ⟨Nat.le_of_ble_eq_true rfl, Nat.le_of_ble_eq_true rfl⟩) hK hN hP hD (va_recv hK hP (ci := 6) (q0 := 0) rfl rfl) rfl hl.1 rfl (Nat.le_of_ble_eq_true rfl) dX6_plain_7 ⟨Nat.zero_le _, Nat.zero_le _⟩) hD hS hA (fun H locs hP hD hS => ?_)
  refine lv_if_eq (tgt := 30) hx hb dX6_plain_10 (by decide) (fun c3 => ?_) (fun c3 => ?_)
  · have h := if_t c3 h
    refine lv_aload_n hx hb dX6_plain_30 rfl (lv_at hl 0 rfl) ?_
    refine lv_iconst (v := 1) hx hb dX6_plain_31 (by decide) ?_
    obtain ⟨r4, mo5, kr4, h⟩ := bd2_ex h
    refine aft_w (st1 := [.int r4]) rfl (runV (As := [.int (1 : Int32)]) (rest := []) ⟨hx, hb, hml, hown, hts⟩ (kX6_fails l g a kr4) (cwV 1 hts gX6_plain_X6_fails rfl rfl rfl hdX6_fails ⟨Nat.le_of_ble_eq_true rfl, Nat.le_of_ble_eq_true rfl⟩) hK hN hP hD (va_recv hK hP (ci := 6) (q0 := 0) rfl rfl) rfl hl.1 rfl (Nat.le_of_ble_eq_true rfl) dX6_plain_32 ⟨Nat.zero_le _, Nat.zero_le _⟩) hD hS hA (fun H locs hP hD hS => ?_)
    cases some_i h
    exact hend _ _ _ _ _ hP hD hS (RetOK.i dX6_plain_35)
  · have h := if_f c3 h
    refine lv_aload_n hx hb dX6_plain_13 rfl (lv_at hl 0 rfl) ?_
    refine lv_iload_n hx hb dX6_plain_14 rfl (lv_at hl 2 rfl) ?_
    obtain ⟨r6, kr6, h⟩ := bd_ex h
    refine aft_w (st1 := [.int r6]) rfl (runV (As := [.int p2]) (rest := []) ⟨hx, hb, hml, hown, hts⟩ (kX6_isWord l g a kr6) (cwV 1 hts gX6_plain_X6_isWord rfl rfl rfl hdX6_isWord ⟨Nat.le_of_ble_eq_true rfl, Nat.le_of_ble_eq_true rfl⟩) hK hN hP hD (va_recv hK hP (ci := 6) (q0 := 0) rfl rfl) rfl hl.1 rfl (Nat.le_of_ble_eq_true rfl) dX6_plain_15 ⟨Nat.zero_le _, Nat.zero_le _⟩) hD hS hA (fun H locs hP hD hS => ?_)
    refine lv_if_eq (tgt := 30) hx hb dX6_plain_18 (by decide) (fun c7 => ?_) (fun c7 => ?_)
    · have h := if_t c7 h
      refine lv_aload_n hx hb dX6_plain_30 rfl (lv_at hl 0 rfl) ?_
      refine lv_iconst (v := 1) hx hb dX6_plain_31 (by decide) ?_
      obtain ⟨r8, mo9, kr8, h⟩ := bd2_ex h
      refine aft_w (st1 := [.int r8]) rfl (runV (As := [.int (1 : Int32)]) (rest := []) ⟨hx, hb, hml, hown, hts⟩ (kX6_fails l g a kr8) (cwV 1 hts gX6_plain_X6_fails rfl rfl rfl hdX6_fails ⟨Nat.le_of_ble_eq_true rfl, Nat.le_of_ble_eq_true rfl⟩) hK hN hP hD (va_recv hK hP (ci := 6) (q0 := 0) rfl rfl) rfl hl.1 rfl (Nat.le_of_ble_eq_true rfl) dX6_plain_32 ⟨Nat.zero_le _, Nat.zero_le _⟩) hD hS hA (fun H locs hP hD hS => ?_)
      cases some_i h
      exact hend _ _ _ _ _ hP hD hS (RetOK.i dX6_plain_35)
    · have h := if_f c7 h
      refine lv_aload_n hx hb dX6_plain_21 rfl (lv_at hl 0 rfl) ?_
      refine lv_iload_n hx hb dX6_plain_22 rfl (lv_at hl 1 rfl) ?_
      refine lv_iload_n hx hb dX6_plain_23 rfl (lv_at hl 2 rfl) ?_
      obtain ⟨r10, mo11, kr10, h⟩ := bd2_ex h
      refine aft_w (st1 := [.int r10]) rfl (runV (As := [.int p1, .int p2]) (rest := []) ⟨hx, hb, hml, hown, hts⟩ (kX6_tellsPlain l g a kr10) (cwV 2 hts gX6_plain_X6_tellsPlain rfl rfl rfl hdX6_tellsPlain ⟨Nat.le_of_ble_eq_true rfl, Nat.le_of_ble_eq_true rfl⟩) hK hN hP hD (va_recv hK hP (ci := 6) (q0 := 0) rfl rfl) rfl hl.1 rfl (Nat.le_of_ble_eq_true rfl) dX6_plain_24 ⟨Nat.zero_le _, Nat.zero_le _⟩) hD hS hA (fun H locs hP hD hS => ?_)
      refine lv_goto (tgt := 35) hx hb dX6_plain_27 (by decide) ?_
      cases some_i h
      exact hend _ _ _ _ _ hP hD hS (RetOK.i dX6_plain_35)
def fX6_play_L33 : Nat → Int32 → Int32 → Mo → Option (Int32 × Mo)
  | 0, _, _, _ => none
  | n + 1, v1_7, v2_8, mo9 =>
    (if v2_8 = (0 : Int32) then
    (some (v1_7, mo9))
    else
    (if (Mo_length mo9) ≤ (Mo_at mo9) then
    (some (v1_7, mo9))
    else
    (bd2 (fX6_readsClimb mo9) fun (r14 : Int32) (mo15 : Mo) =>
    (if r14 = (0 : Int32) then
    (pl ((v1_7 + (0 : Int32))) fun (x18 : Int32) =>
    (pl (Mo_set_at mo15 ((Mo_at mo15) + (1 : Int32))) fun (mo19 : Mo) =>
    (fX6_play_L33 n x18 (0 : Int32) mo19)))
    else
    (bd2 (fX6_doesClimb mo15) fun (r20 : Int32) (mo21 : Mo) =>
    (if r20 = (0 : Int32) then
    (pl ((v1_7 + (0 : Int32))) fun (x24 : Int32) =>
    (pl (Mo_set_at mo21 ((Mo_at mo21) + (1 : Int32))) fun (mo25 : Mo) =>
    (fX6_play_L33 n x24 (0 : Int32) mo25)))
    else
    (pl ((v1_7 + (1 : Int32))) fun (x27 : Int32) =>
    (pl (Mo_set_at mo21 ((Mo_at mo21) + (1 : Int32))) fun (mo28 : Mo) =>
    (fX6_play_L33 n x27 (1 : Int32) mo28)))))))))
def fX6_play (mo : Mo) : Option (Int32 × Mo) :=
(pl (Mo_set_thrown mo (0 : Int32)) fun (mo1 : Mo) =>
(bd2 (fX6_findError mo1 (0 : Int32)) fun (r2 : Int32) (mo3 : Mo) =>
(if r2 = (-1 : Int32) then
(bd (fX6_save mo3) fun (mo5 : Mo) =>
(pl (Mo_set_at mo5 (0 : Int32)) fun (mo6 : Mo) =>
(bd2 (fX6_play_L33 1000 (0 : Int32) (1 : Int32) mo6) fun (v1_29 : Int32) (mo30 : Mo) =>
(pl (Mo_set_length mo30 (0 : Int32)) fun (mo31 : Mo) =>
(some (v1_29, mo31))))))
else
(bd2 (fX6_fails mo3 (1 : Int32)) fun (r32 : Int32) (mo33 : Mo) =>
(some (r32, mo33))))))
abbrev rX6_play : Room := { frames := 6, cells := 0, slots := 0, locals := 130 }
theorem hdX6_play : yX6_play.cls = RX6 ∧ yX6_play.cls ≠ "java/lang/invoke/MethodHandle" ∧ yX6_play.cls ≠ "java/lang/invoke/VarHandle" ∧ (parseMethodDescriptor yX6_play.desc).map (fun d => d.parameters.length) = some 0 := by decide +kernel
set_option maxRecDepth 100000 in
set_option maxHeartbeats 8000000 in
theorem kX6_play (l : Launch) (g : GG) (a : Nat → Nat) {mo : Mo} {res : Int32} {mo' : Mo} (h : fX6_play mo = some (res, mo')) : Cg l g yX6_play wsX6_play rX6_play [.ref (a 0)] (cMo g a mo) (some (.int res)) (cMo g a mo') := by
  refine Cg_of (cc := cX6_play) (maxL := 3) (ret := (some .int)) (by decide +kernel) rfl (Nat.le_of_ble_eq_true rfl) ?_
  intro p e su m args below meth c A Q ls hx hb hml hown hts hK hN hA hnm hP hD hS hl hend
  have hinX6 : ∀ w ∈ u_ws RX6 TX6 15, w ∈ wsX6_play := fun _ h9 => List.mem_cons_of_mem _ (List.mem_append_right _ h9)
  unfold fX6_play at h
  have hl : lv_has ls 3 [(0, .ref (a 0))] := hl
  refine lv_aload_n hx hb dX6_play_0 rfl (lv_at hl 0 rfl) ?_
  refine lv_iconst (v := 0) hx hb dX6_play_1 (by decide) ?_
  obtain ⟨mo1, emo1, h⟩ := pl_ex h
  refine va_put (D := g.1) (ci := 6) (v := .int (0 : Int32)) (ty := .int) (C := RX6) (T := TX6) (N := 15) hx hb hts hinX6 tyX6 tyX6_ok nmX6 hown hK hP hD hS 0 rfl rfl 0 (by decide) (hts (.fieldLink RX6 29 "BarredRungsModel" "thrown" "I") (List.mem_of_getElem? (i := 1) rfl)) (fun _ h9 => h9) rfl (by decide +kernel) rfl rfl (Nat.le_of_ble_eq_true rfl) dX6_play_2 (fun H locs hP hD hS => ?_)
  have hP : va_P g.1 vwCl (cMo g a mo1) H := by rw [← emo1]; exact hP
  have hD : va_D A (cMo g a mo1) := by rw [← emo1]; exact hD
  refine lv_aload_n hx hb dX6_play_5 rfl (lv_at hl 0 rfl) ?_
  refine lv_iconst (v := 0) hx hb dX6_play_6 (by decide) ?_
  obtain ⟨r2, mo3, kr2, h⟩ := bd2_ex h
  refine aft_w (st1 := [.int r2]) rfl (runV (As := [.int (0 : Int32)]) (rest := []) ⟨hx, hb, hml, hown, hts⟩ (kX6_findError l g a kr2) (cwV 1 hts gX6_play_X6_findError rfl rfl rfl hdX6_findError ⟨Nat.le_of_ble_eq_true rfl, Nat.le_of_ble_eq_true rfl⟩) hK hN hP hD (va_recv hK hP (ci := 6) (q0 := 0) rfl rfl) rfl hl.1 rfl (Nat.le_of_ble_eq_true rfl) dX6_play_7 ⟨Nat.zero_le _, Nat.zero_le _⟩) hD hS hA (fun H locs hP hD hS => ?_)
  refine lv_iconst (v := -1) hx hb dX6_play_10 (by decide) ?_
  refine lv_icmp_eq (tgt := 20) hx hb dX6_play_11 (by decide) (fun c4 => ?_) (fun c4 => ?_)
  · have h := if_t c4 h
    refine lv_aload_n hx hb dX6_play_20 rfl (lv_at hl 0 rfl) ?_
    obtain ⟨mo5, kmo5, h⟩ := bd_ex h
    refine aft_w (st1 := []) rfl (runV (As := []) (rest := []) ⟨hx, hb, hml, hown, hts⟩ (kX6_save l g a kmo5) (cwV 0 hts gX6_play_X6_save rfl rfl rfl hdX6_save ⟨Nat.le_of_ble_eq_true rfl, Nat.le_of_ble_eq_true rfl⟩) hK hN hP hD (va_recv hK hP (ci := 6) (q0 := 0) rfl rfl) rfl hl.1 rfl (Nat.le_of_ble_eq_true rfl) dX6_play_21 ⟨Nat.zero_le _, Nat.zero_le _⟩) hD hS hA (fun H locs hP hD hS => ?_)
    refine lv_aload_n hx hb dX6_play_24 rfl (lv_at hl 0 rfl) ?_
    refine lv_iconst (v := 0) hx hb dX6_play_25 (by decide) ?_
    obtain ⟨mo6, emo6, h⟩ := pl_ex h
    refine va_put (D := g.1) (ci := 6) (v := .int (0 : Int32)) (ty := .int) (C := RX6) (T := TX6) (N := 15) hx hb hts hinX6 tyX6 tyX6_ok nmX6 hown hK hP hD hS 0 rfl rfl 8 (by decide) (hts (.fieldLink RX6 130 "BarredRungsModel" "at" "I") (List.mem_of_getElem? (i := 2) rfl)) (fun _ h9 => h9) rfl (by decide +kernel) rfl rfl (Nat.le_of_ble_eq_true rfl) dX6_play_26 (fun H locs hP hD hS => ?_)
    have hP : va_P g.1 vwCl (cMo g a mo6) H := by rw [← emo6]; exact hP
    have hD : va_D A (cMo g a mo6) := by rw [← emo6]; exact hD
    refine lv_iconst (v := 0) hx hb dX6_play_29 (by decide) ?_
    refine lv_istore_n (lv' := [(1, .int (0 : Int32)), (0, .ref (a 0))]) hx hb dX6_play_30 rfl hl (by decide) rfl (fun ls hl => ?_)
    refine lv_iconst (v := 1) hx hb dX6_play_31 (by decide) ?_
    refine lv_istore_n (lv' := [(2, .int (1 : Int32)), (1, .int (0 : Int32)), (0, .ref (a 0))]) hx hb dX6_play_32 rfl hl (by decide) rfl (fun ls hl => ?_)
    have L33 : ∀ (n : Nat) (v1_7 : Int32) (v2_8 : Int32) (mo9 : Mo) (y1_10 : Int32) (mo11 : Mo) (H : Heap) (locs : List Loc) (ls : Array Slot), fX6_play_L33 n v1_7 v2_8 mo9 = some (y1_10, mo11) → va_P g.1 vwCl (cMo g a mo9) H → va_D A (cMo g a mo9) → va_S A su.heap H locs → lv_has ls 3 [(0, .ref (a 0)), (1, .int v1_7), (2, .int v2_8)] → (∀ (H : Heap) (locs : List Loc) (ls : Array Slot), va_P g.1 vwCl (cMo g a mo11) H → va_D A (cMo g a mo11) → va_S A su.heap H locs → lv_has ls 3 [(0, .ref (a 0)), (1, .int y1_10)] → W p l e rX6_play su m args below meth c H locs 0 0 Q (F0 m 93 ls [])) → W p l e rX6_play su m args below meth c H locs 0 0 Q (F0 m 33 ls []) := by
      intro n
      induction n with
      | zero => intro v1_7 v2_8 mo9 y1_10 mo11 H locs ls h hP hD hS hl kx; cases h
      | succ n ih =>
        intro v1_7 v2_8 mo9 y1_10 mo11 H locs ls h hP hD hS hl kx
        rw [fX6_play_L33] at h
        refine lv_iload_n hx hb dX6_play_33 rfl (lv_at hl 2 rfl) ?_
        refine lv_if_eq (tgt := 93) hx hb dX6_play_34 (by decide) (fun c12 => ?_) (fun c12 => ?_)
        · have h := if_t c12 h
          cases some_i h
          exact kx _ _ _ hP hD hS (lv_sub hl [0, 1] rfl)
        · have h := if_f c12 h
          refine lv_aload_n hx hb dX6_play_37 rfl (lv_at hl 0 rfl) ?_
          refine va_get (D := g.1) (ci := 6) (v := .int (Mo_at mo9)) (C := RX6) (T := TX6) (N := 15) hx hb hts hinX6 hown hK hP 0 rfl rfl 8 (by decide) (hts (.fieldLink RX6 130 "BarredRungsModel" "at" "I") (List.mem_of_getElem? (i := 2) rfl)) (fun _ h9 => h9) rfl dX6_play_38 ?_
          refine lv_aload_n hx hb dX6_play_41 rfl (lv_at hl 0 rfl) ?_
          refine va_get (D := g.1) (ci := 6) (v := .int (Mo_length mo9)) (C := RX6) (T := TX6) (N := 15) hx hb hts hinX6 hown hK hP 0 rfl rfl 7 (by decide) (hts (.fieldLink RX6 127 "BarredRungsModel" "length" "I") (List.mem_of_getElem? (i := 3) rfl)) (fun _ h9 => h9) rfl dX6_play_42 ?_
          refine lv_icmp_ge (tgt := 93) hx hb dX6_play_45 (by decide) (fun c13 => ?_) (fun c13 => ?_)
          · have h := if_t c13 h
            cases some_i h
            exact kx _ _ _ hP hD hS (lv_sub hl [0, 1] rfl)
          · have h := if_f c13 h
            refine lv_aload_n hx hb dX6_play_48 rfl (lv_at hl 0 rfl) ?_
            obtain ⟨r14, mo15, kr14, h⟩ := bd2_ex h
            refine aft_w (st1 := [.int r14]) rfl (runV (As := []) (rest := []) ⟨hx, hb, hml, hown, hts⟩ (kX6_readsClimb l g a kr14) (cwV 0 hts gX6_play_X6_readsClimb rfl rfl rfl hdX6_readsClimb ⟨Nat.le_of_ble_eq_true rfl, Nat.le_of_ble_eq_true rfl⟩) hK hN hP hD (va_recv hK hP (ci := 6) (q0 := 0) rfl rfl) rfl hl.1 rfl (Nat.le_of_ble_eq_true rfl) dX6_play_49 ⟨Nat.zero_le _, Nat.zero_le _⟩) hD hS hA (fun H locs hP hD hS => ?_)
            refine lv_if_eq (tgt := 66) hx hb dX6_play_52 (by decide) (fun c16 => ?_) (fun c16 => ?_)
            · have h := if_t c16 h
              refine lv_iconst (v := 0) hx hb dX6_play_66 (by decide) ?_
              refine lv_istore_n (lv' := [(2, .int (0 : Int32)), (0, .ref (a 0)), (1, .int v1_7)]) hx hb dX6_play_67 rfl hl (by decide) rfl (fun ls hl => ?_)
              refine lv_iload_n hx hb dX6_play_68 rfl (lv_at hl 2 rfl) ?_
              refine lv_iload_n hx hb dX6_play_69 rfl (lv_at hl 0 rfl) ?_
              refine lv_if_eq (tgt := 77) hx hb dX6_play_70 (by decide) (fun c17 => ?_) (fun c17 => ?_)
              rotate_left
              · exact absurd c17 (by decide)
              refine lv_iconst (v := 0) hx hb dX6_play_77 (by decide) ?_
              refine lv_iadd hx hb dX6_play_78 ?_
              obtain ⟨x18, ex18, h⟩ := pl_ex h
              refine lv_eqi ex18 ?_
              refine lv_istore_n (lv' := [(1, .int x18), (2, .int (0 : Int32)), (0, .ref (a 0))]) hx hb dX6_play_79 rfl hl (by decide) rfl (fun ls hl => ?_)
              refine lv_aload_n hx hb dX6_play_80 rfl (lv_at hl 2 rfl) ?_
              refine lv_dup hx hb dX6_play_81 rfl ?_
              refine va_get (D := g.1) (ci := 6) (v := .int (Mo_at mo15)) (C := RX6) (T := TX6) (N := 15) hx hb hts hinX6 hown hK hP 0 rfl rfl 8 (by decide) (hts (.fieldLink RX6 130 "BarredRungsModel" "at" "I") (List.mem_of_getElem? (i := 2) rfl)) (fun _ h9 => h9) rfl dX6_play_82 ?_
              refine lv_iconst (v := 1) hx hb dX6_play_85 (by decide) ?_
              refine lv_iadd hx hb dX6_play_86 ?_
              obtain ⟨mo19, emo19, h⟩ := pl_ex h
              refine va_put (D := g.1) (ci := 6) (v := .int ((Mo_at mo15) + (1 : Int32))) (ty := .int) (C := RX6) (T := TX6) (N := 15) hx hb hts hinX6 tyX6 tyX6_ok nmX6 hown hK hP hD hS 0 rfl rfl 8 (by decide) (hts (.fieldLink RX6 130 "BarredRungsModel" "at" "I") (List.mem_of_getElem? (i := 2) rfl)) (fun _ h9 => h9) rfl (by decide +kernel) rfl rfl (Nat.le_of_ble_eq_true rfl) dX6_play_87 (fun H locs hP hD hS => ?_)
              have hP : va_P g.1 vwCl (cMo g a mo19) H := by rw [← emo19]; exact hP
              have hD : va_D A (cMo g a mo19) := by rw [← emo19]; exact hD
              refine lv_goto (tgt := 33) hx hb dX6_play_90 (by decide) ?_
              exact ih x18 (0 : Int32) mo19 _ _ _ _ _ h hP hD hS (lv_sub hl [2, 0, 1] rfl) kx
            · have h := if_f c16 h
              refine lv_aload_n hx hb dX6_play_55 rfl (lv_at hl 0 rfl) ?_
              obtain ⟨r20, mo21, kr20, h⟩ := bd2_ex h
              refine aft_w (st1 := [.int r20]) rfl (runV (As := []) (rest := []) ⟨hx, hb, hml, hown, hts⟩ (kX6_doesClimb l g a kr20) (cwV 0 hts gX6_play_X6_doesClimb rfl rfl rfl hdX6_doesClimb ⟨Nat.le_of_ble_eq_true rfl, Nat.le_of_ble_eq_true rfl⟩) hK hN hP hD (va_recv hK hP (ci := 6) (q0 := 0) rfl rfl) rfl hl.1 rfl (Nat.le_of_ble_eq_true rfl) dX6_play_56 ⟨Nat.zero_le _, Nat.zero_le _⟩) hD hS hA (fun H locs hP hD hS => ?_)
              refine lv_if_eq (tgt := 66) hx hb dX6_play_59 (by decide) (fun c22 => ?_) (fun c22 => ?_)
              · have h := if_t c22 h
                refine lv_iconst (v := 0) hx hb dX6_play_66 (by decide) ?_
                refine lv_istore_n (lv' := [(2, .int (0 : Int32)), (0, .ref (a 0)), (1, .int v1_7)]) hx hb dX6_play_67 rfl hl (by decide) rfl (fun ls hl => ?_)
                refine lv_iload_n hx hb dX6_play_68 rfl (lv_at hl 2 rfl) ?_
                refine lv_iload_n hx hb dX6_play_69 rfl (lv_at hl 0 rfl) ?_
                refine lv_if_eq (tgt := 77) hx hb dX6_play_70 (by decide) (fun c23 => ?_) (fun c23 => ?_)
                rotate_left
                · exact absurd c23 (by decide)
                refine lv_iconst (v := 0) hx hb dX6_play_77 (by decide) ?_
                refine lv_iadd hx hb dX6_play_78 ?_
                obtain ⟨x24, ex24, h⟩ := pl_ex h
                refine lv_eqi ex24 ?_
                refine lv_istore_n (lv' := [(1, .int x24), (2, .int (0 : Int32)), (0, .ref (a 0))]) hx hb dX6_play_79 rfl hl (by decide) rfl (fun ls hl => ?_)
                refine lv_aload_n hx hb dX6_play_80 rfl (lv_at hl 2 rfl) ?_
                refine lv_dup hx hb dX6_play_81 rfl ?_
                refine va_get (D := g.1) (ci := 6) (v := .int (Mo_at mo21)) (C := RX6) (T := TX6) (N := 15) hx hb hts hinX6 hown hK hP 0 rfl rfl 8 (by decide) (hts (.fieldLink RX6 130 "BarredRungsModel" "at" "I") (List.mem_of_getElem? (i := 2) rfl)) (fun _ h9 => h9) rfl dX6_play_82 ?_
                refine lv_iconst (v := 1) hx hb dX6_play_85 (by decide) ?_
                refine lv_iadd hx hb dX6_play_86 ?_
                obtain ⟨mo25, emo25, h⟩ := pl_ex h
                refine va_put (D := g.1) (ci := 6) (v := .int ((Mo_at mo21) + (1 : Int32))) (ty := .int) (C := RX6) (T := TX6) (N := 15) hx hb hts hinX6 tyX6 tyX6_ok nmX6 hown hK hP hD hS 0 rfl rfl 8 (by decide) (hts (.fieldLink RX6 130 "BarredRungsModel" "at" "I") (List.mem_of_getElem? (i := 2) rfl)) (fun _ h9 => h9) rfl (by decide +kernel) rfl rfl (Nat.le_of_ble_eq_true rfl) dX6_play_87 (fun H locs hP hD hS => ?_)
                have hP : va_P g.1 vwCl (cMo g a mo25) H := by rw [← emo25]; exact hP
                have hD : va_D A (cMo g a mo25) := by rw [← emo25]; exact hD
                refine lv_goto (tgt := 33) hx hb dX6_play_90 (by decide) ?_
                exact ih x24 (0 : Int32) mo25 _ _ _ _ _ h hP hD hS (lv_sub hl [2, 0, 1] rfl) kx
              · have h := if_f c22 h
                refine lv_iconst (v := 1) hx hb dX6_play_62 (by decide) ?_
                refine lv_goto (tgt := 67) hx hb dX6_play_63 (by decide) ?_
                refine lv_istore_n (lv' := [(2, .int (1 : Int32)), (0, .ref (a 0)), (1, .int v1_7)]) hx hb dX6_play_67 rfl hl (by decide) rfl (fun ls hl => ?_)
                refine lv_iload_n hx hb dX6_play_68 rfl (lv_at hl 2 rfl) ?_
                refine lv_iload_n hx hb dX6_play_69 rfl (lv_at hl 0 rfl) ?_
                refine lv_if_eq (tgt := 77) hx hb dX6_play_70 (by decide) (fun c26 => ?_) (fun c26 => ?_)
                · exact absurd c26 (by decide)
                refine lv_iconst (v := 1) hx hb dX6_play_73 (by decide) ?_
                refine lv_goto (tgt := 78) hx hb dX6_play_74 (by decide) ?_
                refine lv_iadd hx hb dX6_play_78 ?_
                obtain ⟨x27, ex27, h⟩ := pl_ex h
                refine lv_eqi ex27 ?_
                refine lv_istore_n (lv' := [(1, .int x27), (2, .int (1 : Int32)), (0, .ref (a 0))]) hx hb dX6_play_79 rfl hl (by decide) rfl (fun ls hl => ?_)
                refine lv_aload_n hx hb dX6_play_80 rfl (lv_at hl 2 rfl) ?_
                refine lv_dup hx hb dX6_play_81 rfl ?_
                refine va_get (D := g.1) (ci := 6) (v := .int (Mo_at mo21)) (C := RX6) (T := TX6) (N := 15) hx hb hts hinX6 hown hK hP 0 rfl rfl 8 (by decide) (hts (.fieldLink RX6 130 "BarredRungsModel" "at" "I") (List.mem_of_getElem? (i := 2) rfl)) (fun _ h9 => h9) rfl dX6_play_82 ?_
                refine lv_iconst (v := 1) hx hb dX6_play_85 (by decide) ?_
                refine lv_iadd hx hb dX6_play_86 ?_
                obtain ⟨mo28, emo28, h⟩ := pl_ex h
                refine va_put (D := g.1) (ci := 6) (v := .int ((Mo_at mo21) + (1 : Int32))) (ty := .int) (C := RX6) (T := TX6) (N := 15) hx hb hts hinX6 tyX6 tyX6_ok nmX6 hown hK hP hD hS 0 rfl rfl 8 (by decide) (hts (.fieldLink RX6 130 "BarredRungsModel" "at" "I") (List.mem_of_getElem? (i := 2) rfl)) (fun _ h9 => h9) rfl (by decide +kernel) rfl rfl (Nat.le_of_ble_eq_true rfl) dX6_play_87 (fun H locs hP hD hS => ?_)
                have hP : va_P g.1 vwCl (cMo g a mo28) H := by rw [← emo28]; exact hP
                have hD : va_D A (cMo g a mo28) := by rw [← emo28]; exact hD
                refine lv_goto (tgt := 33) hx hb dX6_play_90 (by decide) ?_
                exact ih x27 (1 : Int32) mo28 _ _ _ _ _ h hP hD hS (lv_sub hl [2, 0, 1] rfl) kx
    obtain ⟨v1_29, mo30, kv1_29, h⟩ := bd2_ex h
    refine L33 1000 (0 : Int32) (1 : Int32) mo6 v1_29 mo30 _ _ _ kv1_29 hP hD hS (lv_sub hl [2, 1, 0] rfl) (fun H locs ls hP hD hS hl => ?_)
    refine lv_aload_n hx hb dX6_play_93 rfl (lv_at hl 0 rfl) ?_
    refine lv_iconst (v := 0) hx hb dX6_play_94 (by decide) ?_
    obtain ⟨mo31, emo31, h⟩ := pl_ex h
    refine va_put (D := g.1) (ci := 6) (v := .int (0 : Int32)) (ty := .int) (C := RX6) (T := TX6) (N := 15) hx hb hts hinX6 tyX6 tyX6_ok nmX6 hown hK hP hD hS 0 rfl rfl 7 (by decide) (hts (.fieldLink RX6 127 "BarredRungsModel" "length" "I") (List.mem_of_getElem? (i := 3) rfl)) (fun _ h9 => h9) rfl (by decide +kernel) rfl rfl (Nat.le_of_ble_eq_true rfl) dX6_play_95 (fun H locs hP hD hS => ?_)
    have hP : va_P g.1 vwCl (cMo g a mo31) H := by rw [← emo31]; exact hP
    have hD : va_D A (cMo g a mo31) := by rw [← emo31]; exact hD
    refine lv_iload_n hx hb dX6_play_98 rfl (lv_at hl 1 rfl) ?_
    cases some_i h
    exact hend _ _ _ _ _ hP hD hS (RetOK.i dX6_play_99)
  · have h := if_f c4 h
    refine lv_aload_n hx hb dX6_play_14 rfl (lv_at hl 0 rfl) ?_
    refine lv_iconst (v := 1) hx hb dX6_play_15 (by decide) ?_
    obtain ⟨r32, mo33, kr32, h⟩ := bd2_ex h
    refine aft_w (st1 := [.int r32]) rfl (runV (As := [.int (1 : Int32)]) (rest := []) ⟨hx, hb, hml, hown, hts⟩ (kX6_fails l g a kr32) (cwV 1 hts gX6_play_X6_fails rfl rfl rfl hdX6_fails ⟨Nat.le_of_ble_eq_true rfl, Nat.le_of_ble_eq_true rfl⟩) hK hN hP hD (va_recv hK hP (ci := 6) (q0 := 0) rfl rfl) rfl hl.1 rfl (Nat.le_of_ble_eq_true rfl) dX6_play_16 ⟨Nat.zero_le _, Nat.zero_le _⟩) hD hS hA (fun H locs hP hD hS => ?_)
    cases some_i h
    exact hend _ _ _ _ _ hP hD hS (RetOK.i dX6_play_19)
def fX6_put (mo : Mo) (p1 : Int32) (p2 : Int32) (p3 : Int32) : Option (Int32 × Mo) :=
(pl (Mo_set_thrown mo (0 : Int32)) fun (mo1 : Mo) =>
(bd (fX6_isClimber p1) fun (r2 : Int32) =>
(if r2 = (0 : Int32) then
(bd2 (fX6_fails mo1 (1 : Int32)) fun (r4 : Int32) (mo5 : Mo) =>
(some (r4, mo5)))
else
(bd (fX6_isWord mo1 p2) fun (r6 : Int32) =>
(if r6 = (0 : Int32) then
(bd2 (fX6_fails mo1 (1 : Int32)) fun (r8 : Int32) (mo9 : Mo) =>
(some (r8, mo9)))
else
(bd (fX6_isWord mo1 p3) fun (r10 : Int32) =>
(if r10 = (0 : Int32) then
(bd2 (fX6_fails mo1 (1 : Int32)) fun (r36 : Int32) (mo37 : Mo) =>
(some (r36, mo37)))
else
(if p2 = p3 then
(bd2 (fX6_fails mo1 (2 : Int32)) fun (r34 : Int32) (mo35 : Mo) =>
(some (r34, mo35)))
else
(bd (fX6_of mo1 p1 (0 : Int32)) fun (r13 : Int32) =>
(if r13 = (-1 : Int32) then
(bd (fX6_climberOn mo1 p2) fun (r17 : Int32) =>
(if r17 = (-1 : Int32) then
(bd2 (fX6_isBarred mo1 p2) fun (r21 : Int32) (mo22 : Mo) =>
(if r21 = (0 : Int32) then
(bd (fX6_save mo22) fun (mo24 : Mo) =>
(bd (fX6_setOf mo24 p1 (0 : Int32) p2) fun (mo25 : Mo) =>
(bd (fX6_setOf mo25 p1 (1 : Int32) p2) fun (mo26 : Mo) =>
(bd (fX6_setOf mo26 p1 (2 : Int32) p3) fun (mo27 : Mo) =>
(bd (fX6_setOf mo27 p1 (3 : Int32) (0 : Int32)) fun (mo28 : Mo) =>
(bd (fX6_setOf mo28 p1 (4 : Int32) (0 : Int32)) fun (mo29 : Mo) =>
(bd2 (fX6_fewestOf mo29 p1) fun (r30 : Int32) (mo31 : Mo) =>
(some (r30, mo31)))))))))
else
(bd2 (fX6_fails mo22 (3 : Int32)) fun (r32 : Int32) (mo33 : Mo) =>
(some (r32, mo33)))))
else
(bd2 (fX6_fails mo1 (3 : Int32)) fun (r19 : Int32) (mo20 : Mo) =>
(some (r19, mo20)))))
else
(bd2 (fX6_fails mo1 (3 : Int32)) fun (r15 : Int32) (mo16 : Mo) =>
(some (r15, mo16)))))))))))))
abbrev rX6_put : Room := { frames := 7, cells := 0, slots := 0, locals := 158 }
theorem hdX6_put : yX6_put.cls = RX6 ∧ yX6_put.cls ≠ "java/lang/invoke/MethodHandle" ∧ yX6_put.cls ≠ "java/lang/invoke/VarHandle" ∧ (parseMethodDescriptor yX6_put.desc).map (fun d => d.parameters.length) = some 3 := by decide +kernel
set_option maxRecDepth 100000 in
set_option maxHeartbeats 8000000 in
theorem kX6_put (l : Launch) (g : GG) (a : Nat → Nat) {mo : Mo} {p1 : Int32} {p2 : Int32} {p3 : Int32} {res : Int32} {mo' : Mo} (h : fX6_put mo p1 p2 p3 = some (res, mo')) : Cg l g yX6_put wsX6_put rX6_put [.ref (a 0), .int p1, .int p2, .int p3] (cMo g a mo) (some (.int res)) (cMo g a mo') := by
  refine Cg_of (cc := cX6_put) (maxL := 4) (ret := (some .int)) (by decide +kernel) rfl (Nat.le_of_ble_eq_true rfl) ?_
  intro p e su m args below meth c A Q ls hx hb hml hown hts hK hN hA hnm hP hD hS hl hend
  have hinX6 : ∀ w ∈ u_ws RX6 TX6 15, w ∈ wsX6_put := fun _ h9 => List.mem_cons_of_mem _ (List.mem_append_right _ h9)
  unfold fX6_put at h
  have hl : lv_has ls 4 [(0, .ref (a 0)), (1, .int p1), (2, .int p2), (3, .int p3)] := hl
  refine lv_aload_n hx hb dX6_put_0 rfl (lv_at hl 0 rfl) ?_
  refine lv_iconst (v := 0) hx hb dX6_put_1 (by decide) ?_
  obtain ⟨mo1, emo1, h⟩ := pl_ex h
  refine va_put (D := g.1) (ci := 6) (v := .int (0 : Int32)) (ty := .int) (C := RX6) (T := TX6) (N := 15) hx hb hts hinX6 tyX6 tyX6_ok nmX6 hown hK hP hD hS 0 rfl rfl 0 (by decide) (hts (.fieldLink RX6 29 "BarredRungsModel" "thrown" "I") (List.mem_of_getElem? (i := 1) rfl)) (fun _ h9 => h9) rfl (by decide +kernel) rfl rfl (Nat.le_of_ble_eq_true rfl) dX6_put_2 (fun H locs hP hD hS => ?_)
  have hP : va_P g.1 vwCl (cMo g a mo1) H := by rw [← emo1]; exact hP
  have hD : va_D A (cMo g a mo1) := by rw [← emo1]; exact hD
  refine lv_iload_n hx hb dX6_put_5 rfl (lv_at hl 1 rfl) ?_
  obtain ⟨r2, kr2, h⟩ := bd_ex h
  refine aft_e (st1 := [.int r2]) rfl (runS (As := [.int p1]) (rest := []) ⟨hx, hb, hml, hown, hts⟩ (kX6_isClimber l g kr2) (va_cwS 1 hts gX6_put_X6_isClimber rfl rfl rfl hdX6_isClimber.2 ⟨Nat.le_of_ble_eq_true rfl, Nat.le_of_ble_eq_true rfl⟩) hK hN nilP (nilD (A := A)) rfl hl.1 rfl (Nat.le_of_ble_eq_true rfl) dX6_put_6 ⟨Nat.zero_le _, Nat.zero_le _⟩) hP hS hA (fun H locs hP hS => ?_)
  refine lv_if_eq (tgt := 28) hx hb dX6_put_9 (by decide) (fun c3 => ?_) (fun c3 => ?_)
  · have h := if_t c3 h
    refine lv_aload_n hx hb dX6_put_28 rfl (lv_at hl 0 rfl) ?_
    refine lv_iconst (v := 1) hx hb dX6_put_29 (by decide) ?_
    obtain ⟨r4, mo5, kr4, h⟩ := bd2_ex h
    refine aft_w (st1 := [.int r4]) rfl (runV (As := [.int (1 : Int32)]) (rest := []) ⟨hx, hb, hml, hown, hts⟩ (kX6_fails l g a kr4) (cwV 1 hts gX6_put_X6_fails rfl rfl rfl hdX6_fails ⟨Nat.le_of_ble_eq_true rfl, Nat.le_of_ble_eq_true rfl⟩) hK hN hP hD (va_recv hK hP (ci := 6) (q0 := 0) rfl rfl) rfl hl.1 rfl (Nat.le_of_ble_eq_true rfl) dX6_put_30 ⟨Nat.zero_le _, Nat.zero_le _⟩) hD hS hA (fun H locs hP hD hS => ?_)
    cases some_i h
    exact hend _ _ _ _ _ hP hD hS (RetOK.i dX6_put_33)
  · have h := if_f c3 h
    refine lv_aload_n hx hb dX6_put_12 rfl (lv_at hl 0 rfl) ?_
    refine lv_iload_n hx hb dX6_put_13 rfl (lv_at hl 2 rfl) ?_
    obtain ⟨r6, kr6, h⟩ := bd_ex h
    refine aft_w (st1 := [.int r6]) rfl (runV (As := [.int p2]) (rest := []) ⟨hx, hb, hml, hown, hts⟩ (kX6_isWord l g a kr6) (cwV 1 hts gX6_put_X6_isWord rfl rfl rfl hdX6_isWord ⟨Nat.le_of_ble_eq_true rfl, Nat.le_of_ble_eq_true rfl⟩) hK hN hP hD (va_recv hK hP (ci := 6) (q0 := 0) rfl rfl) rfl hl.1 rfl (Nat.le_of_ble_eq_true rfl) dX6_put_14 ⟨Nat.zero_le _, Nat.zero_le _⟩) hD hS hA (fun H locs hP hD hS => ?_)
    refine lv_if_eq (tgt := 28) hx hb dX6_put_17 (by decide) (fun c7 => ?_) (fun c7 => ?_)
    · have h := if_t c7 h
      refine lv_aload_n hx hb dX6_put_28 rfl (lv_at hl 0 rfl) ?_
      refine lv_iconst (v := 1) hx hb dX6_put_29 (by decide) ?_
      obtain ⟨r8, mo9, kr8, h⟩ := bd2_ex h
      refine aft_w (st1 := [.int r8]) rfl (runV (As := [.int (1 : Int32)]) (rest := []) ⟨hx, hb, hml, hown, hts⟩ (kX6_fails l g a kr8) (cwV 1 hts gX6_put_X6_fails rfl rfl rfl hdX6_fails ⟨Nat.le_of_ble_eq_true rfl, Nat.le_of_ble_eq_true rfl⟩) hK hN hP hD (va_recv hK hP (ci := 6) (q0 := 0) rfl rfl) rfl hl.1 rfl (Nat.le_of_ble_eq_true rfl) dX6_put_30 ⟨Nat.zero_le _, Nat.zero_le _⟩) hD hS hA (fun H locs hP hD hS => ?_)
      cases some_i h
      exact hend _ _ _ _ _ hP hD hS (RetOK.i dX6_put_33)
    · have h := if_f c7 h
      refine lv_aload_n hx hb dX6_put_20 rfl (lv_at hl 0 rfl) ?_
      refine lv_iload_n hx hb dX6_put_21 rfl (lv_at hl 3 rfl) ?_
      obtain ⟨r10, kr10, h⟩ := bd_ex h
      refine aft_w (st1 := [.int r10]) rfl (runV (As := [.int p3]) (rest := []) ⟨hx, hb, hml, hown, hts⟩ (kX6_isWord l g a kr10) (cwV 1 hts gX6_put_X6_isWord rfl rfl rfl hdX6_isWord ⟨Nat.le_of_ble_eq_true rfl, Nat.le_of_ble_eq_true rfl⟩) hK hN hP hD (va_recv hK hP (ci := 6) (q0 := 0) rfl rfl) rfl hl.1 rfl (Nat.le_of_ble_eq_true rfl) dX6_put_22 ⟨Nat.zero_le _, Nat.zero_le _⟩) hD hS hA (fun H locs hP hD hS => ?_)
      refine lv_if_ne (tgt := 34) hx hb dX6_put_25 (by decide) (fun c11 => ?_) (fun c11 => ?_)
      · have h := if_f c11 h
        refine lv_iload_n hx hb dX6_put_34 rfl (lv_at hl 2 rfl) ?_
        refine lv_iload_n hx hb dX6_put_35 rfl (lv_at hl 3 rfl) ?_
        refine lv_icmp_ne (tgt := 45) hx hb dX6_put_36 (by decide) (fun c12 => ?_) (fun c12 => ?_)
        · have h := if_f c12 h
          refine lv_aload_n hx hb dX6_put_45 rfl (lv_at hl 0 rfl) ?_
          refine lv_iload_n hx hb dX6_put_46 rfl (lv_at hl 1 rfl) ?_
          refine lv_iconst (v := 0) hx hb dX6_put_47 (by decide) ?_
          obtain ⟨r13, kr13, h⟩ := bd_ex h
          refine aft_w (st1 := [.int r13]) rfl (runV (As := [.int p1, .int (0 : Int32)]) (rest := []) ⟨hx, hb, hml, hown, hts⟩ (kX6_of l g a kr13) (cwV 2 hts gX6_put_X6_of rfl rfl rfl hdX6_of ⟨Nat.le_of_ble_eq_true rfl, Nat.le_of_ble_eq_true rfl⟩) hK hN hP hD (va_recv hK hP (ci := 6) (q0 := 0) rfl rfl) rfl hl.1 rfl (Nat.le_of_ble_eq_true rfl) dX6_put_48 ⟨Nat.zero_le _, Nat.zero_le _⟩) hD hS hA (fun H locs hP hD hS => ?_)
          refine lv_iconst (v := -1) hx hb dX6_put_51 (by decide) ?_
          refine lv_icmp_ne (tgt := 72) hx hb dX6_put_52 (by decide) (fun c14 => ?_) (fun c14 => ?_)
          · have h := if_f c14 h
            refine lv_aload_n hx hb dX6_put_72 rfl (lv_at hl 0 rfl) ?_
            refine lv_iconst (v := 3) hx hb dX6_put_73 (by decide) ?_
            obtain ⟨r15, mo16, kr15, h⟩ := bd2_ex h
            refine aft_w (st1 := [.int r15]) rfl (runV (As := [.int (3 : Int32)]) (rest := []) ⟨hx, hb, hml, hown, hts⟩ (kX6_fails l g a kr15) (cwV 1 hts gX6_put_X6_fails rfl rfl rfl hdX6_fails ⟨Nat.le_of_ble_eq_true rfl, Nat.le_of_ble_eq_true rfl⟩) hK hN hP hD (va_recv hK hP (ci := 6) (q0 := 0) rfl rfl) rfl hl.1 rfl (Nat.le_of_ble_eq_true rfl) dX6_put_74 ⟨Nat.zero_le _, Nat.zero_le _⟩) hD hS hA (fun H locs hP hD hS => ?_)
            cases some_i h
            exact hend _ _ _ _ _ hP hD hS (RetOK.i dX6_put_77)
          · have h := if_t c14 h
            refine lv_aload_n hx hb dX6_put_55 rfl (lv_at hl 0 rfl) ?_
            refine lv_iload_n hx hb dX6_put_56 rfl (lv_at hl 2 rfl) ?_
            obtain ⟨r17, kr17, h⟩ := bd_ex h
            refine aft_w (st1 := [.int r17]) rfl (runV (As := [.int p2]) (rest := []) ⟨hx, hb, hml, hown, hts⟩ (kX6_climberOn l g a kr17) (cwV 1 hts gX6_put_X6_climberOn rfl rfl rfl hdX6_climberOn ⟨Nat.le_of_ble_eq_true rfl, Nat.le_of_ble_eq_true rfl⟩) hK hN hP hD (va_recv hK hP (ci := 6) (q0 := 0) rfl rfl) rfl hl.1 rfl (Nat.le_of_ble_eq_true rfl) dX6_put_57 ⟨Nat.zero_le _, Nat.zero_le _⟩) hD hS hA (fun H locs hP hD hS => ?_)
            refine lv_iconst (v := -1) hx hb dX6_put_60 (by decide) ?_
            refine lv_icmp_ne (tgt := 72) hx hb dX6_put_61 (by decide) (fun c18 => ?_) (fun c18 => ?_)
            · have h := if_f c18 h
              refine lv_aload_n hx hb dX6_put_72 rfl (lv_at hl 0 rfl) ?_
              refine lv_iconst (v := 3) hx hb dX6_put_73 (by decide) ?_
              obtain ⟨r19, mo20, kr19, h⟩ := bd2_ex h
              refine aft_w (st1 := [.int r19]) rfl (runV (As := [.int (3 : Int32)]) (rest := []) ⟨hx, hb, hml, hown, hts⟩ (kX6_fails l g a kr19) (cwV 1 hts gX6_put_X6_fails rfl rfl rfl hdX6_fails ⟨Nat.le_of_ble_eq_true rfl, Nat.le_of_ble_eq_true rfl⟩) hK hN hP hD (va_recv hK hP (ci := 6) (q0 := 0) rfl rfl) rfl hl.1 rfl (Nat.le_of_ble_eq_true rfl) dX6_put_74 ⟨Nat.zero_le _, Nat.zero_le _⟩) hD hS hA (fun H locs hP hD hS => ?_)
              cases some_i h
              exact hend _ _ _ _ _ hP hD hS (RetOK.i dX6_put_77)
            · have h := if_t c18 h
              refine lv_aload_n hx hb dX6_put_64 rfl (lv_at hl 0 rfl) ?_
              refine lv_iload_n hx hb dX6_put_65 rfl (lv_at hl 2 rfl) ?_
              obtain ⟨r21, mo22, kr21, h⟩ := bd2_ex h
              refine aft_w (st1 := [.int r21]) rfl (runV (As := [.int p2]) (rest := []) ⟨hx, hb, hml, hown, hts⟩ (kX6_isBarred l g a kr21) (cwV 1 hts gX6_put_X6_isBarred rfl rfl rfl hdX6_isBarred ⟨Nat.le_of_ble_eq_true rfl, Nat.le_of_ble_eq_true rfl⟩) hK hN hP hD (va_recv hK hP (ci := 6) (q0 := 0) rfl rfl) rfl hl.1 rfl (Nat.le_of_ble_eq_true rfl) dX6_put_66 ⟨Nat.zero_le _, Nat.zero_le _⟩) hD hS hA (fun H locs hP hD hS => ?_)
              refine lv_if_eq (tgt := 78) hx hb dX6_put_69 (by decide) (fun c23 => ?_) (fun c23 => ?_)
              · have h := if_t c23 h
                refine lv_aload_n hx hb dX6_put_78 rfl (lv_at hl 0 rfl) ?_
                obtain ⟨mo24, kmo24, h⟩ := bd_ex h
                refine aft_w (st1 := []) rfl (runV (As := []) (rest := []) ⟨hx, hb, hml, hown, hts⟩ (kX6_save l g a kmo24) (cwV 0 hts gX6_put_X6_save rfl rfl rfl hdX6_save ⟨Nat.le_of_ble_eq_true rfl, Nat.le_of_ble_eq_true rfl⟩) hK hN hP hD (va_recv hK hP (ci := 6) (q0 := 0) rfl rfl) rfl hl.1 rfl (Nat.le_of_ble_eq_true rfl) dX6_put_79 ⟨Nat.zero_le _, Nat.zero_le _⟩) hD hS hA (fun H locs hP hD hS => ?_)
                refine lv_aload_n hx hb dX6_put_82 rfl (lv_at hl 0 rfl) ?_
                refine lv_iload_n hx hb dX6_put_83 rfl (lv_at hl 1 rfl) ?_
                refine lv_iconst (v := 0) hx hb dX6_put_84 (by decide) ?_
                refine lv_iload_n hx hb dX6_put_85 rfl (lv_at hl 2 rfl) ?_
                obtain ⟨mo25, kmo25, h⟩ := bd_ex h
                refine aft_w (st1 := []) rfl (runV (As := [.int p1, .int (0 : Int32), .int p2]) (rest := []) ⟨hx, hb, hml, hown, hts⟩ (kX6_setOf l g a kmo25) (cwV 3 hts gX6_put_X6_setOf rfl rfl rfl hdX6_setOf ⟨Nat.le_of_ble_eq_true rfl, Nat.le_of_ble_eq_true rfl⟩) hK hN hP hD (va_recv hK hP (ci := 6) (q0 := 0) rfl rfl) rfl hl.1 rfl (Nat.le_of_ble_eq_true rfl) dX6_put_86 ⟨Nat.zero_le _, Nat.zero_le _⟩) hD hS hA (fun H locs hP hD hS => ?_)
                refine lv_aload_n hx hb dX6_put_89 rfl (lv_at hl 0 rfl) ?_
                refine lv_iload_n hx hb dX6_put_90 rfl (lv_at hl 1 rfl) ?_
                refine lv_iconst (v := 1) hx hb dX6_put_91 (by decide) ?_
                refine lv_iload_n hx hb dX6_put_92 rfl (lv_at hl 2 rfl) ?_
                obtain ⟨mo26, kmo26, h⟩ := bd_ex h
                refine aft_w (st1 := []) rfl (runV (As := [.int p1, .int (1 : Int32), .int p2]) (rest := []) ⟨hx, hb, hml, hown, hts⟩ (kX6_setOf l g a kmo26) (cwV 3 hts gX6_put_X6_setOf rfl rfl rfl hdX6_setOf ⟨Nat.le_of_ble_eq_true rfl, Nat.le_of_ble_eq_true rfl⟩) hK hN hP hD (va_recv hK hP (ci := 6) (q0 := 0) rfl rfl) rfl hl.1 rfl (Nat.le_of_ble_eq_true rfl) dX6_put_93 ⟨Nat.zero_le _, Nat.zero_le _⟩) hD hS hA (fun H locs hP hD hS => ?_)
                refine lv_aload_n hx hb dX6_put_96 rfl (lv_at hl 0 rfl) ?_
                refine lv_iload_n hx hb dX6_put_97 rfl (lv_at hl 1 rfl) ?_
                refine lv_iconst (v := 2) hx hb dX6_put_98 (by decide) ?_
                refine lv_iload_n hx hb dX6_put_99 rfl (lv_at hl 3 rfl) ?_
                obtain ⟨mo27, kmo27, h⟩ := bd_ex h
                refine aft_w (st1 := []) rfl (runV (As := [.int p1, .int (2 : Int32), .int p3]) (rest := []) ⟨hx, hb, hml, hown, hts⟩ (kX6_setOf l g a kmo27) (cwV 3 hts gX6_put_X6_setOf rfl rfl rfl hdX6_setOf ⟨Nat.le_of_ble_eq_true rfl, Nat.le_of_ble_eq_true rfl⟩) hK hN hP hD (va_recv hK hP (ci := 6) (q0 := 0) rfl rfl) rfl hl.1 rfl (Nat.le_of_ble_eq_true rfl) dX6_put_100 ⟨Nat.zero_le _, Nat.zero_le _⟩) hD hS hA (fun H locs hP hD hS => ?_)
                refine lv_aload_n hx hb dX6_put_103 rfl (lv_at hl 0 rfl) ?_
                refine lv_iload_n hx hb dX6_put_104 rfl (lv_at hl 1 rfl) ?_
                refine lv_iconst (v := 3) hx hb dX6_put_105 (by decide) ?_
                refine lv_iconst (v := 0) hx hb dX6_put_106 (by decide) ?_
                obtain ⟨mo28, kmo28, h⟩ := bd_ex h
                refine aft_w (st1 := []) rfl (runV (As := [.int p1, .int (3 : Int32), .int (0 : Int32)]) (rest := []) ⟨hx, hb, hml, hown, hts⟩ (kX6_setOf l g a kmo28) (cwV 3 hts gX6_put_X6_setOf rfl rfl rfl hdX6_setOf ⟨Nat.le_of_ble_eq_true rfl, Nat.le_of_ble_eq_true rfl⟩) hK hN hP hD (va_recv hK hP (ci := 6) (q0 := 0) rfl rfl) rfl hl.1 rfl (Nat.le_of_ble_eq_true rfl) dX6_put_107 ⟨Nat.zero_le _, Nat.zero_le _⟩) hD hS hA (fun H locs hP hD hS => ?_)
                refine lv_aload_n hx hb dX6_put_110 rfl (lv_at hl 0 rfl) ?_
                refine lv_iload_n hx hb dX6_put_111 rfl (lv_at hl 1 rfl) ?_
                refine lv_iconst (v := 4) hx hb dX6_put_112 (by decide) ?_
                refine lv_iconst (v := 0) hx hb dX6_put_113 (by decide) ?_
                obtain ⟨mo29, kmo29, h⟩ := bd_ex h
                refine aft_w (st1 := []) rfl (runV (As := [.int p1, .int (4 : Int32), .int (0 : Int32)]) (rest := []) ⟨hx, hb, hml, hown, hts⟩ (kX6_setOf l g a kmo29) (cwV 3 hts gX6_put_X6_setOf rfl rfl rfl hdX6_setOf ⟨Nat.le_of_ble_eq_true rfl, Nat.le_of_ble_eq_true rfl⟩) hK hN hP hD (va_recv hK hP (ci := 6) (q0 := 0) rfl rfl) rfl hl.1 rfl (Nat.le_of_ble_eq_true rfl) dX6_put_114 ⟨Nat.zero_le _, Nat.zero_le _⟩) hD hS hA (fun H locs hP hD hS => ?_)
                refine lv_aload_n hx hb dX6_put_117 rfl (lv_at hl 0 rfl) ?_
                refine lv_iload_n hx hb dX6_put_118 rfl (lv_at hl 1 rfl) ?_
                obtain ⟨r30, mo31, kr30, h⟩ := bd2_ex h
                refine aft_w (st1 := [.int r30]) rfl (runV (As := [.int p1]) (rest := []) ⟨hx, hb, hml, hown, hts⟩ (kX6_fewestOf l g a kr30) (cwV 1 hts gX6_put_X6_fewestOf rfl rfl rfl hdX6_fewestOf ⟨Nat.le_of_ble_eq_true rfl, Nat.le_of_ble_eq_true rfl⟩) hK hN hP hD (va_recv hK hP (ci := 6) (q0 := 0) rfl rfl) rfl hl.1 rfl (Nat.le_of_ble_eq_true rfl) dX6_put_119 ⟨Nat.zero_le _, Nat.zero_le _⟩) hD hS hA (fun H locs hP hD hS => ?_)
                cases some_i h
                exact hend _ _ _ _ _ hP hD hS (RetOK.i dX6_put_122)
              · have h := if_f c23 h
                refine lv_aload_n hx hb dX6_put_72 rfl (lv_at hl 0 rfl) ?_
                refine lv_iconst (v := 3) hx hb dX6_put_73 (by decide) ?_
                obtain ⟨r32, mo33, kr32, h⟩ := bd2_ex h
                refine aft_w (st1 := [.int r32]) rfl (runV (As := [.int (3 : Int32)]) (rest := []) ⟨hx, hb, hml, hown, hts⟩ (kX6_fails l g a kr32) (cwV 1 hts gX6_put_X6_fails rfl rfl rfl hdX6_fails ⟨Nat.le_of_ble_eq_true rfl, Nat.le_of_ble_eq_true rfl⟩) hK hN hP hD (va_recv hK hP (ci := 6) (q0 := 0) rfl rfl) rfl hl.1 rfl (Nat.le_of_ble_eq_true rfl) dX6_put_74 ⟨Nat.zero_le _, Nat.zero_le _⟩) hD hS hA (fun H locs hP hD hS => ?_)
                cases some_i h
                exact hend _ _ _ _ _ hP hD hS (RetOK.i dX6_put_77)
        · have h := if_t c12 h
          refine lv_aload_n hx hb dX6_put_39 rfl (lv_at hl 0 rfl) ?_
          refine lv_iconst (v := 2) hx hb dX6_put_40 (by decide) ?_
          obtain ⟨r34, mo35, kr34, h⟩ := bd2_ex h
          refine aft_w (st1 := [.int r34]) rfl (runV (As := [.int (2 : Int32)]) (rest := []) ⟨hx, hb, hml, hown, hts⟩ (kX6_fails l g a kr34) (cwV 1 hts gX6_put_X6_fails rfl rfl rfl hdX6_fails ⟨Nat.le_of_ble_eq_true rfl, Nat.le_of_ble_eq_true rfl⟩) hK hN hP hD (va_recv hK hP (ci := 6) (q0 := 0) rfl rfl) rfl hl.1 rfl (Nat.le_of_ble_eq_true rfl) dX6_put_41 ⟨Nat.zero_le _, Nat.zero_le _⟩) hD hS hA (fun H locs hP hD hS => ?_)
          cases some_i h
          exact hend _ _ _ _ _ hP hD hS (RetOK.i dX6_put_44)
      · have h := if_t c11 h
        refine lv_aload_n hx hb dX6_put_28 rfl (lv_at hl 0 rfl) ?_
        refine lv_iconst (v := 1) hx hb dX6_put_29 (by decide) ?_
        obtain ⟨r36, mo37, kr36, h⟩ := bd2_ex h
        refine aft_w (st1 := [.int r36]) rfl (runV (As := [.int (1 : Int32)]) (rest := []) ⟨hx, hb, hml, hown, hts⟩ (kX6_fails l g a kr36) (cwV 1 hts gX6_put_X6_fails rfl rfl rfl hdX6_fails ⟨Nat.le_of_ble_eq_true rfl, Nat.le_of_ble_eq_true rfl⟩) hK hN hP hD (va_recv hK hP (ci := 6) (q0 := 0) rfl rfl) rfl hl.1 rfl (Nat.le_of_ble_eq_true rfl) dX6_put_30 ⟨Nat.zero_le _, Nat.zero_le _⟩) hD hS hA (fun H locs hP hD hS => ?_)
        cases some_i h
        exact hend _ _ _ _ _ hP hD hS (RetOK.i dX6_put_33)
def fX6_safest (mo : Mo) : Option (Int32 × Mo) :=
(pl (Mo_set_thrown mo (0 : Int32)) fun (mo1 : Mo) =>
(bd2 (fX6_tellsSafest mo1) fun (r2 : Int32) (mo3 : Mo) =>
(some (r2, mo3))))
abbrev rX6_safest : Room := { frames := 5, cells := 0, slots := 0, locals := 112 }
theorem hdX6_safest : yX6_safest.cls = RX6 ∧ yX6_safest.cls ≠ "java/lang/invoke/MethodHandle" ∧ yX6_safest.cls ≠ "java/lang/invoke/VarHandle" ∧ (parseMethodDescriptor yX6_safest.desc).map (fun d => d.parameters.length) = some 0 := by decide +kernel
set_option maxRecDepth 100000 in
set_option maxHeartbeats 8000000 in
theorem kX6_safest (l : Launch) (g : GG) (a : Nat → Nat) {mo : Mo} {res : Int32} {mo' : Mo} (h : fX6_safest mo = some (res, mo')) : Cg l g yX6_safest wsX6_safest rX6_safest [.ref (a 0)] (cMo g a mo) (some (.int res)) (cMo g a mo') := by
  refine Cg_of (cc := cX6_safest) (maxL := 1) (ret := (some .int)) (by decide +kernel) rfl (Nat.le_of_ble_eq_true rfl) ?_
  intro p e su m args below meth c A Q ls hx hb hml hown hts hK hN hA hnm hP hD hS hl hend
  have hinX6 : ∀ w ∈ u_ws RX6 TX6 15, w ∈ wsX6_safest := fun _ h9 => List.mem_cons_of_mem _ (List.mem_append_right _ h9)
  unfold fX6_safest at h
  have hl : lv_has ls 1 [(0, .ref (a 0))] := hl
  refine lv_aload_n hx hb dX6_safest_0 rfl (lv_at hl 0 rfl) ?_
  refine lv_iconst (v := 0) hx hb dX6_safest_1 (by decide) ?_
  obtain ⟨mo1, emo1, h⟩ := pl_ex h
  refine va_put (D := g.1) (ci := 6) (v := .int (0 : Int32)) (ty := .int) (C := RX6) (T := TX6) (N := 15) hx hb hts hinX6 tyX6 tyX6_ok nmX6 hown hK hP hD hS 0 rfl rfl 0 (by decide) (hts (.fieldLink RX6 29 "BarredRungsModel" "thrown" "I") (List.mem_of_getElem? (i := 1) rfl)) (fun _ h9 => h9) rfl (by decide +kernel) rfl rfl (Nat.le_of_ble_eq_true rfl) dX6_safest_2 (fun H locs hP hD hS => ?_)
  have hP : va_P g.1 vwCl (cMo g a mo1) H := by rw [← emo1]; exact hP
  have hD : va_D A (cMo g a mo1) := by rw [← emo1]; exact hD
  refine lv_aload_n hx hb dX6_safest_5 rfl (lv_at hl 0 rfl) ?_
  obtain ⟨r2, mo3, kr2, h⟩ := bd2_ex h
  refine aft_w (st1 := [.int r2]) rfl (runV (As := []) (rest := []) ⟨hx, hb, hml, hown, hts⟩ (kX6_tellsSafest l g a kr2) (cwV 0 hts gX6_safest_X6_tellsSafest rfl rfl rfl hdX6_tellsSafest ⟨Nat.le_of_ble_eq_true rfl, Nat.le_of_ble_eq_true rfl⟩) hK hN hP hD (va_recv hK hP (ci := 6) (q0 := 0) rfl rfl) rfl hl.1 rfl (Nat.le_of_ble_eq_true rfl) dX6_safest_6 ⟨Nat.zero_le _, Nat.zero_le _⟩) hD hS hA (fun H locs hP hD hS => ?_)
  cases some_i h
  exact hend _ _ _ _ _ hP hD hS (RetOK.i dX6_safest_9)
def fX6_set (mo : Mo) (p1 : Int32) (p2 : Int32) : Option (Int32 × Mo) :=
(pl (Mo_set_thrown mo (0 : Int32)) fun (mo1 : Mo) =>
(bd (fX6_within p1 (0 : Int32) (1 : Int32)) fun (r2 : Int32) =>
(if r2 = (0 : Int32) then
(bd2 (fX6_fails mo1 (1 : Int32)) fun (r11 : Int32) (mo12 : Mo) =>
(some (r11, mo12)))
else
(bd (fX6_within p2 (1 : Int32) (7 : Int32)) fun (r4 : Int32) =>
(if r4 = (0 : Int32) then
(bd2 (fX6_fails mo1 (2 : Int32)) fun (r9 : Int32) (mo10 : Mo) =>
(some (r9, mo10)))
else
(bd (fX6_save mo1) fun (mo6 : Mo) =>
(ck (inb ((3 : Int32) + p1) 55)
(pl ((Mo_state mo6 ((3 : Int32) + p1).toNatClampNeg)) fun (x7 : Int32) =>
(ck (inb ((3 : Int32) + p1) 55)
(pl (Mo_set_state mo6 (upd (Mo_state mo6) ((3 : Int32) + p1).toNatClampNeg p2)) fun (mo8 : Mo) =>
(some (x7, mo8))))))))))))
abbrev rX6_set : Room := { frames := 1, cells := 0, slots := 0, locals := 22 }
theorem hdX6_set : yX6_set.cls = RX6 ∧ yX6_set.cls ≠ "java/lang/invoke/MethodHandle" ∧ yX6_set.cls ≠ "java/lang/invoke/VarHandle" ∧ (parseMethodDescriptor yX6_set.desc).map (fun d => d.parameters.length) = some 2 := by decide +kernel
set_option maxRecDepth 100000 in
set_option maxHeartbeats 8000000 in
theorem kX6_set (l : Launch) (g : GG) (a : Nat → Nat) {mo : Mo} {p1 : Int32} {p2 : Int32} {res : Int32} {mo' : Mo} (h : fX6_set mo p1 p2 = some (res, mo')) : Cg l g yX6_set wsX6_set rX6_set [.ref (a 0), .int p1, .int p2] (cMo g a mo) (some (.int res)) (cMo g a mo') := by
  refine Cg_of (cc := cX6_set) (maxL := 4) (ret := (some .int)) (by decide +kernel) rfl (Nat.le_of_ble_eq_true rfl) ?_
  intro p e su m args below meth c A Q ls hx hb hml hown hts hK hN hA hnm hP hD hS hl hend
  have hinX6 : ∀ w ∈ u_ws RX6 TX6 15, w ∈ wsX6_set := fun _ h9 => List.mem_cons_of_mem _ (List.mem_append_right _ h9)
  unfold fX6_set at h
  have hl : lv_has ls 4 [(0, .ref (a 0)), (1, .int p1), (2, .int p2)] := hl
  refine lv_aload_n hx hb dX6_set_0 rfl (lv_at hl 0 rfl) ?_
  refine lv_iconst (v := 0) hx hb dX6_set_1 (by decide) ?_
  obtain ⟨mo1, emo1, h⟩ := pl_ex h
  refine va_put (D := g.1) (ci := 6) (v := .int (0 : Int32)) (ty := .int) (C := RX6) (T := TX6) (N := 15) hx hb hts hinX6 tyX6 tyX6_ok nmX6 hown hK hP hD hS 0 rfl rfl 0 (by decide) (hts (.fieldLink RX6 29 "BarredRungsModel" "thrown" "I") (List.mem_of_getElem? (i := 1) rfl)) (fun _ h9 => h9) rfl (by decide +kernel) rfl rfl (Nat.le_of_ble_eq_true rfl) dX6_set_2 (fun H locs hP hD hS => ?_)
  have hP : va_P g.1 vwCl (cMo g a mo1) H := by rw [← emo1]; exact hP
  have hD : va_D A (cMo g a mo1) := by rw [← emo1]; exact hD
  refine lv_iload_n hx hb dX6_set_5 rfl (lv_at hl 1 rfl) ?_
  refine lv_iconst (v := 0) hx hb dX6_set_6 (by decide) ?_
  refine lv_iconst (v := 1) hx hb dX6_set_7 (by decide) ?_
  obtain ⟨r2, kr2, h⟩ := bd_ex h
  refine aft_e (st1 := [.int r2]) rfl (runS (As := [.int p1, .int (0 : Int32), .int (1 : Int32)]) (rest := []) ⟨hx, hb, hml, hown, hts⟩ (kX6_within l g kr2) (va_cwS 3 hts gX6_set_X6_within rfl rfl rfl hdX6_within.2 ⟨Nat.le_of_ble_eq_true rfl, Nat.le_of_ble_eq_true rfl⟩) hK hN nilP (nilD (A := A)) rfl hl.1 rfl (Nat.le_of_ble_eq_true rfl) dX6_set_8 ⟨Nat.zero_le _, Nat.zero_le _⟩) hP hS hA (fun H locs hP hS => ?_)
  refine lv_if_ne (tgt := 20) hx hb dX6_set_11 (by decide) (fun c3 => ?_) (fun c3 => ?_)
  · have h := if_f c3 h
    refine lv_iload_n hx hb dX6_set_20 rfl (lv_at hl 2 rfl) ?_
    refine lv_iconst (v := 1) hx hb dX6_set_21 (by decide) ?_
    refine lv_bipush (v := 7) hx hb dX6_set_22 (by decide) ?_
    obtain ⟨r4, kr4, h⟩ := bd_ex h
    refine aft_e (st1 := [.int r4]) rfl (runS (As := [.int p2, .int (1 : Int32), .int (7 : Int32)]) (rest := []) ⟨hx, hb, hml, hown, hts⟩ (kX6_within l g kr4) (va_cwS 3 hts gX6_set_X6_within rfl rfl rfl hdX6_within.2 ⟨Nat.le_of_ble_eq_true rfl, Nat.le_of_ble_eq_true rfl⟩) hK hN nilP (nilD (A := A)) rfl hl.1 rfl (Nat.le_of_ble_eq_true rfl) dX6_set_24 ⟨Nat.zero_le _, Nat.zero_le _⟩) hP hS hA (fun H locs hP hS => ?_)
    refine lv_if_ne (tgt := 36) hx hb dX6_set_27 (by decide) (fun c5 => ?_) (fun c5 => ?_)
    · have h := if_f c5 h
      refine lv_aload_n hx hb dX6_set_36 rfl (lv_at hl 0 rfl) ?_
      obtain ⟨mo6, kmo6, h⟩ := bd_ex h
      refine aft_w (st1 := []) rfl (runV (As := []) (rest := []) ⟨hx, hb, hml, hown, hts⟩ (kX6_save l g a kmo6) (cwV 0 hts gX6_set_X6_save rfl rfl rfl hdX6_save ⟨Nat.le_of_ble_eq_true rfl, Nat.le_of_ble_eq_true rfl⟩) hK hN hP hD (va_recv hK hP (ci := 6) (q0 := 0) rfl rfl) rfl hl.1 rfl (Nat.le_of_ble_eq_true rfl) dX6_set_37 ⟨Nat.zero_le _, Nat.zero_le _⟩) hD hS hA (fun H locs hP hD hS => ?_)
      refine lv_aload_n hx hb dX6_set_40 rfl (lv_at hl 0 rfl) ?_
      refine va_get (D := g.1) (ci := 6) (v := .ref (a 1)) (C := RX6) (T := TX6) (N := 15) hx hb hts hinX6 hown hK hP 0 rfl rfl 1 (by decide) (hts (.fieldLink RX6 7 "BarredRungsModel" "state" "[I") (List.mem_of_getElem? (i := 2) rfl)) (fun _ h9 => h9) rfl dX6_set_41 ?_
      refine lv_iconst (v := 3) hx hb dX6_set_44 (by decide) ?_
      refine lv_iload_n hx hb dX6_set_45 rfl (lv_at hl 1 rfl) ?_
      refine lv_iadd hx hb dX6_set_46 ?_
      obtain ⟨hi9, h⟩ := ck_ex h
      refine va_iald hx hb hK hP 1 0 rfl rfl (inb_in hi9) dX6_set_47 ?_
      obtain ⟨x7, ex7, h⟩ := pl_ex h
      refine lv_eqi ex7 ?_
      refine lv_istore_n (lv' := [(3, .int x7), (0, .ref (a 0)), (1, .int p1), (2, .int p2)]) hx hb dX6_set_48 rfl hl (by decide) rfl (fun ls hl => ?_)
      refine lv_aload_n hx hb dX6_set_49 rfl (lv_at hl 1 rfl) ?_
      refine va_get (D := g.1) (ci := 6) (v := .ref (a 1)) (C := RX6) (T := TX6) (N := 15) hx hb hts hinX6 hown hK hP 0 rfl rfl 1 (by decide) (hts (.fieldLink RX6 7 "BarredRungsModel" "state" "[I") (List.mem_of_getElem? (i := 2) rfl)) (fun _ h9 => h9) rfl dX6_set_50 ?_
      refine lv_iconst (v := 3) hx hb dX6_set_53 (by decide) ?_
      refine lv_iload_n hx hb dX6_set_54 rfl (lv_at hl 2 rfl) ?_
      refine lv_iadd hx hb dX6_set_55 ?_
      refine lv_iload_n hx hb dX6_set_56 rfl (lv_at hl 3 rfl) ?_
      obtain ⟨hi9, h⟩ := ck_ex h
      obtain ⟨mo8, emo8, h⟩ := pl_ex h
      refine va_iast hx hb hK hP hD hS 1 0 rfl rfl (inb_in hi9) dX6_set_57 (fun H locs hP hD hS => ?_)
      have hP : va_P g.1 vwCl (cMo g a mo8) H := by rw [← emo8]; exact hP
      have hD : va_D A (cMo g a mo8) := by rw [← emo8]; exact hD
      refine lv_iload_n hx hb dX6_set_58 rfl (lv_at hl 0 rfl) ?_
      cases some_i h
      exact hend _ _ _ _ _ hP hD hS (RetOK.i dX6_set_59)
    · have h := if_t c5 h
      refine lv_aload_n hx hb dX6_set_30 rfl (lv_at hl 0 rfl) ?_
      refine lv_iconst (v := 2) hx hb dX6_set_31 (by decide) ?_
      obtain ⟨r9, mo10, kr9, h⟩ := bd2_ex h
      refine aft_w (st1 := [.int r9]) rfl (runV (As := [.int (2 : Int32)]) (rest := []) ⟨hx, hb, hml, hown, hts⟩ (kX6_fails l g a kr9) (cwV 1 hts gX6_set_X6_fails rfl rfl rfl hdX6_fails ⟨Nat.le_of_ble_eq_true rfl, Nat.le_of_ble_eq_true rfl⟩) hK hN hP hD (va_recv hK hP (ci := 6) (q0 := 0) rfl rfl) rfl hl.1 rfl (Nat.le_of_ble_eq_true rfl) dX6_set_32 ⟨Nat.zero_le _, Nat.zero_le _⟩) hD hS hA (fun H locs hP hD hS => ?_)
      cases some_i h
      exact hend _ _ _ _ _ hP hD hS (RetOK.i dX6_set_35)
  · have h := if_t c3 h
    refine lv_aload_n hx hb dX6_set_14 rfl (lv_at hl 0 rfl) ?_
    refine lv_iconst (v := 1) hx hb dX6_set_15 (by decide) ?_
    obtain ⟨r11, mo12, kr11, h⟩ := bd2_ex h
    refine aft_w (st1 := [.int r11]) rfl (runV (As := [.int (1 : Int32)]) (rest := []) ⟨hx, hb, hml, hown, hts⟩ (kX6_fails l g a kr11) (cwV 1 hts gX6_set_X6_fails rfl rfl rfl hdX6_fails ⟨Nat.le_of_ble_eq_true rfl, Nat.le_of_ble_eq_true rfl⟩) hK hN hP hD (va_recv hK hP (ci := 6) (q0 := 0) rfl rfl) rfl hl.1 rfl (Nat.le_of_ble_eq_true rfl) dX6_set_16 ⟨Nat.zero_le _, Nat.zero_le _⟩) hD hS hA (fun H locs hP hD hS => ?_)
    cases some_i h
    exact hend _ _ _ _ _ hP hD hS (RetOK.i dX6_set_19)
def fX6_setting (mo : Mo) (p1 : Int32) : Option (Int32 × Mo) :=
(pl (Mo_set_thrown mo (0 : Int32)) fun (mo1 : Mo) =>
(bd (fX6_within p1 (0 : Int32) (1 : Int32)) fun (r2 : Int32) =>
(if r2 = (0 : Int32) then
(bd2 (fX6_fails mo1 (1 : Int32)) fun (r4 : Int32) (mo5 : Mo) =>
(some (r4, mo5)))
else
(ck (inb ((3 : Int32) + p1) 55)
(some ((Mo_state mo1 ((3 : Int32) + p1).toNatClampNeg), mo1))))))
abbrev rX6_setting : Room := { frames := 1, cells := 0, slots := 0, locals := 22 }
theorem hdX6_setting : yX6_setting.cls = RX6 ∧ yX6_setting.cls ≠ "java/lang/invoke/MethodHandle" ∧ yX6_setting.cls ≠ "java/lang/invoke/VarHandle" ∧ (parseMethodDescriptor yX6_setting.desc).map (fun d => d.parameters.length) = some 1 := by decide +kernel
set_option maxRecDepth 100000 in
set_option maxHeartbeats 8000000 in
theorem kX6_setting (l : Launch) (g : GG) (a : Nat → Nat) {mo : Mo} {p1 : Int32} {res : Int32} {mo' : Mo} (h : fX6_setting mo p1 = some (res, mo')) : Cg l g yX6_setting wsX6_setting rX6_setting [.ref (a 0), .int p1] (cMo g a mo) (some (.int res)) (cMo g a mo') := by
  refine Cg_of (cc := cX6_setting) (maxL := 2) (ret := (some .int)) (by decide +kernel) rfl (Nat.le_of_ble_eq_true rfl) ?_
  intro p e su m args below meth c A Q ls hx hb hml hown hts hK hN hA hnm hP hD hS hl hend
  have hinX6 : ∀ w ∈ u_ws RX6 TX6 15, w ∈ wsX6_setting := fun _ h9 => List.mem_cons_of_mem _ (List.mem_append_right _ h9)
  unfold fX6_setting at h
  have hl : lv_has ls 2 [(0, .ref (a 0)), (1, .int p1)] := hl
  refine lv_aload_n hx hb dX6_setting_0 rfl (lv_at hl 0 rfl) ?_
  refine lv_iconst (v := 0) hx hb dX6_setting_1 (by decide) ?_
  obtain ⟨mo1, emo1, h⟩ := pl_ex h
  refine va_put (D := g.1) (ci := 6) (v := .int (0 : Int32)) (ty := .int) (C := RX6) (T := TX6) (N := 15) hx hb hts hinX6 tyX6 tyX6_ok nmX6 hown hK hP hD hS 0 rfl rfl 0 (by decide) (hts (.fieldLink RX6 29 "BarredRungsModel" "thrown" "I") (List.mem_of_getElem? (i := 1) rfl)) (fun _ h9 => h9) rfl (by decide +kernel) rfl rfl (Nat.le_of_ble_eq_true rfl) dX6_setting_2 (fun H locs hP hD hS => ?_)
  have hP : va_P g.1 vwCl (cMo g a mo1) H := by rw [← emo1]; exact hP
  have hD : va_D A (cMo g a mo1) := by rw [← emo1]; exact hD
  refine lv_iload_n hx hb dX6_setting_5 rfl (lv_at hl 1 rfl) ?_
  refine lv_iconst (v := 0) hx hb dX6_setting_6 (by decide) ?_
  refine lv_iconst (v := 1) hx hb dX6_setting_7 (by decide) ?_
  obtain ⟨r2, kr2, h⟩ := bd_ex h
  refine aft_e (st1 := [.int r2]) rfl (runS (As := [.int p1, .int (0 : Int32), .int (1 : Int32)]) (rest := []) ⟨hx, hb, hml, hown, hts⟩ (kX6_within l g kr2) (va_cwS 3 hts gX6_setting_X6_within rfl rfl rfl hdX6_within.2 ⟨Nat.le_of_ble_eq_true rfl, Nat.le_of_ble_eq_true rfl⟩) hK hN nilP (nilD (A := A)) rfl hl.1 rfl (Nat.le_of_ble_eq_true rfl) dX6_setting_8 ⟨Nat.zero_le _, Nat.zero_le _⟩) hP hS hA (fun H locs hP hS => ?_)
  refine lv_if_eq (tgt := 25) hx hb dX6_setting_11 (by decide) (fun c3 => ?_) (fun c3 => ?_)
  · have h := if_t c3 h
    refine lv_aload_n hx hb dX6_setting_25 rfl (lv_at hl 0 rfl) ?_
    refine lv_iconst (v := 1) hx hb dX6_setting_26 (by decide) ?_
    obtain ⟨r4, mo5, kr4, h⟩ := bd2_ex h
    refine aft_w (st1 := [.int r4]) rfl (runV (As := [.int (1 : Int32)]) (rest := []) ⟨hx, hb, hml, hown, hts⟩ (kX6_fails l g a kr4) (cwV 1 hts gX6_setting_X6_fails rfl rfl rfl hdX6_fails ⟨Nat.le_of_ble_eq_true rfl, Nat.le_of_ble_eq_true rfl⟩) hK hN hP hD (va_recv hK hP (ci := 6) (q0 := 0) rfl rfl) rfl hl.1 rfl (Nat.le_of_ble_eq_true rfl) dX6_setting_27 ⟨Nat.zero_le _, Nat.zero_le _⟩) hD hS hA (fun H locs hP hD hS => ?_)
    cases some_i h
    exact hend _ _ _ _ _ hP hD hS (RetOK.i dX6_setting_30)
  · have h := if_f c3 h
    refine lv_aload_n hx hb dX6_setting_14 rfl (lv_at hl 0 rfl) ?_
    refine va_get (D := g.1) (ci := 6) (v := .ref (a 1)) (C := RX6) (T := TX6) (N := 15) hx hb hts hinX6 hown hK hP 0 rfl rfl 1 (by decide) (hts (.fieldLink RX6 7 "BarredRungsModel" "state" "[I") (List.mem_of_getElem? (i := 2) rfl)) (fun _ h9 => h9) rfl dX6_setting_15 ?_
    refine lv_iconst (v := 3) hx hb dX6_setting_18 (by decide) ?_
    refine lv_iload_n hx hb dX6_setting_19 rfl (lv_at hl 1 rfl) ?_
    refine lv_iadd hx hb dX6_setting_20 ?_
    obtain ⟨hi9, h⟩ := ck_ex h
    refine va_iald hx hb hK hP 1 0 rfl rfl (inb_in hi9) dX6_setting_21 ?_
    refine lv_goto (tgt := 30) hx hb dX6_setting_22 (by decide) ?_
    cases some_i h
    exact hend _ _ _ _ _ hP hD hS (RetOK.i dX6_setting_30)
def fX6_thrown (mo : Mo) : Option (Int32) :=
(some (Mo_thrown mo))
abbrev rX6_thrown : Room := { frames := 0, cells := 0, slots := 0, locals := 0 }
theorem hdX6_thrown : yX6_thrown.cls = RX6 ∧ yX6_thrown.cls ≠ "java/lang/invoke/MethodHandle" ∧ yX6_thrown.cls ≠ "java/lang/invoke/VarHandle" ∧ (parseMethodDescriptor yX6_thrown.desc).map (fun d => d.parameters.length) = some 0 := by decide +kernel
set_option maxRecDepth 100000 in
set_option maxHeartbeats 8000000 in
theorem kX6_thrown (l : Launch) (g : GG) (a : Nat → Nat) {mo : Mo} {res : Int32} (h : fX6_thrown mo = some res) : Cg l g yX6_thrown wsX6_thrown rX6_thrown [.ref (a 0)] (cMo g a mo) (some (.int res)) (cMo g a mo) := by
  refine Cg_of (cc := cX6_thrown) (maxL := 1) (ret := (some .int)) (by decide +kernel) rfl (Nat.le_of_ble_eq_true rfl) ?_
  intro p e su m args below meth c A Q ls hx hb hml hown hts hK hN hA hnm hP hD hS hl hend
  have hinX6 : ∀ w ∈ u_ws RX6 TX6 15, w ∈ wsX6_thrown := fun _ h9 => List.mem_cons_of_mem _ (List.mem_append_right _ h9)
  unfold fX6_thrown at h
  have hl : lv_has ls 1 [(0, .ref (a 0))] := hl
  refine lv_aload_n hx hb dX6_thrown_0 rfl (lv_at hl 0 rfl) ?_
  refine va_get (D := g.1) (ci := 6) (v := .int (Mo_thrown mo)) (C := RX6) (T := TX6) (N := 15) hx hb hts hinX6 hown hK hP 0 rfl rfl 0 (by decide) (hts (.fieldLink RX6 29 "BarredRungsModel" "thrown" "I") (List.mem_of_getElem? (i := 1) rfl)) (fun _ h9 => h9) rfl dX6_thrown_1 ?_
  cases some_i h
  exact hend _ _ _ _ _ hP hD hS (RetOK.i dX6_thrown_4)
def fX6_turn (mo : Mo) : Option (Int32 × Mo) :=
(pl (Mo_set_thrown mo (0 : Int32)) fun (mo1 : Mo) =>
(bd (fX6_save mo1) fun (mo2 : Mo) =>
(bd2 (fX6_passes mo2) fun (r3 : Int32) (mo4 : Mo) =>
(some (r3, mo4)))))
abbrev rX6_turn : Room := { frames := 5, cells := 0, slots := 0, locals := 108 }
theorem hdX6_turn : yX6_turn.cls = RX6 ∧ yX6_turn.cls ≠ "java/lang/invoke/MethodHandle" ∧ yX6_turn.cls ≠ "java/lang/invoke/VarHandle" ∧ (parseMethodDescriptor yX6_turn.desc).map (fun d => d.parameters.length) = some 0 := by decide +kernel
set_option maxRecDepth 100000 in
set_option maxHeartbeats 8000000 in
theorem kX6_turn (l : Launch) (g : GG) (a : Nat → Nat) {mo : Mo} {res : Int32} {mo' : Mo} (h : fX6_turn mo = some (res, mo')) : Cg l g yX6_turn wsX6_turn rX6_turn [.ref (a 0)] (cMo g a mo) (some (.int res)) (cMo g a mo') := by
  refine Cg_of (cc := cX6_turn) (maxL := 1) (ret := (some .int)) (by decide +kernel) rfl (Nat.le_of_ble_eq_true rfl) ?_
  intro p e su m args below meth c A Q ls hx hb hml hown hts hK hN hA hnm hP hD hS hl hend
  have hinX6 : ∀ w ∈ u_ws RX6 TX6 15, w ∈ wsX6_turn := fun _ h9 => List.mem_cons_of_mem _ (List.mem_append_right _ h9)
  unfold fX6_turn at h
  have hl : lv_has ls 1 [(0, .ref (a 0))] := hl
  refine lv_aload_n hx hb dX6_turn_0 rfl (lv_at hl 0 rfl) ?_
  refine lv_iconst (v := 0) hx hb dX6_turn_1 (by decide) ?_
  obtain ⟨mo1, emo1, h⟩ := pl_ex h
  refine va_put (D := g.1) (ci := 6) (v := .int (0 : Int32)) (ty := .int) (C := RX6) (T := TX6) (N := 15) hx hb hts hinX6 tyX6 tyX6_ok nmX6 hown hK hP hD hS 0 rfl rfl 0 (by decide) (hts (.fieldLink RX6 29 "BarredRungsModel" "thrown" "I") (List.mem_of_getElem? (i := 1) rfl)) (fun _ h9 => h9) rfl (by decide +kernel) rfl rfl (Nat.le_of_ble_eq_true rfl) dX6_turn_2 (fun H locs hP hD hS => ?_)
  have hP : va_P g.1 vwCl (cMo g a mo1) H := by rw [← emo1]; exact hP
  have hD : va_D A (cMo g a mo1) := by rw [← emo1]; exact hD
  refine lv_aload_n hx hb dX6_turn_5 rfl (lv_at hl 0 rfl) ?_
  obtain ⟨mo2, kmo2, h⟩ := bd_ex h
  refine aft_w (st1 := []) rfl (runV (As := []) (rest := []) ⟨hx, hb, hml, hown, hts⟩ (kX6_save l g a kmo2) (cwV 0 hts gX6_turn_X6_save rfl rfl rfl hdX6_save ⟨Nat.le_of_ble_eq_true rfl, Nat.le_of_ble_eq_true rfl⟩) hK hN hP hD (va_recv hK hP (ci := 6) (q0 := 0) rfl rfl) rfl hl.1 rfl (Nat.le_of_ble_eq_true rfl) dX6_turn_6 ⟨Nat.zero_le _, Nat.zero_le _⟩) hD hS hA (fun H locs hP hD hS => ?_)
  refine lv_aload_n hx hb dX6_turn_9 rfl (lv_at hl 0 rfl) ?_
  obtain ⟨r3, mo4, kr3, h⟩ := bd2_ex h
  refine aft_w (st1 := [.int r3]) rfl (runV (As := []) (rest := []) ⟨hx, hb, hml, hown, hts⟩ (kX6_passes l g a kr3) (cwV 0 hts gX6_turn_X6_passes rfl rfl rfl hdX6_passes ⟨Nat.le_of_ble_eq_true rfl, Nat.le_of_ble_eq_true rfl⟩) hK hN hP hD (va_recv hK hP (ci := 6) (q0 := 0) rfl rfl) rfl hl.1 rfl (Nat.le_of_ble_eq_true rfl) dX6_turn_10 ⟨Nat.zero_le _, Nat.zero_le _⟩) hD hS hA (fun H locs hP hD hS => ?_)
  cases some_i h
  exact hend _ _ _ _ _ hP hD hS (RetOK.i dX6_turn_13)
def fX6_undo_L30 : Nat → Int32 → Mo → Option (Mo)
  | 0, _, _ => none
  | n + 1, v1_4, mo5 =>
    (if (55 : Int32) ≤ v1_4 then
    (some mo5)
    else
    (ck (inb (((Mo_savedMany mo5) * (55 : Int32)) + v1_4) 330)
    (ck (inb v1_4 55)
    (pl (Mo_set_state mo5 (upd (Mo_state mo5) v1_4.toNatClampNeg (Mo_saved mo5 (((Mo_savedMany mo5) * (55 : Int32)) + v1_4).toNatClampNeg))) fun (mo8 : Mo) =>
    (pl ((v1_4 + (1 : Int32))) fun (x9 : Int32) =>
    (fX6_undo_L30 n x9 mo8))))))
def fX6_undo (mo : Mo) : Option (Int32 × Mo) :=
(pl (Mo_set_thrown mo (0 : Int32)) fun (mo1 : Mo) =>
(if (Mo_savedMany mo1) = (0 : Int32) then
(bd2 (fX6_fails mo1 (1 : Int32)) fun (r11 : Int32) (mo12 : Mo) =>
(some (r11, mo12)))
else
(pl (Mo_set_savedMany mo1 ((Mo_savedMany mo1) - (1 : Int32))) fun (mo3 : Mo) =>
(bd (fX6_undo_L30 1000 (0 : Int32) mo3) fun (mo10 : Mo) =>
(some ((Mo_savedMany mo10), mo10))))))
abbrev rX6_undo : Room := { frames := 1, cells := 0, slots := 0, locals := 21 }
theorem hdX6_undo : yX6_undo.cls = RX6 ∧ yX6_undo.cls ≠ "java/lang/invoke/MethodHandle" ∧ yX6_undo.cls ≠ "java/lang/invoke/VarHandle" ∧ (parseMethodDescriptor yX6_undo.desc).map (fun d => d.parameters.length) = some 0 := by decide +kernel
set_option maxRecDepth 100000 in
set_option maxHeartbeats 8000000 in
theorem kX6_undo (l : Launch) (g : GG) (a : Nat → Nat) {mo : Mo} {res : Int32} {mo' : Mo} (h : fX6_undo mo = some (res, mo')) : Cg l g yX6_undo wsX6_undo rX6_undo [.ref (a 0)] (cMo g a mo) (some (.int res)) (cMo g a mo') := by
  refine Cg_of (cc := cX6_undo) (maxL := 2) (ret := (some .int)) (by decide +kernel) rfl (Nat.le_of_ble_eq_true rfl) ?_
  intro p e su m args below meth c A Q ls hx hb hml hown hts hK hN hA hnm hP hD hS hl hend
  have hinX6 : ∀ w ∈ u_ws RX6 TX6 15, w ∈ wsX6_undo := fun _ h9 => List.mem_cons_of_mem _ (List.mem_append_right _ h9)
  unfold fX6_undo at h
  have hl : lv_has ls 2 [(0, .ref (a 0))] := hl
  refine lv_aload_n hx hb dX6_undo_0 rfl (lv_at hl 0 rfl) ?_
  refine lv_iconst (v := 0) hx hb dX6_undo_1 (by decide) ?_
  obtain ⟨mo1, emo1, h⟩ := pl_ex h
  refine va_put (D := g.1) (ci := 6) (v := .int (0 : Int32)) (ty := .int) (C := RX6) (T := TX6) (N := 15) hx hb hts hinX6 tyX6 tyX6_ok nmX6 hown hK hP hD hS 0 rfl rfl 0 (by decide) (hts (.fieldLink RX6 29 "BarredRungsModel" "thrown" "I") (List.mem_of_getElem? (i := 1) rfl)) (fun _ h9 => h9) rfl (by decide +kernel) rfl rfl (Nat.le_of_ble_eq_true rfl) dX6_undo_2 (fun H locs hP hD hS => ?_)
  have hP : va_P g.1 vwCl (cMo g a mo1) H := by rw [← emo1]; exact hP
  have hD : va_D A (cMo g a mo1) := by rw [← emo1]; exact hD
  refine lv_aload_n hx hb dX6_undo_5 rfl (lv_at hl 0 rfl) ?_
  refine va_get (D := g.1) (ci := 6) (v := .int (Mo_savedMany mo1)) (C := RX6) (T := TX6) (N := 15) hx hb hts hinX6 hown hK hP 0 rfl rfl 3 (by decide) (hts (.fieldLink RX6 37 "BarredRungsModel" "savedMany" "I") (List.mem_of_getElem? (i := 2) rfl)) (fun _ h9 => h9) rfl dX6_undo_6 ?_
  refine lv_if_ne (tgt := 18) hx hb dX6_undo_9 (by decide) (fun c2 => ?_) (fun c2 => ?_)
  · have h := if_f c2 h
    refine lv_aload_n hx hb dX6_undo_18 rfl (lv_at hl 0 rfl) ?_
    refine lv_dup hx hb dX6_undo_19 rfl ?_
    refine va_get (D := g.1) (ci := 6) (v := .int (Mo_savedMany mo1)) (C := RX6) (T := TX6) (N := 15) hx hb hts hinX6 hown hK hP 0 rfl rfl 3 (by decide) (hts (.fieldLink RX6 37 "BarredRungsModel" "savedMany" "I") (List.mem_of_getElem? (i := 2) rfl)) (fun _ h9 => h9) rfl dX6_undo_20 ?_
    refine lv_iconst (v := 1) hx hb dX6_undo_23 (by decide) ?_
    refine lv_isub hx hb dX6_undo_24 ?_
    obtain ⟨mo3, emo3, h⟩ := pl_ex h
    refine va_put (D := g.1) (ci := 6) (v := .int ((Mo_savedMany mo1) - (1 : Int32))) (ty := .int) (C := RX6) (T := TX6) (N := 15) hx hb hts hinX6 tyX6 tyX6_ok nmX6 hown hK hP hD hS 0 rfl rfl 3 (by decide) (hts (.fieldLink RX6 37 "BarredRungsModel" "savedMany" "I") (List.mem_of_getElem? (i := 2) rfl)) (fun _ h9 => h9) rfl (by decide +kernel) rfl rfl (Nat.le_of_ble_eq_true rfl) dX6_undo_25 (fun H locs hP hD hS => ?_)
    have hP : va_P g.1 vwCl (cMo g a mo3) H := by rw [← emo3]; exact hP
    have hD : va_D A (cMo g a mo3) := by rw [← emo3]; exact hD
    refine lv_iconst (v := 0) hx hb dX6_undo_28 (by decide) ?_
    refine lv_istore_n (lv' := [(1, .int (0 : Int32)), (0, .ref (a 0))]) hx hb dX6_undo_29 rfl hl (by decide) rfl (fun ls hl => ?_)
    have L30 : ∀ (n : Nat) (v1_4 : Int32) (mo5 : Mo) (mo6 : Mo) (H : Heap) (locs : List Loc) (ls : Array Slot), fX6_undo_L30 n v1_4 mo5 = some mo6 → va_P g.1 vwCl (cMo g a mo5) H → va_D A (cMo g a mo5) → va_S A su.heap H locs → lv_has ls 2 [(0, .ref (a 0)), (1, .int v1_4)] → (∀ (H : Heap) (locs : List Loc) (ls : Array Slot), va_P g.1 vwCl (cMo g a mo6) H → va_D A (cMo g a mo6) → va_S A su.heap H locs → lv_has ls 2 [(0, .ref (a 0))] → W p l e rX6_undo su m args below meth c H locs 0 0 Q (F0 m 62 ls [])) → W p l e rX6_undo su m args below meth c H locs 0 0 Q (F0 m 30 ls []) := by
      intro n
      induction n with
      | zero => intro v1_4 mo5 mo6 H locs ls h hP hD hS hl kx; cases h
      | succ n ih =>
        intro v1_4 mo5 mo6 H locs ls h hP hD hS hl kx
        rw [fX6_undo_L30] at h
        refine lv_iload_n hx hb dX6_undo_30 rfl (lv_at hl 1 rfl) ?_
        refine lv_bipush (v := 55) hx hb dX6_undo_31 (by decide) ?_
        refine lv_icmp_ge (tgt := 62) hx hb dX6_undo_33 (by decide) (fun c7 => ?_) (fun c7 => ?_)
        · have h := if_t c7 h
          cases some_i h
          exact kx _ _ _ hP hD hS (lv_sub hl [0] rfl)
        · have h := if_f c7 h
          refine lv_aload_n hx hb dX6_undo_36 rfl (lv_at hl 0 rfl) ?_
          refine va_get (D := g.1) (ci := 6) (v := .ref (a 1)) (C := RX6) (T := TX6) (N := 15) hx hb hts hinX6 hown hK hP 0 rfl rfl 1 (by decide) (hts (.fieldLink RX6 7 "BarredRungsModel" "state" "[I") (List.mem_of_getElem? (i := 3) rfl)) (fun _ h9 => h9) rfl dX6_undo_37 ?_
          refine lv_iload_n hx hb dX6_undo_40 rfl (lv_at hl 1 rfl) ?_
          refine lv_aload_n hx hb dX6_undo_41 rfl (lv_at hl 0 rfl) ?_
          refine va_get (D := g.1) (ci := 6) (v := .ref (a 2)) (C := RX6) (T := TX6) (N := 15) hx hb hts hinX6 hown hK hP 0 rfl rfl 2 (by decide) (hts (.fieldLink RX6 13 "BarredRungsModel" "saved" "[I") (List.mem_of_getElem? (i := 4) rfl)) (fun _ h9 => h9) rfl dX6_undo_42 ?_
          refine lv_aload_n hx hb dX6_undo_45 rfl (lv_at hl 0 rfl) ?_
          refine va_get (D := g.1) (ci := 6) (v := .int (Mo_savedMany mo5)) (C := RX6) (T := TX6) (N := 15) hx hb hts hinX6 hown hK hP 0 rfl rfl 3 (by decide) (hts (.fieldLink RX6 37 "BarredRungsModel" "savedMany" "I") (List.mem_of_getElem? (i := 2) rfl)) (fun _ h9 => h9) rfl dX6_undo_46 ?_
          refine lv_bipush (v := 55) hx hb dX6_undo_49 (by decide) ?_
          refine lv_imul hx hb dX6_undo_51 ?_
          refine lv_iload_n hx hb dX6_undo_52 rfl (lv_at hl 1 rfl) ?_
          refine lv_iadd hx hb dX6_undo_53 ?_
          obtain ⟨hi9, h⟩ := ck_ex h
          refine va_iald hx hb hK hP 2 0 rfl rfl (inb_in hi9) dX6_undo_54 ?_
          obtain ⟨hi9, h⟩ := ck_ex h
          obtain ⟨mo8, emo8, h⟩ := pl_ex h
          refine va_iast hx hb hK hP hD hS 1 0 rfl rfl (inb_in hi9) dX6_undo_55 (fun H locs hP hD hS => ?_)
          have hP : va_P g.1 vwCl (cMo g a mo8) H := by rw [← emo8]; exact hP
          have hD : va_D A (cMo g a mo8) := by rw [← emo8]; exact hD
          obtain ⟨x9, ex9, h⟩ := pl_ex h
          refine lv_iinc (v := x9) (lv' := [(1, .int x9), (0, .ref (a 0))]) hx hb dX6_undo_56 hl (k := 1) rfl (by rw [← ex9]; rfl) (by decide) rfl (fun ls hl => ?_)
          refine lv_goto (tgt := 30) hx hb dX6_undo_59 (by decide) ?_
          exact ih x9 mo8 _ _ _ _ h hP hD hS (lv_sub hl [1, 0] rfl) kx
    obtain ⟨mo10, kmo10, h⟩ := bd_ex h
    refine L30 1000 (0 : Int32) mo3 mo10 _ _ _ kmo10 hP hD hS (lv_sub hl [1, 0] rfl) (fun H locs ls hP hD hS hl => ?_)
    refine lv_aload_n hx hb dX6_undo_62 rfl (lv_at hl 0 rfl) ?_
    refine va_get (D := g.1) (ci := 6) (v := .int (Mo_savedMany mo10)) (C := RX6) (T := TX6) (N := 15) hx hb hts hinX6 hown hK hP 0 rfl rfl 3 (by decide) (hts (.fieldLink RX6 37 "BarredRungsModel" "savedMany" "I") (List.mem_of_getElem? (i := 2) rfl)) (fun _ h9 => h9) rfl dX6_undo_63 ?_
    cases some_i h
    exact hend _ _ _ _ _ hP hD hS (RetOK.i dX6_undo_66)
  · have h := if_t c2 h
    refine lv_aload_n hx hb dX6_undo_12 rfl (lv_at hl 0 rfl) ?_
    refine lv_iconst (v := 1) hx hb dX6_undo_13 (by decide) ?_
    obtain ⟨r11, mo12, kr11, h⟩ := bd2_ex h
    refine aft_w (st1 := [.int r11]) rfl (runV (As := [.int (1 : Int32)]) (rest := []) ⟨hx, hb, hml, hown, hts⟩ (kX6_fails l g a kr11) (cwV 1 hts gX6_undo_X6_fails rfl rfl rfl hdX6_fails ⟨Nat.le_of_ble_eq_true rfl, Nat.le_of_ble_eq_true rfl⟩) hK hN hP hD (va_recv hK hP (ci := 6) (q0 := 0) rfl rfl) rfl hl.1 rfl (Nat.le_of_ble_eq_true rfl) dX6_undo_14 ⟨Nat.zero_le _, Nat.zero_le _⟩) hD hS hA (fun H locs hP hD hS => ?_)
    cases some_i h
    exact hend _ _ _ _ _ hP hD hS (RetOK.i dX6_undo_17)
def fX6_why (mo : Mo) (p1 : Int32) (p2 : Int32) : Option (Int32 × Mo) :=
(pl (Mo_set_thrown mo (0 : Int32)) fun (mo1 : Mo) =>
(bd (fX6_isClimber p1) fun (r2 : Int32) =>
(if r2 = (0 : Int32) then
(bd2 (fX6_fails mo1 (1 : Int32)) fun (r4 : Int32) (mo5 : Mo) =>
(some (r4, mo5)))
else
(bd (fX6_isWord mo1 p2) fun (r6 : Int32) =>
(if r6 = (0 : Int32) then
(bd2 (fX6_fails mo1 (1 : Int32)) fun (r8 : Int32) (mo9 : Mo) =>
(some (r8, mo9)))
else
(bd2 (fX6_reason mo1 p1 p2) fun (r10 : Int32) (mo11 : Mo) =>
(some (r10, mo11))))))))
abbrev rX6_why : Room := { frames := 5, cells := 0, slots := 0, locals := 109 }
theorem hdX6_why : yX6_why.cls = RX6 ∧ yX6_why.cls ≠ "java/lang/invoke/MethodHandle" ∧ yX6_why.cls ≠ "java/lang/invoke/VarHandle" ∧ (parseMethodDescriptor yX6_why.desc).map (fun d => d.parameters.length) = some 2 := by decide +kernel
set_option maxRecDepth 100000 in
set_option maxHeartbeats 8000000 in
theorem kX6_why (l : Launch) (g : GG) (a : Nat → Nat) {mo : Mo} {p1 : Int32} {p2 : Int32} {res : Int32} {mo' : Mo} (h : fX6_why mo p1 p2 = some (res, mo')) : Cg l g yX6_why wsX6_why rX6_why [.ref (a 0), .int p1, .int p2] (cMo g a mo) (some (.int res)) (cMo g a mo') := by
  refine Cg_of (cc := cX6_why) (maxL := 3) (ret := (some .int)) (by decide +kernel) rfl (Nat.le_of_ble_eq_true rfl) ?_
  intro p e su m args below meth c A Q ls hx hb hml hown hts hK hN hA hnm hP hD hS hl hend
  have hinX6 : ∀ w ∈ u_ws RX6 TX6 15, w ∈ wsX6_why := fun _ h9 => List.mem_cons_of_mem _ (List.mem_append_right _ h9)
  unfold fX6_why at h
  have hl : lv_has ls 3 [(0, .ref (a 0)), (1, .int p1), (2, .int p2)] := hl
  refine lv_aload_n hx hb dX6_why_0 rfl (lv_at hl 0 rfl) ?_
  refine lv_iconst (v := 0) hx hb dX6_why_1 (by decide) ?_
  obtain ⟨mo1, emo1, h⟩ := pl_ex h
  refine va_put (D := g.1) (ci := 6) (v := .int (0 : Int32)) (ty := .int) (C := RX6) (T := TX6) (N := 15) hx hb hts hinX6 tyX6 tyX6_ok nmX6 hown hK hP hD hS 0 rfl rfl 0 (by decide) (hts (.fieldLink RX6 29 "BarredRungsModel" "thrown" "I") (List.mem_of_getElem? (i := 1) rfl)) (fun _ h9 => h9) rfl (by decide +kernel) rfl rfl (Nat.le_of_ble_eq_true rfl) dX6_why_2 (fun H locs hP hD hS => ?_)
  have hP : va_P g.1 vwCl (cMo g a mo1) H := by rw [← emo1]; exact hP
  have hD : va_D A (cMo g a mo1) := by rw [← emo1]; exact hD
  refine lv_iload_n hx hb dX6_why_5 rfl (lv_at hl 1 rfl) ?_
  obtain ⟨r2, kr2, h⟩ := bd_ex h
  refine aft_e (st1 := [.int r2]) rfl (runS (As := [.int p1]) (rest := []) ⟨hx, hb, hml, hown, hts⟩ (kX6_isClimber l g kr2) (va_cwS 1 hts gX6_why_X6_isClimber rfl rfl rfl hdX6_isClimber.2 ⟨Nat.le_of_ble_eq_true rfl, Nat.le_of_ble_eq_true rfl⟩) hK hN nilP (nilD (A := A)) rfl hl.1 rfl (Nat.le_of_ble_eq_true rfl) dX6_why_6 ⟨Nat.zero_le _, Nat.zero_le _⟩) hP hS hA (fun H locs hP hS => ?_)
  refine lv_if_eq (tgt := 29) hx hb dX6_why_9 (by decide) (fun c3 => ?_) (fun c3 => ?_)
  · have h := if_t c3 h
    refine lv_aload_n hx hb dX6_why_29 rfl (lv_at hl 0 rfl) ?_
    refine lv_iconst (v := 1) hx hb dX6_why_30 (by decide) ?_
    obtain ⟨r4, mo5, kr4, h⟩ := bd2_ex h
    refine aft_w (st1 := [.int r4]) rfl (runV (As := [.int (1 : Int32)]) (rest := []) ⟨hx, hb, hml, hown, hts⟩ (kX6_fails l g a kr4) (cwV 1 hts gX6_why_X6_fails rfl rfl rfl hdX6_fails ⟨Nat.le_of_ble_eq_true rfl, Nat.le_of_ble_eq_true rfl⟩) hK hN hP hD (va_recv hK hP (ci := 6) (q0 := 0) rfl rfl) rfl hl.1 rfl (Nat.le_of_ble_eq_true rfl) dX6_why_31 ⟨Nat.zero_le _, Nat.zero_le _⟩) hD hS hA (fun H locs hP hD hS => ?_)
    cases some_i h
    exact hend _ _ _ _ _ hP hD hS (RetOK.i dX6_why_34)
  · have h := if_f c3 h
    refine lv_aload_n hx hb dX6_why_12 rfl (lv_at hl 0 rfl) ?_
    refine lv_iload_n hx hb dX6_why_13 rfl (lv_at hl 2 rfl) ?_
    obtain ⟨r6, kr6, h⟩ := bd_ex h
    refine aft_w (st1 := [.int r6]) rfl (runV (As := [.int p2]) (rest := []) ⟨hx, hb, hml, hown, hts⟩ (kX6_isWord l g a kr6) (cwV 1 hts gX6_why_X6_isWord rfl rfl rfl hdX6_isWord ⟨Nat.le_of_ble_eq_true rfl, Nat.le_of_ble_eq_true rfl⟩) hK hN hP hD (va_recv hK hP (ci := 6) (q0 := 0) rfl rfl) rfl hl.1 rfl (Nat.le_of_ble_eq_true rfl) dX6_why_14 ⟨Nat.zero_le _, Nat.zero_le _⟩) hD hS hA (fun H locs hP hD hS => ?_)
    refine lv_if_eq (tgt := 29) hx hb dX6_why_17 (by decide) (fun c7 => ?_) (fun c7 => ?_)
    · have h := if_t c7 h
      refine lv_aload_n hx hb dX6_why_29 rfl (lv_at hl 0 rfl) ?_
      refine lv_iconst (v := 1) hx hb dX6_why_30 (by decide) ?_
      obtain ⟨r8, mo9, kr8, h⟩ := bd2_ex h
      refine aft_w (st1 := [.int r8]) rfl (runV (As := [.int (1 : Int32)]) (rest := []) ⟨hx, hb, hml, hown, hts⟩ (kX6_fails l g a kr8) (cwV 1 hts gX6_why_X6_fails rfl rfl rfl hdX6_fails ⟨Nat.le_of_ble_eq_true rfl, Nat.le_of_ble_eq_true rfl⟩) hK hN hP hD (va_recv hK hP (ci := 6) (q0 := 0) rfl rfl) rfl hl.1 rfl (Nat.le_of_ble_eq_true rfl) dX6_why_31 ⟨Nat.zero_le _, Nat.zero_le _⟩) hD hS hA (fun H locs hP hD hS => ?_)
      cases some_i h
      exact hend _ _ _ _ _ hP hD hS (RetOK.i dX6_why_34)
    · have h := if_f c7 h
      refine lv_aload_n hx hb dX6_why_20 rfl (lv_at hl 0 rfl) ?_
      refine lv_iload_n hx hb dX6_why_21 rfl (lv_at hl 1 rfl) ?_
      refine lv_iload_n hx hb dX6_why_22 rfl (lv_at hl 2 rfl) ?_
      obtain ⟨r10, mo11, kr10, h⟩ := bd2_ex h
      refine aft_w (st1 := [.int r10]) rfl (runV (As := [.int p1, .int p2]) (rest := []) ⟨hx, hb, hml, hown, hts⟩ (kX6_reason l g a kr10) (cwV 2 hts gX6_why_X6_reason rfl rfl rfl hdX6_reason ⟨Nat.le_of_ble_eq_true rfl, Nat.le_of_ble_eq_true rfl⟩) hK hN hP hD (va_recv hK hP (ci := 6) (q0 := 0) rfl rfl) rfl hl.1 rfl (Nat.le_of_ble_eq_true rfl) dX6_why_23 ⟨Nat.zero_le _, Nat.zero_le _⟩) hD hS hA (fun H locs hP hD hS => ?_)
      refine lv_goto (tgt := 34) hx hb dX6_why_26 (by decide) ?_
      cases some_i h
      exact hend _ _ _ _ _ hP hD hS (RetOK.i dX6_why_34)
def fX6_word (mo : Mo) (p1 : Int32) (p2 : Int32) : Option (Int32 × Mo) :=
(pl (Mo_set_thrown mo (0 : Int32)) fun (mo1 : Mo) =>
(bd (fX6_isWord mo1 p1) fun (r2 : Int32) =>
(if r2 = (0 : Int32) then
(bd2 (fX6_fails mo1 (1 : Int32)) fun (r10 : Int32) (mo11 : Mo) =>
(some (r10, mo11)))
else
(bd (fX6_within p2 (0 : Int32) (9 : Int32)) fun (r4 : Int32) =>
(if r4 = (0 : Int32) then
(bd2 (fX6_fails mo1 (2 : Int32)) fun (r6 : Int32) (mo7 : Mo) =>
(some (r6, mo7)))
else
(bd2 (fX6_tellsWord mo1 p1 p2) fun (r8 : Int32) (mo9 : Mo) =>
(some (r8, mo9))))))))
abbrev rX6_word : Room := { frames := 5, cells := 0, slots := 0, locals := 113 }
theorem hdX6_word : yX6_word.cls = RX6 ∧ yX6_word.cls ≠ "java/lang/invoke/MethodHandle" ∧ yX6_word.cls ≠ "java/lang/invoke/VarHandle" ∧ (parseMethodDescriptor yX6_word.desc).map (fun d => d.parameters.length) = some 2 := by decide +kernel
set_option maxRecDepth 100000 in
set_option maxHeartbeats 8000000 in
theorem kX6_word (l : Launch) (g : GG) (a : Nat → Nat) {mo : Mo} {p1 : Int32} {p2 : Int32} {res : Int32} {mo' : Mo} (h : fX6_word mo p1 p2 = some (res, mo')) : Cg l g yX6_word wsX6_word rX6_word [.ref (a 0), .int p1, .int p2] (cMo g a mo) (some (.int res)) (cMo g a mo') := by
  refine Cg_of (cc := cX6_word) (maxL := 3) (ret := (some .int)) (by decide +kernel) rfl (Nat.le_of_ble_eq_true rfl) ?_
  intro p e su m args below meth c A Q ls hx hb hml hown hts hK hN hA hnm hP hD hS hl hend
  have hinX6 : ∀ w ∈ u_ws RX6 TX6 15, w ∈ wsX6_word := fun _ h9 => List.mem_cons_of_mem _ (List.mem_append_right _ h9)
  unfold fX6_word at h
  have hl : lv_has ls 3 [(0, .ref (a 0)), (1, .int p1), (2, .int p2)] := hl
  refine lv_aload_n hx hb dX6_word_0 rfl (lv_at hl 0 rfl) ?_
  refine lv_iconst (v := 0) hx hb dX6_word_1 (by decide) ?_
  obtain ⟨mo1, emo1, h⟩ := pl_ex h
  refine va_put (D := g.1) (ci := 6) (v := .int (0 : Int32)) (ty := .int) (C := RX6) (T := TX6) (N := 15) hx hb hts hinX6 tyX6 tyX6_ok nmX6 hown hK hP hD hS 0 rfl rfl 0 (by decide) (hts (.fieldLink RX6 29 "BarredRungsModel" "thrown" "I") (List.mem_of_getElem? (i := 1) rfl)) (fun _ h9 => h9) rfl (by decide +kernel) rfl rfl (Nat.le_of_ble_eq_true rfl) dX6_word_2 (fun H locs hP hD hS => ?_)
  have hP : va_P g.1 vwCl (cMo g a mo1) H := by rw [← emo1]; exact hP
  have hD : va_D A (cMo g a mo1) := by rw [← emo1]; exact hD
  refine lv_aload_n hx hb dX6_word_5 rfl (lv_at hl 0 rfl) ?_
  refine lv_iload_n hx hb dX6_word_6 rfl (lv_at hl 1 rfl) ?_
  obtain ⟨r2, kr2, h⟩ := bd_ex h
  refine aft_w (st1 := [.int r2]) rfl (runV (As := [.int p1]) (rest := []) ⟨hx, hb, hml, hown, hts⟩ (kX6_isWord l g a kr2) (cwV 1 hts gX6_word_X6_isWord rfl rfl rfl hdX6_isWord ⟨Nat.le_of_ble_eq_true rfl, Nat.le_of_ble_eq_true rfl⟩) hK hN hP hD (va_recv hK hP (ci := 6) (q0 := 0) rfl rfl) rfl hl.1 rfl (Nat.le_of_ble_eq_true rfl) dX6_word_7 ⟨Nat.zero_le _, Nat.zero_le _⟩) hD hS hA (fun H locs hP hD hS => ?_)
  refine lv_if_ne (tgt := 19) hx hb dX6_word_10 (by decide) (fun c3 => ?_) (fun c3 => ?_)
  · have h := if_f c3 h
    refine lv_iload_n hx hb dX6_word_19 rfl (lv_at hl 2 rfl) ?_
    refine lv_iconst (v := 0) hx hb dX6_word_20 (by decide) ?_
    refine lv_bipush (v := 9) hx hb dX6_word_21 (by decide) ?_
    obtain ⟨r4, kr4, h⟩ := bd_ex h
    refine aft_e (st1 := [.int r4]) rfl (runS (As := [.int p2, .int (0 : Int32), .int (9 : Int32)]) (rest := []) ⟨hx, hb, hml, hown, hts⟩ (kX6_within l g kr4) (va_cwS 3 hts gX6_word_X6_within rfl rfl rfl hdX6_within.2 ⟨Nat.le_of_ble_eq_true rfl, Nat.le_of_ble_eq_true rfl⟩) hK hN nilP (nilD (A := A)) rfl hl.1 rfl (Nat.le_of_ble_eq_true rfl) dX6_word_23 ⟨Nat.zero_le _, Nat.zero_le _⟩) hP hS hA (fun H locs hP hS => ?_)
    refine lv_if_eq (tgt := 38) hx hb dX6_word_26 (by decide) (fun c5 => ?_) (fun c5 => ?_)
    · have h := if_t c5 h
      refine lv_aload_n hx hb dX6_word_38 rfl (lv_at hl 0 rfl) ?_
      refine lv_iconst (v := 2) hx hb dX6_word_39 (by decide) ?_
      obtain ⟨r6, mo7, kr6, h⟩ := bd2_ex h
      refine aft_w (st1 := [.int r6]) rfl (runV (As := [.int (2 : Int32)]) (rest := []) ⟨hx, hb, hml, hown, hts⟩ (kX6_fails l g a kr6) (cwV 1 hts gX6_word_X6_fails rfl rfl rfl hdX6_fails ⟨Nat.le_of_ble_eq_true rfl, Nat.le_of_ble_eq_true rfl⟩) hK hN hP hD (va_recv hK hP (ci := 6) (q0 := 0) rfl rfl) rfl hl.1 rfl (Nat.le_of_ble_eq_true rfl) dX6_word_40 ⟨Nat.zero_le _, Nat.zero_le _⟩) hD hS hA (fun H locs hP hD hS => ?_)
      cases some_i h
      exact hend _ _ _ _ _ hP hD hS (RetOK.i dX6_word_43)
    · have h := if_f c5 h
      refine lv_aload_n hx hb dX6_word_29 rfl (lv_at hl 0 rfl) ?_
      refine lv_iload_n hx hb dX6_word_30 rfl (lv_at hl 1 rfl) ?_
      refine lv_iload_n hx hb dX6_word_31 rfl (lv_at hl 2 rfl) ?_
      obtain ⟨r8, mo9, kr8, h⟩ := bd2_ex h
      refine aft_w (st1 := [.int r8]) rfl (runV (As := [.int p1, .int p2]) (rest := []) ⟨hx, hb, hml, hown, hts⟩ (kX6_tellsWord l g a kr8) (cwV 2 hts gX6_word_X6_tellsWord rfl rfl rfl hdX6_tellsWord ⟨Nat.le_of_ble_eq_true rfl, Nat.le_of_ble_eq_true rfl⟩) hK hN hP hD (va_recv hK hP (ci := 6) (q0 := 0) rfl rfl) rfl hl.1 rfl (Nat.le_of_ble_eq_true rfl) dX6_word_32 ⟨Nat.zero_le _, Nat.zero_le _⟩) hD hS hA (fun H locs hP hD hS => ?_)
      refine lv_goto (tgt := 43) hx hb dX6_word_35 (by decide) ?_
      cases some_i h
      exact hend _ _ _ _ _ hP hD hS (RetOK.i dX6_word_43)
  · have h := if_t c3 h
    refine lv_aload_n hx hb dX6_word_13 rfl (lv_at hl 0 rfl) ?_
    refine lv_iconst (v := 1) hx hb dX6_word_14 (by decide) ?_
    obtain ⟨r10, mo11, kr10, h⟩ := bd2_ex h
    refine aft_w (st1 := [.int r10]) rfl (runV (As := [.int (1 : Int32)]) (rest := []) ⟨hx, hb, hml, hown, hts⟩ (kX6_fails l g a kr10) (cwV 1 hts gX6_word_X6_fails rfl rfl rfl hdX6_fails ⟨Nat.le_of_ble_eq_true rfl, Nat.le_of_ble_eq_true rfl⟩) hK hN hP hD (va_recv hK hP (ci := 6) (q0 := 0) rfl rfl) rfl hl.1 rfl (Nat.le_of_ble_eq_true rfl) dX6_word_15 ⟨Nat.zero_le _, Nat.zero_le _⟩) hD hS hA (fun H locs hP hD hS => ?_)
    cases some_i h
    exact hend _ _ _ _ _ hP hD hS (RetOK.i dX6_word_18)
