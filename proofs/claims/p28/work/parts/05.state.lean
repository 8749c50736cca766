def fJ6_bitCount_0f7a4 (p0 : Int32) : Option (Int32) :=
(pl ((p0 - (((p0.toUInt32 >>> ((1 : Int32).toUInt32 &&& Int32.toUInt32 31)).toInt32) &&& (1431655765 : Int32)))) fun (x1 : Int32) =>
(pl (((x1 &&& (858993459 : Int32)) + (((x1.toUInt32 >>> ((2 : Int32).toUInt32 &&& Int32.toUInt32 31)).toInt32) &&& (858993459 : Int32)))) fun (x2 : Int32) =>
(pl (((x2 + ((x2.toUInt32 >>> ((4 : Int32).toUInt32 &&& Int32.toUInt32 31)).toInt32)) &&& (252645135 : Int32))) fun (x3 : Int32) =>
(pl ((x3 + ((x3.toUInt32 >>> ((8 : Int32).toUInt32 &&& Int32.toUInt32 31)).toInt32))) fun (x4 : Int32) =>
(pl ((x4 + ((x4.toUInt32 >>> ((16 : Int32).toUInt32 &&& Int32.toUInt32 31)).toInt32))) fun (x5 : Int32) =>
(some (x5 &&& (63 : Int32))))))))
abbrev rJ6_bitCount_0f7a4 : Room := { frames := 0, cells := 0, slots := 0, locals := 0 }
theorem hdJ6_bitCount_0f7a4 : yJ6_bitCount_0f7a4.cls = RJ6 ∧ yJ6_bitCount_0f7a4.cls ≠ "java/lang/invoke/MethodHandle" ∧ yJ6_bitCount_0f7a4.cls ≠ "java/lang/invoke/VarHandle" ∧ (parseMethodDescriptor yJ6_bitCount_0f7a4.desc).map (fun d => d.parameters.length) = some 1 := by decide +kernel
set_option maxRecDepth 100000 in
set_option maxHeartbeats 8000000 in
theorem kJ6_bitCount_0f7a4 (l : Launch) (g : GG) {p0 : Int32} {res : Int32} (h : fJ6_bitCount_0f7a4 p0 = some res) : Cg l g yJ6_bitCount_0f7a4 wsJ6_bitCount_0f7a4 rJ6_bitCount_0f7a4 [.int p0] [] (some (.int res)) [] := by
  refine Cg_of (cc := cJ6_bitCount_0f7a4) (maxL := 1) (ret := (some .int)) (by decide +kernel) rfl (Nat.le_of_ble_eq_true rfl) ?_
  intro p e su m args below meth c A Q ls hx hb hml hown hts hK hN hA hnm hP hD hS hl hend
  unfold fJ6_bitCount_0f7a4 at h
  have hl : lv_has ls 1 [(0, .int p0)] := hl
  refine lv_iload_n hx hb dJ6_bitCount_0f7a4_0 rfl (lv_at hl 0 rfl) ?_
  refine lv_iload_n hx hb dJ6_bitCount_0f7a4_1 rfl (lv_at hl 0 rfl) ?_
  refine lv_iconst (v := 1) hx hb dJ6_bitCount_0f7a4_2 (by decide) ?_
  refine lv_iushr (v := ((p0.toUInt32 >>> ((1 : Int32).toUInt32 &&& Int32.toUInt32 31)).toInt32)) hx hb dJ6_bitCount_0f7a4_3 rfl ?_
  refine lv_ldcw hx hb hown (hts (.constant RJ6 265 (1431655765)) (List.mem_of_getElem? (i := 1) rfl)) dJ6_bitCount_0f7a4_4 ?_
  refine lv_iand hx hb dJ6_bitCount_0f7a4_7 ?_
  refine lv_isub hx hb dJ6_bitCount_0f7a4_8 ?_
  obtain ⟨x1, ex1, h⟩ := pl_ex h
  refine lv_eqi ex1 ?_
  refine lv_istore_n (lv' := [(0, .int x1)]) hx hb dJ6_bitCount_0f7a4_9 rfl hl (by decide) rfl (fun ls hl => ?_)
  refine lv_iload_n hx hb dJ6_bitCount_0f7a4_10 rfl (lv_at hl 0 rfl) ?_
  refine lv_ldcw hx hb hown (hts (.constant RJ6 266 (858993459)) (List.mem_of_getElem? (i := 2) rfl)) dJ6_bitCount_0f7a4_11 ?_
  refine lv_iand hx hb dJ6_bitCount_0f7a4_14 ?_
  refine lv_iload_n hx hb dJ6_bitCount_0f7a4_15 rfl (lv_at hl 0 rfl) ?_
  refine lv_iconst (v := 2) hx hb dJ6_bitCount_0f7a4_16 (by decide) ?_
  refine lv_iushr (v := ((x1.toUInt32 >>> ((2 : Int32).toUInt32 &&& Int32.toUInt32 31)).toInt32)) hx hb dJ6_bitCount_0f7a4_17 rfl ?_
  refine lv_ldcw hx hb hown (hts (.constant RJ6 266 (858993459)) (List.mem_of_getElem? (i := 2) rfl)) dJ6_bitCount_0f7a4_18 ?_
  refine lv_iand hx hb dJ6_bitCount_0f7a4_21 ?_
  refine lv_iadd hx hb dJ6_bitCount_0f7a4_22 ?_
  obtain ⟨x2, ex2, h⟩ := pl_ex h
  refine lv_eqi ex2 ?_
  refine lv_istore_n (lv' := [(0, .int x2)]) hx hb dJ6_bitCount_0f7a4_23 rfl hl (by decide) rfl (fun ls hl => ?_)
  refine lv_iload_n hx hb dJ6_bitCount_0f7a4_24 rfl (lv_at hl 0 rfl) ?_
  refine lv_iload_n hx hb dJ6_bitCount_0f7a4_25 rfl (lv_at hl 0 rfl) ?_
  refine lv_iconst (v := 4) hx hb dJ6_bitCount_0f7a4_26 (by decide) ?_
  refine lv_iushr (v := ((x2.toUInt32 >>> ((4 : Int32).toUInt32 &&& Int32.toUInt32 31)).toInt32)) hx hb dJ6_bitCount_0f7a4_27 rfl ?_
  refine lv_iadd hx hb dJ6_bitCount_0f7a4_28 ?_
  refine lv_ldcw hx hb hown (hts (.constant RJ6 267 (252645135)) (List.mem_of_getElem? (i := 3) rfl)) dJ6_bitCount_0f7a4_29 ?_
  refine lv_iand hx hb dJ6_bitCount_0f7a4_32 ?_
  obtain ⟨x3, ex3, h⟩ := pl_ex h
  refine lv_eqi ex3 ?_
  refine lv_istore_n (lv' := [(0, .int x3)]) hx hb dJ6_bitCount_0f7a4_33 rfl hl (by decide) rfl (fun ls hl => ?_)
  refine lv_iload_n hx hb dJ6_bitCount_0f7a4_34 rfl (lv_at hl 0 rfl) ?_
  refine lv_iload_n hx hb dJ6_bitCount_0f7a4_35 rfl (lv_at hl 0 rfl) ?_
  refine lv_bipush (v := 8) hx hb dJ6_bitCount_0f7a4_36 (by decide) ?_
  refine lv_iushr (v := ((x3.toUInt32 >>> ((8 : Int32).toUInt32 &&& Int32.toUInt32 31)).toInt32)) hx hb dJ6_bitCount_0f7a4_38 rfl ?_
  refine lv_iadd hx hb dJ6_bitCount_0f7a4_39 ?_
  obtain ⟨x4, ex4, h⟩ := pl_ex h
  refine lv_eqi ex4 ?_
  refine lv_istore_n (lv' := [(0, .int x4)]) hx hb dJ6_bitCount_0f7a4_40 rfl hl (by decide) rfl (fun ls hl => ?_)
  refine lv_iload_n hx hb dJ6_bitCount_0f7a4_41 rfl (lv_at hl 0 rfl) ?_
  refine lv_iload_n hx hb dJ6_bitCount_0f7a4_42 rfl (lv_at hl 0 rfl) ?_
  refine lv_bipush (v := 16) hx hb dJ6_bitCount_0f7a4_43 (by decide) ?_
  refine lv_iushr (v := ((x4.toUInt32 >>> ((16 : Int32).toUInt32 &&& Int32.toUInt32 31)).toInt32)) hx hb dJ6_bitCount_0f7a4_45 rfl ?_
  refine lv_iadd hx hb dJ6_bitCount_0f7a4_46 ?_
  obtain ⟨x5, ex5, h⟩ := pl_ex h
  refine lv_eqi ex5 ?_
  refine lv_istore_n (lv' := [(0, .int x5)]) hx hb dJ6_bitCount_0f7a4_47 rfl hl (by decide) rfl (fun ls hl => ?_)
  refine lv_iload_n hx hb dJ6_bitCount_0f7a4_48 rfl (lv_at hl 0 rfl) ?_
  refine lv_bipush (v := 63) hx hb dJ6_bitCount_0f7a4_49 (by decide) ?_
  refine lv_iand hx hb dJ6_bitCount_0f7a4_51 ?_
  cases some_i h
  exact hend _ _ _ _ _ hP hD hS (RetOK.i dJ6_bitCount_0f7a4_52)
def fJ6_numberOfTrailingZeros_0f7a4 (p0 : Int32) : Option (Int32) :=
(pl (((p0 ^^^ (-1 : Int32)) &&& (p0 - (1 : Int32)))) fun (x1 : Int32) =>
(if (0 : Int32) < x1 then
(if x1 ≤ (65536 : Int32) then
(if x1 ≤ (256 : Int32) then
(if x1 ≤ (16 : Int32) then
(if x1 ≤ (4 : Int32) then
(some ((1 : Int32) + ((x1.toUInt32 >>> ((1 : Int32).toUInt32 &&& Int32.toUInt32 31)).toInt32)))
else
(pl (((1 : Int32) + (2 : Int32))) fun (x7 : Int32) =>
(pl (((x1.toUInt32 >>> ((2 : Int32).toUInt32 &&& Int32.toUInt32 31)).toInt32)) fun (x8 : Int32) =>
(some (x7 + ((x8.toUInt32 >>> ((1 : Int32).toUInt32 &&& Int32.toUInt32 31)).toInt32))))))
else
(pl (((1 : Int32) + (4 : Int32))) fun (x9 : Int32) =>
(pl (((x1.toUInt32 >>> ((4 : Int32).toUInt32 &&& Int32.toUInt32 31)).toInt32)) fun (x10 : Int32) =>
(if x10 ≤ (4 : Int32) then
(some (x9 + ((x10.toUInt32 >>> ((1 : Int32).toUInt32 &&& Int32.toUInt32 31)).toInt32)))
else
(pl ((x9 + (2 : Int32))) fun (x12 : Int32) =>
(pl (((x10.toUInt32 >>> ((2 : Int32).toUInt32 &&& Int32.toUInt32 31)).toInt32)) fun (x13 : Int32) =>
(some (x12 + ((x13.toUInt32 >>> ((1 : Int32).toUInt32 &&& Int32.toUInt32 31)).toInt32)))))))))
else
(pl (((1 : Int32) + (8 : Int32))) fun (x14 : Int32) =>
(pl (((x1.toUInt32 >>> ((8 : Int32).toUInt32 &&& Int32.toUInt32 31)).toInt32)) fun (x15 : Int32) =>
(if x15 ≤ (16 : Int32) then
(if x15 ≤ (4 : Int32) then
(some (x14 + ((x15.toUInt32 >>> ((1 : Int32).toUInt32 &&& Int32.toUInt32 31)).toInt32)))
else
(pl ((x14 + (2 : Int32))) fun (x18 : Int32) =>
(pl (((x15.toUInt32 >>> ((2 : Int32).toUInt32 &&& Int32.toUInt32 31)).toInt32)) fun (x19 : Int32) =>
(some (x18 + ((x19.toUInt32 >>> ((1 : Int32).toUInt32 &&& Int32.toUInt32 31)).toInt32))))))
else
(pl ((x14 + (4 : Int32))) fun (x20 : Int32) =>
(pl (((x15.toUInt32 >>> ((4 : Int32).toUInt32 &&& Int32.toUInt32 31)).toInt32)) fun (x21 : Int32) =>
(if x21 ≤ (4 : Int32) then
(some (x20 + ((x21.toUInt32 >>> ((1 : Int32).toUInt32 &&& Int32.toUInt32 31)).toInt32)))
else
(pl ((x20 + (2 : Int32))) fun (x23 : Int32) =>
(pl (((x21.toUInt32 >>> ((2 : Int32).toUInt32 &&& Int32.toUInt32 31)).toInt32)) fun (x24 : Int32) =>
(some (x23 + ((x24.toUInt32 >>> ((1 : Int32).toUInt32 &&& Int32.toUInt32 31)).toInt32))))))))))))
else
(pl (((1 : Int32) + (16 : Int32))) fun (x25 : Int32) =>
(pl (((x1.toUInt32 >>> ((16 : Int32).toUInt32 &&& Int32.toUInt32 31)).toInt32)) fun (x26 : Int32) =>
(if x26 ≤ (256 : Int32) then
(if x26 ≤ (16 : Int32) then
(if x26 ≤ (4 : Int32) then
(some (x25 + ((x26.toUInt32 >>> ((1 : Int32).toUInt32 &&& Int32.toUInt32 31)).toInt32)))
else
(pl ((x25 + (2 : Int32))) fun (x30 : Int32) =>
(pl (((x26.toUInt32 >>> ((2 : Int32).toUInt32 &&& Int32.toUInt32 31)).toInt32)) fun (x31 : Int32) =>
(some (x30 + ((x31.toUInt32 >>> ((1 : Int32).toUInt32 &&& Int32.toUInt32 31)).toInt32))))))
else
(pl ((x25 + (4 : Int32))) fun (x32 : Int32) =>
(pl (((x26.toUInt32 >>> ((4 : Int32).toUInt32 &&& Int32.toUInt32 31)).toInt32)) fun (x33 : Int32) =>
(if x33 ≤ (4 : Int32) then
(some (x32 + ((x33.toUInt32 >>> ((1 : Int32).toUInt32 &&& Int32.toUInt32 31)).toInt32)))
else
(pl ((x32 + (2 : Int32))) fun (x35 : Int32) =>
(pl (((x33.toUInt32 >>> ((2 : Int32).toUInt32 &&& Int32.toUInt32 31)).toInt32)) fun (x36 : Int32) =>
(some (x35 + ((x36.toUInt32 >>> ((1 : Int32).toUInt32 &&& Int32.toUInt32 31)).toInt32)))))))))
else
(pl ((x25 + (8 : Int32))) fun (x37 : Int32) =>
(pl (((x26.toUInt32 >>> ((8 : Int32).toUInt32 &&& Int32.toUInt32 31)).toInt32)) fun (x38 : Int32) =>
(if x38 ≤ (16 : Int32) then
(if x38 ≤ (4 : Int32) then
(some (x37 + ((x38.toUInt32 >>> ((1 : Int32).toUInt32 &&& Int32.toUInt32 31)).toInt32)))
else
(pl ((x37 + (2 : Int32))) fun (x41 : Int32) =>
(pl (((x38.toUInt32 >>> ((2 : Int32).toUInt32 &&& Int32.toUInt32 31)).toInt32)) fun (x42 : Int32) =>
(some (x41 + ((x42.toUInt32 >>> ((1 : Int32).toUInt32 &&& Int32.toUInt32 31)).toInt32))))))
else
(pl ((x37 + (4 : Int32))) fun (x43 : Int32) =>
(pl (((x38.toUInt32 >>> ((4 : Int32).toUInt32 &&& Int32.toUInt32 31)).toInt32)) fun (x44 : Int32) =>
(if x44 ≤ (4 : Int32) then
(some (x43 + ((x44.toUInt32 >>> ((1 : Int32).toUInt32 &&& Int32.toUInt32 31)).toInt32)))
else
(pl ((x43 + (2 : Int32))) fun (x46 : Int32) =>
(pl (((x44.toUInt32 >>> ((2 : Int32).toUInt32 &&& Int32.toUInt32 31)).toInt32)) fun (x47 : Int32) =>
(some (x46 + ((x47.toUInt32 >>> ((1 : Int32).toUInt32 &&& Int32.toUInt32 31)).toInt32)))))))))))))))
else
(some (x1 &&& (32 : Int32)))))
abbrev rJ6_numberOfTrailingZeros_0f7a4 : Room := { frames := 0, cells := 0, slots := 0, locals := 0 }
theorem hdJ6_numberOfTrailingZeros_0f7a4 : yJ6_numberOfTrailingZeros_0f7a4.cls = RJ6 ∧ yJ6_numberOfTrailingZeros_0f7a4.cls ≠ "java/lang/invoke/MethodHandle" ∧ yJ6_numberOfTrailingZeros_0f7a4.cls ≠ "java/lang/invoke/VarHandle" ∧ (parseMethodDescriptor yJ6_numberOfTrailingZeros_0f7a4.desc).map (fun d => d.parameters.length) = some 1 := by decide +kernel
set_option maxRecDepth 100000 in
set_option maxHeartbeats 8000000 in
theorem kJ6_numberOfTrailingZeros_0f7a4 (l : Launch) (g : GG) {p0 : Int32} {res : Int32} (h : fJ6_numberOfTrailingZeros_0f7a4 p0 = some res) : Cg l g yJ6_numberOfTrailingZeros_0f7a4 wsJ6_numberOfTrailingZeros_0f7a4 rJ6_numberOfTrailingZeros_0f7a4 [.int p0] [] (some (.int res)) [] := by
  refine Cg_of (cc := cJ6_numberOfTrailingZeros_0f7a4) (maxL := 2) (ret := (some .int)) (by decide +kernel) rfl (Nat.le_of_ble_eq_true rfl) ?_
  intro p e su m args below meth c A Q ls hx hb hml hown hts hK hN hA hnm hP hD hS hl hend
  unfold fJ6_numberOfTrailingZeros_0f7a4 at h
  have hl : lv_has ls 2 [(0, .int p0)] := hl
  refine lv_iload_n hx hb dJ6_numberOfTrailingZeros_0f7a4_0 rfl (lv_at hl 0 rfl) ?_
  refine lv_iconst (v := -1) hx hb dJ6_numberOfTrailingZeros_0f7a4_1 (by decide) ?_
  refine lv_ixor hx hb dJ6_numberOfTrailingZeros_0f7a4_2 ?_
  refine lv_iload_n hx hb dJ6_numberOfTrailingZeros_0f7a4_3 rfl (lv_at hl 0 rfl) ?_
  refine lv_iconst (v := 1) hx hb dJ6_numberOfTrailingZeros_0f7a4_4 (by decide) ?_
  refine lv_isub hx hb dJ6_numberOfTrailingZeros_0f7a4_5 ?_
  refine lv_iand hx hb dJ6_numberOfTrailingZeros_0f7a4_6 ?_
  obtain ⟨x1, ex1, h⟩ := pl_ex h
  refine lv_eqi ex1 ?_
  refine lv_istore_n (lv' := [(0, .int x1)]) hx hb dJ6_numberOfTrailingZeros_0f7a4_7 rfl hl (by decide) rfl (fun ls hl => ?_)
  refine lv_iload_n hx hb dJ6_numberOfTrailingZeros_0f7a4_8 rfl (lv_at hl 0 rfl) ?_
  refine lv_if_gt (tgt := 17) hx hb dJ6_numberOfTrailingZeros_0f7a4_9 (by decide) (fun c2 => ?_) (fun c2 => ?_)
  · have h := if_t c2 h
    refine lv_iconst (v := 1) hx hb dJ6_numberOfTrailingZeros_0f7a4_17 (by decide) ?_
    refine lv_istore_n (lv' := [(1, .int (1 : Int32)), (0, .int x1)]) hx hb dJ6_numberOfTrailingZeros_0f7a4_18 rfl hl (by decide) rfl (fun ls hl => ?_)
    refine lv_iload_n hx hb dJ6_numberOfTrailingZeros_0f7a4_19 rfl (lv_at hl 1 rfl) ?_
    refine lv_ldcw hx hb hown (hts (.constant RJ6 264 (65536)) (List.mem_of_getElem? (i := 1) rfl)) dJ6_numberOfTrailingZeros_0f7a4_20 ?_
    refine lv_icmp_le (tgt := 34) hx hb dJ6_numberOfTrailingZeros_0f7a4_23 (by decide) (fun c3 => ?_) (fun c3 => ?_)
    · have h := if_t c3 h
      refine lv_iload_n hx hb dJ6_numberOfTrailingZeros_0f7a4_34 rfl (lv_at hl 1 rfl) ?_
      refine lv_sipush (v := 256) hx hb dJ6_numberOfTrailingZeros_0f7a4_35 (by decide) ?_
      refine lv_icmp_le (tgt := 49) hx hb dJ6_numberOfTrailingZeros_0f7a4_38 (by decide) (fun c4 => ?_) (fun c4 => ?_)
      · have h := if_t c4 h
        refine lv_iload_n hx hb dJ6_numberOfTrailingZeros_0f7a4_49 rfl (lv_at hl 1 rfl) ?_
        refine lv_bipush (v := 16) hx hb dJ6_numberOfTrailingZeros_0f7a4_50 (by decide) ?_
        refine lv_icmp_le (tgt := 62) hx hb dJ6_numberOfTrailingZeros_0f7a4_52 (by decide) (fun c5 => ?_) (fun c5 => ?_)
        · have h := if_t c5 h
          refine lv_iload_n hx hb dJ6_numberOfTrailingZeros_0f7a4_62 rfl (lv_at hl 1 rfl) ?_
          refine lv_iconst (v := 4) hx hb dJ6_numberOfTrailingZeros_0f7a4_63 (by decide) ?_
          refine lv_icmp_le (tgt := 74) hx hb dJ6_numberOfTrailingZeros_0f7a4_64 (by decide) (fun c6 => ?_) (fun c6 => ?_)
          · have h := if_t c6 h
            refine lv_iload_n hx hb dJ6_numberOfTrailingZeros_0f7a4_74 rfl (lv_at hl 0 rfl) ?_
            refine lv_iload_n hx hb dJ6_numberOfTrailingZeros_0f7a4_75 rfl (lv_at hl 1 rfl) ?_
            refine lv_iconst (v := 1) hx hb dJ6_numberOfTrailingZeros_0f7a4_76 (by decide) ?_
            refine lv_iushr (v := ((x1.toUInt32 >>> ((1 : Int32).toUInt32 &&& Int32.toUInt32 31)).toInt32)) hx hb dJ6_numberOfTrailingZeros_0f7a4_77 rfl ?_
            refine lv_iadd hx hb dJ6_numberOfTrailingZeros_0f7a4_78 ?_
            cases some_i h
            exact hend _ _ _ _ _ hP hD hS (RetOK.i dJ6_numberOfTrailingZeros_0f7a4_79)
          · have h := if_f c6 h
            obtain ⟨x7, ex7, h⟩ := pl_ex h
            refine lv_iinc (v := x7) (lv' := [(1, .int x7), (0, .int x1)]) hx hb dJ6_numberOfTrailingZeros_0f7a4_67 hl (k := 0) rfl (by rw [← ex7]; rfl) (by decide) rfl (fun ls hl => ?_)
            refine lv_iload_n hx hb dJ6_numberOfTrailingZeros_0f7a4_70 rfl (lv_at hl 1 rfl) ?_
            refine lv_iconst (v := 2) hx hb dJ6_numberOfTrailingZeros_0f7a4_71 (by decide) ?_
            refine lv_iushr (v := ((x1.toUInt32 >>> ((2 : Int32).toUInt32 &&& Int32.toUInt32 31)).toInt32)) hx hb dJ6_numberOfTrailingZeros_0f7a4_72 rfl ?_
            obtain ⟨x8, ex8, h⟩ := pl_ex h
            refine lv_eqi ex8 ?_
            refine lv_istore_n (lv' := [(0, .int x8), (1, .int x7)]) hx hb dJ6_numberOfTrailingZeros_0f7a4_73 rfl hl (by decide) rfl (fun ls hl => ?_)
            refine lv_iload_n hx hb dJ6_numberOfTrailingZeros_0f7a4_74 rfl (lv_at hl 1 rfl) ?_
            refine lv_iload_n hx hb dJ6_numberOfTrailingZeros_0f7a4_75 rfl (lv_at hl 0 rfl) ?_
            refine lv_iconst (v := 1) hx hb dJ6_numberOfTrailingZeros_0f7a4_76 (by decide) ?_
            refine lv_iushr (v := ((x8.toUInt32 >>> ((1 : Int32).toUInt32 &&& Int32.toUInt32 31)).toInt32)) hx hb dJ6_numberOfTrailingZeros_0f7a4_77 rfl ?_
            refine lv_iadd hx hb dJ6_numberOfTrailingZeros_0f7a4_78 ?_
            cases some_i h
            exact hend _ _ _ _ _ hP hD hS (RetOK.i dJ6_numberOfTrailingZeros_0f7a4_79)
        · have h := if_f c5 h
          obtain ⟨x9, ex9, h⟩ := pl_ex h
          refine lv_iinc (v := x9) (lv' := [(1, .int x9), (0, .int x1)]) hx hb dJ6_numberOfTrailingZeros_0f7a4_55 hl (k := 0) rfl (by rw [← ex9]; rfl) (by decide) rfl (fun ls hl => ?_)
          refine lv_iload_n hx hb dJ6_numberOfTrailingZeros_0f7a4_58 rfl (lv_at hl 1 rfl) ?_
          refine lv_iconst (v := 4) hx hb dJ6_numberOfTrailingZeros_0f7a4_59 (by decide) ?_
          refine lv_iushr (v := ((x1.toUInt32 >>> ((4 : Int32).toUInt32 &&& Int32.toUInt32 31)).toInt32)) hx hb dJ6_numberOfTrailingZeros_0f7a4_60 rfl ?_
          obtain ⟨x10, ex10, h⟩ := pl_ex h
          refine lv_eqi ex10 ?_
          refine lv_istore_n (lv' := [(0, .int x10), (1, .int x9)]) hx hb dJ6_numberOfTrailingZeros_0f7a4_61 rfl hl (by decide) rfl (fun ls hl => ?_)
          refine lv_iload_n hx hb dJ6_numberOfTrailingZeros_0f7a4_62 rfl (lv_at hl 0 rfl) ?_
          refine lv_iconst (v := 4) hx hb dJ6_numberOfTrailingZeros_0f7a4_63 (by decide) ?_
          refine lv_icmp_le (tgt := 74) hx hb dJ6_numberOfTrailingZeros_0f7a4_64 (by decide) (fun c11 => ?_) (fun c11 => ?_)
          · have h := if_t c11 h
            refine lv_iload_n hx hb dJ6_numberOfTrailingZeros_0f7a4_74 rfl (lv_at hl 1 rfl) ?_
            refine lv_iload_n hx hb dJ6_numberOfTrailingZeros_0f7a4_75 rfl (lv_at hl 0 rfl) ?_
            refine lv_iconst (v := 1) hx hb dJ6_numberOfTrailingZeros_0f7a4_76 (by decide) ?_
            refine lv_iushr (v := ((x10.toUInt32 >>> ((1 : Int32).toUInt32 &&& Int32.toUInt32 31)).toInt32)) hx hb dJ6_numberOfTrailingZeros_0f7a4_77 rfl ?_
            refine lv_iadd hx hb dJ6_numberOfTrailingZeros_0f7a4_78 ?_
            cases some_i h
            exact hend _ _ _ _ _ hP hD hS (RetOK.i dJ6_numberOfTrailingZeros_0f7a4_79)
          · have h := if_f c11 h
            obtain ⟨x12, ex12, h⟩ := pl_ex h
            refine lv_iinc (v := x12) (lv' := [(1, .int x12), (0, .int x10)]) hx hb dJ6_numberOfTrailingZeros_0f7a4_67 hl (k := 1) rfl (by rw [← ex12]; rfl) (by decide) rfl (fun ls hl => ?_)
            refine lv_iload_n hx hb dJ6_numberOfTrailingZeros_0f7a4_70 rfl (lv_at hl 1 rfl) ?_
            refine lv_iconst (v := 2) hx hb dJ6_numberOfTrailingZeros_0f7a4_71 (by decide) ?_
            refine lv_iushr (v := ((x10.toUInt32 >>> ((2 : Int32).toUInt32 &&& Int32.toUInt32 31)).toInt32)) hx hb dJ6_numberOfTrailingZeros_0f7a4_72 rfl ?_
            obtain ⟨x13, ex13, h⟩ := pl_ex h
            refine lv_eqi ex13 ?_
            refine lv_istore_n (lv' := [(0, .int x13), (1, .int x12)]) hx hb dJ6_numberOfTrailingZeros_0f7a4_73 rfl hl (by decide) rfl (fun ls hl => ?_)
            refine lv_iload_n hx hb dJ6_numberOfTrailingZeros_0f7a4_74 rfl (lv_at hl 1 rfl) ?_
            refine lv_iload_n hx hb dJ6_numberOfTrailingZeros_0f7a4_75 rfl (lv_at hl 0 rfl) ?_
            refine lv_iconst (v := 1) hx hb dJ6_numberOfTrailingZeros_0f7a4_76 (by decide) ?_
            refine lv_iushr (v := ((x13.toUInt32 >>> ((1 : Int32).toUInt32 &&& Int32.toUInt32 31)).toInt32)) hx hb dJ6_numberOfTrailingZeros_0f7a4_77 rfl ?_
            refine lv_iadd hx hb dJ6_numberOfTrailingZeros_0f7a4_78 ?_
            cases some_i h
            exact hend _ _ _ _ _ hP hD hS (RetOK.i dJ6_numberOfTrailingZeros_0f7a4_79)
      · have h := if_f c4 h
        obtain ⟨x14, ex14, h⟩ := pl_ex h
        refine lv_iinc (v := x14) (lv' := [(1, .int x14), (0, .int x1)]) hx hb dJ6_numberOfTrailingZeros_0f7a4_41 hl (k := 0) rfl (by rw [← ex14]; rfl) (by decide) rfl (fun ls hl => ?_)
        refine lv_iload_n hx hb dJ6_numberOfTrailingZeros_0f7a4_44 rfl (lv_at hl 1 rfl) ?_
        refine lv_bipush (v := 8) hx hb dJ6_numberOfTrailingZeros_0f7a4_45 (by decide) ?_
        refine lv_iushr (v := ((x1.toUInt32 >>> ((8 : Int32).toUInt32 &&& Int32.toUInt32 31)).toInt32)) hx hb dJ6_numberOfTrailingZeros_0f7a4_47 rfl ?_
        obtain ⟨x15, ex15, h⟩ := pl_ex h
        refine lv_eqi ex15 ?_
        refine lv_istore_n (lv' := [(0, .int x15), (1, .int x14)]) hx hb dJ6_numberOfTrailingZeros_0f7a4_48 rfl hl (by decide) rfl (fun ls hl => ?_)
        refine lv_iload_n hx hb dJ6_numberOfTrailingZeros_0f7a4_49 rfl (lv_at hl 0 rfl) ?_
        refine lv_bipush (v := 16) hx hb dJ6_numberOfTrailingZeros_0f7a4_50 (by decide) ?_
        refine lv_icmp_le (tgt := 62) hx hb dJ6_numberOfTrailingZeros_0f7a4_52 (by decide) (fun c16 => ?_) (fun c16 => ?_)
        · have h := if_t c16 h
          refine lv_iload_n hx hb dJ6_numberOfTrailingZeros_0f7a4_62 rfl (lv_at hl 0 rfl) ?_
          refine lv_iconst (v := 4) hx hb dJ6_numberOfTrailingZeros_0f7a4_63 (by decide) ?_
          refine lv_icmp_le (tgt := 74) hx hb dJ6_numberOfTrailingZeros_0f7a4_64 (by decide) (fun c17 => ?_) (fun c17 => ?_)
          · have h := if_t c17 h
            refine lv_iload_n hx hb dJ6_numberOfTrailingZeros_0f7a4_74 rfl (lv_at hl 1 rfl) ?_
            refine lv_iload_n hx hb dJ6_numberOfTrailingZeros_0f7a4_75 rfl (lv_at hl 0 rfl) ?_
            refine lv_iconst (v := 1) hx hb dJ6_numberOfTrailingZeros_0f7a4_76 (by decide) ?_
            refine lv_iushr (v := ((x15.toUInt32 >>> ((1 : Int32).toUInt32 &&& Int32.toUInt32 31)).toInt32)) hx hb dJ6_numberOfTrailingZeros_0f7a4_77 rfl ?_
            refine lv_iadd hx hb dJ6_numberOfTrailingZeros_0f7a4_78 ?_
            cases some_i h
            exact hend _ _ _ _ _ hP hD hS (RetOK.i dJ6_numberOfTrailingZeros_0f7a4_79)
          · have h := if_f c17 h
            obtain ⟨x18, ex18, h⟩ := pl_ex h
            refine lv_iinc (v := x18) (lv' := [(1, .int x18), (0, .int x15)]) hx hb dJ6_numberOfTrailingZeros_0f7a4_67 hl (k := 1) rfl (by rw [← ex18]; rfl) (by decide) rfl (fun ls hl => ?_)
            refine lv_iload_n hx hb dJ6_numberOfTrailingZeros_0f7a4_70 rfl (lv_at hl 1 rfl) ?_
            refine lv_iconst (v := 2) hx hb dJ6_numberOfTrailingZeros_0f7a4_71 (by decide) ?_
            refine lv_iushr (v := ((x15.toUInt32 >>> ((2 : Int32).toUInt32 &&& Int32.toUInt32 31)).toInt32)) hx hb dJ6_numberOfTrailingZeros_0f7a4_72 rfl ?_
            obtain ⟨x19, ex19, h⟩ := pl_ex h
            refine lv_eqi ex19 ?_
            refine lv_istore_n (lv' := [(0, .int x19), (1, .int x18)]) hx hb dJ6_numberOfTrailingZeros_0f7a4_73 rfl hl (by decide) rfl (fun ls hl => ?_)
            refine lv_iload_n hx hb dJ6_numberOfTrailingZeros_0f7a4_74 rfl (lv_at hl 1 rfl) ?_
            refine lv_iload_n hx hb dJ6_numberOfTrailingZeros_0f7a4_75 rfl (lv_at hl 0 rfl) ?_
            refine lv_iconst (v := 1) hx hb dJ6_numberOfTrailingZeros_0f7a4_76 (by decide) ?_
            refine lv_iushr (v := ((x19.toUInt32 >>> ((1 : Int32).toUInt32 &&& Int32.toUInt32 31)).toInt32)) hx hb dJ6_numberOfTrailingZeros_0f7a4_77 rfl ?_
            refine lv_iadd hx hb dJ6_numberOfTrailingZeros_0f7a4_78 ?_
            cases some_i h
            exact hend _ _ _ _ _ hP hD hS (RetOK.i dJ6_numberOfTrailingZeros_0f7a4_79)
        · have h := if_f c16 h
          obtain ⟨x20, ex20, h⟩ := pl_ex h
          refine lv_iinc (v := x20) (lv' := [(1, .int x20), (0, .int x15)]) hx hb dJ6_numberOfTrailingZeros_0f7a4_55 hl (k := 1) rfl (by rw [← ex20]; rfl) (by decide) rfl (fun ls hl => ?_)
          refine lv_iload_n hx hb dJ6_numberOfTrailingZeros_0f7a4_58 rfl (lv_at hl 1 rfl) ?_
          refine lv_iconst (v := 4) hx hb dJ6_numberOfTrailingZeros_0f7a4_59 (by decide) ?_
          refine lv_iushr (v := ((x15.toUInt32 >>> ((4 : Int32).toUInt32 &&& Int32.toUInt32 31)).toInt32)) hx hb dJ6_numberOfTrailingZeros_0f7a4_60 rfl ?_
          obtain ⟨x21, ex21, h⟩ := pl_ex h
          refine lv_eqi ex21 ?_
          refine lv_istore_n (lv' := [(0, .int x21), (1, .int x20)]) hx hb dJ6_numberOfTrailingZeros_0f7a4_61 rfl hl (by decide) rfl (fun ls hl => ?_)
          refine lv_iload_n hx hb dJ6_numberOfTrailingZeros_0f7a4_62 rfl (lv_at hl 0 rfl) ?_
          refine lv_iconst (v := 4) hx hb dJ6_numberOfTrailingZeros_0f7a4_63 (by decide) ?_
          refine lv_icmp_le (tgt := 74) hx hb dJ6_numberOfTrailingZeros_0f7a4_64 (by decide) (fun c22 => ?_) (fun c22 => ?_)
          · have h := if_t c22 h
            refine lv_iload_n hx hb dJ6_numberOfTrailingZeros_0f7a4_74 rfl (lv_at hl 1 rfl) ?_
            refine lv_iload_n hx hb dJ6_numberOfTrailingZeros_0f7a4_75 rfl (lv_at hl 0 rfl) ?_
            refine lv_iconst (v := 1) hx hb dJ6_numberOfTrailingZeros_0f7a4_76 (by decide) ?_
            refine lv_iushr (v := ((x21.toUInt32 >>> ((1 : Int32).toUInt32 &&& Int32.toUInt32 31)).toInt32)) hx hb dJ6_numberOfTrailingZeros_0f7a4_77 rfl ?_
            refine lv_iadd hx hb dJ6_numberOfTrailingZeros_0f7a4_78 ?_
            cases some_i h
            exact hend _ _ _ _ _ hP hD hS (RetOK.i dJ6_numberOfTrailingZeros_0f7a4_79)
          · have h := if_f c22 h
            obtain ⟨x23, ex23, h⟩ := pl_ex h
            refine lv_iinc (v := x23) (lv' := [(1, .int x23), (0, .int x21)]) hx hb dJ6_numberOfTrailingZeros_0f7a4_67 hl (k := 1) rfl (by rw [← ex23]; rfl) (by decide) rfl (fun ls hl => ?_)
            refine lv_iload_n hx hb dJ6_numberOfTrailingZeros_0f7a4_70 rfl (lv_at hl 1 rfl) ?_
            refine lv_iconst (v := 2) hx hb dJ6_numberOfTrailingZeros_0f7a4_71 (by decide) ?_
            refine lv_iushr (v := ((x21.toUInt32 >>> ((2 : Int32).toUInt32 &&& Int32.toUInt32 31)).toInt32)) hx hb dJ6_numberOfTrailingZeros_0f7a4_72 rfl ?_
            obtain ⟨x24, ex24, h⟩ := pl_ex h
            refine lv_eqi ex24 ?_
            refine lv_istore_n (lv' := [(0, .int x24), (1, .int x23)]) hx hb dJ6_numberOfTrailingZeros_0f7a4_73 rfl hl (by decide) rfl (fun ls hl => ?_)
            refine lv_iload_n hx hb dJ6_numberOfTrailingZeros_0f7a4_74 rfl (lv_at hl 1 rfl) ?_
            refine lv_iload_n hx hb dJ6_numberOfTrailingZeros_0f7a4_75 rfl (lv_at hl 0 rfl) ?_
            refine lv_iconst (v := 1) hx hb dJ6_numberOfTrailingZeros_0f7a4_76 (by decide) ?_
            refine lv_iushr (v := ((x24.toUInt32 >>> ((1 : Int32).toUInt32 &&& Int32.toUInt32 31)).toInt32)) hx hb dJ6_numberOfTrailingZeros_0f7a4_77 rfl ?_
            refine lv_iadd hx hb dJ6_numberOfTrailingZeros_0f7a4_78 ?_
            cases some_i h
            exact hend _ _ _ _ _ hP hD hS (RetOK.i dJ6_numberOfTrailingZeros_0f7a4_79)
    · have h := if_f c3 h
      obtain ⟨x25, ex25, h⟩ := pl_ex h
      refine lv_iinc (v := x25) (lv' := [(1, .int x25), (0, .int x1)]) hx hb dJ6_numberOfTrailingZeros_0f7a4_26 hl (k := 0) rfl (by rw [← ex25]; rfl) (by decide) rfl (fun ls hl => ?_)
      refine lv_iload_n hx hb dJ6_numberOfTrailingZeros_0f7a4_29 rfl (lv_at hl 1 rfl) ?_
      refine lv_bipush (v := 16) hx hb dJ6_numberOfTrailingZeros_0f7a4_30 (by decide) ?_
      refine lv_iushr (v := ((x1.toUInt32 >>> ((16 : Int32).toUInt32 &&& Int32.toUInt32 31)).toInt32)) hx hb dJ6_numberOfTrailingZeros_0f7a4_32 rfl ?_
      obtain ⟨x26, ex26, h⟩ := pl_ex h
      refine lv_eqi ex26 ?_
      refine lv_istore_n (lv' := [(0, .int x26), (1, .int x25)]) hx hb dJ6_numberOfTrailingZeros_0f7a4_33 rfl hl (by decide) rfl (fun ls hl => ?_)
      refine lv_iload_n hx hb dJ6_numberOfTrailingZeros_0f7a4_34 rfl (lv_at hl 0 rfl) ?_
      refine lv_sipush (v := 256) hx hb dJ6_numberOfTrailingZeros_0f7a4_35 (by decide) ?_
      refine lv_icmp_le (tgt := 49) hx hb dJ6_numberOfTrailingZeros_0f7a4_38 (by decide) (fun c27 => ?_) (fun c27 => ?_)
      · have h := if_t c27 h
        refine lv_iload_n hx hb dJ6_numberOfTrailingZeros_0f7a4_49 rfl (lv_at hl 0 rfl) ?_
        refine lv_bipush (v := 16) hx hb dJ6_numberOfTrailingZeros_0f7a4_50 (by decide) ?_
        refine lv_icmp_le (tgt := 62) hx hb dJ6_numberOfTrailingZeros_0f7a4_52 (by decide) (fun c28 => ?_) (fun c28 => ?_)
        · have h := if_t c28 h
          refine lv_iload_n hx hb dJ6_numberOfTrailingZeros_0f7a4_62 rfl (lv_at hl 0 rfl) ?_
          refine lv_iconst (v := 4) hx hb dJ6_numberOfTrailingZeros_0f7a4_63 (by decide) ?_
          refine lv_icmp_le (tgt := 74) hx hb dJ6_numberOfTrailingZeros_0f7a4_64 (by decide) (fun c29 => ?_) (fun c29 => ?_)
          · have h := if_t c29 h
            refine lv_iload_n hx hb dJ6_numberOfTrailingZeros_0f7a4_74 rfl (lv_at hl 1 rfl) ?_
            refine lv_iload_n hx hb dJ6_numberOfTrailingZeros_0f7a4_75 rfl (lv_at hl 0 rfl) ?_
            refine lv_iconst (v := 1) hx hb dJ6_numberOfTrailingZeros_0f7a4_76 (by decide) ?_
            refine lv_iushr (v := ((x26.toUInt32 >>> ((1 : Int32).toUInt32 &&& Int32.toUInt32 31)).toInt32)) hx hb dJ6_numberOfTrailingZeros_0f7a4_77 rfl ?_
            refine lv_iadd hx hb dJ6_numberOfTrailingZeros_0f7a4_78 ?_
            cases some_i h
            exact hend _ _ _ _ _ hP hD hS (RetOK.i dJ6_numberOfTrailingZeros_0f7a4_79)
          · have h := if_f c29 h
            obtain ⟨x30, ex30, h⟩ := pl_ex h
            refine lv_iinc (v := x30) (lv' := [(1, .int x30), (0, .int x26)]) hx hb dJ6_numberOfTrailingZeros_0f7a4_67 hl (k := 1) rfl (by rw [← ex30]; rfl) (by decide) rfl (fun ls hl => ?_)
            refine lv_iload_n hx hb dJ6_numberOfTrailingZeros_0f7a4_70 rfl (lv_at hl 1 rfl) ?_
            refine lv_iconst (v := 2) hx hb dJ6_numberOfTrailingZeros_0f7a4_71 (by decide) ?_
            refine lv_iushr (v := ((x26.toUInt32 >>> ((2 : Int32).toUInt32 &&& Int32.toUInt32 31)).toInt32)) hx hb dJ6_numberOfTrailingZeros_0f7a4_72 rfl ?_
            obtain ⟨x31, ex31, h⟩ := pl_ex h
            refine lv_eqi ex31 ?_
            refine lv_istore_n (lv' := [(0, .int x31), (1, .int x30)]) hx hb dJ6_numberOfTrailingZeros_0f7a4_73 rfl hl (by decide) rfl (fun ls hl => ?_)
            refine lv_iload_n hx hb dJ6_numberOfTrailingZeros_0f7a4_74 rfl (lv_at hl 1 rfl) ?_
            refine lv_iload_n hx hb dJ6_numberOfTrailingZeros_0f7a4_75 rfl (lv_at hl 0 rfl) ?_
            refine lv_iconst (v := 1) hx hb dJ6_numberOfTrailingZeros_0f7a4_76 (by decide) ?_
            refine lv_iushr (v := ((x31.toUInt32 >>> ((1 : Int32).toUInt32 &&& Int32.toUInt32 31)).toInt32)) hx hb dJ6_numberOfTrailingZeros_0f7a4_77 rfl ?_
            refine lv_iadd hx hb dJ6_numberOfTrailingZeros_0f7a4_78 ?_
            cases some_i h
            exact hend _ _ _ _ _ hP hD hS (RetOK.i dJ6_numberOfTrailingZeros_0f7a4_79)
        · have h := if_f c28 h
          obtain ⟨x32, ex32, h⟩ := pl_ex h
          refine lv_iinc (v := x32) (lv' := [(1, .int x32), (0, .int x26)]) hx hb dJ6_numberOfTrailingZeros_0f7a4_55 hl (k := 1) rfl (by rw [← ex32]; rfl) (by decide) rfl (fun ls hl => ?_)
          refine lv_iload_n hx hb dJ6_numberOfTrailingZeros_0f7a4_58 rfl (lv_at hl 1 rfl) ?_
          refine lv_iconst (v := 4) hx hb dJ6_numberOfTrailingZeros_0f7a4_59 (by decide) ?_
          refine lv_iushr (v := ((x26.toUInt32 >>> ((4 : Int32).toUInt32 &&& Int32.toUInt32 31)).toInt32)) hx hb dJ6_numberOfTrailingZeros_0f7a4_60 rfl ?_
          obtain ⟨x33, ex33, h⟩ := pl_ex h
          refine lv_eqi ex33 ?_
          refine lv_istore_n (lv' := [(0, .int x33), (1, .int x32)]) hx hb dJ6_numberOfTrailingZeros_0f7a4_61 rfl hl (by decide) rfl (fun ls hl => ?_)
          refine lv_iload_n hx hb dJ6_numberOfTrailingZeros_0f7a4_62 rfl (lv_at hl 0 rfl) ?_
          refine lv_iconst (v := 4) hx hb dJ6_numberOfTrailingZeros_0f7a4_63 (by decide) ?_
          refine lv_icmp_le (tgt := 74) hx hb dJ6_numberOfTrailingZeros_0f7a4_64 (by decide) (fun c34 => ?_) (fun c34 => ?_)
          · have h := if_t c34 h
            refine lv_iload_n hx hb dJ6_numberOfTrailingZeros_0f7a4_74 rfl (lv_at hl 1 rfl) ?_
            refine lv_iload_n hx hb dJ6_numberOfTrailingZeros_0f7a4_75 rfl (lv_at hl 0 rfl) ?_
            refine lv_iconst (v := 1) hx hb dJ6_numberOfTrailingZeros_0f7a4_76 (by decide) ?_
            refine lv_iushr (v := ((x33.toUInt32 >>> ((1 : Int32).toUInt32 &&& Int32.toUInt32 31)).toInt32)) hx hb dJ6_numberOfTrailingZeros_0f7a4_77 rfl ?_
            refine lv_iadd hx hb dJ6_numberOfTrailingZeros_0f7a4_78 ?_
            cases some_i h
            exact hend _ _ _ _ _ hP hD hS (RetOK.i dJ6_numberOfTrailingZeros_0f7a4_79)
          · have h := if_f c34 h
            obtain ⟨x35, ex35, h⟩ := pl_ex h
            refine lv_iinc (v := x35) (lv' := [(1, .int x35), (0, .int x33)]) hx hb dJ6_numberOfTrailingZeros_0f7a4_67 hl (k := 1) rfl (by rw [← ex35]; rfl) (by decide) rfl (fun ls hl => ?_)
            refine lv_iload_n hx hb dJ6_numberOfTrailingZeros_0f7a4_70 rfl (lv_at hl 1 rfl) ?_
            refine lv_iconst (v := 2) hx hb dJ6_numberOfTrailingZeros_0f7a4_71 (by decide) ?_
            refine lv_iushr (v := ((x33.toUInt32 >>> ((2 : Int32).toUInt32 &&& Int32.toUInt32 31)).toInt32)) hx hb dJ6_numberOfTrailingZeros_0f7a4_72 rfl ?_
            obtain ⟨x36, ex36, h⟩ := pl_ex h
            refine lv_eqi ex36 ?_
            refine lv_istore_n (lv' := [(0, .int x36), (1, .int x35)]) hx hb dJ6_numberOfTrailingZeros_0f7a4_73 rfl hl (by decide) rfl (fun ls hl => ?_)
            refine lv_iload_n hx hb dJ6_numberOfTrailingZeros_0f7a4_74 rfl (lv_at hl 1 rfl) ?_
            refine lv_iload_n hx hb dJ6_numberOfTrailingZeros_0f7a4_75 rfl (lv_at hl 0 rfl) ?_
            refine lv_iconst (v := 1) hx hb dJ6_numberOfTrailingZeros_0f7a4_76 (by decide) ?_
            refine lv_iushr (v := ((x36.toUInt32 >>> ((1 : Int32).toUInt32 &&& Int32.toUInt32 31)).toInt32)) hx hb dJ6_numberOfTrailingZeros_0f7a4_77 rfl ?_
            refine lv_iadd hx hb dJ6_numberOfTrailingZeros_0f7a4_78 ?_
            cases some_i h
            exact hend _ _ _ _ _ hP hD hS (RetOK.i dJ6_numberOfTrailingZeros_0f7a4_79)
      · have h := if_f c27 h
        obtain ⟨x37, ex37, h⟩ := pl_ex h
        refine lv_iinc (v := x37) (lv' := [(1, .int x37), (0, .int x26)]) hx hb dJ6_numberOfTrailingZeros_0f7a4_41 hl (k := 1) rfl (by rw [← ex37]; rfl) (by decide) rfl (fun ls hl => ?_)
        refine lv_iload_n hx hb dJ6_numberOfTrailingZeros_0f7a4_44 rfl (lv_at hl 1 rfl) ?_
        refine lv_bipush (v := 8) hx hb dJ6_numberOfTrailingZeros_0f7a4_45 (by decide) ?_
        refine lv_iushr (v := ((x26.toUInt32 >>> ((8 : Int32).toUInt32 &&& Int32.toUInt32 31)).toInt32)) hx hb dJ6_numberOfTrailingZeros_0f7a4_47 rfl ?_
        obtain ⟨x38, ex38, h⟩ := pl_ex h
        refine lv_eqi ex38 ?_
        refine lv_istore_n (lv' := [(0, .int x38), (1, .int x37)]) hx hb dJ6_numberOfTrailingZeros_0f7a4_48 rfl hl (by decide) rfl (fun ls hl => ?_)
        refine lv_iload_n hx hb dJ6_numberOfTrailingZeros_0f7a4_49 rfl (lv_at hl 0 rfl) ?_
        refine lv_bipush (v := 16) hx hb dJ6_numberOfTrailingZeros_0f7a4_50 (by decide) ?_
        refine lv_icmp_le (tgt := 62) hx hb dJ6_numberOfTrailingZeros_0f7a4_52 (by decide) (fun c39 => ?_) (fun c39 => ?_)
        · have h := if_t c39 h
          refine lv_iload_n hx hb dJ6_numberOfTrailingZeros_0f7a4_62 rfl (lv_at hl 0 rfl) ?_
          refine lv_iconst (v := 4) hx hb dJ6_numberOfTrailingZeros_0f7a4_63 (by decide) ?_
          refine lv_icmp_le (tgt := 74) hx hb dJ6_numberOfTrailingZeros_0f7a4_64 (by decide) (fun c40 => ?_) (fun c40 => ?_)
          · have h := if_t c40 h
            refine lv_iload_n hx hb dJ6_numberOfTrailingZeros_0f7a4_74 rfl (lv_at hl 1 rfl) ?_
            refine lv_iload_n hx hb dJ6_numberOfTrailingZeros_0f7a4_75 rfl (lv_at hl 0 rfl) ?_
            refine lv_iconst (v := 1) hx hb dJ6_numberOfTrailingZeros_0f7a4_76 (by decide) ?_
            refine lv_iushr (v := ((x38.toUInt32 >>> ((1 : Int32).toUInt32 &&& Int32.toUInt32 31)).toInt32)) hx hb dJ6_numberOfTrailingZeros_0f7a4_77 rfl ?_
            refine lv_iadd hx hb dJ6_numberOfTrailingZeros_0f7a4_78 ?_
            cases some_i h
            exact hend _ _ _ _ _ hP hD hS (RetOK.i dJ6_numberOfTrailingZeros_0f7a4_79)
          · have h := if_f c40 h
            obtain ⟨x41, ex41, h⟩ := pl_ex h
            refine lv_iinc (v := x41) (lv' := [(1, .int x41), (0, .int x38)]) hx hb dJ6_numberOfTrailingZeros_0f7a4_67 hl (k := 1) rfl (by rw [← ex41]; rfl) (by decide) rfl (fun ls hl => ?_)
            refine lv_iload_n hx hb dJ6_numberOfTrailingZeros_0f7a4_70 rfl (lv_at hl 1 rfl) ?_
            refine lv_iconst (v := 2) hx hb dJ6_numberOfTrailingZeros_0f7a4_71 (by decide) ?_
            refine lv_iushr (v := ((x38.toUInt32 >>> ((2 : Int32).toUInt32 &&& Int32.toUInt32 31)).toInt32)) hx hb dJ6_numberOfTrailingZeros_0f7a4_72 rfl ?_
            obtain ⟨x42, ex42, h⟩ := pl_ex h
            refine lv_eqi ex42 ?_
            refine lv_istore_n (lv' := [(0, .int x42), (1, .int x41)]) hx hb dJ6_numberOfTrailingZeros_0f7a4_73 rfl hl (by decide) rfl (fun ls hl => ?_)
            refine lv_iload_n hx hb dJ6_numberOfTrailingZeros_0f7a4_74 rfl (lv_at hl 1 rfl) ?_
            refine lv_iload_n hx hb dJ6_numberOfTrailingZeros_0f7a4_75 rfl (lv_at hl 0 rfl) ?_
            refine lv_iconst (v := 1) hx hb dJ6_numberOfTrailingZeros_0f7a4_76 (by decide) ?_
            refine lv_iushr (v := ((x42.toUInt32 >>> ((1 : Int32).toUInt32 &&& Int32.toUInt32 31)).toInt32)) hx hb dJ6_numberOfTrailingZeros_0f7a4_77 rfl ?_
            refine lv_iadd hx hb dJ6_numberOfTrailingZeros_0f7a4_78 ?_
            cases some_i h
            exact hend _ _ _ _ _ hP hD hS (RetOK.i dJ6_numberOfTrailingZeros_0f7a4_79)
        · have h := if_f c39 h
          obtain ⟨x43, ex43, h⟩ := pl_ex h
          refine lv_iinc (v := x43) (lv' := [(1, .int x43), (0, .int x38)]) hx hb dJ6_numberOfTrailingZeros_0f7a4_55 hl (k := 1) rfl (by rw [← ex43]; rfl) (by decide) rfl (fun ls hl => ?_)
          refine lv_iload_n hx hb dJ6_numberOfTrailingZeros_0f7a4_58 rfl (lv_at hl 1 rfl) ?_
          refine lv_iconst (v := 4) hx hb dJ6_numberOfTrailingZeros_0f7a4_59 (by decide) ?_
          refine lv_iushr (v := ((x38.toUInt32 >>> ((4 : Int32).toUInt32 &&& Int32.toUInt32 31)).toInt32)) hx hb dJ6_numberOfTrailingZeros_0f7a4_60 rfl ?_
          obtain ⟨x44, ex44, h⟩ := pl_ex h
          refine lv_eqi ex44 ?_
          refine lv_istore_n (lv' := [(0, .int x44), (1, .int x43)]) hx hb dJ6_numberOfTrailingZeros_0f7a4_61 rfl hl (by decide) rfl (fun ls hl => ?_)
          refine lv_iload_n hx hb dJ6_numberOfTrailingZeros_0f7a4_62 rfl (lv_at hl 0 rfl) ?_
          refine lv_iconst (v := 4) hx hb dJ6_numberOfTrailingZeros_0f7a4_63 (by decide) ?_
          refine lv_icmp_le (tgt := 74) hx hb dJ6_numberOfTrailingZeros_0f7a4_64 (by decide) (fun c45 => ?_) (fun c45 => ?_)
          · have h := if_t c45 h
            refine lv_iload_n hx hb dJ6_numberOfTrailingZeros_0f7a4_74 rfl (lv_at hl 1 rfl) ?_
            refine lv_iload_n hx hb dJ6_numberOfTrailingZeros_0f7a4_75 rfl (lv_at hl 0 rfl) ?_
            refine lv_iconst (v := 1) hx hb dJ6_numberOfTrailingZeros_0f7a4_76 (by decide) ?_
            refine lv_iushr (v := ((x44.toUInt32 >>> ((1 : Int32).toUInt32 &&& Int32.toUInt32 31)).toInt32)) hx hb dJ6_numberOfTrailingZeros_0f7a4_77 rfl ?_
            refine lv_iadd hx hb dJ6_numberOfTrailingZeros_0f7a4_78 ?_
            cases some_i h
            exact hend _ _ _ _ _ hP hD hS (RetOK.i dJ6_numberOfTrailingZeros_0f7a4_79)
          · have h := if_f c45 h
            obtain ⟨x46, ex46, h⟩ := pl_ex h
            refine lv_iinc (v := x46) (lv' := [(1, .int x46), (0, .int x44)]) hx hb dJ6_numberOfTrailingZeros_0f7a4_67 hl (k := 1) rfl (by rw [← ex46]; rfl) (by decide) rfl (fun ls hl => ?_)
            refine lv_iload_n hx hb dJ6_numberOfTrailingZeros_0f7a4_70 rfl (lv_at hl 1 rfl) ?_
            refine lv_iconst (v := 2) hx hb dJ6_numberOfTrailingZeros_0f7a4_71 (by decide) ?_
            refine lv_iushr (v := ((x44.toUInt32 >>> ((2 : Int32).toUInt32 &&& Int32.toUInt32 31)).toInt32)) hx hb dJ6_numberOfTrailingZeros_0f7a4_72 rfl ?_
            obtain ⟨x47, ex47, h⟩ := pl_ex h
            refine lv_eqi ex47 ?_
            refine lv_istore_n (lv' := [(0, .int x47), (1, .int x46)]) hx hb dJ6_numberOfTrailingZeros_0f7a4_73 rfl hl (by decide) rfl (fun ls hl => ?_)
            refine lv_iload_n hx hb dJ6_numberOfTrailingZeros_0f7a4_74 rfl (lv_at hl 1 rfl) ?_
            refine lv_iload_n hx hb dJ6_numberOfTrailingZeros_0f7a4_75 rfl (lv_at hl 0 rfl) ?_
            refine lv_iconst (v := 1) hx hb dJ6_numberOfTrailingZeros_0f7a4_76 (by decide) ?_
            refine lv_iushr (v := ((x47.toUInt32 >>> ((1 : Int32).toUInt32 &&& Int32.toUInt32 31)).toInt32)) hx hb dJ6_numberOfTrailingZeros_0f7a4_77 rfl ?_
            refine lv_iadd hx hb dJ6_numberOfTrailingZeros_0f7a4_78 ?_
            cases some_i h
            exact hend _ _ _ _ _ hP hD hS (RetOK.i dJ6_numberOfTrailingZeros_0f7a4_79)
  · have h := if_f c2 h
    refine lv_iload_n hx hb dJ6_numberOfTrailingZeros_0f7a4_12 rfl (lv_at hl 0 rfl) ?_
    refine lv_bipush (v := 32) hx hb dJ6_numberOfTrailingZeros_0f7a4_13 (by decide) ?_
    refine lv_iand hx hb dJ6_numberOfTrailingZeros_0f7a4_15 ?_
    cases some_i h
    exact hend _ _ _ _ _ hP hD hS (RetOK.i dJ6_numberOfTrailingZeros_0f7a4_16)
def fX2_copyFrom (st : St) (so : St) : Option (St) :=
(pl (St_set_codes st (St_codes so)) fun (st1 : St) =>
(pl (St_set_links st1 (St_links so)) fun (st2 : St) =>
(pl (St_set_under st2 (St_under so)) fun (st3 : St) =>
(pl (St_set_beginnings st3 (St_beginnings so)) fun (st4 : St) =>
(pl (St_set_ends st4 (St_ends so)) fun (st5 : St) =>
(pl (St_set_went st5 (St_went so)) fun (st6 : St) =>
(pl (St_set_steps st6 (St_steps so)) fun (st7 : St) =>
(pl (St_set_ladders st7 (St_ladders so)) fun (st8 : St) =>
(pl (St_set_falls st8 (St_falls so)) fun (st9 : St) =>
(pl (St_set_words st9 (St_words so)) fun (st10 : St) =>
(pl (St_set_place st10 (St_place so)) fun (st11 : St) =>
(pl (St_set_letter st11 (St_letter so)) fun (st12 : St) =>
(pl (St_set_letterStep st12 (St_letterStep so)) fun (st13 : St) =>
(pl (St_set_nearness st13 (St_nearness so)) fun (st14 : St) =>
(pl (St_set_turns st14 (St_turns so)) fun (st15 : St) =>
(pl (St_set_climbs st15 (St_climbs so)) fun (st16 : St) =>
(pl (St_set_ladderClimbs st16 (St_ladderClimbs so)) fun (st17 : St) =>
(some st17))))))))))))))))))
abbrev rX2_copyFrom : Room := { frames := 1, cells := 0, slots := 0, locals := 60 }
theorem hdX2_copyFrom : yX2_copyFrom.cls = RX2 ∧ yX2_copyFrom.cls ≠ "java/lang/invoke/MethodHandle" ∧ yX2_copyFrom.cls ≠ "java/lang/invoke/VarHandle" ∧ (parseMethodDescriptor yX2_copyFrom.desc).map (fun d => d.parameters.length) = some 1 := by decide +kernel
set_option maxRecDepth 100000 in
set_option maxHeartbeats 8000000 in
theorem kX2_copyFrom (l : Launch) (g : GG) (a b : Nat → Nat) {st : St} {so : St} {st' : St} (h : fX2_copyFrom st so = some st') : Cg l g yX2_copyFrom wsX2_copyFrom rX2_copyFrom [.ref (a 0), .ref (b 0)] (cSt g a st ++ (cSt g b so)) (none) (cSt g a st' ++ (cSt g b so)) := by
  refine Cg_of (cc := cX2_copyFrom) (maxL := 2) (ret := none) (by decide +kernel) rfl (Nat.le_of_ble_eq_true rfl) ?_
  intro p e su m args below meth c A Q ls hx hb hml hown hts hK hN hA hnm hP hD hS hl hend
  have hinX2 : ∀ w ∈ u_ws RX2 TX2 17, w ∈ wsX2_copyFrom := fun _ h9 => List.mem_cons_of_mem _ (List.mem_append_right _ h9)
  unfold fX2_copyFrom at h
  have hl : lv_has ls 2 [(0, .ref (a 0)), (1, .ref (b 0))] := hl
  refine lv_aload_n hx hb dX2_copyFrom_0 rfl (lv_at hl 1 rfl) ?_
  refine va_get (D := g.1) (ci := 2) (v := .ref (b 1)) (C := RX2) (T := TX2) (N := 17) hx hb hts hinX2 hown hK hP 10 rfl rfl 0 (by decide) (hts (.fieldLink RX2 9 "BarredRungs$State" "codes" "[I") (List.mem_of_getElem? (i := 1) rfl)) (fun _ h9 => h9) rfl dX2_copyFrom_1 ?_
  refine lv_iconst (v := 0) hx hb dX2_copyFrom_4 (by decide) ?_
  refine lv_aload_n hx hb dX2_copyFrom_5 rfl (lv_at hl 0 rfl) ?_
  refine va_get (D := g.1) (ci := 2) (v := .ref (a 1)) (C := RX2) (T := TX2) (N := 17) hx hb hts hinX2 hown hK hP 0 rfl rfl 0 (by decide) (hts (.fieldLink RX2 9 "BarredRungs$State" "codes" "[I") (List.mem_of_getElem? (i := 1) rfl)) (fun _ h9 => h9) rfl dX2_copyFrom_6 ?_
  refine lv_iconst (v := 0) hx hb dX2_copyFrom_9 (by decide) ?_
  refine lv_bipush (v := 24) hx hb dX2_copyFrom_10 (by decide) ?_
  obtain ⟨st1, est1, h⟩ := pl_ex h
  refine va_copyAll hx hb (hml.trans hl.1.symm) hown (hts (.methodLink RX2 46 arraycopyName) (List.mem_of_getElem? (i := 2) rfl)) (hts (.native arraycopyName) (List.mem_of_getElem? (i := 3) rfl)) (hts (.static arraycopyName) (List.mem_of_getElem? (i := 4) rfl)) (hts (.initialized "java/lang/System") (List.mem_of_getElem? (i := 5) rfl)) hK hP hD hS 11 1 0 rfl rfl rfl rfl (by decide) (by decide) (Nat.le_of_ble_eq_true rfl) (Nat.le_of_ble_eq_true rfl) dX2_copyFrom_12 (fun H locs hP hD hS => ?_)
  have hP : va_P g.1 vwCl (cSt g a st1 ++ (cSt g b so)) H := by rw [← est1]; exact hP
  have hD : va_D A (cSt g a st1 ++ (cSt g b so)) := by rw [← est1]; exact hD
  refine lv_aload_n hx hb dX2_copyFrom_15 rfl (lv_at hl 1 rfl) ?_
  refine va_get (D := g.1) (ci := 2) (v := .ref (b 2)) (C := RX2) (T := TX2) (N := 17) hx hb hts hinX2 hown hK hP 10 rfl rfl 1 (by decide) (hts (.fieldLink RX2 15 "BarredRungs$State" "links" "[I") (List.mem_of_getElem? (i := 6) rfl)) (fun _ h9 => h9) rfl dX2_copyFrom_16 ?_
  refine lv_iconst (v := 0) hx hb dX2_copyFrom_19 (by decide) ?_
  refine lv_aload_n hx hb dX2_copyFrom_20 rfl (lv_at hl 0 rfl) ?_
  refine va_get (D := g.1) (ci := 2) (v := .ref (a 2)) (C := RX2) (T := TX2) (N := 17) hx hb hts hinX2 hown hK hP 0 rfl rfl 1 (by decide) (hts (.fieldLink RX2 15 "BarredRungs$State" "links" "[I") (List.mem_of_getElem? (i := 6) rfl)) (fun _ h9 => h9) rfl dX2_copyFrom_21 ?_
  refine lv_iconst (v := 0) hx hb dX2_copyFrom_24 (by decide) ?_
  refine lv_bipush (v := 24) hx hb dX2_copyFrom_25 (by decide) ?_
  obtain ⟨st2, est2, h⟩ := pl_ex h
  refine va_copyAll hx hb (hml.trans hl.1.symm) hown (hts (.methodLink RX2 46 arraycopyName) (List.mem_of_getElem? (i := 2) rfl)) (hts (.native arraycopyName) (List.mem_of_getElem? (i := 3) rfl)) (hts (.static arraycopyName) (List.mem_of_getElem? (i := 4) rfl)) (hts (.initialized "java/lang/System") (List.mem_of_getElem? (i := 5) rfl)) hK hP hD hS 12 2 0 rfl rfl rfl rfl (by decide) (by decide) (Nat.le_of_ble_eq_true rfl) (Nat.le_of_ble_eq_true rfl) dX2_copyFrom_27 (fun H locs hP hD hS => ?_)
  have hP : va_P g.1 vwCl (cSt g a st2 ++ (cSt g b so)) H := by rw [← est2]; exact hP
  have hD : va_D A (cSt g a st2 ++ (cSt g b so)) := by rw [← est2]; exact hD
  refine lv_aload_n hx hb dX2_copyFrom_30 rfl (lv_at hl 1 rfl) ?_
  refine va_get (D := g.1) (ci := 2) (v := .ref (b 3)) (C := RX2) (T := TX2) (N := 17) hx hb hts hinX2 hown hK hP 10 rfl rfl 2 (by decide) (hts (.fieldLink RX2 18 "BarredRungs$State" "under" "[I") (List.mem_of_getElem? (i := 7) rfl)) (fun _ h9 => h9) rfl dX2_copyFrom_31 ?_
  refine lv_iconst (v := 0) hx hb dX2_copyFrom_34 (by decide) ?_
  refine lv_aload_n hx hb dX2_copyFrom_35 rfl (lv_at hl 0 rfl) ?_
  refine va_get (D := g.1) (ci := 2) (v := .ref (a 3)) (C := RX2) (T := TX2) (N := 17) hx hb hts hinX2 hown hK hP 0 rfl rfl 2 (by decide) (hts (.fieldLink RX2 18 "BarredRungs$State" "under" "[I") (List.mem_of_getElem? (i := 7) rfl)) (fun _ h9 => h9) rfl dX2_copyFrom_36 ?_
  refine lv_iconst (v := 0) hx hb dX2_copyFrom_39 (by decide) ?_
  refine lv_iconst (v := 3) hx hb dX2_copyFrom_40 (by decide) ?_
  obtain ⟨st3, est3, h⟩ := pl_ex h
  refine va_copyAll hx hb (hml.trans hl.1.symm) hown (hts (.methodLink RX2 46 arraycopyName) (List.mem_of_getElem? (i := 2) rfl)) (hts (.native arraycopyName) (List.mem_of_getElem? (i := 3) rfl)) (hts (.static arraycopyName) (List.mem_of_getElem? (i := 4) rfl)) (hts (.initialized "java/lang/System") (List.mem_of_getElem? (i := 5) rfl)) hK hP hD hS 13 3 0 rfl rfl rfl rfl (by decide) (by decide) (Nat.le_of_ble_eq_true rfl) (Nat.le_of_ble_eq_true rfl) dX2_copyFrom_41 (fun H locs hP hD hS => ?_)
  have hP : va_P g.1 vwCl (cSt g a st3 ++ (cSt g b so)) H := by rw [← est3]; exact hP
  have hD : va_D A (cSt g a st3 ++ (cSt g b so)) := by rw [← est3]; exact hD
  refine lv_aload_n hx hb dX2_copyFrom_44 rfl (lv_at hl 1 rfl) ?_
  refine va_get (D := g.1) (ci := 2) (v := .ref (b 4)) (C := RX2) (T := TX2) (N := 17) hx hb hts hinX2 hown hK hP 10 rfl rfl 3 (by decide) (hts (.fieldLink RX2 21 "BarredRungs$State" "beginnings" "[I") (List.mem_of_getElem? (i := 8) rfl)) (fun _ h9 => h9) rfl dX2_copyFrom_45 ?_
  refine lv_iconst (v := 0) hx hb dX2_copyFrom_48 (by decide) ?_
  refine lv_aload_n hx hb dX2_copyFrom_49 rfl (lv_at hl 0 rfl) ?_
  refine va_get (D := g.1) (ci := 2) (v := .ref (a 4)) (C := RX2) (T := TX2) (N := 17) hx hb hts hinX2 hown hK hP 0 rfl rfl 3 (by decide) (hts (.fieldLink RX2 21 "BarredRungs$State" "beginnings" "[I") (List.mem_of_getElem? (i := 8) rfl)) (fun _ h9 => h9) rfl dX2_copyFrom_50 ?_
  refine lv_iconst (v := 0) hx hb dX2_copyFrom_53 (by decide) ?_
  refine lv_iconst (v := 3) hx hb dX2_copyFrom_54 (by decide) ?_
  obtain ⟨st4, est4, h⟩ := pl_ex h
  refine va_copyAll hx hb (hml.trans hl.1.symm) hown (hts (.methodLink RX2 46 arraycopyName) (List.mem_of_getElem? (i := 2) rfl)) (hts (.native arraycopyName) (List.mem_of_getElem? (i := 3) rfl)) (hts (.static arraycopyName) (List.mem_of_getElem? (i := 4) rfl)) (hts (.initialized "java/lang/System") (List.mem_of_getElem? (i := 5) rfl)) hK hP hD hS 14 4 0 rfl rfl rfl rfl (by decide) (by decide) (Nat.le_of_ble_eq_true rfl) (Nat.le_of_ble_eq_true rfl) dX2_copyFrom_55 (fun H locs hP hD hS => ?_)
  have hP : va_P g.1 vwCl (cSt g a st4 ++ (cSt g b so)) H := by rw [← est4]; exact hP
  have hD : va_D A (cSt g a st4 ++ (cSt g b so)) := by rw [← est4]; exact hD
  refine lv_aload_n hx hb dX2_copyFrom_58 rfl (lv_at hl 1 rfl) ?_
  refine va_get (D := g.1) (ci := 2) (v := .ref (b 5)) (C := RX2) (T := TX2) (N := 17) hx hb hts hinX2 hown hK hP 10 rfl rfl 4 (by decide) (hts (.fieldLink RX2 24 "BarredRungs$State" "ends" "[I") (List.mem_of_getElem? (i := 9) rfl)) (fun _ h9 => h9) rfl dX2_copyFrom_59 ?_
  refine lv_iconst (v := 0) hx hb dX2_copyFrom_62 (by decide) ?_
  refine lv_aload_n hx hb dX2_copyFrom_63 rfl (lv_at hl 0 rfl) ?_
  refine va_get (D := g.1) (ci := 2) (v := .ref (a 5)) (C := RX2) (T := TX2) (N := 17) hx hb hts hinX2 hown hK hP 0 rfl rfl 4 (by decide) (hts (.fieldLink RX2 24 "BarredRungs$State" "ends" "[I") (List.mem_of_getElem? (i := 9) rfl)) (fun _ h9 => h9) rfl dX2_copyFrom_64 ?_
  refine lv_iconst (v := 0) hx hb dX2_copyFrom_67 (by decide) ?_
  refine lv_iconst (v := 3) hx hb dX2_copyFrom_68 (by decide) ?_
  obtain ⟨st5, est5, h⟩ := pl_ex h
  refine va_copyAll hx hb (hml.trans hl.1.symm) hown (hts (.methodLink RX2 46 arraycopyName) (List.mem_of_getElem? (i := 2) rfl)) (hts (.native arraycopyName) (List.mem_of_getElem? (i := 3) rfl)) (hts (.static arraycopyName) (List.mem_of_getElem? (i := 4) rfl)) (hts (.initialized "java/lang/System") (List.mem_of_getElem? (i := 5) rfl)) hK hP hD hS 15 5 0 rfl rfl rfl rfl (by decide) (by decide) (Nat.le_of_ble_eq_true rfl) (Nat.le_of_ble_eq_true rfl) dX2_copyFrom_69 (fun H locs hP hD hS => ?_)
  have hP : va_P g.1 vwCl (cSt g a st5 ++ (cSt g b so)) H := by rw [← est5]; exact hP
  have hD : va_D A (cSt g a st5 ++ (cSt g b so)) := by rw [← est5]; exact hD
  refine lv_aload_n hx hb dX2_copyFrom_72 rfl (lv_at hl 1 rfl) ?_
  refine va_get (D := g.1) (ci := 2) (v := .ref (b 6)) (C := RX2) (T := TX2) (N := 17) hx hb hts hinX2 hown hK hP 10 rfl rfl 5 (by decide) (hts (.fieldLink RX2 27 "BarredRungs$State" "went" "[I") (List.mem_of_getElem? (i := 10) rfl)) (fun _ h9 => h9) rfl dX2_copyFrom_73 ?_
  refine lv_iconst (v := 0) hx hb dX2_copyFrom_76 (by decide) ?_
  refine lv_aload_n hx hb dX2_copyFrom_77 rfl (lv_at hl 0 rfl) ?_
  refine va_get (D := g.1) (ci := 2) (v := .ref (a 6)) (C := RX2) (T := TX2) (N := 17) hx hb hts hinX2 hown hK hP 0 rfl rfl 5 (by decide) (hts (.fieldLink RX2 27 "BarredRungs$State" "went" "[I") (List.mem_of_getElem? (i := 10) rfl)) (fun _ h9 => h9) rfl dX2_copyFrom_78 ?_
  refine lv_iconst (v := 0) hx hb dX2_copyFrom_81 (by decide) ?_
  refine lv_iconst (v := 3) hx hb dX2_copyFrom_82 (by decide) ?_
  obtain ⟨st6, est6, h⟩ := pl_ex h
  refine va_copyAll hx hb (hml.trans hl.1.symm) hown (hts (.methodLink RX2 46 arraycopyName) (List.mem_of_getElem? (i := 2) rfl)) (hts (.native arraycopyName) (List.mem_of_getElem? (i := 3) rfl)) (hts (.static arraycopyName) (List.mem_of_getElem? (i := 4) rfl)) (hts (.initialized "java/lang/System") (List.mem_of_getElem? (i := 5) rfl)) hK hP hD hS 16 6 0 rfl rfl rfl rfl (by decide) (by decide) (Nat.le_of_ble_eq_true rfl) (Nat.le_of_ble_eq_true rfl) dX2_copyFrom_83 (fun H locs hP hD hS => ?_)
  have hP : va_P g.1 vwCl (cSt g a st6 ++ (cSt g b so)) H := by rw [← est6]; exact hP
  have hD : va_D A (cSt g a st6 ++ (cSt g b so)) := by rw [← est6]; exact hD
  refine lv_aload_n hx hb dX2_copyFrom_86 rfl (lv_at hl 1 rfl) ?_
  refine va_get (D := g.1) (ci := 2) (v := .ref (b 7)) (C := RX2) (T := TX2) (N := 17) hx hb hts hinX2 hown hK hP 10 rfl rfl 6 (by decide) (hts (.fieldLink RX2 30 "BarredRungs$State" "steps" "[I") (List.mem_of_getElem? (i := 11) rfl)) (fun _ h9 => h9) rfl dX2_copyFrom_87 ?_
  refine lv_iconst (v := 0) hx hb dX2_copyFrom_90 (by decide) ?_
  refine lv_aload_n hx hb dX2_copyFrom_91 rfl (lv_at hl 0 rfl) ?_
  refine va_get (D := g.1) (ci := 2) (v := .ref (a 7)) (C := RX2) (T := TX2) (N := 17) hx hb hts hinX2 hown hK hP 0 rfl rfl 6 (by decide) (hts (.fieldLink RX2 30 "BarredRungs$State" "steps" "[I") (List.mem_of_getElem? (i := 11) rfl)) (fun _ h9 => h9) rfl dX2_copyFrom_92 ?_
  refine lv_iconst (v := 0) hx hb dX2_copyFrom_95 (by decide) ?_
  refine lv_iconst (v := 3) hx hb dX2_copyFrom_96 (by decide) ?_
  obtain ⟨st7, est7, h⟩ := pl_ex h
  refine va_copyAll hx hb (hml.trans hl.1.symm) hown (hts (.methodLink RX2 46 arraycopyName) (List.mem_of_getElem? (i := 2) rfl)) (hts (.native arraycopyName) (List.mem_of_getElem? (i := 3) rfl)) (hts (.static arraycopyName) (List.mem_of_getElem? (i := 4) rfl)) (hts (.initialized "java/lang/System") (List.mem_of_getElem? (i := 5) rfl)) hK hP hD hS 17 7 0 rfl rfl rfl rfl (by decide) (by decide) (Nat.le_of_ble_eq_true rfl) (Nat.le_of_ble_eq_true rfl) dX2_copyFrom_97 (fun H locs hP hD hS => ?_)
  have hP : va_P g.1 vwCl (cSt g a st7 ++ (cSt g b so)) H := by rw [← est7]; exact hP
  have hD : va_D A (cSt g a st7 ++ (cSt g b so)) := by rw [← est7]; exact hD
  refine lv_aload_n hx hb dX2_copyFrom_100 rfl (lv_at hl 1 rfl) ?_
  refine va_get (D := g.1) (ci := 2) (v := .ref (b 8)) (C := RX2) (T := TX2) (N := 17) hx hb hts hinX2 hown hK hP 10 rfl rfl 7 (by decide) (hts (.fieldLink RX2 33 "BarredRungs$State" "ladders" "[I") (List.mem_of_getElem? (i := 12) rfl)) (fun _ h9 => h9) rfl dX2_copyFrom_101 ?_
  refine lv_iconst (v := 0) hx hb dX2_copyFrom_104 (by decide) ?_
  refine lv_aload_n hx hb dX2_copyFrom_105 rfl (lv_at hl 0 rfl) ?_
  refine va_get (D := g.1) (ci := 2) (v := .ref (a 8)) (C := RX2) (T := TX2) (N := 17) hx hb hts hinX2 hown hK hP 0 rfl rfl 7 (by decide) (hts (.fieldLink RX2 33 "BarredRungs$State" "ladders" "[I") (List.mem_of_getElem? (i := 12) rfl)) (fun _ h9 => h9) rfl dX2_copyFrom_106 ?_
  refine lv_iconst (v := 0) hx hb dX2_copyFrom_109 (by decide) ?_
  refine lv_iconst (v := 3) hx hb dX2_copyFrom_110 (by decide) ?_
  obtain ⟨st8, est8, h⟩ := pl_ex h
  refine va_copyAll hx hb (hml.trans hl.1.symm) hown (hts (.methodLink RX2 46 arraycopyName) (List.mem_of_getElem? (i := 2) rfl)) (hts (.native arraycopyName) (List.mem_of_getElem? (i := 3) rfl)) (hts (.static arraycopyName) (List.mem_of_getElem? (i := 4) rfl)) (hts (.initialized "java/lang/System") (List.mem_of_getElem? (i := 5) rfl)) hK hP hD hS 18 8 0 rfl rfl rfl rfl (by decide) (by decide) (Nat.le_of_ble_eq_true rfl) (Nat.le_of_ble_eq_true rfl) dX2_copyFrom_111 (fun H locs hP hD hS => ?_)
  have hP : va_P g.1 vwCl (cSt g a st8 ++ (cSt g b so)) H := by rw [← est8]; exact hP
  have hD : va_D A (cSt g a st8 ++ (cSt g b so)) := by rw [← est8]; exact hD
  refine lv_aload_n hx hb dX2_copyFrom_114 rfl (lv_at hl 1 rfl) ?_
  refine va_get (D := g.1) (ci := 2) (v := .ref (b 9)) (C := RX2) (T := TX2) (N := 17) hx hb hts hinX2 hown hK hP 10 rfl rfl 8 (by decide) (hts (.fieldLink RX2 36 "BarredRungs$State" "falls" "[I") (List.mem_of_getElem? (i := 13) rfl)) (fun _ h9 => h9) rfl dX2_copyFrom_115 ?_
  refine lv_iconst (v := 0) hx hb dX2_copyFrom_118 (by decide) ?_
  refine lv_aload_n hx hb dX2_copyFrom_119 rfl (lv_at hl 0 rfl) ?_
  refine va_get (D := g.1) (ci := 2) (v := .ref (a 9)) (C := RX2) (T := TX2) (N := 17) hx hb hts hinX2 hown hK hP 0 rfl rfl 8 (by decide) (hts (.fieldLink RX2 36 "BarredRungs$State" "falls" "[I") (List.mem_of_getElem? (i := 13) rfl)) (fun _ h9 => h9) rfl dX2_copyFrom_120 ?_
  refine lv_iconst (v := 0) hx hb dX2_copyFrom_123 (by decide) ?_
  refine lv_iconst (v := 3) hx hb dX2_copyFrom_124 (by decide) ?_
  obtain ⟨st9, est9, h⟩ := pl_ex h
  refine va_copyAll hx hb (hml.trans hl.1.symm) hown (hts (.methodLink RX2 46 arraycopyName) (List.mem_of_getElem? (i := 2) rfl)) (hts (.native arraycopyName) (List.mem_of_getElem? (i := 3) rfl)) (hts (.static arraycopyName) (List.mem_of_getElem? (i := 4) rfl)) (hts (.initialized "java/lang/System") (List.mem_of_getElem? (i := 5) rfl)) hK hP hD hS 19 9 0 rfl rfl rfl rfl (by decide) (by decide) (Nat.le_of_ble_eq_true rfl) (Nat.le_of_ble_eq_true rfl) dX2_copyFrom_125 (fun H locs hP hD hS => ?_)
  have hP : va_P g.1 vwCl (cSt g a st9 ++ (cSt g b so)) H := by rw [← est9]; exact hP
  have hD : va_D A (cSt g a st9 ++ (cSt g b so)) := by rw [← est9]; exact hD
  refine lv_aload_n hx hb dX2_copyFrom_128 rfl (lv_at hl 0 rfl) ?_
  refine lv_aload_n hx hb dX2_copyFrom_129 rfl (lv_at hl 1 rfl) ?_
  refine va_get (D := g.1) (ci := 2) (v := .int (St_words so)) (C := RX2) (T := TX2) (N := 17) hx hb hts hinX2 hown hK hP 10 rfl rfl 9 (by decide) (hts (.fieldLink RX2 52 "BarredRungs$State" "words" "I") (List.mem_of_getElem? (i := 14) rfl)) (fun _ h9 => h9) rfl dX2_copyFrom_130 ?_
  obtain ⟨st10, est10, h⟩ := pl_ex h
  refine va_put (D := g.1) (ci := 2) (v := .int (St_words so)) (ty := .int) (C := RX2) (T := TX2) (N := 17) hx hb hts hinX2 tyX2 tyX2_ok nmX2 hown hK hP hD hS 0 rfl rfl 9 (by decide) (hts (.fieldLink RX2 52 "BarredRungs$State" "words" "I") (List.mem_of_getElem? (i := 14) rfl)) (fun _ h9 => h9) rfl (by decide +kernel) rfl rfl (Nat.le_of_ble_eq_true rfl) dX2_copyFrom_133 (fun H locs hP hD hS => ?_)
  have hP : va_P g.1 vwCl (cSt g a st10 ++ (cSt g b so)) H := by rw [← est10]; exact hP
  have hD : va_D A (cSt g a st10 ++ (cSt g b so)) := by rw [← est10]; exact hD
  refine lv_aload_n hx hb dX2_copyFrom_136 rfl (lv_at hl 0 rfl) ?_
  refine lv_aload_n hx hb dX2_copyFrom_137 rfl (lv_at hl 1 rfl) ?_
  refine va_get (D := g.1) (ci := 2) (v := .int (St_place so)) (C := RX2) (T := TX2) (N := 17) hx hb hts hinX2 hown hK hP 10 rfl rfl 10 (by decide) (hts (.fieldLink RX2 55 "BarredRungs$State" "place" "I") (List.mem_of_getElem? (i := 15) rfl)) (fun _ h9 => h9) rfl dX2_copyFrom_138 ?_
  obtain ⟨st11, est11, h⟩ := pl_ex h
  refine va_put (D := g.1) (ci := 2) (v := .int (St_place so)) (ty := .int) (C := RX2) (T := TX2) (N := 17) hx hb hts hinX2 tyX2 tyX2_ok nmX2 hown hK hP hD hS 0 rfl rfl 10 (by decide) (hts (.fieldLink RX2 55 "BarredRungs$State" "place" "I") (List.mem_of_getElem? (i := 15) rfl)) (fun _ h9 => h9) rfl (by decide +kernel) rfl rfl (Nat.le_of_ble_eq_true rfl) dX2_copyFrom_141 (fun H locs hP hD hS => ?_)
  have hP : va_P g.1 vwCl (cSt g a st11 ++ (cSt g b so)) H := by rw [← est11]; exact hP
  have hD : va_D A (cSt g a st11 ++ (cSt g b so)) := by rw [← est11]; exact hD
  refine lv_aload_n hx hb dX2_copyFrom_144 rfl (lv_at hl 0 rfl) ?_
  refine lv_aload_n hx hb dX2_copyFrom_145 rfl (lv_at hl 1 rfl) ?_
  refine va_get (D := g.1) (ci := 2) (v := .int (St_letter so)) (C := RX2) (T := TX2) (N := 17) hx hb hts hinX2 hown hK hP 10 rfl rfl 11 (by decide) (hts (.fieldLink RX2 58 "BarredRungs$State" "letter" "I") (List.mem_of_getElem? (i := 16) rfl)) (fun _ h9 => h9) rfl dX2_copyFrom_146 ?_
  obtain ⟨st12, est12, h⟩ := pl_ex h
  refine va_put (D := g.1) (ci := 2) (v := .int (St_letter so)) (ty := .int) (C := RX2) (T := TX2) (N := 17) hx hb hts hinX2 tyX2 tyX2_ok nmX2 hown hK hP hD hS 0 rfl rfl 11 (by decide) (hts (.fieldLink RX2 58 "BarredRungs$State" "letter" "I") (List.mem_of_getElem? (i := 16) rfl)) (fun _ h9 => h9) rfl (by decide +kernel) rfl rfl (Nat.le_of_ble_eq_true rfl) dX2_copyFrom_149 (fun H locs hP hD hS => ?_)
  have hP : va_P g.1 vwCl (cSt g a st12 ++ (cSt g b so)) H := by rw [← est12]; exact hP
  have hD : va_D A (cSt g a st12 ++ (cSt g b so)) := by rw [← est12]; exact hD
  refine lv_aload_n hx hb dX2_copyFrom_152 rfl (lv_at hl 0 rfl) ?_
  refine lv_aload_n hx hb dX2_copyFrom_153 rfl (lv_at hl 1 rfl) ?_
  refine va_get (D := g.1) (ci := 2) (v := .int (St_letterStep so)) (C := RX2) (T := TX2) (N := 17) hx hb hts hinX2 hown hK hP 10 rfl rfl 12 (by decide) (hts (.fieldLink RX2 39 "BarredRungs$State" "letterStep" "I") (List.mem_of_getElem? (i := 17) rfl)) (fun _ h9 => h9) rfl dX2_copyFrom_154 ?_
  obtain ⟨st13, est13, h⟩ := pl_ex h
  refine va_put (D := g.1) (ci := 2) (v := .int (St_letterStep so)) (ty := .int) (C := RX2) (T := TX2) (N := 17) hx hb hts hinX2 tyX2 tyX2_ok nmX2 hown hK hP hD hS 0 rfl rfl 12 (by decide) (hts (.fieldLink RX2 39 "BarredRungs$State" "letterStep" "I") (List.mem_of_getElem? (i := 17) rfl)) (fun _ h9 => h9) rfl (by decide +kernel) rfl rfl (Nat.le_of_ble_eq_true rfl) dX2_copyFrom_157 (fun H locs hP hD hS => ?_)
  have hP : va_P g.1 vwCl (cSt g a st13 ++ (cSt g b so)) H := by rw [← est13]; exact hP
  have hD : va_D A (cSt g a st13 ++ (cSt g b so)) := by rw [← est13]; exact hD
  refine lv_aload_n hx hb dX2_copyFrom_160 rfl (lv_at hl 0 rfl) ?_
  refine lv_aload_n hx hb dX2_copyFrom_161 rfl (lv_at hl 1 rfl) ?_
  refine va_get (D := g.1) (ci := 2) (v := .int (St_nearness so)) (C := RX2) (T := TX2) (N := 17) hx hb hts hinX2 hown hK hP 10 rfl rfl 13 (by decide) (hts (.fieldLink RX2 43 "BarredRungs$State" "nearness" "I") (List.mem_of_getElem? (i := 18) rfl)) (fun _ h9 => h9) rfl dX2_copyFrom_162 ?_
  obtain ⟨st14, est14, h⟩ := pl_ex h
  refine va_put (D := g.1) (ci := 2) (v := .int (St_nearness so)) (ty := .int) (C := RX2) (T := TX2) (N := 17) hx hb hts hinX2 tyX2 tyX2_ok nmX2 hown hK hP hD hS 0 rfl rfl 13 (by decide) (hts (.fieldLink RX2 43 "BarredRungs$State" "nearness" "I") (List.mem_of_getElem? (i := 18) rfl)) (fun _ h9 => h9) rfl (by decide +kernel) rfl rfl (Nat.le_of_ble_eq_true rfl) dX2_copyFrom_165 (fun H locs hP hD hS => ?_)
  have hP : va_P g.1 vwCl (cSt g a st14 ++ (cSt g b so)) H := by rw [← est14]; exact hP
  have hD : va_D A (cSt g a st14 ++ (cSt g b so)) := by rw [← est14]; exact hD
  refine lv_aload_n hx hb dX2_copyFrom_168 rfl (lv_at hl 0 rfl) ?_
  refine lv_aload_n hx hb dX2_copyFrom_169 rfl (lv_at hl 1 rfl) ?_
  refine va_get (D := g.1) (ci := 2) (v := .int (St_turns so)) (C := RX2) (T := TX2) (N := 17) hx hb hts hinX2 hown hK hP 10 rfl rfl 14 (by decide) (hts (.fieldLink RX2 61 "BarredRungs$State" "turns" "I") (List.mem_of_getElem? (i := 19) rfl)) (fun _ h9 => h9) rfl dX2_copyFrom_170 ?_
  obtain ⟨st15, est15, h⟩ := pl_ex h
  refine va_put (D := g.1) (ci := 2) (v := .int (St_turns so)) (ty := .int) (C := RX2) (T := TX2) (N := 17) hx hb hts hinX2 tyX2 tyX2_ok nmX2 hown hK hP hD hS 0 rfl rfl 14 (by decide) (hts (.fieldLink RX2 61 "BarredRungs$State" "turns" "I") (List.mem_of_getElem? (i := 19) rfl)) (fun _ h9 => h9) rfl (by decide +kernel) rfl rfl (Nat.le_of_ble_eq_true rfl) dX2_copyFrom_173 (fun H locs hP hD hS => ?_)
  have hP : va_P g.1 vwCl (cSt g a st15 ++ (cSt g b so)) H := by rw [← est15]; exact hP
  have hD : va_D A (cSt g a st15 ++ (cSt g b so)) := by rw [← est15]; exact hD
  refine lv_aload_n hx hb dX2_copyFrom_176 rfl (lv_at hl 0 rfl) ?_
  refine lv_aload_n hx hb dX2_copyFrom_177 rfl (lv_at hl 1 rfl) ?_
  refine va_get (D := g.1) (ci := 2) (v := .int (St_climbs so)) (C := RX2) (T := TX2) (N := 17) hx hb hts hinX2 hown hK hP 10 rfl rfl 15 (by decide) (hts (.fieldLink RX2 64 "BarredRungs$State" "climbs" "I") (List.mem_of_getElem? (i := 20) rfl)) (fun _ h9 => h9) rfl dX2_copyFrom_178 ?_
  obtain ⟨st16, est16, h⟩ := pl_ex h
  refine va_put (D := g.1) (ci := 2) (v := .int (St_climbs so)) (ty := .int) (C := RX2) (T := TX2) (N := 17) hx hb hts hinX2 tyX2 tyX2_ok nmX2 hown hK hP hD hS 0 rfl rfl 15 (by decide) (hts (.fieldLink RX2 64 "BarredRungs$State" "climbs" "I") (List.mem_of_getElem? (i := 20) rfl)) (fun _ h9 => h9) rfl (by decide +kernel) rfl rfl (Nat.le_of_ble_eq_true rfl) dX2_copyFrom_181 (fun H locs hP hD hS => ?_)
  have hP : va_P g.1 vwCl (cSt g a st16 ++ (cSt g b so)) H := by rw [← est16]; exact hP
  have hD : va_D A (cSt g a st16 ++ (cSt g b so)) := by rw [← est16]; exact hD
  refine lv_aload_n hx hb dX2_copyFrom_184 rfl (lv_at hl 0 rfl) ?_
  refine lv_aload_n hx hb dX2_copyFrom_185 rfl (lv_at hl 1 rfl) ?_
  refine va_get (D := g.1) (ci := 2) (v := .int (St_ladderClimbs so)) (C := RX2) (T := TX2) (N := 17) hx hb hts hinX2 hown hK hP 10 rfl rfl 16 (by decide) (hts (.fieldLink RX2 67 "BarredRungs$State" "ladderClimbs" "I") (List.mem_of_getElem? (i := 21) rfl)) (fun _ h9 => h9) rfl dX2_copyFrom_186 ?_
  obtain ⟨st17, est17, h⟩ := pl_ex h
  refine va_put (D := g.1) (ci := 2) (v := .int (St_ladderClimbs so)) (ty := .int) (C := RX2) (T := TX2) (N := 17) hx hb hts hinX2 tyX2 tyX2_ok nmX2 hown hK hP hD hS 0 rfl rfl 16 (by decide) (hts (.fieldLink RX2 67 "BarredRungs$State" "ladderClimbs" "I") (List.mem_of_getElem? (i := 21) rfl)) (fun _ h9 => h9) rfl (by decide +kernel) rfl rfl (Nat.le_of_ble_eq_true rfl) dX2_copyFrom_189 (fun H locs hP hD hS => ?_)
  have hP : va_P g.1 vwCl (cSt g a st17 ++ (cSt g b so)) H := by rw [← est17]; exact hP
  have hD : va_D A (cSt g a st17 ++ (cSt g b so)) := by rw [← est17]; exact hD
  cases some_i h
  exact hend _ _ _ _ _ hP hD hS (RetOK.v dX2_copyFrom_192)
def fX5_has (p0 : Int32) (p1 : Int32) : Option (Int32) :=
(if p1 < (0 : Int32) then
(some (0 : Int32))
else
(if (24 : Int32) ≤ p1 then
(some (0 : Int32))
else
(if (((p0.toUInt32 >>> (p1.toUInt32 &&& Int32.toUInt32 31)).toInt32) &&& (1 : Int32)) = (0 : Int32) then
(some (0 : Int32))
else
(some (1 : Int32)))))
abbrev rX5_has : Room := { frames := 0, cells := 0, slots := 0, locals := 0 }
theorem hdX5_has : yX5_has.cls = RX5 ∧ yX5_has.cls ≠ "java/lang/invoke/MethodHandle" ∧ yX5_has.cls ≠ "java/lang/invoke/VarHandle" ∧ (parseMethodDescriptor yX5_has.desc).map (fun d => d.parameters.length) = some 2 := by decide +kernel
set_option maxRecDepth 100000 in
set_option maxHeartbeats 8000000 in
theorem kX5_has (l : Launch) (g : GG) {p0 : Int32} {p1 : Int32} {res : Int32} (h : fX5_has p0 p1 = some res) : Cg l g yX5_has wsX5_has rX5_has [.int p0, .int p1] [] (some (.int res)) [] := by
  refine Cg_of (cc := cX5_has) (maxL := 2) (ret := (some .boolean)) (by decide +kernel) rfl (Nat.le_of_ble_eq_true rfl) ?_
  intro p e su m args below meth c A Q ls hx hb hml hown hts hK hN hA hnm hP hD hS hl hend
  unfold fX5_has at h
  have hl : lv_has ls 2 [(0, .int p0), (1, .int p1)] := hl
  refine lv_iload_n hx hb dX5_has_0 rfl (lv_at hl 1 rfl) ?_
  refine lv_if_lt (tgt := 22) hx hb dX5_has_1 (by decide) (fun c1 => ?_) (fun c1 => ?_)
  · have h := if_t c1 h
    refine lv_iconst (v := 0) hx hb dX5_has_22 (by decide) ?_
    cases some_i h
    exact hend _ _ _ _ _ hP hD hS (RetOK.z dX5_has_23 (Or.inl rfl))
  · have h := if_f c1 h
    refine lv_iload_n hx hb dX5_has_4 rfl (lv_at hl 1 rfl) ?_
    refine lv_bipush (v := 24) hx hb dX5_has_5 (by decide) ?_
    refine lv_icmp_ge (tgt := 22) hx hb dX5_has_7 (by decide) (fun c2 => ?_) (fun c2 => ?_)
    · have h := if_t c2 h
      refine lv_iconst (v := 0) hx hb dX5_has_22 (by decide) ?_
      cases some_i h
      exact hend _ _ _ _ _ hP hD hS (RetOK.z dX5_has_23 (Or.inl rfl))
    · have h := if_f c2 h
      refine lv_iload_n hx hb dX5_has_10 rfl (lv_at hl 0 rfl) ?_
      refine lv_iload_n hx hb dX5_has_11 rfl (lv_at hl 1 rfl) ?_
      refine lv_iushr (v := ((p0.toUInt32 >>> (p1.toUInt32 &&& Int32.toUInt32 31)).toInt32)) hx hb dX5_has_12 rfl ?_
      refine lv_iconst (v := 1) hx hb dX5_has_13 (by decide) ?_
      refine lv_iand hx hb dX5_has_14 ?_
      refine lv_if_eq (tgt := 22) hx hb dX5_has_15 (by decide) (fun c3 => ?_) (fun c3 => ?_)
      · have h := if_t c3 h
        refine lv_iconst (v := 0) hx hb dX5_has_22 (by decide) ?_
        cases some_i h
        exact hend _ _ _ _ _ hP hD hS (RetOK.z dX5_has_23 (Or.inl rfl))
      · have h := if_f c3 h
        refine lv_iconst (v := 1) hx hb dX5_has_18 (by decide) ?_
        refine lv_goto (tgt := 23) hx hb dX5_has_19 (by decide) ?_
        cases some_i h
        exact hend _ _ _ _ _ hP hD hS (RetOK.z dX5_has_23 (Or.inr rfl))
def fX2_linksOfAll_L4 (st : St) (p1 : Int32) : Nat → Int32 → Int32 → Option (Int32)
  | 0, _, _ => none
  | n + 1, v2_1, v3_2 =>
    (if (24 : Int32) ≤ v3_2 then
    (some v2_1)
    else
    (if ((p1.toUInt32 >>> (v3_2.toUInt32 &&& Int32.toUInt32 31)).toInt32) = (0 : Int32) then
    (some v2_1)
    else
    (bd (fX5_has p1 v3_2) fun (r6 : Int32) =>
    (if r6 = (0 : Int32) then
    (pl ((v3_2 + (1 : Int32))) fun (x8 : Int32) =>
    (fX2_linksOfAll_L4 st p1 n v2_1 x8))
    else
    (ck (inb v3_2 24)
    (pl ((v2_1 ||| (St_links st v3_2.toNatClampNeg))) fun (x9 : Int32) =>
    (pl ((v3_2 + (1 : Int32))) fun (x10 : Int32) =>
    (fX2_linksOfAll_L4 st p1 n x9 x10))))))))
def fX2_linksOfAll (st : St) (p1 : Int32) : Option (Int32) :=
(bd (fX2_linksOfAll_L4 st p1 1000 (0 : Int32) (0 : Int32)) fun (v2_11 : Int32) =>
(some v2_11))
abbrev rX2_linksOfAll : Room := { frames := 1, cells := 0, slots := 0, locals := 21 }
theorem hdX2_linksOfAll : yX2_linksOfAll.cls = RX2 ∧ yX2_linksOfAll.cls ≠ "java/lang/invoke/MethodHandle" ∧ yX2_linksOfAll.cls ≠ "java/lang/invoke/VarHandle" ∧ (parseMethodDescriptor yX2_linksOfAll.desc).map (fun d => d.parameters.length) = some 1 := by decide +kernel
set_option maxRecDepth 100000 in
set_option maxHeartbeats 8000000 in
theorem kX2_linksOfAll (l : Launch) (g : GG) (a : Nat → Nat) {st : St} {p1 : Int32} {res : Int32} (h : fX2_linksOfAll st p1 = some res) : Cg l g yX2_linksOfAll wsX2_linksOfAll rX2_linksOfAll [.ref (a 0), .int p1] (cSt g a st) (some (.int res)) (cSt g a st) := by
  refine Cg_of (cc := cX2_linksOfAll) (maxL := 4) (ret := (some .int)) (by decide +kernel) rfl (Nat.le_of_ble_eq_true rfl) ?_
  intro p e su m args below meth c A Q ls hx hb hml hown hts hK hN hA hnm hP hD hS hl hend
  have hinX2 : ∀ w ∈ u_ws RX2 TX2 17, w ∈ wsX2_linksOfAll := fun _ h9 => List.mem_cons_of_mem _ (List.mem_append_right _ h9)
  unfold fX2_linksOfAll at h
  have hl : lv_has ls 4 [(0, .ref (a 0)), (1, .int p1)] := hl
  refine lv_iconst (v := 0) hx hb dX2_linksOfAll_0 (by decide) ?_
  refine lv_istore_n (lv' := [(2, .int (0 : Int32)), (0, .ref (a 0)), (1, .int p1)]) hx hb dX2_linksOfAll_1 rfl hl (by decide) rfl (fun ls hl => ?_)
  refine lv_iconst (v := 0) hx hb dX2_linksOfAll_2 (by decide) ?_
  refine lv_istore_n (lv' := [(3, .int (0 : Int32)), (2, .int (0 : Int32)), (0, .ref (a 0)), (1, .int p1)]) hx hb dX2_linksOfAll_3 rfl hl (by decide) rfl (fun ls hl => ?_)
  have L4 : ∀ (n : Nat) (v2_1 : Int32) (v3_2 : Int32) (y2_3 : Int32) (H : Heap) (locs : List Loc) (ls : Array Slot), fX2_linksOfAll_L4 st p1 n v2_1 v3_2 = some y2_3 → va_P g.1 vwCl (cSt g a st) H → va_D A (cSt g a st) → va_S A su.heap H locs → lv_has ls 4 [(0, .ref (a 0)), (1, .int p1), (2, .int v2_1), (3, .int v3_2)] → (∀ (H : Heap) (locs : List Loc) (ls : Array Slot), va_P g.1 vwCl (cSt g a st) H → va_D A (cSt g a st) → va_S A su.heap H locs → lv_has ls 4 [(2, .int y2_3)] → W p l e rX2_linksOfAll su m args below meth c H locs 0 0 Q (F0 m 39 ls [])) → W p l e rX2_linksOfAll su m args below meth c H locs 0 0 Q (F0 m 4 ls []) := by
    intro n
    induction n with
    | zero => intro v2_1 v3_2 y2_3 H locs ls h hP hD hS hl kx; cases h
    | succ n ih =>
      intro v2_1 v3_2 y2_3 H locs ls h hP hD hS hl kx
      rw [fX2_linksOfAll_L4] at h
      refine lv_iload_n hx hb dX2_linksOfAll_4 rfl (lv_at hl 3 rfl) ?_
      refine lv_bipush (v := 24) hx hb dX2_linksOfAll_5 (by decide) ?_
      refine lv_icmp_ge (tgt := 39) hx hb dX2_linksOfAll_7 (by decide) (fun c4 => ?_) (fun c4 => ?_)
      · have h := if_t c4 h
        cases some_i h
        exact kx _ _ _ hP hD hS (lv_sub hl [2] rfl)
      · have h := if_f c4 h
        refine lv_iload_n hx hb dX2_linksOfAll_10 rfl (lv_at hl 1 rfl) ?_
        refine lv_iload_n hx hb dX2_linksOfAll_11 rfl (lv_at hl 3 rfl) ?_
        refine lv_iushr (v := ((p1.toUInt32 >>> (v3_2.toUInt32 &&& Int32.toUInt32 31)).toInt32)) hx hb dX2_linksOfAll_12 rfl ?_
        refine lv_if_eq (tgt := 39) hx hb dX2_linksOfAll_13 (by decide) (fun c5 => ?_) (fun c5 => ?_)
        · have h := if_t c5 h
          cases some_i h
          exact kx _ _ _ hP hD hS (lv_sub hl [2] rfl)
        · have h := if_f c5 h
          refine lv_iload_n hx hb dX2_linksOfAll_16 rfl (lv_at hl 1 rfl) ?_
          refine lv_iload_n hx hb dX2_linksOfAll_17 rfl (lv_at hl 3 rfl) ?_
          obtain ⟨r6, kr6, h⟩ := bd_ex h
          refine aft_e (st1 := [.int r6]) rfl (runSN (As := [.int p1, .int v3_2]) (rest := []) ⟨hx, hb, hml, hown, hts⟩ (kX5_has l g kr6) ⟨va_cnB 2 hts gX2_linksOfAll_X5_has_n98 rfl rfl rfl (hN _ (List.mem_of_getElem? (i := 3) rfl)) (hts (.initialized RX5) (List.mem_of_getElem? (i := 3) rfl)) hdX5_has.2 ⟨Nat.le_of_ble_eq_true rfl, Nat.le_of_ble_eq_true rfl⟩, (hts (.static yX5_has) (List.mem_of_getElem? (i := 2) rfl)), trivial⟩ hK hN nilP (nilD (A := A)) rfl hl.1 rfl (Nat.le_of_ble_eq_true rfl) dX2_linksOfAll_18 ⟨Nat.zero_le _, Nat.zero_le _⟩) hP hS hA (fun H locs hP hS => ?_)
          refine lv_if_eq (tgt := 33) hx hb dX2_linksOfAll_21 (by decide) (fun c7 => ?_) (fun c7 => ?_)
          · have h := if_t c7 h
            obtain ⟨x8, ex8, h⟩ := pl_ex h
            refine lv_iinc (v := x8) (lv' := [(3, .int x8), (0, .ref (a 0)), (1, .int p1), (2, .int v2_1)]) hx hb dX2_linksOfAll_33 hl (k := 3) rfl (by rw [← ex8]; rfl) (by decide) rfl (fun ls hl => ?_)
            refine lv_goto (tgt := 4) hx hb dX2_linksOfAll_36 (by decide) ?_
            exact ih v2_1 x8 _ _ _ _ h hP hD hS (lv_sub hl [1, 2, 3, 0] rfl) kx
          · have h := if_f c7 h
            refine lv_iload_n hx hb dX2_linksOfAll_24 rfl (lv_at hl 2 rfl) ?_
            refine lv_aload_n hx hb dX2_linksOfAll_25 rfl (lv_at hl 0 rfl) ?_
            refine va_get (D := g.1) (ci := 2) (v := .ref (a 2)) (C := RX2) (T := TX2) (N := 17) hx hb hts hinX2 hown hK hP 0 rfl rfl 1 (by decide) (hts (.fieldLink RX2 15 "BarredRungs$State" "links" "[I") (List.mem_of_getElem? (i := 1) rfl)) (fun _ h9 => h9) rfl dX2_linksOfAll_26 ?_
            refine lv_iload_n hx hb dX2_linksOfAll_29 rfl (lv_at hl 3 rfl) ?_
            obtain ⟨hi9, h⟩ := ck_ex h
            refine va_iald hx hb hK hP 2 0 rfl rfl (inb_in hi9) dX2_linksOfAll_30 ?_
            refine lv_ior hx hb dX2_linksOfAll_31 ?_
            obtain ⟨x9, ex9, h⟩ := pl_ex h
            refine lv_eqi ex9 ?_
            refine lv_istore_n (lv' := [(2, .int x9), (0, .ref (a 0)), (1, .int p1), (3, .int v3_2)]) hx hb dX2_linksOfAll_32 rfl hl (by decide) rfl (fun ls hl => ?_)
            obtain ⟨x10, ex10, h⟩ := pl_ex h
            refine lv_iinc (v := x10) (lv' := [(3, .int x10), (2, .int x9), (0, .ref (a 0)), (1, .int p1)]) hx hb dX2_linksOfAll_33 hl (k := 3) rfl (by rw [← ex10]; rfl) (by decide) rfl (fun ls hl => ?_)
            refine lv_goto (tgt := 4) hx hb dX2_linksOfAll_36 (by decide) ?_
            exact ih x9 x10 _ _ _ _ h hP hD hS (lv_sub hl [2, 3, 1, 0] rfl) kx
  obtain ⟨v2_11, kv2_11, h⟩ := bd_ex h
  refine L4 1000 (0 : Int32) (0 : Int32) v2_11 _ _ _ kv2_11 hP hD hS (lv_sub hl [2, 3, 1, 0] rfl) (fun H locs ls hP hD hS hl => ?_)
  refine lv_iload_n hx hb dX2_linksOfAll_39 rfl (lv_at hl 0 rfl) ?_
  cases some_i h
  exact hend _ _ _ _ _ hP hD hS (RetOK.i dX2_linksOfAll_40)
def fX2_hasWord (st : St) (p1 : Int32) : Option (Int32) :=
(if p1 < (0 : Int32) then
(some (0 : Int32))
else
(if (St_words st) ≤ p1 then
(some (0 : Int32))
else
(if (24 : Int32) ≤ p1 then
(some (0 : Int32))
else
(some (1 : Int32)))))
abbrev rX2_hasWord : Room := { frames := 0, cells := 0, slots := 0, locals := 0 }
theorem hdX2_hasWord : yX2_hasWord.cls = RX2 ∧ yX2_hasWord.cls ≠ "java/lang/invoke/MethodHandle" ∧ yX2_hasWord.cls ≠ "java/lang/invoke/VarHandle" ∧ (parseMethodDescriptor yX2_hasWord.desc).map (fun d => d.parameters.length) = some 1 := by decide +kernel
set_option maxRecDepth 100000 in
set_option maxHeartbeats 8000000 in
theorem kX2_hasWord (l : Launch) (g : GG) (a : Nat → Nat) {st : St} {p1 : Int32} {res : Int32} (h : fX2_hasWord st p1 = some res) : Cg l g yX2_hasWord wsX2_hasWord rX2_hasWord [.ref (a 0), .int p1] (cSt g a st) (some (.int res)) (cSt g a st) := by
  refine Cg_of (cc := cX2_hasWord) (maxL := 2) (ret := (some .boolean)) (by decide +kernel) rfl (Nat.le_of_ble_eq_true rfl) ?_
  intro p e su m args below meth c A Q ls hx hb hml hown hts hK hN hA hnm hP hD hS hl hend
  have hinX2 : ∀ w ∈ u_ws RX2 TX2 17, w ∈ wsX2_hasWord := fun _ h9 => List.mem_cons_of_mem _ (List.mem_append_right _ h9)
  unfold fX2_hasWord at h
  have hl : lv_has ls 2 [(0, .ref (a 0)), (1, .int p1)] := hl
  refine lv_iload_n hx hb dX2_hasWord_0 rfl (lv_at hl 1 rfl) ?_
  refine lv_if_lt (tgt := 22) hx hb dX2_hasWord_1 (by decide) (fun c1 => ?_) (fun c1 => ?_)
  · have h := if_t c1 h
    refine lv_iconst (v := 0) hx hb dX2_hasWord_22 (by decide) ?_
    cases some_i h
    exact hend _ _ _ _ _ hP hD hS (RetOK.z dX2_hasWord_23 (Or.inl rfl))
  · have h := if_f c1 h
    refine lv_iload_n hx hb dX2_hasWord_4 rfl (lv_at hl 1 rfl) ?_
    refine lv_aload_n hx hb dX2_hasWord_5 rfl (lv_at hl 0 rfl) ?_
    refine va_get (D := g.1) (ci := 2) (v := .int (St_words st)) (C := RX2) (T := TX2) (N := 17) hx hb hts hinX2 hown hK hP 0 rfl rfl 9 (by decide) (hts (.fieldLink RX2 52 "BarredRungs$State" "words" "I") (List.mem_of_getElem? (i := 1) rfl)) (fun _ h9 => h9) rfl dX2_hasWord_6 ?_
    refine lv_icmp_ge (tgt := 22) hx hb dX2_hasWord_9 (by decide) (fun c2 => ?_) (fun c2 => ?_)
    · have h := if_t c2 h
      refine lv_iconst (v := 0) hx hb dX2_hasWord_22 (by decide) ?_
      cases some_i h
      exact hend _ _ _ _ _ hP hD hS (RetOK.z dX2_hasWord_23 (Or.inl rfl))
    · have h := if_f c2 h
      refine lv_iload_n hx hb dX2_hasWord_12 rfl (lv_at hl 1 rfl) ?_
      refine lv_bipush (v := 24) hx hb dX2_hasWord_13 (by decide) ?_
      refine lv_icmp_ge (tgt := 22) hx hb dX2_hasWord_15 (by decide) (fun c3 => ?_) (fun c3 => ?_)
      · have h := if_t c3 h
        refine lv_iconst (v := 0) hx hb dX2_hasWord_22 (by decide) ?_
        cases some_i h
        exact hend _ _ _ _ _ hP hD hS (RetOK.z dX2_hasWord_23 (Or.inl rfl))
      · have h := if_f c3 h
        refine lv_iconst (v := 1) hx hb dX2_hasWord_18 (by decide) ?_
        refine lv_goto (tgt := 23) hx hb dX2_hasWord_19 (by decide) ?_
        cases some_i h
        exact hend _ _ _ _ _ hP hD hS (RetOK.z dX2_hasWord_23 (Or.inr rfl))
def fX2_linksOf (st : St) (p1 : Int32) : Option (Int32) :=
(bd (fX2_hasWord st p1) fun (r1 : Int32) =>
(if r1 = (0 : Int32) then
(some (0 : Int32))
else
(ck (inb p1 24)
(some (St_links st p1.toNatClampNeg)))))
abbrev rX2_linksOf : Room := { frames := 1, cells := 0, slots := 0, locals := 21 }
theorem hdX2_linksOf : yX2_linksOf.cls = RX2 ∧ yX2_linksOf.cls ≠ "java/lang/invoke/MethodHandle" ∧ yX2_linksOf.cls ≠ "java/lang/invoke/VarHandle" ∧ (parseMethodDescriptor yX2_linksOf.desc).map (fun d => d.parameters.length) = some 1 := by decide +kernel
set_option maxRecDepth 100000 in
set_option maxHeartbeats 8000000 in
theorem kX2_linksOf (l : Launch) (g : GG) (a : Nat → Nat) {st : St} {p1 : Int32} {res : Int32} (h : fX2_linksOf st p1 = some res) : Cg l g yX2_linksOf wsX2_linksOf rX2_linksOf [.ref (a 0), .int p1] (cSt g a st) (some (.int res)) (cSt g a st) := by
  refine Cg_of (cc := cX2_linksOf) (maxL := 2) (ret := (some .int)) (by decide +kernel) rfl (Nat.le_of_ble_eq_true rfl) ?_
  intro p e su m args below meth c A Q ls hx hb hml hown hts hK hN hA hnm hP hD hS hl hend
  have hinX2 : ∀ w ∈ u_ws RX2 TX2 17, w ∈ wsX2_linksOf := fun _ h9 => List.mem_cons_of_mem _ (List.mem_append_right _ h9)
  unfold fX2_linksOf at h
  have hl : lv_has ls 2 [(0, .ref (a 0)), (1, .int p1)] := hl
  refine lv_aload_n hx hb dX2_linksOf_0 rfl (lv_at hl 0 rfl) ?_
  refine lv_iload_n hx hb dX2_linksOf_1 rfl (lv_at hl 1 rfl) ?_
  obtain ⟨r1, kr1, h⟩ := bd_ex h
  refine aft_w (st1 := [.int r1]) rfl (runV (As := [.int p1]) (rest := []) ⟨hx, hb, hml, hown, hts⟩ (kX2_hasWord l g a kr1) (cwV 1 hts gX2_linksOf_X2_hasWord rfl rfl rfl hdX2_hasWord ⟨Nat.le_of_ble_eq_true rfl, Nat.le_of_ble_eq_true rfl⟩) hK hN hP hD (va_recv hK hP (ci := 2) (q0 := 0) rfl rfl) rfl hl.1 rfl (Nat.le_of_ble_eq_true rfl) dX2_linksOf_2 ⟨Nat.zero_le _, Nat.zero_le _⟩) hD hS hA (fun H locs hP hD hS => ?_)
  refine lv_if_eq (tgt := 17) hx hb dX2_linksOf_5 (by decide) (fun c2 => ?_) (fun c2 => ?_)
  · have h := if_t c2 h
    refine lv_iconst (v := 0) hx hb dX2_linksOf_17 (by decide) ?_
    cases some_i h
    exact hend _ _ _ _ _ hP hD hS (RetOK.i dX2_linksOf_18)
  · have h := if_f c2 h
    refine lv_aload_n hx hb dX2_linksOf_8 rfl (lv_at hl 0 rfl) ?_
    refine va_get (D := g.1) (ci := 2) (v := .ref (a 2)) (C := RX2) (T := TX2) (N := 17) hx hb hts hinX2 hown hK hP 0 rfl rfl 1 (by decide) (hts (.fieldLink RX2 15 "BarredRungs$State" "links" "[I") (List.mem_of_getElem? (i := 1) rfl)) (fun _ h9 => h9) rfl dX2_linksOf_9 ?_
    refine lv_iload_n hx hb dX2_linksOf_12 rfl (lv_at hl 1 rfl) ?_
    obtain ⟨hi9, h⟩ := ck_ex h
    refine va_iald hx hb hK hP 2 0 rfl rfl (inb_in hi9) dX2_linksOf_13 ?_
    refine lv_goto (tgt := 18) hx hb dX2_linksOf_14 (by decide) ?_
    cases some_i h
    exact hend _ _ _ _ _ hP hD hS (RetOK.i dX2_linksOf_18)
def fX2_letterIn (p0 : Int32) (p1 : Int32) : Option (Int32) :=
(some ((p0 >>> (((3 : Int32) * ((3 : Int32) - p1)) &&& 31)) &&& (7 : Int32)))
abbrev rX2_letterIn : Room := { frames := 0, cells := 0, slots := 0, locals := 0 }
theorem hdX2_letterIn : yX2_letterIn.cls = RX2 ∧ yX2_letterIn.cls ≠ "java/lang/invoke/MethodHandle" ∧ yX2_letterIn.cls ≠ "java/lang/invoke/VarHandle" ∧ (parseMethodDescriptor yX2_letterIn.desc).map (fun d => d.parameters.length) = some 2 := by decide +kernel
set_option maxRecDepth 100000 in
set_option maxHeartbeats 8000000 in
theorem kX2_letterIn (l : Launch) (g : GG) {p0 : Int32} {p1 : Int32} {res : Int32} (h : fX2_letterIn p0 p1 = some res) : Cg l g yX2_letterIn wsX2_letterIn rX2_letterIn [.int p0, .int p1] [] (some (.int res)) [] := by
  refine Cg_of (cc := cX2_letterIn) (maxL := 2) (ret := (some .int)) (by decide +kernel) rfl (Nat.le_of_ble_eq_true rfl) ?_
  intro p e su m args below meth c A Q ls hx hb hml hown hts hK hN hA hnm hP hD hS hl hend
  unfold fX2_letterIn at h
  have hl : lv_has ls 2 [(0, .int p0), (1, .int p1)] := hl
  refine lv_iload_n hx hb dX2_letterIn_0 rfl (lv_at hl 0 rfl) ?_
  refine lv_iconst (v := 3) hx hb dX2_letterIn_1 (by decide) ?_
  refine lv_iconst (v := 3) hx hb dX2_letterIn_2 (by decide) ?_
  refine lv_iload_n hx hb dX2_letterIn_3 rfl (lv_at hl 1 rfl) ?_
  refine lv_isub hx hb dX2_letterIn_4 ?_
  refine lv_imul hx hb dX2_letterIn_5 ?_
  refine lv_ishr hx hb dX2_letterIn_6 ?_
  refine lv_bipush (v := 7) hx hb dX2_letterIn_7 (by decide) ?_
  refine lv_iand hx hb dX2_letterIn_9 ?_
  cases some_i h
  exact hend _ _ _ _ _ hP hD hS (RetOK.i dX2_letterIn_10)
def fX2_letterAt (st : St) (p1 : Int32) (p2 : Int32) : Option (Int32) :=
(bd (fX2_hasWord st p1) fun (r1 : Int32) =>
(if r1 = (0 : Int32) then
(some (-1 : Int32))
else
(if p2 < (0 : Int32) then
(some (-1 : Int32))
else
(if p2 < (4 : Int32) then
(ck (inb p1 24)
(bd (fX2_letterIn (St_codes st p1.toNatClampNeg) p2) fun (r5 : Int32) =>
(some r5)))
else
(some (-1 : Int32))))))
abbrev rX2_letterAt : Room := { frames := 1, cells := 0, slots := 0, locals := 21 }
theorem hdX2_letterAt : yX2_letterAt.cls = RX2 ∧ yX2_letterAt.cls ≠ "java/lang/invoke/MethodHandle" ∧ yX2_letterAt.cls ≠ "java/lang/invoke/VarHandle" ∧ (parseMethodDescriptor yX2_letterAt.desc).map (fun d => d.parameters.length) = some 2 := by decide +kernel
set_option maxRecDepth 100000 in
set_option maxHeartbeats 8000000 in
theorem kX2_letterAt (l : Launch) (g : GG) (a : Nat → Nat) {st : St} {p1 : Int32} {p2 : Int32} {res : Int32} (h : fX2_letterAt st p1 p2 = some res) : Cg l g yX2_letterAt wsX2_letterAt rX2_letterAt [.ref (a 0), .int p1, .int p2] (cSt g a st) (some (.int res)) (cSt g a st) := by
  refine Cg_of (cc := cX2_letterAt) (maxL := 3) (ret := (some .int)) (by decide +kernel) rfl (Nat.le_of_ble_eq_true rfl) ?_
  intro p e su m args below meth c A Q ls hx hb hml hown hts hK hN hA hnm hP hD hS hl hend
  have hinX2 : ∀ w ∈ u_ws RX2 TX2 17, w ∈ wsX2_letterAt := fun _ h9 => List.mem_cons_of_mem _ (List.mem_append_right _ h9)
  unfold fX2_letterAt at h
  have hl : lv_has ls 3 [(0, .ref (a 0)), (1, .int p1), (2, .int p2)] := hl
  refine lv_aload_n hx hb dX2_letterAt_0 rfl (lv_at hl 0 rfl) ?_
  refine lv_iload_n hx hb dX2_letterAt_1 rfl (lv_at hl 1 rfl) ?_
  obtain ⟨r1, kr1, h⟩ := bd_ex h
  refine aft_w (st1 := [.int r1]) rfl (runV (As := [.int p1]) (rest := []) ⟨hx, hb, hml, hown, hts⟩ (kX2_hasWord l g a kr1) (cwV 1 hts gX2_letterAt_X2_hasWord rfl rfl rfl hdX2_hasWord ⟨Nat.le_of_ble_eq_true rfl, Nat.le_of_ble_eq_true rfl⟩) hK hN hP hD (va_recv hK hP (ci := 2) (q0 := 0) rfl rfl) rfl hl.1 rfl (Nat.le_of_ble_eq_true rfl) dX2_letterAt_2 ⟨Nat.zero_le _, Nat.zero_le _⟩) hD hS hA (fun H locs hP hD hS => ?_)
  refine lv_if_eq (tgt := 17) hx hb dX2_letterAt_5 (by decide) (fun c2 => ?_) (fun c2 => ?_)
  · have h := if_t c2 h
    refine lv_iconst (v := -1) hx hb dX2_letterAt_17 (by decide) ?_
    cases some_i h
    exact hend _ _ _ _ _ hP hD hS (RetOK.i dX2_letterAt_18)
  · have h := if_f c2 h
    refine lv_iload_n hx hb dX2_letterAt_8 rfl (lv_at hl 2 rfl) ?_
    refine lv_if_lt (tgt := 17) hx hb dX2_letterAt_9 (by decide) (fun c3 => ?_) (fun c3 => ?_)
    · have h := if_t c3 h
      refine lv_iconst (v := -1) hx hb dX2_letterAt_17 (by decide) ?_
      cases some_i h
      exact hend _ _ _ _ _ hP hD hS (RetOK.i dX2_letterAt_18)
    · have h := if_f c3 h
      refine lv_iload_n hx hb dX2_letterAt_12 rfl (lv_at hl 2 rfl) ?_
      refine lv_iconst (v := 4) hx hb dX2_letterAt_13 (by decide) ?_
      refine lv_icmp_lt (tgt := 19) hx hb dX2_letterAt_14 (by decide) (fun c4 => ?_) (fun c4 => ?_)
      · have h := if_t c4 h
        refine lv_aload_n hx hb dX2_letterAt_19 rfl (lv_at hl 0 rfl) ?_
        refine va_get (D := g.1) (ci := 2) (v := .ref (a 1)) (C := RX2) (T := TX2) (N := 17) hx hb hts hinX2 hown hK hP 0 rfl rfl 0 (by decide) (hts (.fieldLink RX2 9 "BarredRungs$State" "codes" "[I") (List.mem_of_getElem? (i := 1) rfl)) (fun _ h9 => h9) rfl dX2_letterAt_20 ?_
        refine lv_iload_n hx hb dX2_letterAt_23 rfl (lv_at hl 1 rfl) ?_
        obtain ⟨hi9, h⟩ := ck_ex h
        refine va_iald hx hb hK hP 1 0 rfl rfl (inb_in hi9) dX2_letterAt_24 ?_
        refine lv_iload_n hx hb dX2_letterAt_25 rfl (lv_at hl 2 rfl) ?_
        obtain ⟨r5, kr5, h⟩ := bd_ex h
        refine aft_e (st1 := [.int r5]) rfl (runS (As := [.int (St_codes st p1.toNatClampNeg), .int p2]) (rest := []) ⟨hx, hb, hml, hown, hts⟩ (kX2_letterIn l g kr5) (va_cwS 2 hts gX2_letterAt_X2_letterIn rfl rfl rfl hdX2_letterIn.2 ⟨Nat.le_of_ble_eq_true rfl, Nat.le_of_ble_eq_true rfl⟩) hK hN nilP (nilD (A := A)) rfl hl.1 rfl (Nat.le_of_ble_eq_true rfl) dX2_letterAt_26 ⟨Nat.zero_le _, Nat.zero_le _⟩) hP hS hA (fun H locs hP hS => ?_)
        cases some_i h
        exact hend _ _ _ _ _ hP hD hS (RetOK.i dX2_letterAt_29)
      · have h := if_f c4 h
        refine lv_iconst (v := -1) hx hb dX2_letterAt_17 (by decide) ?_
        cases some_i h
        exact hend _ _ _ _ _ hP hD hS (RetOK.i dX2_letterAt_18)
def fX2_areLinked_L23 (st : St) (p1 : Int32) (p2 : Int32) : Nat → Int32 → Int32 → Option (Int32)
  | 0, _, _ => none
  | n + 1, v3_5, v4_6 =>
    (if (4 : Int32) ≤ v4_6 then
    (if v3_5 = (1 : Int32) then
    (some (1 : Int32))
    else
    (some (0 : Int32)))
    else
    (bd (fX2_letterAt st p1 v4_6) fun (r9 : Int32) =>
    (bd (fX2_letterAt st p2 v4_6) fun (r10 : Int32) =>
    (pl ((if (0 : Int32) ≤ (r9 - r10) then (r9 - r10) else (0 : Int32) - (r9 - r10))) fun (x11 : Int32) =>
    (if x11 ≤ (St_nearness st) then
    (if x11 = (0 : Int32) then
    (pl ((v4_6 + (1 : Int32))) fun (x14 : Int32) =>
    (fX2_areLinked_L23 st p1 p2 n v3_5 x14))
    else
    (pl ((v3_5 + (1 : Int32))) fun (x15 : Int32) =>
    (pl ((v4_6 + (1 : Int32))) fun (x16 : Int32) =>
    (fX2_areLinked_L23 st p1 p2 n x15 x16))))
    else
    (some (0 : Int32)))))))
def fX2_areLinked (st : St) (p1 : Int32) (p2 : Int32) : Option (Int32) :=
(bd (fX2_hasWord st p1) fun (r1 : Int32) =>
(if r1 = (0 : Int32) then
(some (0 : Int32))
else
(bd (fX2_hasWord st p2) fun (r3 : Int32) =>
(if r3 = (0 : Int32) then
(some (0 : Int32))
else
(fX2_areLinked_L23 st p1 p2 1000 (0 : Int32) (0 : Int32))))))
abbrev rX2_areLinked : Room := { frames := 2, cells := 0, slots := 0, locals := 43 }
theorem hdX2_areLinked : yX2_areLinked.cls = RX2 ∧ yX2_areLinked.cls ≠ "java/lang/invoke/MethodHandle" ∧ yX2_areLinked.cls ≠ "java/lang/invoke/VarHandle" ∧ (parseMethodDescriptor yX2_areLinked.desc).map (fun d => d.parameters.length) = some 2 := by decide +kernel
set_option maxRecDepth 100000 in
set_option maxHeartbeats 8000000 in
theorem kX2_areLinked (l : Launch) (g : GG) (a : Nat → Nat) {st : St} {p1 : Int32} {p2 : Int32} {res : Int32} (h : fX2_areLinked st p1 p2 = some res) : Cg l g yX2_areLinked wsX2_areLinked rX2_areLinked [.ref (a 0), .int p1, .int p2] (cSt g a st) (some (.int res)) (cSt g a st) := by
  refine Cg_of (cc := cX2_areLinked) (maxL := 6) (ret := (some .boolean)) (by decide +kernel) rfl (Nat.le_of_ble_eq_true rfl) ?_
  intro p e su m args below meth c A Q ls hx hb hml hown hts hK hN hA hnm hP hD hS hl hend
  have hinX2 : ∀ w ∈ u_ws RX2 TX2 17, w ∈ wsX2_areLinked := fun _ h9 => List.mem_cons_of_mem _ (List.mem_append_right _ h9)
  unfold fX2_areLinked at h
  have hl : lv_has ls 6 [(0, .ref (a 0)), (1, .int p1), (2, .int p2)] := hl
  refine lv_aload_n hx hb dX2_areLinked_0 rfl (lv_at hl 0 rfl) ?_
  refine lv_iload_n hx hb dX2_areLinked_1 rfl (lv_at hl 1 rfl) ?_
  obtain ⟨r1, kr1, h⟩ := bd_ex h
  refine aft_w (st1 := [.int r1]) rfl (runV (As := [.int p1]) (rest := []) ⟨hx, hb, hml, hown, hts⟩ (kX2_hasWord l g a kr1) (cwV 1 hts gX2_areLinked_X2_hasWord rfl rfl rfl hdX2_hasWord ⟨Nat.le_of_ble_eq_true rfl, Nat.le_of_ble_eq_true rfl⟩) hK hN hP hD (va_recv hK hP (ci := 2) (q0 := 0) rfl rfl) rfl hl.1 rfl (Nat.le_of_ble_eq_true rfl) dX2_areLinked_2 ⟨Nat.zero_le _, Nat.zero_le _⟩) hD hS hA (fun H locs hP hD hS => ?_)
  refine lv_if_eq (tgt := 16) hx hb dX2_areLinked_5 (by decide) (fun c2 => ?_) (fun c2 => ?_)
  · have h := if_t c2 h
    refine lv_iconst (v := 0) hx hb dX2_areLinked_16 (by decide) ?_
    cases some_i h
    exact hend _ _ _ _ _ hP hD hS (RetOK.z dX2_areLinked_17 (Or.inl rfl))
  · have h := if_f c2 h
    refine lv_aload_n hx hb dX2_areLinked_8 rfl (lv_at hl 0 rfl) ?_
    refine lv_iload_n hx hb dX2_areLinked_9 rfl (lv_at hl 2 rfl) ?_
    obtain ⟨r3, kr3, h⟩ := bd_ex h
    refine aft_w (st1 := [.int r3]) rfl (runV (As := [.int p2]) (rest := []) ⟨hx, hb, hml, hown, hts⟩ (kX2_hasWord l g a kr3) (cwV 1 hts gX2_areLinked_X2_hasWord rfl rfl rfl hdX2_hasWord ⟨Nat.le_of_ble_eq_true rfl, Nat.le_of_ble_eq_true rfl⟩) hK hN hP hD (va_recv hK hP (ci := 2) (q0 := 0) rfl rfl) rfl hl.1 rfl (Nat.le_of_ble_eq_true rfl) dX2_areLinked_10 ⟨Nat.zero_le _, Nat.zero_le _⟩) hD hS hA (fun H locs hP hD hS => ?_)
    refine lv_if_ne (tgt := 18) hx hb dX2_areLinked_13 (by decide) (fun c4 => ?_) (fun c4 => ?_)
    · have h := if_f c4 h
      refine lv_iconst (v := 0) hx hb dX2_areLinked_18 (by decide) ?_
      refine lv_istore_n (lv' := [(3, .int (0 : Int32)), (0, .ref (a 0)), (1, .int p1), (2, .int p2)]) hx hb dX2_areLinked_19 rfl hl (by decide) rfl (fun ls hl => ?_)
      refine lv_iconst (v := 0) hx hb dX2_areLinked_20 (by decide) ?_
      refine lv_istore (lv' := [(4, .int (0 : Int32)), (3, .int (0 : Int32)), (0, .ref (a 0)), (1, .int p1), (2, .int p2)]) hx hb dX2_areLinked_21 hl (by decide) rfl (fun ls hl => ?_)
      have L23 : ∀ (n : Nat) (v3_5 : Int32) (v4_6 : Int32) (H : Heap) (locs : List Loc) (ls : Array Slot), fX2_areLinked_L23 st p1 p2 n v3_5 v4_6 = some res → va_P g.1 vwCl (cSt g a st) H → va_D A (cSt g a st) → va_S A su.heap H locs → lv_has ls 6 [(0, .ref (a 0)), (1, .int p1), (2, .int p2), (3, .int v3_5), (4, .int v4_6)] → W p l e rX2_areLinked su m args below meth c H locs 0 0 Q (F0 m 23 ls []) := by
        intro n
        induction n with
        | zero => intro v3_5 v4_6 H locs ls h hP hD hS hl; cases h
        | succ n ih =>
          intro v3_5 v4_6 H locs ls h hP hD hS hl
          rw [fX2_areLinked_L23] at h
          refine lv_iload hx hb dX2_areLinked_23 (lv_at hl 4 rfl) ?_
          refine lv_iconst (v := 4) hx hb dX2_areLinked_25 (by decide) ?_
          refine lv_icmp_ge (tgt := 74) hx hb dX2_areLinked_26 (by decide) (fun c7 => ?_) (fun c7 => ?_)
          · have h := if_t c7 h
            refine lv_iload_n hx hb dX2_areLinked_74 rfl (lv_at hl 3 rfl) ?_
            refine lv_iconst (v := 1) hx hb dX2_areLinked_75 (by decide) ?_
            refine lv_icmp_ne (tgt := 83) hx hb dX2_areLinked_76 (by decide) (fun c8 => ?_) (fun c8 => ?_)
            · have h := if_f c8 h
              refine lv_iconst (v := 0) hx hb dX2_areLinked_83 (by decide) ?_
              cases some_i h
              exact hend _ _ _ _ _ hP hD hS (RetOK.z dX2_areLinked_84 (Or.inl rfl))
            · have h := if_t c8 h
              refine lv_iconst (v := 1) hx hb dX2_areLinked_79 (by decide) ?_
              refine lv_goto (tgt := 84) hx hb dX2_areLinked_80 (by decide) ?_
              cases some_i h
              exact hend _ _ _ _ _ hP hD hS (RetOK.z dX2_areLinked_84 (Or.inr rfl))
          · have h := if_f c7 h
            refine lv_aload_n hx hb dX2_areLinked_29 rfl (lv_at hl 0 rfl) ?_
            refine lv_iload_n hx hb dX2_areLinked_30 rfl (lv_at hl 1 rfl) ?_
            refine lv_iload hx hb dX2_areLinked_31 (lv_at hl 4 rfl) ?_
            obtain ⟨r9, kr9, h⟩ := bd_ex h
            refine aft_w (st1 := [.int r9]) rfl (runV (As := [.int p1, .int v4_6]) (rest := []) ⟨hx, hb, hml, hown, hts⟩ (kX2_letterAt l g a kr9) (cwV 2 hts gX2_areLinked_X2_letterAt rfl rfl rfl hdX2_letterAt ⟨Nat.le_of_ble_eq_true rfl, Nat.le_of_ble_eq_true rfl⟩) hK hN hP hD (va_recv hK hP (ci := 2) (q0 := 0) rfl rfl) rfl hl.1 rfl (Nat.le_of_ble_eq_true rfl) dX2_areLinked_33 ⟨Nat.zero_le _, Nat.zero_le _⟩) hD hS hA (fun H locs hP hD hS => ?_)
            refine lv_aload_n hx hb dX2_areLinked_36 rfl (lv_at hl 0 rfl) ?_
            refine lv_iload_n hx hb dX2_areLinked_37 rfl (lv_at hl 2 rfl) ?_
            refine lv_iload hx hb dX2_areLinked_38 (lv_at hl 4 rfl) ?_
            obtain ⟨r10, kr10, h⟩ := bd_ex h
            refine aft_w (st1 := [.int r10, .int r9]) rfl (runV (As := [.int p2, .int v4_6]) (rest := [.int r9]) ⟨hx, hb, hml, hown, hts⟩ (kX2_letterAt l g a kr10) (cwV 2 hts gX2_areLinked_X2_letterAt rfl rfl rfl hdX2_letterAt ⟨Nat.le_of_ble_eq_true rfl, Nat.le_of_ble_eq_true rfl⟩) hK hN hP hD (va_recv hK hP (ci := 2) (q0 := 0) rfl rfl) rfl hl.1 rfl (Nat.le_of_ble_eq_true rfl) dX2_areLinked_40 ⟨Nat.zero_le _, Nat.zero_le _⟩) hD hS hA (fun H locs hP hD hS => ?_)
            refine lv_isub hx hb dX2_areLinked_43 ?_
            refine va_mabs hx hb (hml.trans hl.1.symm) hown (hts (.methodLink RX2 90 Lib.Math.abs.name) (List.mem_of_getElem? (i := 1) rfl)) (hts (.static Lib.Math.abs.name) (List.mem_of_getElem? (i := 2) rfl)) (hts (.initialized "java/lang/Math") (List.mem_of_getElem? (i := 3) rfl)) (hts (.code Lib.Math.abs.name Lib.Math.abs.code 1 (some .int)) (List.mem_of_getElem? (i := 4) rfl)) (Nat.le_of_ble_eq_true rfl) (Nat.le_of_ble_eq_true rfl) (Nat.zero_le _) (Nat.zero_le _) dX2_areLinked_44 ?_
            obtain ⟨x11, ex11, h⟩ := pl_ex h
            refine lv_eqi ex11 ?_
            refine lv_istore (lv' := [(5, .int x11), (0, .ref (a 0)), (1, .int p1), (2, .int p2), (3, .int v3_5), (4, .int v4_6)]) hx hb dX2_areLinked_47 hl (by decide) rfl (fun ls hl => ?_)
            refine lv_iload hx hb dX2_areLinked_49 (lv_at hl 0 rfl) ?_
            refine lv_aload_n hx hb dX2_areLinked_51 rfl (lv_at hl 1 rfl) ?_
            refine va_get (D := g.1) (ci := 2) (v := .int (St_nearness st)) (C := RX2) (T := TX2) (N := 17) hx hb hts hinX2 hown hK hP 0 rfl rfl 13 (by decide) (hts (.fieldLink RX2 43 "BarredRungs$State" "nearness" "I") (List.mem_of_getElem? (i := 5) rfl)) (fun _ h9 => h9) rfl dX2_areLinked_52 ?_
            refine lv_icmp_le (tgt := 60) hx hb dX2_areLinked_55 (by decide) (fun c12 => ?_) (fun c12 => ?_)
            · have h := if_t c12 h
              refine lv_iload hx hb dX2_areLinked_60 (lv_at hl 0 rfl) ?_
              refine lv_if_eq (tgt := 68) hx hb dX2_areLinked_62 (by decide) (fun c13 => ?_) (fun c13 => ?_)
              · have h := if_t c13 h
                obtain ⟨x14, ex14, h⟩ := pl_ex h
                refine lv_iinc (v := x14) (lv' := [(4, .int x14), (5, .int x11), (0, .ref (a 0)), (1, .int p1), (2, .int p2), (3, .int v3_5)]) hx hb dX2_areLinked_68 hl (k := 5) rfl (by rw [← ex14]; rfl) (by decide) rfl (fun ls hl => ?_)
                refine lv_goto (tgt := 23) hx hb dX2_areLinked_71 (by decide) ?_
                exact ih v3_5 x14 _ _ _ h hP hD hS (lv_sub hl [2, 3, 4, 5, 0] rfl)
              · have h := if_f c13 h
                obtain ⟨x15, ex15, h⟩ := pl_ex h
                refine lv_iinc (v := x15) (lv' := [(3, .int x15), (5, .int x11), (0, .ref (a 0)), (1, .int p1), (2, .int p2), (4, .int v4_6)]) hx hb dX2_areLinked_65 hl (k := 4) rfl (by rw [← ex15]; rfl) (by decide) rfl (fun ls hl => ?_)
                obtain ⟨x16, ex16, h⟩ := pl_ex h
                refine lv_iinc (v := x16) (lv' := [(4, .int x16), (3, .int x15), (5, .int x11), (0, .ref (a 0)), (1, .int p1), (2, .int p2)]) hx hb dX2_areLinked_68 hl (k := 5) rfl (by rw [← ex16]; rfl) (by decide) rfl (fun ls hl => ?_)
                refine lv_goto (tgt := 23) hx hb dX2_areLinked_71 (by decide) ?_
                exact ih x15 x16 _ _ _ h hP hD hS (lv_sub hl [3, 4, 5, 1, 0] rfl)
            · have h := if_f c12 h
              refine lv_iconst (v := 0) hx hb dX2_areLinked_58 (by decide) ?_
              cases some_i h
              exact hend _ _ _ _ _ hP hD hS (RetOK.z dX2_areLinked_59 (Or.inl rfl))
      exact L23 1000 (0 : Int32) (0 : Int32) _ _ _ h hP hD hS (lv_sub hl [2, 3, 4, 1, 0] rfl)
    · have h := if_t c4 h
      refine lv_iconst (v := 0) hx hb dX2_areLinked_16 (by decide) ?_
      cases some_i h
      exact hend _ _ _ _ _ hP hD hS (RetOK.z dX2_areLinked_17 (Or.inl rfl))
def fX2_barLetterAfter (st : St) (p1 : Int32) : Option (Int32) :=
(some (((St_letter st) + ((p1 / (4 : Int32)) * (St_letterStep st))) - ((St_letter st) + ((p1 / (4 : Int32)) * (St_letterStep st))) / (8 : Int32) * (8 : Int32)))
abbrev rX2_barLetterAfter : Room := { frames := 0, cells := 0, slots := 0, locals := 0 }
theorem hdX2_barLetterAfter : yX2_barLetterAfter.cls = RX2 ∧ yX2_barLetterAfter.cls ≠ "java/lang/invoke/MethodHandle" ∧ yX2_barLetterAfter.cls ≠ "java/lang/invoke/VarHandle" ∧ (parseMethodDescriptor yX2_barLetterAfter.desc).map (fun d => d.parameters.length) = some 1 := by decide +kernel
set_option maxRecDepth 100000 in
set_option maxHeartbeats 8000000 in
theorem kX2_barLetterAfter (l : Launch) (g : GG) (a : Nat → Nat) {st : St} {p1 : Int32} {res : Int32} (h : fX2_barLetterAfter st p1 = some res) : Cg l g yX2_barLetterAfter wsX2_barLetterAfter rX2_barLetterAfter [.ref (a 0), .int p1] (cSt g a st) (some (.int res)) (cSt g a st) := by
  refine Cg_of (cc := cX2_barLetterAfter) (maxL := 2) (ret := (some .int)) (by decide +kernel) rfl (Nat.le_of_ble_eq_true rfl) ?_
  intro p e su m args below meth c A Q ls hx hb hml hown hts hK hN hA hnm hP hD hS hl hend
  have hinX2 : ∀ w ∈ u_ws RX2 TX2 17, w ∈ wsX2_barLetterAfter := fun _ h9 => List.mem_cons_of_mem _ (List.mem_append_right _ h9)
  unfold fX2_barLetterAfter at h
  have hl : lv_has ls 2 [(0, .ref (a 0)), (1, .int p1)] := hl
  refine lv_aload_n hx hb dX2_barLetterAfter_0 rfl (lv_at hl 0 rfl) ?_
  refine va_get (D := g.1) (ci := 2) (v := .int (St_letter st)) (C := RX2) (T := TX2) (N := 17) hx hb hts hinX2 hown hK hP 0 rfl rfl 11 (by decide) (hts (.fieldLink RX2 58 "BarredRungs$State" "letter" "I") (List.mem_of_getElem? (i := 1) rfl)) (fun _ h9 => h9) rfl dX2_barLetterAfter_1 ?_
  refine lv_iload_n hx hb dX2_barLetterAfter_4 rfl (lv_at hl 1 rfl) ?_
  refine lv_iconst (v := 4) hx hb dX2_barLetterAfter_5 (by decide) ?_
  refine lv_idiv hx hb dX2_barLetterAfter_6 (by decide) ?_
  refine lv_aload_n hx hb dX2_barLetterAfter_7 rfl (lv_at hl 0 rfl) ?_
  refine va_get (D := g.1) (ci := 2) (v := .int (St_letterStep st)) (C := RX2) (T := TX2) (N := 17) hx hb hts hinX2 hown hK hP 0 rfl rfl 12 (by decide) (hts (.fieldLink RX2 39 "BarredRungs$State" "letterStep" "I") (List.mem_of_getElem? (i := 2) rfl)) (fun _ h9 => h9) rfl dX2_barLetterAfter_8 ?_
  refine lv_imul hx hb dX2_barLetterAfter_11 ?_
  refine lv_iadd hx hb dX2_barLetterAfter_12 ?_
  refine lv_bipush (v := 8) hx hb dX2_barLetterAfter_13 (by decide) ?_
  refine lv_irem hx hb dX2_barLetterAfter_15 (by decide) ?_
  cases some_i h
  exact hend _ _ _ _ _ hP hD hS (RetOK.i dX2_barLetterAfter_16)
def fX2_barredAfter_L19 (st : St) (x1 : Int32) (r2 : Int32) : Nat → Int32 → Int32 → Option (Int32)
  | 0, _, _ => none
  | n + 1, v4_3, v5_4 =>
    (if (St_words st) ≤ v5_4 then
    (some v4_3)
    else
    (if (24 : Int32) ≤ v5_4 then
    (some v4_3)
    else
    (ck (inb v5_4 24)
    (bd (fX2_letterIn (St_codes st v5_4.toNatClampNeg) (x1 - x1 / (4 : Int32) * (4 : Int32))) fun (r8 : Int32) =>
    (if r8 = r2 then
    (pl ((v4_3 ||| ((1 : Int32) <<< (v5_4 &&& 31)))) fun (x11 : Int32) =>
    (pl ((v5_4 + (1 : Int32))) fun (x12 : Int32) =>
    (fX2_barredAfter_L19 st x1 r2 n x11 x12)))
    else
    (pl ((v5_4 + (1 : Int32))) fun (x10 : Int32) =>
    (fX2_barredAfter_L19 st x1 r2 n v4_3 x10)))))))
def fX2_barredAfter (st : St) (p1 : Int32) : Option (Int32) :=
(pl (((St_place st) + p1)) fun (x1 : Int32) =>
(bd (fX2_barLetterAfter st x1) fun (r2 : Int32) =>
(bd (fX2_barredAfter_L19 st x1 r2 1000 (0 : Int32) (0 : Int32)) fun (v4_13 : Int32) =>
(some v4_13))))
abbrev rX2_barredAfter : Room := { frames := 1, cells := 0, slots := 0, locals := 21 }
theorem hdX2_barredAfter : yX2_barredAfter.cls = RX2 ∧ yX2_barredAfter.cls ≠ "java/lang/invoke/MethodHandle" ∧ yX2_barredAfter.cls ≠ "java/lang/invoke/VarHandle" ∧ (parseMethodDescriptor yX2_barredAfter.desc).map (fun d => d.parameters.length) = some 1 := by decide +kernel
set_option maxRecDepth 100000 in
set_option maxHeartbeats 8000000 in
theorem kX2_barredAfter (l : Launch) (g : GG) (a : Nat → Nat) {st : St} {p1 : Int32} {res : Int32} (h : fX2_barredAfter st p1 = some res) : Cg l g yX2_barredAfter wsX2_barredAfter rX2_barredAfter [.ref (a 0), .int p1] (cSt g a st) (some (.int res)) (cSt g a st) := by
  refine Cg_of (cc := cX2_barredAfter) (maxL := 6) (ret := (some .int)) (by decide +kernel) rfl (Nat.le_of_ble_eq_true rfl) ?_
  intro p e su m args below meth c A Q ls hx hb hml hown hts hK hN hA hnm hP hD hS hl hend
  have hinX2 : ∀ w ∈ u_ws RX2 TX2 17, w ∈ wsX2_barredAfter := fun _ h9 => List.mem_cons_of_mem _ (List.mem_append_right _ h9)
  unfold fX2_barredAfter at h
  have hl : lv_has ls 6 [(0, .ref (a 0)), (1, .int p1)] := hl
  refine lv_aload_n hx hb dX2_barredAfter_0 rfl (lv_at hl 0 rfl) ?_
  refine va_get (D := g.1) (ci := 2) (v := .int (St_place st)) (C := RX2) (T := TX2) (N := 17) hx hb hts hinX2 hown hK hP 0 rfl rfl 10 (by decide) (hts (.fieldLink RX2 55 "BarredRungs$State" "place" "I") (List.mem_of_getElem? (i := 1) rfl)) (fun _ h9 => h9) rfl dX2_barredAfter_1 ?_
  refine lv_iload_n hx hb dX2_barredAfter_4 rfl (lv_at hl 1 rfl) ?_
  refine lv_iadd hx hb dX2_barredAfter_5 ?_
  obtain ⟨x1, ex1, h⟩ := pl_ex h
  refine lv_eqi ex1 ?_
  refine lv_istore_n (lv' := [(2, .int x1), (0, .ref (a 0)), (1, .int p1)]) hx hb dX2_barredAfter_6 rfl hl (by decide) rfl (fun ls hl => ?_)
  refine lv_aload_n hx hb dX2_barredAfter_7 rfl (lv_at hl 1 rfl) ?_
  refine lv_iload_n hx hb dX2_barredAfter_8 rfl (lv_at hl 0 rfl) ?_
  obtain ⟨r2, kr2, h⟩ := bd_ex h
  refine aft_w (st1 := [.int r2]) rfl (runV (As := [.int x1]) (rest := []) ⟨hx, hb, hml, hown, hts⟩ (kX2_barLetterAfter l g a kr2) (cwV 1 hts gX2_barredAfter_X2_barLetterAfter rfl rfl rfl hdX2_barLetterAfter ⟨Nat.le_of_ble_eq_true rfl, Nat.le_of_ble_eq_true rfl⟩) hK hN hP hD (va_recv hK hP (ci := 2) (q0 := 0) rfl rfl) rfl hl.1 rfl (Nat.le_of_ble_eq_true rfl) dX2_barredAfter_9 ⟨Nat.zero_le _, Nat.zero_le _⟩) hD hS hA (fun H locs hP hD hS => ?_)
  refine lv_istore_n (lv' := [(3, .int r2), (2, .int x1), (0, .ref (a 0)), (1, .int p1)]) hx hb dX2_barredAfter_12 rfl hl (by decide) rfl (fun ls hl => ?_)
  refine lv_iconst (v := 0) hx hb dX2_barredAfter_13 (by decide) ?_
  refine lv_istore (lv' := [(4, .int (0 : Int32)), (3, .int r2), (2, .int x1), (0, .ref (a 0)), (1, .int p1)]) hx hb dX2_barredAfter_14 hl (by decide) rfl (fun ls hl => ?_)
  refine lv_iconst (v := 0) hx hb dX2_barredAfter_16 (by decide) ?_
  refine lv_istore (lv' := [(5, .int (0 : Int32)), (4, .int (0 : Int32)), (3, .int r2), (2, .int x1), (0, .ref (a 0)), (1, .int p1)]) hx hb dX2_barredAfter_17 hl (by decide) rfl (fun ls hl => ?_)
  have L19 : ∀ (n : Nat) (v4_3 : Int32) (v5_4 : Int32) (y4_5 : Int32) (H : Heap) (locs : List Loc) (ls : Array Slot), fX2_barredAfter_L19 st x1 r2 n v4_3 v5_4 = some y4_5 → va_P g.1 vwCl (cSt g a st) H → va_D A (cSt g a st) → va_S A su.heap H locs → lv_has ls 6 [(0, .ref (a 0)), (2, .int x1), (3, .int r2), (4, .int v4_3), (5, .int v5_4)] → (∀ (H : Heap) (locs : List Loc) (ls : Array Slot), va_P g.1 vwCl (cSt g a st) H → va_D A (cSt g a st) → va_S A su.heap H locs → lv_has ls 6 [(4, .int y4_5)] → W p l e rX2_barredAfter su m args below meth c H locs 0 0 Q (F0 m 67 ls [])) → W p l e rX2_barredAfter su m args below meth c H locs 0 0 Q (F0 m 19 ls []) := by
    intro n
    induction n with
    | zero => intro v4_3 v5_4 y4_5 H locs ls h hP hD hS hl kx; cases h
    | succ n ih =>
      intro v4_3 v5_4 y4_5 H locs ls h hP hD hS hl kx
      rw [fX2_barredAfter_L19] at h
      refine lv_iload hx hb dX2_barredAfter_19 (lv_at hl 4 rfl) ?_
      refine lv_aload_n hx hb dX2_barredAfter_21 rfl (lv_at hl 0 rfl) ?_
      refine va_get (D := g.1) (ci := 2) (v := .int (St_words st)) (C := RX2) (T := TX2) (N := 17) hx hb hts hinX2 hown hK hP 0 rfl rfl 9 (by decide) (hts (.fieldLink RX2 52 "BarredRungs$State" "words" "I") (List.mem_of_getElem? (i := 2) rfl)) (fun _ h9 => h9) rfl dX2_barredAfter_22 ?_
      refine lv_icmp_ge (tgt := 67) hx hb dX2_barredAfter_25 (by decide) (fun c6 => ?_) (fun c6 => ?_)
      · have h := if_t c6 h
        cases some_i h
        exact kx _ _ _ hP hD hS (lv_sub hl [3] rfl)
      · have h := if_f c6 h
        refine lv_iload hx hb dX2_barredAfter_28 (lv_at hl 4 rfl) ?_
        refine lv_bipush (v := 24) hx hb dX2_barredAfter_30 (by decide) ?_
        refine lv_icmp_ge (tgt := 67) hx hb dX2_barredAfter_32 (by decide) (fun c7 => ?_) (fun c7 => ?_)
        · have h := if_t c7 h
          cases some_i h
          exact kx _ _ _ hP hD hS (lv_sub hl [3] rfl)
        · have h := if_f c7 h
          refine lv_aload_n hx hb dX2_barredAfter_35 rfl (lv_at hl 0 rfl) ?_
          refine va_get (D := g.1) (ci := 2) (v := .ref (a 1)) (C := RX2) (T := TX2) (N := 17) hx hb hts hinX2 hown hK hP 0 rfl rfl 0 (by decide) (hts (.fieldLink RX2 9 "BarredRungs$State" "codes" "[I") (List.mem_of_getElem? (i := 3) rfl)) (fun _ h9 => h9) rfl dX2_barredAfter_36 ?_
          refine lv_iload hx hb dX2_barredAfter_39 (lv_at hl 4 rfl) ?_
          obtain ⟨hi9, h⟩ := ck_ex h
          refine va_iald hx hb hK hP 1 0 rfl rfl (inb_in hi9) dX2_barredAfter_41 ?_
          refine lv_iload_n hx hb dX2_barredAfter_42 rfl (lv_at hl 1 rfl) ?_
          refine lv_iconst (v := 4) hx hb dX2_barredAfter_43 (by decide) ?_
          refine lv_irem hx hb dX2_barredAfter_44 (by decide) ?_
          obtain ⟨r8, kr8, h⟩ := bd_ex h
          refine aft_e (st1 := [.int r8]) rfl (runS (As := [.int (St_codes st v5_4.toNatClampNeg), .int (x1 - x1 / (4 : Int32) * (4 : Int32))]) (rest := []) ⟨hx, hb, hml, hown, hts⟩ (kX2_letterIn l g kr8) (va_cwS 2 hts gX2_barredAfter_X2_letterIn rfl rfl rfl hdX2_letterIn.2 ⟨Nat.le_of_ble_eq_true rfl, Nat.le_of_ble_eq_true rfl⟩) hK hN nilP (nilD (A := A)) rfl hl.1 rfl (Nat.le_of_ble_eq_true rfl) dX2_barredAfter_45 ⟨Nat.zero_le _, Nat.zero_le _⟩) hP hS hA (fun H locs hP hS => ?_)
          refine lv_iload_n hx hb dX2_barredAfter_48 rfl (lv_at hl 2 rfl) ?_
          refine lv_icmp_ne (tgt := 61) hx hb dX2_barredAfter_49 (by decide) (fun c9 => ?_) (fun c9 => ?_)
          · have h := if_f c9 h
            obtain ⟨x10, ex10, h⟩ := pl_ex h
            refine lv_iinc (v := x10) (lv' := [(5, .int x10), (0, .ref (a 0)), (2, .int x1), (3, .int r2), (4, .int v4_3)]) hx hb dX2_barredAfter_61 hl (k := 4) rfl (by rw [← ex10]; rfl) (by decide) rfl (fun ls hl => ?_)
            refine lv_goto (tgt := 19) hx hb dX2_barredAfter_64 (by decide) ?_
            exact ih v4_3 x10 _ _ _ _ h hP hD hS (lv_sub hl [1, 2, 3, 4, 0] rfl) kx
          · have h := if_t c9 h
            refine lv_iload hx hb dX2_barredAfter_52 (lv_at hl 3 rfl) ?_
            refine lv_iconst (v := 1) hx hb dX2_barredAfter_54 (by decide) ?_
            refine lv_iload hx hb dX2_barredAfter_55 (lv_at hl 4 rfl) ?_
            refine lv_ishl hx hb dX2_barredAfter_57 ?_
            refine lv_ior hx hb dX2_barredAfter_58 ?_
            obtain ⟨x11, ex11, h⟩ := pl_ex h
            refine lv_eqi ex11 ?_
            refine lv_istore (lv' := [(4, .int x11), (0, .ref (a 0)), (2, .int x1), (3, .int r2), (5, .int v5_4)]) hx hb dX2_barredAfter_59 hl (by decide) rfl (fun ls hl => ?_)
            obtain ⟨x12, ex12, h⟩ := pl_ex h
            refine lv_iinc (v := x12) (lv' := [(5, .int x12), (4, .int x11), (0, .ref (a 0)), (2, .int x1), (3, .int r2)]) hx hb dX2_barredAfter_61 hl (k := 4) rfl (by rw [← ex12]; rfl) (by decide) rfl (fun ls hl => ?_)
            refine lv_goto (tgt := 19) hx hb dX2_barredAfter_64 (by decide) ?_
            exact ih x11 x12 _ _ _ _ h hP hD hS (lv_sub hl [2, 3, 4, 1, 0] rfl) kx
  obtain ⟨v4_13, kv4_13, h⟩ := bd_ex h
  refine L19 1000 (0 : Int32) (0 : Int32) v4_13 _ _ _ kv4_13 hP hD hS (lv_sub hl [4, 3, 2, 1, 0] rfl) (fun H locs ls hP hD hS hl => ?_)
  refine lv_iload hx hb dX2_barredAfter_67 (lv_at hl 0 rfl) ?_
  cases some_i h
  exact hend _ _ _ _ _ hP hD hS (RetOK.i dX2_barredAfter_69)
def fX2_linkWithEarlier_L18 (p1 : Int32) : Nat → Int32 → St → Option (St)
  | 0, _, _ => none
  | n + 1, v2_4, st5 =>
    (if p1 ≤ v2_4 then
    (some st5)
    else
    (ck (inb v2_4 24)
    (ck (inb v2_4 24)
    (pl (St_set_links st5 (upd (St_links st5) v2_4.toNatClampNeg ((St_links st5 v2_4.toNatClampNeg) &&& (((1 : Int32) <<< (p1 &&& 31)) ^^^ (-1 : Int32))))) fun (st8 : St) =>
    (bd (fX2_areLinked st8 v2_4 p1) fun (r9 : Int32) =>
    (if r9 = (0 : Int32) then
    (pl ((v2_4 + (1 : Int32))) fun (x11 : Int32) =>
    (fX2_linkWithEarlier_L18 p1 n x11 st8))
    else
    (ck (inb v2_4 24)
    (ck (inb v2_4 24)
    (pl (St_set_links st8 (upd (St_links st8) v2_4.toNatClampNeg ((St_links st8 v2_4.toNatClampNeg) ||| ((1 : Int32) <<< (p1 &&& 31))))) fun (st12 : St) =>
    (ck (inb p1 24)
    (ck (inb p1 24)
    (pl (St_set_links st12 (upd (St_links st12) p1.toNatClampNeg ((St_links st12 p1.toNatClampNeg) ||| ((1 : Int32) <<< (v2_4 &&& 31))))) fun (st13 : St) =>
    (pl ((v2_4 + (1 : Int32))) fun (x14 : Int32) =>
    (fX2_linkWithEarlier_L18 p1 n x14 st13))))))))))))))
def fX2_linkWithEarlier (st : St) (p1 : Int32) : Option (St) :=
(bd (fX2_hasWord st p1) fun (r1 : Int32) =>
(if r1 = (0 : Int32) then
(some st)
else
(ck (inb p1 24)
(pl (St_set_links st (upd (St_links st) p1.toNatClampNeg (0 : Int32))) fun (st3 : St) =>
(bd (fX2_linkWithEarlier_L18 p1 1000 (0 : Int32) st3) fun (st15 : St) =>
(some st15))))))
abbrev rX2_linkWithEarlier : Room := { frames := 3, cells := 0, slots := 0, locals := 68 }
theorem hdX2_linkWithEarlier : yX2_linkWithEarlier.cls = RX2 ∧ yX2_linkWithEarlier.cls ≠ "java/lang/invoke/MethodHandle" ∧ yX2_linkWithEarlier.cls ≠ "java/lang/invoke/VarHandle" ∧ (parseMethodDescriptor yX2_linkWithEarlier.desc).map (fun d => d.parameters.length) = some 1 := by decide +kernel
set_option maxRecDepth 100000 in
set_option maxHeartbeats 8000000 in
theorem kX2_linkWithEarlier (l : Launch) (g : GG) (a : Nat → Nat) {st : St} {p1 : Int32} {st' : St} (h : fX2_linkWithEarlier st p1 = some st') : Cg l g yX2_linkWithEarlier wsX2_linkWithEarlier rX2_linkWithEarlier [.ref (a 0), .int p1] (cSt g a st) (none) (cSt g a st') := by
  refine Cg_of (cc := cX2_linkWithEarlier) (maxL := 3) (ret := none) (by decide +kernel) rfl (Nat.le_of_ble_eq_true rfl) ?_
  intro p e su m args below meth c A Q ls hx hb hml hown hts hK hN hA hnm hP hD hS hl hend
  have hinX2 : ∀ w ∈ u_ws RX2 TX2 17, w ∈ wsX2_linkWithEarlier := fun _ h9 => List.mem_cons_of_mem _ (List.mem_append_right _ h9)
  unfold fX2_linkWithEarlier at h
  have hl : lv_has ls 3 [(0, .ref (a 0)), (1, .int p1)] := hl
  refine lv_aload_n hx hb dX2_linkWithEarlier_0 rfl (lv_at hl 0 rfl) ?_
  refine lv_iload_n hx hb dX2_linkWithEarlier_1 rfl (lv_at hl 1 rfl) ?_
  obtain ⟨r1, kr1, h⟩ := bd_ex h
  refine aft_w (st1 := [.int r1]) rfl (runV (As := [.int p1]) (rest := []) ⟨hx, hb, hml, hown, hts⟩ (kX2_hasWord l g a kr1) (cwV 1 hts gX2_linkWithEarlier_X2_hasWord rfl rfl rfl hdX2_hasWord ⟨Nat.le_of_ble_eq_true rfl, Nat.le_of_ble_eq_true rfl⟩) hK hN hP hD (va_recv hK hP (ci := 2) (q0 := 0) rfl rfl) rfl hl.1 rfl (Nat.le_of_ble_eq_true rfl) dX2_linkWithEarlier_2 ⟨Nat.zero_le _, Nat.zero_le _⟩) hD hS hA (fun H locs hP hD hS => ?_)
  refine lv_if_ne (tgt := 9) hx hb dX2_linkWithEarlier_5 (by decide) (fun c2 => ?_) (fun c2 => ?_)
  · have h := if_f c2 h
    refine lv_aload_n hx hb dX2_linkWithEarlier_9 rfl (lv_at hl 0 rfl) ?_
    refine va_get (D := g.1) (ci := 2) (v := .ref (a 2)) (C := RX2) (T := TX2) (N := 17) hx hb hts hinX2 hown hK hP 0 rfl rfl 1 (by decide) (hts (.fieldLink RX2 15 "BarredRungs$State" "links" "[I") (List.mem_of_getElem? (i := 1) rfl)) (fun _ h9 => h9) rfl dX2_linkWithEarlier_10 ?_
    refine lv_iload_n hx hb dX2_linkWithEarlier_13 rfl (lv_at hl 1 rfl) ?_
    refine lv_iconst (v := 0) hx hb dX2_linkWithEarlier_14 (by decide) ?_
    obtain ⟨hi9, h⟩ := ck_ex h
    obtain ⟨st3, est3, h⟩ := pl_ex h
    refine va_iast hx hb hK hP hD hS 2 0 rfl rfl (inb_in hi9) dX2_linkWithEarlier_15 (fun H locs hP hD hS => ?_)
    have hP : va_P g.1 vwCl (cSt g a st3) H := by rw [← est3]; exact hP
    have hD : va_D A (cSt g a st3) := by rw [← est3]; exact hD
    refine lv_iconst (v := 0) hx hb dX2_linkWithEarlier_16 (by decide) ?_
    refine lv_istore_n (lv' := [(2, .int (0 : Int32)), (0, .ref (a 0)), (1, .int p1)]) hx hb dX2_linkWithEarlier_17 rfl hl (by decide) rfl (fun ls hl => ?_)
    have L18 : ∀ (n : Nat) (v2_4 : Int32) (st5 : St) (st6 : St) (H : Heap) (locs : List Loc) (ls : Array Slot), fX2_linkWithEarlier_L18 p1 n v2_4 st5 = some st6 → va_P g.1 vwCl (cSt g a st5) H → va_D A (cSt g a st5) → va_S A su.heap H locs → lv_has ls 3 [(0, .ref (a 0)), (1, .int p1), (2, .int v2_4)] → (∀ (H : Heap) (locs : List Loc) (ls : Array Slot), va_P g.1 vwCl (cSt g a st6) H → va_D A (cSt g a st6) → va_S A su.heap H locs → lv_has ls 3 [] → W p l e rX2_linkWithEarlier su m args below meth c H locs 0 0 Q (F0 m 76 ls [])) → W p l e rX2_linkWithEarlier su m args below meth c H locs 0 0 Q (F0 m 18 ls []) := by
      intro n
      induction n with
      | zero => intro v2_4 st5 st6 H locs ls h hP hD hS hl kx; cases h
      | succ n ih =>
        intro v2_4 st5 st6 H locs ls h hP hD hS hl kx
        rw [fX2_linkWithEarlier_L18] at h
        refine lv_iload_n hx hb dX2_linkWithEarlier_18 rfl (lv_at hl 2 rfl) ?_
        refine lv_iload_n hx hb dX2_linkWithEarlier_19 rfl (lv_at hl 1 rfl) ?_
        refine lv_icmp_ge (tgt := 76) hx hb dX2_linkWithEarlier_20 (by decide) (fun c7 => ?_) (fun c7 => ?_)
        · have h := if_t c7 h
          cases some_i h
          exact kx _ _ _ hP hD hS (lv_sub hl [] rfl)
        · have h := if_f c7 h
          refine lv_aload_n hx hb dX2_linkWithEarlier_23 rfl (lv_at hl 0 rfl) ?_
          refine va_get (D := g.1) (ci := 2) (v := .ref (a 2)) (C := RX2) (T := TX2) (N := 17) hx hb hts hinX2 hown hK hP 0 rfl rfl 1 (by decide) (hts (.fieldLink RX2 15 "BarredRungs$State" "links" "[I") (List.mem_of_getElem? (i := 1) rfl)) (fun _ h9 => h9) rfl dX2_linkWithEarlier_24 ?_
          refine lv_iload_n hx hb dX2_linkWithEarlier_27 rfl (lv_at hl 2 rfl) ?_
          refine lv_dup2_11 hx hb dX2_linkWithEarlier_28 rfl rfl ?_
          obtain ⟨hi9, h⟩ := ck_ex h
          refine va_iald hx hb hK hP 2 0 rfl rfl (inb_in hi9) dX2_linkWithEarlier_29 ?_
          refine lv_iconst (v := 1) hx hb dX2_linkWithEarlier_30 (by decide) ?_
          refine lv_iload_n hx hb dX2_linkWithEarlier_31 rfl (lv_at hl 1 rfl) ?_
          refine lv_ishl hx hb dX2_linkWithEarlier_32 ?_
          refine lv_iconst (v := -1) hx hb dX2_linkWithEarlier_33 (by decide) ?_
          refine lv_ixor hx hb dX2_linkWithEarlier_34 ?_
          refine lv_iand hx hb dX2_linkWithEarlier_35 ?_
          obtain ⟨hi9, h⟩ := ck_ex h
          obtain ⟨st8, est8, h⟩ := pl_ex h
          refine va_iast hx hb hK hP hD hS 2 0 rfl rfl (inb_in hi9) dX2_linkWithEarlier_36 (fun H locs hP hD hS => ?_)
          have hP : va_P g.1 vwCl (cSt g a st8) H := by rw [← est8]; exact hP
          have hD : va_D A (cSt g a st8) := by rw [← est8]; exact hD
          refine lv_aload_n hx hb dX2_linkWithEarlier_37 rfl (lv_at hl 0 rfl) ?_
          refine lv_iload_n hx hb dX2_linkWithEarlier_38 rfl (lv_at hl 2 rfl) ?_
          refine lv_iload_n hx hb dX2_linkWithEarlier_39 rfl (lv_at hl 1 rfl) ?_
          obtain ⟨r9, kr9, h⟩ := bd_ex h
          refine aft_w (st1 := [.int r9]) rfl (runV (As := [.int v2_4, .int p1]) (rest := []) ⟨hx, hb, hml, hown, hts⟩ (kX2_areLinked l g a kr9) (cwV 2 hts gX2_linkWithEarlier_X2_areLinked rfl rfl rfl hdX2_areLinked ⟨Nat.le_of_ble_eq_true rfl, Nat.le_of_ble_eq_true rfl⟩) hK hN hP hD (va_recv hK hP (ci := 2) (q0 := 0) rfl rfl) rfl hl.1 rfl (Nat.le_of_ble_eq_true rfl) dX2_linkWithEarlier_40 ⟨Nat.zero_le _, Nat.zero_le _⟩) hD hS hA (fun H locs hP hD hS => ?_)
          refine lv_if_eq (tgt := 70) hx hb dX2_linkWithEarlier_43 (by decide) (fun c10 => ?_) (fun c10 => ?_)
          · have h := if_t c10 h
            obtain ⟨x11, ex11, h⟩ := pl_ex h
            refine lv_iinc (v := x11) (lv' := [(2, .int x11), (0, .ref (a 0)), (1, .int p1)]) hx hb dX2_linkWithEarlier_70 hl (k := 2) rfl (by rw [← ex11]; rfl) (by decide) rfl (fun ls hl => ?_)
            refine lv_goto (tgt := 18) hx hb dX2_linkWithEarlier_73 (by decide) ?_
            exact ih x11 st8 _ _ _ _ h hP hD hS (lv_sub hl [1, 2, 0] rfl) kx
          · have h := if_f c10 h
            refine lv_aload_n hx hb dX2_linkWithEarlier_46 rfl (lv_at hl 0 rfl) ?_
            refine va_get (D := g.1) (ci := 2) (v := .ref (a 2)) (C := RX2) (T := TX2) (N := 17) hx hb hts hinX2 hown hK hP 0 rfl rfl 1 (by decide) (hts (.fieldLink RX2 15 "BarredRungs$State" "links" "[I") (List.mem_of_getElem? (i := 1) rfl)) (fun _ h9 => h9) rfl dX2_linkWithEarlier_47 ?_
            refine lv_iload_n hx hb dX2_linkWithEarlier_50 rfl (lv_at hl 2 rfl) ?_
            refine lv_dup2_11 hx hb dX2_linkWithEarlier_51 rfl rfl ?_
            obtain ⟨hi9, h⟩ := ck_ex h
            refine va_iald hx hb hK hP 2 0 rfl rfl (inb_in hi9) dX2_linkWithEarlier_52 ?_
            refine lv_iconst (v := 1) hx hb dX2_linkWithEarlier_53 (by decide) ?_
            refine lv_iload_n hx hb dX2_linkWithEarlier_54 rfl (lv_at hl 1 rfl) ?_
            refine lv_ishl hx hb dX2_linkWithEarlier_55 ?_
            refine lv_ior hx hb dX2_linkWithEarlier_56 ?_
            obtain ⟨hi9, h⟩ := ck_ex h
            obtain ⟨st12, est12, h⟩ := pl_ex h
            refine va_iast hx hb hK hP hD hS 2 0 rfl rfl (inb_in hi9) dX2_linkWithEarlier_57 (fun H locs hP hD hS => ?_)
            have hP : va_P g.1 vwCl (cSt g a st12) H := by rw [← est12]; exact hP
            have hD : va_D A (cSt g a st12) := by rw [← est12]; exact hD
            refine lv_aload_n hx hb dX2_linkWithEarlier_58 rfl (lv_at hl 0 rfl) ?_
            refine va_get (D := g.1) (ci := 2) (v := .ref (a 2)) (C := RX2) (T := TX2) (N := 17) hx hb hts hinX2 hown hK hP 0 rfl rfl 1 (by decide) (hts (.fieldLink RX2 15 "BarredRungs$State" "links" "[I") (List.mem_of_getElem? (i := 1) rfl)) (fun _ h9 => h9) rfl dX2_linkWithEarlier_59 ?_
            refine lv_iload_n hx hb dX2_linkWithEarlier_62 rfl (lv_at hl 1 rfl) ?_
            refine lv_dup2_11 hx hb dX2_linkWithEarlier_63 rfl rfl ?_
            obtain ⟨hi9, h⟩ := ck_ex h
            refine va_iald hx hb hK hP 2 0 rfl rfl (inb_in hi9) dX2_linkWithEarlier_64 ?_
            refine lv_iconst (v := 1) hx hb dX2_linkWithEarlier_65 (by decide) ?_
            refine lv_iload_n hx hb dX2_linkWithEarlier_66 rfl (lv_at hl 2 rfl) ?_
            refine lv_ishl hx hb dX2_linkWithEarlier_67 ?_
            refine lv_ior hx hb dX2_linkWithEarlier_68 ?_
            obtain ⟨hi9, h⟩ := ck_ex h
            obtain ⟨st13, est13, h⟩ := pl_ex h
            refine va_iast hx hb hK hP hD hS 2 0 rfl rfl (inb_in hi9) dX2_linkWithEarlier_69 (fun H locs hP hD hS => ?_)
            have hP : va_P g.1 vwCl (cSt g a st13) H := by rw [← est13]; exact hP
            have hD : va_D A (cSt g a st13) := by rw [← est13]; exact hD
            obtain ⟨x14, ex14, h⟩ := pl_ex h
            refine lv_iinc (v := x14) (lv' := [(2, .int x14), (0, .ref (a 0)), (1, .int p1)]) hx hb dX2_linkWithEarlier_70 hl (k := 2) rfl (by rw [← ex14]; rfl) (by decide) rfl (fun ls hl => ?_)
            refine lv_goto (tgt := 18) hx hb dX2_linkWithEarlier_73 (by decide) ?_
            exact ih x14 st13 _ _ _ _ h hP hD hS (lv_sub hl [1, 2, 0] rfl) kx
    obtain ⟨st15, kst15, h⟩ := bd_ex h
    refine L18 1000 (0 : Int32) st3 st15 _ _ _ kst15 hP hD hS (lv_sub hl [1, 2, 0] rfl) (fun H locs ls hP hD hS hl => ?_)
    cases some_i h
    exact hend _ _ _ _ _ hP hD hS (RetOK.v dX2_linkWithEarlier_76)
  · have h := if_t c2 h
    cases some_i h
    exact hend _ _ _ _ _ hP hD hS (RetOK.v dX2_linkWithEarlier_8)
def fX2_linkAnew_L2 : Nat → Int32 → St → Option (St)
  | 0, _, _ => none
  | n + 1, v1_1, st2 =>
    (if (St_words st2) ≤ v1_1 then
    (some st2)
    else
    (bd (fX2_linkWithEarlier st2 v1_1) fun (st5 : St) =>
    (pl ((v1_1 + (1 : Int32))) fun (x6 : Int32) =>
    (fX2_linkAnew_L2 n x6 st5))))
def fX2_linkAnew (st : St) : Option (St) :=
(bd (fX2_linkAnew_L2 1000 (0 : Int32) st) fun (st7 : St) =>
(some st7))
abbrev rX2_linkAnew : Room := { frames := 4, cells := 0, slots := 0, locals := 90 }
theorem hdX2_linkAnew : yX2_linkAnew.cls = RX2 ∧ yX2_linkAnew.cls ≠ "java/lang/invoke/MethodHandle" ∧ yX2_linkAnew.cls ≠ "java/lang/invoke/VarHandle" ∧ (parseMethodDescriptor yX2_linkAnew.desc).map (fun d => d.parameters.length) = some 0 := by decide +kernel
set_option maxRecDepth 100000 in
set_option maxHeartbeats 8000000 in
theorem kX2_linkAnew (l : Launch) (g : GG) (a : Nat → Nat) {st : St} {st' : St} (h : fX2_linkAnew st = some st') : Cg l g yX2_linkAnew wsX2_linkAnew rX2_linkAnew [.ref (a 0)] (cSt g a st) (none) (cSt g a st') := by
  refine Cg_of (cc := cX2_linkAnew) (maxL := 2) (ret := none) (by decide +kernel) rfl (Nat.le_of_ble_eq_true rfl) ?_
  intro p e su m args below meth c A Q ls hx hb hml hown hts hK hN hA hnm hP hD hS hl hend
  have hinX2 : ∀ w ∈ u_ws RX2 TX2 17, w ∈ wsX2_linkAnew := fun _ h9 => List.mem_cons_of_mem _ (List.mem_append_right _ h9)
  unfold fX2_linkAnew at h
  have hl : lv_has ls 2 [(0, .ref (a 0))] := hl
  refine lv_iconst (v := 0) hx hb dX2_linkAnew_0 (by decide) ?_
  refine lv_istore_n (lv' := [(1, .int (0 : Int32)), (0, .ref (a 0))]) hx hb dX2_linkAnew_1 rfl hl (by decide) rfl (fun ls hl => ?_)
  have L2 : ∀ (n : Nat) (v1_1 : Int32) (st2 : St) (st3 : St) (H : Heap) (locs : List Loc) (ls : Array Slot), fX2_linkAnew_L2 n v1_1 st2 = some st3 → va_P g.1 vwCl (cSt g a st2) H → va_D A (cSt g a st2) → va_S A su.heap H locs → lv_has ls 2 [(0, .ref (a 0)), (1, .int v1_1)] → (∀ (H : Heap) (locs : List Loc) (ls : Array Slot), va_P g.1 vwCl (cSt g a st3) H → va_D A (cSt g a st3) → va_S A su.heap H locs → lv_has ls 2 [] → W p l e rX2_linkAnew su m args below meth c H locs 0 0 Q (F0 m 21 ls [])) → W p l e rX2_linkAnew su m args below meth c H locs 0 0 Q (F0 m 2 ls []) := by
    intro n
    induction n with
    | zero => intro v1_1 st2 st3 H locs ls h hP hD hS hl kx; cases h
    | succ n ih =>
      intro v1_1 st2 st3 H locs ls h hP hD hS hl kx
      rw [fX2_linkAnew_L2] at h
      refine lv_iload_n hx hb dX2_linkAnew_2 rfl (lv_at hl 1 rfl) ?_
      refine lv_aload_n hx hb dX2_linkAnew_3 rfl (lv_at hl 0 rfl) ?_
      refine va_get (D := g.1) (ci := 2) (v := .int (St_words st2)) (C := RX2) (T := TX2) (N := 17) hx hb hts hinX2 hown hK hP 0 rfl rfl 9 (by decide) (hts (.fieldLink RX2 52 "BarredRungs$State" "words" "I") (List.mem_of_getElem? (i := 1) rfl)) (fun _ h9 => h9) rfl dX2_linkAnew_4 ?_
      refine lv_icmp_ge (tgt := 21) hx hb dX2_linkAnew_7 (by decide) (fun c4 => ?_) (fun c4 => ?_)
      · have h := if_t c4 h
        cases some_i h
        exact kx _ _ _ hP hD hS (lv_sub hl [] rfl)
      · have h := if_f c4 h
        refine lv_aload_n hx hb dX2_linkAnew_10 rfl (lv_at hl 0 rfl) ?_
        refine lv_iload_n hx hb dX2_linkAnew_11 rfl (lv_at hl 1 rfl) ?_
        obtain ⟨st5, kst5, h⟩ := bd_ex h
        refine aft_w (st1 := []) rfl (runV (As := [.int v1_1]) (rest := []) ⟨hx, hb, hml, hown, hts⟩ (kX2_linkWithEarlier l g a kst5) (cwV 1 hts gX2_linkAnew_X2_linkWithEarlier rfl rfl rfl hdX2_linkWithEarlier ⟨Nat.le_of_ble_eq_true rfl, Nat.le_of_ble_eq_true rfl⟩) hK hN hP hD (va_recv hK hP (ci := 2) (q0 := 0) rfl rfl) rfl hl.1 rfl (Nat.le_of_ble_eq_true rfl) dX2_linkAnew_12 ⟨Nat.zero_le _, Nat.zero_le _⟩) hD hS hA (fun H locs hP hD hS => ?_)
        obtain ⟨x6, ex6, h⟩ := pl_ex h
        refine lv_iinc (v := x6) (lv' := [(1, .int x6), (0, .ref (a 0))]) hx hb dX2_linkAnew_15 hl (k := 1) rfl (by rw [← ex6]; rfl) (by decide) rfl (fun ls hl => ?_)
        refine lv_goto (tgt := 2) hx hb dX2_linkAnew_18 (by decide) ?_
        exact ih x6 st5 _ _ _ _ h hP hD hS (lv_sub hl [1, 0] rfl) kx
  obtain ⟨st7, kst7, h⟩ := bd_ex h
  refine L2 1000 (0 : Int32) st st7 _ _ _ kst7 hP hD hS (lv_sub hl [1, 0] rfl) (fun H locs ls hP hD hS hl => ?_)
  cases some_i h
  exact hend _ _ _ _ _ hP hD hS (RetOK.v dX2_linkAnew_21)
def fX2_changeSetting (st : St) (p1 : Int32) (p2 : Int32) : Option (St) :=
(if p1 = (0 : Int32) then
(pl (St_set_letterStep st p2) fun (st4 : St) =>
(some st4))
else
(pl (St_set_nearness st p2) fun (st2 : St) =>
(bd (fX2_linkAnew st2) fun (st3 : St) =>
(some st3))))
abbrev rX2_changeSetting : Room := { frames := 5, cells := 0, slots := 0, locals := 111 }
theorem hdX2_changeSetting : yX2_changeSetting.cls = RX2 ∧ yX2_changeSetting.cls ≠ "java/lang/invoke/MethodHandle" ∧ yX2_changeSetting.cls ≠ "java/lang/invoke/VarHandle" ∧ (parseMethodDescriptor yX2_changeSetting.desc).map (fun d => d.parameters.length) = some 2 := by decide +kernel
set_option maxRecDepth 100000 in
set_option maxHeartbeats 8000000 in
theorem kX2_changeSetting (l : Launch) (g : GG) (a : Nat → Nat) {st : St} {p1 : Int32} {p2 : Int32} {st' : St} (h : fX2_changeSetting st p1 p2 = some st') : Cg l g yX2_changeSetting wsX2_changeSetting rX2_changeSetting [.ref (a 0), .int p1, .int p2] (cSt g a st) (none) (cSt g a st') := by
  refine Cg_of (cc := cX2_changeSetting) (maxL := 3) (ret := none) (by decide +kernel) rfl (Nat.le_of_ble_eq_true rfl) ?_
  intro p e su m args below meth c A Q ls hx hb hml hown hts hK hN hA hnm hP hD hS hl hend
  have hinX2 : ∀ w ∈ u_ws RX2 TX2 17, w ∈ wsX2_changeSetting := fun _ h9 => List.mem_cons_of_mem _ (List.mem_append_right _ h9)
  unfold fX2_changeSetting at h
  have hl : lv_has ls 3 [(0, .ref (a 0)), (1, .int p1), (2, .int p2)] := hl
  refine lv_iload_n hx hb dX2_changeSetting_0 rfl (lv_at hl 1 rfl) ?_
  refine lv_if_ne (tgt := 12) hx hb dX2_changeSetting_1 (by decide) (fun c1 => ?_) (fun c1 => ?_)
  · have h := if_f c1 h
    refine lv_aload_n hx hb dX2_changeSetting_12 rfl (lv_at hl 0 rfl) ?_
    refine lv_iload_n hx hb dX2_changeSetting_13 rfl (lv_at hl 2 rfl) ?_
    obtain ⟨st2, est2, h⟩ := pl_ex h
    refine va_put (D := g.1) (ci := 2) (v := .int p2) (ty := .int) (C := RX2) (T := TX2) (N := 17) hx hb hts hinX2 tyX2 tyX2_ok nmX2 hown hK hP hD hS 0 rfl rfl 13 (by decide) (hts (.fieldLink RX2 43 "BarredRungs$State" "nearness" "I") (List.mem_of_getElem? (i := 2) rfl)) (fun _ h9 => h9) rfl (by decide +kernel) rfl rfl (Nat.le_of_ble_eq_true rfl) dX2_changeSetting_14 (fun H locs hP hD hS => ?_)
    have hP : va_P g.1 vwCl (cSt g a st2) H := by rw [← est2]; exact hP
    have hD : va_D A (cSt g a st2) := by rw [← est2]; exact hD
    refine lv_aload_n hx hb dX2_changeSetting_17 rfl (lv_at hl 0 rfl) ?_
    obtain ⟨st3, kst3, h⟩ := bd_ex h
    refine aft_w (st1 := []) rfl (runV (As := []) (rest := []) ⟨hx, hb, hml, hown, hts⟩ (kX2_linkAnew l g a kst3) (cwV 0 hts gX2_changeSetting_X2_linkAnew rfl rfl rfl hdX2_linkAnew ⟨Nat.le_of_ble_eq_true rfl, Nat.le_of_ble_eq_true rfl⟩) hK hN hP hD (va_recv hK hP (ci := 2) (q0 := 0) rfl rfl) rfl hl.1 rfl (Nat.le_of_ble_eq_true rfl) dX2_changeSetting_18 ⟨Nat.zero_le _, Nat.zero_le _⟩) hD hS hA (fun H locs hP hD hS => ?_)
    cases some_i h
    exact hend _ _ _ _ _ hP hD hS (RetOK.v dX2_changeSetting_21)
  · have h := if_t c1 h
    refine lv_aload_n hx hb dX2_changeSetting_4 rfl (lv_at hl 0 rfl) ?_
    refine lv_iload_n hx hb dX2_changeSetting_5 rfl (lv_at hl 2 rfl) ?_
    obtain ⟨st4, est4, h⟩ := pl_ex h
    refine va_put (D := g.1) (ci := 2) (v := .int p2) (ty := .int) (C := RX2) (T := TX2) (N := 17) hx hb hts hinX2 tyX2 tyX2_ok nmX2 hown hK hP hD hS 0 rfl rfl 12 (by decide) (hts (.fieldLink RX2 39 "BarredRungs$State" "letterStep" "I") (List.mem_of_getElem? (i := 1) rfl)) (fun _ h9 => h9) rfl (by decide +kernel) rfl rfl (Nat.le_of_ble_eq_true rfl) dX2_changeSetting_6 (fun H locs hP hD hS => ?_)
    have hP : va_P g.1 vwCl (cSt g a st4) H := by rw [← est4]; exact hP
    have hD : va_D A (cSt g a st4) := by rw [← est4]; exact hD
    refine lv_goto (tgt := 21) hx hb dX2_changeSetting_9 (by decide) ?_
    cases some_i h
    exact hend _ _ _ _ _ hP hD hS (RetOK.v dX2_changeSetting_21)
def fX5_isClimber (p0 : Int32) : Option (Int32) :=
(if p0 < (0 : Int32) then
(some (0 : Int32))
else
(if (3 : Int32) ≤ p0 then
(some (0 : Int32))
else
(some (1 : Int32))))
abbrev rX5_isClimber : Room := { frames := 0, cells := 0, slots := 0, locals := 0 }
theorem hdX5_isClimber : yX5_isClimber.cls = RX5 ∧ yX5_isClimber.cls ≠ "java/lang/invoke/MethodHandle" ∧ yX5_isClimber.cls ≠ "java/lang/invoke/VarHandle" ∧ (parseMethodDescriptor yX5_isClimber.desc).map (fun d => d.parameters.length) = some 1 := by decide +kernel
set_option maxRecDepth 100000 in
set_option maxHeartbeats 8000000 in
theorem kX5_isClimber (l : Launch) (g : GG) {p0 : Int32} {res : Int32} (h : fX5_isClimber p0 = some res) : Cg l g yX5_isClimber wsX5_isClimber rX5_isClimber [.int p0] [] (some (.int res)) [] := by
  refine Cg_of (cc := cX5_isClimber) (maxL := 1) (ret := (some .boolean)) (by decide +kernel) rfl (Nat.le_of_ble_eq_true rfl) ?_
  intro p e su m args below meth c A Q ls hx hb hml hown hts hK hN hA hnm hP hD hS hl hend
  unfold fX5_isClimber at h
  have hl : lv_has ls 1 [(0, .int p0)] := hl
  refine lv_iload_n hx hb dX5_isClimber_0 rfl (lv_at hl 0 rfl) ?_
  refine lv_if_lt (tgt := 13) hx hb dX5_isClimber_1 (by decide) (fun c1 => ?_) (fun c1 => ?_)
  · have h := if_t c1 h
    refine lv_iconst (v := 0) hx hb dX5_isClimber_13 (by decide) ?_
    cases some_i h
    exact hend _ _ _ _ _ hP hD hS (RetOK.z dX5_isClimber_14 (Or.inl rfl))
  · have h := if_f c1 h
    refine lv_iload_n hx hb dX5_isClimber_4 rfl (lv_at hl 0 rfl) ?_
    refine lv_iconst (v := 3) hx hb dX5_isClimber_5 (by decide) ?_
    refine lv_icmp_ge (tgt := 13) hx hb dX5_isClimber_6 (by decide) (fun c2 => ?_) (fun c2 => ?_)
    · have h := if_t c2 h
      refine lv_iconst (v := 0) hx hb dX5_isClimber_13 (by decide) ?_
      cases some_i h
      exact hend _ _ _ _ _ hP hD hS (RetOK.z dX5_isClimber_14 (Or.inl rfl))
    · have h := if_f c2 h
      refine lv_iconst (v := 1) hx hb dX5_isClimber_9 (by decide) ?_
      refine lv_goto (tgt := 14) hx hb dX5_isClimber_10 (by decide) ?_
      cases some_i h
      exact hend _ _ _ _ _ hP hD hS (RetOK.z dX5_isClimber_14 (Or.inr rfl))
def fX2_climberFact (st : St) (p1 : Int32) (p2 : Int32) : Option (Int32) :=
(bd (fX5_isClimber p1) fun (r1 : Int32) =>
(if r1 = (0 : Int32) then
(some (-1 : Int32))
else
(if p2 = (0 : Int32) then
(ck (inb p1 3)
(some (St_under st p1.toNatClampNeg)))
else
(if p2 = (1 : Int32) then
(ck (inb p1 3)
(some (St_beginnings st p1.toNatClampNeg)))
else
(if p2 = (2 : Int32) then
(ck (inb p1 3)
(some (St_ends st p1.toNatClampNeg)))
else
(if p2 = (3 : Int32) then
(ck (inb p1 3)
(if (St_under st p1.toNatClampNeg) = (-1 : Int32) then
(some (0 : Int32))
else
(ck (inb p1 3)
(some (St_went st p1.toNatClampNeg)))))
else
(if p2 = (4 : Int32) then
(ck (inb p1 3)
(some (St_steps st p1.toNatClampNeg)))
else
(if p2 = (5 : Int32) then
(ck (inb p1 3)
(some (St_ladders st p1.toNatClampNeg)))
else
(ck (inb p1 3)
(some (St_falls st p1.toNatClampNeg)))))))))))
abbrev rX2_climberFact : Room := { frames := 1, cells := 0, slots := 0, locals := 20 }
theorem hdX2_climberFact : yX2_climberFact.cls = RX2 ∧ yX2_climberFact.cls ≠ "java/lang/invoke/MethodHandle" ∧ yX2_climberFact.cls ≠ "java/lang/invoke/VarHandle" ∧ (parseMethodDescriptor yX2_climberFact.desc).map (fun d => d.parameters.length) = some 2 := by decide +kernel
set_option maxRecDepth 100000 in
set_option maxHeartbeats 8000000 in
theorem kX2_climberFact (l : Launch) (g : GG) (a : Nat → Nat) {st : St} {p1 : Int32} {p2 : Int32} {res : Int32} (h : fX2_climberFact st p1 p2 = some res) : Cg l g yX2_climberFact wsX2_climberFact rX2_climberFact [.ref (a 0), .int p1, .int p2] (cSt g a st) (some (.int res)) (cSt g a st) := by
  refine Cg_of (cc := cX2_climberFact) (maxL := 3) (ret := (some .int)) (by decide +kernel) rfl (Nat.le_of_ble_eq_true rfl) ?_
  intro p e su m args below meth c A Q ls hx hb hml hown hts hK hN hA hnm hP hD hS hl hend
  have hinX2 : ∀ w ∈ u_ws RX2 TX2 17, w ∈ wsX2_climberFact := fun _ h9 => List.mem_cons_of_mem _ (List.mem_append_right _ h9)
  unfold fX2_climberFact at h
  have hl : lv_has ls 3 [(0, .ref (a 0)), (1, .int p1), (2, .int p2)] := hl
  refine lv_iload_n hx hb dX2_climberFact_0 rfl (lv_at hl 1 rfl) ?_
  obtain ⟨r1, kr1, h⟩ := bd_ex h
  refine aft_e (st1 := [.int r1]) rfl (runSN (As := [.int p1]) (rest := []) ⟨hx, hb, hml, hown, hts⟩ (kX5_isClimber l g kr1) ⟨va_cnB 1 hts gX2_climberFact_X5_isClimber_n115 rfl rfl rfl (hN _ (List.mem_of_getElem? (i := 5) rfl)) (hts (.initialized RX5) (List.mem_of_getElem? (i := 9) rfl)) hdX5_isClimber.2 ⟨Nat.le_of_ble_eq_true rfl, Nat.le_of_ble_eq_true rfl⟩, (hts (.static yX5_isClimber) (List.mem_of_getElem? (i := 8) rfl)), trivial⟩ hK hN nilP (nilD (A := A)) rfl hl.1 rfl (Nat.le_of_ble_eq_true rfl) dX2_climberFact_1 ⟨Nat.zero_le _, Nat.zero_le _⟩) hP hS hA (fun H locs hP hS => ?_)
  refine lv_if_ne (tgt := 9) hx hb dX2_climberFact_4 (by decide) (fun c2 => ?_) (fun c2 => ?_)
  · have h := if_f c2 h
    refine lv_iload_n hx hb dX2_climberFact_9 rfl (lv_at hl 2 rfl) ?_
    by_cases c3 : p2 = (0 : Int32)
    · have h := if_t c3 h
      refine lv_tableIn (x := p2) (off := 38) (tgt := 48) hx hb dX2_climberFact_10 (by rw [c3]; decide) (by rw [c3]; decide) (by rw [c3]; decide) (by decide) ?_
      refine lv_aload_n hx hb dX2_climberFact_48 rfl (lv_at hl 0 rfl) ?_
      refine va_get (D := g.1) (ci := 2) (v := .ref (a 3)) (C := RX2) (T := TX2) (N := 17) hx hb hts hinX2 hown hK hP 0 rfl rfl 2 (by decide) (hts (.fieldLink RX2 18 "BarredRungs$State" "under" "[I") (List.mem_of_getElem? (i := 1) rfl)) (fun _ h9 => h9) rfl dX2_climberFact_49 ?_
      refine lv_iload_n hx hb dX2_climberFact_52 rfl (lv_at hl 1 rfl) ?_
      obtain ⟨hi9, h⟩ := ck_ex h
      refine va_iald hx hb hK hP 3 0 rfl rfl (inb_in hi9) dX2_climberFact_53 ?_
      cases some_i h
      exact hend _ _ _ _ _ hP hD hS (RetOK.i dX2_climberFact_54)
    have h := if_f c3 h
    by_cases c4 : p2 = (1 : Int32)
    · have h := if_t c4 h
      refine lv_tableIn (x := p2) (off := 45) (tgt := 55) hx hb dX2_climberFact_10 (by rw [c4]; decide) (by rw [c4]; decide) (by rw [c4]; decide) (by decide) ?_
      refine lv_aload_n hx hb dX2_climberFact_55 rfl (lv_at hl 0 rfl) ?_
      refine va_get (D := g.1) (ci := 2) (v := .ref (a 4)) (C := RX2) (T := TX2) (N := 17) hx hb hts hinX2 hown hK hP 0 rfl rfl 3 (by decide) (hts (.fieldLink RX2 21 "BarredRungs$State" "beginnings" "[I") (List.mem_of_getElem? (i := 2) rfl)) (fun _ h9 => h9) rfl dX2_climberFact_56 ?_
      refine lv_iload_n hx hb dX2_climberFact_59 rfl (lv_at hl 1 rfl) ?_
      obtain ⟨hi9, h⟩ := ck_ex h
      refine va_iald hx hb hK hP 4 0 rfl rfl (inb_in hi9) dX2_climberFact_60 ?_
      cases some_i h
      exact hend _ _ _ _ _ hP hD hS (RetOK.i dX2_climberFact_61)
    have h := if_f c4 h
    by_cases c5 : p2 = (2 : Int32)
    · have h := if_t c5 h
      refine lv_tableIn (x := p2) (off := 52) (tgt := 62) hx hb dX2_climberFact_10 (by rw [c5]; decide) (by rw [c5]; decide) (by rw [c5]; decide) (by decide) ?_
      refine lv_aload_n hx hb dX2_climberFact_62 rfl (lv_at hl 0 rfl) ?_
      refine va_get (D := g.1) (ci := 2) (v := .ref (a 5)) (C := RX2) (T := TX2) (N := 17) hx hb hts hinX2 hown hK hP 0 rfl rfl 4 (by decide) (hts (.fieldLink RX2 24 "BarredRungs$State" "ends" "[I") (List.mem_of_getElem? (i := 3) rfl)) (fun _ h9 => h9) rfl dX2_climberFact_63 ?_
      refine lv_iload_n hx hb dX2_climberFact_66 rfl (lv_at hl 1 rfl) ?_
      obtain ⟨hi9, h⟩ := ck_ex h
      refine va_iald hx hb hK hP 5 0 rfl rfl (inb_in hi9) dX2_climberFact_67 ?_
      cases some_i h
      exact hend _ _ _ _ _ hP hD hS (RetOK.i dX2_climberFact_68)
    have h := if_f c5 h
    by_cases c6 : p2 = (3 : Int32)
    · have h := if_t c6 h
      refine lv_tableIn (x := p2) (off := 59) (tgt := 69) hx hb dX2_climberFact_10 (by rw [c6]; decide) (by rw [c6]; decide) (by rw [c6]; decide) (by decide) ?_
      refine lv_aload_n hx hb dX2_climberFact_69 rfl (lv_at hl 0 rfl) ?_
      refine va_get (D := g.1) (ci := 2) (v := .ref (a 3)) (C := RX2) (T := TX2) (N := 17) hx hb hts hinX2 hown hK hP 0 rfl rfl 2 (by decide) (hts (.fieldLink RX2 18 "BarredRungs$State" "under" "[I") (List.mem_of_getElem? (i := 1) rfl)) (fun _ h9 => h9) rfl dX2_climberFact_70 ?_
      refine lv_iload_n hx hb dX2_climberFact_73 rfl (lv_at hl 1 rfl) ?_
      obtain ⟨hi9, h⟩ := ck_ex h
      refine va_iald hx hb hK hP 3 0 rfl rfl (inb_in hi9) dX2_climberFact_74 ?_
      refine lv_iconst (v := -1) hx hb dX2_climberFact_75 (by decide) ?_
      refine lv_icmp_ne (tgt := 83) hx hb dX2_climberFact_76 (by decide) (fun c7 => ?_) (fun c7 => ?_)
      · have h := if_f c7 h
        refine lv_aload_n hx hb dX2_climberFact_83 rfl (lv_at hl 0 rfl) ?_
        refine va_get (D := g.1) (ci := 2) (v := .ref (a 6)) (C := RX2) (T := TX2) (N := 17) hx hb hts hinX2 hown hK hP 0 rfl rfl 5 (by decide) (hts (.fieldLink RX2 27 "BarredRungs$State" "went" "[I") (List.mem_of_getElem? (i := 4) rfl)) (fun _ h9 => h9) rfl dX2_climberFact_84 ?_
        refine lv_iload_n hx hb dX2_climberFact_87 rfl (lv_at hl 1 rfl) ?_
        obtain ⟨hi9, h⟩ := ck_ex h
        refine va_iald hx hb hK hP 6 0 rfl rfl (inb_in hi9) dX2_climberFact_88 ?_
        cases some_i h
        exact hend _ _ _ _ _ hP hD hS (RetOK.i dX2_climberFact_89)
      · have h := if_t c7 h
        refine lv_iconst (v := 0) hx hb dX2_climberFact_79 (by decide) ?_
        refine lv_goto (tgt := 89) hx hb dX2_climberFact_80 (by decide) ?_
        cases some_i h
        exact hend _ _ _ _ _ hP hD hS (RetOK.i dX2_climberFact_89)
    have h := if_f c6 h
    by_cases c8 : p2 = (4 : Int32)
    · have h := if_t c8 h
      refine lv_tableIn (x := p2) (off := 80) (tgt := 90) hx hb dX2_climberFact_10 (by rw [c8]; decide) (by rw [c8]; decide) (by rw [c8]; decide) (by decide) ?_
      refine lv_aload_n hx hb dX2_climberFact_90 rfl (lv_at hl 0 rfl) ?_
      refine va_get (D := g.1) (ci := 2) (v := .ref (a 7)) (C := RX2) (T := TX2) (N := 17) hx hb hts hinX2 hown hK hP 0 rfl rfl 6 (by decide) (hts (.fieldLink RX2 30 "BarredRungs$State" "steps" "[I") (List.mem_of_getElem? (i := 5) rfl)) (fun _ h9 => h9) rfl dX2_climberFact_91 ?_
      refine lv_iload_n hx hb dX2_climberFact_94 rfl (lv_at hl 1 rfl) ?_
      obtain ⟨hi9, h⟩ := ck_ex h
      refine va_iald hx hb hK hP 7 0 rfl rfl (inb_in hi9) dX2_climberFact_95 ?_
      cases some_i h
      exact hend _ _ _ _ _ hP hD hS (RetOK.i dX2_climberFact_96)
    have h := if_f c8 h
    by_cases c9 : p2 = (5 : Int32)
    · have h := if_t c9 h
      refine lv_tableIn (x := p2) (off := 87) (tgt := 97) hx hb dX2_climberFact_10 (by rw [c9]; decide) (by rw [c9]; decide) (by rw [c9]; decide) (by decide) ?_
      refine lv_aload_n hx hb dX2_climberFact_97 rfl (lv_at hl 0 rfl) ?_
      refine va_get (D := g.1) (ci := 2) (v := .ref (a 8)) (C := RX2) (T := TX2) (N := 17) hx hb hts hinX2 hown hK hP 0 rfl rfl 7 (by decide) (hts (.fieldLink RX2 33 "BarredRungs$State" "ladders" "[I") (List.mem_of_getElem? (i := 6) rfl)) (fun _ h9 => h9) rfl dX2_climberFact_98 ?_
      refine lv_iload_n hx hb dX2_climberFact_101 rfl (lv_at hl 1 rfl) ?_
      obtain ⟨hi9, h⟩ := ck_ex h
      refine va_iald hx hb hK hP 8 0 rfl rfl (inb_in hi9) dX2_climberFact_102 ?_
      cases some_i h
      exact hend _ _ _ _ _ hP hD hS (RetOK.i dX2_climberFact_103)
    have h := if_f c9 h
    have nc3 : ¬ (p2).toInt = 0 := fun q => c3 (Int32.toInt_inj.mp (by rw [q]; rfl))
    have nc4 : ¬ (p2).toInt = 1 := fun q => c4 (Int32.toInt_inj.mp (by rw [q]; rfl))
    have nc5 : ¬ (p2).toInt = 2 := fun q => c5 (Int32.toInt_inj.mp (by rw [q]; rfl))
    have nc6 : ¬ (p2).toInt = 3 := fun q => c6 (Int32.toInt_inj.mp (by rw [q]; rfl))
    have nc8 : ¬ (p2).toInt = 4 := fun q => c8 (Int32.toInt_inj.mp (by rw [q]; rfl))
    have nc9 : ¬ (p2).toInt = 5 := fun q => c9 (Int32.toInt_inj.mp (by rw [q]; rfl))
    refine lv_tableOut (x := p2) (tgt := 104) hx hb dX2_climberFact_10 (by omega) (by decide) ?_
    refine lv_aload_n hx hb dX2_climberFact_104 rfl (lv_at hl 0 rfl) ?_
    refine va_get (D := g.1) (ci := 2) (v := .ref (a 9)) (C := RX2) (T := TX2) (N := 17) hx hb hts hinX2 hown hK hP 0 rfl rfl 8 (by decide) (hts (.fieldLink RX2 36 "BarredRungs$State" "falls" "[I") (List.mem_of_getElem? (i := 7) rfl)) (fun _ h9 => h9) rfl dX2_climberFact_105 ?_
    refine lv_iload_n hx hb dX2_climberFact_108 rfl (lv_at hl 1 rfl) ?_
    obtain ⟨hi9, h⟩ := ck_ex h
    refine va_iald hx hb hK hP 9 0 rfl rfl (inb_in hi9) dX2_climberFact_109 ?_
    cases some_i h
    exact hend _ _ _ _ _ hP hD hS (RetOK.i dX2_climberFact_110)
  · have h := if_t c2 h
    refine lv_iconst (v := -1) hx hb dX2_climberFact_7 (by decide) ?_
    cases some_i h
    exact hend _ _ _ _ _ hP hD hS (RetOK.i dX2_climberFact_8)
def fX2_climberOn_L2 (st : St) (p1 : Int32) : Nat → Int32 → Option (Int32)
  | 0, _ => none
  | n + 1, v2_1 =>
    (if (3 : Int32) ≤ v2_1 then
    (some (-1 : Int32))
    else
    (ck (inb v2_1 3)
    (if (St_under st v2_1.toNatClampNeg) = p1 then
    (some v2_1)
    else
    (pl ((v2_1 + (1 : Int32))) fun (x4 : Int32) =>
    (fX2_climberOn_L2 st p1 n x4)))))
def fX2_climberOn (st : St) (p1 : Int32) : Option (Int32) :=
(fX2_climberOn_L2 st p1 1000 (0 : Int32))
abbrev rX2_climberOn : Room := { frames := 0, cells := 0, slots := 0, locals := 0 }
theorem hdX2_climberOn : yX2_climberOn.cls = RX2 ∧ yX2_climberOn.cls ≠ "java/lang/invoke/MethodHandle" ∧ yX2_climberOn.cls ≠ "java/lang/invoke/VarHandle" ∧ (parseMethodDescriptor yX2_climberOn.desc).map (fun d => d.parameters.length) = some 1 := by decide +kernel
set_option maxRecDepth 100000 in
set_option maxHeartbeats 8000000 in
theorem kX2_climberOn (l : Launch) (g : GG) (a : Nat → Nat) {st : St} {p1 : Int32} {res : Int32} (h : fX2_climberOn st p1 = some res) : Cg l g yX2_climberOn wsX2_climberOn rX2_climberOn [.ref (a 0), .int p1] (cSt g a st) (some (.int res)) (cSt g a st) := by
  refine Cg_of (cc := cX2_climberOn) (maxL := 3) (ret := (some .int)) (by decide +kernel) rfl (Nat.le_of_ble_eq_true rfl) ?_
  intro p e su m args below meth c A Q ls hx hb hml hown hts hK hN hA hnm hP hD hS hl hend
  have hinX2 : ∀ w ∈ u_ws RX2 TX2 17, w ∈ wsX2_climberOn := fun _ h9 => List.mem_cons_of_mem _ (List.mem_append_right _ h9)
  unfold fX2_climberOn at h
  have hl : lv_has ls 3 [(0, .ref (a 0)), (1, .int p1)] := hl
  refine lv_iconst (v := 0) hx hb dX2_climberOn_0 (by decide) ?_
  refine lv_istore_n (lv' := [(2, .int (0 : Int32)), (0, .ref (a 0)), (1, .int p1)]) hx hb dX2_climberOn_1 rfl hl (by decide) rfl (fun ls hl => ?_)
  have L2 : ∀ (n : Nat) (v2_1 : Int32) (H : Heap) (locs : List Loc) (ls : Array Slot), fX2_climberOn_L2 st p1 n v2_1 = some res → va_P g.1 vwCl (cSt g a st) H → va_D A (cSt g a st) → va_S A su.heap H locs → lv_has ls 3 [(0, .ref (a 0)), (1, .int p1), (2, .int v2_1)] → W p l e rX2_climberOn su m args below meth c H locs 0 0 Q (F0 m 2 ls []) := by
    intro n
    induction n with
    | zero => intro v2_1 H locs ls h hP hD hS hl; cases h
    | succ n ih =>
      intro v2_1 H locs ls h hP hD hS hl
      rw [fX2_climberOn_L2] at h
      refine lv_iload_n hx hb dX2_climberOn_2 rfl (lv_at hl 2 rfl) ?_
      refine lv_iconst (v := 3) hx hb dX2_climberOn_3 (by decide) ?_
      refine lv_icmp_ge (tgt := 25) hx hb dX2_climberOn_4 (by decide) (fun c2 => ?_) (fun c2 => ?_)
      · have h := if_t c2 h
        refine lv_iconst (v := -1) hx hb dX2_climberOn_25 (by decide) ?_
        cases some_i h
        exact hend _ _ _ _ _ hP hD hS (RetOK.i dX2_climberOn_26)
      · have h := if_f c2 h
        refine lv_aload_n hx hb dX2_climberOn_7 rfl (lv_at hl 0 rfl) ?_
        refine va_get (D := g.1) (ci := 2) (v := .ref (a 3)) (C := RX2) (T := TX2) (N := 17) hx hb hts hinX2 hown hK hP 0 rfl rfl 2 (by decide) (hts (.fieldLink RX2 18 "BarredRungs$State" "under" "[I") (List.mem_of_getElem? (i := 1) rfl)) (fun _ h9 => h9) rfl dX2_climberOn_8 ?_
        refine lv_iload_n hx hb dX2_climberOn_11 rfl (lv_at hl 2 rfl) ?_
        obtain ⟨hi9, h⟩ := ck_ex h
        refine va_iald hx hb hK hP 3 0 rfl rfl (inb_in hi9) dX2_climberOn_12 ?_
        refine lv_iload_n hx hb dX2_climberOn_13 rfl (lv_at hl 1 rfl) ?_
        refine lv_icmp_ne (tgt := 19) hx hb dX2_climberOn_14 (by decide) (fun c3 => ?_) (fun c3 => ?_)
        · have h := if_f c3 h
          obtain ⟨x4, ex4, h⟩ := pl_ex h
          refine lv_iinc (v := x4) (lv' := [(2, .int x4), (0, .ref (a 0)), (1, .int p1)]) hx hb dX2_climberOn_19 hl (k := 2) rfl (by rw [← ex4]; rfl) (by decide) rfl (fun ls hl => ?_)
          refine lv_goto (tgt := 2) hx hb dX2_climberOn_22 (by decide) ?_
          exact ih x4 _ _ _ h hP hD hS (lv_sub hl [1, 2, 0] rfl)
        · have h := if_t c3 h
          refine lv_iload_n hx hb dX2_climberOn_17 rfl (lv_at hl 2 rfl) ?_
          cases some_i h
          exact hend _ _ _ _ _ hP hD hS (RetOK.i dX2_climberOn_18)
  exact L2 1000 (0 : Int32) _ _ _ h hP hD hS (lv_sub hl [1, 2, 0] rfl)
def fX2_climbersOnWords_L4 (st : St) : Nat → Int32 → Int32 → Option (Int32)
  | 0, _, _ => none
  | n + 1, v1_1, v2_2 =>
    (if (3 : Int32) ≤ v2_2 then
    (some v1_1)
    else
    (ck (inb v2_2 3)
    (if (St_under st v2_2.toNatClampNeg) = (-1 : Int32) then
    (pl ((v2_2 + (1 : Int32))) fun (x6 : Int32) =>
    (fX2_climbersOnWords_L4 st n v1_1 x6))
    else
    (pl ((v1_1 + (1 : Int32))) fun (x7 : Int32) =>
    (pl ((v2_2 + (1 : Int32))) fun (x8 : Int32) =>
    (fX2_climbersOnWords_L4 st n x7 x8))))))
def fX2_climbersOnWords (st : St) : Option (Int32) :=
(bd (fX2_climbersOnWords_L4 st 1000 (0 : Int32) (0 : Int32)) fun (v1_9 : Int32) =>
(some v1_9))
abbrev rX2_climbersOnWords : Room := { frames := 0, cells := 0, slots := 0, locals := 0 }
theorem hdX2_climbersOnWords : yX2_climbersOnWords.cls = RX2 ∧ yX2_climbersOnWords.cls ≠ "java/lang/invoke/MethodHandle" ∧ yX2_climbersOnWords.cls ≠ "java/lang/invoke/VarHandle" ∧ (parseMethodDescriptor yX2_climbersOnWords.desc).map (fun d => d.parameters.length) = some 0 := by decide +kernel
set_option maxRecDepth 100000 in
set_option maxHeartbeats 8000000 in
theorem kX2_climbersOnWords (l : Launch) (g : GG) (a : Nat → Nat) {st : St} {res : Int32} (h : fX2_climbersOnWords st = some res) : Cg l g yX2_climbersOnWords wsX2_climbersOnWords rX2_climbersOnWords [.ref (a 0)] (cSt g a st) (some (.int res)) (cSt g a st) := by
  refine Cg_of (cc := cX2_climbersOnWords) (maxL := 3) (ret := (some .int)) (by decide +kernel) rfl (Nat.le_of_ble_eq_true rfl) ?_
  intro p e su m args below meth c A Q ls hx hb hml hown hts hK hN hA hnm hP hD hS hl hend
  have hinX2 : ∀ w ∈ u_ws RX2 TX2 17, w ∈ wsX2_climbersOnWords := fun _ h9 => List.mem_cons_of_mem _ (List.mem_append_right _ h9)
  unfold fX2_climbersOnWords at h
  have hl : lv_has ls 3 [(0, .ref (a 0))] := hl
  refine lv_iconst (v := 0) hx hb dX2_climbersOnWords_0 (by decide) ?_
  refine lv_istore_n (lv' := [(1, .int (0 : Int32)), (0, .ref (a 0))]) hx hb dX2_climbersOnWords_1 rfl hl (by decide) rfl (fun ls hl => ?_)
  refine lv_iconst (v := 0) hx hb dX2_climbersOnWords_2 (by decide) ?_
  refine lv_istore_n (lv' := [(2, .int (0 : Int32)), (1, .int (0 : Int32)), (0, .ref (a 0))]) hx hb dX2_climbersOnWords_3 rfl hl (by decide) rfl (fun ls hl => ?_)
  have L4 : ∀ (n : Nat) (v1_1 : Int32) (v2_2 : Int32) (y1_3 : Int32) (H : Heap) (locs : List Loc) (ls : Array Slot), fX2_climbersOnWords_L4 st n v1_1 v2_2 = some y1_3 → va_P g.1 vwCl (cSt g a st) H → va_D A (cSt g a st) → va_S A su.heap H locs → lv_has ls 3 [(0, .ref (a 0)), (1, .int v1_1), (2, .int v2_2)] → (∀ (H : Heap) (locs : List Loc) (ls : Array Slot), va_P g.1 vwCl (cSt g a st) H → va_D A (cSt g a st) → va_S A su.heap H locs → lv_has ls 3 [(1, .int y1_3)] → W p l e rX2_climbersOnWords su m args below meth c H locs 0 0 Q (F0 m 28 ls [])) → W p l e rX2_climbersOnWords su m args below meth c H locs 0 0 Q (F0 m 4 ls []) := by
    intro n
    induction n with
    | zero => intro v1_1 v2_2 y1_3 H locs ls h hP hD hS hl kx; cases h
    | succ n ih =>
      intro v1_1 v2_2 y1_3 H locs ls h hP hD hS hl kx
      rw [fX2_climbersOnWords_L4] at h
      refine lv_iload_n hx hb dX2_climbersOnWords_4 rfl (lv_at hl 2 rfl) ?_
      refine lv_iconst (v := 3) hx hb dX2_climbersOnWords_5 (by decide) ?_
      refine lv_icmp_ge (tgt := 28) hx hb dX2_climbersOnWords_6 (by decide) (fun c4 => ?_) (fun c4 => ?_)
      · have h := if_t c4 h
        cases some_i h
        exact kx _ _ _ hP hD hS (lv_sub hl [1] rfl)
      · have h := if_f c4 h
        refine lv_aload_n hx hb dX2_climbersOnWords_9 rfl (lv_at hl 0 rfl) ?_
        refine va_get (D := g.1) (ci := 2) (v := .ref (a 3)) (C := RX2) (T := TX2) (N := 17) hx hb hts hinX2 hown hK hP 0 rfl rfl 2 (by decide) (hts (.fieldLink RX2 18 "BarredRungs$State" "under" "[I") (List.mem_of_getElem? (i := 1) rfl)) (fun _ h9 => h9) rfl dX2_climbersOnWords_10 ?_
        refine lv_iload_n hx hb dX2_climbersOnWords_13 rfl (lv_at hl 2 rfl) ?_
        obtain ⟨hi9, h⟩ := ck_ex h
        refine va_iald hx hb hK hP 3 0 rfl rfl (inb_in hi9) dX2_climbersOnWords_14 ?_
        refine lv_iconst (v := -1) hx hb dX2_climbersOnWords_15 (by decide) ?_
        refine lv_icmp_eq (tgt := 22) hx hb dX2_climbersOnWords_16 (by decide) (fun c5 => ?_) (fun c5 => ?_)
        · have h := if_t c5 h
          obtain ⟨x6, ex6, h⟩ := pl_ex h
          refine lv_iinc (v := x6) (lv' := [(2, .int x6), (0, .ref (a 0)), (1, .int v1_1)]) hx hb dX2_climbersOnWords_22 hl (k := 2) rfl (by rw [← ex6]; rfl) (by decide) rfl (fun ls hl => ?_)
          refine lv_goto (tgt := 4) hx hb dX2_climbersOnWords_25 (by decide) ?_
          exact ih v1_1 x6 _ _ _ _ h hP hD hS (lv_sub hl [1, 2, 0] rfl) kx
        · have h := if_f c5 h
          obtain ⟨x7, ex7, h⟩ := pl_ex h
          refine lv_iinc (v := x7) (lv' := [(1, .int x7), (0, .ref (a 0)), (2, .int v2_2)]) hx hb dX2_climbersOnWords_19 hl (k := 1) rfl (by rw [← ex7]; rfl) (by decide) rfl (fun ls hl => ?_)
          obtain ⟨x8, ex8, h⟩ := pl_ex h
          refine lv_iinc (v := x8) (lv' := [(2, .int x8), (1, .int x7), (0, .ref (a 0))]) hx hb dX2_climbersOnWords_22 hl (k := 2) rfl (by rw [← ex8]; rfl) (by decide) rfl (fun ls hl => ?_)
          refine lv_goto (tgt := 4) hx hb dX2_climbersOnWords_25 (by decide) ?_
          exact ih x7 x8 _ _ _ _ h hP hD hS (lv_sub hl [2, 1, 0] rfl) kx
  obtain ⟨v1_9, kv1_9, h⟩ := bd_ex h
  refine L4 1000 (0 : Int32) (0 : Int32) v1_9 _ _ _ kv1_9 hP hD hS (lv_sub hl [2, 1, 0] rfl) (fun H locs ls hP hD hS hl => ?_)
  refine lv_iload_n hx hb dX2_climbersOnWords_28 rfl (lv_at hl 0 rfl) ?_
  cases some_i h
  exact hend _ _ _ _ _ hP hD hS (RetOK.i dX2_climbersOnWords_29)
def fX2_fallsSoFar_L4 (st : St) : Nat → Int32 → Int32 → Option (Int32)
  | 0, _, _ => none
  | n + 1, v1_1, v2_2 =>
    (if (3 : Int32) ≤ v2_2 then
    (some v1_1)
    else
    (ck (inb v2_2 3)
    (pl ((v1_1 + (St_falls st v2_2.toNatClampNeg))) fun (x5 : Int32) =>
    (pl ((v2_2 + (1 : Int32))) fun (x6 : Int32) =>
    (fX2_fallsSoFar_L4 st n x5 x6)))))
def fX2_fallsSoFar (st : St) : Option (Int32) :=
(bd (fX2_fallsSoFar_L4 st 1000 (0 : Int32) (0 : Int32)) fun (v1_7 : Int32) =>
(some v1_7))
abbrev rX2_fallsSoFar : Room := { frames := 0, cells := 0, slots := 0, locals := 0 }
theorem hdX2_fallsSoFar : yX2_fallsSoFar.cls = RX2 ∧ yX2_fallsSoFar.cls ≠ "java/lang/invoke/MethodHandle" ∧ yX2_fallsSoFar.cls ≠ "java/lang/invoke/VarHandle" ∧ (parseMethodDescriptor yX2_fallsSoFar.desc).map (fun d => d.parameters.length) = some 0 := by decide +kernel
set_option maxRecDepth 100000 in
set_option maxHeartbeats 8000000 in
theorem kX2_fallsSoFar (l : Launch) (g : GG) (a : Nat → Nat) {st : St} {res : Int32} (h : fX2_fallsSoFar st = some res) : Cg l g yX2_fallsSoFar wsX2_fallsSoFar rX2_fallsSoFar [.ref (a 0)] (cSt g a st) (some (.int res)) (cSt g a st) := by
  refine Cg_of (cc := cX2_fallsSoFar) (maxL := 3) (ret := (some .int)) (by decide +kernel) rfl (Nat.le_of_ble_eq_true rfl) ?_
  intro p e su m args below meth c A Q ls hx hb hml hown hts hK hN hA hnm hP hD hS hl hend
  have hinX2 : ∀ w ∈ u_ws RX2 TX2 17, w ∈ wsX2_fallsSoFar := fun _ h9 => List.mem_cons_of_mem _ (List.mem_append_right _ h9)
  unfold fX2_fallsSoFar at h
  have hl : lv_has ls 3 [(0, .ref (a 0))] := hl
  refine lv_iconst (v := 0) hx hb dX2_fallsSoFar_0 (by decide) ?_
  refine lv_istore_n (lv' := [(1, .int (0 : Int32)), (0, .ref (a 0))]) hx hb dX2_fallsSoFar_1 rfl hl (by decide) rfl (fun ls hl => ?_)
  refine lv_iconst (v := 0) hx hb dX2_fallsSoFar_2 (by decide) ?_
  refine lv_istore_n (lv' := [(2, .int (0 : Int32)), (1, .int (0 : Int32)), (0, .ref (a 0))]) hx hb dX2_fallsSoFar_3 rfl hl (by decide) rfl (fun ls hl => ?_)
  have L4 : ∀ (n : Nat) (v1_1 : Int32) (v2_2 : Int32) (y1_3 : Int32) (H : Heap) (locs : List Loc) (ls : Array Slot), fX2_fallsSoFar_L4 st n v1_1 v2_2 = some y1_3 → va_P g.1 vwCl (cSt g a st) H → va_D A (cSt g a st) → va_S A su.heap H locs → lv_has ls 3 [(0, .ref (a 0)), (1, .int v1_1), (2, .int v2_2)] → (∀ (H : Heap) (locs : List Loc) (ls : Array Slot), va_P g.1 vwCl (cSt g a st) H → va_D A (cSt g a st) → va_S A su.heap H locs → lv_has ls 3 [(1, .int y1_3)] → W p l e rX2_fallsSoFar su m args below meth c H locs 0 0 Q (F0 m 24 ls [])) → W p l e rX2_fallsSoFar su m args below meth c H locs 0 0 Q (F0 m 4 ls []) := by
    intro n
    induction n with
    | zero => intro v1_1 v2_2 y1_3 H locs ls h hP hD hS hl kx; cases h
    | succ n ih =>
      intro v1_1 v2_2 y1_3 H locs ls h hP hD hS hl kx
      rw [fX2_fallsSoFar_L4] at h
      refine lv_iload_n hx hb dX2_fallsSoFar_4 rfl (lv_at hl 2 rfl) ?_
      refine lv_iconst (v := 3) hx hb dX2_fallsSoFar_5 (by decide) ?_
      refine lv_icmp_ge (tgt := 24) hx hb dX2_fallsSoFar_6 (by decide) (fun c4 => ?_) (fun c4 => ?_)
      · have h := if_t c4 h
        cases some_i h
        exact kx _ _ _ hP hD hS (lv_sub hl [1] rfl)
      · have h := if_f c4 h
        refine lv_iload_n hx hb dX2_fallsSoFar_9 rfl (lv_at hl 1 rfl) ?_
        refine lv_aload_n hx hb dX2_fallsSoFar_10 rfl (lv_at hl 0 rfl) ?_
        refine va_get (D := g.1) (ci := 2) (v := .ref (a 9)) (C := RX2) (T := TX2) (N := 17) hx hb hts hinX2 hown hK hP 0 rfl rfl 8 (by decide) (hts (.fieldLink RX2 36 "BarredRungs$State" "falls" "[I") (List.mem_of_getElem? (i := 1) rfl)) (fun _ h9 => h9) rfl dX2_fallsSoFar_11 ?_
        refine lv_iload_n hx hb dX2_fallsSoFar_14 rfl (lv_at hl 2 rfl) ?_
        obtain ⟨hi9, h⟩ := ck_ex h
        refine va_iald hx hb hK hP 9 0 rfl rfl (inb_in hi9) dX2_fallsSoFar_15 ?_
        refine lv_iadd hx hb dX2_fallsSoFar_16 ?_
        obtain ⟨x5, ex5, h⟩ := pl_ex h
        refine lv_eqi ex5 ?_
        refine lv_istore_n (lv' := [(1, .int x5), (0, .ref (a 0)), (2, .int v2_2)]) hx hb dX2_fallsSoFar_17 rfl hl (by decide) rfl (fun ls hl => ?_)
        obtain ⟨x6, ex6, h⟩ := pl_ex h
        refine lv_iinc (v := x6) (lv' := [(2, .int x6), (1, .int x5), (0, .ref (a 0))]) hx hb dX2_fallsSoFar_18 hl (k := 2) rfl (by rw [← ex6]; rfl) (by decide) rfl (fun ls hl => ?_)
        refine lv_goto (tgt := 4) hx hb dX2_fallsSoFar_21 (by decide) ?_
        exact ih x5 x6 _ _ _ _ h hP hD hS (lv_sub hl [2, 1, 0] rfl) kx
  obtain ⟨v1_7, kv1_7, h⟩ := bd_ex h
  refine L4 1000 (0 : Int32) (0 : Int32) v1_7 _ _ _ kv1_7 hP hD hS (lv_sub hl [2, 1, 0] rfl) (fun H locs ls hP hD hS hl => ?_)
  refine lv_iload_n hx hb dX2_fallsSoFar_24 rfl (lv_at hl 0 rfl) ?_
  cases some_i h
  exact hend _ _ _ _ _ hP hD hS (RetOK.i dX2_fallsSoFar_25)
def fX2_wordUnder (st : St) (p1 : Int32) : Option (Int32) :=
(bd (fX5_isClimber p1) fun (r1 : Int32) =>
(if r1 = (0 : Int32) then
(some (-1 : Int32))
else
(ck (inb p1 3)
(some (St_under st p1.toNatClampNeg)))))
abbrev rX2_wordUnder : Room := { frames := 1, cells := 0, slots := 0, locals := 20 }
theorem hdX2_wordUnder : yX2_wordUnder.cls = RX2 ∧ yX2_wordUnder.cls ≠ "java/lang/invoke/MethodHandle" ∧ yX2_wordUnder.cls ≠ "java/lang/invoke/VarHandle" ∧ (parseMethodDescriptor yX2_wordUnder.desc).map (fun d => d.parameters.length) = some 1 := by decide +kernel
set_option maxRecDepth 100000 in
set_option maxHeartbeats 8000000 in
theorem kX2_wordUnder (l : Launch) (g : GG) (a : Nat → Nat) {st : St} {p1 : Int32} {res : Int32} (h : fX2_wordUnder st p1 = some res) : Cg l g yX2_wordUnder wsX2_wordUnder rX2_wordUnder [.ref (a 0), .int p1] (cSt g a st) (some (.int res)) (cSt g a st) := by
  refine Cg_of (cc := cX2_wordUnder) (maxL := 2) (ret := (some .int)) (by decide +kernel) rfl (Nat.le_of_ble_eq_true rfl) ?_
  intro p e su m args below meth c A Q ls hx hb hml hown hts hK hN hA hnm hP hD hS hl hend
  have hinX2 : ∀ w ∈ u_ws RX2 TX2 17, w ∈ wsX2_wordUnder := fun _ h9 => List.mem_cons_of_mem _ (List.mem_append_right _ h9)
  unfold fX2_wordUnder at h
  have hl : lv_has ls 2 [(0, .ref (a 0)), (1, .int p1)] := hl
  refine lv_iload_n hx hb dX2_wordUnder_0 rfl (lv_at hl 1 rfl) ?_
  obtain ⟨r1, kr1, h⟩ := bd_ex h
  refine aft_e (st1 := [.int r1]) rfl (runSN (As := [.int p1]) (rest := []) ⟨hx, hb, hml, hown, hts⟩ (kX5_isClimber l g kr1) ⟨va_cnB 1 hts gX2_wordUnder_X5_isClimber_n115 rfl rfl rfl (hN _ (List.mem_of_getElem? (i := 5) rfl)) (hts (.initialized RX5) (List.mem_of_getElem? (i := 3) rfl)) hdX5_isClimber.2 ⟨Nat.le_of_ble_eq_true rfl, Nat.le_of_ble_eq_true rfl⟩, (hts (.static yX5_isClimber) (List.mem_of_getElem? (i := 2) rfl)), trivial⟩ hK hN nilP (nilD (A := A)) rfl hl.1 rfl (Nat.le_of_ble_eq_true rfl) dX2_wordUnder_1 ⟨Nat.zero_le _, Nat.zero_le _⟩) hP hS hA (fun H locs hP hS => ?_)
  refine lv_if_eq (tgt := 16) hx hb dX2_wordUnder_4 (by decide) (fun c2 => ?_) (fun c2 => ?_)
  · have h := if_t c2 h
    refine lv_iconst (v := -1) hx hb dX2_wordUnder_16 (by decide) ?_
    cases some_i h
    exact hend _ _ _ _ _ hP hD hS (RetOK.i dX2_wordUnder_17)
  · have h := if_f c2 h
    refine lv_aload_n hx hb dX2_wordUnder_7 rfl (lv_at hl 0 rfl) ?_
    refine va_get (D := g.1) (ci := 2) (v := .ref (a 3)) (C := RX2) (T := TX2) (N := 17) hx hb hts hinX2 hown hK hP 0 rfl rfl 2 (by decide) (hts (.fieldLink RX2 18 "BarredRungs$State" "under" "[I") (List.mem_of_getElem? (i := 1) rfl)) (fun _ h9 => h9) rfl dX2_wordUnder_8 ?_
    refine lv_iload_n hx hb dX2_wordUnder_11 rfl (lv_at hl 1 rfl) ?_
    obtain ⟨hi9, h⟩ := ck_ex h
    refine va_iald hx hb hK hP 3 0 rfl rfl (inb_in hi9) dX2_wordUnder_12 ?_
    refine lv_goto (tgt := 17) hx hb dX2_wordUnder_13 (by decide) ?_
    cases some_i h
    exact hend _ _ _ _ _ hP hD hS (RetOK.i dX2_wordUnder_17)
def fX2_isBarredAfter (st : St) (p1 : Int32) (p2 : Int32) : Option (Int32) :=
(pl (((St_place st) + p2)) fun (x1 : Int32) =>
(bd (fX2_letterAt st p1 (x1 - x1 / (4 : Int32) * (4 : Int32))) fun (r2 : Int32) =>
(bd (fX2_barLetterAfter st x1) fun (r3 : Int32) =>
(if r2 = r3 then
(some (1 : Int32))
else
(some (0 : Int32))))))
abbrev rX2_isBarredAfter : Room := { frames := 2, cells := 0, slots := 0, locals := 43 }
theorem hdX2_isBarredAfter : yX2_isBarredAfter.cls = RX2 ∧ yX2_isBarredAfter.cls ≠ "java/lang/invoke/MethodHandle" ∧ yX2_isBarredAfter.cls ≠ "java/lang/invoke/VarHandle" ∧ (parseMethodDescriptor yX2_isBarredAfter.desc).map (fun d => d.parameters.length) = some 2 := by decide +kernel
set_option maxRecDepth 100000 in
set_option maxHeartbeats 8000000 in
theorem kX2_isBarredAfter (l : Launch) (g : GG) (a : Nat → Nat) {st : St} {p1 : Int32} {p2 : Int32} {res : Int32} (h : fX2_isBarredAfter st p1 p2 = some res) : Cg l g yX2_isBarredAfter wsX2_isBarredAfter rX2_isBarredAfter [.ref (a 0), .int p1, .int p2] (cSt g a st) (some (.int res)) (cSt g a st) := by
  refine Cg_of (cc := cX2_isBarredAfter) (maxL := 4) (ret := (some .boolean)) (by decide +kernel) rfl (Nat.le_of_ble_eq_true rfl) ?_
  intro p e su m args below meth c A Q ls hx hb hml hown hts hK hN hA hnm hP hD hS hl hend
  have hinX2 : ∀ w ∈ u_ws RX2 TX2 17, w ∈ wsX2_isBarredAfter := fun _ h9 => List.mem_cons_of_mem _ (List.mem_append_right _ h9)
  unfold fX2_isBarredAfter at h
  have hl : lv_has ls 4 [(0, .ref (a 0)), (1, .int p1), (2, .int p2)] := hl
  refine lv_aload_n hx hb dX2_isBarredAfter_0 rfl (lv_at hl 0 rfl) ?_
  refine va_get (D := g.1) (ci := 2) (v := .int (St_place st)) (C := RX2) (T := TX2) (N := 17) hx hb hts hinX2 hown hK hP 0 rfl rfl 10 (by decide) (hts (.fieldLink RX2 55 "BarredRungs$State" "place" "I") (List.mem_of_getElem? (i := 1) rfl)) (fun _ h9 => h9) rfl dX2_isBarredAfter_1 ?_
  refine lv_iload_n hx hb dX2_isBarredAfter_4 rfl (lv_at hl 2 rfl) ?_
  refine lv_iadd hx hb dX2_isBarredAfter_5 ?_
  obtain ⟨x1, ex1, h⟩ := pl_ex h
  refine lv_eqi ex1 ?_
  refine lv_istore_n (lv' := [(3, .int x1), (0, .ref (a 0)), (1, .int p1), (2, .int p2)]) hx hb dX2_isBarredAfter_6 rfl hl (by decide) rfl (fun ls hl => ?_)
  refine lv_aload_n hx hb dX2_isBarredAfter_7 rfl (lv_at hl 1 rfl) ?_
  refine lv_iload_n hx hb dX2_isBarredAfter_8 rfl (lv_at hl 2 rfl) ?_
  refine lv_iload_n hx hb dX2_isBarredAfter_9 rfl (lv_at hl 0 rfl) ?_
  refine lv_iconst (v := 4) hx hb dX2_isBarredAfter_10 (by decide) ?_
  refine lv_irem hx hb dX2_isBarredAfter_11 (by decide) ?_
  obtain ⟨r2, kr2, h⟩ := bd_ex h
  refine aft_w (st1 := [.int r2]) rfl (runV (As := [.int p1, .int (x1 - x1 / (4 : Int32) * (4 : Int32))]) (rest := []) ⟨hx, hb, hml, hown, hts⟩ (kX2_letterAt l g a kr2) (cwV 2 hts gX2_isBarredAfter_X2_letterAt rfl rfl rfl hdX2_letterAt ⟨Nat.le_of_ble_eq_true rfl, Nat.le_of_ble_eq_true rfl⟩) hK hN hP hD (va_recv hK hP (ci := 2) (q0 := 0) rfl rfl) rfl hl.1 rfl (Nat.le_of_ble_eq_true rfl) dX2_isBarredAfter_12 ⟨Nat.zero_le _, Nat.zero_le _⟩) hD hS hA (fun H locs hP hD hS => ?_)
  refine lv_aload_n hx hb dX2_isBarredAfter_15 rfl (lv_at hl 1 rfl) ?_
  refine lv_iload_n hx hb dX2_isBarredAfter_16 rfl (lv_at hl 0 rfl) ?_
  obtain ⟨r3, kr3, h⟩ := bd_ex h
  refine aft_w (st1 := [.int r3, .int r2]) rfl (runV (As := [.int x1]) (rest := [.int r2]) ⟨hx, hb, hml, hown, hts⟩ (kX2_barLetterAfter l g a kr3) (cwV 1 hts gX2_isBarredAfter_X2_barLetterAfter rfl rfl rfl hdX2_barLetterAfter ⟨Nat.le_of_ble_eq_true rfl, Nat.le_of_ble_eq_true rfl⟩) hK hN hP hD (va_recv hK hP (ci := 2) (q0 := 0) rfl rfl) rfl hl.1 rfl (Nat.le_of_ble_eq_true rfl) dX2_isBarredAfter_17 ⟨Nat.zero_le _, Nat.zero_le _⟩) hD hS hA (fun H locs hP hD hS => ?_)
  refine lv_icmp_ne (tgt := 27) hx hb dX2_isBarredAfter_20 (by decide) (fun c4 => ?_) (fun c4 => ?_)
  · have h := if_f c4 h
    refine lv_iconst (v := 0) hx hb dX2_isBarredAfter_27 (by decide) ?_
    cases some_i h
    exact hend _ _ _ _ _ hP hD hS (RetOK.z dX2_isBarredAfter_28 (Or.inl rfl))
  · have h := if_t c4 h
    refine lv_iconst (v := 1) hx hb dX2_isBarredAfter_23 (by decide) ?_
    refine lv_goto (tgt := 28) hx hb dX2_isBarredAfter_24 (by decide) ?_
    cases some_i h
    exact hend _ _ _ _ _ hP hD hS (RetOK.z dX2_isBarredAfter_28 (Or.inr rfl))
def fX2_hindrance (st : St) (p1 : Int32) (p2 : Int32) : Option (Int32) :=
(bd (fX2_wordUnder st p1) fun (r1 : Int32) =>
(if r1 = (-1 : Int32) then
(some (1 : Int32))
else
(bd (fX2_climberFact st p1 (3 : Int32)) fun (r3 : Int32) =>
(if r3 = (1 : Int32) then
(some (2 : Int32))
else
(bd (fX2_linksOf st r1) fun (r5 : Int32) =>
(bd (fX5_has r5 p2) fun (r6 : Int32) =>
(if r6 = (0 : Int32) then
(some (3 : Int32))
else
(bd (fX2_isBarredAfter st p2 (0 : Int32)) fun (r8 : Int32) =>
(if r8 = (0 : Int32) then
(bd (fX2_climberOn st p2) fun (r10 : Int32) =>
(if r10 = (-1 : Int32) then
(some (0 : Int32))
else
(some (5 : Int32))))
else
(some (4 : Int32)))))))))))
abbrev rX2_hindrance : Room := { frames := 3, cells := 0, slots := 0, locals := 66 }
theorem hdX2_hindrance : yX2_hindrance.cls = RX2 ∧ yX2_hindrance.cls ≠ "java/lang/invoke/MethodHandle" ∧ yX2_hindrance.cls ≠ "java/lang/invoke/VarHandle" ∧ (parseMethodDescriptor yX2_hindrance.desc).map (fun d => d.parameters.length) = some 2 := by decide +kernel
set_option maxRecDepth 100000 in
set_option maxHeartbeats 8000000 in
theorem kX2_hindrance (l : Launch) (g : GG) (a : Nat → Nat) {st : St} {p1 : Int32} {p2 : Int32} {res : Int32} (h : fX2_hindrance st p1 p2 = some res) : Cg l g yX2_hindrance wsX2_hindrance rX2_hindrance [.ref (a 0), .int p1, .int p2] (cSt g a st) (some (.int res)) (cSt g a st) := by
  refine Cg_of (cc := cX2_hindrance) (maxL := 4) (ret := (some .int)) (by decide +kernel) rfl (Nat.le_of_ble_eq_true rfl) ?_
  intro p e su m args below meth c A Q ls hx hb hml hown hts hK hN hA hnm hP hD hS hl hend
  have hinX2 : ∀ w ∈ u_ws RX2 TX2 17, w ∈ wsX2_hindrance := fun _ h9 => List.mem_cons_of_mem _ (List.mem_append_right _ h9)
  unfold fX2_hindrance at h
  have hl : lv_has ls 4 [(0, .ref (a 0)), (1, .int p1), (2, .int p2)] := hl
  refine lv_aload_n hx hb dX2_hindrance_0 rfl (lv_at hl 0 rfl) ?_
  refine lv_iload_n hx hb dX2_hindrance_1 rfl (lv_at hl 1 rfl) ?_
  obtain ⟨r1, kr1, h⟩ := bd_ex h
  refine aft_w (st1 := [.int r1]) rfl (runV (As := [.int p1]) (rest := []) ⟨hx, hb, hml, hown, hts⟩ (kX2_wordUnder l g a kr1) (cwV 1 hts gX2_hindrance_X2_wordUnder rfl rfl rfl hdX2_wordUnder ⟨Nat.le_of_ble_eq_true rfl, Nat.le_of_ble_eq_true rfl⟩) hK hN hP hD (va_recv hK hP (ci := 2) (q0 := 0) rfl rfl) rfl hl.1 rfl (Nat.le_of_ble_eq_true rfl) dX2_hindrance_2 ⟨Nat.zero_le _, Nat.zero_le _⟩) hD hS hA (fun H locs hP hD hS => ?_)
  refine lv_istore_n (lv' := [(3, .int r1), (0, .ref (a 0)), (1, .int p1), (2, .int p2)]) hx hb dX2_hindrance_5 rfl hl (by decide) rfl (fun ls hl => ?_)
  refine lv_iload_n hx hb dX2_hindrance_6 rfl (lv_at hl 0 rfl) ?_
  refine lv_iconst (v := -1) hx hb dX2_hindrance_7 (by decide) ?_
  refine lv_icmp_ne (tgt := 13) hx hb dX2_hindrance_8 (by decide) (fun c2 => ?_) (fun c2 => ?_)
  · have h := if_f c2 h
    refine lv_aload_n hx hb dX2_hindrance_13 rfl (lv_at hl 1 rfl) ?_
    refine lv_iload_n hx hb dX2_hindrance_14 rfl (lv_at hl 2 rfl) ?_
    refine lv_iconst (v := 3) hx hb dX2_hindrance_15 (by decide) ?_
    obtain ⟨r3, kr3, h⟩ := bd_ex h
    refine aft_w (st1 := [.int r3]) rfl (runV (As := [.int p1, .int (3 : Int32)]) (rest := []) ⟨hx, hb, hml, hown, hts⟩ (kX2_climberFact l g a kr3) (cwV 2 hts gX2_hindrance_X2_climberFact rfl rfl rfl hdX2_climberFact ⟨Nat.le_of_ble_eq_true rfl, Nat.le_of_ble_eq_true rfl⟩) hK hN hP hD (va_recv hK hP (ci := 2) (q0 := 0) rfl rfl) rfl hl.1 rfl (Nat.le_of_ble_eq_true rfl) dX2_hindrance_16 ⟨Nat.zero_le _, Nat.zero_le _⟩) hD hS hA (fun H locs hP hD hS => ?_)
    refine lv_iconst (v := 1) hx hb dX2_hindrance_19 (by decide) ?_
    refine lv_icmp_ne (tgt := 25) hx hb dX2_hindrance_20 (by decide) (fun c4 => ?_) (fun c4 => ?_)
    · have h := if_f c4 h
      refine lv_aload_n hx hb dX2_hindrance_25 rfl (lv_at hl 1 rfl) ?_
      refine lv_iload_n hx hb dX2_hindrance_26 rfl (lv_at hl 0 rfl) ?_
      obtain ⟨r5, kr5, h⟩ := bd_ex h
      refine aft_w (st1 := [.int r5]) rfl (runV (As := [.int r1]) (rest := []) ⟨hx, hb, hml, hown, hts⟩ (kX2_linksOf l g a kr5) (cwV 1 hts gX2_hindrance_X2_linksOf rfl rfl rfl hdX2_linksOf ⟨Nat.le_of_ble_eq_true rfl, Nat.le_of_ble_eq_true rfl⟩) hK hN hP hD (va_recv hK hP (ci := 2) (q0 := 0) rfl rfl) rfl hl.1 rfl (Nat.le_of_ble_eq_true rfl) dX2_hindrance_27 ⟨Nat.zero_le _, Nat.zero_le _⟩) hD hS hA (fun H locs hP hD hS => ?_)
      refine lv_iload_n hx hb dX2_hindrance_30 rfl (lv_at hl 3 rfl) ?_
      obtain ⟨r6, kr6, h⟩ := bd_ex h
      refine aft_e (st1 := [.int r6]) rfl (runSN (As := [.int r5, .int p2]) (rest := []) ⟨hx, hb, hml, hown, hts⟩ (kX5_has l g kr6) ⟨va_cnB 2 hts gX2_hindrance_X5_has_n98 rfl rfl rfl (hN _ (List.mem_of_getElem? (i := 3) rfl)) (hts (.initialized RX5) (List.mem_of_getElem? (i := 8) rfl)) hdX5_has.2 ⟨Nat.le_of_ble_eq_true rfl, Nat.le_of_ble_eq_true rfl⟩, (hts (.static yX5_has) (List.mem_of_getElem? (i := 30) rfl)), trivial⟩ hK hN nilP (nilD (A := A)) rfl hl.1 rfl (Nat.le_of_ble_eq_true rfl) dX2_hindrance_31 ⟨Nat.zero_le _, Nat.zero_le _⟩) hP hS hA (fun H locs hP hS => ?_)
      refine lv_if_ne (tgt := 39) hx hb dX2_hindrance_34 (by decide) (fun c7 => ?_) (fun c7 => ?_)
      · have h := if_f c7 h
        refine lv_aload_n hx hb dX2_hindrance_39 rfl (lv_at hl 1 rfl) ?_
        refine lv_iload_n hx hb dX2_hindrance_40 rfl (lv_at hl 3 rfl) ?_
        refine lv_iconst (v := 0) hx hb dX2_hindrance_41 (by decide) ?_
        obtain ⟨r8, kr8, h⟩ := bd_ex h
        refine aft_w (st1 := [.int r8]) rfl (runV (As := [.int p2, .int (0 : Int32)]) (rest := []) ⟨hx, hb, hml, hown, hts⟩ (kX2_isBarredAfter l g a kr8) (cwV 2 hts gX2_hindrance_X2_isBarredAfter rfl rfl rfl hdX2_isBarredAfter ⟨Nat.le_of_ble_eq_true rfl, Nat.le_of_ble_eq_true rfl⟩) hK hN hP hD (va_recv hK hP (ci := 2) (q0 := 0) rfl rfl) rfl hl.1 rfl (Nat.le_of_ble_eq_true rfl) dX2_hindrance_42 ⟨Nat.zero_le _, Nat.zero_le _⟩) hD hS hA (fun H locs hP hD hS => ?_)
        refine lv_if_eq (tgt := 50) hx hb dX2_hindrance_45 (by decide) (fun c9 => ?_) (fun c9 => ?_)
        · have h := if_t c9 h
          refine lv_aload_n hx hb dX2_hindrance_50 rfl (lv_at hl 1 rfl) ?_
          refine lv_iload_n hx hb dX2_hindrance_51 rfl (lv_at hl 3 rfl) ?_
          obtain ⟨r10, kr10, h⟩ := bd_ex h
          refine aft_w (st1 := [.int r10]) rfl (runV (As := [.int p2]) (rest := []) ⟨hx, hb, hml, hown, hts⟩ (kX2_climberOn l g a kr10) (cwV 1 hts gX2_hindrance_X2_climberOn rfl rfl rfl hdX2_climberOn ⟨Nat.le_of_ble_eq_true rfl, Nat.le_of_ble_eq_true rfl⟩) hK hN hP hD (va_recv hK hP (ci := 2) (q0 := 0) rfl rfl) rfl hl.1 rfl (Nat.le_of_ble_eq_true rfl) dX2_hindrance_52 ⟨Nat.zero_le _, Nat.zero_le _⟩) hD hS hA (fun H locs hP hD hS => ?_)
          refine lv_iconst (v := -1) hx hb dX2_hindrance_55 (by decide) ?_
          refine lv_icmp_ne (tgt := 63) hx hb dX2_hindrance_56 (by decide) (fun c11 => ?_) (fun c11 => ?_)
          · have h := if_f c11 h
            refine lv_iconst (v := 5) hx hb dX2_hindrance_63 (by decide) ?_
            cases some_i h
            exact hend _ _ _ _ _ hP hD hS (RetOK.i dX2_hindrance_64)
          · have h := if_t c11 h
            refine lv_iconst (v := 0) hx hb dX2_hindrance_59 (by decide) ?_
            refine lv_goto (tgt := 64) hx hb dX2_hindrance_60 (by decide) ?_
            cases some_i h
            exact hend _ _ _ _ _ hP hD hS (RetOK.i dX2_hindrance_64)
        · have h := if_f c9 h
          refine lv_iconst (v := 4) hx hb dX2_hindrance_48 (by decide) ?_
          cases some_i h
          exact hend _ _ _ _ _ hP hD hS (RetOK.i dX2_hindrance_49)
      · have h := if_t c7 h
        refine lv_iconst (v := 3) hx hb dX2_hindrance_37 (by decide) ?_
        cases some_i h
        exact hend _ _ _ _ _ hP hD hS (RetOK.i dX2_hindrance_38)
    · have h := if_t c4 h
      refine lv_iconst (v := 2) hx hb dX2_hindrance_23 (by decide) ?_
      cases some_i h
      exact hend _ _ _ _ _ hP hD hS (RetOK.i dX2_hindrance_24)
  · have h := if_t c2 h
    refine lv_iconst (v := 1) hx hb dX2_hindrance_11 (by decide) ?_
    cases some_i h
    exact hend _ _ _ _ _ hP hD hS (RetOK.i dX2_hindrance_12)
def fX2_laddersSoFar_L4 (st : St) : Nat → Int32 → Int32 → Option (Int32)
  | 0, _, _ => none
  | n + 1, v1_1, v2_2 =>
    (if (3 : Int32) ≤ v2_2 then
    (some v1_1)
    else
    (ck (inb v2_2 3)
    (pl ((v1_1 + (St_ladders st v2_2.toNatClampNeg))) fun (x5 : Int32) =>
    (pl ((v2_2 + (1 : Int32))) fun (x6 : Int32) =>
    (fX2_laddersSoFar_L4 st n x5 x6)))))
def fX2_laddersSoFar (st : St) : Option (Int32) :=
(bd (fX2_laddersSoFar_L4 st 1000 (0 : Int32) (0 : Int32)) fun (v1_7 : Int32) =>
(some v1_7))
abbrev rX2_laddersSoFar : Room := { frames := 0, cells := 0, slots := 0, locals := 0 }
theorem hdX2_laddersSoFar : yX2_laddersSoFar.cls = RX2 ∧ yX2_laddersSoFar.cls ≠ "java/lang/invoke/MethodHandle" ∧ yX2_laddersSoFar.cls ≠ "java/lang/invoke/VarHandle" ∧ (parseMethodDescriptor yX2_laddersSoFar.desc).map (fun d => d.parameters.length) = some 0 := by decide +kernel
set_option maxRecDepth 100000 in
set_option maxHeartbeats 8000000 in
theorem kX2_laddersSoFar (l : Launch) (g : GG) (a : Nat → Nat) {st : St} {res : Int32} (h : fX2_laddersSoFar st = some res) : Cg l g yX2_laddersSoFar wsX2_laddersSoFar rX2_laddersSoFar [.ref (a 0)] (cSt g a st) (some (.int res)) (cSt g a st) := by
  refine Cg_of (cc := cX2_laddersSoFar) (maxL := 3) (ret := (some .int)) (by decide +kernel) rfl (Nat.le_of_ble_eq_true rfl) ?_
  intro p e su m args below meth c A Q ls hx hb hml hown hts hK hN hA hnm hP hD hS hl hend
  have hinX2 : ∀ w ∈ u_ws RX2 TX2 17, w ∈ wsX2_laddersSoFar := fun _ h9 => List.mem_cons_of_mem _ (List.mem_append_right _ h9)
  unfold fX2_laddersSoFar at h
  have hl : lv_has ls 3 [(0, .ref (a 0))] := hl
  refine lv_iconst (v := 0) hx hb dX2_laddersSoFar_0 (by decide) ?_
  refine lv_istore_n (lv' := [(1, .int (0 : Int32)), (0, .ref (a 0))]) hx hb dX2_laddersSoFar_1 rfl hl (by decide) rfl (fun ls hl => ?_)
  refine lv_iconst (v := 0) hx hb dX2_laddersSoFar_2 (by decide) ?_
  refine lv_istore_n (lv' := [(2, .int (0 : Int32)), (1, .int (0 : Int32)), (0, .ref (a 0))]) hx hb dX2_laddersSoFar_3 rfl hl (by decide) rfl (fun ls hl => ?_)
  have L4 : ∀ (n : Nat) (v1_1 : Int32) (v2_2 : Int32) (y1_3 : Int32) (H : Heap) (locs : List Loc) (ls : Array Slot), fX2_laddersSoFar_L4 st n v1_1 v2_2 = some y1_3 → va_P g.1 vwCl (cSt g a st) H → va_D A (cSt g a st) → va_S A su.heap H locs → lv_has ls 3 [(0, .ref (a 0)), (1, .int v1_1), (2, .int v2_2)] → (∀ (H : Heap) (locs : List Loc) (ls : Array Slot), va_P g.1 vwCl (cSt g a st) H → va_D A (cSt g a st) → va_S A su.heap H locs → lv_has ls 3 [(1, .int y1_3)] → W p l e rX2_laddersSoFar su m args below meth c H locs 0 0 Q (F0 m 24 ls [])) → W p l e rX2_laddersSoFar su m args below meth c H locs 0 0 Q (F0 m 4 ls []) := by
    intro n
    induction n with
    | zero => intro v1_1 v2_2 y1_3 H locs ls h hP hD hS hl kx; cases h
    | succ n ih =>
      intro v1_1 v2_2 y1_3 H locs ls h hP hD hS hl kx
      rw [fX2_laddersSoFar_L4] at h
      refine lv_iload_n hx hb dX2_laddersSoFar_4 rfl (lv_at hl 2 rfl) ?_
      refine lv_iconst (v := 3) hx hb dX2_laddersSoFar_5 (by decide) ?_
      refine lv_icmp_ge (tgt := 24) hx hb dX2_laddersSoFar_6 (by decide) (fun c4 => ?_) (fun c4 => ?_)
      · have h := if_t c4 h
        cases some_i h
        exact kx _ _ _ hP hD hS (lv_sub hl [1] rfl)
      · have h := if_f c4 h
        refine lv_iload_n hx hb dX2_laddersSoFar_9 rfl (lv_at hl 1 rfl) ?_
        refine lv_aload_n hx hb dX2_laddersSoFar_10 rfl (lv_at hl 0 rfl) ?_
        refine va_get (D := g.1) (ci := 2) (v := .ref (a 8)) (C := RX2) (T := TX2) (N := 17) hx hb hts hinX2 hown hK hP 0 rfl rfl 7 (by decide) (hts (.fieldLink RX2 33 "BarredRungs$State" "ladders" "[I") (List.mem_of_getElem? (i := 1) rfl)) (fun _ h9 => h9) rfl dX2_laddersSoFar_11 ?_
        refine lv_iload_n hx hb dX2_laddersSoFar_14 rfl (lv_at hl 2 rfl) ?_
        obtain ⟨hi9, h⟩ := ck_ex h
        refine va_iald hx hb hK hP 8 0 rfl rfl (inb_in hi9) dX2_laddersSoFar_15 ?_
        refine lv_iadd hx hb dX2_laddersSoFar_16 ?_
        obtain ⟨x5, ex5, h⟩ := pl_ex h
        refine lv_eqi ex5 ?_
        refine lv_istore_n (lv' := [(1, .int x5), (0, .ref (a 0)), (2, .int v2_2)]) hx hb dX2_laddersSoFar_17 rfl hl (by decide) rfl (fun ls hl => ?_)
        obtain ⟨x6, ex6, h⟩ := pl_ex h
        refine lv_iinc (v := x6) (lv' := [(2, .int x6), (1, .int x5), (0, .ref (a 0))]) hx hb dX2_laddersSoFar_18 hl (k := 2) rfl (by rw [← ex6]; rfl) (by decide) rfl (fun ls hl => ?_)
        refine lv_goto (tgt := 4) hx hb dX2_laddersSoFar_21 (by decide) ?_
        exact ih x5 x6 _ _ _ _ h hP hD hS (lv_sub hl [2, 1, 0] rfl) kx
  obtain ⟨v1_7, kv1_7, h⟩ := bd_ex h
  refine L4 1000 (0 : Int32) (0 : Int32) v1_7 _ _ _ kv1_7 hP hD hS (lv_sub hl [2, 1, 0] rfl) (fun H locs ls hP hD hS hl => ?_)
  refine lv_iload_n hx hb dX2_laddersSoFar_24 rfl (lv_at hl 0 rfl) ?_
  cases some_i h
  exact hend _ _ _ _ _ hP hD hS (RetOK.i dX2_laddersSoFar_25)
def fX2_linkedPairs_L4 (st : St) : Nat → Int32 → Int32 → Option (Int32)
  | 0, _, _ => none
  | n + 1, v1_1, v2_2 =>
    (if (24 : Int32) ≤ v2_2 then
    (some v1_1)
    else
    (ck (inb v2_2 24)
    (bd (fJ6_bitCount_0f7a4 (St_links st v2_2.toNatClampNeg)) fun (r5 : Int32) =>
    (pl ((v1_1 + r5)) fun (x6 : Int32) =>
    (pl ((v2_2 + (1 : Int32))) fun (x7 : Int32) =>
    (fX2_linkedPairs_L4 st n x6 x7))))))
def fX2_linkedPairs (st : St) : Option (Int32) :=
(bd (fX2_linkedPairs_L4 st 1000 (0 : Int32) (0 : Int32)) fun (v1_8 : Int32) =>
(some (v1_8 / (2 : Int32))))
abbrev rX2_linkedPairs : Room := { frames := 1, cells := 0, slots := 0, locals := 20 }
theorem hdX2_linkedPairs : yX2_linkedPairs.cls = RX2 ∧ yX2_linkedPairs.cls ≠ "java/lang/invoke/MethodHandle" ∧ yX2_linkedPairs.cls ≠ "java/lang/invoke/VarHandle" ∧ (parseMethodDescriptor yX2_linkedPairs.desc).map (fun d => d.parameters.length) = some 0 := by decide +kernel
set_option maxRecDepth 100000 in
set_option maxHeartbeats 8000000 in
theorem kX2_linkedPairs (l : Launch) (g : GG) (a : Nat → Nat) {st : St} {res : Int32} (h : fX2_linkedPairs st = some res) : Cg l g yX2_linkedPairs wsX2_linkedPairs rX2_linkedPairs [.ref (a 0)] (cSt g a st) (some (.int res)) (cSt g a st) := by
  refine Cg_of (cc := cX2_linkedPairs) (maxL := 3) (ret := (some .int)) (by decide +kernel) rfl (Nat.le_of_ble_eq_true rfl) ?_
  intro p e su m args below meth c A Q ls hx hb hml hown hts hK hN hA hnm hP hD hS hl hend
  have hinX2 : ∀ w ∈ u_ws RX2 TX2 17, w ∈ wsX2_linkedPairs := fun _ h9 => List.mem_cons_of_mem _ (List.mem_append_right _ h9)
  unfold fX2_linkedPairs at h
  have hl : lv_has ls 3 [(0, .ref (a 0))] := hl
  refine lv_iconst (v := 0) hx hb dX2_linkedPairs_0 (by decide) ?_
  refine lv_istore_n (lv' := [(1, .int (0 : Int32)), (0, .ref (a 0))]) hx hb dX2_linkedPairs_1 rfl hl (by decide) rfl (fun ls hl => ?_)
  refine lv_iconst (v := 0) hx hb dX2_linkedPairs_2 (by decide) ?_
  refine lv_istore_n (lv' := [(2, .int (0 : Int32)), (1, .int (0 : Int32)), (0, .ref (a 0))]) hx hb dX2_linkedPairs_3 rfl hl (by decide) rfl (fun ls hl => ?_)
  have L4 : ∀ (n : Nat) (v1_1 : Int32) (v2_2 : Int32) (y1_3 : Int32) (H : Heap) (locs : List Loc) (ls : Array Slot), fX2_linkedPairs_L4 st n v1_1 v2_2 = some y1_3 → va_P g.1 vwCl (cSt g a st) H → va_D A (cSt g a st) → va_S A su.heap H locs → lv_has ls 3 [(0, .ref (a 0)), (1, .int v1_1), (2, .int v2_2)] → (∀ (H : Heap) (locs : List Loc) (ls : Array Slot), va_P g.1 vwCl (cSt g a st) H → va_D A (cSt g a st) → va_S A su.heap H locs → lv_has ls 3 [(1, .int y1_3)] → W p l e rX2_linkedPairs su m args below meth c H locs 0 0 Q (F0 m 28 ls [])) → W p l e rX2_linkedPairs su m args below meth c H locs 0 0 Q (F0 m 4 ls []) := by
    intro n
    induction n with
    | zero => intro v1_1 v2_2 y1_3 H locs ls h hP hD hS hl kx; cases h
    | succ n ih =>
      intro v1_1 v2_2 y1_3 H locs ls h hP hD hS hl kx
      rw [fX2_linkedPairs_L4] at h
      refine lv_iload_n hx hb dX2_linkedPairs_4 rfl (lv_at hl 2 rfl) ?_
      refine lv_bipush (v := 24) hx hb dX2_linkedPairs_5 (by decide) ?_
      refine lv_icmp_ge (tgt := 28) hx hb dX2_linkedPairs_7 (by decide) (fun c4 => ?_) (fun c4 => ?_)
      · have h := if_t c4 h
        cases some_i h
        exact kx _ _ _ hP hD hS (lv_sub hl [1] rfl)
      · have h := if_f c4 h
        refine lv_iload_n hx hb dX2_linkedPairs_10 rfl (lv_at hl 1 rfl) ?_
        refine lv_aload_n hx hb dX2_linkedPairs_11 rfl (lv_at hl 0 rfl) ?_
        refine va_get (D := g.1) (ci := 2) (v := .ref (a 2)) (C := RX2) (T := TX2) (N := 17) hx hb hts hinX2 hown hK hP 0 rfl rfl 1 (by decide) (hts (.fieldLink RX2 15 "BarredRungs$State" "links" "[I") (List.mem_of_getElem? (i := 1) rfl)) (fun _ h9 => h9) rfl dX2_linkedPairs_12 ?_
        refine lv_iload_n hx hb dX2_linkedPairs_15 rfl (lv_at hl 2 rfl) ?_
        obtain ⟨hi9, h⟩ := ck_ex h
        refine va_iald hx hb hK hP 2 0 rfl rfl (inb_in hi9) dX2_linkedPairs_16 ?_
        obtain ⟨r5, kr5, h⟩ := bd_ex h
        refine aft_e (st1 := [.int r5, .int v1_1]) rfl (runS (As := [.int (St_links st v2_2.toNatClampNeg)]) (rest := [.int v1_1]) ⟨hx, hb, hml, hown, hts⟩ (kJ6_bitCount_0f7a4 l g kr5) (va_cwS 1 hts gX2_linkedPairs_J6_bitCount_0f7a4 rfl rfl rfl hdJ6_bitCount_0f7a4.2 ⟨Nat.le_of_ble_eq_true rfl, Nat.le_of_ble_eq_true rfl⟩) hK hN nilP (nilD (A := A)) rfl hl.1 rfl (Nat.le_of_ble_eq_true rfl) dX2_linkedPairs_17 ⟨Nat.zero_le _, Nat.zero_le _⟩) hP hS hA (fun H locs hP hS => ?_)
        refine lv_iadd hx hb dX2_linkedPairs_20 ?_
        obtain ⟨x6, ex6, h⟩ := pl_ex h
        refine lv_eqi ex6 ?_
        refine lv_istore_n (lv' := [(1, .int x6), (0, .ref (a 0)), (2, .int v2_2)]) hx hb dX2_linkedPairs_21 rfl hl (by decide) rfl (fun ls hl => ?_)
        obtain ⟨x7, ex7, h⟩ := pl_ex h
        refine lv_iinc (v := x7) (lv' := [(2, .int x7), (1, .int x6), (0, .ref (a 0))]) hx hb dX2_linkedPairs_22 hl (k := 2) rfl (by rw [← ex7]; rfl) (by decide) rfl (fun ls hl => ?_)
        refine lv_goto (tgt := 4) hx hb dX2_linkedPairs_25 (by decide) ?_
        exact ih x6 x7 _ _ _ _ h hP hD hS (lv_sub hl [2, 1, 0] rfl) kx
  obtain ⟨v1_8, kv1_8, h⟩ := bd_ex h
  refine L4 1000 (0 : Int32) (0 : Int32) v1_8 _ _ _ kv1_8 hP hD hS (lv_sub hl [2, 1, 0] rfl) (fun H locs ls hP hD hS hl => ?_)
  refine lv_iload_n hx hb dX2_linkedPairs_28 rfl (lv_at hl 0 rfl) ?_
  refine lv_iconst (v := 2) hx hb dX2_linkedPairs_29 (by decide) ?_
  refine lv_idiv hx hb dX2_linkedPairs_30 (by decide) ?_
  cases some_i h
  exact hend _ _ _ _ _ hP hD hS (RetOK.i dX2_linkedPairs_31)
def fX2_takeOff (st : St) (p1 : Int32) : Option (St) :=
(bd (fX5_isClimber p1) fun (r1 : Int32) =>
(if r1 = (0 : Int32) then
(some st)
else
(ck (inb p1 3)
(pl (St_set_under st (upd (St_under st) p1.toNatClampNeg (-1 : Int32))) fun (st3 : St) =>
(some st3)))))
abbrev rX2_takeOff : Room := { frames := 1, cells := 0, slots := 0, locals := 20 }
theorem hdX2_takeOff : yX2_takeOff.cls = RX2 ∧ yX2_takeOff.cls ≠ "java/lang/invoke/MethodHandle" ∧ yX2_takeOff.cls ≠ "java/lang/invoke/VarHandle" ∧ (parseMethodDescriptor yX2_takeOff.desc).map (fun d => d.parameters.length) = some 1 := by decide +kernel
set_option maxRecDepth 100000 in
set_option maxHeartbeats 8000000 in
theorem kX2_takeOff (l : Launch) (g : GG) (a : Nat → Nat) {st : St} {p1 : Int32} {st' : St} (h : fX2_takeOff st p1 = some st') : Cg l g yX2_takeOff wsX2_takeOff rX2_takeOff [.ref (a 0), .int p1] (cSt g a st) (none) (cSt g a st') := by
  refine Cg_of (cc := cX2_takeOff) (maxL := 2) (ret := none) (by decide +kernel) rfl (Nat.le_of_ble_eq_true rfl) ?_
  intro p e su m args below meth c A Q ls hx hb hml hown hts hK hN hA hnm hP hD hS hl hend
  have hinX2 : ∀ w ∈ u_ws RX2 TX2 17, w ∈ wsX2_takeOff := fun _ h9 => List.mem_cons_of_mem _ (List.mem_append_right _ h9)
  unfold fX2_takeOff at h
  have hl : lv_has ls 2 [(0, .ref (a 0)), (1, .int p1)] := hl
  refine lv_iload_n hx hb dX2_takeOff_0 rfl (lv_at hl 1 rfl) ?_
  obtain ⟨r1, kr1, h⟩ := bd_ex h
  refine aft_e (st1 := [.int r1]) rfl (runSN (As := [.int p1]) (rest := []) ⟨hx, hb, hml, hown, hts⟩ (kX5_isClimber l g kr1) ⟨va_cnB 1 hts gX2_takeOff_X5_isClimber_n115 rfl rfl rfl (hN _ (List.mem_of_getElem? (i := 5) rfl)) (hts (.initialized RX5) (List.mem_of_getElem? (i := 3) rfl)) hdX5_isClimber.2 ⟨Nat.le_of_ble_eq_true rfl, Nat.le_of_ble_eq_true rfl⟩, (hts (.static yX5_isClimber) (List.mem_of_getElem? (i := 2) rfl)), trivial⟩ hK hN nilP (nilD (A := A)) rfl hl.1 rfl (Nat.le_of_ble_eq_true rfl) dX2_takeOff_1 ⟨Nat.zero_le _, Nat.zero_le _⟩) hP hS hA (fun H locs hP hS => ?_)
  refine lv_if_eq (tgt := 14) hx hb dX2_takeOff_4 (by decide) (fun c2 => ?_) (fun c2 => ?_)
  · have h := if_t c2 h
    cases some_i h
    exact hend _ _ _ _ _ hP hD hS (RetOK.v dX2_takeOff_14)
  · have h := if_f c2 h
    refine lv_aload_n hx hb dX2_takeOff_7 rfl (lv_at hl 0 rfl) ?_
    refine va_get (D := g.1) (ci := 2) (v := .ref (a 3)) (C := RX2) (T := TX2) (N := 17) hx hb hts hinX2 hown hK hP 0 rfl rfl 2 (by decide) (hts (.fieldLink RX2 18 "BarredRungs$State" "under" "[I") (List.mem_of_getElem? (i := 1) rfl)) (fun _ h9 => h9) rfl dX2_takeOff_8 ?_
    refine lv_iload_n hx hb dX2_takeOff_11 rfl (lv_at hl 1 rfl) ?_
    refine lv_iconst (v := -1) hx hb dX2_takeOff_12 (by decide) ?_
    obtain ⟨hi9, h⟩ := ck_ex h
    obtain ⟨st3, est3, h⟩ := pl_ex h
    refine va_iast hx hb hK hP hD hS 3 0 rfl rfl (inb_in hi9) dX2_takeOff_13 (fun H locs hP hD hS => ?_)
    have hP : va_P g.1 vwCl (cSt g a st3) H := by rw [← est3]; exact hP
    have hD : va_D A (cSt g a st3) := by rw [← est3]; exact hD
    cases some_i h
    exact hend _ _ _ _ _ hP hD hS (RetOK.v dX2_takeOff_14)
def fX2_move (st : St) (p1 : Int32) (p2 : Int32) : Option (Int32 × St) :=
(bd (fX5_isClimber p1) fun (r1 : Int32) =>
(if r1 = (0 : Int32) then
(some ((0 : Int32), st))
else
(ck (inb p1 3)
(pl (St_set_under st (upd (St_under st) p1.toNatClampNeg p2)) fun (st3 : St) =>
(ck (inb p1 3)
(pl (St_set_went st3 (upd (St_went st3) p1.toNatClampNeg (1 : Int32))) fun (st4 : St) =>
(ck (inb p1 3)
(ck (inb p1 3)
(pl (St_set_steps st4 (upd (St_steps st4) p1.toNatClampNeg ((St_steps st4 p1.toNatClampNeg) + (1 : Int32)))) fun (st5 : St) =>
(pl (St_set_climbs st5 ((St_climbs st5) + (1 : Int32))) fun (st6 : St) =>
(ck (inb p1 3)
(if p2 = (St_ends st6 p1.toNatClampNeg) then
(bd (fX2_takeOff st6 p1) fun (st8 : St) =>
(ck (inb p1 3)
(ck (inb p1 3)
(pl (St_set_ladders st8 (upd (St_ladders st8) p1.toNatClampNeg ((St_ladders st8 p1.toNatClampNeg) + (1 : Int32)))) fun (st9 : St) =>
(ck (inb p1 3)
(pl (St_set_ladderClimbs st9 ((St_ladderClimbs st9) + (St_steps st9 p1.toNatClampNeg))) fun (st10 : St) =>
(some ((1 : Int32), st10))))))))
else
(some ((0 : Int32), st6))))))))))))))
abbrev rX2_move : Room := { frames := 2, cells := 0, slots := 0, locals := 41 }
theorem hdX2_move : yX2_move.cls = RX2 ∧ yX2_move.cls ≠ "java/lang/invoke/MethodHandle" ∧ yX2_move.cls ≠ "java/lang/invoke/VarHandle" ∧ (parseMethodDescriptor yX2_move.desc).map (fun d => d.parameters.length) = some 2 := by decide +kernel
set_option maxRecDepth 100000 in
set_option maxHeartbeats 8000000 in
theorem kX2_move (l : Launch) (g : GG) (a : Nat → Nat) {st : St} {p1 : Int32} {p2 : Int32} {res : Int32} {st' : St} (h : fX2_move st p1 p2 = some (res, st')) : Cg l g yX2_move wsX2_move rX2_move [.ref (a 0), .int p1, .int p2] (cSt g a st) (some (.int res)) (cSt g a st') := by
  refine Cg_of (cc := cX2_move) (maxL := 3) (ret := (some .boolean)) (by decide +kernel) rfl (Nat.le_of_ble_eq_true rfl) ?_
  intro p e su m args below meth c A Q ls hx hb hml hown hts hK hN hA hnm hP hD hS hl hend
  have hinX2 : ∀ w ∈ u_ws RX2 TX2 17, w ∈ wsX2_move := fun _ h9 => List.mem_cons_of_mem _ (List.mem_append_right _ h9)
  unfold fX2_move at h
  have hl : lv_has ls 3 [(0, .ref (a 0)), (1, .int p1), (2, .int p2)] := hl
  refine lv_iload_n hx hb dX2_move_0 rfl (lv_at hl 1 rfl) ?_
  obtain ⟨r1, kr1, h⟩ := bd_ex h
  refine aft_e (st1 := [.int r1]) rfl (runSN (As := [.int p1]) (rest := []) ⟨hx, hb, hml, hown, hts⟩ (kX5_isClimber l g kr1) ⟨va_cnB 1 hts gX2_move_X5_isClimber_n115 rfl rfl rfl (hN _ (List.mem_of_getElem? (i := 5) rfl)) (hts (.initialized RX5) (List.mem_of_getElem? (i := 9) rfl)) hdX5_isClimber.2 ⟨Nat.le_of_ble_eq_true rfl, Nat.le_of_ble_eq_true rfl⟩, (hts (.static yX5_isClimber) (List.mem_of_getElem? (i := 8) rfl)), trivial⟩ hK hN nilP (nilD (A := A)) rfl hl.1 rfl (Nat.le_of_ble_eq_true rfl) dX2_move_1 ⟨Nat.zero_le _, Nat.zero_le _⟩) hP hS hA (fun H locs hP hS => ?_)
  refine lv_if_ne (tgt := 9) hx hb dX2_move_4 (by decide) (fun c2 => ?_) (fun c2 => ?_)
  · have h := if_f c2 h
    refine lv_aload_n hx hb dX2_move_9 rfl (lv_at hl 0 rfl) ?_
    refine va_get (D := g.1) (ci := 2) (v := .ref (a 3)) (C := RX2) (T := TX2) (N := 17) hx hb hts hinX2 hown hK hP 0 rfl rfl 2 (by decide) (hts (.fieldLink RX2 18 "BarredRungs$State" "under" "[I") (List.mem_of_getElem? (i := 1) rfl)) (fun _ h9 => h9) rfl dX2_move_10 ?_
    refine lv_iload_n hx hb dX2_move_13 rfl (lv_at hl 1 rfl) ?_
    refine lv_iload_n hx hb dX2_move_14 rfl (lv_at hl 2 rfl) ?_
    obtain ⟨hi9, h⟩ := ck_ex h
    obtain ⟨st3, est3, h⟩ := pl_ex h
    refine va_iast hx hb hK hP hD hS 3 0 rfl rfl (inb_in hi9) dX2_move_15 (fun H locs hP hD hS => ?_)
    have hP : va_P g.1 vwCl (cSt g a st3) H := by rw [← est3]; exact hP
    have hD : va_D A (cSt g a st3) := by rw [← est3]; exact hD
    refine lv_aload_n hx hb dX2_move_16 rfl (lv_at hl 0 rfl) ?_
    refine va_get (D := g.1) (ci := 2) (v := .ref (a 6)) (C := RX2) (T := TX2) (N := 17) hx hb hts hinX2 hown hK hP 0 rfl rfl 5 (by decide) (hts (.fieldLink RX2 27 "BarredRungs$State" "went" "[I") (List.mem_of_getElem? (i := 2) rfl)) (fun _ h9 => h9) rfl dX2_move_17 ?_
    refine lv_iload_n hx hb dX2_move_20 rfl (lv_at hl 1 rfl) ?_
    refine lv_iconst (v := 1) hx hb dX2_move_21 (by decide) ?_
    obtain ⟨hi9, h⟩ := ck_ex h
    obtain ⟨st4, est4, h⟩ := pl_ex h
    refine va_iast hx hb hK hP hD hS 6 0 rfl rfl (inb_in hi9) dX2_move_22 (fun H locs hP hD hS => ?_)
    have hP : va_P g.1 vwCl (cSt g a st4) H := by rw [← est4]; exact hP
    have hD : va_D A (cSt g a st4) := by rw [← est4]; exact hD
    refine lv_aload_n hx hb dX2_move_23 rfl (lv_at hl 0 rfl) ?_
    refine va_get (D := g.1) (ci := 2) (v := .ref (a 7)) (C := RX2) (T := TX2) (N := 17) hx hb hts hinX2 hown hK hP 0 rfl rfl 6 (by decide) (hts (.fieldLink RX2 30 "BarredRungs$State" "steps" "[I") (List.mem_of_getElem? (i := 3) rfl)) (fun _ h9 => h9) rfl dX2_move_24 ?_
    refine lv_iload_n hx hb dX2_move_27 rfl (lv_at hl 1 rfl) ?_
    refine lv_dup2_11 hx hb dX2_move_28 rfl rfl ?_
    obtain ⟨hi9, h⟩ := ck_ex h
    refine va_iald hx hb hK hP 7 0 rfl rfl (inb_in hi9) dX2_move_29 ?_
    refine lv_iconst (v := 1) hx hb dX2_move_30 (by decide) ?_
    refine lv_iadd hx hb dX2_move_31 ?_
    obtain ⟨hi9, h⟩ := ck_ex h
    obtain ⟨st5, est5, h⟩ := pl_ex h
    refine va_iast hx hb hK hP hD hS 7 0 rfl rfl (inb_in hi9) dX2_move_32 (fun H locs hP hD hS => ?_)
    have hP : va_P g.1 vwCl (cSt g a st5) H := by rw [← est5]; exact hP
    have hD : va_D A (cSt g a st5) := by rw [← est5]; exact hD
    refine lv_aload_n hx hb dX2_move_33 rfl (lv_at hl 0 rfl) ?_
    refine lv_dup hx hb dX2_move_34 rfl ?_
    refine va_get (D := g.1) (ci := 2) (v := .int (St_climbs st5)) (C := RX2) (T := TX2) (N := 17) hx hb hts hinX2 hown hK hP 0 rfl rfl 15 (by decide) (hts (.fieldLink RX2 64 "BarredRungs$State" "climbs" "I") (List.mem_of_getElem? (i := 4) rfl)) (fun _ h9 => h9) rfl dX2_move_35 ?_
    refine lv_iconst (v := 1) hx hb dX2_move_38 (by decide) ?_
    refine lv_iadd hx hb dX2_move_39 ?_
    obtain ⟨st6, est6, h⟩ := pl_ex h
    refine va_put (D := g.1) (ci := 2) (v := .int ((St_climbs st5) + (1 : Int32))) (ty := .int) (C := RX2) (T := TX2) (N := 17) hx hb hts hinX2 tyX2 tyX2_ok nmX2 hown hK hP hD hS 0 rfl rfl 15 (by decide) (hts (.fieldLink RX2 64 "BarredRungs$State" "climbs" "I") (List.mem_of_getElem? (i := 4) rfl)) (fun _ h9 => h9) rfl (by decide +kernel) rfl rfl (Nat.le_of_ble_eq_true rfl) dX2_move_40 (fun H locs hP hD hS => ?_)
    have hP : va_P g.1 vwCl (cSt g a st6) H := by rw [← est6]; exact hP
    have hD : va_D A (cSt g a st6) := by rw [← est6]; exact hD
    refine lv_iload_n hx hb dX2_move_43 rfl (lv_at hl 2 rfl) ?_
    refine lv_aload_n hx hb dX2_move_44 rfl (lv_at hl 0 rfl) ?_
    refine va_get (D := g.1) (ci := 2) (v := .ref (a 5)) (C := RX2) (T := TX2) (N := 17) hx hb hts hinX2 hown hK hP 0 rfl rfl 4 (by decide) (hts (.fieldLink RX2 24 "BarredRungs$State" "ends" "[I") (List.mem_of_getElem? (i := 5) rfl)) (fun _ h9 => h9) rfl dX2_move_45 ?_
    refine lv_iload_n hx hb dX2_move_48 rfl (lv_at hl 1 rfl) ?_
    obtain ⟨hi9, h⟩ := ck_ex h
    refine va_iald hx hb hK hP 5 0 rfl rfl (inb_in hi9) dX2_move_49 ?_
    refine lv_icmp_eq (tgt := 55) hx hb dX2_move_50 (by decide) (fun c7 => ?_) (fun c7 => ?_)
    · have h := if_t c7 h
      refine lv_aload_n hx hb dX2_move_55 rfl (lv_at hl 0 rfl) ?_
      refine lv_iload_n hx hb dX2_move_56 rfl (lv_at hl 1 rfl) ?_
      obtain ⟨st8, kst8, h⟩ := bd_ex h
      refine aft_w (st1 := []) rfl (runV (As := [.int p1]) (rest := []) ⟨hx, hb, hml, hown, hts⟩ (kX2_takeOff l g a kst8) (cwV 1 hts gX2_move_X2_takeOff rfl rfl rfl hdX2_takeOff ⟨Nat.le_of_ble_eq_true rfl, Nat.le_of_ble_eq_true rfl⟩) hK hN hP hD (va_recv hK hP (ci := 2) (q0 := 0) rfl rfl) rfl hl.1 rfl (Nat.le_of_ble_eq_true rfl) dX2_move_57 ⟨Nat.zero_le _, Nat.zero_le _⟩) hD hS hA (fun H locs hP hD hS => ?_)
      refine lv_aload_n hx hb dX2_move_60 rfl (lv_at hl 0 rfl) ?_
      refine va_get (D := g.1) (ci := 2) (v := .ref (a 8)) (C := RX2) (T := TX2) (N := 17) hx hb hts hinX2 hown hK hP 0 rfl rfl 7 (by decide) (hts (.fieldLink RX2 33 "BarredRungs$State" "ladders" "[I") (List.mem_of_getElem? (i := 6) rfl)) (fun _ h9 => h9) rfl dX2_move_61 ?_
      refine lv_iload_n hx hb dX2_move_64 rfl (lv_at hl 1 rfl) ?_
      refine lv_dup2_11 hx hb dX2_move_65 rfl rfl ?_
      obtain ⟨hi9, h⟩ := ck_ex h
      refine va_iald hx hb hK hP 8 0 rfl rfl (inb_in hi9) dX2_move_66 ?_
      refine lv_iconst (v := 1) hx hb dX2_move_67 (by decide) ?_
      refine lv_iadd hx hb dX2_move_68 ?_
      obtain ⟨hi9, h⟩ := ck_ex h
      obtain ⟨st9, est9, h⟩ := pl_ex h
      refine va_iast hx hb hK hP hD hS 8 0 rfl rfl (inb_in hi9) dX2_move_69 (fun H locs hP hD hS => ?_)
      have hP : va_P g.1 vwCl (cSt g a st9) H := by rw [← est9]; exact hP
      have hD : va_D A (cSt g a st9) := by rw [← est9]; exact hD
      refine lv_aload_n hx hb dX2_move_70 rfl (lv_at hl 0 rfl) ?_
      refine lv_dup hx hb dX2_move_71 rfl ?_
      refine va_get (D := g.1) (ci := 2) (v := .int (St_ladderClimbs st9)) (C := RX2) (T := TX2) (N := 17) hx hb hts hinX2 hown hK hP 0 rfl rfl 16 (by decide) (hts (.fieldLink RX2 67 "BarredRungs$State" "ladderClimbs" "I") (List.mem_of_getElem? (i := 7) rfl)) (fun _ h9 => h9) rfl dX2_move_72 ?_
      refine lv_aload_n hx hb dX2_move_75 rfl (lv_at hl 0 rfl) ?_
      refine va_get (D := g.1) (ci := 2) (v := .ref (a 7)) (C := RX2) (T := TX2) (N := 17) hx hb hts hinX2 hown hK hP 0 rfl rfl 6 (by decide) (hts (.fieldLink RX2 30 "BarredRungs$State" "steps" "[I") (List.mem_of_getElem? (i := 3) rfl)) (fun _ h9 => h9) rfl dX2_move_76 ?_
      refine lv_iload_n hx hb dX2_move_79 rfl (lv_at hl 1 rfl) ?_
      obtain ⟨hi9, h⟩ := ck_ex h
      refine va_iald hx hb hK hP 7 0 rfl rfl (inb_in hi9) dX2_move_80 ?_
      refine lv_iadd hx hb dX2_move_81 ?_
      obtain ⟨st10, est10, h⟩ := pl_ex h
      refine va_put (D := g.1) (ci := 2) (v := .int ((St_ladderClimbs st9) + (St_steps st9 p1.toNatClampNeg))) (ty := .int) (C := RX2) (T := TX2) (N := 17) hx hb hts hinX2 tyX2 tyX2_ok nmX2 hown hK hP hD hS 0 rfl rfl 16 (by decide) (hts (.fieldLink RX2 67 "BarredRungs$State" "ladderClimbs" "I") (List.mem_of_getElem? (i := 7) rfl)) (fun _ h9 => h9) rfl (by decide +kernel) rfl rfl (Nat.le_of_ble_eq_true rfl) dX2_move_82 (fun H locs hP hD hS => ?_)
      have hP : va_P g.1 vwCl (cSt g a st10) H := by rw [← est10]; exact hP
      have hD : va_D A (cSt g a st10) := by rw [← est10]; exact hD
      refine lv_iconst (v := 1) hx hb dX2_move_85 (by decide) ?_
      cases some_i h
      exact hend _ _ _ _ _ hP hD hS (RetOK.z dX2_move_86 (Or.inr rfl))
    · have h := if_f c7 h
      refine lv_iconst (v := 0) hx hb dX2_move_53 (by decide) ?_
      cases some_i h
      exact hend _ _ _ _ _ hP hD hS (RetOK.z dX2_move_54 (Or.inl rfl))
  · have h := if_t c2 h
    refine lv_iconst (v := 0) hx hb dX2_move_7 (by decide) ?_
    cases some_i h
    exact hend _ _ _ _ _ hP hD hS (RetOK.z dX2_move_8 (Or.inl rfl))
def fX2_passTurn_L59 (r4 : Int32) : Nat → Int32 → Int32 → St → Option (Int32 × St)
  | 0, _, _, _ => none
  | n + 1, v2_5, v3_6, st7 =>
    (if (3 : Int32) ≤ v3_6 then
    (some (v2_5, st7))
    else
    (ck (inb v3_6 3)
    (pl (St_set_went st7 (upd (St_went st7) v3_6.toNatClampNeg (0 : Int32))) fun (st11 : St) =>
    (ck (inb v3_6 3)
    (bd (fX5_has r4 (St_under st11 v3_6.toNatClampNeg)) fun (r12 : Int32) =>
    (if r12 = (0 : Int32) then
    (pl ((v3_6 + (1 : Int32))) fun (x14 : Int32) =>
    (fX2_passTurn_L59 r4 n v2_5 x14 st11))
    else
    (ck (inb v3_6 3)
    (pl (St_set_under st11 (upd (St_under st11) v3_6.toNatClampNeg (-1 : Int32))) fun (st15 : St) =>
    (ck (inb v3_6 3)
    (ck (inb v3_6 3)
    (pl (St_set_falls st15 (upd (St_falls st15) v3_6.toNatClampNeg ((St_falls st15 v3_6.toNatClampNeg) + (1 : Int32)))) fun (st16 : St) =>
    (pl ((v2_5 + (1 : Int32))) fun (x17 : Int32) =>
    (pl ((v3_6 + (1 : Int32))) fun (x18 : Int32) =>
    (fX2_passTurn_L59 r4 n x17 x18 st16))))))))))))))
def fX2_passTurn (st : St) : Option (Int32 × St) :=
(pl (St_set_turns st ((St_turns st) + (1 : Int32))) fun (st1 : St) =>
(pl (St_set_place st1 ((St_place st1) + (1 : Int32))) fun (st2 : St) =>
(if (St_place st2) < (4 : Int32) then
(bd (fX2_barredAfter st2 (0 : Int32)) fun (r4 : Int32) =>
(bd2 (fX2_passTurn_L59 r4 1000 (0 : Int32) (0 : Int32) st2) fun (v2_19 : Int32) (st20 : St) =>
(some (v2_19, st20))))
else
(pl (St_set_place st2 (0 : Int32)) fun (st21 : St) =>
(pl (St_set_letter st21 (((St_letter st21) + (St_letterStep st21)) - ((St_letter st21) + (St_letterStep st21)) / (8 : Int32) * (8 : Int32))) fun (st22 : St) =>
(bd (fX2_barredAfter st22 (0 : Int32)) fun (r23 : Int32) =>
(bd2 (fX2_passTurn_L59 r23 1000 (0 : Int32) (0 : Int32) st22) fun (v2_38 : Int32) (st39 : St) =>
(some (v2_38, st39)))))))))
abbrev rX2_passTurn : Room := { frames := 2, cells := 0, slots := 0, locals := 46 }
theorem hdX2_passTurn : yX2_passTurn.cls = RX2 ∧ yX2_passTurn.cls ≠ "java/lang/invoke/MethodHandle" ∧ yX2_passTurn.cls ≠ "java/lang/invoke/VarHandle" ∧ (parseMethodDescriptor yX2_passTurn.desc).map (fun d => d.parameters.length) = some 0 := by decide +kernel
set_option maxRecDepth 100000 in
set_option maxHeartbeats 8000000 in
theorem kX2_passTurn (l : Launch) (g : GG) (a : Nat → Nat) {st : St} {res : Int32} {st' : St} (h : fX2_passTurn st = some (res, st')) : Cg l g yX2_passTurn wsX2_passTurn rX2_passTurn [.ref (a 0)] (cSt g a st) (some (.int res)) (cSt g a st') := by
  refine Cg_of (cc := cX2_passTurn) (maxL := 4) (ret := (some .int)) (by decide +kernel) rfl (Nat.le_of_ble_eq_true rfl) ?_
  intro p e su m args below meth c A Q ls hx hb hml hown hts hK hN hA hnm hP hD hS hl hend
  have hinX2 : ∀ w ∈ u_ws RX2 TX2 17, w ∈ wsX2_passTurn := fun _ h9 => List.mem_cons_of_mem _ (List.mem_append_right _ h9)
  unfold fX2_passTurn at h
  have hl : lv_has ls 4 [(0, .ref (a 0))] := hl
  refine lv_aload_n hx hb dX2_passTurn_0 rfl (lv_at hl 0 rfl) ?_
  refine lv_dup hx hb dX2_passTurn_1 rfl ?_
  refine va_get (D := g.1) (ci := 2) (v := .int (St_turns st)) (C := RX2) (T := TX2) (N := 17) hx hb hts hinX2 hown hK hP 0 rfl rfl 14 (by decide) (hts (.fieldLink RX2 61 "BarredRungs$State" "turns" "I") (List.mem_of_getElem? (i := 1) rfl)) (fun _ h9 => h9) rfl dX2_passTurn_2 ?_
  refine lv_iconst (v := 1) hx hb dX2_passTurn_5 (by decide) ?_
  refine lv_iadd hx hb dX2_passTurn_6 ?_
  obtain ⟨st1, est1, h⟩ := pl_ex h
  refine va_put (D := g.1) (ci := 2) (v := .int ((St_turns st) + (1 : Int32))) (ty := .int) (C := RX2) (T := TX2) (N := 17) hx hb hts hinX2 tyX2 tyX2_ok nmX2 hown hK hP hD hS 0 rfl rfl 14 (by decide) (hts (.fieldLink RX2 61 "BarredRungs$State" "turns" "I") (List.mem_of_getElem? (i := 1) rfl)) (fun _ h9 => h9) rfl (by decide +kernel) rfl rfl (Nat.le_of_ble_eq_true rfl) dX2_passTurn_7 (fun H locs hP hD hS => ?_)
  have hP : va_P g.1 vwCl (cSt g a st1) H := by rw [← est1]; exact hP
  have hD : va_D A (cSt g a st1) := by rw [← est1]; exact hD
  refine lv_aload_n hx hb dX2_passTurn_10 rfl (lv_at hl 0 rfl) ?_
  refine lv_dup hx hb dX2_passTurn_11 rfl ?_
  refine va_get (D := g.1) (ci := 2) (v := .int (St_place st1)) (C := RX2) (T := TX2) (N := 17) hx hb hts hinX2 hown hK hP 0 rfl rfl 10 (by decide) (hts (.fieldLink RX2 55 "BarredRungs$State" "place" "I") (List.mem_of_getElem? (i := 2) rfl)) (fun _ h9 => h9) rfl dX2_passTurn_12 ?_
  refine lv_iconst (v := 1) hx hb dX2_passTurn_15 (by decide) ?_
  refine lv_iadd hx hb dX2_passTurn_16 ?_
  obtain ⟨st2, est2, h⟩ := pl_ex h
  refine va_put (D := g.1) (ci := 2) (v := .int ((St_place st1) + (1 : Int32))) (ty := .int) (C := RX2) (T := TX2) (N := 17) hx hb hts hinX2 tyX2 tyX2_ok nmX2 hown hK hP hD hS 0 rfl rfl 10 (by decide) (hts (.fieldLink RX2 55 "BarredRungs$State" "place" "I") (List.mem_of_getElem? (i := 2) rfl)) (fun _ h9 => h9) rfl (by decide +kernel) rfl rfl (Nat.le_of_ble_eq_true rfl) dX2_passTurn_17 (fun H locs hP hD hS => ?_)
  have hP : va_P g.1 vwCl (cSt g a st2) H := by rw [← est2]; exact hP
  have hD : va_D A (cSt g a st2) := by rw [← est2]; exact hD
  refine lv_aload_n hx hb dX2_passTurn_20 rfl (lv_at hl 0 rfl) ?_
  refine va_get (D := g.1) (ci := 2) (v := .int (St_place st2)) (C := RX2) (T := TX2) (N := 17) hx hb hts hinX2 hown hK hP 0 rfl rfl 10 (by decide) (hts (.fieldLink RX2 55 "BarredRungs$State" "place" "I") (List.mem_of_getElem? (i := 2) rfl)) (fun _ h9 => h9) rfl dX2_passTurn_21 ?_
  refine lv_iconst (v := 4) hx hb dX2_passTurn_24 (by decide) ?_
  refine lv_icmp_lt (tgt := 49) hx hb dX2_passTurn_25 (by decide) (fun c3 => ?_) (fun c3 => ?_)
  · have h := if_t c3 h
    refine lv_aload_n hx hb dX2_passTurn_49 rfl (lv_at hl 0 rfl) ?_
    refine lv_iconst (v := 0) hx hb dX2_passTurn_50 (by decide) ?_
    obtain ⟨r4, kr4, h⟩ := bd_ex h
    refine aft_w (st1 := [.int r4]) rfl (runV (As := [.int (0 : Int32)]) (rest := []) ⟨hx, hb, hml, hown, hts⟩ (kX2_barredAfter l g a kr4) (cwV 1 hts gX2_passTurn_X2_barredAfter rfl rfl rfl hdX2_barredAfter ⟨Nat.le_of_ble_eq_true rfl, Nat.le_of_ble_eq_true rfl⟩) hK hN hP hD (va_recv hK hP (ci := 2) (q0 := 0) rfl rfl) rfl hl.1 rfl (Nat.le_of_ble_eq_true rfl) dX2_passTurn_51 ⟨Nat.zero_le _, Nat.zero_le _⟩) hD hS hA (fun H locs hP hD hS => ?_)
    refine lv_istore_n (lv' := [(1, .int r4), (0, .ref (a 0))]) hx hb dX2_passTurn_54 rfl hl (by decide) rfl (fun ls hl => ?_)
    refine lv_iconst (v := 0) hx hb dX2_passTurn_55 (by decide) ?_
    refine lv_istore_n (lv' := [(2, .int (0 : Int32)), (1, .int r4), (0, .ref (a 0))]) hx hb dX2_passTurn_56 rfl hl (by decide) rfl (fun ls hl => ?_)
    refine lv_iconst (v := 0) hx hb dX2_passTurn_57 (by decide) ?_
    refine lv_istore_n (lv' := [(3, .int (0 : Int32)), (2, .int (0 : Int32)), (1, .int r4), (0, .ref (a 0))]) hx hb dX2_passTurn_58 rfl hl (by decide) rfl (fun ls hl => ?_)
    have L59 : ∀ (n : Nat) (v2_5 : Int32) (v3_6 : Int32) (st7 : St) (y2_8 : Int32) (st9 : St) (H : Heap) (locs : List Loc) (ls : Array Slot), fX2_passTurn_L59 r4 n v2_5 v3_6 st7 = some (y2_8, st9) → va_P g.1 vwCl (cSt g a st7) H → va_D A (cSt g a st7) → va_S A su.heap H locs → lv_has ls 4 [(0, .ref (a 0)), (1, .int r4), (2, .int v2_5), (3, .int v3_6)] → (∀ (H : Heap) (locs : List Loc) (ls : Array Slot), va_P g.1 vwCl (cSt g a st9) H → va_D A (cSt g a st9) → va_S A su.heap H locs → lv_has ls 4 [(2, .int y2_8)] → W p l e rX2_passTurn su m args below meth c H locs 0 0 Q (F0 m 110 ls [])) → W p l e rX2_passTurn su m args below meth c H locs 0 0 Q (F0 m 59 ls []) := by
      intro n
      induction n with
      | zero => intro v2_5 v3_6 st7 y2_8 st9 H locs ls h hP hD hS hl kx; cases h
      | succ n ih =>
        intro v2_5 v3_6 st7 y2_8 st9 H locs ls h hP hD hS hl kx
        rw [fX2_passTurn_L59] at h
        refine lv_iload_n hx hb dX2_passTurn_59 rfl (lv_at hl 3 rfl) ?_
        refine lv_iconst (v := 3) hx hb dX2_passTurn_60 (by decide) ?_
        refine lv_icmp_ge (tgt := 110) hx hb dX2_passTurn_61 (by decide) (fun c10 => ?_) (fun c10 => ?_)
        · have h := if_t c10 h
          cases some_i h
          exact kx _ _ _ hP hD hS (lv_sub hl [2] rfl)
        · have h := if_f c10 h
          refine lv_aload_n hx hb dX2_passTurn_64 rfl (lv_at hl 0 rfl) ?_
          refine va_get (D := g.1) (ci := 2) (v := .ref (a 6)) (C := RX2) (T := TX2) (N := 17) hx hb hts hinX2 hown hK hP 0 rfl rfl 5 (by decide) (hts (.fieldLink RX2 27 "BarredRungs$State" "went" "[I") (List.mem_of_getElem? (i := 5) rfl)) (fun _ h9 => h9) rfl dX2_passTurn_65 ?_
          refine lv_iload_n hx hb dX2_passTurn_68 rfl (lv_at hl 3 rfl) ?_
          refine lv_iconst (v := 0) hx hb dX2_passTurn_69 (by decide) ?_
          obtain ⟨hi9, h⟩ := ck_ex h
          obtain ⟨st11, est11, h⟩ := pl_ex h
          refine va_iast hx hb hK hP hD hS 6 0 rfl rfl (inb_in hi9) dX2_passTurn_70 (fun H locs hP hD hS => ?_)
          have hP : va_P g.1 vwCl (cSt g a st11) H := by rw [← est11]; exact hP
          have hD : va_D A (cSt g a st11) := by rw [← est11]; exact hD
          refine lv_iload_n hx hb dX2_passTurn_71 rfl (lv_at hl 1 rfl) ?_
          refine lv_aload_n hx hb dX2_passTurn_72 rfl (lv_at hl 0 rfl) ?_
          refine va_get (D := g.1) (ci := 2) (v := .ref (a 3)) (C := RX2) (T := TX2) (N := 17) hx hb hts hinX2 hown hK hP 0 rfl rfl 2 (by decide) (hts (.fieldLink RX2 18 "BarredRungs$State" "under" "[I") (List.mem_of_getElem? (i := 6) rfl)) (fun _ h9 => h9) rfl dX2_passTurn_73 ?_
          refine lv_iload_n hx hb dX2_passTurn_76 rfl (lv_at hl 3 rfl) ?_
          obtain ⟨hi9, h⟩ := ck_ex h
          refine va_iald hx hb hK hP 3 0 rfl rfl (inb_in hi9) dX2_passTurn_77 ?_
          obtain ⟨r12, kr12, h⟩ := bd_ex h
          refine aft_e (st1 := [.int r12]) rfl (runSN (As := [.int r4, .int (St_under st11 v3_6.toNatClampNeg)]) (rest := []) ⟨hx, hb, hml, hown, hts⟩ (kX5_has l g kr12) ⟨va_cnB 2 hts gX2_passTurn_X5_has_n98 rfl rfl rfl (hN _ (List.mem_of_getElem? (i := 3) rfl)) (hts (.initialized RX5) (List.mem_of_getElem? (i := 23) rfl)) hdX5_has.2 ⟨Nat.le_of_ble_eq_true rfl, Nat.le_of_ble_eq_true rfl⟩, (hts (.static yX5_has) (List.mem_of_getElem? (i := 22) rfl)), trivial⟩ hK hN nilP (nilD (A := A)) rfl hl.1 rfl (Nat.le_of_ble_eq_true rfl) dX2_passTurn_78 ⟨Nat.zero_le _, Nat.zero_le _⟩) hP hS hA (fun H locs hP hS => ?_)
          refine lv_if_eq (tgt := 104) hx hb dX2_passTurn_81 (by decide) (fun c13 => ?_) (fun c13 => ?_)
          · have h := if_t c13 h
            obtain ⟨x14, ex14, h⟩ := pl_ex h
            refine lv_iinc (v := x14) (lv' := [(3, .int x14), (0, .ref (a 0)), (1, .int r4), (2, .int v2_5)]) hx hb dX2_passTurn_104 hl (k := 3) rfl (by rw [← ex14]; rfl) (by decide) rfl (fun ls hl => ?_)
            refine lv_goto (tgt := 59) hx hb dX2_passTurn_107 (by decide) ?_
            exact ih v2_5 x14 st11 _ _ _ _ _ h hP hD hS (lv_sub hl [1, 2, 3, 0] rfl) kx
          · have h := if_f c13 h
            refine lv_aload_n hx hb dX2_passTurn_84 rfl (lv_at hl 0 rfl) ?_
            refine va_get (D := g.1) (ci := 2) (v := .ref (a 3)) (C := RX2) (T := TX2) (N := 17) hx hb hts hinX2 hown hK hP 0 rfl rfl 2 (by decide) (hts (.fieldLink RX2 18 "BarredRungs$State" "under" "[I") (List.mem_of_getElem? (i := 6) rfl)) (fun _ h9 => h9) rfl dX2_passTurn_85 ?_
            refine lv_iload_n hx hb dX2_passTurn_88 rfl (lv_at hl 3 rfl) ?_
            refine lv_iconst (v := -1) hx hb dX2_passTurn_89 (by decide) ?_
            obtain ⟨hi9, h⟩ := ck_ex h
            obtain ⟨st15, est15, h⟩ := pl_ex h
            refine va_iast hx hb hK hP hD hS 3 0 rfl rfl (inb_in hi9) dX2_passTurn_90 (fun H locs hP hD hS => ?_)
            have hP : va_P g.1 vwCl (cSt g a st15) H := by rw [← est15]; exact hP
            have hD : va_D A (cSt g a st15) := by rw [← est15]; exact hD
            refine lv_aload_n hx hb dX2_passTurn_91 rfl (lv_at hl 0 rfl) ?_
            refine va_get (D := g.1) (ci := 2) (v := .ref (a 9)) (C := RX2) (T := TX2) (N := 17) hx hb hts hinX2 hown hK hP 0 rfl rfl 8 (by decide) (hts (.fieldLink RX2 36 "BarredRungs$State" "falls" "[I") (List.mem_of_getElem? (i := 7) rfl)) (fun _ h9 => h9) rfl dX2_passTurn_92 ?_
            refine lv_iload_n hx hb dX2_passTurn_95 rfl (lv_at hl 3 rfl) ?_
            refine lv_dup2_11 hx hb dX2_passTurn_96 rfl rfl ?_
            obtain ⟨hi9, h⟩ := ck_ex h
            refine va_iald hx hb hK hP 9 0 rfl rfl (inb_in hi9) dX2_passTurn_97 ?_
            refine lv_iconst (v := 1) hx hb dX2_passTurn_98 (by decide) ?_
            refine lv_iadd hx hb dX2_passTurn_99 ?_
            obtain ⟨hi9, h⟩ := ck_ex h
            obtain ⟨st16, est16, h⟩ := pl_ex h
            refine va_iast hx hb hK hP hD hS 9 0 rfl rfl (inb_in hi9) dX2_passTurn_100 (fun H locs hP hD hS => ?_)
            have hP : va_P g.1 vwCl (cSt g a st16) H := by rw [← est16]; exact hP
            have hD : va_D A (cSt g a st16) := by rw [← est16]; exact hD
            obtain ⟨x17, ex17, h⟩ := pl_ex h
            refine lv_iinc (v := x17) (lv' := [(2, .int x17), (0, .ref (a 0)), (1, .int r4), (3, .int v3_6)]) hx hb dX2_passTurn_101 hl (k := 2) rfl (by rw [← ex17]; rfl) (by decide) rfl (fun ls hl => ?_)
            obtain ⟨x18, ex18, h⟩ := pl_ex h
            refine lv_iinc (v := x18) (lv' := [(3, .int x18), (2, .int x17), (0, .ref (a 0)), (1, .int r4)]) hx hb dX2_passTurn_104 hl (k := 3) rfl (by rw [← ex18]; rfl) (by decide) rfl (fun ls hl => ?_)
            refine lv_goto (tgt := 59) hx hb dX2_passTurn_107 (by decide) ?_
            exact ih x17 x18 st16 _ _ _ _ _ h hP hD hS (lv_sub hl [2, 3, 1, 0] rfl) kx
    obtain ⟨v2_19, st20, kv2_19, h⟩ := bd2_ex h
    refine L59 1000 (0 : Int32) (0 : Int32) st2 v2_19 st20 _ _ _ kv2_19 hP hD hS (lv_sub hl [3, 2, 1, 0] rfl) (fun H locs ls hP hD hS hl => ?_)
    refine lv_iload_n hx hb dX2_passTurn_110 rfl (lv_at hl 0 rfl) ?_
    cases some_i h
    exact hend _ _ _ _ _ hP hD hS (RetOK.i dX2_passTurn_111)
  · have h := if_f c3 h
    refine lv_aload_n hx hb dX2_passTurn_28 rfl (lv_at hl 0 rfl) ?_
    refine lv_iconst (v := 0) hx hb dX2_passTurn_29 (by decide) ?_
    obtain ⟨st21, est21, h⟩ := pl_ex h
    refine va_put (D := g.1) (ci := 2) (v := .int (0 : Int32)) (ty := .int) (C := RX2) (T := TX2) (N := 17) hx hb hts hinX2 tyX2 tyX2_ok nmX2 hown hK hP hD hS 0 rfl rfl 10 (by decide) (hts (.fieldLink RX2 55 "BarredRungs$State" "place" "I") (List.mem_of_getElem? (i := 2) rfl)) (fun _ h9 => h9) rfl (by decide +kernel) rfl rfl (Nat.le_of_ble_eq_true rfl) dX2_passTurn_30 (fun H locs hP hD hS => ?_)
    have hP : va_P g.1 vwCl (cSt g a st21) H := by rw [← est21]; exact hP
    have hD : va_D A (cSt g a st21) := by rw [← est21]; exact hD
    refine lv_aload_n hx hb dX2_passTurn_33 rfl (lv_at hl 0 rfl) ?_
    refine lv_aload_n hx hb dX2_passTurn_34 rfl (lv_at hl 0 rfl) ?_
    refine va_get (D := g.1) (ci := 2) (v := .int (St_letter st21)) (C := RX2) (T := TX2) (N := 17) hx hb hts hinX2 hown hK hP 0 rfl rfl 11 (by decide) (hts (.fieldLink RX2 58 "BarredRungs$State" "letter" "I") (List.mem_of_getElem? (i := 3) rfl)) (fun _ h9 => h9) rfl dX2_passTurn_35 ?_
    refine lv_aload_n hx hb dX2_passTurn_38 rfl (lv_at hl 0 rfl) ?_
    refine va_get (D := g.1) (ci := 2) (v := .int (St_letterStep st21)) (C := RX2) (T := TX2) (N := 17) hx hb hts hinX2 hown hK hP 0 rfl rfl 12 (by decide) (hts (.fieldLink RX2 39 "BarredRungs$State" "letterStep" "I") (List.mem_of_getElem? (i := 4) rfl)) (fun _ h9 => h9) rfl dX2_passTurn_39 ?_
    refine lv_iadd hx hb dX2_passTurn_42 ?_
    refine lv_bipush (v := 8) hx hb dX2_passTurn_43 (by decide) ?_
    refine lv_irem hx hb dX2_passTurn_45 (by decide) ?_
    obtain ⟨st22, est22, h⟩ := pl_ex h
    refine va_put (D := g.1) (ci := 2) (v := .int (((St_letter st21) + (St_letterStep st21)) - ((St_letter st21) + (St_letterStep st21)) / (8 : Int32) * (8 : Int32))) (ty := .int) (C := RX2) (T := TX2) (N := 17) hx hb hts hinX2 tyX2 tyX2_ok nmX2 hown hK hP hD hS 0 rfl rfl 11 (by decide) (hts (.fieldLink RX2 58 "BarredRungs$State" "letter" "I") (List.mem_of_getElem? (i := 3) rfl)) (fun _ h9 => h9) rfl (by decide +kernel) rfl rfl (Nat.le_of_ble_eq_true rfl) dX2_passTurn_46 (fun H locs hP hD hS => ?_)
    have hP : va_P g.1 vwCl (cSt g a st22) H := by rw [← est22]; exact hP
    have hD : va_D A (cSt g a st22) := by rw [← est22]; exact hD
    refine lv_aload_n hx hb dX2_passTurn_49 rfl (lv_at hl 0 rfl) ?_
    refine lv_iconst (v := 0) hx hb dX2_passTurn_50 (by decide) ?_
    obtain ⟨r23, kr23, h⟩ := bd_ex h
    refine aft_w (st1 := [.int r23]) rfl (runV (As := [.int (0 : Int32)]) (rest := []) ⟨hx, hb, hml, hown, hts⟩ (kX2_barredAfter l g a kr23) (cwV 1 hts gX2_passTurn_X2_barredAfter rfl rfl rfl hdX2_barredAfter ⟨Nat.le_of_ble_eq_true rfl, Nat.le_of_ble_eq_true rfl⟩) hK hN hP hD (va_recv hK hP (ci := 2) (q0 := 0) rfl rfl) rfl hl.1 rfl (Nat.le_of_ble_eq_true rfl) dX2_passTurn_51 ⟨Nat.zero_le _, Nat.zero_le _⟩) hD hS hA (fun H locs hP hD hS => ?_)
    refine lv_istore_n (lv' := [(1, .int r23), (0, .ref (a 0))]) hx hb dX2_passTurn_54 rfl hl (by decide) rfl (fun ls hl => ?_)
    refine lv_iconst (v := 0) hx hb dX2_passTurn_55 (by decide) ?_
    refine lv_istore_n (lv' := [(2, .int (0 : Int32)), (1, .int r23), (0, .ref (a 0))]) hx hb dX2_passTurn_56 rfl hl (by decide) rfl (fun ls hl => ?_)
    refine lv_iconst (v := 0) hx hb dX2_passTurn_57 (by decide) ?_
    refine lv_istore_n (lv' := [(3, .int (0 : Int32)), (2, .int (0 : Int32)), (1, .int r23), (0, .ref (a 0))]) hx hb dX2_passTurn_58 rfl hl (by decide) rfl (fun ls hl => ?_)
    have L59 : ∀ (n : Nat) (v2_24 : Int32) (v3_25 : Int32) (st26 : St) (y2_27 : Int32) (st28 : St) (H : Heap) (locs : List Loc) (ls : Array Slot), fX2_passTurn_L59 r23 n v2_24 v3_25 st26 = some (y2_27, st28) → va_P g.1 vwCl (cSt g a st26) H → va_D A (cSt g a st26) → va_S A su.heap H locs → lv_has ls 4 [(0, .ref (a 0)), (1, .int r23), (2, .int v2_24), (3, .int v3_25)] → (∀ (H : Heap) (locs : List Loc) (ls : Array Slot), va_P g.1 vwCl (cSt g a st28) H → va_D A (cSt g a st28) → va_S A su.heap H locs → lv_has ls 4 [(2, .int y2_27)] → W p l e rX2_passTurn su m args below meth c H locs 0 0 Q (F0 m 110 ls [])) → W p l e rX2_passTurn su m args below meth c H locs 0 0 Q (F0 m 59 ls []) := by
      intro n
      induction n with
      | zero => intro v2_24 v3_25 st26 y2_27 st28 H locs ls h hP hD hS hl kx; cases h
      | succ n ih =>
        intro v2_24 v3_25 st26 y2_27 st28 H locs ls h hP hD hS hl kx
        rw [fX2_passTurn_L59] at h
        refine lv_iload_n hx hb dX2_passTurn_59 rfl (lv_at hl 3 rfl) ?_
        refine lv_iconst (v := 3) hx hb dX2_passTurn_60 (by decide) ?_
        refine lv_icmp_ge (tgt := 110) hx hb dX2_passTurn_61 (by decide) (fun c29 => ?_) (fun c29 => ?_)
        · have h := if_t c29 h
          cases some_i h
          exact kx _ _ _ hP hD hS (lv_sub hl [2] rfl)
        · have h := if_f c29 h
          refine lv_aload_n hx hb dX2_passTurn_64 rfl (lv_at hl 0 rfl) ?_
          refine va_get (D := g.1) (ci := 2) (v := .ref (a 6)) (C := RX2) (T := TX2) (N := 17) hx hb hts hinX2 hown hK hP 0 rfl rfl 5 (by decide) (hts (.fieldLink RX2 27 "BarredRungs$State" "went" "[I") (List.mem_of_getElem? (i := 5) rfl)) (fun _ h9 => h9) rfl dX2_passTurn_65 ?_
          refine lv_iload_n hx hb dX2_passTurn_68 rfl (lv_at hl 3 rfl) ?_
          refine lv_iconst (v := 0) hx hb dX2_passTurn_69 (by decide) ?_
          obtain ⟨hi9, h⟩ := ck_ex h
          obtain ⟨st30, est30, h⟩ := pl_ex h
          refine va_iast hx hb hK hP hD hS 6 0 rfl rfl (inb_in hi9) dX2_passTurn_70 (fun H locs hP hD hS => ?_)
          have hP : va_P g.1 vwCl (cSt g a st30) H := by rw [← est30]; exact hP
          have hD : va_D A (cSt g a st30) := by rw [← est30]; exact hD
          refine lv_iload_n hx hb dX2_passTurn_71 rfl (lv_at hl 1 rfl) ?_
          refine lv_aload_n hx hb dX2_passTurn_72 rfl (lv_at hl 0 rfl) ?_
          refine va_get (D := g.1) (ci := 2) (v := .ref (a 3)) (C := RX2) (T := TX2) (N := 17) hx hb hts hinX2 hown hK hP 0 rfl rfl 2 (by decide) (hts (.fieldLink RX2 18 "BarredRungs$State" "under" "[I") (List.mem_of_getElem? (i := 6) rfl)) (fun _ h9 => h9) rfl dX2_passTurn_73 ?_
          refine lv_iload_n hx hb dX2_passTurn_76 rfl (lv_at hl 3 rfl) ?_
          obtain ⟨hi9, h⟩ := ck_ex h
          refine va_iald hx hb hK hP 3 0 rfl rfl (inb_in hi9) dX2_passTurn_77 ?_
          obtain ⟨r31, kr31, h⟩ := bd_ex h
          refine aft_e (st1 := [.int r31]) rfl (runSN (As := [.int r23, .int (St_under st30 v3_25.toNatClampNeg)]) (rest := []) ⟨hx, hb, hml, hown, hts⟩ (kX5_has l g kr31) ⟨va_cnB 2 hts gX2_passTurn_X5_has_n98 rfl rfl rfl (hN _ (List.mem_of_getElem? (i := 3) rfl)) (hts (.initialized RX5) (List.mem_of_getElem? (i := 23) rfl)) hdX5_has.2 ⟨Nat.le_of_ble_eq_true rfl, Nat.le_of_ble_eq_true rfl⟩, (hts (.static yX5_has) (List.mem_of_getElem? (i := 22) rfl)), trivial⟩ hK hN nilP (nilD (A := A)) rfl hl.1 rfl (Nat.le_of_ble_eq_true rfl) dX2_passTurn_78 ⟨Nat.zero_le _, Nat.zero_le _⟩) hP hS hA (fun H locs hP hS => ?_)
          refine lv_if_eq (tgt := 104) hx hb dX2_passTurn_81 (by decide) (fun c32 => ?_) (fun c32 => ?_)
          · have h := if_t c32 h
            obtain ⟨x33, ex33, h⟩ := pl_ex h
            refine lv_iinc (v := x33) (lv' := [(3, .int x33), (0, .ref (a 0)), (1, .int r23), (2, .int v2_24)]) hx hb dX2_passTurn_104 hl (k := 3) rfl (by rw [← ex33]; rfl) (by decide) rfl (fun ls hl => ?_)
            refine lv_goto (tgt := 59) hx hb dX2_passTurn_107 (by decide) ?_
            exact ih v2_24 x33 st30 _ _ _ _ _ h hP hD hS (lv_sub hl [1, 2, 3, 0] rfl) kx
          · have h := if_f c32 h
            refine lv_aload_n hx hb dX2_passTurn_84 rfl (lv_at hl 0 rfl) ?_
            refine va_get (D := g.1) (ci := 2) (v := .ref (a 3)) (C := RX2) (T := TX2) (N := 17) hx hb hts hinX2 hown hK hP 0 rfl rfl 2 (by decide) (hts (.fieldLink RX2 18 "BarredRungs$State" "under" "[I") (List.mem_of_getElem? (i := 6) rfl)) (fun _ h9 => h9) rfl dX2_passTurn_85 ?_
            refine lv_iload_n hx hb dX2_passTurn_88 rfl (lv_at hl 3 rfl) ?_
            refine lv_iconst (v := -1) hx hb dX2_passTurn_89 (by decide) ?_
            obtain ⟨hi9, h⟩ := ck_ex h
            obtain ⟨st34, est34, h⟩ := pl_ex h
            refine va_iast hx hb hK hP hD hS 3 0 rfl rfl (inb_in hi9) dX2_passTurn_90 (fun H locs hP hD hS => ?_)
            have hP : va_P g.1 vwCl (cSt g a st34) H := by rw [← est34]; exact hP
            have hD : va_D A (cSt g a st34) := by rw [← est34]; exact hD
            refine lv_aload_n hx hb dX2_passTurn_91 rfl (lv_at hl 0 rfl) ?_
            refine va_get (D := g.1) (ci := 2) (v := .ref (a 9)) (C := RX2) (T := TX2) (N := 17) hx hb hts hinX2 hown hK hP 0 rfl rfl 8 (by decide) (hts (.fieldLink RX2 36 "BarredRungs$State" "falls" "[I") (List.mem_of_getElem? (i := 7) rfl)) (fun _ h9 => h9) rfl dX2_passTurn_92 ?_
            refine lv_iload_n hx hb dX2_passTurn_95 rfl (lv_at hl 3 rfl) ?_
            refine lv_dup2_11 hx hb dX2_passTurn_96 rfl rfl ?_
            obtain ⟨hi9, h⟩ := ck_ex h
            refine va_iald hx hb hK hP 9 0 rfl rfl (inb_in hi9) dX2_passTurn_97 ?_
            refine lv_iconst (v := 1) hx hb dX2_passTurn_98 (by decide) ?_
            refine lv_iadd hx hb dX2_passTurn_99 ?_
            obtain ⟨hi9, h⟩ := ck_ex h
            obtain ⟨st35, est35, h⟩ := pl_ex h
            refine va_iast hx hb hK hP hD hS 9 0 rfl rfl (inb_in hi9) dX2_passTurn_100 (fun H locs hP hD hS => ?_)
            have hP : va_P g.1 vwCl (cSt g a st35) H := by rw [← est35]; exact hP
            have hD : va_D A (cSt g a st35) := by rw [← est35]; exact hD
            obtain ⟨x36, ex36, h⟩ := pl_ex h
            refine lv_iinc (v := x36) (lv' := [(2, .int x36), (0, .ref (a 0)), (1, .int r23), (3, .int v3_25)]) hx hb dX2_passTurn_101 hl (k := 2) rfl (by rw [← ex36]; rfl) (by decide) rfl (fun ls hl => ?_)
            obtain ⟨x37, ex37, h⟩ := pl_ex h
            refine lv_iinc (v := x37) (lv' := [(3, .int x37), (2, .int x36), (0, .ref (a 0)), (1, .int r23)]) hx hb dX2_passTurn_104 hl (k := 3) rfl (by rw [← ex37]; rfl) (by decide) rfl (fun ls hl => ?_)
            refine lv_goto (tgt := 59) hx hb dX2_passTurn_107 (by decide) ?_
            exact ih x36 x37 st35 _ _ _ _ _ h hP hD hS (lv_sub hl [2, 3, 1, 0] rfl) kx
    obtain ⟨v2_38, st39, kv2_38, h⟩ := bd2_ex h
    refine L59 1000 (0 : Int32) (0 : Int32) st22 v2_38 st39 _ _ _ kv2_38 hP hD hS (lv_sub hl [3, 2, 1, 0] rfl) (fun H locs ls hP hD hS hl => ?_)
    refine lv_iload_n hx hb dX2_passTurn_110 rfl (lv_at hl 0 rfl) ?_
    cases some_i h
    exact hend _ _ _ _ _ hP hD hS (RetOK.i dX2_passTurn_111)
def fX2_putOn (st : St) (p1 : Int32) (p2 : Int32) (p3 : Int32) : Option (St) :=
(bd (fX5_isClimber p1) fun (r1 : Int32) =>
(if r1 = (0 : Int32) then
(some st)
else
(ck (inb p1 3)
(pl (St_set_under st (upd (St_under st) p1.toNatClampNeg p2)) fun (st3 : St) =>
(ck (inb p1 3)
(pl (St_set_beginnings st3 (upd (St_beginnings st3) p1.toNatClampNeg p2)) fun (st4 : St) =>
(ck (inb p1 3)
(pl (St_set_ends st4 (upd (St_ends st4) p1.toNatClampNeg p3)) fun (st5 : St) =>
(ck (inb p1 3)
(pl (St_set_went st5 (upd (St_went st5) p1.toNatClampNeg (0 : Int32))) fun (st6 : St) =>
(ck (inb p1 3)
(pl (St_set_steps st6 (upd (St_steps st6) p1.toNatClampNeg (0 : Int32))) fun (st7 : St) =>
(some st7)))))))))))))
abbrev rX2_putOn : Room := { frames := 1, cells := 0, slots := 0, locals := 20 }
theorem hdX2_putOn : yX2_putOn.cls = RX2 ∧ yX2_putOn.cls ≠ "java/lang/invoke/MethodHandle" ∧ yX2_putOn.cls ≠ "java/lang/invoke/VarHandle" ∧ (parseMethodDescriptor yX2_putOn.desc).map (fun d => d.parameters.length) = some 3 := by decide +kernel
set_option maxRecDepth 100000 in
set_option maxHeartbeats 8000000 in
theorem kX2_putOn (l : Launch) (g : GG) (a : Nat → Nat) {st : St} {p1 : Int32} {p2 : Int32} {p3 : Int32} {st' : St} (h : fX2_putOn st p1 p2 p3 = some st') : Cg l g yX2_putOn wsX2_putOn rX2_putOn [.ref (a 0), .int p1, .int p2, .int p3] (cSt g a st) (none) (cSt g a st') := by
  refine Cg_of (cc := cX2_putOn) (maxL := 4) (ret := none) (by decide +kernel) rfl (Nat.le_of_ble_eq_true rfl) ?_
  intro p e su m args below meth c A Q ls hx hb hml hown hts hK hN hA hnm hP hD hS hl hend
  have hinX2 : ∀ w ∈ u_ws RX2 TX2 17, w ∈ wsX2_putOn := fun _ h9 => List.mem_cons_of_mem _ (List.mem_append_right _ h9)
  unfold fX2_putOn at h
  have hl : lv_has ls 4 [(0, .ref (a 0)), (1, .int p1), (2, .int p2), (3, .int p3)] := hl
  refine lv_iload_n hx hb dX2_putOn_0 rfl (lv_at hl 1 rfl) ?_
  obtain ⟨r1, kr1, h⟩ := bd_ex h
  refine aft_e (st1 := [.int r1]) rfl (runSN (As := [.int p1]) (rest := []) ⟨hx, hb, hml, hown, hts⟩ (kX5_isClimber l g kr1) ⟨va_cnB 1 hts gX2_putOn_X5_isClimber_n115 rfl rfl rfl (hN _ (List.mem_of_getElem? (i := 5) rfl)) (hts (.initialized RX5) (List.mem_of_getElem? (i := 7) rfl)) hdX5_isClimber.2 ⟨Nat.le_of_ble_eq_true rfl, Nat.le_of_ble_eq_true rfl⟩, (hts (.static yX5_isClimber) (List.mem_of_getElem? (i := 6) rfl)), trivial⟩ hK hN nilP (nilD (A := A)) rfl hl.1 rfl (Nat.le_of_ble_eq_true rfl) dX2_putOn_1 ⟨Nat.zero_le _, Nat.zero_le _⟩) hP hS hA (fun H locs hP hS => ?_)
  refine lv_if_eq (tgt := 42) hx hb dX2_putOn_4 (by decide) (fun c2 => ?_) (fun c2 => ?_)
  · have h := if_t c2 h
    cases some_i h
    exact hend _ _ _ _ _ hP hD hS (RetOK.v dX2_putOn_42)
  · have h := if_f c2 h
    refine lv_aload_n hx hb dX2_putOn_7 rfl (lv_at hl 0 rfl) ?_
    refine va_get (D := g.1) (ci := 2) (v := .ref (a 3)) (C := RX2) (T := TX2) (N := 17) hx hb hts hinX2 hown hK hP 0 rfl rfl 2 (by decide) (hts (.fieldLink RX2 18 "BarredRungs$State" "under" "[I") (List.mem_of_getElem? (i := 1) rfl)) (fun _ h9 => h9) rfl dX2_putOn_8 ?_
    refine lv_iload_n hx hb dX2_putOn_11 rfl (lv_at hl 1 rfl) ?_
    refine lv_iload_n hx hb dX2_putOn_12 rfl (lv_at hl 2 rfl) ?_
    obtain ⟨hi9, h⟩ := ck_ex h
    obtain ⟨st3, est3, h⟩ := pl_ex h
    refine va_iast hx hb hK hP hD hS 3 0 rfl rfl (inb_in hi9) dX2_putOn_13 (fun H locs hP hD hS => ?_)
    have hP : va_P g.1 vwCl (cSt g a st3) H := by rw [← est3]; exact hP
    have hD : va_D A (cSt g a st3) := by rw [← est3]; exact hD
    refine lv_aload_n hx hb dX2_putOn_14 rfl (lv_at hl 0 rfl) ?_
    refine va_get (D := g.1) (ci := 2) (v := .ref (a 4)) (C := RX2) (T := TX2) (N := 17) hx hb hts hinX2 hown hK hP 0 rfl rfl 3 (by decide) (hts (.fieldLink RX2 21 "BarredRungs$State" "beginnings" "[I") (List.mem_of_getElem? (i := 2) rfl)) (fun _ h9 => h9) rfl dX2_putOn_15 ?_
    refine lv_iload_n hx hb dX2_putOn_18 rfl (lv_at hl 1 rfl) ?_
    refine lv_iload_n hx hb dX2_putOn_19 rfl (lv_at hl 2 rfl) ?_
    obtain ⟨hi9, h⟩ := ck_ex h
    obtain ⟨st4, est4, h⟩ := pl_ex h
    refine va_iast hx hb hK hP hD hS 4 0 rfl rfl (inb_in hi9) dX2_putOn_20 (fun H locs hP hD hS => ?_)
    have hP : va_P g.1 vwCl (cSt g a st4) H := by rw [← est4]; exact hP
    have hD : va_D A (cSt g a st4) := by rw [← est4]; exact hD
    refine lv_aload_n hx hb dX2_putOn_21 rfl (lv_at hl 0 rfl) ?_
    refine va_get (D := g.1) (ci := 2) (v := .ref (a 5)) (C := RX2) (T := TX2) (N := 17) hx hb hts hinX2 hown hK hP 0 rfl rfl 4 (by decide) (hts (.fieldLink RX2 24 "BarredRungs$State" "ends" "[I") (List.mem_of_getElem? (i := 3) rfl)) (fun _ h9 => h9) rfl dX2_putOn_22 ?_
    refine lv_iload_n hx hb dX2_putOn_25 rfl (lv_at hl 1 rfl) ?_
    refine lv_iload_n hx hb dX2_putOn_26 rfl (lv_at hl 3 rfl) ?_
    obtain ⟨hi9, h⟩ := ck_ex h
    obtain ⟨st5, est5, h⟩ := pl_ex h
    refine va_iast hx hb hK hP hD hS 5 0 rfl rfl (inb_in hi9) dX2_putOn_27 (fun H locs hP hD hS => ?_)
    have hP : va_P g.1 vwCl (cSt g a st5) H := by rw [← est5]; exact hP
    have hD : va_D A (cSt g a st5) := by rw [← est5]; exact hD
    refine lv_aload_n hx hb dX2_putOn_28 rfl (lv_at hl 0 rfl) ?_
    refine va_get (D := g.1) (ci := 2) (v := .ref (a 6)) (C := RX2) (T := TX2) (N := 17) hx hb hts hinX2 hown hK hP 0 rfl rfl 5 (by decide) (hts (.fieldLink RX2 27 "BarredRungs$State" "went" "[I") (List.mem_of_getElem? (i := 4) rfl)) (fun _ h9 => h9) rfl dX2_putOn_29 ?_
    refine lv_iload_n hx hb dX2_putOn_32 rfl (lv_at hl 1 rfl) ?_
    refine lv_iconst (v := 0) hx hb dX2_putOn_33 (by decide) ?_
    obtain ⟨hi9, h⟩ := ck_ex h
    obtain ⟨st6, est6, h⟩ := pl_ex h
    refine va_iast hx hb hK hP hD hS 6 0 rfl rfl (inb_in hi9) dX2_putOn_34 (fun H locs hP hD hS => ?_)
    have hP : va_P g.1 vwCl (cSt g a st6) H := by rw [← est6]; exact hP
    have hD : va_D A (cSt g a st6) := by rw [← est6]; exact hD
    refine lv_aload_n hx hb dX2_putOn_35 rfl (lv_at hl 0 rfl) ?_
    refine va_get (D := g.1) (ci := 2) (v := .ref (a 7)) (C := RX2) (T := TX2) (N := 17) hx hb hts hinX2 hown hK hP 0 rfl rfl 6 (by decide) (hts (.fieldLink RX2 30 "BarredRungs$State" "steps" "[I") (List.mem_of_getElem? (i := 5) rfl)) (fun _ h9 => h9) rfl dX2_putOn_36 ?_
    refine lv_iload_n hx hb dX2_putOn_39 rfl (lv_at hl 1 rfl) ?_
    refine lv_iconst (v := 0) hx hb dX2_putOn_40 (by decide) ?_
    obtain ⟨hi9, h⟩ := ck_ex h
    obtain ⟨st7, est7, h⟩ := pl_ex h
    refine va_iast hx hb hK hP hD hS 7 0 rfl rfl (inb_in hi9) dX2_putOn_41 (fun H locs hP hD hS => ?_)
    have hP : va_P g.1 vwCl (cSt g a st7) H := by rw [← est7]; exact hP
    have hD : va_D A (cSt g a st7) := by rw [← est7]; exact hD
    cases some_i h
    exact hend _ _ _ _ _ hP hD hS (RetOK.v dX2_putOn_42)
def fX2_settingOf (st : St) (p1 : Int32) : Option (Int32) :=
(if p1 = (0 : Int32) then
(some (St_letterStep st))
else
(some (St_nearness st)))
abbrev rX2_settingOf : Room := { frames := 0, cells := 0, slots := 0, locals := 0 }
theorem hdX2_settingOf : yX2_settingOf.cls = RX2 ∧ yX2_settingOf.cls ≠ "java/lang/invoke/MethodHandle" ∧ yX2_settingOf.cls ≠ "java/lang/invoke/VarHandle" ∧ (parseMethodDescriptor yX2_settingOf.desc).map (fun d => d.parameters.length) = some 1 := by decide +kernel
set_option maxRecDepth 100000 in
set_option maxHeartbeats 8000000 in
theorem kX2_settingOf (l : Launch) (g : GG) (a : Nat → Nat) {st : St} {p1 : Int32} {res : Int32} (h : fX2_settingOf st p1 = some res) : Cg l g yX2_settingOf wsX2_settingOf rX2_settingOf [.ref (a 0), .int p1] (cSt g a st) (some (.int res)) (cSt g a st) := by
  refine Cg_of (cc := cX2_settingOf) (maxL := 2) (ret := (some .int)) (by decide +kernel) rfl (Nat.le_of_ble_eq_true rfl) ?_
  intro p e su m args below meth c A Q ls hx hb hml hown hts hK hN hA hnm hP hD hS hl hend
  have hinX2 : ∀ w ∈ u_ws RX2 TX2 17, w ∈ wsX2_settingOf := fun _ h9 => List.mem_cons_of_mem _ (List.mem_append_right _ h9)
  unfold fX2_settingOf at h
  have hl : lv_has ls 2 [(0, .ref (a 0)), (1, .int p1)] := hl
  refine lv_iload_n hx hb dX2_settingOf_0 rfl (lv_at hl 1 rfl) ?_
  refine lv_if_ne (tgt := 11) hx hb dX2_settingOf_1 (by decide) (fun c1 => ?_) (fun c1 => ?_)
  · have h := if_f c1 h
    refine lv_aload_n hx hb dX2_settingOf_11 rfl (lv_at hl 0 rfl) ?_
    refine va_get (D := g.1) (ci := 2) (v := .int (St_nearness st)) (C := RX2) (T := TX2) (N := 17) hx hb hts hinX2 hown hK hP 0 rfl rfl 13 (by decide) (hts (.fieldLink RX2 43 "BarredRungs$State" "nearness" "I") (List.mem_of_getElem? (i := 2) rfl)) (fun _ h9 => h9) rfl dX2_settingOf_12 ?_
    cases some_i h
    exact hend _ _ _ _ _ hP hD hS (RetOK.i dX2_settingOf_15)
  · have h := if_t c1 h
    refine lv_aload_n hx hb dX2_settingOf_4 rfl (lv_at hl 0 rfl) ?_
    refine va_get (D := g.1) (ci := 2) (v := .int (St_letterStep st)) (C := RX2) (T := TX2) (N := 17) hx hb hts hinX2 hown hK hP 0 rfl rfl 12 (by decide) (hts (.fieldLink RX2 39 "BarredRungs$State" "letterStep" "I") (List.mem_of_getElem? (i := 1) rfl)) (fun _ h9 => h9) rfl dX2_settingOf_5 ?_
    refine lv_goto (tgt := 15) hx hb dX2_settingOf_8 (by decide) ?_
    cases some_i h
    exact hend _ _ _ _ _ hP hD hS (RetOK.i dX2_settingOf_15)
def fX2_wordWithCode_L2 (st : St) (p1 : Int32) : Nat → Int32 → Option (Int32)
  | 0, _ => none
  | n + 1, v2_1 =>
    (if (St_words st) ≤ v2_1 then
    (some (-1 : Int32))
    else
    (if (24 : Int32) ≤ v2_1 then
    (some (-1 : Int32))
    else
    (ck (inb v2_1 24)
    (if (St_codes st v2_1.toNatClampNeg) = p1 then
    (some v2_1)
    else
    (pl ((v2_1 + (1 : Int32))) fun (x5 : Int32) =>
    (fX2_wordWithCode_L2 st p1 n x5))))))
def fX2_wordWithCode (st : St) (p1 : Int32) : Option (Int32) :=
(fX2_wordWithCode_L2 st p1 1000 (0 : Int32))
abbrev rX2_wordWithCode : Room := { frames := 0, cells := 0, slots := 0, locals := 0 }
theorem hdX2_wordWithCode : yX2_wordWithCode.cls = RX2 ∧ yX2_wordWithCode.cls ≠ "java/lang/invoke/MethodHandle" ∧ yX2_wordWithCode.cls ≠ "java/lang/invoke/VarHandle" ∧ (parseMethodDescriptor yX2_wordWithCode.desc).map (fun d => d.parameters.length) = some 1 := by decide +kernel
set_option maxRecDepth 100000 in
set_option maxHeartbeats 8000000 in
theorem kX2_wordWithCode (l : Launch) (g : GG) (a : Nat → Nat) {st : St} {p1 : Int32} {res : Int32} (h : fX2_wordWithCode st p1 = some res) : Cg l g yX2_wordWithCode wsX2_wordWithCode rX2_wordWithCode [.ref (a 0), .int p1] (cSt g a st) (some (.int res)) (cSt g a st) := by
  refine Cg_of (cc := cX2_wordWithCode) (maxL := 3) (ret := (some .int)) (by decide +kernel) rfl (Nat.le_of_ble_eq_true rfl) ?_
  intro p e su m args below meth c A Q ls hx hb hml hown hts hK hN hA hnm hP hD hS hl hend
  have hinX2 : ∀ w ∈ u_ws RX2 TX2 17, w ∈ wsX2_wordWithCode := fun _ h9 => List.mem_cons_of_mem _ (List.mem_append_right _ h9)
  unfold fX2_wordWithCode at h
  have hl : lv_has ls 3 [(0, .ref (a 0)), (1, .int p1)] := hl
  refine lv_iconst (v := 0) hx hb dX2_wordWithCode_0 (by decide) ?_
  refine lv_istore_n (lv' := [(2, .int (0 : Int32)), (0, .ref (a 0)), (1, .int p1)]) hx hb dX2_wordWithCode_1 rfl hl (by decide) rfl (fun ls hl => ?_)
  have L2 : ∀ (n : Nat) (v2_1 : Int32) (H : Heap) (locs : List Loc) (ls : Array Slot), fX2_wordWithCode_L2 st p1 n v2_1 = some res → va_P g.1 vwCl (cSt g a st) H → va_D A (cSt g a st) → va_S A su.heap H locs → lv_has ls 3 [(0, .ref (a 0)), (1, .int p1), (2, .int v2_1)] → W p l e rX2_wordWithCode su m args below meth c H locs 0 0 Q (F0 m 2 ls []) := by
    intro n
    induction n with
    | zero => intro v2_1 H locs ls h hP hD hS hl; cases h
    | succ n ih =>
      intro v2_1 H locs ls h hP hD hS hl
      rw [fX2_wordWithCode_L2] at h
      refine lv_iload_n hx hb dX2_wordWithCode_2 rfl (lv_at hl 2 rfl) ?_
      refine lv_aload_n hx hb dX2_wordWithCode_3 rfl (lv_at hl 0 rfl) ?_
      refine va_get (D := g.1) (ci := 2) (v := .int (St_words st)) (C := RX2) (T := TX2) (N := 17) hx hb hts hinX2 hown hK hP 0 rfl rfl 9 (by decide) (hts (.fieldLink RX2 52 "BarredRungs$State" "words" "I") (List.mem_of_getElem? (i := 1) rfl)) (fun _ h9 => h9) rfl dX2_wordWithCode_4 ?_
      refine lv_icmp_ge (tgt := 34) hx hb dX2_wordWithCode_7 (by decide) (fun c2 => ?_) (fun c2 => ?_)
      · have h := if_t c2 h
        refine lv_iconst (v := -1) hx hb dX2_wordWithCode_34 (by decide) ?_
        cases some_i h
        exact hend _ _ _ _ _ hP hD hS (RetOK.i dX2_wordWithCode_35)
      · have h := if_f c2 h
        refine lv_iload_n hx hb dX2_wordWithCode_10 rfl (lv_at hl 2 rfl) ?_
        refine lv_bipush (v := 24) hx hb dX2_wordWithCode_11 (by decide) ?_
        refine lv_icmp_ge (tgt := 34) hx hb dX2_wordWithCode_13 (by decide) (fun c3 => ?_) (fun c3 => ?_)
        · have h := if_t c3 h
          refine lv_iconst (v := -1) hx hb dX2_wordWithCode_34 (by decide) ?_
          cases some_i h
          exact hend _ _ _ _ _ hP hD hS (RetOK.i dX2_wordWithCode_35)
        · have h := if_f c3 h
          refine lv_aload_n hx hb dX2_wordWithCode_16 rfl (lv_at hl 0 rfl) ?_
          refine va_get (D := g.1) (ci := 2) (v := .ref (a 1)) (C := RX2) (T := TX2) (N := 17) hx hb hts hinX2 hown hK hP 0 rfl rfl 0 (by decide) (hts (.fieldLink RX2 9 "BarredRungs$State" "codes" "[I") (List.mem_of_getElem? (i := 2) rfl)) (fun _ h9 => h9) rfl dX2_wordWithCode_17 ?_
          refine lv_iload_n hx hb dX2_wordWithCode_20 rfl (lv_at hl 2 rfl) ?_
          obtain ⟨hi9, h⟩ := ck_ex h
          refine va_iald hx hb hK hP 1 0 rfl rfl (inb_in hi9) dX2_wordWithCode_21 ?_
          refine lv_iload_n hx hb dX2_wordWithCode_22 rfl (lv_at hl 1 rfl) ?_
          refine lv_icmp_ne (tgt := 28) hx hb dX2_wordWithCode_23 (by decide) (fun c4 => ?_) (fun c4 => ?_)
          · have h := if_f c4 h
            obtain ⟨x5, ex5, h⟩ := pl_ex h
            refine lv_iinc (v := x5) (lv' := [(2, .int x5), (0, .ref (a 0)), (1, .int p1)]) hx hb dX2_wordWithCode_28 hl (k := 2) rfl (by rw [← ex5]; rfl) (by decide) rfl (fun ls hl => ?_)
            refine lv_goto (tgt := 2) hx hb dX2_wordWithCode_31 (by decide) ?_
            exact ih x5 _ _ _ h hP hD hS (lv_sub hl [1, 2, 0] rfl)
          · have h := if_t c4 h
            refine lv_iload_n hx hb dX2_wordWithCode_26 rfl (lv_at hl 2 rfl) ?_
            cases some_i h
            exact hend _ _ _ _ _ hP hD hS (RetOK.i dX2_wordWithCode_27)
  exact L2 1000 (0 : Int32) _ _ _ h hP hD hS (lv_sub hl [1, 2, 0] rfl)
def fX2_takeIn (st : St) (p1 : Int32) : Option (Int32 × St) :=
(bd (fX2_wordWithCode st p1) fun (r1 : Int32) =>
(if r1 = (-1 : Int32) then
(if (St_words st) < (0 : Int32) then
(some ((0 : Int32), st))
else
(if (St_words st) < (24 : Int32) then
(ck (inb (St_words st) 24)
(pl (St_set_codes st (upd (St_codes st) (St_words st).toNatClampNeg p1)) fun (st5 : St) =>
(pl (St_set_words st5 ((St_words st5) + (1 : Int32))) fun (st6 : St) =>
(bd (fX2_linkWithEarlier st6 ((St_words st6) - (1 : Int32))) fun (st7 : St) =>
(some ((1 : Int32), st7))))))
else
(some ((0 : Int32), st))))
else
(some ((1 : Int32), st))))
abbrev rX2_takeIn : Room := { frames := 4, cells := 0, slots := 0, locals := 90 }
theorem hdX2_takeIn : yX2_takeIn.cls = RX2 ∧ yX2_takeIn.cls ≠ "java/lang/invoke/MethodHandle" ∧ yX2_takeIn.cls ≠ "java/lang/invoke/VarHandle" ∧ (parseMethodDescriptor yX2_takeIn.desc).map (fun d => d.parameters.length) = some 1 := by decide +kernel
set_option maxRecDepth 100000 in
set_option maxHeartbeats 8000000 in
theorem kX2_takeIn (l : Launch) (g : GG) (a : Nat → Nat) {st : St} {p1 : Int32} {res : Int32} {st' : St} (h : fX2_takeIn st p1 = some (res, st')) : Cg l g yX2_takeIn wsX2_takeIn rX2_takeIn [.ref (a 0), .int p1] (cSt g a st) (some (.int res)) (cSt g a st') := by
  refine Cg_of (cc := cX2_takeIn) (maxL := 2) (ret := (some .boolean)) (by decide +kernel) rfl (Nat.le_of_ble_eq_true rfl) ?_
  intro p e su m args below meth c A Q ls hx hb hml hown hts hK hN hA hnm hP hD hS hl hend
  have hinX2 : ∀ w ∈ u_ws RX2 TX2 17, w ∈ wsX2_takeIn := fun _ h9 => List.mem_cons_of_mem _ (List.mem_append_right _ h9)
  unfold fX2_takeIn at h
  have hl : lv_has ls 2 [(0, .ref (a 0)), (1, .int p1)] := hl
  refine lv_aload_n hx hb dX2_takeIn_0 rfl (lv_at hl 0 rfl) ?_
  refine lv_iload_n hx hb dX2_takeIn_1 rfl (lv_at hl 1 rfl) ?_
  obtain ⟨r1, kr1, h⟩ := bd_ex h
  refine aft_w (st1 := [.int r1]) rfl (runV (As := [.int p1]) (rest := []) ⟨hx, hb, hml, hown, hts⟩ (kX2_wordWithCode l g a kr1) (cwV 1 hts gX2_takeIn_X2_wordWithCode rfl rfl rfl hdX2_wordWithCode ⟨Nat.le_of_ble_eq_true rfl, Nat.le_of_ble_eq_true rfl⟩) hK hN hP hD (va_recv hK hP (ci := 2) (q0 := 0) rfl rfl) rfl hl.1 rfl (Nat.le_of_ble_eq_true rfl) dX2_takeIn_2 ⟨Nat.zero_le _, Nat.zero_le _⟩) hD hS hA (fun H locs hP hD hS => ?_)
  refine lv_iconst (v := -1) hx hb dX2_takeIn_5 (by decide) ?_
  refine lv_icmp_eq (tgt := 11) hx hb dX2_takeIn_6 (by decide) (fun c2 => ?_) (fun c2 => ?_)
  · have h := if_t c2 h
    refine lv_aload_n hx hb dX2_takeIn_11 rfl (lv_at hl 0 rfl) ?_
    refine va_get (D := g.1) (ci := 2) (v := .int (St_words st)) (C := RX2) (T := TX2) (N := 17) hx hb hts hinX2 hown hK hP 0 rfl rfl 9 (by decide) (hts (.fieldLink RX2 52 "BarredRungs$State" "words" "I") (List.mem_of_getElem? (i := 1) rfl)) (fun _ h9 => h9) rfl dX2_takeIn_12 ?_
    refine lv_if_lt (tgt := 27) hx hb dX2_takeIn_15 (by decide) (fun c3 => ?_) (fun c3 => ?_)
    · have h := if_t c3 h
      refine lv_iconst (v := 0) hx hb dX2_takeIn_27 (by decide) ?_
      cases some_i h
      exact hend _ _ _ _ _ hP hD hS (RetOK.z dX2_takeIn_28 (Or.inl rfl))
    · have h := if_f c3 h
      refine lv_aload_n hx hb dX2_takeIn_18 rfl (lv_at hl 0 rfl) ?_
      refine va_get (D := g.1) (ci := 2) (v := .int (St_words st)) (C := RX2) (T := TX2) (N := 17) hx hb hts hinX2 hown hK hP 0 rfl rfl 9 (by decide) (hts (.fieldLink RX2 52 "BarredRungs$State" "words" "I") (List.mem_of_getElem? (i := 1) rfl)) (fun _ h9 => h9) rfl dX2_takeIn_19 ?_
      refine lv_bipush (v := 24) hx hb dX2_takeIn_22 (by decide) ?_
      refine lv_icmp_lt (tgt := 29) hx hb dX2_takeIn_24 (by decide) (fun c4 => ?_) (fun c4 => ?_)
      · have h := if_t c4 h
        refine lv_aload_n hx hb dX2_takeIn_29 rfl (lv_at hl 0 rfl) ?_
        refine va_get (D := g.1) (ci := 2) (v := .ref (a 1)) (C := RX2) (T := TX2) (N := 17) hx hb hts hinX2 hown hK hP 0 rfl rfl 0 (by decide) (hts (.fieldLink RX2 9 "BarredRungs$State" "codes" "[I") (List.mem_of_getElem? (i := 2) rfl)) (fun _ h9 => h9) rfl dX2_takeIn_30 ?_
        refine lv_aload_n hx hb dX2_takeIn_33 rfl (lv_at hl 0 rfl) ?_
        refine va_get (D := g.1) (ci := 2) (v := .int (St_words st)) (C := RX2) (T := TX2) (N := 17) hx hb hts hinX2 hown hK hP 0 rfl rfl 9 (by decide) (hts (.fieldLink RX2 52 "BarredRungs$State" "words" "I") (List.mem_of_getElem? (i := 1) rfl)) (fun _ h9 => h9) rfl dX2_takeIn_34 ?_
        refine lv_iload_n hx hb dX2_takeIn_37 rfl (lv_at hl 1 rfl) ?_
        obtain ⟨hi9, h⟩ := ck_ex h
        obtain ⟨st5, est5, h⟩ := pl_ex h
        refine va_iast hx hb hK hP hD hS 1 0 rfl rfl (inb_in hi9) dX2_takeIn_38 (fun H locs hP hD hS => ?_)
        have hP : va_P g.1 vwCl (cSt g a st5) H := by rw [← est5]; exact hP
        have hD : va_D A (cSt g a st5) := by rw [← est5]; exact hD
        refine lv_aload_n hx hb dX2_takeIn_39 rfl (lv_at hl 0 rfl) ?_
        refine lv_dup hx hb dX2_takeIn_40 rfl ?_
        refine va_get (D := g.1) (ci := 2) (v := .int (St_words st5)) (C := RX2) (T := TX2) (N := 17) hx hb hts hinX2 hown hK hP 0 rfl rfl 9 (by decide) (hts (.fieldLink RX2 52 "BarredRungs$State" "words" "I") (List.mem_of_getElem? (i := 1) rfl)) (fun _ h9 => h9) rfl dX2_takeIn_41 ?_
        refine lv_iconst (v := 1) hx hb dX2_takeIn_44 (by decide) ?_
        refine lv_iadd hx hb dX2_takeIn_45 ?_
        obtain ⟨st6, est6, h⟩ := pl_ex h
        refine va_put (D := g.1) (ci := 2) (v := .int ((St_words st5) + (1 : Int32))) (ty := .int) (C := RX2) (T := TX2) (N := 17) hx hb hts hinX2 tyX2 tyX2_ok nmX2 hown hK hP hD hS 0 rfl rfl 9 (by decide) (hts (.fieldLink RX2 52 "BarredRungs$State" "words" "I") (List.mem_of_getElem? (i := 1) rfl)) (fun _ h9 => h9) rfl (by decide +kernel) rfl rfl (Nat.le_of_ble_eq_true rfl) dX2_takeIn_46 (fun H locs hP hD hS => ?_)
        have hP : va_P g.1 vwCl (cSt g a st6) H := by rw [← est6]; exact hP
        have hD : va_D A (cSt g a st6) := by rw [← est6]; exact hD
        refine lv_aload_n hx hb dX2_takeIn_49 rfl (lv_at hl 0 rfl) ?_
        refine lv_aload_n hx hb dX2_takeIn_50 rfl (lv_at hl 0 rfl) ?_
        refine va_get (D := g.1) (ci := 2) (v := .int (St_words st6)) (C := RX2) (T := TX2) (N := 17) hx hb hts hinX2 hown hK hP 0 rfl rfl 9 (by decide) (hts (.fieldLink RX2 52 "BarredRungs$State" "words" "I") (List.mem_of_getElem? (i := 1) rfl)) (fun _ h9 => h9) rfl dX2_takeIn_51 ?_
        refine lv_iconst (v := 1) hx hb dX2_takeIn_54 (by decide) ?_
        refine lv_isub hx hb dX2_takeIn_55 ?_
        obtain ⟨st7, kst7, h⟩ := bd_ex h
        refine aft_w (st1 := []) rfl (runV (As := [.int ((St_words st6) - (1 : Int32))]) (rest := []) ⟨hx, hb, hml, hown, hts⟩ (kX2_linkWithEarlier l g a kst7) (cwV 1 hts gX2_takeIn_X2_linkWithEarlier rfl rfl rfl hdX2_linkWithEarlier ⟨Nat.le_of_ble_eq_true rfl, Nat.le_of_ble_eq_true rfl⟩) hK hN hP hD (va_recv hK hP (ci := 2) (q0 := 0) rfl rfl) rfl hl.1 rfl (Nat.le_of_ble_eq_true rfl) dX2_takeIn_56 ⟨Nat.zero_le _, Nat.zero_le _⟩) hD hS hA (fun H locs hP hD hS => ?_)
        refine lv_iconst (v := 1) hx hb dX2_takeIn_59 (by decide) ?_
        cases some_i h
        exact hend _ _ _ _ _ hP hD hS (RetOK.z dX2_takeIn_60 (Or.inr rfl))
      · have h := if_f c4 h
        refine lv_iconst (v := 0) hx hb dX2_takeIn_27 (by decide) ?_
        cases some_i h
        exact hend _ _ _ _ _ hP hD hS (RetOK.z dX2_takeIn_28 (Or.inl rfl))
  · have h := if_f c2 h
    refine lv_iconst (v := 1) hx hb dX2_takeIn_9 (by decide) ?_
    cases some_i h
    exact hend _ _ _ _ _ hP hD hS (RetOK.z dX2_takeIn_10 (Or.inr rfl))
def fX2_turnsUntilBarred_L2 (st : St) (p1 : Int32) : Nat → Int32 → Option (Int32)
  | 0, _ => none
  | n + 1, v2_1 =>
    (if (32 : Int32) ≤ v2_1 then
    (some (-1 : Int32))
    else
    (bd (fX2_isBarredAfter st p1 v2_1) fun (r3 : Int32) =>
    (if r3 = (0 : Int32) then
    (pl ((v2_1 + (1 : Int32))) fun (x5 : Int32) =>
    (fX2_turnsUntilBarred_L2 st p1 n x5))
    else
    (some v2_1))))
def fX2_turnsUntilBarred (st : St) (p1 : Int32) : Option (Int32) :=
(fX2_turnsUntilBarred_L2 st p1 1000 (0 : Int32))
abbrev rX2_turnsUntilBarred : Room := { frames := 3, cells := 0, slots := 0, locals := 66 }
theorem hdX2_turnsUntilBarred : yX2_turnsUntilBarred.cls = RX2 ∧ yX2_turnsUntilBarred.cls ≠ "java/lang/invoke/MethodHandle" ∧ yX2_turnsUntilBarred.cls ≠ "java/lang/invoke/VarHandle" ∧ (parseMethodDescriptor yX2_turnsUntilBarred.desc).map (fun d => d.parameters.length) = some 1 := by decide +kernel
set_option maxRecDepth 100000 in
set_option maxHeartbeats 8000000 in
theorem kX2_turnsUntilBarred (l : Launch) (g : GG) (a : Nat → Nat) {st : St} {p1 : Int32} {res : Int32} (h : fX2_turnsUntilBarred st p1 = some res) : Cg l g yX2_turnsUntilBarred wsX2_turnsUntilBarred rX2_turnsUntilBarred [.ref (a 0), .int p1] (cSt g a st) (some (.int res)) (cSt g a st) := by
  refine Cg_of (cc := cX2_turnsUntilBarred) (maxL := 3) (ret := (some .int)) (by decide +kernel) rfl (Nat.le_of_ble_eq_true rfl) ?_
  intro p e su m args below meth c A Q ls hx hb hml hown hts hK hN hA hnm hP hD hS hl hend
  have hinX2 : ∀ w ∈ u_ws RX2 TX2 17, w ∈ wsX2_turnsUntilBarred := fun _ h9 => List.mem_cons_of_mem _ (List.mem_append_right _ h9)
  unfold fX2_turnsUntilBarred at h
  have hl : lv_has ls 3 [(0, .ref (a 0)), (1, .int p1)] := hl
  refine lv_iconst (v := 0) hx hb dX2_turnsUntilBarred_0 (by decide) ?_
  refine lv_istore_n (lv' := [(2, .int (0 : Int32)), (0, .ref (a 0)), (1, .int p1)]) hx hb dX2_turnsUntilBarred_1 rfl hl (by decide) rfl (fun ls hl => ?_)
  have L2 : ∀ (n : Nat) (v2_1 : Int32) (H : Heap) (locs : List Loc) (ls : Array Slot), fX2_turnsUntilBarred_L2 st p1 n v2_1 = some res → va_P g.1 vwCl (cSt g a st) H → va_D A (cSt g a st) → va_S A su.heap H locs → lv_has ls 3 [(0, .ref (a 0)), (1, .int p1), (2, .int v2_1)] → W p l e rX2_turnsUntilBarred su m args below meth c H locs 0 0 Q (F0 m 2 ls []) := by
    intro n
    induction n with
    | zero => intro v2_1 H locs ls h hP hD hS hl; cases h
    | succ n ih =>
      intro v2_1 H locs ls h hP hD hS hl
      rw [fX2_turnsUntilBarred_L2] at h
      refine lv_iload_n hx hb dX2_turnsUntilBarred_2 rfl (lv_at hl 2 rfl) ?_
      refine lv_bipush (v := 32) hx hb dX2_turnsUntilBarred_3 (by decide) ?_
      refine lv_icmp_ge (tgt := 25) hx hb dX2_turnsUntilBarred_5 (by decide) (fun c2 => ?_) (fun c2 => ?_)
      · have h := if_t c2 h
        refine lv_iconst (v := -1) hx hb dX2_turnsUntilBarred_25 (by decide) ?_
        cases some_i h
        exact hend _ _ _ _ _ hP hD hS (RetOK.i dX2_turnsUntilBarred_26)
      · have h := if_f c2 h
        refine lv_aload_n hx hb dX2_turnsUntilBarred_8 rfl (lv_at hl 0 rfl) ?_
        refine lv_iload_n hx hb dX2_turnsUntilBarred_9 rfl (lv_at hl 1 rfl) ?_
        refine lv_iload_n hx hb dX2_turnsUntilBarred_10 rfl (lv_at hl 2 rfl) ?_
        obtain ⟨r3, kr3, h⟩ := bd_ex h
        refine aft_w (st1 := [.int r3]) rfl (runV (As := [.int p1, .int v2_1]) (rest := []) ⟨hx, hb, hml, hown, hts⟩ (kX2_isBarredAfter l g a kr3) (cwV 2 hts gX2_turnsUntilBarred_X2_isBarredAfter rfl rfl rfl hdX2_isBarredAfter ⟨Nat.le_of_ble_eq_true rfl, Nat.le_of_ble_eq_true rfl⟩) hK hN hP hD (va_recv hK hP (ci := 2) (q0 := 0) rfl rfl) rfl hl.1 rfl (Nat.le_of_ble_eq_true rfl) dX2_turnsUntilBarred_11 ⟨Nat.zero_le _, Nat.zero_le _⟩) hD hS hA (fun H locs hP hD hS => ?_)
        refine lv_if_eq (tgt := 19) hx hb dX2_turnsUntilBarred_14 (by decide) (fun c4 => ?_) (fun c4 => ?_)
        · have h := if_t c4 h
          obtain ⟨x5, ex5, h⟩ := pl_ex h
          refine lv_iinc (v := x5) (lv' := [(2, .int x5), (0, .ref (a 0)), (1, .int p1)]) hx hb dX2_turnsUntilBarred_19 hl (k := 2) rfl (by rw [← ex5]; rfl) (by decide) rfl (fun ls hl => ?_)
          refine lv_goto (tgt := 2) hx hb dX2_turnsUntilBarred_22 (by decide) ?_
          exact ih x5 _ _ _ h hP hD hS (lv_sub hl [1, 2, 0] rfl)
        · have h := if_f c4 h
          refine lv_iload_n hx hb dX2_turnsUntilBarred_17 rfl (lv_at hl 2 rfl) ?_
          cases some_i h
          exact hend _ _ _ _ _ hP hD hS (RetOK.i dX2_turnsUntilBarred_18)
  exact L2 1000 (0 : Int32) _ _ _ h hP hD hS (lv_sub hl [1, 2, 0] rfl)
def fX5_lowest (p0 : Int32) : Option (Int32) :=
(if p0 = (0 : Int32) then
(some (-1 : Int32))
else
(bd (fJ6_numberOfTrailingZeros_0f7a4 p0) fun (r2 : Int32) =>
(some r2)))
abbrev rX5_lowest : Room := { frames := 1, cells := 0, slots := 0, locals := 21 }
theorem hdX5_lowest : yX5_lowest.cls = RX5 ∧ yX5_lowest.cls ≠ "java/lang/invoke/MethodHandle" ∧ yX5_lowest.cls ≠ "java/lang/invoke/VarHandle" ∧ (parseMethodDescriptor yX5_lowest.desc).map (fun d => d.parameters.length) = some 1 := by decide +kernel
set_option maxRecDepth 100000 in
set_option maxHeartbeats 8000000 in
theorem kX5_lowest (l : Launch) (g : GG) {p0 : Int32} {res : Int32} (h : fX5_lowest p0 = some res) : Cg l g yX5_lowest wsX5_lowest rX5_lowest [.int p0] [] (some (.int res)) [] := by
  refine Cg_of (cc := cX5_lowest) (maxL := 1) (ret := (some .int)) (by decide +kernel) rfl (Nat.le_of_ble_eq_true rfl) ?_
  intro p e su m args below meth c A Q ls hx hb hml hown hts hK hN hA hnm hP hD hS hl hend
  unfold fX5_lowest at h
  have hl : lv_has ls 1 [(0, .int p0)] := hl
  refine lv_iload_n hx hb dX5_lowest_0 rfl (lv_at hl 0 rfl) ?_
  refine lv_if_ne (tgt := 8) hx hb dX5_lowest_1 (by decide) (fun c1 => ?_) (fun c1 => ?_)
  · have h := if_f c1 h
    refine lv_iload_n hx hb dX5_lowest_8 rfl (lv_at hl 0 rfl) ?_
    obtain ⟨r2, kr2, h⟩ := bd_ex h
    refine aft_e (st1 := [.int r2]) rfl (runS (As := [.int p0]) (rest := []) ⟨hx, hb, hml, hown, hts⟩ (kJ6_numberOfTrailingZeros_0f7a4 l g kr2) (va_cwS 1 hts gX5_lowest_J6_numberOfTrailingZeros_0f7a4 rfl rfl rfl hdJ6_numberOfTrailingZeros_0f7a4.2 ⟨Nat.le_of_ble_eq_true rfl, Nat.le_of_ble_eq_true rfl⟩) hK hN nilP (nilD (A := A)) rfl hl.1 rfl (Nat.le_of_ble_eq_true rfl) dX5_lowest_9 ⟨Nat.zero_le _, Nat.zero_le _⟩) hP hS hA (fun H locs hP hS => ?_)
    cases some_i h
    exact hend _ _ _ _ _ hP hD hS (RetOK.i dX5_lowest_12)
  · have h := if_t c1 h
    refine lv_iconst (v := -1) hx hb dX5_lowest_4 (by decide) ?_
    refine lv_goto (tgt := 12) hx hb dX5_lowest_5 (by decide) ?_
    cases some_i h
    exact hend _ _ _ _ _ hP hD hS (RetOK.i dX5_lowest_12)
