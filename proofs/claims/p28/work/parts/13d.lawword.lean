section LM
def fL_isWord_L12 (vq : AI) (vw : AI) (vl : AI) (p1 : Int32) : Nat → Int32 → Int32 → Int32 → Int32 → Option (Int32 × Int32 × Int32)
  | 0, _, _, _, _ => none
  | n + 1, v6_1, v7_2, v8_3, v9_4 =>
    (if (vq (0 : Int32).toNatClampNeg) ≤ v9_4 then
    (some (v6_1, v7_2, v8_3))
    else
    (bd (fL_ladder vq vl p1 v9_4) fun (r9 : Int32) =>
    (bd (if r9 < (0 : Int32) then
    (some (0 : Int32))
    else
    (some (1 : Int32))) fun (j10 : Int32) =>
    (ck (inb p1 24)
    (ck (inb v9_4 24)
    (bd (fL_linked (vw p1.toNatClampNeg) (vw v9_4.toNatClampNeg) (vq (4 : Int32).toNatClampNeg)) fun (r11 : Int32) =>
    (bd (if r11 = (0 : Int32) then
    (some (0 : Int32))
    else
    (some (1 : Int32))) fun (j12 : Int32) =>
    (pl ((v6_1 + j12)) fun (x13 : Int32) =>
    (bd (if j10 = (0 : Int32) then
    (some (0 : Int32))
    else
    (some (1 : Int32))) fun (j14 : Int32) =>
    (pl ((v7_2 + j14)) fun (x15 : Int32) =>
    (bd (if j10 = (0 : Int32) then
    (some v8_3)
    else
    (if (0 : Int32) ≤ v8_3 then
    (some v8_3)
    else
    (some v9_4))) fun (j16 : Int32) =>
    (pl ((v9_4 + (1 : Int32))) fun (x17 : Int32) =>
    (fL_isWord_L12 vq vw vl p1 n x13 x15 j16 x17)))))))))))))
def fL_isWord_L112 (vq : AI) (vw : AI) (p1 : Int32) : Nat → Int32 → Int32 → Option (Int32)
  | 0, _, _ => none
  | n + 1, v9_26, v10_27 =>
    (if v10_27 < (0 : Int32) then
    (some v9_26)
    else
    (ck (inb p1 24)
    (bd (fL_isBarred vq (vw p1.toNatClampNeg) v10_27) fun (r30 : Int32) =>
    (bd (if r30 = (0 : Int32) then
    (some v9_26)
    else
    (some v10_27)) fun (j31 : Int32) =>
    (pl ((v10_27 + (-1 : Int32))) fun (x32 : Int32) =>
    (fL_isWord_L112 vq vw p1 n j31 x32))))))
def fL_isWord_L236 (tx : Tx) (is : Is) (wa : Wa) (st : St) (hi : Hi) (vw : AI) (p1 : Int32) : Nat → Int32 → Int32 → Option (Int32)
  | 0, _, _ => none
  | n + 1, v10_38, v11_39 =>
    (if (4 : Int32) ≤ v11_39 then
    (some v10_38)
    else
    (bd (if v10_38 = (0 : Int32) then
    (some (0 : Int32))
    else
    (bd (fL_word tx is wa st hi p1 v11_39) fun (r45 : Int32) =>
    (ck (inb p1 24)
    (bd (fL_letter (vw p1.toNatClampNeg) v11_39) fun (r46 : Int32) =>
    (if r45 = r46 then
    (some (1 : Int32))
    else
    (some (0 : Int32))))))) fun (j42 : Int32) =>
    (pl ((v11_39 + (1 : Int32))) fun (x43 : Int32) =>
    (fL_isWord_L236 tx is wa st hi vw p1 n j42 x43))))
def fL_isWord (tx : Tx) (is : Is) (wa : Wa) (st : St) (hi : Hi) (vq : AI) (vw : AI) (vc : AI) (vl : AI) (p1 : Int32) : Option (Int32) :=
(bd3 (fL_isWord_L12 vq vw vl p1 1000 (0 : Int32) (0 : Int32) (-1 : Int32) (0 : Int32)) fun (v6_23 : Int32) (v7_24 : Int32) (v8_25 : Int32) =>
(bd (fL_isWord_L112 vq vw p1 1000 (-1 : Int32) (31 : Int32)) fun (v9_34 : Int32) =>
(bd (fL_word tx is wa st hi p1 (4 : Int32)) fun (r35 : Int32) =>
(bd (if v9_34 = (0 : Int32) then
(some (1 : Int32))
else
(some (0 : Int32))) fun (j36 : Int32) =>
(bd (if r35 = j36 then
(bd (fL_word tx is wa st hi p1 (5 : Int32)) fun (r50 : Int32) =>
(if r50 = v6_23 then
(bd (fL_word tx is wa st hi p1 (6 : Int32)) fun (r52 : Int32) =>
(bd (fL_on vc p1) fun (r53 : Int32) =>
(if r52 = r53 then
(bd (fL_word tx is wa st hi p1 (7 : Int32)) fun (r55 : Int32) =>
(if r55 = v8_25 then
(bd (fL_word tx is wa st hi p1 (8 : Int32)) fun (r57 : Int32) =>
(if r57 = v7_24 then
(bd (fL_word tx is wa st hi p1 (9 : Int32)) fun (r59 : Int32) =>
(if r59 = v9_34 then
(some (1 : Int32))
else
(some (0 : Int32))))
else
(some (0 : Int32))))
else
(some (0 : Int32))))
else
(some (0 : Int32)))))
else
(some (0 : Int32))))
else
(some (0 : Int32))) fun (j37 : Int32) =>
(bd (fL_isWord_L236 tx is wa st hi vw p1 1000 j37 (0 : Int32)) fun (v10_48 : Int32) =>
(ck (zb v10_48)
(some v10_48))))))))
abbrev rL_isWord : Room := { frames := 8, cells := 0, slots := 0, locals := 155 }
theorem hdL_isWord : yL_isWord.cls ≠ "java/lang/invoke/MethodHandle" ∧ yL_isWord.cls ≠ "java/lang/invoke/VarHandle" ∧ (parseMethodDescriptor yL_isWord.desc).map (fun d => d.parameters.length) = some 6 := by decide +kernel
set_option maxRecDepth 100000 in
set_option maxHeartbeats 16000000 in
theorem kL_isWord (l : Launch) (g : GG) (aq aw ac al : Nat) (ad : Nat → Nat → Nat) {tx : Tx} {is : Is} {wa : Wa} {st : St} {hi : Hi} {vq : AI} {vw : AI} {vc : AI} {vl : AI} {p1 : Int32} {res : Int32} (h : fL_isWord tx is wa st hi vq vw vc vl p1 = some res) : Cg l g yL_isWord wsL_isWord rL_isWord [.ref (ad 0 0), .int p1, .ref aq, .ref aw, .ref ac, .ref al] ((cAr g aq 10 vq) ++ ((cAr g aw 24 vw) ++ ((cAr g ac 21 vc) ++ ((cAr g al 24 vl) ++ ((wBR g ad tx is wa st hi)))))) (some (.int res)) ((cAr g aq 10 vq) ++ ((cAr g aw 24 vw) ++ ((cAr g ac 21 vc) ++ ((cAr g al 24 vl) ++ ((wBR g ad tx is wa st hi)))))) := by
  refine Cg_of (cc := cL_isWord) (maxL := 12) (ret := (some .boolean)) (by decide +kernel) rfl (Nat.le_of_ble_eq_true rfl) ?_
  intro p e su m args below meth c A Q ls hx hb hml hown hts hK hN hA hnm hP hD hS hl hend
  unfold fL_isWord at h
  have hl : lv_has ls 12 [(0, .ref (ad 0 0)), (1, .int p1), (2, .ref aq), (3, .ref aw), (4, .ref ac), (5, .ref al)] := hl
  refine lv_iconst (v := 0) hx hb dL_isWord_0 (by decide) ?_
  refine lv_istore (lv' := [(6, .int (0 : Int32)), (0, .ref (ad 0 0)), (1, .int p1), (2, .ref aq), (3, .ref aw), (4, .ref ac), (5, .ref al)]) hx hb dL_isWord_1 hl (by decide) rfl (fun ls hl => ?_)
  refine lv_iconst (v := 0) hx hb dL_isWord_3 (by decide) ?_
  refine lv_istore (lv' := [(7, .int (0 : Int32)), (6, .int (0 : Int32)), (0, .ref (ad 0 0)), (1, .int p1), (2, .ref aq), (3, .ref aw), (4, .ref ac), (5, .ref al)]) hx hb dL_isWord_4 hl (by decide) rfl (fun ls hl => ?_)
  refine lv_iconst (v := -1) hx hb dL_isWord_6 (by decide) ?_
  refine lv_istore (lv' := [(8, .int (-1 : Int32)), (7, .int (0 : Int32)), (6, .int (0 : Int32)), (0, .ref (ad 0 0)), (1, .int p1), (2, .ref aq), (3, .ref aw), (4, .ref ac), (5, .ref al)]) hx hb dL_isWord_7 hl (by decide) rfl (fun ls hl => ?_)
  refine lv_iconst (v := 0) hx hb dL_isWord_9 (by decide) ?_
  refine lv_istore (lv' := [(9, .int (0 : Int32)), (8, .int (-1 : Int32)), (7, .int (0 : Int32)), (6, .int (0 : Int32)), (0, .ref (ad 0 0)), (1, .int p1), (2, .ref aq), (3, .ref aw), (4, .ref ac), (5, .ref al)]) hx hb dL_isWord_10 hl (by decide) rfl (fun ls hl => ?_)
  have L12 : ∀ (n : Nat) (v6_1 : Int32) (v7_2 : Int32) (v8_3 : Int32) (v9_4 : Int32) (y6_5 : Int32) (y7_6 : Int32) (y8_7 : Int32) (H : Heap) (locs : List Loc) (ls : Array Slot), fL_isWord_L12 vq vw vl p1 n v6_1 v7_2 v8_3 v9_4 = some (y6_5, y7_6, y8_7) → va_P g.1 vwCl ((cAr g aq 10 vq) ++ ((cAr g aw 24 vw) ++ ((cAr g ac 21 vc) ++ ((cAr g al 24 vl) ++ ((wBR g ad tx is wa st hi)))))) H → va_D A ((cAr g aq 10 vq) ++ ((cAr g aw 24 vw) ++ ((cAr g ac 21 vc) ++ ((cAr g al 24 vl) ++ ((wBR g ad tx is wa st hi)))))) → va_S A su.heap H locs → lv_has ls 12 [(0, .ref (ad 0 0)), (1, .int p1), (2, .ref aq), (3, .ref aw), (4, .ref ac), (5, .ref al), (6, .int v6_1), (7, .int v7_2), (8, .int v8_3), (9, .int v9_4)] → (∀ (H : Heap) (locs : List Loc) (ls : Array Slot), va_P g.1 vwCl ((cAr g aq 10 vq) ++ ((cAr g aw 24 vw) ++ ((cAr g ac 21 vc) ++ ((cAr g al 24 vl) ++ ((wBR g ad tx is wa st hi)))))) H → va_D A ((cAr g aq 10 vq) ++ ((cAr g aw 24 vw) ++ ((cAr g ac 21 vc) ++ ((cAr g al 24 vl) ++ ((wBR g ad tx is wa st hi)))))) → va_S A su.heap H locs → lv_has ls 12 [(0, .ref (ad 0 0)), (1, .int p1), (2, .ref aq), (3, .ref aw), (4, .ref ac), (6, .int y6_5), (7, .int y7_6), (8, .int y8_7)] → W p l e rL_isWord su m args below meth c H locs 0 0 Q (F0 m 105 ls [])) → W p l e rL_isWord su m args below meth c H locs 0 0 Q (F0 m 12 ls []) := by
    intro n
    induction n with
    | zero => intro v6_1 v7_2 v8_3 v9_4 y6_5 y7_6 y8_7 H locs ls h hP hD hS hl kx; cases h
    | succ n ih =>
      intro v6_1 v7_2 v8_3 v9_4 y6_5 y7_6 y8_7 H locs ls h hP hD hS hl kx
      rw [fL_isWord_L12] at h
      refine lv_iload hx hb dL_isWord_12 (lv_at hl 9 rfl) ?_
      refine lv_aload_n hx hb dL_isWord_14 rfl (lv_at hl 2 rfl) ?_
      refine lv_iconst (v := 0) hx hb dL_isWord_15 (by decide) ?_
      refine va_iald hx hb hK hP 0 0 rfl rfl (inb_in (i := 0) (n := 10) (by decide)) dL_isWord_16 ?_
      refine lv_icmp_ge (tgt := 105) hx hb dL_isWord_17 (by decide) (fun c8 => ?_) (fun c8 => ?_)
      · have h := if_t c8 h
        cases some_i h
        exact kx _ _ _ hP hD hS (lv_sub hl [0, 1, 2, 3, 4, 6, 7, 8] rfl)
      · have h := if_f c8 h
        refine lv_iload_n hx hb dL_isWord_20 rfl (lv_at hl 1 rfl) ?_
        refine lv_iload hx hb dL_isWord_21 (lv_at hl 9 rfl) ?_
        refine lv_aload_n hx hb dL_isWord_23 rfl (lv_at hl 2 rfl) ?_
        refine lv_aload hx hb dL_isWord_24 (lv_at hl 5 rfl) ?_
        obtain ⟨r9, kr9, h⟩ := bd_ex h
        have pq : (((cAr g aq 10 vq) ++ ((cAr g aw 24 vw) ++ ((cAr g ac 21 vc) ++ ((cAr g al 24 vl) ++ ((wBR g ad tx is wa st hi)))))) : va_W).Perm (((cAr g aq 10 vq) ++ ((cAr g al 24 vl))) ++ ((cAr g aw 24 vw) ++ ((cAr g ac 21 vc) ++ ((wBR g ad tx is wa st hi))))) := pmS [(cAr g aq 10 vq), (cAr g aw 24 vw), (cAr g ac 21 vc), (cAr g al 24 vl), (wBR g ad tx is wa st hi)] [0, 1, 2, 3, 4] [0, 3] [1, 2, 4] (by decide)
        have pr : ((((cAr g aq 10 vq) ++ ((cAr g al 24 vl))) ++ ((cAr g aw 24 vw) ++ ((cAr g ac 21 vc) ++ ((wBR g ad tx is wa st hi))))) : va_W).Perm ((cAr g aq 10 vq) ++ ((cAr g aw 24 vw) ++ ((cAr g ac 21 vc) ++ ((cAr g al 24 vl) ++ ((wBR g ad tx is wa st hi)))))) := (pmS [(cAr g aq 10 vq), (cAr g aw 24 vw), (cAr g ac 21 vc), (cAr g al 24 vl), (wBR g ad tx is wa st hi)] [0, 1, 2, 3, 4] [0, 3] [1, 2, 4] (by decide)).symm
        refine aft_p (st1 := [.int r9]) (ws' := ((cAr g aq 10 vq) ++ ((cAr g aw 24 vw) ++ ((cAr g ac 21 vc) ++ ((cAr g al 24 vl) ++ ((wBR g ad tx is wa st hi))))))) rfl pq pr (runS (As := [.int p1, .int v9_4, .ref aq, .ref al]) (rest := []) ⟨hx, hb, hml, hown, hts⟩ (kL_ladder l g aq al kr9) (va_cwS 4 hts gL_isWord_L_ladder rfl rfl rfl hdL_ladder ⟨Nat.le_of_ble_eq_true rfl, Nat.le_of_ble_eq_true rfl⟩) hK hN (hP.perm pq).left (hD.perm pq).left rfl hl.1 rfl (Nat.le_of_ble_eq_true rfl) dL_isWord_26 ⟨Nat.zero_le _, Nat.zero_le _⟩) hP hD hS hA (fun H locs hP hD hS => ?_)
        obtain ⟨j10, kj10, h⟩ := bd_ex h
        have kx1 : ∀ (H : Heap) (locs : List Loc) (ls : Array Slot), va_P g.1 vwCl ((cAr g aq 10 vq) ++ ((cAr g aw 24 vw) ++ ((cAr g ac 21 vc) ++ ((cAr g al 24 vl) ++ ((wBR g ad tx is wa st hi)))))) H → va_D A ((cAr g aq 10 vq) ++ ((cAr g aw 24 vw) ++ ((cAr g ac 21 vc) ++ ((cAr g al 24 vl) ++ ((wBR g ad tx is wa st hi)))))) → va_S A su.heap H locs → lv_has ls 12 [(0, .ref (ad 0 0)), (1, .int p1), (2, .ref aq), (3, .ref aw), (4, .ref ac), (5, .ref al), (6, .int v6_1), (7, .int v7_2), (8, .int v8_3), (9, .int v9_4)] → W p l e rL_isWord su m args below meth c H locs 0 0 Q (F0 m 37 ls [.int j10]) := by
          intro H locs ls hP hD hS hl
          refine lv_istore (lv' := [(10, .int j10), (0, .ref (ad 0 0)), (1, .int p1), (2, .ref aq), (3, .ref aw), (4, .ref ac), (5, .ref al), (6, .int v6_1), (7, .int v7_2), (8, .int v8_3), (9, .int v9_4)]) hx hb dL_isWord_37 hl (by decide) rfl (fun ls hl => ?_)
          refine lv_iload hx hb dL_isWord_39 (lv_at hl 7 rfl) ?_
          refine lv_aload_n hx hb dL_isWord_41 rfl (lv_at hl 4 rfl) ?_
          refine lv_iload_n hx hb dL_isWord_42 rfl (lv_at hl 2 rfl) ?_
          obtain ⟨hi9, h⟩ := ck_ex h
          refine va_iald hx hb hK hP 1 0 rfl rfl (inb_in hi9) dL_isWord_43 ?_
          refine lv_aload_n hx hb dL_isWord_44 rfl (lv_at hl 4 rfl) ?_
          refine lv_iload hx hb dL_isWord_45 (lv_at hl 10 rfl) ?_
          obtain ⟨hi9, h⟩ := ck_ex h
          refine va_iald hx hb hK hP 1 0 rfl rfl (inb_in hi9) dL_isWord_47 ?_
          refine lv_aload_n hx hb dL_isWord_48 rfl (lv_at hl 3 rfl) ?_
          refine lv_iconst (v := 4) hx hb dL_isWord_49 (by decide) ?_
          refine va_iald hx hb hK hP 0 0 rfl rfl (inb_in (i := 4) (n := 10) (by decide)) dL_isWord_50 ?_
          obtain ⟨r11, kr11, h⟩ := bd_ex h
          refine aft_e (st1 := [.int r11, .int v6_1]) rfl (runS (As := [.int (vw p1.toNatClampNeg), .int (vw v9_4.toNatClampNeg), .int (vq (4 : Int32).toNatClampNeg)]) (rest := [.int v6_1]) ⟨hx, hb, hml, hown, hts⟩ (kL_linked l g kr11) (va_cwS 3 hts gL_isWord_L_linked rfl rfl rfl hdL_linked ⟨Nat.le_of_ble_eq_true rfl, Nat.le_of_ble_eq_true rfl⟩) hK hN nilP (nilD (A := A)) rfl hl.1 rfl (Nat.le_of_ble_eq_true rfl) dL_isWord_51 ⟨Nat.zero_le _, Nat.zero_le _⟩) hP hS hA (fun H locs hP hS => ?_)
          obtain ⟨j12, kj12, h⟩ := bd_ex h
          have kx2 : ∀ (H : Heap) (locs : List Loc) (ls : Array Slot), va_P g.1 vwCl ((cAr g aq 10 vq) ++ ((cAr g aw 24 vw) ++ ((cAr g ac 21 vc) ++ ((cAr g al 24 vl) ++ ((wBR g ad tx is wa st hi)))))) H → va_D A ((cAr g aq 10 vq) ++ ((cAr g aw 24 vw) ++ ((cAr g ac 21 vc) ++ ((cAr g al 24 vl) ++ ((wBR g ad tx is wa st hi)))))) → va_S A su.heap H locs → lv_has ls 12 [(0, .ref (ad 0 0)), (1, .int p1), (2, .ref aq), (3, .ref aw), (4, .ref ac), (5, .ref al), (7, .int v7_2), (8, .int v8_3), (9, .int v9_4), (10, .int j10)] → W p l e rL_isWord su m args below meth c H locs 0 0 Q (F0 m 62 ls [.int j12, .int v6_1]) := by
            intro H locs ls hP hD hS hl
            refine lv_iadd hx hb dL_isWord_62 ?_
            obtain ⟨x13, ex13, h⟩ := pl_ex h
            refine lv_eqi ex13 ?_
            refine lv_istore (lv' := [(6, .int x13), (0, .ref (ad 0 0)), (1, .int p1), (2, .ref aq), (3, .ref aw), (4, .ref ac), (5, .ref al), (7, .int v7_2), (8, .int v8_3), (9, .int v9_4), (10, .int j10)]) hx hb dL_isWord_63 hl (by decide) rfl (fun ls hl => ?_)
            refine lv_iload hx hb dL_isWord_65 (lv_at hl 7 rfl) ?_
            refine lv_iload hx hb dL_isWord_67 (lv_at hl 10 rfl) ?_
            obtain ⟨j14, kj14, h⟩ := bd_ex h
            have kx3 : ∀ (H : Heap) (locs : List Loc) (ls : Array Slot), va_P g.1 vwCl ((cAr g aq 10 vq) ++ ((cAr g aw 24 vw) ++ ((cAr g ac 21 vc) ++ ((cAr g al 24 vl) ++ ((wBR g ad tx is wa st hi)))))) H → va_D A ((cAr g aq 10 vq) ++ ((cAr g aw 24 vw) ++ ((cAr g ac 21 vc) ++ ((cAr g al 24 vl) ++ ((wBR g ad tx is wa st hi)))))) → va_S A su.heap H locs → lv_has ls 12 [(0, .ref (ad 0 0)), (1, .int p1), (2, .ref aq), (3, .ref aw), (4, .ref ac), (5, .ref al), (6, .int x13), (8, .int v8_3), (9, .int v9_4), (10, .int j10)] → W p l e rL_isWord su m args below meth c H locs 0 0 Q (F0 m 77 ls [.int j14, .int v7_2]) := by
              intro H locs ls hP hD hS hl
              refine lv_iadd hx hb dL_isWord_77 ?_
              obtain ⟨x15, ex15, h⟩ := pl_ex h
              refine lv_eqi ex15 ?_
              refine lv_istore (lv' := [(7, .int x15), (0, .ref (ad 0 0)), (1, .int p1), (2, .ref aq), (3, .ref aw), (4, .ref ac), (5, .ref al), (6, .int x13), (8, .int v8_3), (9, .int v9_4), (10, .int j10)]) hx hb dL_isWord_78 hl (by decide) rfl (fun ls hl => ?_)
              refine lv_iload hx hb dL_isWord_80 (lv_at hl 10 rfl) ?_
              obtain ⟨j16, kj16, h⟩ := bd_ex h
              have kx4 : ∀ (H : Heap) (locs : List Loc) (ls : Array Slot), va_P g.1 vwCl ((cAr g aq 10 vq) ++ ((cAr g aw 24 vw) ++ ((cAr g ac 21 vc) ++ ((cAr g al 24 vl) ++ ((wBR g ad tx is wa st hi)))))) H → va_D A ((cAr g aq 10 vq) ++ ((cAr g aw 24 vw) ++ ((cAr g ac 21 vc) ++ ((cAr g al 24 vl) ++ ((wBR g ad tx is wa st hi)))))) → va_S A su.heap H locs → lv_has ls 12 [(0, .ref (ad 0 0)), (1, .int p1), (2, .ref aq), (3, .ref aw), (4, .ref ac), (5, .ref al), (6, .int x13), (7, .int x15), (9, .int v9_4)] → W p l e rL_isWord su m args below meth c H locs 0 0 Q (F0 m 97 ls [.int j16]) := by
                intro H locs ls hP hD hS hl
                refine lv_istore (lv' := [(8, .int j16), (0, .ref (ad 0 0)), (1, .int p1), (2, .ref aq), (3, .ref aw), (4, .ref ac), (5, .ref al), (6, .int x13), (7, .int x15), (9, .int v9_4)]) hx hb dL_isWord_97 hl (by decide) rfl (fun ls hl => ?_)
                obtain ⟨x17, ex17, h⟩ := pl_ex h
                refine lv_iinc (v := x17) (lv' := [(9, .int x17), (8, .int j16), (0, .ref (ad 0 0)), (1, .int p1), (2, .ref aq), (3, .ref aw), (4, .ref ac), (5, .ref al), (6, .int x13), (7, .int x15)]) hx hb dL_isWord_99 hl (k := 9) rfl (by rw [← ex17]; rfl) (by decide) rfl (fun ls hl => ?_)
                refine lv_goto (tgt := 12) hx hb dL_isWord_102 (by decide) ?_
                exact ih x13 x15 j16 x17 _ _ _ _ _ _ h hP hD hS (lv_sub hl [2, 3, 4, 5, 6, 7, 8, 9, 1, 0] rfl) kx
              have h := kj16
              refine lv_if_eq (tgt := 95) hx hb dL_isWord_82 (by decide) (fun c18 => ?_) (fun c18 => ?_)
              · have h := if_t c18 h
                refine lv_iload hx hb dL_isWord_95 (lv_at hl 8 rfl) ?_
                cases some_i h
                exact kx4 _ _ _ hP hD hS (lv_sub hl [1, 2, 3, 4, 5, 6, 7, 0, 9] rfl)
              · have h := if_f c18 h
                refine lv_iload hx hb dL_isWord_85 (lv_at hl 8 rfl) ?_
                refine lv_if_ge (tgt := 95) hx hb dL_isWord_87 (by decide) (fun c19 => ?_) (fun c19 => ?_)
                · have h := if_t c19 h
                  refine lv_iload hx hb dL_isWord_95 (lv_at hl 8 rfl) ?_
                  cases some_i h
                  exact kx4 _ _ _ hP hD hS (lv_sub hl [1, 2, 3, 4, 5, 6, 7, 0, 9] rfl)
                · have h := if_f c19 h
                  refine lv_iload hx hb dL_isWord_90 (lv_at hl 9 rfl) ?_
                  refine lv_goto (tgt := 97) hx hb dL_isWord_92 (by decide) ?_
                  cases some_i h
                  exact kx4 _ _ _ hP hD hS (lv_sub hl [1, 2, 3, 4, 5, 6, 7, 0, 9] rfl)
            have h := kj14
            refine lv_if_eq (tgt := 76) hx hb dL_isWord_69 (by decide) (fun c20 => ?_) (fun c20 => ?_)
            · have h := if_t c20 h
              refine lv_iconst (v := 0) hx hb dL_isWord_76 (by decide) ?_
              cases some_i h
              exact kx3 _ _ _ hP hD hS (lv_sub hl [1, 2, 3, 4, 5, 6, 0, 8, 9, 10] rfl)
            · have h := if_f c20 h
              refine lv_iconst (v := 1) hx hb dL_isWord_72 (by decide) ?_
              refine lv_goto (tgt := 77) hx hb dL_isWord_73 (by decide) ?_
              cases some_i h
              exact kx3 _ _ _ hP hD hS (lv_sub hl [1, 2, 3, 4, 5, 6, 0, 8, 9, 10] rfl)
          have h := kj12
          refine lv_if_eq (tgt := 61) hx hb dL_isWord_54 (by decide) (fun c21 => ?_) (fun c21 => ?_)
          · have h := if_t c21 h
            refine lv_iconst (v := 0) hx hb dL_isWord_61 (by decide) ?_
            cases some_i h
            exact kx2 _ _ _ hP hD hS (lv_sub hl [1, 2, 3, 4, 5, 6, 8, 9, 10, 0] rfl)
          · have h := if_f c21 h
            refine lv_iconst (v := 1) hx hb dL_isWord_57 (by decide) ?_
            refine lv_goto (tgt := 62) hx hb dL_isWord_58 (by decide) ?_
            cases some_i h
            exact kx2 _ _ _ hP hD hS (lv_sub hl [1, 2, 3, 4, 5, 6, 8, 9, 10, 0] rfl)
        have h := kj10
        refine lv_if_lt (tgt := 36) hx hb dL_isWord_29 (by decide) (fun c22 => ?_) (fun c22 => ?_)
        · have h := if_t c22 h
          refine lv_iconst (v := 0) hx hb dL_isWord_36 (by decide) ?_
          cases some_i h
          exact kx1 _ _ _ hP hD hS (lv_sub hl [0, 1, 2, 3, 4, 5, 6, 7, 8, 9] rfl)
        · have h := if_f c22 h
          refine lv_iconst (v := 1) hx hb dL_isWord_32 (by decide) ?_
          refine lv_goto (tgt := 37) hx hb dL_isWord_33 (by decide) ?_
          cases some_i h
          exact kx1 _ _ _ hP hD hS (lv_sub hl [0, 1, 2, 3, 4, 5, 6, 7, 8, 9] rfl)
  obtain ⟨v6_23, v7_24, v8_25, kv6_23, h⟩ := bd3_ex h
  refine L12 1000 (0 : Int32) (0 : Int32) (-1 : Int32) (0 : Int32) v6_23 v7_24 v8_25 _ _ _ kv6_23 hP hD hS (lv_sub hl [4, 5, 6, 7, 8, 9, 3, 2, 1, 0] rfl) (fun H locs ls hP hD hS hl => ?_)
  refine lv_iconst (v := -1) hx hb dL_isWord_105 (by decide) ?_
  refine lv_istore (lv' := [(9, .int (-1 : Int32)), (0, .ref (ad 0 0)), (1, .int p1), (2, .ref aq), (3, .ref aw), (4, .ref ac), (6, .int v6_23), (7, .int v7_24), (8, .int v8_25)]) hx hb dL_isWord_106 hl (by decide) rfl (fun ls hl => ?_)
  refine lv_bipush (v := 31) hx hb dL_isWord_108 (by decide) ?_
  refine lv_istore (lv' := [(10, .int (31 : Int32)), (9, .int (-1 : Int32)), (0, .ref (ad 0 0)), (1, .int p1), (2, .ref aq), (3, .ref aw), (4, .ref ac), (6, .int v6_23), (7, .int v7_24), (8, .int v8_25)]) hx hb dL_isWord_110 hl (by decide) rfl (fun ls hl => ?_)
  have L112 : ∀ (n : Nat) (v9_26 : Int32) (v10_27 : Int32) (y9_28 : Int32) (H : Heap) (locs : List Loc) (ls : Array Slot), fL_isWord_L112 vq vw p1 n v9_26 v10_27 = some y9_28 → va_P g.1 vwCl ((cAr g aq 10 vq) ++ ((cAr g aw 24 vw) ++ ((cAr g ac 21 vc) ++ ((cAr g al 24 vl) ++ ((wBR g ad tx is wa st hi)))))) H → va_D A ((cAr g aq 10 vq) ++ ((cAr g aw 24 vw) ++ ((cAr g ac 21 vc) ++ ((cAr g al 24 vl) ++ ((wBR g ad tx is wa st hi)))))) → va_S A su.heap H locs → lv_has ls 12 [(0, .ref (ad 0 0)), (1, .int p1), (2, .ref aq), (3, .ref aw), (4, .ref ac), (6, .int v6_23), (7, .int v7_24), (8, .int v8_25), (9, .int v9_26), (10, .int v10_27)] → (∀ (H : Heap) (locs : List Loc) (ls : Array Slot), va_P g.1 vwCl ((cAr g aq 10 vq) ++ ((cAr g aw 24 vw) ++ ((cAr g ac 21 vc) ++ ((cAr g al 24 vl) ++ ((wBR g ad tx is wa st hi)))))) H → va_D A ((cAr g aq 10 vq) ++ ((cAr g aw 24 vw) ++ ((cAr g ac 21 vc) ++ ((cAr g al 24 vl) ++ ((wBR g ad tx is wa st hi)))))) → va_S A su.heap H locs → lv_has ls 12 [(0, .ref (ad 0 0)), (1, .int p1), (3, .ref aw), (4, .ref ac), (6, .int v6_23), (7, .int v7_24), (8, .int v8_25), (9, .int y9_28)] → W p l e rL_isWord su m args below meth c H locs 0 0 Q (F0 m 144 ls [])) → W p l e rL_isWord su m args below meth c H locs 0 0 Q (F0 m 112 ls []) := by
    intro n
    induction n with
    | zero => intro v9_26 v10_27 y9_28 H locs ls h hP hD hS hl kx; cases h
    | succ n ih =>
      intro v9_26 v10_27 y9_28 H locs ls h hP hD hS hl kx
      rw [fL_isWord_L112] at h
      refine lv_iload hx hb dL_isWord_112 (lv_at hl 9 rfl) ?_
      refine lv_if_lt (tgt := 144) hx hb dL_isWord_114 (by decide) (fun c29 => ?_) (fun c29 => ?_)
      · have h := if_t c29 h
        cases some_i h
        exact kx _ _ _ hP hD hS (lv_sub hl [0, 1, 3, 4, 5, 6, 7, 8] rfl)
      · have h := if_f c29 h
        refine lv_aload_n hx hb dL_isWord_117 rfl (lv_at hl 3 rfl) ?_
        refine lv_iload_n hx hb dL_isWord_118 rfl (lv_at hl 1 rfl) ?_
        obtain ⟨hi9, h⟩ := ck_ex h
        refine va_iald hx hb hK hP 1 0 rfl rfl (inb_in hi9) dL_isWord_119 ?_
        refine lv_iload hx hb dL_isWord_120 (lv_at hl 9 rfl) ?_
        refine lv_aload_n hx hb dL_isWord_122 rfl (lv_at hl 2 rfl) ?_
        obtain ⟨r30, kr30, h⟩ := bd_ex h
        have pq : (((cAr g aq 10 vq) ++ ((cAr g aw 24 vw) ++ ((cAr g ac 21 vc) ++ ((cAr g al 24 vl) ++ ((wBR g ad tx is wa st hi)))))) : va_W).Perm (((cAr g aq 10 vq)) ++ ((cAr g aw 24 vw) ++ ((cAr g ac 21 vc) ++ ((cAr g al 24 vl) ++ ((wBR g ad tx is wa st hi)))))) := pmS [(cAr g aq 10 vq), (cAr g aw 24 vw), (cAr g ac 21 vc), (cAr g al 24 vl), (wBR g ad tx is wa st hi)] [0, 1, 2, 3, 4] [0] [1, 2, 3, 4] (by decide)
        have pr : ((((cAr g aq 10 vq)) ++ ((cAr g aw 24 vw) ++ ((cAr g ac 21 vc) ++ ((cAr g al 24 vl) ++ ((wBR g ad tx is wa st hi)))))) : va_W).Perm ((cAr g aq 10 vq) ++ ((cAr g aw 24 vw) ++ ((cAr g ac 21 vc) ++ ((cAr g al 24 vl) ++ ((wBR g ad tx is wa st hi)))))) := (pmS [(cAr g aq 10 vq), (cAr g aw 24 vw), (cAr g ac 21 vc), (cAr g al 24 vl), (wBR g ad tx is wa st hi)] [0, 1, 2, 3, 4] [0] [1, 2, 3, 4] (by decide)).symm
        refine aft_p (st1 := [.int r30]) (ws' := ((cAr g aq 10 vq) ++ ((cAr g aw 24 vw) ++ ((cAr g ac 21 vc) ++ ((cAr g al 24 vl) ++ ((wBR g ad tx is wa st hi))))))) rfl pq pr (runS (As := [.int (vw p1.toNatClampNeg), .int v10_27, .ref aq]) (rest := []) ⟨hx, hb, hml, hown, hts⟩ (kL_isBarred l g aq kr30) (va_cwS 3 hts gL_isWord_L_isBarred rfl rfl rfl hdL_isBarred ⟨Nat.le_of_ble_eq_true rfl, Nat.le_of_ble_eq_true rfl⟩) hK hN (hP.perm pq).left (hD.perm pq).left rfl hl.1 rfl (Nat.le_of_ble_eq_true rfl) dL_isWord_123 ⟨Nat.zero_le _, Nat.zero_le _⟩) hP hD hS hA (fun H locs hP hD hS => ?_)
        obtain ⟨j31, kj31, h⟩ := bd_ex h
        have kx5 : ∀ (H : Heap) (locs : List Loc) (ls : Array Slot), va_P g.1 vwCl ((cAr g aq 10 vq) ++ ((cAr g aw 24 vw) ++ ((cAr g ac 21 vc) ++ ((cAr g al 24 vl) ++ ((wBR g ad tx is wa st hi)))))) H → va_D A ((cAr g aq 10 vq) ++ ((cAr g aw 24 vw) ++ ((cAr g ac 21 vc) ++ ((cAr g al 24 vl) ++ ((wBR g ad tx is wa st hi)))))) → va_S A su.heap H locs → lv_has ls 12 [(0, .ref (ad 0 0)), (1, .int p1), (2, .ref aq), (3, .ref aw), (4, .ref ac), (6, .int v6_23), (7, .int v7_24), (8, .int v8_25), (10, .int v10_27)] → W p l e rL_isWord su m args below meth c H locs 0 0 Q (F0 m 136 ls [.int j31]) := by
          intro H locs ls hP hD hS hl
          refine lv_istore (lv' := [(9, .int j31), (0, .ref (ad 0 0)), (1, .int p1), (2, .ref aq), (3, .ref aw), (4, .ref ac), (6, .int v6_23), (7, .int v7_24), (8, .int v8_25), (10, .int v10_27)]) hx hb dL_isWord_136 hl (by decide) rfl (fun ls hl => ?_)
          obtain ⟨x32, ex32, h⟩ := pl_ex h
          refine lv_iinc (v := x32) (lv' := [(10, .int x32), (9, .int j31), (0, .ref (ad 0 0)), (1, .int p1), (2, .ref aq), (3, .ref aw), (4, .ref ac), (6, .int v6_23), (7, .int v7_24), (8, .int v8_25)]) hx hb dL_isWord_138 hl (k := 9) rfl (by rw [← ex32]; rfl) (by decide) rfl (fun ls hl => ?_)
          refine lv_goto (tgt := 112) hx hb dL_isWord_141 (by decide) ?_
          exact ih j31 x32 _ _ _ _ h hP hD hS (lv_sub hl [2, 3, 4, 5, 6, 7, 8, 9, 1, 0] rfl) kx
        have h := kj31
        refine lv_if_eq (tgt := 134) hx hb dL_isWord_126 (by decide) (fun c33 => ?_) (fun c33 => ?_)
        · have h := if_t c33 h
          refine lv_iload hx hb dL_isWord_134 (lv_at hl 8 rfl) ?_
          cases some_i h
          exact kx5 _ _ _ hP hD hS (lv_sub hl [0, 1, 2, 3, 4, 5, 6, 7, 9] rfl)
        · have h := if_f c33 h
          refine lv_iload hx hb dL_isWord_129 (lv_at hl 9 rfl) ?_
          refine lv_goto (tgt := 136) hx hb dL_isWord_131 (by decide) ?_
          cases some_i h
          exact kx5 _ _ _ hP hD hS (lv_sub hl [0, 1, 2, 3, 4, 5, 6, 7, 9] rfl)
  obtain ⟨v9_34, kv9_34, h⟩ := bd_ex h
  refine L112 1000 (-1 : Int32) (31 : Int32) v9_34 _ _ _ kv9_34 hP hD hS (lv_sub hl [2, 3, 4, 5, 6, 7, 8, 9, 1, 0] rfl) (fun H locs ls hP hD hS hl => ?_)
  refine lv_aload_n hx hb dL_isWord_144 rfl (lv_at hl 0 rfl) ?_
  refine lv_iload_n hx hb dL_isWord_145 rfl (lv_at hl 1 rfl) ?_
  refine lv_iconst (v := 4) hx hb dL_isWord_146 (by decide) ?_
  obtain ⟨r35, kr35, h⟩ := bd_ex h
  have pq : (((cAr g aq 10 vq) ++ ((cAr g aw 24 vw) ++ ((cAr g ac 21 vc) ++ ((cAr g al 24 vl) ++ ((wBR g ad tx is wa st hi)))))) : va_W).Perm (((wBR g ad tx is wa st hi)) ++ ((cAr g aq 10 vq) ++ ((cAr g aw 24 vw) ++ ((cAr g ac 21 vc) ++ ((cAr g al 24 vl)))))) := pmS [(cAr g aq 10 vq), (cAr g aw 24 vw), (cAr g ac 21 vc), (cAr g al 24 vl), (wBR g ad tx is wa st hi)] [0, 1, 2, 3, 4] [4] [0, 1, 2, 3] (by decide)
  have pr : ((((wBR g ad tx is wa st hi)) ++ ((cAr g aq 10 vq) ++ ((cAr g aw 24 vw) ++ ((cAr g ac 21 vc) ++ ((cAr g al 24 vl)))))) : va_W).Perm ((cAr g aq 10 vq) ++ ((cAr g aw 24 vw) ++ ((cAr g ac 21 vc) ++ ((cAr g al 24 vl) ++ ((wBR g ad tx is wa st hi)))))) := (pmS [(cAr g aq 10 vq), (cAr g aw 24 vw), (cAr g ac 21 vc), (cAr g al 24 vl), (wBR g ad tx is wa st hi)] [0, 1, 2, 3, 4] [4] [0, 1, 2, 3] (by decide)).symm
  refine aft_p (st1 := [.int r35]) (ws' := ((cAr g aq 10 vq) ++ ((cAr g aw 24 vw) ++ ((cAr g ac 21 vc) ++ ((cAr g al 24 vl) ++ ((wBR g ad tx is wa st hi))))))) rfl pq pr (runW (As := [.ref (ad 0 0), .int p1, .int (4 : Int32)]) (rest := []) ⟨hx, hb, hml, hown, hts⟩ (kL_word l g ad kr35) (vx_cwSW 3 hts gL_isWord_L_word rfl rfl rfl hdL_word ⟨Nat.le_of_ble_eq_true rfl, Nat.le_of_ble_eq_true rfl⟩) hK hN (hP.perm pq).left (hD.perm pq).left rfl hl.1 rfl (Nat.le_of_ble_eq_true rfl) dL_isWord_147 ⟨Nat.zero_le _, Nat.zero_le _⟩) hP hD hS hA (fun H locs hP hD hS => ?_)
  refine lv_iload hx hb dL_isWord_150 (lv_at hl 7 rfl) ?_
  obtain ⟨j36, kj36, h⟩ := bd_ex h
  have kx6 : ∀ (H : Heap) (locs : List Loc) (ls : Array Slot), va_P g.1 vwCl ((cAr g aq 10 vq) ++ ((cAr g aw 24 vw) ++ ((cAr g ac 21 vc) ++ ((cAr g al 24 vl) ++ ((wBR g ad tx is wa st hi)))))) H → va_D A ((cAr g aq 10 vq) ++ ((cAr g aw 24 vw) ++ ((cAr g ac 21 vc) ++ ((cAr g al 24 vl) ++ ((wBR g ad tx is wa st hi)))))) → va_S A su.heap H locs → lv_has ls 12 [(0, .ref (ad 0 0)), (1, .int p1), (3, .ref aw), (4, .ref ac), (6, .int v6_23), (7, .int v7_24), (8, .int v8_25), (9, .int v9_34)] → W p l e rL_isWord su m args below meth c H locs 0 0 Q (F0 m 160 ls [.int j36, .int r35]) := by
    intro H locs ls hP hD hS hl
    obtain ⟨j37, kj37, h⟩ := bd_ex h
    have kx7 : ∀ (H : Heap) (locs : List Loc) (ls : Array Slot), va_P g.1 vwCl ((cAr g aq 10 vq) ++ ((cAr g aw 24 vw) ++ ((cAr g ac 21 vc) ++ ((cAr g al 24 vl) ++ ((wBR g ad tx is wa st hi)))))) H → va_D A ((cAr g aq 10 vq) ++ ((cAr g aw 24 vw) ++ ((cAr g ac 21 vc) ++ ((cAr g al 24 vl) ++ ((wBR g ad tx is wa st hi)))))) → va_S A su.heap H locs → lv_has ls 12 [(0, .ref (ad 0 0)), (1, .int p1), (3, .ref aw)] → W p l e rL_isWord su m args below meth c H locs 0 0 Q (F0 m 231 ls [.int j37]) := by
      intro H locs ls hP hD hS hl
      refine lv_istore (lv' := [(10, .int j37), (0, .ref (ad 0 0)), (1, .int p1), (3, .ref aw)]) hx hb dL_isWord_231 hl (by decide) rfl (fun ls hl => ?_)
      refine lv_iconst (v := 0) hx hb dL_isWord_233 (by decide) ?_
      refine lv_istore (lv' := [(11, .int (0 : Int32)), (10, .int j37), (0, .ref (ad 0 0)), (1, .int p1), (3, .ref aw)]) hx hb dL_isWord_234 hl (by decide) rfl (fun ls hl => ?_)
      have L236 : ∀ (n : Nat) (v10_38 : Int32) (v11_39 : Int32) (y10_40 : Int32) (H : Heap) (locs : List Loc) (ls : Array Slot), fL_isWord_L236 tx is wa st hi vw p1 n v10_38 v11_39 = some y10_40 → va_P g.1 vwCl ((cAr g aq 10 vq) ++ ((cAr g aw 24 vw) ++ ((cAr g ac 21 vc) ++ ((cAr g al 24 vl) ++ ((wBR g ad tx is wa st hi)))))) H → va_D A ((cAr g aq 10 vq) ++ ((cAr g aw 24 vw) ++ ((cAr g ac 21 vc) ++ ((cAr g al 24 vl) ++ ((wBR g ad tx is wa st hi)))))) → va_S A su.heap H locs → lv_has ls 12 [(0, .ref (ad 0 0)), (1, .int p1), (3, .ref aw), (10, .int v10_38), (11, .int v11_39)] → (∀ (H : Heap) (locs : List Loc) (ls : Array Slot), va_P g.1 vwCl ((cAr g aq 10 vq) ++ ((cAr g aw 24 vw) ++ ((cAr g ac 21 vc) ++ ((cAr g al 24 vl) ++ ((wBR g ad tx is wa st hi)))))) H → va_D A ((cAr g aq 10 vq) ++ ((cAr g aw 24 vw) ++ ((cAr g ac 21 vc) ++ ((cAr g al 24 vl) ++ ((wBR g ad tx is wa st hi)))))) → va_S A su.heap H locs → lv_has ls 12 [(10, .int y10_40)] → W p l e rL_isWord su m args below meth c H locs 0 0 Q (F0 m 278 ls [])) → W p l e rL_isWord su m args below meth c H locs 0 0 Q (F0 m 236 ls []) := by
        intro n
        induction n with
        | zero => intro v10_38 v11_39 y10_40 H locs ls h hP hD hS hl kx; cases h
        | succ n ih =>
          intro v10_38 v11_39 y10_40 H locs ls h hP hD hS hl kx
          rw [fL_isWord_L236] at h
          refine lv_iload hx hb dL_isWord_236 (lv_at hl 4 rfl) ?_
          refine lv_iconst (v := 4) hx hb dL_isWord_238 (by decide) ?_
          refine lv_icmp_ge (tgt := 278) hx hb dL_isWord_239 (by decide) (fun c41 => ?_) (fun c41 => ?_)
          · have h := if_t c41 h
            cases some_i h
            exact kx _ _ _ hP hD hS (lv_sub hl [3] rfl)
          · have h := if_f c41 h
            refine lv_iload hx hb dL_isWord_242 (lv_at hl 3 rfl) ?_
            obtain ⟨j42, kj42, h⟩ := bd_ex h
            have kx8 : ∀ (H : Heap) (locs : List Loc) (ls : Array Slot), va_P g.1 vwCl ((cAr g aq 10 vq) ++ ((cAr g aw 24 vw) ++ ((cAr g ac 21 vc) ++ ((cAr g al 24 vl) ++ ((wBR g ad tx is wa st hi)))))) H → va_D A ((cAr g aq 10 vq) ++ ((cAr g aw 24 vw) ++ ((cAr g ac 21 vc) ++ ((cAr g al 24 vl) ++ ((wBR g ad tx is wa st hi)))))) → va_S A su.heap H locs → lv_has ls 12 [(0, .ref (ad 0 0)), (1, .int p1), (3, .ref aw), (11, .int v11_39)] → W p l e rL_isWord su m args below meth c H locs 0 0 Q (F0 m 270 ls [.int j42]) := by
              intro H locs ls hP hD hS hl
              refine lv_istore (lv' := [(10, .int j42), (0, .ref (ad 0 0)), (1, .int p1), (3, .ref aw), (11, .int v11_39)]) hx hb dL_isWord_270 hl (by decide) rfl (fun ls hl => ?_)
              obtain ⟨x43, ex43, h⟩ := pl_ex h
              refine lv_iinc (v := x43) (lv' := [(11, .int x43), (10, .int j42), (0, .ref (ad 0 0)), (1, .int p1), (3, .ref aw)]) hx hb dL_isWord_272 hl (k := 4) rfl (by rw [← ex43]; rfl) (by decide) rfl (fun ls hl => ?_)
              refine lv_goto (tgt := 236) hx hb dL_isWord_275 (by decide) ?_
              exact ih j42 x43 _ _ _ _ h hP hD hS (lv_sub hl [2, 3, 4, 1, 0] rfl) kx
            have h := kj42
            refine lv_if_eq (tgt := 269) hx hb dL_isWord_244 (by decide) (fun c44 => ?_) (fun c44 => ?_)
            · have h := if_t c44 h
              refine lv_iconst (v := 0) hx hb dL_isWord_269 (by decide) ?_
              cases some_i h
              exact kx8 _ _ _ hP hD hS (lv_sub hl [0, 1, 2, 4] rfl)
            · have h := if_f c44 h
              refine lv_aload_n hx hb dL_isWord_247 rfl (lv_at hl 0 rfl) ?_
              refine lv_iload_n hx hb dL_isWord_248 rfl (lv_at hl 1 rfl) ?_
              refine lv_iload hx hb dL_isWord_249 (lv_at hl 4 rfl) ?_
              obtain ⟨r45, kr45, h⟩ := bd_ex h
              have pq : (((cAr g aq 10 vq) ++ ((cAr g aw 24 vw) ++ ((cAr g ac 21 vc) ++ ((cAr g al 24 vl) ++ ((wBR g ad tx is wa st hi)))))) : va_W).Perm (((wBR g ad tx is wa st hi)) ++ ((cAr g aq 10 vq) ++ ((cAr g aw 24 vw) ++ ((cAr g ac 21 vc) ++ ((cAr g al 24 vl)))))) := pmS [(cAr g aq 10 vq), (cAr g aw 24 vw), (cAr g ac 21 vc), (cAr g al 24 vl), (wBR g ad tx is wa st hi)] [0, 1, 2, 3, 4] [4] [0, 1, 2, 3] (by decide)
              have pr : ((((wBR g ad tx is wa st hi)) ++ ((cAr g aq 10 vq) ++ ((cAr g aw 24 vw) ++ ((cAr g ac 21 vc) ++ ((cAr g al 24 vl)))))) : va_W).Perm ((cAr g aq 10 vq) ++ ((cAr g aw 24 vw) ++ ((cAr g ac 21 vc) ++ ((cAr g al 24 vl) ++ ((wBR g ad tx is wa st hi)))))) := (pmS [(cAr g aq 10 vq), (cAr g aw 24 vw), (cAr g ac 21 vc), (cAr g al 24 vl), (wBR g ad tx is wa st hi)] [0, 1, 2, 3, 4] [4] [0, 1, 2, 3] (by decide)).symm
              refine aft_p (st1 := [.int r45]) (ws' := ((cAr g aq 10 vq) ++ ((cAr g aw 24 vw) ++ ((cAr g ac 21 vc) ++ ((cAr g al 24 vl) ++ ((wBR g ad tx is wa st hi))))))) rfl pq pr (runW (As := [.ref (ad 0 0), .int p1, .int v11_39]) (rest := []) ⟨hx, hb, hml, hown, hts⟩ (kL_word l g ad kr45) (vx_cwSW 3 hts gL_isWord_L_word rfl rfl rfl hdL_word ⟨Nat.le_of_ble_eq_true rfl, Nat.le_of_ble_eq_true rfl⟩) hK hN (hP.perm pq).left (hD.perm pq).left rfl hl.1 rfl (Nat.le_of_ble_eq_true rfl) dL_isWord_251 ⟨Nat.zero_le _, Nat.zero_le _⟩) hP hD hS hA (fun H locs hP hD hS => ?_)
              refine lv_aload_n hx hb dL_isWord_254 rfl (lv_at hl 2 rfl) ?_
              refine lv_iload_n hx hb dL_isWord_255 rfl (lv_at hl 1 rfl) ?_
              obtain ⟨hi9, h⟩ := ck_ex h
              refine va_iald hx hb hK hP 1 0 rfl rfl (inb_in hi9) dL_isWord_256 ?_
              refine lv_iload hx hb dL_isWord_257 (lv_at hl 4 rfl) ?_
              obtain ⟨r46, kr46, h⟩ := bd_ex h
              refine aft_e (st1 := [.int r46, .int r45]) rfl (runS (As := [.int (vw p1.toNatClampNeg), .int v11_39]) (rest := [.int r45]) ⟨hx, hb, hml, hown, hts⟩ (kL_letter l g kr46) (va_cwS 2 hts gL_isWord_L_letter rfl rfl rfl hdL_letter ⟨Nat.le_of_ble_eq_true rfl, Nat.le_of_ble_eq_true rfl⟩) hK hN nilP (nilD (A := A)) rfl hl.1 rfl (Nat.le_of_ble_eq_true rfl) dL_isWord_259 ⟨Nat.zero_le _, Nat.zero_le _⟩) hP hS hA (fun H locs hP hS => ?_)
              refine lv_icmp_ne (tgt := 269) hx hb dL_isWord_262 (by decide) (fun c47 => ?_) (fun c47 => ?_)
              · have h := if_f c47 h
                refine lv_iconst (v := 0) hx hb dL_isWord_269 (by decide) ?_
                cases some_i h
                exact kx8 _ _ _ hP hD hS (lv_sub hl [0, 1, 2, 4] rfl)
              · have h := if_t c47 h
                refine lv_iconst (v := 1) hx hb dL_isWord_265 (by decide) ?_
                refine lv_goto (tgt := 270) hx hb dL_isWord_266 (by decide) ?_
                cases some_i h
                exact kx8 _ _ _ hP hD hS (lv_sub hl [0, 1, 2, 4] rfl)
      obtain ⟨v10_48, kv10_48, h⟩ := bd_ex h
      refine L236 1000 j37 (0 : Int32) v10_48 _ _ _ kv10_48 hP hD hS (lv_sub hl [2, 3, 4, 1, 0] rfl) (fun H locs ls hP hD hS hl => ?_)
      refine lv_iload hx hb dL_isWord_278 (lv_at hl 0 rfl) ?_
      obtain ⟨hz9, h⟩ := ck_ex h
      cases some_i h
      exact hend _ _ _ _ _ hP hD hS (RetOK.z dL_isWord_280 (of_decide_eq_true hz9))
    have h := kj37
    refine lv_icmp_ne (tgt := 230) hx hb dL_isWord_160 (by decide) (fun c49 => ?_) (fun c49 => ?_)
    · have h := if_f c49 h
      refine lv_iconst (v := 0) hx hb dL_isWord_230 (by decide) ?_
      cases some_i h
      exact kx7 _ _ _ hP hD hS (lv_sub hl [0, 1, 2] rfl)
    · have h := if_t c49 h
      refine lv_aload_n hx hb dL_isWord_163 rfl (lv_at hl 0 rfl) ?_
      refine lv_iload_n hx hb dL_isWord_164 rfl (lv_at hl 1 rfl) ?_
      refine lv_iconst (v := 5) hx hb dL_isWord_165 (by decide) ?_
      obtain ⟨r50, kr50, h⟩ := bd_ex h
      have pq : (((cAr g aq 10 vq) ++ ((cAr g aw 24 vw) ++ ((cAr g ac 21 vc) ++ ((cAr g al 24 vl) ++ ((wBR g ad tx is wa st hi)))))) : va_W).Perm (((wBR g ad tx is wa st hi)) ++ ((cAr g aq 10 vq) ++ ((cAr g aw 24 vw) ++ ((cAr g ac 21 vc) ++ ((cAr g al 24 vl)))))) := pmS [(cAr g aq 10 vq), (cAr g aw 24 vw), (cAr g ac 21 vc), (cAr g al 24 vl), (wBR g ad tx is wa st hi)] [0, 1, 2, 3, 4] [4] [0, 1, 2, 3] (by decide)
      have pr : ((((wBR g ad tx is wa st hi)) ++ ((cAr g aq 10 vq) ++ ((cAr g aw 24 vw) ++ ((cAr g ac 21 vc) ++ ((cAr g al 24 vl)))))) : va_W).Perm ((cAr g aq 10 vq) ++ ((cAr g aw 24 vw) ++ ((cAr g ac 21 vc) ++ ((cAr g al 24 vl) ++ ((wBR g ad tx is wa st hi)))))) := (pmS [(cAr g aq 10 vq), (cAr g aw 24 vw), (cAr g ac 21 vc), (cAr g al 24 vl), (wBR g ad tx is wa st hi)] [0, 1, 2, 3, 4] [4] [0, 1, 2, 3] (by decide)).symm
      refine aft_p (st1 := [.int r50]) (ws' := ((cAr g aq 10 vq) ++ ((cAr g aw 24 vw) ++ ((cAr g ac 21 vc) ++ ((cAr g al 24 vl) ++ ((wBR g ad tx is wa st hi))))))) rfl pq pr (runW (As := [.ref (ad 0 0), .int p1, .int (5 : Int32)]) (rest := []) ⟨hx, hb, hml, hown, hts⟩ (kL_word l g ad kr50) (vx_cwSW 3 hts gL_isWord_L_word rfl rfl rfl hdL_word ⟨Nat.le_of_ble_eq_true rfl, Nat.le_of_ble_eq_true rfl⟩) hK hN (hP.perm pq).left (hD.perm pq).left rfl hl.1 rfl (Nat.le_of_ble_eq_true rfl) dL_isWord_166 ⟨Nat.zero_le _, Nat.zero_le _⟩) hP hD hS hA (fun H locs hP hD hS => ?_)
      refine lv_iload hx hb dL_isWord_169 (lv_at hl 4 rfl) ?_
      refine lv_icmp_ne (tgt := 230) hx hb dL_isWord_171 (by decide) (fun c51 => ?_) (fun c51 => ?_)
      · have h := if_f c51 h
        refine lv_iconst (v := 0) hx hb dL_isWord_230 (by decide) ?_
        cases some_i h
        exact kx7 _ _ _ hP hD hS (lv_sub hl [0, 1, 2] rfl)
      · have h := if_t c51 h
        refine lv_aload_n hx hb dL_isWord_174 rfl (lv_at hl 0 rfl) ?_
        refine lv_iload_n hx hb dL_isWord_175 rfl (lv_at hl 1 rfl) ?_
        refine lv_bipush (v := 6) hx hb dL_isWord_176 (by decide) ?_
        obtain ⟨r52, kr52, h⟩ := bd_ex h
        have pq : (((cAr g aq 10 vq) ++ ((cAr g aw 24 vw) ++ ((cAr g ac 21 vc) ++ ((cAr g al 24 vl) ++ ((wBR g ad tx is wa st hi)))))) : va_W).Perm (((wBR g ad tx is wa st hi)) ++ ((cAr g aq 10 vq) ++ ((cAr g aw 24 vw) ++ ((cAr g ac 21 vc) ++ ((cAr g al 24 vl)))))) := pmS [(cAr g aq 10 vq), (cAr g aw 24 vw), (cAr g ac 21 vc), (cAr g al 24 vl), (wBR g ad tx is wa st hi)] [0, 1, 2, 3, 4] [4] [0, 1, 2, 3] (by decide)
        have pr : ((((wBR g ad tx is wa st hi)) ++ ((cAr g aq 10 vq) ++ ((cAr g aw 24 vw) ++ ((cAr g ac 21 vc) ++ ((cAr g al 24 vl)))))) : va_W).Perm ((cAr g aq 10 vq) ++ ((cAr g aw 24 vw) ++ ((cAr g ac 21 vc) ++ ((cAr g al 24 vl) ++ ((wBR g ad tx is wa st hi)))))) := (pmS [(cAr g aq 10 vq), (cAr g aw 24 vw), (cAr g ac 21 vc), (cAr g al 24 vl), (wBR g ad tx is wa st hi)] [0, 1, 2, 3, 4] [4] [0, 1, 2, 3] (by decide)).symm
        refine aft_p (st1 := [.int r52]) (ws' := ((cAr g aq 10 vq) ++ ((cAr g aw 24 vw) ++ ((cAr g ac 21 vc) ++ ((cAr g al 24 vl) ++ ((wBR g ad tx is wa st hi))))))) rfl pq pr (runW (As := [.ref (ad 0 0), .int p1, .int (6 : Int32)]) (rest := []) ⟨hx, hb, hml, hown, hts⟩ (kL_word l g ad kr52) (vx_cwSW 3 hts gL_isWord_L_word rfl rfl rfl hdL_word ⟨Nat.le_of_ble_eq_true rfl, Nat.le_of_ble_eq_true rfl⟩) hK hN (hP.perm pq).left (hD.perm pq).left rfl hl.1 rfl (Nat.le_of_ble_eq_true rfl) dL_isWord_178 ⟨Nat.zero_le _, Nat.zero_le _⟩) hP hD hS hA (fun H locs hP hD hS => ?_)
        refine lv_iload_n hx hb dL_isWord_181 rfl (lv_at hl 1 rfl) ?_
        refine lv_aload hx hb dL_isWord_182 (lv_at hl 3 rfl) ?_
        obtain ⟨r53, kr53, h⟩ := bd_ex h
        have pq : (((cAr g aq 10 vq) ++ ((cAr g aw 24 vw) ++ ((cAr g ac 21 vc) ++ ((cAr g al 24 vl) ++ ((wBR g ad tx is wa st hi)))))) : va_W).Perm (((cAr g ac 21 vc)) ++ ((cAr g aq 10 vq) ++ ((cAr g aw 24 vw) ++ ((cAr g al 24 vl) ++ ((wBR g ad tx is wa st hi)))))) := pmS [(cAr g aq 10 vq), (cAr g aw 24 vw), (cAr g ac 21 vc), (cAr g al 24 vl), (wBR g ad tx is wa st hi)] [0, 1, 2, 3, 4] [2] [0, 1, 3, 4] (by decide)
        have pr : ((((cAr g ac 21 vc)) ++ ((cAr g aq 10 vq) ++ ((cAr g aw 24 vw) ++ ((cAr g al 24 vl) ++ ((wBR g ad tx is wa st hi)))))) : va_W).Perm ((cAr g aq 10 vq) ++ ((cAr g aw 24 vw) ++ ((cAr g ac 21 vc) ++ ((cAr g al 24 vl) ++ ((wBR g ad tx is wa st hi)))))) := (pmS [(cAr g aq 10 vq), (cAr g aw 24 vw), (cAr g ac 21 vc), (cAr g al 24 vl), (wBR g ad tx is wa st hi)] [0, 1, 2, 3, 4] [2] [0, 1, 3, 4] (by decide)).symm
        refine aft_p (st1 := [.int r53, .int r52]) (ws' := ((cAr g aq 10 vq) ++ ((cAr g aw 24 vw) ++ ((cAr g ac 21 vc) ++ ((cAr g al 24 vl) ++ ((wBR g ad tx is wa st hi))))))) rfl pq pr (runS (As := [.int p1, .ref ac]) (rest := [.int r52]) ⟨hx, hb, hml, hown, hts⟩ (kL_on l g ac kr53) (va_cwS 2 hts gL_isWord_L_on rfl rfl rfl hdL_on ⟨Nat.le_of_ble_eq_true rfl, Nat.le_of_ble_eq_true rfl⟩) hK hN (hP.perm pq).left (hD.perm pq).left rfl hl.1 rfl (Nat.le_of_ble_eq_true rfl) dL_isWord_184 ⟨Nat.zero_le _, Nat.zero_le _⟩) hP hD hS hA (fun H locs hP hD hS => ?_)
        refine lv_icmp_ne (tgt := 230) hx hb dL_isWord_187 (by decide) (fun c54 => ?_) (fun c54 => ?_)
        · have h := if_f c54 h
          refine lv_iconst (v := 0) hx hb dL_isWord_230 (by decide) ?_
          cases some_i h
          exact kx7 _ _ _ hP hD hS (lv_sub hl [0, 1, 2] rfl)
        · have h := if_t c54 h
          refine lv_aload_n hx hb dL_isWord_190 rfl (lv_at hl 0 rfl) ?_
          refine lv_iload_n hx hb dL_isWord_191 rfl (lv_at hl 1 rfl) ?_
          refine lv_bipush (v := 7) hx hb dL_isWord_192 (by decide) ?_
          obtain ⟨r55, kr55, h⟩ := bd_ex h
          have pq : (((cAr g aq 10 vq) ++ ((cAr g aw 24 vw) ++ ((cAr g ac 21 vc) ++ ((cAr g al 24 vl) ++ ((wBR g ad tx is wa st hi)))))) : va_W).Perm (((wBR g ad tx is wa st hi)) ++ ((cAr g aq 10 vq) ++ ((cAr g aw 24 vw) ++ ((cAr g ac 21 vc) ++ ((cAr g al 24 vl)))))) := pmS [(cAr g aq 10 vq), (cAr g aw 24 vw), (cAr g ac 21 vc), (cAr g al 24 vl), (wBR g ad tx is wa st hi)] [0, 1, 2, 3, 4] [4] [0, 1, 2, 3] (by decide)
          have pr : ((((wBR g ad tx is wa st hi)) ++ ((cAr g aq 10 vq) ++ ((cAr g aw 24 vw) ++ ((cAr g ac 21 vc) ++ ((cAr g al 24 vl)))))) : va_W).Perm ((cAr g aq 10 vq) ++ ((cAr g aw 24 vw) ++ ((cAr g ac 21 vc) ++ ((cAr g al 24 vl) ++ ((wBR g ad tx is wa st hi)))))) := (pmS [(cAr g aq 10 vq), (cAr g aw 24 vw), (cAr g ac 21 vc), (cAr g al 24 vl), (wBR g ad tx is wa st hi)] [0, 1, 2, 3, 4] [4] [0, 1, 2, 3] (by decide)).symm
          refine aft_p (st1 := [.int r55]) (ws' := ((cAr g aq 10 vq) ++ ((cAr g aw 24 vw) ++ ((cAr g ac 21 vc) ++ ((cAr g al 24 vl) ++ ((wBR g ad tx is wa st hi))))))) rfl pq pr (runW (As := [.ref (ad 0 0), .int p1, .int (7 : Int32)]) (rest := []) ⟨hx, hb, hml, hown, hts⟩ (kL_word l g ad kr55) (vx_cwSW 3 hts gL_isWord_L_word rfl rfl rfl hdL_word ⟨Nat.le_of_ble_eq_true rfl, Nat.le_of_ble_eq_true rfl⟩) hK hN (hP.perm pq).left (hD.perm pq).left rfl hl.1 rfl (Nat.le_of_ble_eq_true rfl) dL_isWord_194 ⟨Nat.zero_le _, Nat.zero_le _⟩) hP hD hS hA (fun H locs hP hD hS => ?_)
          refine lv_iload hx hb dL_isWord_197 (lv_at hl 6 rfl) ?_
          refine lv_icmp_ne (tgt := 230) hx hb dL_isWord_199 (by decide) (fun c56 => ?_) (fun c56 => ?_)
          · have h := if_f c56 h
            refine lv_iconst (v := 0) hx hb dL_isWord_230 (by decide) ?_
            cases some_i h
            exact kx7 _ _ _ hP hD hS (lv_sub hl [0, 1, 2] rfl)
          · have h := if_t c56 h
            refine lv_aload_n hx hb dL_isWord_202 rfl (lv_at hl 0 rfl) ?_
            refine lv_iload_n hx hb dL_isWord_203 rfl (lv_at hl 1 rfl) ?_
            refine lv_bipush (v := 8) hx hb dL_isWord_204 (by decide) ?_
            obtain ⟨r57, kr57, h⟩ := bd_ex h
            have pq : (((cAr g aq 10 vq) ++ ((cAr g aw 24 vw) ++ ((cAr g ac 21 vc) ++ ((cAr g al 24 vl) ++ ((wBR g ad tx is wa st hi)))))) : va_W).Perm (((wBR g ad tx is wa st hi)) ++ ((cAr g aq 10 vq) ++ ((cAr g aw 24 vw) ++ ((cAr g ac 21 vc) ++ ((cAr g al 24 vl)))))) := pmS [(cAr g aq 10 vq), (cAr g aw 24 vw), (cAr g ac 21 vc), (cAr g al 24 vl), (wBR g ad tx is wa st hi)] [0, 1, 2, 3, 4] [4] [0, 1, 2, 3] (by decide)
            have pr : ((((wBR g ad tx is wa st hi)) ++ ((cAr g aq 10 vq) ++ ((cAr g aw 24 vw) ++ ((cAr g ac 21 vc) ++ ((cAr g al 24 vl)))))) : va_W).Perm ((cAr g aq 10 vq) ++ ((cAr g aw 24 vw) ++ ((cAr g ac 21 vc) ++ ((cAr g al 24 vl) ++ ((wBR g ad tx is wa st hi)))))) := (pmS [(cAr g aq 10 vq), (cAr g aw 24 vw), (cAr g ac 21 vc), (cAr g al 24 vl), (wBR g ad tx is wa st hi)] [0, 1, 2, 3, 4] [4] [0, 1, 2, 3] (by decide)).symm
            refine aft_p (st1 := [.int r57]) (ws' := ((cAr g aq 10 vq) ++ ((cAr g aw 24 vw) ++ ((cAr g ac 21 vc) ++ ((cAr g al 24 vl) ++ ((wBR g ad tx is wa st hi))))))) rfl pq pr (runW (As := [.ref (ad 0 0), .int p1, .int (8 : Int32)]) (rest := []) ⟨hx, hb, hml, hown, hts⟩ (kL_word l g ad kr57) (vx_cwSW 3 hts gL_isWord_L_word rfl rfl rfl hdL_word ⟨Nat.le_of_ble_eq_true rfl, Nat.le_of_ble_eq_true rfl⟩) hK hN (hP.perm pq).left (hD.perm pq).left rfl hl.1 rfl (Nat.le_of_ble_eq_true rfl) dL_isWord_206 ⟨Nat.zero_le _, Nat.zero_le _⟩) hP hD hS hA (fun H locs hP hD hS => ?_)
            refine lv_iload hx hb dL_isWord_209 (lv_at hl 5 rfl) ?_
            refine lv_icmp_ne (tgt := 230) hx hb dL_isWord_211 (by decide) (fun c58 => ?_) (fun c58 => ?_)
            · have h := if_f c58 h
              refine lv_iconst (v := 0) hx hb dL_isWord_230 (by decide) ?_
              cases some_i h
              exact kx7 _ _ _ hP hD hS (lv_sub hl [0, 1, 2] rfl)
            · have h := if_t c58 h
              refine lv_aload_n hx hb dL_isWord_214 rfl (lv_at hl 0 rfl) ?_
              refine lv_iload_n hx hb dL_isWord_215 rfl (lv_at hl 1 rfl) ?_
              refine lv_bipush (v := 9) hx hb dL_isWord_216 (by decide) ?_
              obtain ⟨r59, kr59, h⟩ := bd_ex h
              have pq : (((cAr g aq 10 vq) ++ ((cAr g aw 24 vw) ++ ((cAr g ac 21 vc) ++ ((cAr g al 24 vl) ++ ((wBR g ad tx is wa st hi)))))) : va_W).Perm (((wBR g ad tx is wa st hi)) ++ ((cAr g aq 10 vq) ++ ((cAr g aw 24 vw) ++ ((cAr g ac 21 vc) ++ ((cAr g al 24 vl)))))) := pmS [(cAr g aq 10 vq), (cAr g aw 24 vw), (cAr g ac 21 vc), (cAr g al 24 vl), (wBR g ad tx is wa st hi)] [0, 1, 2, 3, 4] [4] [0, 1, 2, 3] (by decide)
              have pr : ((((wBR g ad tx is wa st hi)) ++ ((cAr g aq 10 vq) ++ ((cAr g aw 24 vw) ++ ((cAr g ac 21 vc) ++ ((cAr g al 24 vl)))))) : va_W).Perm ((cAr g aq 10 vq) ++ ((cAr g aw 24 vw) ++ ((cAr g ac 21 vc) ++ ((cAr g al 24 vl) ++ ((wBR g ad tx is wa st hi)))))) := (pmS [(cAr g aq 10 vq), (cAr g aw 24 vw), (cAr g ac 21 vc), (cAr g al 24 vl), (wBR g ad tx is wa st hi)] [0, 1, 2, 3, 4] [4] [0, 1, 2, 3] (by decide)).symm
              refine aft_p (st1 := [.int r59]) (ws' := ((cAr g aq 10 vq) ++ ((cAr g aw 24 vw) ++ ((cAr g ac 21 vc) ++ ((cAr g al 24 vl) ++ ((wBR g ad tx is wa st hi))))))) rfl pq pr (runW (As := [.ref (ad 0 0), .int p1, .int (9 : Int32)]) (rest := []) ⟨hx, hb, hml, hown, hts⟩ (kL_word l g ad kr59) (vx_cwSW 3 hts gL_isWord_L_word rfl rfl rfl hdL_word ⟨Nat.le_of_ble_eq_true rfl, Nat.le_of_ble_eq_true rfl⟩) hK hN (hP.perm pq).left (hD.perm pq).left rfl hl.1 rfl (Nat.le_of_ble_eq_true rfl) dL_isWord_218 ⟨Nat.zero_le _, Nat.zero_le _⟩) hP hD hS hA (fun H locs hP hD hS => ?_)
              refine lv_iload hx hb dL_isWord_221 (lv_at hl 7 rfl) ?_
              refine lv_icmp_ne (tgt := 230) hx hb dL_isWord_223 (by decide) (fun c60 => ?_) (fun c60 => ?_)
              · have h := if_f c60 h
                refine lv_iconst (v := 0) hx hb dL_isWord_230 (by decide) ?_
                cases some_i h
                exact kx7 _ _ _ hP hD hS (lv_sub hl [0, 1, 2] rfl)
              · have h := if_t c60 h
                refine lv_iconst (v := 1) hx hb dL_isWord_226 (by decide) ?_
                refine lv_goto (tgt := 231) hx hb dL_isWord_227 (by decide) ?_
                cases some_i h
                exact kx7 _ _ _ hP hD hS (lv_sub hl [0, 1, 2] rfl)
  have h := kj36
  refine lv_if_ne (tgt := 159) hx hb dL_isWord_152 (by decide) (fun c61 => ?_) (fun c61 => ?_)
  · have h := if_f c61 h
    refine lv_iconst (v := 0) hx hb dL_isWord_159 (by decide) ?_
    cases some_i h
    exact kx6 _ _ _ hP hD hS (lv_sub hl [0, 1, 2, 3, 4, 5, 6, 7] rfl)
  · have h := if_t c61 h
    refine lv_iconst (v := 1) hx hb dL_isWord_155 (by decide) ?_
    refine lv_goto (tgt := 160) hx hb dL_isWord_156 (by decide) ?_
    cases some_i h
    exact kx6 _ _ _ hP hD hS (lv_sub hl [0, 1, 2, 3, 4, 5, 6, 7] rfl)
def fL_isClimber_L6 (tx : Tx) (is : Is) (st : St) (hi : Hi) (vc : AI) (p1 : Int32) : Nat → Int32 → Int32 → Wa → Option (Int32 × Wa)
  | 0, _, _, _ => none
  | n + 1, v6_1, v7_2, wa3 =>
    (if (7 : Int32) ≤ v7_2 then
    (some (v6_1, wa3))
    else
    (bd2 (if v6_1 = (0 : Int32) then
    (some ((0 : Int32), wa3))
    else
    (bd2 (fL_climber tx is wa3 st hi p1 v7_2) fun (r11 : Int32) (wa12 : Wa) =>
    (ck (inb (((7 : Int32) * p1) + v7_2) 21)
    (if r11 = (vc (((7 : Int32) * p1) + v7_2).toNatClampNeg) then
    (some ((1 : Int32), wa12))
    else
    (some ((0 : Int32), wa12)))))) fun (j7 : Int32) (wa8 : Wa) =>
    (pl ((v7_2 + (1 : Int32))) fun (x9 : Int32) =>
    (fL_isClimber_L6 tx is st hi vc p1 n j7 x9 wa8))))
def fL_isClimber (tx : Tx) (is : Is) (wa : Wa) (st : St) (hi : Hi) (vq : AI) (vw : AI) (vc : AI) (vl : AI) (p1 : Int32) : Option (Int32 × Wa) :=
(bd2 (fL_isClimber_L6 tx is st hi vc p1 1000 (1 : Int32) (0 : Int32) wa) fun (v6_14 : Int32) (wa15 : Wa) =>
(ck (inb ((7 : Int32) * p1) 21)
(if (0 : Int32) ≤ (vc ((7 : Int32) * p1).toNatClampNeg) then
(ck (inb ((7 : Int32) * p1) 21)
(ck (inb (((7 : Int32) * p1) + (2 : Int32)) 21)
(ck (inb (((7 : Int32) * p1) + (3 : Int32)) 21)
(bd (if (vc (((7 : Int32) * p1) + (3 : Int32)).toNatClampNeg) = (1 : Int32) then
(some (1 : Int32))
else
(some (0 : Int32))) fun (j17 : Int32) =>
(bd (fL_fewest vq vw vl (vc ((7 : Int32) * p1).toNatClampNeg) (vc (((7 : Int32) * p1) + (2 : Int32)).toNatClampNeg) j17) fun (r18 : Int32) =>
(bd2 (if v6_14 = (0 : Int32) then
(some ((0 : Int32), wa15))
else
(bd2 (fL_climber tx is wa15 st hi p1 (7 : Int32)) fun (r22 : Int32) (wa23 : Wa) =>
(if r22 = r18 then
(bd2 (fL_climber tx is wa23 st hi p1 (8 : Int32)) fun (r25 : Int32) (wa26 : Wa) =>
(if r25 = r18 then
(bd2 (fL_climber tx is wa26 st hi p1 (9 : Int32)) fun (r28 : Int32) (wa29 : Wa) =>
(bd (if r28 = (-1 : Int32) then
(some (1 : Int32))
else
(some (0 : Int32))) fun (j30 : Int32) =>
(bd (if r18 = (-1 : Int32) then
(some (1 : Int32))
else
(some (0 : Int32))) fun (j31 : Int32) =>
(if j30 = j31 then
(if r18 = (0 : Int32) then
(bd2 (fL_climber tx is wa29 st hi p1 (9 : Int32)) fun (r34 : Int32) (wa35 : Wa) =>
(ck (inb (((7 : Int32) * p1) + (2 : Int32)) 21)
(if r34 = (vc (((7 : Int32) * p1) + (2 : Int32)).toNatClampNeg) then
(some ((1 : Int32), wa35))
else
(some ((0 : Int32), wa35)))))
else
(some ((1 : Int32), wa29)))
else
(some ((0 : Int32), wa29))))))
else
(some ((0 : Int32), wa26))))
else
(some ((0 : Int32), wa23))))) fun (j19 : Int32) (wa20 : Wa) =>
(ck (zb j19)
(some (j19, wa20)))))))))
else
(bd2 (if v6_14 = (0 : Int32) then
(some ((0 : Int32), wa15))
else
(bd2 (fL_climber tx is wa15 st hi p1 (7 : Int32)) fun (r43 : Int32) (wa44 : Wa) =>
(if r43 = (-1 : Int32) then
(bd2 (fL_climber tx is wa44 st hi p1 (8 : Int32)) fun (r46 : Int32) (wa47 : Wa) =>
(if r46 = (-1 : Int32) then
(bd2 (fL_climber tx is wa47 st hi p1 (9 : Int32)) fun (r49 : Int32) (wa50 : Wa) =>
(if r49 = (-1 : Int32) then
(some ((1 : Int32), wa50))
else
(some ((0 : Int32), wa50))))
else
(some ((0 : Int32), wa47))))
else
(some ((0 : Int32), wa44))))) fun (j40 : Int32) (wa41 : Wa) =>
(ck (zb j40)
(some (j40, wa41)))))))
abbrev rL_isClimber : Room := { frames := 8, cells := 0, slots := 0, locals := 193 }
theorem hdL_isClimber : yL_isClimber.cls ≠ "java/lang/invoke/MethodHandle" ∧ yL_isClimber.cls ≠ "java/lang/invoke/VarHandle" ∧ (parseMethodDescriptor yL_isClimber.desc).map (fun d => d.parameters.length) = some 6 := by decide +kernel
set_option maxRecDepth 100000 in
set_option maxHeartbeats 16000000 in
theorem kL_isClimber (l : Launch) (g : GG) (aq aw ac al : Nat) (ad : Nat → Nat → Nat) {tx : Tx} {is : Is} {wa : Wa} {st : St} {hi : Hi} {vq : AI} {vw : AI} {vc : AI} {vl : AI} {p1 : Int32} {res : Int32} {wa' : Wa} (h : fL_isClimber tx is wa st hi vq vw vc vl p1 = some (res, wa')) : Cg l g yL_isClimber wsL_isClimber rL_isClimber [.ref (ad 0 0), .int p1, .ref aq, .ref aw, .ref ac, .ref al] ((cAr g aq 10 vq) ++ ((cAr g aw 24 vw) ++ ((cAr g ac 21 vc) ++ ((cAr g al 24 vl) ++ ((wBR g ad tx is wa st hi)))))) (some (.int res)) ((cAr g aq 10 vq) ++ ((cAr g aw 24 vw) ++ ((cAr g ac 21 vc) ++ ((cAr g al 24 vl) ++ ((wBR g ad tx is wa' st hi)))))) := by
  refine Cg_of (cc := cL_isClimber) (maxL := 8) (ret := (some .boolean)) (by decide +kernel) rfl (Nat.le_of_ble_eq_true rfl) ?_
  intro p e su m args below meth c A Q ls hx hb hml hown hts hK hN hA hnm hP hD hS hl hend
  unfold fL_isClimber at h
  have hl : lv_has ls 8 [(0, .ref (ad 0 0)), (1, .int p1), (2, .ref aq), (3, .ref aw), (4, .ref ac), (5, .ref al)] := hl
  refine lv_iconst (v := 1) hx hb dL_isClimber_0 (by decide) ?_
  refine lv_istore (lv' := [(6, .int (1 : Int32)), (0, .ref (ad 0 0)), (1, .int p1), (2, .ref aq), (3, .ref aw), (4, .ref ac), (5, .ref al)]) hx hb dL_isClimber_1 hl (by decide) rfl (fun ls hl => ?_)
  refine lv_iconst (v := 0) hx hb dL_isClimber_3 (by decide) ?_
  refine lv_istore (lv' := [(7, .int (0 : Int32)), (6, .int (1 : Int32)), (0, .ref (ad 0 0)), (1, .int p1), (2, .ref aq), (3, .ref aw), (4, .ref ac), (5, .ref al)]) hx hb dL_isClimber_4 hl (by decide) rfl (fun ls hl => ?_)
  have L6 : ∀ (n : Nat) (v6_1 : Int32) (v7_2 : Int32) (wa3 : Wa) (y6_4 : Int32) (wa5 : Wa) (H : Heap) (locs : List Loc) (ls : Array Slot), fL_isClimber_L6 tx is st hi vc p1 n v6_1 v7_2 wa3 = some (y6_4, wa5) → va_P g.1 vwCl ((cAr g aq 10 vq) ++ ((cAr g aw 24 vw) ++ ((cAr g ac 21 vc) ++ ((cAr g al 24 vl) ++ ((wBR g ad tx is wa3 st hi)))))) H → va_D A ((cAr g aq 10 vq) ++ ((cAr g aw 24 vw) ++ ((cAr g ac 21 vc) ++ ((cAr g al 24 vl) ++ ((wBR g ad tx is wa3 st hi)))))) → va_S A su.heap H locs → lv_has ls 8 [(0, .ref (ad 0 0)), (1, .int p1), (2, .ref aq), (3, .ref aw), (4, .ref ac), (5, .ref al), (6, .int v6_1), (7, .int v7_2)] → (∀ (H : Heap) (locs : List Loc) (ls : Array Slot), va_P g.1 vwCl ((cAr g aq 10 vq) ++ ((cAr g aw 24 vw) ++ ((cAr g ac 21 vc) ++ ((cAr g al 24 vl) ++ ((wBR g ad tx is wa5 st hi)))))) H → va_D A ((cAr g aq 10 vq) ++ ((cAr g aw 24 vw) ++ ((cAr g ac 21 vc) ++ ((cAr g al 24 vl) ++ ((wBR g ad tx is wa5 st hi)))))) → va_S A su.heap H locs → lv_has ls 8 [(0, .ref (ad 0 0)), (1, .int p1), (2, .ref aq), (3, .ref aw), (4, .ref ac), (5, .ref al), (6, .int y6_4)] → W p l e rL_isClimber su m args below meth c H locs 0 0 Q (F0 m 51 ls [])) → W p l e rL_isClimber su m args below meth c H locs 0 0 Q (F0 m 6 ls []) := by
    intro n
    induction n with
    | zero => intro v6_1 v7_2 wa3 y6_4 wa5 H locs ls h hP hD hS hl kx; cases h
    | succ n ih =>
      intro v6_1 v7_2 wa3 y6_4 wa5 H locs ls h hP hD hS hl kx
      rw [fL_isClimber_L6] at h
      refine lv_iload hx hb dL_isClimber_6 (lv_at hl 7 rfl) ?_
      refine lv_bipush (v := 7) hx hb dL_isClimber_8 (by decide) ?_
      refine lv_icmp_ge (tgt := 51) hx hb dL_isClimber_10 (by decide) (fun c6 => ?_) (fun c6 => ?_)
      · have h := if_t c6 h
        cases some_i h
        exact kx _ _ _ hP hD hS (lv_sub hl [0, 1, 2, 3, 4, 5, 6] rfl)
      · have h := if_f c6 h
        refine lv_iload hx hb dL_isClimber_13 (lv_at hl 6 rfl) ?_
        obtain ⟨j7, wa8, kj7, h⟩ := bd2_ex h
        have kx1 : ∀ (H : Heap) (locs : List Loc) (ls : Array Slot), va_P g.1 vwCl ((cAr g aq 10 vq) ++ ((cAr g aw 24 vw) ++ ((cAr g ac 21 vc) ++ ((cAr g al 24 vl) ++ ((wBR g ad tx is wa8 st hi)))))) H → va_D A ((cAr g aq 10 vq) ++ ((cAr g aw 24 vw) ++ ((cAr g ac 21 vc) ++ ((cAr g al 24 vl) ++ ((wBR g ad tx is wa8 st hi)))))) → va_S A su.heap H locs → lv_has ls 8 [(0, .ref (ad 0 0)), (1, .int p1), (2, .ref aq), (3, .ref aw), (4, .ref ac), (5, .ref al), (7, .int v7_2)] → W p l e rL_isClimber su m args below meth c H locs 0 0 Q (F0 m 43 ls [.int j7]) := by
          intro H locs ls hP hD hS hl
          refine lv_istore (lv' := [(6, .int j7), (0, .ref (ad 0 0)), (1, .int p1), (2, .ref aq), (3, .ref aw), (4, .ref ac), (5, .ref al), (7, .int v7_2)]) hx hb dL_isClimber_43 hl (by decide) rfl (fun ls hl => ?_)
          obtain ⟨x9, ex9, h⟩ := pl_ex h
          refine lv_iinc (v := x9) (lv' := [(7, .int x9), (6, .int j7), (0, .ref (ad 0 0)), (1, .int p1), (2, .ref aq), (3, .ref aw), (4, .ref ac), (5, .ref al)]) hx hb dL_isClimber_45 hl (k := 7) rfl (by rw [← ex9]; rfl) (by decide) rfl (fun ls hl => ?_)
          refine lv_goto (tgt := 6) hx hb dL_isClimber_48 (by decide) ?_
          exact ih j7 x9 wa8 _ _ _ _ _ h hP hD hS (lv_sub hl [2, 3, 4, 5, 6, 7, 1, 0] rfl) kx
        have h := kj7
        refine lv_if_eq (tgt := 42) hx hb dL_isClimber_15 (by decide) (fun c10 => ?_) (fun c10 => ?_)
        · have h := if_t c10 h
          refine lv_iconst (v := 0) hx hb dL_isClimber_42 (by decide) ?_
          cases some_i h
          exact kx1 _ _ _ hP hD hS (lv_sub hl [0, 1, 2, 3, 4, 5, 7] rfl)
        · have h := if_f c10 h
          refine lv_aload_n hx hb dL_isClimber_18 rfl (lv_at hl 0 rfl) ?_
          refine lv_iload_n hx hb dL_isClimber_19 rfl (lv_at hl 1 rfl) ?_
          refine lv_iload hx hb dL_isClimber_20 (lv_at hl 7 rfl) ?_
          obtain ⟨r11, wa12, kr11, h⟩ := bd2_ex h
          have pq : (((cAr g aq 10 vq) ++ ((cAr g aw 24 vw) ++ ((cAr g ac 21 vc) ++ ((cAr g al 24 vl) ++ ((wBR g ad tx is wa3 st hi)))))) : va_W).Perm (((wBR g ad tx is wa3 st hi)) ++ ((cAr g aq 10 vq) ++ ((cAr g aw 24 vw) ++ ((cAr g ac 21 vc) ++ ((cAr g al 24 vl)))))) := pmS [(cAr g aq 10 vq), (cAr g aw 24 vw), (cAr g ac 21 vc), (cAr g al 24 vl), (wBR g ad tx is wa3 st hi)] [0, 1, 2, 3, 4] [4] [0, 1, 2, 3] (by decide)
          have pr : ((((wBR g ad tx is wa12 st hi)) ++ ((cAr g aq 10 vq) ++ ((cAr g aw 24 vw) ++ ((cAr g ac 21 vc) ++ ((cAr g al 24 vl)))))) : va_W).Perm ((cAr g aq 10 vq) ++ ((cAr g aw 24 vw) ++ ((cAr g ac 21 vc) ++ ((cAr g al 24 vl) ++ ((wBR g ad tx is wa12 st hi)))))) := (pmS [(cAr g aq 10 vq), (cAr g aw 24 vw), (cAr g ac 21 vc), (cAr g al 24 vl), (wBR g ad tx is wa12 st hi)] [0, 1, 2, 3, 4] [4] [0, 1, 2, 3] (by decide)).symm
          refine aft_p (st1 := [.int r11]) (ws' := ((cAr g aq 10 vq) ++ ((cAr g aw 24 vw) ++ ((cAr g ac 21 vc) ++ ((cAr g al 24 vl) ++ ((wBR g ad tx is wa12 st hi))))))) rfl pq pr (runW (As := [.ref (ad 0 0), .int p1, .int v7_2]) (rest := []) ⟨hx, hb, hml, hown, hts⟩ (kL_climber l g ad kr11) (vx_cwSW 3 hts gL_isClimber_L_climber rfl rfl rfl hdL_climber ⟨Nat.le_of_ble_eq_true rfl, Nat.le_of_ble_eq_true rfl⟩) hK hN (hP.perm pq).left (hD.perm pq).left rfl hl.1 rfl (Nat.le_of_ble_eq_true rfl) dL_isClimber_22 ⟨Nat.zero_le _, Nat.zero_le _⟩) hP hD hS hA (fun H locs hP hD hS => ?_)
          refine lv_aload hx hb dL_isClimber_25 (lv_at hl 4 rfl) ?_
          refine lv_bipush (v := 7) hx hb dL_isClimber_27 (by decide) ?_
          refine lv_iload_n hx hb dL_isClimber_29 rfl (lv_at hl 1 rfl) ?_
          refine lv_imul hx hb dL_isClimber_30 ?_
          refine lv_iload hx hb dL_isClimber_31 (lv_at hl 7 rfl) ?_
          refine lv_iadd hx hb dL_isClimber_33 ?_
          obtain ⟨hi9, h⟩ := ck_ex h
          refine va_iald hx hb hK hP 2 0 rfl rfl (inb_in hi9) dL_isClimber_34 ?_
          refine lv_icmp_ne (tgt := 42) hx hb dL_isClimber_35 (by decide) (fun c13 => ?_) (fun c13 => ?_)
          · have h := if_f c13 h
            refine lv_iconst (v := 0) hx hb dL_isClimber_42 (by decide) ?_
            cases some_i h
            exact kx1 _ _ _ hP hD hS (lv_sub hl [0, 1, 2, 3, 4, 5, 7] rfl)
          · have h := if_t c13 h
            refine lv_iconst (v := 1) hx hb dL_isClimber_38 (by decide) ?_
            refine lv_goto (tgt := 43) hx hb dL_isClimber_39 (by decide) ?_
            cases some_i h
            exact kx1 _ _ _ hP hD hS (lv_sub hl [0, 1, 2, 3, 4, 5, 7] rfl)
  obtain ⟨v6_14, wa15, kv6_14, h⟩ := bd2_ex h
  refine L6 1000 (1 : Int32) (0 : Int32) wa v6_14 wa15 _ _ _ kv6_14 hP hD hS (lv_sub hl [2, 3, 4, 5, 6, 7, 1, 0] rfl) (fun H locs ls hP hD hS hl => ?_)
  refine lv_aload hx hb dL_isClimber_51 (lv_at hl 4 rfl) ?_
  refine lv_bipush (v := 7) hx hb dL_isClimber_53 (by decide) ?_
  refine lv_iload_n hx hb dL_isClimber_55 rfl (lv_at hl 1 rfl) ?_
  refine lv_imul hx hb dL_isClimber_56 ?_
  obtain ⟨hi9, h⟩ := ck_ex h
  refine va_iald hx hb hK hP 2 0 rfl rfl (inb_in hi9) dL_isClimber_57 ?_
  refine lv_if_ge (tgt := 105) hx hb dL_isClimber_58 (by decide) (fun c16 => ?_) (fun c16 => ?_)
  · have h := if_t c16 h
    refine lv_aload hx hb dL_isClimber_105 (lv_at hl 4 rfl) ?_
    refine lv_bipush (v := 7) hx hb dL_isClimber_107 (by decide) ?_
    refine lv_iload_n hx hb dL_isClimber_109 rfl (lv_at hl 1 rfl) ?_
    refine lv_imul hx hb dL_isClimber_110 ?_
    obtain ⟨hi9, h⟩ := ck_ex h
    refine va_iald hx hb hK hP 2 0 rfl rfl (inb_in hi9) dL_isClimber_111 ?_
    refine lv_aload hx hb dL_isClimber_112 (lv_at hl 4 rfl) ?_
    refine lv_bipush (v := 7) hx hb dL_isClimber_114 (by decide) ?_
    refine lv_iload_n hx hb dL_isClimber_116 rfl (lv_at hl 1 rfl) ?_
    refine lv_imul hx hb dL_isClimber_117 ?_
    refine lv_iconst (v := 2) hx hb dL_isClimber_118 (by decide) ?_
    refine lv_iadd hx hb dL_isClimber_119 ?_
    obtain ⟨hi9, h⟩ := ck_ex h
    refine va_iald hx hb hK hP 2 0 rfl rfl (inb_in hi9) dL_isClimber_120 ?_
    refine lv_aload hx hb dL_isClimber_121 (lv_at hl 4 rfl) ?_
    refine lv_bipush (v := 7) hx hb dL_isClimber_123 (by decide) ?_
    refine lv_iload_n hx hb dL_isClimber_125 rfl (lv_at hl 1 rfl) ?_
    refine lv_imul hx hb dL_isClimber_126 ?_
    refine lv_iconst (v := 3) hx hb dL_isClimber_127 (by decide) ?_
    refine lv_iadd hx hb dL_isClimber_128 ?_
    obtain ⟨hi9, h⟩ := ck_ex h
    refine va_iald hx hb hK hP 2 0 rfl rfl (inb_in hi9) dL_isClimber_129 ?_
    refine lv_iconst (v := 1) hx hb dL_isClimber_130 (by decide) ?_
    obtain ⟨j17, kj17, h⟩ := bd_ex h
    have kx2 : ∀ (H : Heap) (locs : List Loc) (ls : Array Slot), va_P g.1 vwCl ((cAr g aq 10 vq) ++ ((cAr g aw 24 vw) ++ ((cAr g ac 21 vc) ++ ((cAr g al 24 vl) ++ ((wBR g ad tx is wa15 st hi)))))) H → va_D A ((cAr g aq 10 vq) ++ ((cAr g aw 24 vw) ++ ((cAr g ac 21 vc) ++ ((cAr g al 24 vl) ++ ((wBR g ad tx is wa15 st hi)))))) → va_S A su.heap H locs → lv_has ls 8 [(0, .ref (ad 0 0)), (1, .int p1), (2, .ref aq), (3, .ref aw), (4, .ref ac), (5, .ref al), (6, .int v6_14)] → W p l e rL_isClimber su m args below meth c H locs 0 0 Q (F0 m 139 ls [.int j17, .int (vc (((7 : Int32) * p1) + (2 : Int32)).toNatClampNeg), .int (vc ((7 : Int32) * p1).toNatClampNeg)]) := by
      intro H locs ls hP hD hS hl
      refine lv_aload_n hx hb dL_isClimber_139 rfl (lv_at hl 2 rfl) ?_
      refine lv_aload_n hx hb dL_isClimber_140 rfl (lv_at hl 3 rfl) ?_
      refine lv_aload hx hb dL_isClimber_141 (lv_at hl 5 rfl) ?_
      obtain ⟨r18, kr18, h⟩ := bd_ex h
      have pq : (((cAr g aq 10 vq) ++ ((cAr g aw 24 vw) ++ ((cAr g ac 21 vc) ++ ((cAr g al 24 vl) ++ ((wBR g ad tx is wa15 st hi)))))) : va_W).Perm (((cAr g aq 10 vq) ++ ((cAr g aw 24 vw) ++ ((cAr g al 24 vl)))) ++ ((cAr g ac 21 vc) ++ ((wBR g ad tx is wa15 st hi)))) := pmS [(cAr g aq 10 vq), (cAr g aw 24 vw), (cAr g ac 21 vc), (cAr g al 24 vl), (wBR g ad tx is wa15 st hi)] [0, 1, 2, 3, 4] [0, 1, 3] [2, 4] (by decide)
      have pr : ((((cAr g aq 10 vq) ++ ((cAr g aw 24 vw) ++ ((cAr g al 24 vl)))) ++ ((cAr g ac 21 vc) ++ ((wBR g ad tx is wa15 st hi)))) : va_W).Perm ((cAr g aq 10 vq) ++ ((cAr g aw 24 vw) ++ ((cAr g ac 21 vc) ++ ((cAr g al 24 vl) ++ ((wBR g ad tx is wa15 st hi)))))) := (pmS [(cAr g aq 10 vq), (cAr g aw 24 vw), (cAr g ac 21 vc), (cAr g al 24 vl), (wBR g ad tx is wa15 st hi)] [0, 1, 2, 3, 4] [0, 1, 3] [2, 4] (by decide)).symm
      refine aft_p (st1 := [.int r18]) (ws' := ((cAr g aq 10 vq) ++ ((cAr g aw 24 vw) ++ ((cAr g ac 21 vc) ++ ((cAr g al 24 vl) ++ ((wBR g ad tx is wa15 st hi))))))) rfl pq pr (runS (As := [.int (vc ((7 : Int32) * p1).toNatClampNeg), .int (vc (((7 : Int32) * p1) + (2 : Int32)).toNatClampNeg), .int j17, .ref aq, .ref aw, .ref al]) (rest := []) ⟨hx, hb, hml, hown, hts⟩ (kL_fewest l g aq aw al kr18) (va_cwS 6 hts gL_isClimber_L_fewest rfl rfl rfl hdL_fewest ⟨Nat.le_of_ble_eq_true rfl, Nat.le_of_ble_eq_true rfl⟩) hK hN (hP.perm pq).left (hD.perm pq).left rfl hl.1 rfl (Nat.le_of_ble_eq_true rfl) dL_isClimber_143 ⟨Nat.zero_le _, Nat.zero_le _⟩) hP hD hS hA (fun H locs hP hD hS => ?_)
      refine lv_istore (lv' := [(7, .int r18), (0, .ref (ad 0 0)), (1, .int p1), (2, .ref aq), (3, .ref aw), (4, .ref ac), (5, .ref al), (6, .int v6_14)]) hx hb dL_isClimber_146 hl (by decide) rfl (fun ls hl => ?_)
      refine lv_iload hx hb dL_isClimber_148 (lv_at hl 7 rfl) ?_
      obtain ⟨j19, wa20, kj19, h⟩ := bd2_ex h
      have kx3 : ∀ (H : Heap) (locs : List Loc) (ls : Array Slot), va_P g.1 vwCl ((cAr g aq 10 vq) ++ ((cAr g aw 24 vw) ++ ((cAr g ac 21 vc) ++ ((cAr g al 24 vl) ++ ((wBR g ad tx is wa20 st hi)))))) H → va_D A ((cAr g aq 10 vq) ++ ((cAr g aw 24 vw) ++ ((cAr g ac 21 vc) ++ ((cAr g al 24 vl) ++ ((wBR g ad tx is wa20 st hi)))))) → va_S A su.heap H locs → lv_has ls 8 [] → W p l e rL_isClimber su m args below meth c H locs 0 0 Q (F0 m 236 ls [.int j19]) := by
        intro H locs ls hP hD hS hl
        obtain ⟨hz9, h⟩ := ck_ex h
        cases some_i h
        exact hend _ _ _ _ _ hP hD hS (RetOK.z dL_isClimber_236 (of_decide_eq_true hz9))
      have h := kj19
      refine lv_if_eq (tgt := 235) hx hb dL_isClimber_150 (by decide) (fun c21 => ?_) (fun c21 => ?_)
      · have h := if_t c21 h
        refine lv_iconst (v := 0) hx hb dL_isClimber_235 (by decide) ?_
        cases some_i h
        exact kx3 _ _ _ hP hD hS (lv_sub hl [] rfl)
      · have h := if_f c21 h
        refine lv_aload_n hx hb dL_isClimber_153 rfl (lv_at hl 1 rfl) ?_
        refine lv_iload_n hx hb dL_isClimber_154 rfl (lv_at hl 2 rfl) ?_
        refine lv_bipush (v := 7) hx hb dL_isClimber_155 (by decide) ?_
        obtain ⟨r22, wa23, kr22, h⟩ := bd2_ex h
        have pq : (((cAr g aq 10 vq) ++ ((cAr g aw 24 vw) ++ ((cAr g ac 21 vc) ++ ((cAr g al 24 vl) ++ ((wBR g ad tx is wa15 st hi)))))) : va_W).Perm (((wBR g ad tx is wa15 st hi)) ++ ((cAr g aq 10 vq) ++ ((cAr g aw 24 vw) ++ ((cAr g ac 21 vc) ++ ((cAr g al 24 vl)))))) := pmS [(cAr g aq 10 vq), (cAr g aw 24 vw), (cAr g ac 21 vc), (cAr g al 24 vl), (wBR g ad tx is wa15 st hi)] [0, 1, 2, 3, 4] [4] [0, 1, 2, 3] (by decide)
        have pr : ((((wBR g ad tx is wa23 st hi)) ++ ((cAr g aq 10 vq) ++ ((cAr g aw 24 vw) ++ ((cAr g ac 21 vc) ++ ((cAr g al 24 vl)))))) : va_W).Perm ((cAr g aq 10 vq) ++ ((cAr g aw 24 vw) ++ ((cAr g ac 21 vc) ++ ((cAr g al 24 vl) ++ ((wBR g ad tx is wa23 st hi)))))) := (pmS [(cAr g aq 10 vq), (cAr g aw 24 vw), (cAr g ac 21 vc), (cAr g al 24 vl), (wBR g ad tx is wa23 st hi)] [0, 1, 2, 3, 4] [4] [0, 1, 2, 3] (by decide)).symm
        refine aft_p (st1 := [.int r22]) (ws' := ((cAr g aq 10 vq) ++ ((cAr g aw 24 vw) ++ ((cAr g ac 21 vc) ++ ((cAr g al 24 vl) ++ ((wBR g ad tx is wa23 st hi))))))) rfl pq pr (runW (As := [.ref (ad 0 0), .int p1, .int (7 : Int32)]) (rest := []) ⟨hx, hb, hml, hown, hts⟩ (kL_climber l g ad kr22) (vx_cwSW 3 hts gL_isClimber_L_climber rfl rfl rfl hdL_climber ⟨Nat.le_of_ble_eq_true rfl, Nat.le_of_ble_eq_true rfl⟩) hK hN (hP.perm pq).left (hD.perm pq).left rfl hl.1 rfl (Nat.le_of_ble_eq_true rfl) dL_isClimber_157 ⟨Nat.zero_le _, Nat.zero_le _⟩) hP hD hS hA (fun H locs hP hD hS => ?_)
        refine lv_iload hx hb dL_isClimber_160 (lv_at hl 0 rfl) ?_
        refine lv_icmp_ne (tgt := 235) hx hb dL_isClimber_162 (by decide) (fun c24 => ?_) (fun c24 => ?_)
        · have h := if_f c24 h
          refine lv_iconst (v := 0) hx hb dL_isClimber_235 (by decide) ?_
          cases some_i h
          exact kx3 _ _ _ hP hD hS (lv_sub hl [] rfl)
        · have h := if_t c24 h
          refine lv_aload_n hx hb dL_isClimber_165 rfl (lv_at hl 1 rfl) ?_
          refine lv_iload_n hx hb dL_isClimber_166 rfl (lv_at hl 2 rfl) ?_
          refine lv_bipush (v := 8) hx hb dL_isClimber_167 (by decide) ?_
          obtain ⟨r25, wa26, kr25, h⟩ := bd2_ex h
          have pq : (((cAr g aq 10 vq) ++ ((cAr g aw 24 vw) ++ ((cAr g ac 21 vc) ++ ((cAr g al 24 vl) ++ ((wBR g ad tx is wa23 st hi)))))) : va_W).Perm (((wBR g ad tx is wa23 st hi)) ++ ((cAr g aq 10 vq) ++ ((cAr g aw 24 vw) ++ ((cAr g ac 21 vc) ++ ((cAr g al 24 vl)))))) := pmS [(cAr g aq 10 vq), (cAr g aw 24 vw), (cAr g ac 21 vc), (cAr g al 24 vl), (wBR g ad tx is wa23 st hi)] [0, 1, 2, 3, 4] [4] [0, 1, 2, 3] (by decide)
          have pr : ((((wBR g ad tx is wa26 st hi)) ++ ((cAr g aq 10 vq) ++ ((cAr g aw 24 vw) ++ ((cAr g ac 21 vc) ++ ((cAr g al 24 vl)))))) : va_W).Perm ((cAr g aq 10 vq) ++ ((cAr g aw 24 vw) ++ ((cAr g ac 21 vc) ++ ((cAr g al 24 vl) ++ ((wBR g ad tx is wa26 st hi)))))) := (pmS [(cAr g aq 10 vq), (cAr g aw 24 vw), (cAr g ac 21 vc), (cAr g al 24 vl), (wBR g ad tx is wa26 st hi)] [0, 1, 2, 3, 4] [4] [0, 1, 2, 3] (by decide)).symm
          refine aft_p (st1 := [.int r25]) (ws' := ((cAr g aq 10 vq) ++ ((cAr g aw 24 vw) ++ ((cAr g ac 21 vc) ++ ((cAr g al 24 vl) ++ ((wBR g ad tx is wa26 st hi))))))) rfl pq pr (runW (As := [.ref (ad 0 0), .int p1, .int (8 : Int32)]) (rest := []) ⟨hx, hb, hml, hown, hts⟩ (kL_climber l g ad kr25) (vx_cwSW 3 hts gL_isClimber_L_climber rfl rfl rfl hdL_climber ⟨Nat.le_of_ble_eq_true rfl, Nat.le_of_ble_eq_true rfl⟩) hK hN (hP.perm pq).left (hD.perm pq).left rfl hl.1 rfl (Nat.le_of_ble_eq_true rfl) dL_isClimber_169 ⟨Nat.zero_le _, Nat.zero_le _⟩) hP hD hS hA (fun H locs hP hD hS => ?_)
          refine lv_iload hx hb dL_isClimber_172 (lv_at hl 0 rfl) ?_
          refine lv_icmp_ne (tgt := 235) hx hb dL_isClimber_174 (by decide) (fun c27 => ?_) (fun c27 => ?_)
          · have h := if_f c27 h
            refine lv_iconst (v := 0) hx hb dL_isClimber_235 (by decide) ?_
            cases some_i h
            exact kx3 _ _ _ hP hD hS (lv_sub hl [] rfl)
          · have h := if_t c27 h
            refine lv_aload_n hx hb dL_isClimber_177 rfl (lv_at hl 1 rfl) ?_
            refine lv_iload_n hx hb dL_isClimber_178 rfl (lv_at hl 2 rfl) ?_
            refine lv_bipush (v := 9) hx hb dL_isClimber_179 (by decide) ?_
            obtain ⟨r28, wa29, kr28, h⟩ := bd2_ex h
            have pq : (((cAr g aq 10 vq) ++ ((cAr g aw 24 vw) ++ ((cAr g ac 21 vc) ++ ((cAr g al 24 vl) ++ ((wBR g ad tx is wa26 st hi)))))) : va_W).Perm (((wBR g ad tx is wa26 st hi)) ++ ((cAr g aq 10 vq) ++ ((cAr g aw 24 vw) ++ ((cAr g ac 21 vc) ++ ((cAr g al 24 vl)))))) := pmS [(cAr g aq 10 vq), (cAr g aw 24 vw), (cAr g ac 21 vc), (cAr g al 24 vl), (wBR g ad tx is wa26 st hi)] [0, 1, 2, 3, 4] [4] [0, 1, 2, 3] (by decide)
            have pr : ((((wBR g ad tx is wa29 st hi)) ++ ((cAr g aq 10 vq) ++ ((cAr g aw 24 vw) ++ ((cAr g ac 21 vc) ++ ((cAr g al 24 vl)))))) : va_W).Perm ((cAr g aq 10 vq) ++ ((cAr g aw 24 vw) ++ ((cAr g ac 21 vc) ++ ((cAr g al 24 vl) ++ ((wBR g ad tx is wa29 st hi)))))) := (pmS [(cAr g aq 10 vq), (cAr g aw 24 vw), (cAr g ac 21 vc), (cAr g al 24 vl), (wBR g ad tx is wa29 st hi)] [0, 1, 2, 3, 4] [4] [0, 1, 2, 3] (by decide)).symm
            refine aft_p (st1 := [.int r28]) (ws' := ((cAr g aq 10 vq) ++ ((cAr g aw 24 vw) ++ ((cAr g ac 21 vc) ++ ((cAr g al 24 vl) ++ ((wBR g ad tx is wa29 st hi))))))) rfl pq pr (runW (As := [.ref (ad 0 0), .int p1, .int (9 : Int32)]) (rest := []) ⟨hx, hb, hml, hown, hts⟩ (kL_climber l g ad kr28) (vx_cwSW 3 hts gL_isClimber_L_climber rfl rfl rfl hdL_climber ⟨Nat.le_of_ble_eq_true rfl, Nat.le_of_ble_eq_true rfl⟩) hK hN (hP.perm pq).left (hD.perm pq).left rfl hl.1 rfl (Nat.le_of_ble_eq_true rfl) dL_isClimber_181 ⟨Nat.zero_le _, Nat.zero_le _⟩) hP hD hS hA (fun H locs hP hD hS => ?_)
            refine lv_iconst (v := -1) hx hb dL_isClimber_184 (by decide) ?_
            obtain ⟨j30, kj30, h⟩ := bd_ex h
            have kx4 : ∀ (H : Heap) (locs : List Loc) (ls : Array Slot), va_P g.1 vwCl ((cAr g aq 10 vq) ++ ((cAr g aw 24 vw) ++ ((cAr g ac 21 vc) ++ ((cAr g al 24 vl) ++ ((wBR g ad tx is wa29 st hi)))))) H → va_D A ((cAr g aq 10 vq) ++ ((cAr g aw 24 vw) ++ ((cAr g ac 21 vc) ++ ((cAr g al 24 vl) ++ ((wBR g ad tx is wa29 st hi)))))) → va_S A su.heap H locs → lv_has ls 8 [(0, .ref (ad 0 0)), (1, .int p1), (4, .ref ac), (7, .int r18)] → W p l e rL_isClimber su m args below meth c H locs 0 0 Q (F0 m 193 ls [.int j30]) := by
              intro H locs ls hP hD hS hl
              refine lv_iload hx hb dL_isClimber_193 (lv_at hl 3 rfl) ?_
              refine lv_iconst (v := -1) hx hb dL_isClimber_195 (by decide) ?_
              obtain ⟨j31, kj31, h⟩ := bd_ex h
              have kx5 : ∀ (H : Heap) (locs : List Loc) (ls : Array Slot), va_P g.1 vwCl ((cAr g aq 10 vq) ++ ((cAr g aw 24 vw) ++ ((cAr g ac 21 vc) ++ ((cAr g al 24 vl) ++ ((wBR g ad tx is wa29 st hi)))))) H → va_D A ((cAr g aq 10 vq) ++ ((cAr g aw 24 vw) ++ ((cAr g ac 21 vc) ++ ((cAr g al 24 vl) ++ ((wBR g ad tx is wa29 st hi)))))) → va_S A su.heap H locs → lv_has ls 8 [(0, .ref (ad 0 0)), (1, .int p1), (4, .ref ac), (7, .int r18)] → W p l e rL_isClimber su m args below meth c H locs 0 0 Q (F0 m 204 ls [.int j31, .int j30]) := by
                intro H locs ls hP hD hS hl
                refine lv_icmp_ne (tgt := 235) hx hb dL_isClimber_204 (by decide) (fun c32 => ?_) (fun c32 => ?_)
                · have h := if_f c32 h
                  refine lv_iconst (v := 0) hx hb dL_isClimber_235 (by decide) ?_
                  cases some_i h
                  exact kx3 _ _ _ hP hD hS (lv_sub hl [] rfl)
                · have h := if_t c32 h
                  refine lv_iload hx hb dL_isClimber_207 (lv_at hl 3 rfl) ?_
                  refine lv_if_ne (tgt := 231) hx hb dL_isClimber_209 (by decide) (fun c33 => ?_) (fun c33 => ?_)
                  · have h := if_f c33 h
                    refine lv_iconst (v := 1) hx hb dL_isClimber_231 (by decide) ?_
                    refine lv_goto (tgt := 236) hx hb dL_isClimber_232 (by decide) ?_
                    cases some_i h
                    exact kx3 _ _ _ hP hD hS (lv_sub hl [] rfl)
                  · have h := if_t c33 h
                    refine lv_aload_n hx hb dL_isClimber_212 rfl (lv_at hl 0 rfl) ?_
                    refine lv_iload_n hx hb dL_isClimber_213 rfl (lv_at hl 1 rfl) ?_
                    refine lv_bipush (v := 9) hx hb dL_isClimber_214 (by decide) ?_
                    obtain ⟨r34, wa35, kr34, h⟩ := bd2_ex h
                    have pq : (((cAr g aq 10 vq) ++ ((cAr g aw 24 vw) ++ ((cAr g ac 21 vc) ++ ((cAr g al 24 vl) ++ ((wBR g ad tx is wa29 st hi)))))) : va_W).Perm (((wBR g ad tx is wa29 st hi)) ++ ((cAr g aq 10 vq) ++ ((cAr g aw 24 vw) ++ ((cAr g ac 21 vc) ++ ((cAr g al 24 vl)))))) := pmS [(cAr g aq 10 vq), (cAr g aw 24 vw), (cAr g ac 21 vc), (cAr g al 24 vl), (wBR g ad tx is wa29 st hi)] [0, 1, 2, 3, 4] [4] [0, 1, 2, 3] (by decide)
                    have pr : ((((wBR g ad tx is wa35 st hi)) ++ ((cAr g aq 10 vq) ++ ((cAr g aw 24 vw) ++ ((cAr g ac 21 vc) ++ ((cAr g al 24 vl)))))) : va_W).Perm ((cAr g aq 10 vq) ++ ((cAr g aw 24 vw) ++ ((cAr g ac 21 vc) ++ ((cAr g al 24 vl) ++ ((wBR g ad tx is wa35 st hi)))))) := (pmS [(cAr g aq 10 vq), (cAr g aw 24 vw), (cAr g ac 21 vc), (cAr g al 24 vl), (wBR g ad tx is wa35 st hi)] [0, 1, 2, 3, 4] [4] [0, 1, 2, 3] (by decide)).symm
                    refine aft_p (st1 := [.int r34]) (ws' := ((cAr g aq 10 vq) ++ ((cAr g aw 24 vw) ++ ((cAr g ac 21 vc) ++ ((cAr g al 24 vl) ++ ((wBR g ad tx is wa35 st hi))))))) rfl pq pr (runW (As := [.ref (ad 0 0), .int p1, .int (9 : Int32)]) (rest := []) ⟨hx, hb, hml, hown, hts⟩ (kL_climber l g ad kr34) (vx_cwSW 3 hts gL_isClimber_L_climber rfl rfl rfl hdL_climber ⟨Nat.le_of_ble_eq_true rfl, Nat.le_of_ble_eq_true rfl⟩) hK hN (hP.perm pq).left (hD.perm pq).left rfl hl.1 rfl (Nat.le_of_ble_eq_true rfl) dL_isClimber_216 ⟨Nat.zero_le _, Nat.zero_le _⟩) hP hD hS hA (fun H locs hP hD hS => ?_)
                    refine lv_aload hx hb dL_isClimber_219 (lv_at hl 2 rfl) ?_
                    refine lv_bipush (v := 7) hx hb dL_isClimber_221 (by decide) ?_
                    refine lv_iload_n hx hb dL_isClimber_223 rfl (lv_at hl 1 rfl) ?_
                    refine lv_imul hx hb dL_isClimber_224 ?_
                    refine lv_iconst (v := 2) hx hb dL_isClimber_225 (by decide) ?_
                    refine lv_iadd hx hb dL_isClimber_226 ?_
                    obtain ⟨hi9, h⟩ := ck_ex h
                    refine va_iald hx hb hK hP 2 0 rfl rfl (inb_in hi9) dL_isClimber_227 ?_
                    refine lv_icmp_ne (tgt := 235) hx hb dL_isClimber_228 (by decide) (fun c36 => ?_) (fun c36 => ?_)
                    · have h := if_f c36 h
                      refine lv_iconst (v := 0) hx hb dL_isClimber_235 (by decide) ?_
                      cases some_i h
                      exact kx3 _ _ _ hP hD hS (lv_sub hl [] rfl)
                    · have h := if_t c36 h
                      refine lv_iconst (v := 1) hx hb dL_isClimber_231 (by decide) ?_
                      refine lv_goto (tgt := 236) hx hb dL_isClimber_232 (by decide) ?_
                      cases some_i h
                      exact kx3 _ _ _ hP hD hS (lv_sub hl [] rfl)
              have h := kj31
              refine lv_icmp_ne (tgt := 203) hx hb dL_isClimber_196 (by decide) (fun c37 => ?_) (fun c37 => ?_)
              · have h := if_f c37 h
                refine lv_iconst (v := 0) hx hb dL_isClimber_203 (by decide) ?_
                cases some_i h
                exact kx5 _ _ _ hP hD hS (lv_sub hl [0, 1, 2, 3] rfl)
              · have h := if_t c37 h
                refine lv_iconst (v := 1) hx hb dL_isClimber_199 (by decide) ?_
                refine lv_goto (tgt := 204) hx hb dL_isClimber_200 (by decide) ?_
                cases some_i h
                exact kx5 _ _ _ hP hD hS (lv_sub hl [0, 1, 2, 3] rfl)
            have h := kj30
            refine lv_icmp_ne (tgt := 192) hx hb dL_isClimber_185 (by decide) (fun c38 => ?_) (fun c38 => ?_)
            · have h := if_f c38 h
              refine lv_iconst (v := 0) hx hb dL_isClimber_192 (by decide) ?_
              cases some_i h
              exact kx4 _ _ _ hP hD hS (lv_sub hl [1, 2, 5, 0] rfl)
            · have h := if_t c38 h
              refine lv_iconst (v := 1) hx hb dL_isClimber_188 (by decide) ?_
              refine lv_goto (tgt := 193) hx hb dL_isClimber_189 (by decide) ?_
              cases some_i h
              exact kx4 _ _ _ hP hD hS (lv_sub hl [1, 2, 5, 0] rfl)
    have h := kj17
    refine lv_icmp_ne (tgt := 138) hx hb dL_isClimber_131 (by decide) (fun c39 => ?_) (fun c39 => ?_)
    · have h := if_f c39 h
      refine lv_iconst (v := 0) hx hb dL_isClimber_138 (by decide) ?_
      cases some_i h
      exact kx2 _ _ _ hP hD hS (lv_sub hl [0, 1, 2, 3, 4, 5, 6] rfl)
    · have h := if_t c39 h
      refine lv_iconst (v := 1) hx hb dL_isClimber_134 (by decide) ?_
      refine lv_goto (tgt := 139) hx hb dL_isClimber_135 (by decide) ?_
      cases some_i h
      exact kx2 _ _ _ hP hD hS (lv_sub hl [0, 1, 2, 3, 4, 5, 6] rfl)
  · have h := if_f c16 h
    refine lv_iload hx hb dL_isClimber_61 (lv_at hl 6 rfl) ?_
    obtain ⟨j40, wa41, kj40, h⟩ := bd2_ex h
    have kx6 : ∀ (H : Heap) (locs : List Loc) (ls : Array Slot), va_P g.1 vwCl ((cAr g aq 10 vq) ++ ((cAr g aw 24 vw) ++ ((cAr g ac 21 vc) ++ ((cAr g al 24 vl) ++ ((wBR g ad tx is wa41 st hi)))))) H → va_D A ((cAr g aq 10 vq) ++ ((cAr g aw 24 vw) ++ ((cAr g ac 21 vc) ++ ((cAr g al 24 vl) ++ ((wBR g ad tx is wa41 st hi)))))) → va_S A su.heap H locs → lv_has ls 8 [] → W p l e rL_isClimber su m args below meth c H locs 0 0 Q (F0 m 104 ls [.int j40]) := by
      intro H locs ls hP hD hS hl
      obtain ⟨hz9, h⟩ := ck_ex h
      cases some_i h
      exact hend _ _ _ _ _ hP hD hS (RetOK.z dL_isClimber_104 (of_decide_eq_true hz9))
    have h := kj40
    refine lv_if_eq (tgt := 103) hx hb dL_isClimber_63 (by decide) (fun c42 => ?_) (fun c42 => ?_)
    · have h := if_t c42 h
      refine lv_iconst (v := 0) hx hb dL_isClimber_103 (by decide) ?_
      cases some_i h
      exact kx6 _ _ _ hP hD hS (lv_sub hl [] rfl)
    · have h := if_f c42 h
      refine lv_aload_n hx hb dL_isClimber_66 rfl (lv_at hl 0 rfl) ?_
      refine lv_iload_n hx hb dL_isClimber_67 rfl (lv_at hl 1 rfl) ?_
      refine lv_bipush (v := 7) hx hb dL_isClimber_68 (by decide) ?_
      obtain ⟨r43, wa44, kr43, h⟩ := bd2_ex h
      have pq : (((cAr g aq 10 vq) ++ ((cAr g aw 24 vw) ++ ((cAr g ac 21 vc) ++ ((cAr g al 24 vl) ++ ((wBR g ad tx is wa15 st hi)))))) : va_W).Perm (((wBR g ad tx is wa15 st hi)) ++ ((cAr g aq 10 vq) ++ ((cAr g aw 24 vw) ++ ((cAr g ac 21 vc) ++ ((cAr g al 24 vl)))))) := pmS [(cAr g aq 10 vq), (cAr g aw 24 vw), (cAr g ac 21 vc), (cAr g al 24 vl), (wBR g ad tx is wa15 st hi)] [0, 1, 2, 3, 4] [4] [0, 1, 2, 3] (by decide)
      have pr : ((((wBR g ad tx is wa44 st hi)) ++ ((cAr g aq 10 vq) ++ ((cAr g aw 24 vw) ++ ((cAr g ac 21 vc) ++ ((cAr g al 24 vl)))))) : va_W).Perm ((cAr g aq 10 vq) ++ ((cAr g aw 24 vw) ++ ((cAr g ac 21 vc) ++ ((cAr g al 24 vl) ++ ((wBR g ad tx is wa44 st hi)))))) := (pmS [(cAr g aq 10 vq), (cAr g aw 24 vw), (cAr g ac 21 vc), (cAr g al 24 vl), (wBR g ad tx is wa44 st hi)] [0, 1, 2, 3, 4] [4] [0, 1, 2, 3] (by decide)).symm
      refine aft_p (st1 := [.int r43]) (ws' := ((cAr g aq 10 vq) ++ ((cAr g aw 24 vw) ++ ((cAr g ac 21 vc) ++ ((cAr g al 24 vl) ++ ((wBR g ad tx is wa44 st hi))))))) rfl pq pr (runW (As := [.ref (ad 0 0), .int p1, .int (7 : Int32)]) (rest := []) ⟨hx, hb, hml, hown, hts⟩ (kL_climber l g ad kr43) (vx_cwSW 3 hts gL_isClimber_L_climber rfl rfl rfl hdL_climber ⟨Nat.le_of_ble_eq_true rfl, Nat.le_of_ble_eq_true rfl⟩) hK hN (hP.perm pq).left (hD.perm pq).left rfl hl.1 rfl (Nat.le_of_ble_eq_true rfl) dL_isClimber_70 ⟨Nat.zero_le _, Nat.zero_le _⟩) hP hD hS hA (fun H locs hP hD hS => ?_)
      refine lv_iconst (v := -1) hx hb dL_isClimber_73 (by decide) ?_
      refine lv_icmp_ne (tgt := 103) hx hb dL_isClimber_74 (by decide) (fun c45 => ?_) (fun c45 => ?_)
      · have h := if_f c45 h
        refine lv_iconst (v := 0) hx hb dL_isClimber_103 (by decide) ?_
        cases some_i h
        exact kx6 _ _ _ hP hD hS (lv_sub hl [] rfl)
      · have h := if_t c45 h
        refine lv_aload_n hx hb dL_isClimber_77 rfl (lv_at hl 0 rfl) ?_
        refine lv_iload_n hx hb dL_isClimber_78 rfl (lv_at hl 1 rfl) ?_
        refine lv_bipush (v := 8) hx hb dL_isClimber_79 (by decide) ?_
        obtain ⟨r46, wa47, kr46, h⟩ := bd2_ex h
        have pq : (((cAr g aq 10 vq) ++ ((cAr g aw 24 vw) ++ ((cAr g ac 21 vc) ++ ((cAr g al 24 vl) ++ ((wBR g ad tx is wa44 st hi)))))) : va_W).Perm (((wBR g ad tx is wa44 st hi)) ++ ((cAr g aq 10 vq) ++ ((cAr g aw 24 vw) ++ ((cAr g ac 21 vc) ++ ((cAr g al 24 vl)))))) := pmS [(cAr g aq 10 vq), (cAr g aw 24 vw), (cAr g ac 21 vc), (cAr g al 24 vl), (wBR g ad tx is wa44 st hi)] [0, 1, 2, 3, 4] [4] [0, 1, 2, 3] (by decide)
        have pr : ((((wBR g ad tx is wa47 st hi)) ++ ((cAr g aq 10 vq) ++ ((cAr g aw 24 vw) ++ ((cAr g ac 21 vc) ++ ((cAr g al 24 vl)))))) : va_W).Perm ((cAr g aq 10 vq) ++ ((cAr g aw 24 vw) ++ ((cAr g ac 21 vc) ++ ((cAr g al 24 vl) ++ ((wBR g ad tx is wa47 st hi)))))) := (pmS [(cAr g aq 10 vq), (cAr g aw 24 vw), (cAr g ac 21 vc), (cAr g al 24 vl), (wBR g ad tx is wa47 st hi)] [0, 1, 2, 3, 4] [4] [0, 1, 2, 3] (by decide)).symm
        refine aft_p (st1 := [.int r46]) (ws' := ((cAr g aq 10 vq) ++ ((cAr g aw 24 vw) ++ ((cAr g ac 21 vc) ++ ((cAr g al 24 vl) ++ ((wBR g ad tx is wa47 st hi))))))) rfl pq pr (runW (As := [.ref (ad 0 0), .int p1, .int (8 : Int32)]) (rest := []) ⟨hx, hb, hml, hown, hts⟩ (kL_climber l g ad kr46) (vx_cwSW 3 hts gL_isClimber_L_climber rfl rfl rfl hdL_climber ⟨Nat.le_of_ble_eq_true rfl, Nat.le_of_ble_eq_true rfl⟩) hK hN (hP.perm pq).left (hD.perm pq).left rfl hl.1 rfl (Nat.le_of_ble_eq_true rfl) dL_isClimber_81 ⟨Nat.zero_le _, Nat.zero_le _⟩) hP hD hS hA (fun H locs hP hD hS => ?_)
        refine lv_iconst (v := -1) hx hb dL_isClimber_84 (by decide) ?_
        refine lv_icmp_ne (tgt := 103) hx hb dL_isClimber_85 (by decide) (fun c48 => ?_) (fun c48 => ?_)
        · have h := if_f c48 h
          refine lv_iconst (v := 0) hx hb dL_isClimber_103 (by decide) ?_
          cases some_i h
          exact kx6 _ _ _ hP hD hS (lv_sub hl [] rfl)
        · have h := if_t c48 h
          refine lv_aload_n hx hb dL_isClimber_88 rfl (lv_at hl 0 rfl) ?_
          refine lv_iload_n hx hb dL_isClimber_89 rfl (lv_at hl 1 rfl) ?_
          refine lv_bipush (v := 9) hx hb dL_isClimber_90 (by decide) ?_
          obtain ⟨r49, wa50, kr49, h⟩ := bd2_ex h
          have pq : (((cAr g aq 10 vq) ++ ((cAr g aw 24 vw) ++ ((cAr g ac 21 vc) ++ ((cAr g al 24 vl) ++ ((wBR g ad tx is wa47 st hi)))))) : va_W).Perm (((wBR g ad tx is wa47 st hi)) ++ ((cAr g aq 10 vq) ++ ((cAr g aw 24 vw) ++ ((cAr g ac 21 vc) ++ ((cAr g al 24 vl)))))) := pmS [(cAr g aq 10 vq), (cAr g aw 24 vw), (cAr g ac 21 vc), (cAr g al 24 vl), (wBR g ad tx is wa47 st hi)] [0, 1, 2, 3, 4] [4] [0, 1, 2, 3] (by decide)
          have pr : ((((wBR g ad tx is wa50 st hi)) ++ ((cAr g aq 10 vq) ++ ((cAr g aw 24 vw) ++ ((cAr g ac 21 vc) ++ ((cAr g al 24 vl)))))) : va_W).Perm ((cAr g aq 10 vq) ++ ((cAr g aw 24 vw) ++ ((cAr g ac 21 vc) ++ ((cAr g al 24 vl) ++ ((wBR g ad tx is wa50 st hi)))))) := (pmS [(cAr g aq 10 vq), (cAr g aw 24 vw), (cAr g ac 21 vc), (cAr g al 24 vl), (wBR g ad tx is wa50 st hi)] [0, 1, 2, 3, 4] [4] [0, 1, 2, 3] (by decide)).symm
          refine aft_p (st1 := [.int r49]) (ws' := ((cAr g aq 10 vq) ++ ((cAr g aw 24 vw) ++ ((cAr g ac 21 vc) ++ ((cAr g al 24 vl) ++ ((wBR g ad tx is wa50 st hi))))))) rfl pq pr (runW (As := [.ref (ad 0 0), .int p1, .int (9 : Int32)]) (rest := []) ⟨hx, hb, hml, hown, hts⟩ (kL_climber l g ad kr49) (vx_cwSW 3 hts gL_isClimber_L_climber rfl rfl rfl hdL_climber ⟨Nat.le_of_ble_eq_true rfl, Nat.le_of_ble_eq_true rfl⟩) hK hN (hP.perm pq).left (hD.perm pq).left rfl hl.1 rfl (Nat.le_of_ble_eq_true rfl) dL_isClimber_92 ⟨Nat.zero_le _, Nat.zero_le _⟩) hP hD hS hA (fun H locs hP hD hS => ?_)
          refine lv_iconst (v := -1) hx hb dL_isClimber_95 (by decide) ?_
          refine lv_icmp_ne (tgt := 103) hx hb dL_isClimber_96 (by decide) (fun c51 => ?_) (fun c51 => ?_)
          · have h := if_f c51 h
            refine lv_iconst (v := 0) hx hb dL_isClimber_103 (by decide) ?_
            cases some_i h
            exact kx6 _ _ _ hP hD hS (lv_sub hl [] rfl)
          · have h := if_t c51 h
            refine lv_iconst (v := 1) hx hb dL_isClimber_99 (by decide) ?_
            refine lv_goto (tgt := 104) hx hb dL_isClimber_100 (by decide) ?_
            cases some_i h
            exact kx6 _ _ _ hP hD hS (lv_sub hl [] rfl)
end LM
