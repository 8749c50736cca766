section LM
def fL_isSo_L48 (vq : AI) (vw : AI) (vl : AI) (v9_4 : Int32) : Nat → Int32 → Int32 → Int32 → Option (Int32 × Int32)
  | 0, _, _, _ => none
  | n + 1, v6_12, v10_13, v11_14 =>
    (if v9_4 ≤ v11_14 then
    (some (v6_12, v10_13))
    else
    (ck (inb v9_4 24)
    (ck (inb v11_14 24)
    (bd (fL_linked (vw v9_4.toNatClampNeg) (vw v11_14.toNatClampNeg) (vq (4 : Int32).toNatClampNeg)) fun (r18 : Int32) =>
    (bd (if r18 = (0 : Int32) then
    (some (0 : Int32))
    else
    (some (1 : Int32))) fun (j19 : Int32) =>
    (pl ((v6_12 + j19)) fun (x20 : Int32) =>
    (bd (if v10_13 = (0 : Int32) then
    (some (0 : Int32))
    else
    (bd (fL_ladder vq vl v9_4 v11_14) fun (r24 : Int32) =>
    (if (0 : Int32) ≤ r24 then
    (some (0 : Int32))
    else
    (some (1 : Int32))))) fun (j21 : Int32) =>
    (pl ((v11_14 + (1 : Int32))) fun (x22 : Int32) =>
    (fL_isSo_L48 vq vw vl v9_4 n x20 j21 x22)))))))))
def fL_isSo_L12 (vq : AI) (vw : AI) (vl : AI) : Nat → Int32 → Int32 → Int32 → Int32 → Option (Int32 × Int32 × Int32)
  | 0, _, _, _, _ => none
  | n + 1, v6_1, v7_2, v8_3, v9_4 =>
    (if (vq (0 : Int32).toNatClampNeg) ≤ v9_4 then
    (some (v6_1, v7_2, v8_3))
    else
    (ck (inb v9_4 24)
    (bd (fL_isBarred vq (vw v9_4.toNatClampNeg) (0 : Int32)) fun (r9 : Int32) =>
    (bd (if r9 = (0 : Int32) then
    (some (0 : Int32))
    else
    (some (1 : Int32))) fun (j10 : Int32) =>
    (pl ((v8_3 + j10)) fun (x11 : Int32) =>
    (bd2 (fL_isSo_L48 vq vw vl v9_4 1000 v6_1 (1 : Int32) (0 : Int32)) fun (v6_27 : Int32) (v10_28 : Int32) =>
    (bd (if v10_28 = (0 : Int32) then
    (some (0 : Int32))
    else
    (some (1 : Int32))) fun (j29 : Int32) =>
    (pl ((v7_2 + j29)) fun (x30 : Int32) =>
    (pl ((v9_4 + (1 : Int32))) fun (x31 : Int32) =>
    (fL_isSo_L12 vq vw vl n v6_27 x30 x11 x31))))))))))
def fL_isSo (tx : Tx) (is : Is) (wa : Wa) (st : St) (hi : Hi) (vq : AI) (vw : AI) (vc : AI) (vl : AI) (p1 : Int32) : Option (Int32 × Is × Wa) :=
(bd3 (fL_isSo_L12 vq vw vl 1000 (0 : Int32) (0 : Int32) (0 : Int32) (0 : Int32)) fun (v6_34 : Int32) (v7_35 : Int32) (v8_36 : Int32) =>
(bd (if (0 : Int32) ≤ (vc (0 : Int32).toNatClampNeg) then
(some (1 : Int32))
else
(some (0 : Int32))) fun (j37 : Int32) =>
(bd (if (0 : Int32) ≤ (vc (7 : Int32).toNatClampNeg) then
(some (1 : Int32))
else
(some (0 : Int32))) fun (j38 : Int32) =>
(bd (if (0 : Int32) ≤ (vc (14 : Int32).toNatClampNeg) then
(some (1 : Int32))
else
(some (0 : Int32))) fun (j39 : Int32) =>
(pl (((j37 + j38) + j39)) fun (x40 : Int32) =>
(bd2 (fL_count tx is wa st hi (0 : Int32)) fun (r41 : Int32) (is42 : Is) =>
(bd2 (if r41 = (vq (0 : Int32).toNatClampNeg) then
(bd2 (fL_count tx is42 wa st hi (1 : Int32)) fun (r92 : Int32) (is93 : Is) =>
(if r92 = v6_34 then
(bd2 (fL_count tx is93 wa st hi (2 : Int32)) fun (r95 : Int32) (is96 : Is) =>
(if r95 = v7_35 then
(bd2 (fL_count tx is96 wa st hi (3 : Int32)) fun (r98 : Int32) (is99 : Is) =>
(if r98 = v7_35 then
(bd2 (fL_count tx is99 wa st hi (4 : Int32)) fun (r101 : Int32) (is102 : Is) =>
(if r101 = (vq (1 : Int32).toNatClampNeg) then
(bd2 (fL_count tx is102 wa st hi (5 : Int32)) fun (r104 : Int32) (is105 : Is) =>
(if r104 = (vq (2 : Int32).toNatClampNeg) then
(bd2 (fL_count tx is105 wa st hi (6 : Int32)) fun (r107 : Int32) (is108 : Is) =>
(if r107 = (vq (5 : Int32).toNatClampNeg) then
(bd2 (fL_count tx is108 wa st hi (7 : Int32)) fun (r110 : Int32) (is111 : Is) =>
(if r110 = v8_36 then
(bd2 (fL_count tx is111 wa st hi (8 : Int32)) fun (r113 : Int32) (is114 : Is) =>
(if r113 = x40 then
(bd2 (fL_count tx is114 wa st hi (9 : Int32)) fun (r116 : Int32) (is117 : Is) =>
(if r116 = (vq (7 : Int32).toNatClampNeg) then
(bd2 (fL_count tx is117 wa st hi (10 : Int32)) fun (r119 : Int32) (is120 : Is) =>
(if r119 = (vq (8 : Int32).toNatClampNeg) then
(bd2 (fL_count tx is120 wa st hi (11 : Int32)) fun (r122 : Int32) (is123 : Is) =>
(if r122 = (vq (6 : Int32).toNatClampNeg) then
(bd (fL_setting tx is123 wa st hi (0 : Int32)) fun (r125 : Int32) =>
(if r125 = (vq (3 : Int32).toNatClampNeg) then
(bd (fL_setting tx is123 wa st hi (1 : Int32)) fun (r127 : Int32) =>
(if r127 = (vq (4 : Int32).toNatClampNeg) then
(some ((1 : Int32), is123))
else
(some ((0 : Int32), is123))))
else
(some ((0 : Int32), is123))))
else
(some ((0 : Int32), is123))))
else
(some ((0 : Int32), is120))))
else
(some ((0 : Int32), is117))))
else
(some ((0 : Int32), is114))))
else
(some ((0 : Int32), is111))))
else
(some ((0 : Int32), is108))))
else
(some ((0 : Int32), is105))))
else
(some ((0 : Int32), is102))))
else
(some ((0 : Int32), is99))))
else
(some ((0 : Int32), is96))))
else
(some ((0 : Int32), is93))))
else
(some ((0 : Int32), is42))) fun (j43 : Int32) (is44 : Is) =>
(bd2 (if j43 = (0 : Int32) then
(some ((0 : Int32), wa))
else
(bd (fX5_meanLadder tx is44 wa st hi) fun (r79 : UInt32) =>
(bd (if (vq (7 : Int32).toNatClampNeg) = (0 : Int32) then
(some FP.fconst0)
else
(ck (nnf (FP.fdiv (FP.i2f (vq (9 : Int32).toNatClampNeg)) (FP.i2f (vq (7 : Int32).toNatClampNeg))))
(some (FP.fdiv (FP.i2f (vq (9 : Int32).toNatClampNeg)) (FP.i2f (vq (7 : Int32).toNatClampNeg)))))) fun (j80 : UInt32) =>
(if (Op.cmpValue (FP.fcmp r79 j80) .l) = (0 : Int32) then
(bd (fX5_linkShare tx is44 wa st hi) fun (r82 : UInt64) =>
(bd (if (2 : Int32) ≤ (vq (0 : Int32).toNatClampNeg) then
(ck (nnd (FP.ddiv (FP.i2d v6_34) (FP.i2d (((vq (0 : Int32).toNatClampNeg) * ((vq (0 : Int32).toNatClampNeg) - (1 : Int32))) / (2 : Int32)))))
(some (FP.ddiv (FP.i2d v6_34) (FP.i2d (((vq (0 : Int32).toNatClampNeg) * ((vq (0 : Int32).toNatClampNeg) - (1 : Int32))) / (2 : Int32))))))
else
(some FP.dconst0)) fun (j83 : UInt64) =>
(if (Op.cmpValue (FP.dcmp r82 j83) .l) = (0 : Int32) then
(bd (fL_low p1 (3 : Int32)) fun (r85 : Int32) =>
(bd2 (fL_isClimber tx is44 wa st hi vq vw vc vl r85) fun (r86 : Int32) (wa87 : Wa) =>
(if r86 = (0 : Int32) then
(some ((0 : Int32), wa87))
else
(some ((1 : Int32), wa87)))))
else
(some ((0 : Int32), wa)))))
else
(some ((0 : Int32), wa)))))) fun (j45 : Int32) (wa46 : Wa) =>
(if j45 = (0 : Int32) then
(bd (if j45 = (0 : Int32) then
(some (0 : Int32))
else
(bd (fX5_safest tx is44 wa46 st hi) fun (r50 : Int32) =>
(if r50 = (-1 : Int32) then
(some (1 : Int32))
else
(some (0 : Int32))))) fun (j48 : Int32) =>
(ck (zb j48)
(some (j48, is44, wa46))))
else
(if (vq (0 : Int32).toNatClampNeg) = (0 : Int32) then
(bd (if j45 = (0 : Int32) then
(some (0 : Int32))
else
(bd (fX5_safest tx is44 wa46 st hi) fun (r76 : Int32) =>
(if r76 = (-1 : Int32) then
(some (1 : Int32))
else
(some (0 : Int32))))) fun (j74 : Int32) =>
(ck (zb j74)
(some (j74, is44, wa46))))
else
(bd (fL_low (p1 >>> ((2 : Int32) &&& 31)) (vq (0 : Int32).toNatClampNeg)) fun (r53 : Int32) =>
(bd (fL_low (p1 >>> ((8 : Int32) &&& 31)) (vq (0 : Int32).toNatClampNeg)) fun (r54 : Int32) =>
(bd (fL_low (p1 >>> ((14 : Int32) &&& 31)) (3 : Int32)) fun (r55 : Int32) =>
(bd (fL_isWord tx is44 wa46 st hi vq vw vc vl r53) fun (r56 : Int32) =>
(bd2 (if r56 = (0 : Int32) then
(some ((0 : Int32), wa46))
else
(bd (fL_plain tx is44 wa46 st hi r53 r54) fun (r60 : Int32) =>
(bd (fL_ladder vq vl r53 r54) fun (r61 : Int32) =>
(if r60 = r61 then
(bd (fL_why tx is44 wa46 st hi r55 r53) fun (r63 : Int32) =>
(bd (fL_whyNot vq vw vc r55 r53) fun (r64 : Int32) =>
(if r63 = r64 then
(bd2 (fL_ifPut tx is44 wa46 st hi r53 r54) fun (r66 : Int32) (wa67 : Wa) =>
(bd (if r53 = r54 then
(some (-102 : Int32))
else
(ck (inb r53 24)
(bd (fL_isBarred vq (vw r53.toNatClampNeg) (0 : Int32)) fun (r71 : Int32) =>
(if r71 = (0 : Int32) then
(bd (fL_fewest vq vw vl r53 r54 (0 : Int32)) fun (r73 : Int32) =>
(some r73))
else
(some (-1 : Int32)))))) fun (j68 : Int32) =>
(if r66 = j68 then
(some ((1 : Int32), wa67))
else
(some ((0 : Int32), wa67)))))
else
(some ((0 : Int32), wa46)))))
else
(some ((0 : Int32), wa46)))))) fun (j57 : Int32) (wa58 : Wa) =>
(ck (zb j57)
(some (j57, is44, wa58))))))))))))))))))
abbrev rL_isSo : Room := { frames := 9, cells := 1, slots := 6, locals := 220 }
theorem hdL_isSo : yL_isSo.cls ≠ "java/lang/invoke/MethodHandle" ∧ yL_isSo.cls ≠ "java/lang/invoke/VarHandle" ∧ (parseMethodDescriptor yL_isSo.desc).map (fun d => d.parameters.length) = some 6 := by decide +kernel
set_option maxRecDepth 100000 in
set_option maxHeartbeats 16000000 in
theorem wL_isSo (l : Launch) (hst : l.stackTraces = false) (g : GG) (aq aw ac al : Nat) (ad : Nat → Nat → Nat) {tx : Tx} {is : Is} {wa : Wa} {st : St} {hi : Hi} {vq : AI} {vw : AI} {vc : AI} {vl : AI} {p1 : Int32} {res : Int32} {is' : Is} {wa' : Wa} (h : fL_isSo tx is wa st hi vq vw vc vl p1 = some (res, is', wa')) : CL l g yL_isSo wsL_isSo rL_isSo [.ref (ad 0 0), .int p1, .ref aq, .ref aw, .ref ac, .ref al] ((cAr g aq 10 vq) ++ ((cAr g aw 24 vw) ++ ((cAr g ac 21 vc) ++ ((cAr g al 24 vl) ++ ((wBR g ad tx is wa st hi)))))) (some (.int res)) ((cAr g aq 10 vq) ++ ((cAr g aw 24 vw) ++ ((cAr g ac 21 vc) ++ ((cAr g al 24 vl) ++ ((wBR g ad tx is' wa' st hi)))))) := by
  refine CLc_of (cc := cL_isSo) (maxL := 14) (ret := (some .boolean)) (by decide +kernel) rfl (Nat.le_of_ble_eq_true rfl) ?_
  intro p e su m args below meth c A Q ls hx hb hml hown hts hK hN hA hX hZ hP hD hS hl hend
  unfold fL_isSo at h
  have hl : lv_has ls 14 [(0, .ref (ad 0 0)), (1, .int p1), (2, .ref aq), (3, .ref aw), (4, .ref ac), (5, .ref al)] := hl
  refine lv_iconst (v := 0) hx hb dL_isSo_0 (by decide) ?_
  refine lv_istore (lv' := [(6, .int (0 : Int32)), (0, .ref (ad 0 0)), (1, .int p1), (2, .ref aq), (3, .ref aw), (4, .ref ac), (5, .ref al)]) hx hb dL_isSo_1 hl (by decide) rfl (fun ls hl => ?_)
  refine lv_iconst (v := 0) hx hb dL_isSo_3 (by decide) ?_
  refine lv_istore (lv' := [(7, .int (0 : Int32)), (6, .int (0 : Int32)), (0, .ref (ad 0 0)), (1, .int p1), (2, .ref aq), (3, .ref aw), (4, .ref ac), (5, .ref al)]) hx hb dL_isSo_4 hl (by decide) rfl (fun ls hl => ?_)
  refine lv_iconst (v := 0) hx hb dL_isSo_6 (by decide) ?_
  refine lv_istore (lv' := [(8, .int (0 : Int32)), (7, .int (0 : Int32)), (6, .int (0 : Int32)), (0, .ref (ad 0 0)), (1, .int p1), (2, .ref aq), (3, .ref aw), (4, .ref ac), (5, .ref al)]) hx hb dL_isSo_7 hl (by decide) rfl (fun ls hl => ?_)
  refine lv_iconst (v := 0) hx hb dL_isSo_9 (by decide) ?_
  refine lv_istore (lv' := [(9, .int (0 : Int32)), (8, .int (0 : Int32)), (7, .int (0 : Int32)), (6, .int (0 : Int32)), (0, .ref (ad 0 0)), (1, .int p1), (2, .ref aq), (3, .ref aw), (4, .ref ac), (5, .ref al)]) hx hb dL_isSo_10 hl (by decide) rfl (fun ls hl => ?_)
  have L12 : ∀ (n : Nat) (v6_1 : Int32) (v7_2 : Int32) (v8_3 : Int32) (v9_4 : Int32) (y6_5 : Int32) (y7_6 : Int32) (y8_7 : Int32) (H : Heap) (locs : List Loc) (ls : Array Slot), fL_isSo_L12 vq vw vl n v6_1 v7_2 v8_3 v9_4 = some (y6_5, y7_6, y8_7) → va_P g.1 vwCl ((cAr g aq 10 vq) ++ ((cAr g aw 24 vw) ++ ((cAr g ac 21 vc) ++ ((cAr g al 24 vl) ++ ((wBR g ad tx is wa st hi)))))) H → va_D A ((cAr g aq 10 vq) ++ ((cAr g aw 24 vw) ++ ((cAr g ac 21 vc) ++ ((cAr g al 24 vl) ++ ((wBR g ad tx is wa st hi)))))) → va_S A su.heap H locs → lv_has ls 14 [(0, .ref (ad 0 0)), (1, .int p1), (2, .ref aq), (3, .ref aw), (4, .ref ac), (5, .ref al), (6, .int v6_1), (7, .int v7_2), (8, .int v8_3), (9, .int v9_4)] → (∀ (H : Heap) (locs : List Loc) (ls : Array Slot), va_P g.1 vwCl ((cAr g aq 10 vq) ++ ((cAr g aw 24 vw) ++ ((cAr g ac 21 vc) ++ ((cAr g al 24 vl) ++ ((wBR g ad tx is wa st hi)))))) H → va_D A ((cAr g aq 10 vq) ++ ((cAr g aw 24 vw) ++ ((cAr g ac 21 vc) ++ ((cAr g al 24 vl) ++ ((wBR g ad tx is wa st hi)))))) → va_S A su.heap H locs → lv_has ls 14 [(0, .ref (ad 0 0)), (1, .int p1), (2, .ref aq), (3, .ref aw), (4, .ref ac), (5, .ref al), (6, .int y6_5), (7, .int y7_6), (8, .int y8_7)] → W p l e rL_isSo su m args below meth c H locs 0 0 Q (F0 m 134 ls [])) → W p l e rL_isSo su m args below meth c H locs 0 0 Q (F0 m 12 ls []) := by
    intro n
    induction n with
    | zero => intro v6_1 v7_2 v8_3 v9_4 y6_5 y7_6 y8_7 H locs ls h hP hD hS hl kx; cases h
    | succ n ih =>
      intro v6_1 v7_2 v8_3 v9_4 y6_5 y7_6 y8_7 H locs ls h hP hD hS hl kx
      rw [fL_isSo_L12] at h
      refine lv_iload hx hb dL_isSo_12 (lv_at hl 9 rfl) ?_
      refine lv_aload_n hx hb dL_isSo_14 rfl (lv_at hl 2 rfl) ?_
      refine lv_iconst (v := 0) hx hb dL_isSo_15 (by decide) ?_
      refine va_iald hx hb hK hP 0 0 rfl rfl (inb_in (i := 0) (n := 10) (by decide)) dL_isSo_16 ?_
      refine lv_icmp_ge (tgt := 134) hx hb dL_isSo_17 (by decide) (fun c8 => ?_) (fun c8 => ?_)
      · have h := if_t c8 h
        cases some_i h
        exact kx _ _ _ hP hD hS (lv_sub hl [0, 1, 2, 3, 4, 5, 6, 7, 8] rfl)
      · have h := if_f c8 h
        refine lv_iconst (v := 1) hx hb dL_isSo_20 (by decide) ?_
        refine lv_istore (lv' := [(10, .int (1 : Int32)), (0, .ref (ad 0 0)), (1, .int p1), (2, .ref aq), (3, .ref aw), (4, .ref ac), (5, .ref al), (6, .int v6_1), (7, .int v7_2), (8, .int v8_3), (9, .int v9_4)]) hx hb dL_isSo_21 hl (by decide) rfl (fun ls hl => ?_)
        refine lv_iload hx hb dL_isSo_23 (lv_at hl 9 rfl) ?_
        refine lv_aload_n hx hb dL_isSo_25 rfl (lv_at hl 4 rfl) ?_
        refine lv_iload hx hb dL_isSo_26 (lv_at hl 10 rfl) ?_
        obtain ⟨hi9, h⟩ := ck_ex h
        refine va_iald hx hb hK hP 1 0 rfl rfl (inb_in hi9) dL_isSo_28 ?_
        refine lv_iconst (v := 0) hx hb dL_isSo_29 (by decide) ?_
        refine lv_aload_n hx hb dL_isSo_30 rfl (lv_at hl 3 rfl) ?_
        obtain ⟨r9, kr9, h⟩ := bd_ex h
        have pq : (((cAr g aq 10 vq) ++ ((cAr g aw 24 vw) ++ ((cAr g ac 21 vc) ++ ((cAr g al 24 vl) ++ ((wBR g ad tx is wa st hi)))))) : va_W).Perm (((cAr g aq 10 vq)) ++ ((cAr g aw 24 vw) ++ ((cAr g ac 21 vc) ++ ((cAr g al 24 vl) ++ ((wBR g ad tx is wa st hi)))))) := pmS [(cAr g aq 10 vq), (cAr g aw 24 vw), (cAr g ac 21 vc), (cAr g al 24 vl), (wBR g ad tx is wa st hi)] [0, 1, 2, 3, 4] [0] [1, 2, 3, 4] (by decide)
        have pr : ((((cAr g aq 10 vq)) ++ ((cAr g aw 24 vw) ++ ((cAr g ac 21 vc) ++ ((cAr g al 24 vl) ++ ((wBR g ad tx is wa st hi)))))) : va_W).Perm ((cAr g aq 10 vq) ++ ((cAr g aw 24 vw) ++ ((cAr g ac 21 vc) ++ ((cAr g al 24 vl) ++ ((wBR g ad tx is wa st hi)))))) := (pmS [(cAr g aq 10 vq), (cAr g aw 24 vw), (cAr g ac 21 vc), (cAr g al 24 vl), (wBR g ad tx is wa st hi)] [0, 1, 2, 3, 4] [0] [1, 2, 3, 4] (by decide)).symm
        refine aft_p (st1 := [.int r9, .int v8_3]) (ws' := ((cAr g aq 10 vq) ++ ((cAr g aw 24 vw) ++ ((cAr g ac 21 vc) ++ ((cAr g al 24 vl) ++ ((wBR g ad tx is wa st hi))))))) rfl pq pr (runS (As := [.int (vw v9_4.toNatClampNeg), .int (0 : Int32), .ref aq]) (rest := [.int v8_3]) ⟨hx, hb, hml, hown, hts⟩ (kL_isBarred l g aq kr9) (va_cwS 3 hts gL_isSo_L_isBarred rfl rfl rfl hdL_isBarred ⟨Nat.le_of_ble_eq_true rfl, Nat.le_of_ble_eq_true rfl⟩) hK hN (hP.perm pq).left (hD.perm pq).left rfl hl.1 rfl (Nat.le_of_ble_eq_true rfl) dL_isSo_31 ⟨Nat.le_of_ble_eq_true rfl, Nat.le_of_ble_eq_true rfl⟩) hP hD hS hA (fun H locs hP hD hS => ?_)
        obtain ⟨j10, kj10, h⟩ := bd_ex h
        have kx1 : ∀ (H : Heap) (locs : List Loc) (ls : Array Slot), va_P g.1 vwCl ((cAr g aq 10 vq) ++ ((cAr g aw 24 vw) ++ ((cAr g ac 21 vc) ++ ((cAr g al 24 vl) ++ ((wBR g ad tx is wa st hi)))))) H → va_D A ((cAr g aq 10 vq) ++ ((cAr g aw 24 vw) ++ ((cAr g ac 21 vc) ++ ((cAr g al 24 vl) ++ ((wBR g ad tx is wa st hi)))))) → va_S A su.heap H locs → lv_has ls 14 [(0, .ref (ad 0 0)), (1, .int p1), (2, .ref aq), (3, .ref aw), (4, .ref ac), (5, .ref al), (6, .int v6_1), (7, .int v7_2), (9, .int v9_4), (10, .int (1 : Int32))] → W p l e rL_isSo su m args below meth c H locs 0 0 Q (F0 m 42 ls [.int j10, .int v8_3]) := by
          intro H locs ls hP hD hS hl
          refine lv_iadd hx hb dL_isSo_42 ?_
          obtain ⟨x11, ex11, h⟩ := pl_ex h
          refine lv_eqi ex11 ?_
          refine lv_istore (lv' := [(8, .int x11), (0, .ref (ad 0 0)), (1, .int p1), (2, .ref aq), (3, .ref aw), (4, .ref ac), (5, .ref al), (6, .int v6_1), (7, .int v7_2), (9, .int v9_4), (10, .int (1 : Int32))]) hx hb dL_isSo_43 hl (by decide) rfl (fun ls hl => ?_)
          refine lv_iconst (v := 0) hx hb dL_isSo_45 (by decide) ?_
          refine lv_istore (lv' := [(11, .int (0 : Int32)), (8, .int x11), (0, .ref (ad 0 0)), (1, .int p1), (2, .ref aq), (3, .ref aw), (4, .ref ac), (5, .ref al), (6, .int v6_1), (7, .int v7_2), (9, .int v9_4), (10, .int (1 : Int32))]) hx hb dL_isSo_46 hl (by decide) rfl (fun ls hl => ?_)
          have L48 : ∀ (n : Nat) (v6_12 : Int32) (v10_13 : Int32) (v11_14 : Int32) (y6_15 : Int32) (y10_16 : Int32) (H : Heap) (locs : List Loc) (ls : Array Slot), fL_isSo_L48 vq vw vl v9_4 n v6_12 v10_13 v11_14 = some (y6_15, y10_16) → va_P g.1 vwCl ((cAr g aq 10 vq) ++ ((cAr g aw 24 vw) ++ ((cAr g ac 21 vc) ++ ((cAr g al 24 vl) ++ ((wBR g ad tx is wa st hi)))))) H → va_D A ((cAr g aq 10 vq) ++ ((cAr g aw 24 vw) ++ ((cAr g ac 21 vc) ++ ((cAr g al 24 vl) ++ ((wBR g ad tx is wa st hi)))))) → va_S A su.heap H locs → lv_has ls 14 [(0, .ref (ad 0 0)), (1, .int p1), (2, .ref aq), (3, .ref aw), (4, .ref ac), (5, .ref al), (6, .int v6_12), (7, .int v7_2), (8, .int x11), (9, .int v9_4), (10, .int v10_13), (11, .int v11_14)] → (∀ (H : Heap) (locs : List Loc) (ls : Array Slot), va_P g.1 vwCl ((cAr g aq 10 vq) ++ ((cAr g aw 24 vw) ++ ((cAr g ac 21 vc) ++ ((cAr g al 24 vl) ++ ((wBR g ad tx is wa st hi)))))) H → va_D A ((cAr g aq 10 vq) ++ ((cAr g aw 24 vw) ++ ((cAr g ac 21 vc) ++ ((cAr g al 24 vl) ++ ((wBR g ad tx is wa st hi)))))) → va_S A su.heap H locs → lv_has ls 14 [(0, .ref (ad 0 0)), (1, .int p1), (2, .ref aq), (3, .ref aw), (4, .ref ac), (5, .ref al), (6, .int y6_15), (7, .int v7_2), (8, .int x11), (9, .int v9_4), (10, .int y10_16)] → W p l e rL_isSo su m args below meth c H locs 0 0 Q (F0 m 113 ls [])) → W p l e rL_isSo su m args below meth c H locs 0 0 Q (F0 m 48 ls []) := by
            intro n
            induction n with
            | zero => intro v6_12 v10_13 v11_14 y6_15 y10_16 H locs ls h hP hD hS hl kx; cases h
            | succ n ih =>
              intro v6_12 v10_13 v11_14 y6_15 y10_16 H locs ls h hP hD hS hl kx
              rw [fL_isSo_L48] at h
              refine lv_iload hx hb dL_isSo_48 (lv_at hl 11 rfl) ?_
              refine lv_iload hx hb dL_isSo_50 (lv_at hl 9 rfl) ?_
              refine lv_icmp_ge (tgt := 113) hx hb dL_isSo_52 (by decide) (fun c17 => ?_) (fun c17 => ?_)
              · have h := if_t c17 h
                cases some_i h
                exact kx _ _ _ hP hD hS (lv_sub hl [0, 1, 2, 3, 4, 5, 6, 7, 8, 9, 10] rfl)
              · have h := if_f c17 h
                refine lv_iload hx hb dL_isSo_55 (lv_at hl 6 rfl) ?_
                refine lv_aload_n hx hb dL_isSo_57 rfl (lv_at hl 3 rfl) ?_
                refine lv_iload hx hb dL_isSo_58 (lv_at hl 9 rfl) ?_
                obtain ⟨hi9, h⟩ := ck_ex h
                refine va_iald hx hb hK hP 1 0 rfl rfl (inb_in hi9) dL_isSo_60 ?_
                refine lv_aload_n hx hb dL_isSo_61 rfl (lv_at hl 3 rfl) ?_
                refine lv_iload hx hb dL_isSo_62 (lv_at hl 11 rfl) ?_
                obtain ⟨hi9, h⟩ := ck_ex h
                refine va_iald hx hb hK hP 1 0 rfl rfl (inb_in hi9) dL_isSo_64 ?_
                refine lv_aload_n hx hb dL_isSo_65 rfl (lv_at hl 2 rfl) ?_
                refine lv_iconst (v := 4) hx hb dL_isSo_66 (by decide) ?_
                refine va_iald hx hb hK hP 0 0 rfl rfl (inb_in (i := 4) (n := 10) (by decide)) dL_isSo_67 ?_
                obtain ⟨r18, kr18, h⟩ := bd_ex h
                refine aft_e (st1 := [.int r18, .int v6_12]) rfl (runS (As := [.int (vw v9_4.toNatClampNeg), .int (vw v11_14.toNatClampNeg), .int (vq (4 : Int32).toNatClampNeg)]) (rest := [.int v6_12]) ⟨hx, hb, hml, hown, hts⟩ (kL_linked l g kr18) (va_cwS 3 hts gL_isSo_L_linked rfl rfl rfl hdL_linked ⟨Nat.le_of_ble_eq_true rfl, Nat.le_of_ble_eq_true rfl⟩) hK hN nilP (nilD (A := A)) rfl hl.1 rfl (Nat.le_of_ble_eq_true rfl) dL_isSo_68 ⟨Nat.le_of_ble_eq_true rfl, Nat.le_of_ble_eq_true rfl⟩) hP hS hA (fun H locs hP hS => ?_)
                obtain ⟨j19, kj19, h⟩ := bd_ex h
                have kx2 : ∀ (H : Heap) (locs : List Loc) (ls : Array Slot), va_P g.1 vwCl ((cAr g aq 10 vq) ++ ((cAr g aw 24 vw) ++ ((cAr g ac 21 vc) ++ ((cAr g al 24 vl) ++ ((wBR g ad tx is wa st hi)))))) H → va_D A ((cAr g aq 10 vq) ++ ((cAr g aw 24 vw) ++ ((cAr g ac 21 vc) ++ ((cAr g al 24 vl) ++ ((wBR g ad tx is wa st hi)))))) → va_S A su.heap H locs → lv_has ls 14 [(0, .ref (ad 0 0)), (1, .int p1), (2, .ref aq), (3, .ref aw), (4, .ref ac), (5, .ref al), (7, .int v7_2), (8, .int x11), (9, .int v9_4), (10, .int v10_13), (11, .int v11_14)] → W p l e rL_isSo su m args below meth c H locs 0 0 Q (F0 m 79 ls [.int j19, .int v6_12]) := by
                  intro H locs ls hP hD hS hl
                  refine lv_iadd hx hb dL_isSo_79 ?_
                  obtain ⟨x20, ex20, h⟩ := pl_ex h
                  refine lv_eqi ex20 ?_
                  refine lv_istore (lv' := [(6, .int x20), (0, .ref (ad 0 0)), (1, .int p1), (2, .ref aq), (3, .ref aw), (4, .ref ac), (5, .ref al), (7, .int v7_2), (8, .int x11), (9, .int v9_4), (10, .int v10_13), (11, .int v11_14)]) hx hb dL_isSo_80 hl (by decide) rfl (fun ls hl => ?_)
                  refine lv_iload hx hb dL_isSo_82 (lv_at hl 10 rfl) ?_
                  obtain ⟨j21, kj21, h⟩ := bd_ex h
                  have kx3 : ∀ (H : Heap) (locs : List Loc) (ls : Array Slot), va_P g.1 vwCl ((cAr g aq 10 vq) ++ ((cAr g aw 24 vw) ++ ((cAr g ac 21 vc) ++ ((cAr g al 24 vl) ++ ((wBR g ad tx is wa st hi)))))) H → va_D A ((cAr g aq 10 vq) ++ ((cAr g aw 24 vw) ++ ((cAr g ac 21 vc) ++ ((cAr g al 24 vl) ++ ((wBR g ad tx is wa st hi)))))) → va_S A su.heap H locs → lv_has ls 14 [(0, .ref (ad 0 0)), (1, .int p1), (2, .ref aq), (3, .ref aw), (4, .ref ac), (5, .ref al), (6, .int x20), (7, .int v7_2), (8, .int x11), (9, .int v9_4), (11, .int v11_14)] → W p l e rL_isSo su m args below meth c H locs 0 0 Q (F0 m 105 ls [.int j21]) := by
                    intro H locs ls hP hD hS hl
                    refine lv_istore (lv' := [(10, .int j21), (0, .ref (ad 0 0)), (1, .int p1), (2, .ref aq), (3, .ref aw), (4, .ref ac), (5, .ref al), (6, .int x20), (7, .int v7_2), (8, .int x11), (9, .int v9_4), (11, .int v11_14)]) hx hb dL_isSo_105 hl (by decide) rfl (fun ls hl => ?_)
                    obtain ⟨x22, ex22, h⟩ := pl_ex h
                    refine lv_iinc (v := x22) (lv' := [(11, .int x22), (10, .int j21), (0, .ref (ad 0 0)), (1, .int p1), (2, .ref aq), (3, .ref aw), (4, .ref ac), (5, .ref al), (6, .int x20), (7, .int v7_2), (8, .int x11), (9, .int v9_4)]) hx hb dL_isSo_107 hl (k := 11) rfl (by rw [← ex22]; rfl) (by decide) rfl (fun ls hl => ?_)
                    refine lv_goto (tgt := 48) hx hb dL_isSo_110 (by decide) ?_
                    exact ih x20 j21 x22 _ _ _ _ _ h hP hD hS (lv_sub hl [2, 3, 4, 5, 6, 7, 8, 9, 10, 11, 1, 0] rfl) kx
                  have h := kj21
                  refine lv_if_eq (tgt := 104) hx hb dL_isSo_84 (by decide) (fun c23 => ?_) (fun c23 => ?_)
                  · have h := if_t c23 h
                    refine lv_iconst (v := 0) hx hb dL_isSo_104 (by decide) ?_
                    cases some_i h
                    exact kx3 _ _ _ hP hD hS (lv_sub hl [1, 2, 3, 4, 5, 6, 0, 7, 8, 9, 11] rfl)
                  · have h := if_f c23 h
                    refine lv_iload hx hb dL_isSo_87 (lv_at hl 9 rfl) ?_
                    refine lv_iload hx hb dL_isSo_89 (lv_at hl 11 rfl) ?_
                    refine lv_aload_n hx hb dL_isSo_91 rfl (lv_at hl 3 rfl) ?_
                    refine lv_aload hx hb dL_isSo_92 (lv_at hl 6 rfl) ?_
                    obtain ⟨r24, kr24, h⟩ := bd_ex h
                    have pq : (((cAr g aq 10 vq) ++ ((cAr g aw 24 vw) ++ ((cAr g ac 21 vc) ++ ((cAr g al 24 vl) ++ ((wBR g ad tx is wa st hi)))))) : va_W).Perm (((cAr g aq 10 vq) ++ ((cAr g al 24 vl))) ++ ((cAr g aw 24 vw) ++ ((cAr g ac 21 vc) ++ ((wBR g ad tx is wa st hi))))) := pmS [(cAr g aq 10 vq), (cAr g aw 24 vw), (cAr g ac 21 vc), (cAr g al 24 vl), (wBR g ad tx is wa st hi)] [0, 1, 2, 3, 4] [0, 3] [1, 2, 4] (by decide)
                    have pr : ((((cAr g aq 10 vq) ++ ((cAr g al 24 vl))) ++ ((cAr g aw 24 vw) ++ ((cAr g ac 21 vc) ++ ((wBR g ad tx is wa st hi))))) : va_W).Perm ((cAr g aq 10 vq) ++ ((cAr g aw 24 vw) ++ ((cAr g ac 21 vc) ++ ((cAr g al 24 vl) ++ ((wBR g ad tx is wa st hi)))))) := (pmS [(cAr g aq 10 vq), (cAr g aw 24 vw), (cAr g ac 21 vc), (cAr g al 24 vl), (wBR g ad tx is wa st hi)] [0, 1, 2, 3, 4] [0, 3] [1, 2, 4] (by decide)).symm
                    refine aft_p (st1 := [.int r24]) (ws' := ((cAr g aq 10 vq) ++ ((cAr g aw 24 vw) ++ ((cAr g ac 21 vc) ++ ((cAr g al 24 vl) ++ ((wBR g ad tx is wa st hi))))))) rfl pq pr (runS (As := [.int v9_4, .int v11_14, .ref aq, .ref al]) (rest := []) ⟨hx, hb, hml, hown, hts⟩ (kL_ladder l g aq al kr24) (va_cwS 4 hts gL_isSo_L_ladder rfl rfl rfl hdL_ladder ⟨Nat.le_of_ble_eq_true rfl, Nat.le_of_ble_eq_true rfl⟩) hK hN (hP.perm pq).left (hD.perm pq).left rfl hl.1 rfl (Nat.le_of_ble_eq_true rfl) dL_isSo_94 ⟨Nat.le_of_ble_eq_true rfl, Nat.le_of_ble_eq_true rfl⟩) hP hD hS hA (fun H locs hP hD hS => ?_)
                    refine lv_if_ge (tgt := 104) hx hb dL_isSo_97 (by decide) (fun c25 => ?_) (fun c25 => ?_)
                    · have h := if_t c25 h
                      refine lv_iconst (v := 0) hx hb dL_isSo_104 (by decide) ?_
                      cases some_i h
                      exact kx3 _ _ _ hP hD hS (lv_sub hl [1, 2, 3, 4, 5, 6, 0, 7, 8, 9, 11] rfl)
                    · have h := if_f c25 h
                      refine lv_iconst (v := 1) hx hb dL_isSo_100 (by decide) ?_
                      refine lv_goto (tgt := 105) hx hb dL_isSo_101 (by decide) ?_
                      cases some_i h
                      exact kx3 _ _ _ hP hD hS (lv_sub hl [1, 2, 3, 4, 5, 6, 0, 7, 8, 9, 11] rfl)
                have h := kj19
                refine lv_if_eq (tgt := 78) hx hb dL_isSo_71 (by decide) (fun c26 => ?_) (fun c26 => ?_)
                · have h := if_t c26 h
                  refine lv_iconst (v := 0) hx hb dL_isSo_78 (by decide) ?_
                  cases some_i h
                  exact kx2 _ _ _ hP hD hS (lv_sub hl [0, 1, 2, 3, 4, 5, 7, 8, 9, 10, 11] rfl)
                · have h := if_f c26 h
                  refine lv_iconst (v := 1) hx hb dL_isSo_74 (by decide) ?_
                  refine lv_goto (tgt := 79) hx hb dL_isSo_75 (by decide) ?_
                  cases some_i h
                  exact kx2 _ _ _ hP hD hS (lv_sub hl [0, 1, 2, 3, 4, 5, 7, 8, 9, 10, 11] rfl)
          obtain ⟨v6_27, v10_28, kv6_27, h⟩ := bd2_ex h
          refine L48 1000 v6_1 (1 : Int32) (0 : Int32) v6_27 v10_28 _ _ _ kv6_27 hP hD hS (lv_sub hl [2, 3, 4, 5, 6, 7, 8, 9, 1, 10, 11, 0] rfl) (fun H locs ls hP hD hS hl => ?_)
          refine lv_iload hx hb dL_isSo_113 (lv_at hl 7 rfl) ?_
          refine lv_iload hx hb dL_isSo_115 (lv_at hl 10 rfl) ?_
          obtain ⟨j29, kj29, h⟩ := bd_ex h
          have kx4 : ∀ (H : Heap) (locs : List Loc) (ls : Array Slot), va_P g.1 vwCl ((cAr g aq 10 vq) ++ ((cAr g aw 24 vw) ++ ((cAr g ac 21 vc) ++ ((cAr g al 24 vl) ++ ((wBR g ad tx is wa st hi)))))) H → va_D A ((cAr g aq 10 vq) ++ ((cAr g aw 24 vw) ++ ((cAr g ac 21 vc) ++ ((cAr g al 24 vl) ++ ((wBR g ad tx is wa st hi)))))) → va_S A su.heap H locs → lv_has ls 14 [(0, .ref (ad 0 0)), (1, .int p1), (2, .ref aq), (3, .ref aw), (4, .ref ac), (5, .ref al), (6, .int v6_27), (8, .int x11), (9, .int v9_4)] → W p l e rL_isSo su m args below meth c H locs 0 0 Q (F0 m 125 ls [.int j29, .int v7_2]) := by
            intro H locs ls hP hD hS hl
            refine lv_iadd hx hb dL_isSo_125 ?_
            obtain ⟨x30, ex30, h⟩ := pl_ex h
            refine lv_eqi ex30 ?_
            refine lv_istore (lv' := [(7, .int x30), (0, .ref (ad 0 0)), (1, .int p1), (2, .ref aq), (3, .ref aw), (4, .ref ac), (5, .ref al), (6, .int v6_27), (8, .int x11), (9, .int v9_4)]) hx hb dL_isSo_126 hl (by decide) rfl (fun ls hl => ?_)
            obtain ⟨x31, ex31, h⟩ := pl_ex h
            refine lv_iinc (v := x31) (lv' := [(9, .int x31), (7, .int x30), (0, .ref (ad 0 0)), (1, .int p1), (2, .ref aq), (3, .ref aw), (4, .ref ac), (5, .ref al), (6, .int v6_27), (8, .int x11)]) hx hb dL_isSo_128 hl (k := 9) rfl (by rw [← ex31]; rfl) (by decide) rfl (fun ls hl => ?_)
            refine lv_goto (tgt := 12) hx hb dL_isSo_131 (by decide) ?_
            exact ih v6_27 x30 x11 x31 _ _ _ _ _ _ h hP hD hS (lv_sub hl [2, 3, 4, 5, 6, 7, 8, 1, 9, 0] rfl) kx
          have h := kj29
          refine lv_if_eq (tgt := 124) hx hb dL_isSo_117 (by decide) (fun c32 => ?_) (fun c32 => ?_)
          · have h := if_t c32 h
            refine lv_iconst (v := 0) hx hb dL_isSo_124 (by decide) ?_
            cases some_i h
            exact kx4 _ _ _ hP hD hS (lv_sub hl [0, 1, 2, 3, 4, 5, 6, 8, 9] rfl)
          · have h := if_f c32 h
            refine lv_iconst (v := 1) hx hb dL_isSo_120 (by decide) ?_
            refine lv_goto (tgt := 125) hx hb dL_isSo_121 (by decide) ?_
            cases some_i h
            exact kx4 _ _ _ hP hD hS (lv_sub hl [0, 1, 2, 3, 4, 5, 6, 8, 9] rfl)
        have h := kj10
        refine lv_if_eq (tgt := 41) hx hb dL_isSo_34 (by decide) (fun c33 => ?_) (fun c33 => ?_)
        · have h := if_t c33 h
          refine lv_iconst (v := 0) hx hb dL_isSo_41 (by decide) ?_
          cases some_i h
          exact kx1 _ _ _ hP hD hS (lv_sub hl [1, 2, 3, 4, 5, 6, 7, 8, 10, 0] rfl)
        · have h := if_f c33 h
          refine lv_iconst (v := 1) hx hb dL_isSo_37 (by decide) ?_
          refine lv_goto (tgt := 42) hx hb dL_isSo_38 (by decide) ?_
          cases some_i h
          exact kx1 _ _ _ hP hD hS (lv_sub hl [1, 2, 3, 4, 5, 6, 7, 8, 10, 0] rfl)
  obtain ⟨v6_34, v7_35, v8_36, kv6_34, h⟩ := bd3_ex h
  refine L12 1000 (0 : Int32) (0 : Int32) (0 : Int32) (0 : Int32) v6_34 v7_35 v8_36 _ _ _ kv6_34 hP hD hS (lv_sub hl [4, 5, 6, 7, 8, 9, 3, 2, 1, 0] rfl) (fun H locs ls hP hD hS hl => ?_)
  refine lv_aload hx hb dL_isSo_134 (lv_at hl 4 rfl) ?_
  refine lv_iconst (v := 0) hx hb dL_isSo_136 (by decide) ?_
  refine va_iald hx hb hK hP 2 0 rfl rfl (inb_in (i := 0) (n := 21) (by decide)) dL_isSo_137 ?_
  obtain ⟨j37, kj37, h⟩ := bd_ex h
  have kx5 : ∀ (H : Heap) (locs : List Loc) (ls : Array Slot), va_P g.1 vwCl ((cAr g aq 10 vq) ++ ((cAr g aw 24 vw) ++ ((cAr g ac 21 vc) ++ ((cAr g al 24 vl) ++ ((wBR g ad tx is wa st hi)))))) H → va_D A ((cAr g aq 10 vq) ++ ((cAr g aw 24 vw) ++ ((cAr g ac 21 vc) ++ ((cAr g al 24 vl) ++ ((wBR g ad tx is wa st hi)))))) → va_S A su.heap H locs → lv_has ls 14 [(0, .ref (ad 0 0)), (1, .int p1), (2, .ref aq), (3, .ref aw), (4, .ref ac), (5, .ref al), (6, .int v6_34), (7, .int v7_35), (8, .int v8_36)] → W p l e rL_isSo su m args below meth c H locs 0 0 Q (F0 m 146 ls [.int j37]) := by
    intro H locs ls hP hD hS hl
    refine lv_aload hx hb dL_isSo_146 (lv_at hl 4 rfl) ?_
    refine lv_bipush (v := 7) hx hb dL_isSo_148 (by decide) ?_
    refine va_iald hx hb hK hP 2 0 rfl rfl (inb_in (i := 7) (n := 21) (by decide)) dL_isSo_150 ?_
    obtain ⟨j38, kj38, h⟩ := bd_ex h
    have kx6 : ∀ (H : Heap) (locs : List Loc) (ls : Array Slot), va_P g.1 vwCl ((cAr g aq 10 vq) ++ ((cAr g aw 24 vw) ++ ((cAr g ac 21 vc) ++ ((cAr g al 24 vl) ++ ((wBR g ad tx is wa st hi)))))) H → va_D A ((cAr g aq 10 vq) ++ ((cAr g aw 24 vw) ++ ((cAr g ac 21 vc) ++ ((cAr g al 24 vl) ++ ((wBR g ad tx is wa st hi)))))) → va_S A su.heap H locs → lv_has ls 14 [(0, .ref (ad 0 0)), (1, .int p1), (2, .ref aq), (3, .ref aw), (4, .ref ac), (5, .ref al), (6, .int v6_34), (7, .int v7_35), (8, .int v8_36)] → W p l e rL_isSo su m args below meth c H locs 0 0 Q (F0 m 159 ls [.int j38, .int j37]) := by
      intro H locs ls hP hD hS hl
      refine lv_iadd hx hb dL_isSo_159 ?_
      refine lv_aload hx hb dL_isSo_160 (lv_at hl 4 rfl) ?_
      refine lv_bipush (v := 14) hx hb dL_isSo_162 (by decide) ?_
      refine va_iald hx hb hK hP 2 0 rfl rfl (inb_in (i := 14) (n := 21) (by decide)) dL_isSo_164 ?_
      obtain ⟨j39, kj39, h⟩ := bd_ex h
      have kx7 : ∀ (H : Heap) (locs : List Loc) (ls : Array Slot), va_P g.1 vwCl ((cAr g aq 10 vq) ++ ((cAr g aw 24 vw) ++ ((cAr g ac 21 vc) ++ ((cAr g al 24 vl) ++ ((wBR g ad tx is wa st hi)))))) H → va_D A ((cAr g aq 10 vq) ++ ((cAr g aw 24 vw) ++ ((cAr g ac 21 vc) ++ ((cAr g al 24 vl) ++ ((wBR g ad tx is wa st hi)))))) → va_S A su.heap H locs → lv_has ls 14 [(0, .ref (ad 0 0)), (1, .int p1), (2, .ref aq), (3, .ref aw), (4, .ref ac), (5, .ref al), (6, .int v6_34), (7, .int v7_35), (8, .int v8_36)] → W p l e rL_isSo su m args below meth c H locs 0 0 Q (F0 m 173 ls [.int j39, .int (j37 + j38)]) := by
        intro H locs ls hP hD hS hl
        refine lv_iadd hx hb dL_isSo_173 ?_
        obtain ⟨x40, ex40, h⟩ := pl_ex h
        refine lv_eqi ex40 ?_
        refine lv_istore (lv' := [(9, .int x40), (0, .ref (ad 0 0)), (1, .int p1), (2, .ref aq), (3, .ref aw), (4, .ref ac), (5, .ref al), (6, .int v6_34), (7, .int v7_35), (8, .int v8_36)]) hx hb dL_isSo_174 hl (by decide) rfl (fun ls hl => ?_)
        refine lv_aload_n hx hb dL_isSo_176 rfl (lv_at hl 1 rfl) ?_
        refine lv_iconst (v := 0) hx hb dL_isSo_177 (by decide) ?_
        obtain ⟨r41, is42, kr41, h⟩ := bd2_ex h
        have pq : (((cAr g aq 10 vq) ++ ((cAr g aw 24 vw) ++ ((cAr g ac 21 vc) ++ ((cAr g al 24 vl) ++ ((wBR g ad tx is wa st hi)))))) : va_W).Perm (((wBR g ad tx is wa st hi)) ++ ((cAr g aq 10 vq) ++ ((cAr g aw 24 vw) ++ ((cAr g ac 21 vc) ++ ((cAr g al 24 vl)))))) := pmS [(cAr g aq 10 vq), (cAr g aw 24 vw), (cAr g ac 21 vc), (cAr g al 24 vl), (wBR g ad tx is wa st hi)] [0, 1, 2, 3, 4] [4] [0, 1, 2, 3] (by decide)
        have pr : ((((wBR g ad tx is42 wa st hi)) ++ ((cAr g aq 10 vq) ++ ((cAr g aw 24 vw) ++ ((cAr g ac 21 vc) ++ ((cAr g al 24 vl)))))) : va_W).Perm ((cAr g aq 10 vq) ++ ((cAr g aw 24 vw) ++ ((cAr g ac 21 vc) ++ ((cAr g al 24 vl) ++ ((wBR g ad tx is42 wa st hi)))))) := (pmS [(cAr g aq 10 vq), (cAr g aw 24 vw), (cAr g ac 21 vc), (cAr g al 24 vl), (wBR g ad tx is42 wa st hi)] [0, 1, 2, 3, 4] [4] [0, 1, 2, 3] (by decide)).symm
        refine aft_p (st1 := [.int r41]) (ws' := ((cAr g aq 10 vq) ++ ((cAr g aw 24 vw) ++ ((cAr g ac 21 vc) ++ ((cAr g al 24 vl) ++ ((wBR g ad tx is42 wa st hi))))))) rfl pq pr (runW (As := [.ref (ad 0 0), .int (0 : Int32)]) (rest := []) ⟨hx, hb, hml, hown, hts⟩ (kL_count l g ad kr41) (vx_cwSW 2 hts gL_isSo_L_count rfl rfl rfl hdL_count ⟨Nat.le_of_ble_eq_true rfl, Nat.le_of_ble_eq_true rfl⟩) hK hN (hP.perm pq).left (hD.perm pq).left rfl hl.1 rfl (Nat.le_of_ble_eq_true rfl) dL_isSo_178 ⟨Nat.le_of_ble_eq_true rfl, Nat.le_of_ble_eq_true rfl⟩) hP hD hS hA (fun H locs hP hD hS => ?_)
        refine lv_aload_n hx hb dL_isSo_181 rfl (lv_at hl 3 rfl) ?_
        refine lv_iconst (v := 0) hx hb dL_isSo_182 (by decide) ?_
        refine va_iald hx hb hK hP 0 0 rfl rfl (inb_in (i := 0) (n := 10) (by decide)) dL_isSo_183 ?_
        obtain ⟨j43, is44, kj43, h⟩ := bd2_ex h
        have kx8 : ∀ (H : Heap) (locs : List Loc) (ls : Array Slot), va_P g.1 vwCl ((cAr g aq 10 vq) ++ ((cAr g aw 24 vw) ++ ((cAr g ac 21 vc) ++ ((cAr g al 24 vl) ++ ((wBR g ad tx is44 wa st hi)))))) H → va_D A ((cAr g aq 10 vq) ++ ((cAr g aw 24 vw) ++ ((cAr g ac 21 vc) ++ ((cAr g al 24 vl) ++ ((wBR g ad tx is44 wa st hi)))))) → va_S A su.heap H locs → lv_has ls 14 [(0, .ref (ad 0 0)), (1, .int p1), (2, .ref aq), (3, .ref aw), (4, .ref ac), (5, .ref al), (6, .int v6_34)] → W p l e rL_isSo su m args below meth c H locs 0 0 Q (F0 m 339 ls [.int j43]) := by
          intro H locs ls hP hD hS hl
          refine lv_istore (lv' := [(10, .int j43), (0, .ref (ad 0 0)), (1, .int p1), (2, .ref aq), (3, .ref aw), (4, .ref ac), (5, .ref al), (6, .int v6_34)]) hx hb dL_isSo_339 hl (by decide) rfl (fun ls hl => ?_)
          refine lv_iload hx hb dL_isSo_341 (lv_at hl 0 rfl) ?_
          obtain ⟨j45, wa46, kj45, h⟩ := bd2_ex h
          have kx9 : ∀ (H : Heap) (locs : List Loc) (ls : Array Slot), va_P g.1 vwCl ((cAr g aq 10 vq) ++ ((cAr g aw 24 vw) ++ ((cAr g ac 21 vc) ++ ((cAr g al 24 vl) ++ ((wBR g ad tx is44 wa46 st hi)))))) H → va_D A ((cAr g aq 10 vq) ++ ((cAr g aw 24 vw) ++ ((cAr g ac 21 vc) ++ ((cAr g al 24 vl) ++ ((wBR g ad tx is44 wa46 st hi)))))) → va_S A su.heap H locs → lv_has ls 14 [(0, .ref (ad 0 0)), (1, .int p1), (2, .ref aq), (3, .ref aw), (4, .ref ac), (5, .ref al)] → W p l e rL_isSo su m args below meth c H locs 0 0 Q (F0 m 434 ls [.int j45]) := by
            intro H locs ls hP hD hS hl
            refine lv_istore (lv' := [(10, .int j45), (0, .ref (ad 0 0)), (1, .int p1), (2, .ref aq), (3, .ref aw), (4, .ref ac), (5, .ref al)]) hx hb dL_isSo_434 hl (by decide) rfl (fun ls hl => ?_)
            refine lv_iload hx hb dL_isSo_436 (lv_at hl 0 rfl) ?_
            refine lv_if_eq (tgt := 447) hx hb dL_isSo_438 (by decide) (fun c47 => ?_) (fun c47 => ?_)
            · have h := if_t c47 h
              refine lv_iload hx hb dL_isSo_447 (lv_at hl 0 rfl) ?_
              obtain ⟨j48, kj48, h⟩ := bd_ex h
              have kx10 : ∀ (H : Heap) (locs : List Loc) (ls : Array Slot), va_P g.1 vwCl ((cAr g aq 10 vq) ++ ((cAr g aw 24 vw) ++ ((cAr g ac 21 vc) ++ ((cAr g al 24 vl) ++ ((wBR g ad tx is44 wa46 st hi)))))) H → va_D A ((cAr g aq 10 vq) ++ ((cAr g aw 24 vw) ++ ((cAr g ac 21 vc) ++ ((cAr g al 24 vl) ++ ((wBR g ad tx is44 wa46 st hi)))))) → va_S A su.heap H locs → lv_has ls 14 [] → W p l e rL_isSo su m args below meth c H locs 0 0 Q (F0 m 465 ls [.int j48]) := by
                intro H locs ls hP hD hS hl
                obtain ⟨hz9, h⟩ := ck_ex h
                refine W.widen (k := (0 + 1)) (n := (0 + 6)) (Nat.le_of_ble_eq_true rfl) (Nat.le_of_ble_eq_true rfl) ?_
                cases some_i h
                exact hend _ _ _ _ _ hP hD hS (RetOK.z dL_isSo_465 (of_decide_eq_true hz9))
              have h := kj48
              refine lv_if_eq (tgt := 464) hx hb dL_isSo_449 (by decide) (fun c49 => ?_) (fun c49 => ?_)
              · have h := if_t c49 h
                refine lv_iconst (v := 0) hx hb dL_isSo_464 (by decide) ?_
                cases some_i h
                exact kx10 _ _ _ hP hD hS (lv_sub hl [] rfl)
              · have h := if_f c49 h
                refine lv_aload_n hx hb dL_isSo_452 rfl (lv_at hl 1 rfl) ?_
                obtain ⟨r50, kr50, h⟩ := bd_ex h
                have pq : (((cAr g aq 10 vq) ++ ((cAr g aw 24 vw) ++ ((cAr g ac 21 vc) ++ ((cAr g al 24 vl) ++ ((wBR g ad tx is44 wa46 st hi)))))) : va_W).Perm (((wBR g ad tx is44 wa46 st hi)) ++ ((cAr g aq 10 vq) ++ ((cAr g aw 24 vw) ++ ((cAr g ac 21 vc) ++ ((cAr g al 24 vl)))))) := pmS [(cAr g aq 10 vq), (cAr g aw 24 vw), (cAr g ac 21 vc), (cAr g al 24 vl), (wBR g ad tx is44 wa46 st hi)] [0, 1, 2, 3, 4] [4] [0, 1, 2, 3] (by decide)
                have pr : ((((wBR g ad tx is44 wa46 st hi)) ++ ((cAr g aq 10 vq) ++ ((cAr g aw 24 vw) ++ ((cAr g ac 21 vc) ++ ((cAr g al 24 vl)))))) : va_W).Perm ((cAr g aq 10 vq) ++ ((cAr g aw 24 vw) ++ ((cAr g ac 21 vc) ++ ((cAr g al 24 vl) ++ ((wBR g ad tx is44 wa46 st hi)))))) := (pmS [(cAr g aq 10 vq), (cAr g aw 24 vw), (cAr g ac 21 vc), (cAr g al 24 vl), (wBR g ad tx is44 wa46 st hi)] [0, 1, 2, 3, 4] [4] [0, 1, 2, 3] (by decide)).symm
                refine aft_p (st1 := [.int r50]) (ws' := ((cAr g aq 10 vq) ++ ((cAr g aw 24 vw) ++ ((cAr g ac 21 vc) ++ ((cAr g al 24 vl) ++ ((wBR g ad tx is44 wa46 st hi))))))) rfl pq pr (runV (As := []) (rest := []) ⟨hx, hb, hml, hown, hts⟩ (kX5_safest l g ad kr50) (cwV 0 hts gL_isSo_X5_safest rfl rfl rfl hdX5_safest ⟨Nat.le_of_ble_eq_true rfl, Nat.le_of_ble_eq_true rfl⟩) hK hN (hP.perm pq).left (hD.perm pq).left (va_recv hK (hP.perm pq).left (ci := 5) (q0 := 0) rfl rfl) rfl hl.1 rfl (Nat.le_of_ble_eq_true rfl) dL_isSo_453 ⟨Nat.le_of_ble_eq_true rfl, Nat.le_of_ble_eq_true rfl⟩) hP hD hS hA (fun H locs hP hD hS => ?_)
                refine lv_iconst (v := -1) hx hb dL_isSo_456 (by decide) ?_
                refine lv_icmp_ne (tgt := 464) hx hb dL_isSo_457 (by decide) (fun c51 => ?_) (fun c51 => ?_)
                · have h := if_f c51 h
                  refine lv_iconst (v := 0) hx hb dL_isSo_464 (by decide) ?_
                  cases some_i h
                  exact kx10 _ _ _ hP hD hS (lv_sub hl [] rfl)
                · have h := if_t c51 h
                  refine lv_iconst (v := 1) hx hb dL_isSo_460 (by decide) ?_
                  refine lv_goto (tgt := 465) hx hb dL_isSo_461 (by decide) ?_
                  cases some_i h
                  exact kx10 _ _ _ hP hD hS (lv_sub hl [] rfl)
            · have h := if_f c47 h
              refine lv_aload_n hx hb dL_isSo_441 rfl (lv_at hl 3 rfl) ?_
              refine lv_iconst (v := 0) hx hb dL_isSo_442 (by decide) ?_
              refine va_iald hx hb hK hP 0 0 rfl rfl (inb_in (i := 0) (n := 10) (by decide)) dL_isSo_443 ?_
              refine lv_if_ne (tgt := 466) hx hb dL_isSo_444 (by decide) (fun c52 => ?_) (fun c52 => ?_)
              · have h := if_f c52 h
                refine lv_iload_n hx hb dL_isSo_466 rfl (lv_at hl 2 rfl) ?_
                refine lv_iconst (v := 2) hx hb dL_isSo_467 (by decide) ?_
                refine lv_ishr hx hb dL_isSo_468 ?_
                refine lv_aload_n hx hb dL_isSo_469 rfl (lv_at hl 3 rfl) ?_
                refine lv_iconst (v := 0) hx hb dL_isSo_470 (by decide) ?_
                refine va_iald hx hb hK hP 0 0 rfl rfl (inb_in (i := 0) (n := 10) (by decide)) dL_isSo_471 ?_
                obtain ⟨r53, kr53, h⟩ := bd_ex h
                refine aft_e (st1 := [.int r53]) rfl (runS (As := [.int (p1 >>> ((2 : Int32) &&& 31)), .int (vq (0 : Int32).toNatClampNeg)]) (rest := []) ⟨hx, hb, hml, hown, hts⟩ (kL_low l g kr53) (va_cwS 2 hts gL_isSo_L_low rfl rfl rfl hdL_low ⟨Nat.le_of_ble_eq_true rfl, Nat.le_of_ble_eq_true rfl⟩) hK hN nilP (nilD (A := A)) rfl hl.1 rfl (Nat.le_of_ble_eq_true rfl) dL_isSo_472 ⟨Nat.le_of_ble_eq_true rfl, Nat.le_of_ble_eq_true rfl⟩) hP hS hA (fun H locs hP hS => ?_)
                refine lv_istore (lv' := [(11, .int r53), (10, .int j45), (0, .ref (ad 0 0)), (1, .int p1), (2, .ref aq), (3, .ref aw), (4, .ref ac), (5, .ref al)]) hx hb dL_isSo_475 hl (by decide) rfl (fun ls hl => ?_)
                refine lv_iload_n hx hb dL_isSo_477 rfl (lv_at hl 3 rfl) ?_
                refine lv_bipush (v := 8) hx hb dL_isSo_478 (by decide) ?_
                refine lv_ishr hx hb dL_isSo_480 ?_
                refine lv_aload_n hx hb dL_isSo_481 rfl (lv_at hl 4 rfl) ?_
                refine lv_iconst (v := 0) hx hb dL_isSo_482 (by decide) ?_
                refine va_iald hx hb hK hP 0 0 rfl rfl (inb_in (i := 0) (n := 10) (by decide)) dL_isSo_483 ?_
                obtain ⟨r54, kr54, h⟩ := bd_ex h
                refine aft_e (st1 := [.int r54]) rfl (runS (As := [.int (p1 >>> ((8 : Int32) &&& 31)), .int (vq (0 : Int32).toNatClampNeg)]) (rest := []) ⟨hx, hb, hml, hown, hts⟩ (kL_low l g kr54) (va_cwS 2 hts gL_isSo_L_low rfl rfl rfl hdL_low ⟨Nat.le_of_ble_eq_true rfl, Nat.le_of_ble_eq_true rfl⟩) hK hN nilP (nilD (A := A)) rfl hl.1 rfl (Nat.le_of_ble_eq_true rfl) dL_isSo_484 ⟨Nat.le_of_ble_eq_true rfl, Nat.le_of_ble_eq_true rfl⟩) hP hS hA (fun H locs hP hS => ?_)
                refine lv_istore (lv' := [(12, .int r54), (11, .int r53), (10, .int j45), (0, .ref (ad 0 0)), (1, .int p1), (2, .ref aq), (3, .ref aw), (4, .ref ac), (5, .ref al)]) hx hb dL_isSo_487 hl (by decide) rfl (fun ls hl => ?_)
                refine lv_iload_n hx hb dL_isSo_489 rfl (lv_at hl 4 rfl) ?_
                refine lv_bipush (v := 14) hx hb dL_isSo_490 (by decide) ?_
                refine lv_ishr hx hb dL_isSo_492 ?_
                refine lv_iconst (v := 3) hx hb dL_isSo_493 (by decide) ?_
                obtain ⟨r55, kr55, h⟩ := bd_ex h
                refine aft_e (st1 := [.int r55]) rfl (runS (As := [.int (p1 >>> ((14 : Int32) &&& 31)), .int (3 : Int32)]) (rest := []) ⟨hx, hb, hml, hown, hts⟩ (kL_low l g kr55) (va_cwS 2 hts gL_isSo_L_low rfl rfl rfl hdL_low ⟨Nat.le_of_ble_eq_true rfl, Nat.le_of_ble_eq_true rfl⟩) hK hN nilP (nilD (A := A)) rfl hl.1 rfl (Nat.le_of_ble_eq_true rfl) dL_isSo_494 ⟨Nat.le_of_ble_eq_true rfl, Nat.le_of_ble_eq_true rfl⟩) hP hS hA (fun H locs hP hS => ?_)
                refine lv_istore (lv' := [(13, .int r55), (12, .int r54), (11, .int r53), (10, .int j45), (0, .ref (ad 0 0)), (1, .int p1), (2, .ref aq), (3, .ref aw), (4, .ref ac), (5, .ref al)]) hx hb dL_isSo_497 hl (by decide) rfl (fun ls hl => ?_)
                refine lv_aload_n hx hb dL_isSo_499 rfl (lv_at hl 4 rfl) ?_
                refine lv_iload hx hb dL_isSo_500 (lv_at hl 2 rfl) ?_
                refine lv_aload_n hx hb dL_isSo_502 rfl (lv_at hl 6 rfl) ?_
                refine lv_aload_n hx hb dL_isSo_503 rfl (lv_at hl 7 rfl) ?_
                refine lv_aload hx hb dL_isSo_504 (lv_at hl 8 rfl) ?_
                refine lv_aload hx hb dL_isSo_506 (lv_at hl 9 rfl) ?_
                obtain ⟨r56, kr56, h⟩ := bd_ex h
                refine aft_w (st1 := [.int r56]) rfl (runS (As := [.ref (ad 0 0), .int r53, .ref aq, .ref aw, .ref ac, .ref al]) (rest := []) ⟨hx, hb, hml, hown, hts⟩ (kL_isWord l g aq aw ac al ad kr56) (va_cwS 6 hts gL_isSo_L_isWord rfl rfl rfl hdL_isWord ⟨Nat.le_of_ble_eq_true rfl, Nat.le_of_ble_eq_true rfl⟩) hK hN hP hD rfl hl.1 rfl (Nat.le_of_ble_eq_true rfl) dL_isSo_508 ⟨Nat.le_of_ble_eq_true rfl, Nat.le_of_ble_eq_true rfl⟩) hD hS hA (fun H locs hP hD hS => ?_)
                obtain ⟨j57, wa58, kj57, h⟩ := bd2_ex h
                have kx11 : ∀ (H : Heap) (locs : List Loc) (ls : Array Slot), va_P g.1 vwCl ((cAr g aq 10 vq) ++ ((cAr g aw 24 vw) ++ ((cAr g ac 21 vc) ++ ((cAr g al 24 vl) ++ ((wBR g ad tx is44 wa58 st hi)))))) H → va_D A ((cAr g aq 10 vq) ++ ((cAr g aw 24 vw) ++ ((cAr g ac 21 vc) ++ ((cAr g al 24 vl) ++ ((wBR g ad tx is44 wa58 st hi)))))) → va_S A su.heap H locs → lv_has ls 14 [] → W p l e rL_isSo su m args below meth c H locs (0 + 1) (0 + 6) Q (F0 m 613 ls [.int j57]) := by
                  intro H locs ls hP hD hS hl
                  obtain ⟨hz9, h⟩ := ck_ex h
                  cases some_i h
                  exact hend _ _ _ _ _ hP hD hS (RetOK.z dL_isSo_613 (of_decide_eq_true hz9))
                have h := kj57
                refine lv_if_eq (tgt := 612) hx hb dL_isSo_511 (by decide) (fun c59 => ?_) (fun c59 => ?_)
                · have h := if_t c59 h
                  refine lv_iconst (v := 0) hx hb dL_isSo_612 (by decide) ?_
                  refine W.widen (k := (0 + 1)) (n := (0 + 6)) (Nat.le_of_ble_eq_true rfl) (Nat.le_of_ble_eq_true rfl) ?_
                  cases some_i h
                  exact kx11 _ _ _ hP hD hS (lv_sub hl [] rfl)
                · have h := if_f c59 h
                  refine lv_aload_n hx hb dL_isSo_514 rfl (lv_at hl 4 rfl) ?_
                  refine lv_iload hx hb dL_isSo_515 (lv_at hl 2 rfl) ?_
                  refine lv_iload hx hb dL_isSo_517 (lv_at hl 1 rfl) ?_
                  obtain ⟨r60, kr60, h⟩ := bd_ex h
                  have pq : (((cAr g aq 10 vq) ++ ((cAr g aw 24 vw) ++ ((cAr g ac 21 vc) ++ ((cAr g al 24 vl) ++ ((wBR g ad tx is44 wa46 st hi)))))) : va_W).Perm (((wBR g ad tx is44 wa46 st hi)) ++ ((cAr g aq 10 vq) ++ ((cAr g aw 24 vw) ++ ((cAr g ac 21 vc) ++ ((cAr g al 24 vl)))))) := pmS [(cAr g aq 10 vq), (cAr g aw 24 vw), (cAr g ac 21 vc), (cAr g al 24 vl), (wBR g ad tx is44 wa46 st hi)] [0, 1, 2, 3, 4] [4] [0, 1, 2, 3] (by decide)
                  have pr : ((((wBR g ad tx is44 wa46 st hi)) ++ ((cAr g aq 10 vq) ++ ((cAr g aw 24 vw) ++ ((cAr g ac 21 vc) ++ ((cAr g al 24 vl)))))) : va_W).Perm ((cAr g aq 10 vq) ++ ((cAr g aw 24 vw) ++ ((cAr g ac 21 vc) ++ ((cAr g al 24 vl) ++ ((wBR g ad tx is44 wa46 st hi)))))) := (pmS [(cAr g aq 10 vq), (cAr g aw 24 vw), (cAr g ac 21 vc), (cAr g al 24 vl), (wBR g ad tx is44 wa46 st hi)] [0, 1, 2, 3, 4] [4] [0, 1, 2, 3] (by decide)).symm
                  refine aft_p (st1 := [.int r60]) (ws' := ((cAr g aq 10 vq) ++ ((cAr g aw 24 vw) ++ ((cAr g ac 21 vc) ++ ((cAr g al 24 vl) ++ ((wBR g ad tx is44 wa46 st hi))))))) rfl pq pr (runW (As := [.ref (ad 0 0), .int r53, .int r54]) (rest := []) ⟨hx, hb, hml, hown, hts⟩ (kL_plain l g ad kr60) (vx_cwSW 3 hts gL_isSo_L_plain rfl rfl rfl hdL_plain ⟨Nat.le_of_ble_eq_true rfl, Nat.le_of_ble_eq_true rfl⟩) hK hN (hP.perm pq).left (hD.perm pq).left rfl hl.1 rfl (Nat.le_of_ble_eq_true rfl) dL_isSo_519 ⟨Nat.le_of_ble_eq_true rfl, Nat.le_of_ble_eq_true rfl⟩) hP hD hS hA (fun H locs hP hD hS => ?_)
                  refine lv_iload hx hb dL_isSo_522 (lv_at hl 2 rfl) ?_
                  refine lv_iload hx hb dL_isSo_524 (lv_at hl 1 rfl) ?_
                  refine lv_aload_n hx hb dL_isSo_526 rfl (lv_at hl 6 rfl) ?_
                  refine lv_aload hx hb dL_isSo_527 (lv_at hl 9 rfl) ?_
                  obtain ⟨r61, kr61, h⟩ := bd_ex h
                  have pq : (((cAr g aq 10 vq) ++ ((cAr g aw 24 vw) ++ ((cAr g ac 21 vc) ++ ((cAr g al 24 vl) ++ ((wBR g ad tx is44 wa46 st hi)))))) : va_W).Perm (((cAr g aq 10 vq) ++ ((cAr g al 24 vl))) ++ ((cAr g aw 24 vw) ++ ((cAr g ac 21 vc) ++ ((wBR g ad tx is44 wa46 st hi))))) := pmS [(cAr g aq 10 vq), (cAr g aw 24 vw), (cAr g ac 21 vc), (cAr g al 24 vl), (wBR g ad tx is44 wa46 st hi)] [0, 1, 2, 3, 4] [0, 3] [1, 2, 4] (by decide)
                  have pr : ((((cAr g aq 10 vq) ++ ((cAr g al 24 vl))) ++ ((cAr g aw 24 vw) ++ ((cAr g ac 21 vc) ++ ((wBR g ad tx is44 wa46 st hi))))) : va_W).Perm ((cAr g aq 10 vq) ++ ((cAr g aw 24 vw) ++ ((cAr g ac 21 vc) ++ ((cAr g al 24 vl) ++ ((wBR g ad tx is44 wa46 st hi)))))) := (pmS [(cAr g aq 10 vq), (cAr g aw 24 vw), (cAr g ac 21 vc), (cAr g al 24 vl), (wBR g ad tx is44 wa46 st hi)] [0, 1, 2, 3, 4] [0, 3] [1, 2, 4] (by decide)).symm
                  refine aft_p (st1 := [.int r61, .int r60]) (ws' := ((cAr g aq 10 vq) ++ ((cAr g aw 24 vw) ++ ((cAr g ac 21 vc) ++ ((cAr g al 24 vl) ++ ((wBR g ad tx is44 wa46 st hi))))))) rfl pq pr (runS (As := [.int r53, .int r54, .ref aq, .ref al]) (rest := [.int r60]) ⟨hx, hb, hml, hown, hts⟩ (kL_ladder l g aq al kr61) (va_cwS 4 hts gL_isSo_L_ladder rfl rfl rfl hdL_ladder ⟨Nat.le_of_ble_eq_true rfl, Nat.le_of_ble_eq_true rfl⟩) hK hN (hP.perm pq).left (hD.perm pq).left rfl hl.1 rfl (Nat.le_of_ble_eq_true rfl) dL_isSo_529 ⟨Nat.le_of_ble_eq_true rfl, Nat.le_of_ble_eq_true rfl⟩) hP hD hS hA (fun H locs hP hD hS => ?_)
                  refine lv_icmp_ne (tgt := 612) hx hb dL_isSo_532 (by decide) (fun c62 => ?_) (fun c62 => ?_)
                  · have h := if_f c62 h
                    refine lv_iconst (v := 0) hx hb dL_isSo_612 (by decide) ?_
                    refine W.widen (k := (0 + 1)) (n := (0 + 6)) (Nat.le_of_ble_eq_true rfl) (Nat.le_of_ble_eq_true rfl) ?_
                    cases some_i h
                    exact kx11 _ _ _ hP hD hS (lv_sub hl [] rfl)
                  · have h := if_t c62 h
                    refine lv_aload_n hx hb dL_isSo_535 rfl (lv_at hl 4 rfl) ?_
                    refine lv_iload hx hb dL_isSo_536 (lv_at hl 0 rfl) ?_
                    refine lv_iload hx hb dL_isSo_538 (lv_at hl 2 rfl) ?_
                    obtain ⟨r63, kr63, h⟩ := bd_ex h
                    have pq : (((cAr g aq 10 vq) ++ ((cAr g aw 24 vw) ++ ((cAr g ac 21 vc) ++ ((cAr g al 24 vl) ++ ((wBR g ad tx is44 wa46 st hi)))))) : va_W).Perm (((wBR g ad tx is44 wa46 st hi)) ++ ((cAr g aq 10 vq) ++ ((cAr g aw 24 vw) ++ ((cAr g ac 21 vc) ++ ((cAr g al 24 vl)))))) := pmS [(cAr g aq 10 vq), (cAr g aw 24 vw), (cAr g ac 21 vc), (cAr g al 24 vl), (wBR g ad tx is44 wa46 st hi)] [0, 1, 2, 3, 4] [4] [0, 1, 2, 3] (by decide)
                    have pr : ((((wBR g ad tx is44 wa46 st hi)) ++ ((cAr g aq 10 vq) ++ ((cAr g aw 24 vw) ++ ((cAr g ac 21 vc) ++ ((cAr g al 24 vl)))))) : va_W).Perm ((cAr g aq 10 vq) ++ ((cAr g aw 24 vw) ++ ((cAr g ac 21 vc) ++ ((cAr g al 24 vl) ++ ((wBR g ad tx is44 wa46 st hi)))))) := (pmS [(cAr g aq 10 vq), (cAr g aw 24 vw), (cAr g ac 21 vc), (cAr g al 24 vl), (wBR g ad tx is44 wa46 st hi)] [0, 1, 2, 3, 4] [4] [0, 1, 2, 3] (by decide)).symm
                    refine aft_p (st1 := [.int r63]) (ws' := ((cAr g aq 10 vq) ++ ((cAr g aw 24 vw) ++ ((cAr g ac 21 vc) ++ ((cAr g al 24 vl) ++ ((wBR g ad tx is44 wa46 st hi))))))) rfl pq pr (runW (As := [.ref (ad 0 0), .int r55, .int r53]) (rest := []) ⟨hx, hb, hml, hown, hts⟩ (kL_why l g ad kr63) (vx_cwSW 3 hts gL_isSo_L_why rfl rfl rfl hdL_why ⟨Nat.le_of_ble_eq_true rfl, Nat.le_of_ble_eq_true rfl⟩) hK hN (hP.perm pq).left (hD.perm pq).left rfl hl.1 rfl (Nat.le_of_ble_eq_true rfl) dL_isSo_540 ⟨Nat.le_of_ble_eq_true rfl, Nat.le_of_ble_eq_true rfl⟩) hP hD hS hA (fun H locs hP hD hS => ?_)
                    refine lv_iload hx hb dL_isSo_543 (lv_at hl 0 rfl) ?_
                    refine lv_iload hx hb dL_isSo_545 (lv_at hl 2 rfl) ?_
                    refine lv_aload_n hx hb dL_isSo_547 rfl (lv_at hl 6 rfl) ?_
                    refine lv_aload_n hx hb dL_isSo_548 rfl (lv_at hl 7 rfl) ?_
                    refine lv_aload hx hb dL_isSo_549 (lv_at hl 8 rfl) ?_
                    obtain ⟨r64, kr64, h⟩ := bd_ex h
                    have pq : (((cAr g aq 10 vq) ++ ((cAr g aw 24 vw) ++ ((cAr g ac 21 vc) ++ ((cAr g al 24 vl) ++ ((wBR g ad tx is44 wa46 st hi)))))) : va_W).Perm (((cAr g aq 10 vq) ++ ((cAr g aw 24 vw) ++ ((cAr g ac 21 vc)))) ++ ((cAr g al 24 vl) ++ ((wBR g ad tx is44 wa46 st hi)))) := pmS [(cAr g aq 10 vq), (cAr g aw 24 vw), (cAr g ac 21 vc), (cAr g al 24 vl), (wBR g ad tx is44 wa46 st hi)] [0, 1, 2, 3, 4] [0, 1, 2] [3, 4] (by decide)
                    have pr : ((((cAr g aq 10 vq) ++ ((cAr g aw 24 vw) ++ ((cAr g ac 21 vc)))) ++ ((cAr g al 24 vl) ++ ((wBR g ad tx is44 wa46 st hi)))) : va_W).Perm ((cAr g aq 10 vq) ++ ((cAr g aw 24 vw) ++ ((cAr g ac 21 vc) ++ ((cAr g al 24 vl) ++ ((wBR g ad tx is44 wa46 st hi)))))) := (pmS [(cAr g aq 10 vq), (cAr g aw 24 vw), (cAr g ac 21 vc), (cAr g al 24 vl), (wBR g ad tx is44 wa46 st hi)] [0, 1, 2, 3, 4] [0, 1, 2] [3, 4] (by decide)).symm
                    refine aft_p (st1 := [.int r64, .int r63]) (ws' := ((cAr g aq 10 vq) ++ ((cAr g aw 24 vw) ++ ((cAr g ac 21 vc) ++ ((cAr g al 24 vl) ++ ((wBR g ad tx is44 wa46 st hi))))))) rfl pq pr (runS (As := [.int r55, .int r53, .ref aq, .ref aw, .ref ac]) (rest := [.int r63]) ⟨hx, hb, hml, hown, hts⟩ (kL_whyNot l g aq aw ac kr64) (va_cwS 5 hts gL_isSo_L_whyNot rfl rfl rfl hdL_whyNot ⟨Nat.le_of_ble_eq_true rfl, Nat.le_of_ble_eq_true rfl⟩) hK hN (hP.perm pq).left (hD.perm pq).left rfl hl.1 rfl (Nat.le_of_ble_eq_true rfl) dL_isSo_551 ⟨Nat.le_of_ble_eq_true rfl, Nat.le_of_ble_eq_true rfl⟩) hP hD hS hA (fun H locs hP hD hS => ?_)
                    refine lv_icmp_ne (tgt := 612) hx hb dL_isSo_554 (by decide) (fun c65 => ?_) (fun c65 => ?_)
                    · have h := if_f c65 h
                      refine lv_iconst (v := 0) hx hb dL_isSo_612 (by decide) ?_
                      refine W.widen (k := (0 + 1)) (n := (0 + 6)) (Nat.le_of_ble_eq_true rfl) (Nat.le_of_ble_eq_true rfl) ?_
                      cases some_i h
                      exact kx11 _ _ _ hP hD hS (lv_sub hl [] rfl)
                    · have h := if_t c65 h
                      refine lv_aload_n hx hb dL_isSo_557 rfl (lv_at hl 4 rfl) ?_
                      refine lv_iload hx hb dL_isSo_558 (lv_at hl 2 rfl) ?_
                      refine lv_iload hx hb dL_isSo_560 (lv_at hl 1 rfl) ?_
                      obtain ⟨r66, wa67, kr66, h⟩ := bd2_ex h
                      have pq : (((cAr g aq 10 vq) ++ ((cAr g aw 24 vw) ++ ((cAr g ac 21 vc) ++ ((cAr g al 24 vl) ++ ((wBR g ad tx is44 wa46 st hi)))))) : va_W).Perm (((wBR g ad tx is44 wa46 st hi)) ++ ((cAr g aq 10 vq) ++ ((cAr g aw 24 vw) ++ ((cAr g ac 21 vc) ++ ((cAr g al 24 vl)))))) := pmS [(cAr g aq 10 vq), (cAr g aw 24 vw), (cAr g ac 21 vc), (cAr g al 24 vl), (wBR g ad tx is44 wa46 st hi)] [0, 1, 2, 3, 4] [4] [0, 1, 2, 3] (by decide)
                      have pr : ((((wBR g ad tx is44 wa67 st hi)) ++ ((cAr g aq 10 vq) ++ ((cAr g aw 24 vw) ++ ((cAr g ac 21 vc) ++ ((cAr g al 24 vl)))))) : va_W).Perm ((cAr g aq 10 vq) ++ ((cAr g aw 24 vw) ++ ((cAr g ac 21 vc) ++ ((cAr g al 24 vl) ++ ((wBR g ad tx is44 wa67 st hi)))))) := (pmS [(cAr g aq 10 vq), (cAr g aw 24 vw), (cAr g ac 21 vc), (cAr g al 24 vl), (wBR g ad tx is44 wa67 st hi)] [0, 1, 2, 3, 4] [4] [0, 1, 2, 3] (by decide)).symm
                      refine aftm_p (st1 := [.int r66]) (ws' := ((cAr g aq 10 vq) ++ ((cAr g aw 24 vw) ++ ((cAr g ac 21 vc) ++ ((cAr g al 24 vl) ++ ((wBR g ad tx is44 wa67 st hi))))))) rfl pq pr (runLW (As := [.ref (ad 0 0), .int r53, .int r54]) (rest := []) ⟨hx, hb, hml, hown, hts⟩ (wL_ifPut l hst g ad kr66) (vx_cwSW 3 hts gL_isSo_L_ifPut rfl rfl rfl hdL_ifPut ⟨Nat.le_of_ble_eq_true rfl, Nat.le_of_ble_eq_true rfl⟩) hK hN hX hZ (hP.perm pq).left (hD.perm pq).left hS hA rfl hl.1 rfl (Nat.le_of_ble_eq_true rfl) dL_isSo_562 ⟨Nat.le_of_ble_eq_true rfl, Nat.le_of_ble_eq_true rfl⟩) hP hD hS hA (fun H locs hP hD hS => ?_)
                      refine lv_iload hx hb dL_isSo_565 (lv_at hl 2 rfl) ?_
                      refine lv_iload hx hb dL_isSo_567 (lv_at hl 1 rfl) ?_
                      obtain ⟨j68, kj68, h⟩ := bd_ex h
                      have kx12 : ∀ (H : Heap) (locs : List Loc) (ls : Array Slot), va_P g.1 vwCl ((cAr g aq 10 vq) ++ ((cAr g aw 24 vw) ++ ((cAr g ac 21 vc) ++ ((cAr g al 24 vl) ++ ((wBR g ad tx is44 wa67 st hi)))))) H → va_D A ((cAr g aq 10 vq) ++ ((cAr g aw 24 vw) ++ ((cAr g ac 21 vc) ++ ((cAr g al 24 vl) ++ ((wBR g ad tx is44 wa67 st hi)))))) → va_S A su.heap H locs → lv_has ls 14 [] → W p l e rL_isSo su m args below meth c H locs (0 + 1) (0 + 6) Q (F0 m 605 ls [.int j68, .int r66]) := by
                        intro H locs ls hP hD hS hl
                        refine lv_icmp_ne (tgt := 612) hx hb dL_isSo_605 (by decide) (fun c69 => ?_) (fun c69 => ?_)
                        · have h := if_f c69 h
                          refine lv_iconst (v := 0) hx hb dL_isSo_612 (by decide) ?_
                          cases some_i h
                          exact kx11 _ _ _ hP hD hS (lv_sub hl [] rfl)
                        · have h := if_t c69 h
                          refine lv_iconst (v := 1) hx hb dL_isSo_608 (by decide) ?_
                          refine lv_goto (tgt := 613) hx hb dL_isSo_609 (by decide) ?_
                          cases some_i h
                          exact kx11 _ _ _ hP hD hS (lv_sub hl [] rfl)
                      have h := kj68
                      refine lv_icmp_ne (tgt := 577) hx hb dL_isSo_569 (by decide) (fun c70 => ?_) (fun c70 => ?_)
                      · have h := if_f c70 h
                        refine lv_aload_n hx hb dL_isSo_577 rfl (lv_at hl 7 rfl) ?_
                        refine lv_iload hx hb dL_isSo_578 (lv_at hl 2 rfl) ?_
                        obtain ⟨hi9, h⟩ := ck_ex h
                        refine va_iald hx hb hK hP 1 0 rfl rfl (inb_in hi9) dL_isSo_580 ?_
                        refine lv_iconst (v := 0) hx hb dL_isSo_581 (by decide) ?_
                        refine lv_aload_n hx hb dL_isSo_582 rfl (lv_at hl 6 rfl) ?_
                        obtain ⟨r71, kr71, h⟩ := bd_ex h
                        have pq : (((cAr g aq 10 vq) ++ ((cAr g aw 24 vw) ++ ((cAr g ac 21 vc) ++ ((cAr g al 24 vl) ++ ((wBR g ad tx is44 wa67 st hi)))))) : va_W).Perm (((cAr g aq 10 vq)) ++ ((cAr g aw 24 vw) ++ ((cAr g ac 21 vc) ++ ((cAr g al 24 vl) ++ ((wBR g ad tx is44 wa67 st hi)))))) := pmS [(cAr g aq 10 vq), (cAr g aw 24 vw), (cAr g ac 21 vc), (cAr g al 24 vl), (wBR g ad tx is44 wa67 st hi)] [0, 1, 2, 3, 4] [0] [1, 2, 3, 4] (by decide)
                        have pr : ((((cAr g aq 10 vq)) ++ ((cAr g aw 24 vw) ++ ((cAr g ac 21 vc) ++ ((cAr g al 24 vl) ++ ((wBR g ad tx is44 wa67 st hi)))))) : va_W).Perm ((cAr g aq 10 vq) ++ ((cAr g aw 24 vw) ++ ((cAr g ac 21 vc) ++ ((cAr g al 24 vl) ++ ((wBR g ad tx is44 wa67 st hi)))))) := (pmS [(cAr g aq 10 vq), (cAr g aw 24 vw), (cAr g ac 21 vc), (cAr g al 24 vl), (wBR g ad tx is44 wa67 st hi)] [0, 1, 2, 3, 4] [0] [1, 2, 3, 4] (by decide)).symm
                        refine aft_p (st1 := [.int r71, .int r66]) (ws' := ((cAr g aq 10 vq) ++ ((cAr g aw 24 vw) ++ ((cAr g ac 21 vc) ++ ((cAr g al 24 vl) ++ ((wBR g ad tx is44 wa67 st hi))))))) rfl pq pr (runS (As := [.int (vw r53.toNatClampNeg), .int (0 : Int32), .ref aq]) (rest := [.int r66]) ⟨hx, hb, hml, hown, hts⟩ (kL_isBarred l g aq kr71) (va_cwS 3 hts gL_isSo_L_isBarred rfl rfl rfl hdL_isBarred ⟨Nat.le_of_ble_eq_true rfl, Nat.le_of_ble_eq_true rfl⟩) hK hN (hP.perm pq).left (hD.perm pq).left rfl hl.1 rfl (Nat.le_of_ble_eq_true rfl) dL_isSo_583 ⟨Nat.le_of_ble_eq_true rfl, Nat.le_of_ble_eq_true rfl⟩) hP hD hS hA (fun H locs hP hD hS => ?_)
                        refine lv_if_eq (tgt := 593) hx hb dL_isSo_586 (by decide) (fun c72 => ?_) (fun c72 => ?_)
                        · have h := if_t c72 h
                          refine lv_iload hx hb dL_isSo_593 (lv_at hl 2 rfl) ?_
                          refine lv_iload hx hb dL_isSo_595 (lv_at hl 1 rfl) ?_
                          refine lv_iconst (v := 0) hx hb dL_isSo_597 (by decide) ?_
                          refine lv_aload_n hx hb dL_isSo_598 rfl (lv_at hl 6 rfl) ?_
                          refine lv_aload_n hx hb dL_isSo_599 rfl (lv_at hl 7 rfl) ?_
                          refine lv_aload hx hb dL_isSo_600 (lv_at hl 9 rfl) ?_
                          obtain ⟨r73, kr73, h⟩ := bd_ex h
                          have pq : (((cAr g aq 10 vq) ++ ((cAr g aw 24 vw) ++ ((cAr g ac 21 vc) ++ ((cAr g al 24 vl) ++ ((wBR g ad tx is44 wa67 st hi)))))) : va_W).Perm (((cAr g aq 10 vq) ++ ((cAr g aw 24 vw) ++ ((cAr g al 24 vl)))) ++ ((cAr g ac 21 vc) ++ ((wBR g ad tx is44 wa67 st hi)))) := pmS [(cAr g aq 10 vq), (cAr g aw 24 vw), (cAr g ac 21 vc), (cAr g al 24 vl), (wBR g ad tx is44 wa67 st hi)] [0, 1, 2, 3, 4] [0, 1, 3] [2, 4] (by decide)
                          have pr : ((((cAr g aq 10 vq) ++ ((cAr g aw 24 vw) ++ ((cAr g al 24 vl)))) ++ ((cAr g ac 21 vc) ++ ((wBR g ad tx is44 wa67 st hi)))) : va_W).Perm ((cAr g aq 10 vq) ++ ((cAr g aw 24 vw) ++ ((cAr g ac 21 vc) ++ ((cAr g al 24 vl) ++ ((wBR g ad tx is44 wa67 st hi)))))) := (pmS [(cAr g aq 10 vq), (cAr g aw 24 vw), (cAr g ac 21 vc), (cAr g al 24 vl), (wBR g ad tx is44 wa67 st hi)] [0, 1, 2, 3, 4] [0, 1, 3] [2, 4] (by decide)).symm
                          refine aft_p (st1 := [.int r73, .int r66]) (ws' := ((cAr g aq 10 vq) ++ ((cAr g aw 24 vw) ++ ((cAr g ac 21 vc) ++ ((cAr g al 24 vl) ++ ((wBR g ad tx is44 wa67 st hi))))))) rfl pq pr (runS (As := [.int r53, .int r54, .int (0 : Int32), .ref aq, .ref aw, .ref al]) (rest := [.int r66]) ⟨hx, hb, hml, hown, hts⟩ (kL_fewest l g aq aw al kr73) (va_cwS 6 hts gL_isSo_L_fewest rfl rfl rfl hdL_fewest ⟨Nat.le_of_ble_eq_true rfl, Nat.le_of_ble_eq_true rfl⟩) hK hN (hP.perm pq).left (hD.perm pq).left rfl hl.1 rfl (Nat.le_of_ble_eq_true rfl) dL_isSo_602 ⟨Nat.le_of_ble_eq_true rfl, Nat.le_of_ble_eq_true rfl⟩) hP hD hS hA (fun H locs hP hD hS => ?_)
                          cases some_i h
                          exact kx12 _ _ _ hP hD hS (lv_sub hl [] rfl)
                        · have h := if_f c72 h
                          refine lv_iconst (v := -1) hx hb dL_isSo_589 (by decide) ?_
                          refine lv_goto (tgt := 605) hx hb dL_isSo_590 (by decide) ?_
                          cases some_i h
                          exact kx12 _ _ _ hP hD hS (lv_sub hl [] rfl)
                      · have h := if_t c70 h
                        refine lv_bipush (v := -102) hx hb dL_isSo_572 (by decide) ?_
                        refine lv_goto (tgt := 605) hx hb dL_isSo_574 (by decide) ?_
                        cases some_i h
                        exact kx12 _ _ _ hP hD hS (lv_sub hl [] rfl)
              · have h := if_t c52 h
                refine lv_iload hx hb dL_isSo_447 (lv_at hl 0 rfl) ?_
                obtain ⟨j74, kj74, h⟩ := bd_ex h
                have kx13 : ∀ (H : Heap) (locs : List Loc) (ls : Array Slot), va_P g.1 vwCl ((cAr g aq 10 vq) ++ ((cAr g aw 24 vw) ++ ((cAr g ac 21 vc) ++ ((cAr g al 24 vl) ++ ((wBR g ad tx is44 wa46 st hi)))))) H → va_D A ((cAr g aq 10 vq) ++ ((cAr g aw 24 vw) ++ ((cAr g ac 21 vc) ++ ((cAr g al 24 vl) ++ ((wBR g ad tx is44 wa46 st hi)))))) → va_S A su.heap H locs → lv_has ls 14 [] → W p l e rL_isSo su m args below meth c H locs 0 0 Q (F0 m 465 ls [.int j74]) := by
                  intro H locs ls hP hD hS hl
                  obtain ⟨hz9, h⟩ := ck_ex h
                  refine W.widen (k := (0 + 1)) (n := (0 + 6)) (Nat.le_of_ble_eq_true rfl) (Nat.le_of_ble_eq_true rfl) ?_
                  cases some_i h
                  exact hend _ _ _ _ _ hP hD hS (RetOK.z dL_isSo_465 (of_decide_eq_true hz9))
                have h := kj74
                refine lv_if_eq (tgt := 464) hx hb dL_isSo_449 (by decide) (fun c75 => ?_) (fun c75 => ?_)
                · have h := if_t c75 h
                  refine lv_iconst (v := 0) hx hb dL_isSo_464 (by decide) ?_
                  cases some_i h
                  exact kx13 _ _ _ hP hD hS (lv_sub hl [] rfl)
                · have h := if_f c75 h
                  refine lv_aload_n hx hb dL_isSo_452 rfl (lv_at hl 1 rfl) ?_
                  obtain ⟨r76, kr76, h⟩ := bd_ex h
                  have pq : (((cAr g aq 10 vq) ++ ((cAr g aw 24 vw) ++ ((cAr g ac 21 vc) ++ ((cAr g al 24 vl) ++ ((wBR g ad tx is44 wa46 st hi)))))) : va_W).Perm (((wBR g ad tx is44 wa46 st hi)) ++ ((cAr g aq 10 vq) ++ ((cAr g aw 24 vw) ++ ((cAr g ac 21 vc) ++ ((cAr g al 24 vl)))))) := pmS [(cAr g aq 10 vq), (cAr g aw 24 vw), (cAr g ac 21 vc), (cAr g al 24 vl), (wBR g ad tx is44 wa46 st hi)] [0, 1, 2, 3, 4] [4] [0, 1, 2, 3] (by decide)
                  have pr : ((((wBR g ad tx is44 wa46 st hi)) ++ ((cAr g aq 10 vq) ++ ((cAr g aw 24 vw) ++ ((cAr g ac 21 vc) ++ ((cAr g al 24 vl)))))) : va_W).Perm ((cAr g aq 10 vq) ++ ((cAr g aw 24 vw) ++ ((cAr g ac 21 vc) ++ ((cAr g al 24 vl) ++ ((wBR g ad tx is44 wa46 st hi)))))) := (pmS [(cAr g aq 10 vq), (cAr g aw 24 vw), (cAr g ac 21 vc), (cAr g al 24 vl), (wBR g ad tx is44 wa46 st hi)] [0, 1, 2, 3, 4] [4] [0, 1, 2, 3] (by decide)).symm
                  refine aft_p (st1 := [.int r76]) (ws' := ((cAr g aq 10 vq) ++ ((cAr g aw 24 vw) ++ ((cAr g ac 21 vc) ++ ((cAr g al 24 vl) ++ ((wBR g ad tx is44 wa46 st hi))))))) rfl pq pr (runV (As := []) (rest := []) ⟨hx, hb, hml, hown, hts⟩ (kX5_safest l g ad kr76) (cwV 0 hts gL_isSo_X5_safest rfl rfl rfl hdX5_safest ⟨Nat.le_of_ble_eq_true rfl, Nat.le_of_ble_eq_true rfl⟩) hK hN (hP.perm pq).left (hD.perm pq).left (va_recv hK (hP.perm pq).left (ci := 5) (q0 := 0) rfl rfl) rfl hl.1 rfl (Nat.le_of_ble_eq_true rfl) dL_isSo_453 ⟨Nat.le_of_ble_eq_true rfl, Nat.le_of_ble_eq_true rfl⟩) hP hD hS hA (fun H locs hP hD hS => ?_)
                  refine lv_iconst (v := -1) hx hb dL_isSo_456 (by decide) ?_
                  refine lv_icmp_ne (tgt := 464) hx hb dL_isSo_457 (by decide) (fun c77 => ?_) (fun c77 => ?_)
                  · have h := if_f c77 h
                    refine lv_iconst (v := 0) hx hb dL_isSo_464 (by decide) ?_
                    cases some_i h
                    exact kx13 _ _ _ hP hD hS (lv_sub hl [] rfl)
                  · have h := if_t c77 h
                    refine lv_iconst (v := 1) hx hb dL_isSo_460 (by decide) ?_
                    refine lv_goto (tgt := 465) hx hb dL_isSo_461 (by decide) ?_
                    cases some_i h
                    exact kx13 _ _ _ hP hD hS (lv_sub hl [] rfl)
          have h := kj45
          refine lv_if_eq (tgt := 433) hx hb dL_isSo_343 (by decide) (fun c78 => ?_) (fun c78 => ?_)
          · have h := if_t c78 h
            refine lv_iconst (v := 0) hx hb dL_isSo_433 (by decide) ?_
            cases some_i h
            exact kx9 _ _ _ hP hD hS (lv_sub hl [1, 2, 3, 4, 5, 6] rfl)
          · have h := if_f c78 h
            refine lv_aload_n hx hb dL_isSo_346 rfl (lv_at hl 1 rfl) ?_
            obtain ⟨r79, kr79, h⟩ := bd_ex h
            have pq : (((cAr g aq 10 vq) ++ ((cAr g aw 24 vw) ++ ((cAr g ac 21 vc) ++ ((cAr g al 24 vl) ++ ((wBR g ad tx is44 wa st hi)))))) : va_W).Perm (((wBR g ad tx is44 wa st hi)) ++ ((cAr g aq 10 vq) ++ ((cAr g aw 24 vw) ++ ((cAr g ac 21 vc) ++ ((cAr g al 24 vl)))))) := pmS [(cAr g aq 10 vq), (cAr g aw 24 vw), (cAr g ac 21 vc), (cAr g al 24 vl), (wBR g ad tx is44 wa st hi)] [0, 1, 2, 3, 4] [4] [0, 1, 2, 3] (by decide)
            have pr : ((((wBR g ad tx is44 wa st hi)) ++ ((cAr g aq 10 vq) ++ ((cAr g aw 24 vw) ++ ((cAr g ac 21 vc) ++ ((cAr g al 24 vl)))))) : va_W).Perm ((cAr g aq 10 vq) ++ ((cAr g aw 24 vw) ++ ((cAr g ac 21 vc) ++ ((cAr g al 24 vl) ++ ((wBR g ad tx is44 wa st hi)))))) := (pmS [(cAr g aq 10 vq), (cAr g aw 24 vw), (cAr g ac 21 vc), (cAr g al 24 vl), (wBR g ad tx is44 wa st hi)] [0, 1, 2, 3, 4] [4] [0, 1, 2, 3] (by decide)).symm
            refine aft_p (st1 := [.float r79]) (ws' := ((cAr g aq 10 vq) ++ ((cAr g aw 24 vw) ++ ((cAr g ac 21 vc) ++ ((cAr g al 24 vl) ++ ((wBR g ad tx is44 wa st hi))))))) rfl pq pr (runV (As := []) (rest := []) ⟨hx, hb, hml, hown, hts⟩ (kX5_meanLadder l g ad kr79) (cwV 0 hts gL_isSo_X5_meanLadder rfl rfl rfl hdX5_meanLadder ⟨Nat.le_of_ble_eq_true rfl, Nat.le_of_ble_eq_true rfl⟩) hK hN (hP.perm pq).left (hD.perm pq).left (va_recv hK (hP.perm pq).left (ci := 5) (q0 := 0) rfl rfl) rfl hl.1 rfl (Nat.le_of_ble_eq_true rfl) dL_isSo_347 ⟨Nat.le_of_ble_eq_true rfl, Nat.le_of_ble_eq_true rfl⟩) hP hD hS hA (fun H locs hP hD hS => ?_)
            refine lv_aload_n hx hb dL_isSo_350 rfl (lv_at hl 3 rfl) ?_
            refine lv_bipush (v := 7) hx hb dL_isSo_351 (by decide) ?_
            refine va_iald hx hb hK hP 0 0 rfl rfl (inb_in (i := 7) (n := 10) (by decide)) dL_isSo_353 ?_
            obtain ⟨j80, kj80, h⟩ := bd_ex h
            have kx14 : ∀ (H : Heap) (locs : List Loc) (ls : Array Slot), va_P g.1 vwCl ((cAr g aq 10 vq) ++ ((cAr g aw 24 vw) ++ ((cAr g ac 21 vc) ++ ((cAr g al 24 vl) ++ ((wBR g ad tx is44 wa st hi)))))) H → va_D A ((cAr g aq 10 vq) ++ ((cAr g aw 24 vw) ++ ((cAr g ac 21 vc) ++ ((cAr g al 24 vl) ++ ((wBR g ad tx is44 wa st hi)))))) → va_S A su.heap H locs → lv_has ls 14 [(0, .ref (ad 0 0)), (1, .int p1), (2, .ref aq), (3, .ref aw), (4, .ref ac), (5, .ref al), (6, .int v6_34)] → W p l e rL_isSo su m args below meth c H locs 0 0 Q (F0 m 372 ls [.float j80, .float r79]) := by
              intro H locs ls hP hD hS hl
              refine lv_fcmp hx hb dL_isSo_372 ?_
              refine lv_if_ne (tgt := 433) hx hb dL_isSo_373 (by decide) (fun c81 => ?_) (fun c81 => ?_)
              · have h := if_f c81 h
                refine lv_iconst (v := 0) hx hb dL_isSo_433 (by decide) ?_
                cases some_i h
                exact kx9 _ _ _ hP hD hS (lv_sub hl [0, 1, 2, 3, 4, 5] rfl)
              · have h := if_t c81 h
                refine lv_aload_n hx hb dL_isSo_376 rfl (lv_at hl 0 rfl) ?_
                obtain ⟨r82, kr82, h⟩ := bd_ex h
                have pq : (((cAr g aq 10 vq) ++ ((cAr g aw 24 vw) ++ ((cAr g ac 21 vc) ++ ((cAr g al 24 vl) ++ ((wBR g ad tx is44 wa st hi)))))) : va_W).Perm (((wBR g ad tx is44 wa st hi)) ++ ((cAr g aq 10 vq) ++ ((cAr g aw 24 vw) ++ ((cAr g ac 21 vc) ++ ((cAr g al 24 vl)))))) := pmS [(cAr g aq 10 vq), (cAr g aw 24 vw), (cAr g ac 21 vc), (cAr g al 24 vl), (wBR g ad tx is44 wa st hi)] [0, 1, 2, 3, 4] [4] [0, 1, 2, 3] (by decide)
                have pr : ((((wBR g ad tx is44 wa st hi)) ++ ((cAr g aq 10 vq) ++ ((cAr g aw 24 vw) ++ ((cAr g ac 21 vc) ++ ((cAr g al 24 vl)))))) : va_W).Perm ((cAr g aq 10 vq) ++ ((cAr g aw 24 vw) ++ ((cAr g ac 21 vc) ++ ((cAr g al 24 vl) ++ ((wBR g ad tx is44 wa st hi)))))) := (pmS [(cAr g aq 10 vq), (cAr g aw 24 vw), (cAr g ac 21 vc), (cAr g al 24 vl), (wBR g ad tx is44 wa st hi)] [0, 1, 2, 3, 4] [4] [0, 1, 2, 3] (by decide)).symm
                refine aft_p (st1 := [.double r82]) (ws' := ((cAr g aq 10 vq) ++ ((cAr g aw 24 vw) ++ ((cAr g ac 21 vc) ++ ((cAr g al 24 vl) ++ ((wBR g ad tx is44 wa st hi))))))) rfl pq pr (runV (As := []) (rest := []) ⟨hx, hb, hml, hown, hts⟩ (kX5_linkShare l g ad kr82) (cwV 0 hts gL_isSo_X5_linkShare rfl rfl rfl hdX5_linkShare ⟨Nat.le_of_ble_eq_true rfl, Nat.le_of_ble_eq_true rfl⟩) hK hN (hP.perm pq).left (hD.perm pq).left (va_recv hK (hP.perm pq).left (ci := 5) (q0 := 0) rfl rfl) rfl hl.1 rfl (Nat.le_of_ble_eq_true rfl) dL_isSo_377 ⟨Nat.le_of_ble_eq_true rfl, Nat.le_of_ble_eq_true rfl⟩) hP hD hS hA (fun H locs hP hD hS => ?_)
                refine lv_aload_n hx hb dL_isSo_380 rfl (lv_at hl 2 rfl) ?_
                refine lv_iconst (v := 0) hx hb dL_isSo_381 (by decide) ?_
                refine va_iald hx hb hK hP 0 0 rfl rfl (inb_in (i := 0) (n := 10) (by decide)) dL_isSo_382 ?_
                refine lv_iconst (v := 2) hx hb dL_isSo_383 (by decide) ?_
                obtain ⟨j83, kj83, h⟩ := bd_ex h
                have kx15 : ∀ (H : Heap) (locs : List Loc) (ls : Array Slot), va_P g.1 vwCl ((cAr g aq 10 vq) ++ ((cAr g aw 24 vw) ++ ((cAr g ac 21 vc) ++ ((cAr g al 24 vl) ++ ((wBR g ad tx is44 wa st hi)))))) H → va_D A ((cAr g aq 10 vq) ++ ((cAr g aw 24 vw) ++ ((cAr g ac 21 vc) ++ ((cAr g al 24 vl) ++ ((wBR g ad tx is44 wa st hi)))))) → va_S A su.heap H locs → lv_has ls 14 [(0, .ref (ad 0 0)), (1, .int p1), (2, .ref aq), (3, .ref aw), (4, .ref ac), (5, .ref al)] → W p l e rL_isSo su m args below meth c H locs 0 0 Q (F0 m 407 ls [.double j83, .double r82]) := by
                  intro H locs ls hP hD hS hl
                  refine lv_dcmp hx hb dL_isSo_407 ?_
                  refine lv_if_ne (tgt := 433) hx hb dL_isSo_408 (by decide) (fun c84 => ?_) (fun c84 => ?_)
                  · have h := if_f c84 h
                    refine lv_iconst (v := 0) hx hb dL_isSo_433 (by decide) ?_
                    cases some_i h
                    exact kx9 _ _ _ hP hD hS (lv_sub hl [0, 1, 2, 3, 4, 5] rfl)
                  · have h := if_t c84 h
                    refine lv_aload_n hx hb dL_isSo_411 rfl (lv_at hl 0 rfl) ?_
                    refine lv_iload_n hx hb dL_isSo_412 rfl (lv_at hl 1 rfl) ?_
                    refine lv_iconst (v := 3) hx hb dL_isSo_413 (by decide) ?_
                    obtain ⟨r85, kr85, h⟩ := bd_ex h
                    refine aft_e (st1 := [.int r85, .ref (ad 0 0)]) rfl (runS (As := [.int p1, .int (3 : Int32)]) (rest := [.ref (ad 0 0)]) ⟨hx, hb, hml, hown, hts⟩ (kL_low l g kr85) (va_cwS 2 hts gL_isSo_L_low rfl rfl rfl hdL_low ⟨Nat.le_of_ble_eq_true rfl, Nat.le_of_ble_eq_true rfl⟩) hK hN nilP (nilD (A := A)) rfl hl.1 rfl (Nat.le_of_ble_eq_true rfl) dL_isSo_414 ⟨Nat.le_of_ble_eq_true rfl, Nat.le_of_ble_eq_true rfl⟩) hP hS hA (fun H locs hP hS => ?_)
                    refine lv_aload_n hx hb dL_isSo_417 rfl (lv_at hl 2 rfl) ?_
                    refine lv_aload_n hx hb dL_isSo_418 rfl (lv_at hl 3 rfl) ?_
                    refine lv_aload hx hb dL_isSo_419 (lv_at hl 4 rfl) ?_
                    refine lv_aload hx hb dL_isSo_421 (lv_at hl 5 rfl) ?_
                    obtain ⟨r86, wa87, kr86, h⟩ := bd2_ex h
                    refine aft_w (st1 := [.int r86]) rfl (runS (As := [.ref (ad 0 0), .int r85, .ref aq, .ref aw, .ref ac, .ref al]) (rest := []) ⟨hx, hb, hml, hown, hts⟩ (kL_isClimber l g aq aw ac al ad kr86) (va_cwS 6 hts gL_isSo_L_isClimber rfl rfl rfl hdL_isClimber ⟨Nat.le_of_ble_eq_true rfl, Nat.le_of_ble_eq_true rfl⟩) hK hN hP hD rfl hl.1 rfl (Nat.le_of_ble_eq_true rfl) dL_isSo_423 ⟨Nat.le_of_ble_eq_true rfl, Nat.le_of_ble_eq_true rfl⟩) hD hS hA (fun H locs hP hD hS => ?_)
                    refine lv_if_eq (tgt := 433) hx hb dL_isSo_426 (by decide) (fun c88 => ?_) (fun c88 => ?_)
                    · have h := if_t c88 h
                      refine lv_iconst (v := 0) hx hb dL_isSo_433 (by decide) ?_
                      cases some_i h
                      exact kx9 _ _ _ hP hD hS (lv_sub hl [0, 1, 2, 3, 4, 5] rfl)
                    · have h := if_f c88 h
                      refine lv_iconst (v := 1) hx hb dL_isSo_429 (by decide) ?_
                      refine lv_goto (tgt := 434) hx hb dL_isSo_430 (by decide) ?_
                      cases some_i h
                      exact kx9 _ _ _ hP hD hS (lv_sub hl [0, 1, 2, 3, 4, 5] rfl)
                have h := kj83
                refine lv_icmp_ge (tgt := 391) hx hb dL_isSo_384 (by decide) (fun c89 => ?_) (fun c89 => ?_)
                · have h := if_t c89 h
                  refine lv_iload hx hb dL_isSo_391 (lv_at hl 6 rfl) ?_
                  refine lv_i2d hx hb dL_isSo_393 ?_
                  refine lv_aload_n hx hb dL_isSo_394 rfl (lv_at hl 2 rfl) ?_
                  refine lv_iconst (v := 0) hx hb dL_isSo_395 (by decide) ?_
                  refine va_iald hx hb hK hP 0 0 rfl rfl (inb_in (i := 0) (n := 10) (by decide)) dL_isSo_396 ?_
                  refine lv_aload_n hx hb dL_isSo_397 rfl (lv_at hl 2 rfl) ?_
                  refine lv_iconst (v := 0) hx hb dL_isSo_398 (by decide) ?_
                  refine va_iald hx hb hK hP 0 0 rfl rfl (inb_in (i := 0) (n := 10) (by decide)) dL_isSo_399 ?_
                  refine lv_iconst (v := 1) hx hb dL_isSo_400 (by decide) ?_
                  refine lv_isub hx hb dL_isSo_401 ?_
                  refine lv_imul hx hb dL_isSo_402 ?_
                  refine lv_iconst (v := 2) hx hb dL_isSo_403 (by decide) ?_
                  refine lv_idiv hx hb dL_isSo_404 (by decide) ?_
                  refine lv_i2d hx hb dL_isSo_405 ?_
                  obtain ⟨hn9, h⟩ := ck_ex h
                  refine lv_ddiv hx hb dL_isSo_406 (nnd_ok hn9) ?_
                  cases some_i h
                  exact kx15 _ _ _ hP hD hS (lv_sub hl [0, 1, 2, 3, 4, 5] rfl)
                · have h := if_f c89 h
                  refine lv_dconst0 hx hb dL_isSo_387 ?_
                  refine lv_goto (tgt := 407) hx hb dL_isSo_388 (by decide) ?_
                  cases some_i h
                  exact kx15 _ _ _ hP hD hS (lv_sub hl [0, 1, 2, 3, 4, 5] rfl)
            have h := kj80
            refine lv_if_ne (tgt := 361) hx hb dL_isSo_354 (by decide) (fun c90 => ?_) (fun c90 => ?_)
            · have h := if_f c90 h
              refine lv_aload_n hx hb dL_isSo_361 rfl (lv_at hl 3 rfl) ?_
              refine lv_bipush (v := 9) hx hb dL_isSo_362 (by decide) ?_
              refine va_iald hx hb hK hP 0 0 rfl rfl (inb_in (i := 9) (n := 10) (by decide)) dL_isSo_364 ?_
              refine lv_i2f hx hb dL_isSo_365 ?_
              refine lv_aload_n hx hb dL_isSo_366 rfl (lv_at hl 3 rfl) ?_
              refine lv_bipush (v := 7) hx hb dL_isSo_367 (by decide) ?_
              refine va_iald hx hb hK hP 0 0 rfl rfl (inb_in (i := 7) (n := 10) (by decide)) dL_isSo_369 ?_
              refine lv_i2f hx hb dL_isSo_370 ?_
              obtain ⟨hn9, h⟩ := ck_ex h
              refine lv_fdiv hx hb dL_isSo_371 (nnf_ok hn9) ?_
              cases some_i h
              exact kx14 _ _ _ hP hD hS (lv_sub hl [1, 2, 3, 4, 5, 6, 7] rfl)
            · have h := if_t c90 h
              refine lv_fconst0 hx hb dL_isSo_357 ?_
              refine lv_goto (tgt := 372) hx hb dL_isSo_358 (by decide) ?_
              cases some_i h
              exact kx14 _ _ _ hP hD hS (lv_sub hl [1, 2, 3, 4, 5, 6, 7] rfl)
        have h := kj43
        refine lv_icmp_ne (tgt := 338) hx hb dL_isSo_184 (by decide) (fun c91 => ?_) (fun c91 => ?_)
        · have h := if_f c91 h
          refine lv_iconst (v := 0) hx hb dL_isSo_338 (by decide) ?_
          cases some_i h
          exact kx8 _ _ _ hP hD hS (lv_sub hl [1, 2, 3, 4, 5, 6, 7] rfl)
        · have h := if_t c91 h
          refine lv_aload_n hx hb dL_isSo_187 rfl (lv_at hl 1 rfl) ?_
          refine lv_iconst (v := 1) hx hb dL_isSo_188 (by decide) ?_
          obtain ⟨r92, is93, kr92, h⟩ := bd2_ex h
          have pq : (((cAr g aq 10 vq) ++ ((cAr g aw 24 vw) ++ ((cAr g ac 21 vc) ++ ((cAr g al 24 vl) ++ ((wBR g ad tx is42 wa st hi)))))) : va_W).Perm (((wBR g ad tx is42 wa st hi)) ++ ((cAr g aq 10 vq) ++ ((cAr g aw 24 vw) ++ ((cAr g ac 21 vc) ++ ((cAr g al 24 vl)))))) := pmS [(cAr g aq 10 vq), (cAr g aw 24 vw), (cAr g ac 21 vc), (cAr g al 24 vl), (wBR g ad tx is42 wa st hi)] [0, 1, 2, 3, 4] [4] [0, 1, 2, 3] (by decide)
          have pr : ((((wBR g ad tx is93 wa st hi)) ++ ((cAr g aq 10 vq) ++ ((cAr g aw 24 vw) ++ ((cAr g ac 21 vc) ++ ((cAr g al 24 vl)))))) : va_W).Perm ((cAr g aq 10 vq) ++ ((cAr g aw 24 vw) ++ ((cAr g ac 21 vc) ++ ((cAr g al 24 vl) ++ ((wBR g ad tx is93 wa st hi)))))) := (pmS [(cAr g aq 10 vq), (cAr g aw 24 vw), (cAr g ac 21 vc), (cAr g al 24 vl), (wBR g ad tx is93 wa st hi)] [0, 1, 2, 3, 4] [4] [0, 1, 2, 3] (by decide)).symm
          refine aft_p (st1 := [.int r92]) (ws' := ((cAr g aq 10 vq) ++ ((cAr g aw 24 vw) ++ ((cAr g ac 21 vc) ++ ((cAr g al 24 vl) ++ ((wBR g ad tx is93 wa st hi))))))) rfl pq pr (runW (As := [.ref (ad 0 0), .int (1 : Int32)]) (rest := []) ⟨hx, hb, hml, hown, hts⟩ (kL_count l g ad kr92) (vx_cwSW 2 hts gL_isSo_L_count rfl rfl rfl hdL_count ⟨Nat.le_of_ble_eq_true rfl, Nat.le_of_ble_eq_true rfl⟩) hK hN (hP.perm pq).left (hD.perm pq).left rfl hl.1 rfl (Nat.le_of_ble_eq_true rfl) dL_isSo_189 ⟨Nat.le_of_ble_eq_true rfl, Nat.le_of_ble_eq_true rfl⟩) hP hD hS hA (fun H locs hP hD hS => ?_)
          refine lv_iload hx hb dL_isSo_192 (lv_at hl 7 rfl) ?_
          refine lv_icmp_ne (tgt := 338) hx hb dL_isSo_194 (by decide) (fun c94 => ?_) (fun c94 => ?_)
          · have h := if_f c94 h
            refine lv_iconst (v := 0) hx hb dL_isSo_338 (by decide) ?_
            cases some_i h
            exact kx8 _ _ _ hP hD hS (lv_sub hl [1, 2, 3, 4, 5, 6, 7] rfl)
          · have h := if_t c94 h
            refine lv_aload_n hx hb dL_isSo_197 rfl (lv_at hl 1 rfl) ?_
            refine lv_iconst (v := 2) hx hb dL_isSo_198 (by decide) ?_
            obtain ⟨r95, is96, kr95, h⟩ := bd2_ex h
            have pq : (((cAr g aq 10 vq) ++ ((cAr g aw 24 vw) ++ ((cAr g ac 21 vc) ++ ((cAr g al 24 vl) ++ ((wBR g ad tx is93 wa st hi)))))) : va_W).Perm (((wBR g ad tx is93 wa st hi)) ++ ((cAr g aq 10 vq) ++ ((cAr g aw 24 vw) ++ ((cAr g ac 21 vc) ++ ((cAr g al 24 vl)))))) := pmS [(cAr g aq 10 vq), (cAr g aw 24 vw), (cAr g ac 21 vc), (cAr g al 24 vl), (wBR g ad tx is93 wa st hi)] [0, 1, 2, 3, 4] [4] [0, 1, 2, 3] (by decide)
            have pr : ((((wBR g ad tx is96 wa st hi)) ++ ((cAr g aq 10 vq) ++ ((cAr g aw 24 vw) ++ ((cAr g ac 21 vc) ++ ((cAr g al 24 vl)))))) : va_W).Perm ((cAr g aq 10 vq) ++ ((cAr g aw 24 vw) ++ ((cAr g ac 21 vc) ++ ((cAr g al 24 vl) ++ ((wBR g ad tx is96 wa st hi)))))) := (pmS [(cAr g aq 10 vq), (cAr g aw 24 vw), (cAr g ac 21 vc), (cAr g al 24 vl), (wBR g ad tx is96 wa st hi)] [0, 1, 2, 3, 4] [4] [0, 1, 2, 3] (by decide)).symm
            refine aft_p (st1 := [.int r95]) (ws' := ((cAr g aq 10 vq) ++ ((cAr g aw 24 vw) ++ ((cAr g ac 21 vc) ++ ((cAr g al 24 vl) ++ ((wBR g ad tx is96 wa st hi))))))) rfl pq pr (runW (As := [.ref (ad 0 0), .int (2 : Int32)]) (rest := []) ⟨hx, hb, hml, hown, hts⟩ (kL_count l g ad kr95) (vx_cwSW 2 hts gL_isSo_L_count rfl rfl rfl hdL_count ⟨Nat.le_of_ble_eq_true rfl, Nat.le_of_ble_eq_true rfl⟩) hK hN (hP.perm pq).left (hD.perm pq).left rfl hl.1 rfl (Nat.le_of_ble_eq_true rfl) dL_isSo_199 ⟨Nat.le_of_ble_eq_true rfl, Nat.le_of_ble_eq_true rfl⟩) hP hD hS hA (fun H locs hP hD hS => ?_)
            refine lv_iload hx hb dL_isSo_202 (lv_at hl 8 rfl) ?_
            refine lv_icmp_ne (tgt := 338) hx hb dL_isSo_204 (by decide) (fun c97 => ?_) (fun c97 => ?_)
            · have h := if_f c97 h
              refine lv_iconst (v := 0) hx hb dL_isSo_338 (by decide) ?_
              cases some_i h
              exact kx8 _ _ _ hP hD hS (lv_sub hl [1, 2, 3, 4, 5, 6, 7] rfl)
            · have h := if_t c97 h
              refine lv_aload_n hx hb dL_isSo_207 rfl (lv_at hl 1 rfl) ?_
              refine lv_iconst (v := 3) hx hb dL_isSo_208 (by decide) ?_
              obtain ⟨r98, is99, kr98, h⟩ := bd2_ex h
              have pq : (((cAr g aq 10 vq) ++ ((cAr g aw 24 vw) ++ ((cAr g ac 21 vc) ++ ((cAr g al 24 vl) ++ ((wBR g ad tx is96 wa st hi)))))) : va_W).Perm (((wBR g ad tx is96 wa st hi)) ++ ((cAr g aq 10 vq) ++ ((cAr g aw 24 vw) ++ ((cAr g ac 21 vc) ++ ((cAr g al 24 vl)))))) := pmS [(cAr g aq 10 vq), (cAr g aw 24 vw), (cAr g ac 21 vc), (cAr g al 24 vl), (wBR g ad tx is96 wa st hi)] [0, 1, 2, 3, 4] [4] [0, 1, 2, 3] (by decide)
              have pr : ((((wBR g ad tx is99 wa st hi)) ++ ((cAr g aq 10 vq) ++ ((cAr g aw 24 vw) ++ ((cAr g ac 21 vc) ++ ((cAr g al 24 vl)))))) : va_W).Perm ((cAr g aq 10 vq) ++ ((cAr g aw 24 vw) ++ ((cAr g ac 21 vc) ++ ((cAr g al 24 vl) ++ ((wBR g ad tx is99 wa st hi)))))) := (pmS [(cAr g aq 10 vq), (cAr g aw 24 vw), (cAr g ac 21 vc), (cAr g al 24 vl), (wBR g ad tx is99 wa st hi)] [0, 1, 2, 3, 4] [4] [0, 1, 2, 3] (by decide)).symm
              refine aft_p (st1 := [.int r98]) (ws' := ((cAr g aq 10 vq) ++ ((cAr g aw 24 vw) ++ ((cAr g ac 21 vc) ++ ((cAr g al 24 vl) ++ ((wBR g ad tx is99 wa st hi))))))) rfl pq pr (runW (As := [.ref (ad 0 0), .int (3 : Int32)]) (rest := []) ⟨hx, hb, hml, hown, hts⟩ (kL_count l g ad kr98) (vx_cwSW 2 hts gL_isSo_L_count rfl rfl rfl hdL_count ⟨Nat.le_of_ble_eq_true rfl, Nat.le_of_ble_eq_true rfl⟩) hK hN (hP.perm pq).left (hD.perm pq).left rfl hl.1 rfl (Nat.le_of_ble_eq_true rfl) dL_isSo_209 ⟨Nat.le_of_ble_eq_true rfl, Nat.le_of_ble_eq_true rfl⟩) hP hD hS hA (fun H locs hP hD hS => ?_)
              refine lv_iload hx hb dL_isSo_212 (lv_at hl 8 rfl) ?_
              refine lv_icmp_ne (tgt := 338) hx hb dL_isSo_214 (by decide) (fun c100 => ?_) (fun c100 => ?_)
              · have h := if_f c100 h
                refine lv_iconst (v := 0) hx hb dL_isSo_338 (by decide) ?_
                cases some_i h
                exact kx8 _ _ _ hP hD hS (lv_sub hl [1, 2, 3, 4, 5, 6, 7] rfl)
              · have h := if_t c100 h
                refine lv_aload_n hx hb dL_isSo_217 rfl (lv_at hl 1 rfl) ?_
                refine lv_iconst (v := 4) hx hb dL_isSo_218 (by decide) ?_
                obtain ⟨r101, is102, kr101, h⟩ := bd2_ex h
                have pq : (((cAr g aq 10 vq) ++ ((cAr g aw 24 vw) ++ ((cAr g ac 21 vc) ++ ((cAr g al 24 vl) ++ ((wBR g ad tx is99 wa st hi)))))) : va_W).Perm (((wBR g ad tx is99 wa st hi)) ++ ((cAr g aq 10 vq) ++ ((cAr g aw 24 vw) ++ ((cAr g ac 21 vc) ++ ((cAr g al 24 vl)))))) := pmS [(cAr g aq 10 vq), (cAr g aw 24 vw), (cAr g ac 21 vc), (cAr g al 24 vl), (wBR g ad tx is99 wa st hi)] [0, 1, 2, 3, 4] [4] [0, 1, 2, 3] (by decide)
                have pr : ((((wBR g ad tx is102 wa st hi)) ++ ((cAr g aq 10 vq) ++ ((cAr g aw 24 vw) ++ ((cAr g ac 21 vc) ++ ((cAr g al 24 vl)))))) : va_W).Perm ((cAr g aq 10 vq) ++ ((cAr g aw 24 vw) ++ ((cAr g ac 21 vc) ++ ((cAr g al 24 vl) ++ ((wBR g ad tx is102 wa st hi)))))) := (pmS [(cAr g aq 10 vq), (cAr g aw 24 vw), (cAr g ac 21 vc), (cAr g al 24 vl), (wBR g ad tx is102 wa st hi)] [0, 1, 2, 3, 4] [4] [0, 1, 2, 3] (by decide)).symm
                refine aft_p (st1 := [.int r101]) (ws' := ((cAr g aq 10 vq) ++ ((cAr g aw 24 vw) ++ ((cAr g ac 21 vc) ++ ((cAr g al 24 vl) ++ ((wBR g ad tx is102 wa st hi))))))) rfl pq pr (runW (As := [.ref (ad 0 0), .int (4 : Int32)]) (rest := []) ⟨hx, hb, hml, hown, hts⟩ (kL_count l g ad kr101) (vx_cwSW 2 hts gL_isSo_L_count rfl rfl rfl hdL_count ⟨Nat.le_of_ble_eq_true rfl, Nat.le_of_ble_eq_true rfl⟩) hK hN (hP.perm pq).left (hD.perm pq).left rfl hl.1 rfl (Nat.le_of_ble_eq_true rfl) dL_isSo_219 ⟨Nat.le_of_ble_eq_true rfl, Nat.le_of_ble_eq_true rfl⟩) hP hD hS hA (fun H locs hP hD hS => ?_)
                refine lv_aload_n hx hb dL_isSo_222 rfl (lv_at hl 3 rfl) ?_
                refine lv_iconst (v := 1) hx hb dL_isSo_223 (by decide) ?_
                refine va_iald hx hb hK hP 0 0 rfl rfl (inb_in (i := 1) (n := 10) (by decide)) dL_isSo_224 ?_
                refine lv_icmp_ne (tgt := 338) hx hb dL_isSo_225 (by decide) (fun c103 => ?_) (fun c103 => ?_)
                · have h := if_f c103 h
                  refine lv_iconst (v := 0) hx hb dL_isSo_338 (by decide) ?_
                  cases some_i h
                  exact kx8 _ _ _ hP hD hS (lv_sub hl [1, 2, 3, 4, 5, 6, 7] rfl)
                · have h := if_t c103 h
                  refine lv_aload_n hx hb dL_isSo_228 rfl (lv_at hl 1 rfl) ?_
                  refine lv_iconst (v := 5) hx hb dL_isSo_229 (by decide) ?_
                  obtain ⟨r104, is105, kr104, h⟩ := bd2_ex h
                  have pq : (((cAr g aq 10 vq) ++ ((cAr g aw 24 vw) ++ ((cAr g ac 21 vc) ++ ((cAr g al 24 vl) ++ ((wBR g ad tx is102 wa st hi)))))) : va_W).Perm (((wBR g ad tx is102 wa st hi)) ++ ((cAr g aq 10 vq) ++ ((cAr g aw 24 vw) ++ ((cAr g ac 21 vc) ++ ((cAr g al 24 vl)))))) := pmS [(cAr g aq 10 vq), (cAr g aw 24 vw), (cAr g ac 21 vc), (cAr g al 24 vl), (wBR g ad tx is102 wa st hi)] [0, 1, 2, 3, 4] [4] [0, 1, 2, 3] (by decide)
                  have pr : ((((wBR g ad tx is105 wa st hi)) ++ ((cAr g aq 10 vq) ++ ((cAr g aw 24 vw) ++ ((cAr g ac 21 vc) ++ ((cAr g al 24 vl)))))) : va_W).Perm ((cAr g aq 10 vq) ++ ((cAr g aw 24 vw) ++ ((cAr g ac 21 vc) ++ ((cAr g al 24 vl) ++ ((wBR g ad tx is105 wa st hi)))))) := (pmS [(cAr g aq 10 vq), (cAr g aw 24 vw), (cAr g ac 21 vc), (cAr g al 24 vl), (wBR g ad tx is105 wa st hi)] [0, 1, 2, 3, 4] [4] [0, 1, 2, 3] (by decide)).symm
                  refine aft_p (st1 := [.int r104]) (ws' := ((cAr g aq 10 vq) ++ ((cAr g aw 24 vw) ++ ((cAr g ac 21 vc) ++ ((cAr g al 24 vl) ++ ((wBR g ad tx is105 wa st hi))))))) rfl pq pr (runW (As := [.ref (ad 0 0), .int (5 : Int32)]) (rest := []) ⟨hx, hb, hml, hown, hts⟩ (kL_count l g ad kr104) (vx_cwSW 2 hts gL_isSo_L_count rfl rfl rfl hdL_count ⟨Nat.le_of_ble_eq_true rfl, Nat.le_of_ble_eq_true rfl⟩) hK hN (hP.perm pq).left (hD.perm pq).left rfl hl.1 rfl (Nat.le_of_ble_eq_true rfl) dL_isSo_230 ⟨Nat.le_of_ble_eq_true rfl, Nat.le_of_ble_eq_true rfl⟩) hP hD hS hA (fun H locs hP hD hS => ?_)
                  refine lv_aload_n hx hb dL_isSo_233 rfl (lv_at hl 3 rfl) ?_
                  refine lv_iconst (v := 2) hx hb dL_isSo_234 (by decide) ?_
                  refine va_iald hx hb hK hP 0 0 rfl rfl (inb_in (i := 2) (n := 10) (by decide)) dL_isSo_235 ?_
                  refine lv_icmp_ne (tgt := 338) hx hb dL_isSo_236 (by decide) (fun c106 => ?_) (fun c106 => ?_)
                  · have h := if_f c106 h
                    refine lv_iconst (v := 0) hx hb dL_isSo_338 (by decide) ?_
                    cases some_i h
                    exact kx8 _ _ _ hP hD hS (lv_sub hl [1, 2, 3, 4, 5, 6, 7] rfl)
                  · have h := if_t c106 h
                    refine lv_aload_n hx hb dL_isSo_239 rfl (lv_at hl 1 rfl) ?_
                    refine lv_bipush (v := 6) hx hb dL_isSo_240 (by decide) ?_
                    obtain ⟨r107, is108, kr107, h⟩ := bd2_ex h
                    have pq : (((cAr g aq 10 vq) ++ ((cAr g aw 24 vw) ++ ((cAr g ac 21 vc) ++ ((cAr g al 24 vl) ++ ((wBR g ad tx is105 wa st hi)))))) : va_W).Perm (((wBR g ad tx is105 wa st hi)) ++ ((cAr g aq 10 vq) ++ ((cAr g aw 24 vw) ++ ((cAr g ac 21 vc) ++ ((cAr g al 24 vl)))))) := pmS [(cAr g aq 10 vq), (cAr g aw 24 vw), (cAr g ac 21 vc), (cAr g al 24 vl), (wBR g ad tx is105 wa st hi)] [0, 1, 2, 3, 4] [4] [0, 1, 2, 3] (by decide)
                    have pr : ((((wBR g ad tx is108 wa st hi)) ++ ((cAr g aq 10 vq) ++ ((cAr g aw 24 vw) ++ ((cAr g ac 21 vc) ++ ((cAr g al 24 vl)))))) : va_W).Perm ((cAr g aq 10 vq) ++ ((cAr g aw 24 vw) ++ ((cAr g ac 21 vc) ++ ((cAr g al 24 vl) ++ ((wBR g ad tx is108 wa st hi)))))) := (pmS [(cAr g aq 10 vq), (cAr g aw 24 vw), (cAr g ac 21 vc), (cAr g al 24 vl), (wBR g ad tx is108 wa st hi)] [0, 1, 2, 3, 4] [4] [0, 1, 2, 3] (by decide)).symm
                    refine aft_p (st1 := [.int r107]) (ws' := ((cAr g aq 10 vq) ++ ((cAr g aw 24 vw) ++ ((cAr g ac 21 vc) ++ ((cAr g al 24 vl) ++ ((wBR g ad tx is108 wa st hi))))))) rfl pq pr (runW (As := [.ref (ad 0 0), .int (6 : Int32)]) (rest := []) ⟨hx, hb, hml, hown, hts⟩ (kL_count l g ad kr107) (vx_cwSW 2 hts gL_isSo_L_count rfl rfl rfl hdL_count ⟨Nat.le_of_ble_eq_true rfl, Nat.le_of_ble_eq_true rfl⟩) hK hN (hP.perm pq).left (hD.perm pq).left rfl hl.1 rfl (Nat.le_of_ble_eq_true rfl) dL_isSo_242 ⟨Nat.le_of_ble_eq_true rfl, Nat.le_of_ble_eq_true rfl⟩) hP hD hS hA (fun H locs hP hD hS => ?_)
                    refine lv_aload_n hx hb dL_isSo_245 rfl (lv_at hl 3 rfl) ?_
                    refine lv_iconst (v := 5) hx hb dL_isSo_246 (by decide) ?_
                    refine va_iald hx hb hK hP 0 0 rfl rfl (inb_in (i := 5) (n := 10) (by decide)) dL_isSo_247 ?_
                    refine lv_icmp_ne (tgt := 338) hx hb dL_isSo_248 (by decide) (fun c109 => ?_) (fun c109 => ?_)
                    · have h := if_f c109 h
                      refine lv_iconst (v := 0) hx hb dL_isSo_338 (by decide) ?_
                      cases some_i h
                      exact kx8 _ _ _ hP hD hS (lv_sub hl [1, 2, 3, 4, 5, 6, 7] rfl)
                    · have h := if_t c109 h
                      refine lv_aload_n hx hb dL_isSo_251 rfl (lv_at hl 1 rfl) ?_
                      refine lv_bipush (v := 7) hx hb dL_isSo_252 (by decide) ?_
                      obtain ⟨r110, is111, kr110, h⟩ := bd2_ex h
                      have pq : (((cAr g aq 10 vq) ++ ((cAr g aw 24 vw) ++ ((cAr g ac 21 vc) ++ ((cAr g al 24 vl) ++ ((wBR g ad tx is108 wa st hi)))))) : va_W).Perm (((wBR g ad tx is108 wa st hi)) ++ ((cAr g aq 10 vq) ++ ((cAr g aw 24 vw) ++ ((cAr g ac 21 vc) ++ ((cAr g al 24 vl)))))) := pmS [(cAr g aq 10 vq), (cAr g aw 24 vw), (cAr g ac 21 vc), (cAr g al 24 vl), (wBR g ad tx is108 wa st hi)] [0, 1, 2, 3, 4] [4] [0, 1, 2, 3] (by decide)
                      have pr : ((((wBR g ad tx is111 wa st hi)) ++ ((cAr g aq 10 vq) ++ ((cAr g aw 24 vw) ++ ((cAr g ac 21 vc) ++ ((cAr g al 24 vl)))))) : va_W).Perm ((cAr g aq 10 vq) ++ ((cAr g aw 24 vw) ++ ((cAr g ac 21 vc) ++ ((cAr g al 24 vl) ++ ((wBR g ad tx is111 wa st hi)))))) := (pmS [(cAr g aq 10 vq), (cAr g aw 24 vw), (cAr g ac 21 vc), (cAr g al 24 vl), (wBR g ad tx is111 wa st hi)] [0, 1, 2, 3, 4] [4] [0, 1, 2, 3] (by decide)).symm
                      refine aft_p (st1 := [.int r110]) (ws' := ((cAr g aq 10 vq) ++ ((cAr g aw 24 vw) ++ ((cAr g ac 21 vc) ++ ((cAr g al 24 vl) ++ ((wBR g ad tx is111 wa st hi))))))) rfl pq pr (runW (As := [.ref (ad 0 0), .int (7 : Int32)]) (rest := []) ⟨hx, hb, hml, hown, hts⟩ (kL_count l g ad kr110) (vx_cwSW 2 hts gL_isSo_L_count rfl rfl rfl hdL_count ⟨Nat.le_of_ble_eq_true rfl, Nat.le_of_ble_eq_true rfl⟩) hK hN (hP.perm pq).left (hD.perm pq).left rfl hl.1 rfl (Nat.le_of_ble_eq_true rfl) dL_isSo_254 ⟨Nat.le_of_ble_eq_true rfl, Nat.le_of_ble_eq_true rfl⟩) hP hD hS hA (fun H locs hP hD hS => ?_)
                      refine lv_iload hx hb dL_isSo_257 (lv_at hl 9 rfl) ?_
                      refine lv_icmp_ne (tgt := 338) hx hb dL_isSo_259 (by decide) (fun c112 => ?_) (fun c112 => ?_)
                      · have h := if_f c112 h
                        refine lv_iconst (v := 0) hx hb dL_isSo_338 (by decide) ?_
                        cases some_i h
                        exact kx8 _ _ _ hP hD hS (lv_sub hl [1, 2, 3, 4, 5, 6, 7] rfl)
                      · have h := if_t c112 h
                        refine lv_aload_n hx hb dL_isSo_262 rfl (lv_at hl 1 rfl) ?_
                        refine lv_bipush (v := 8) hx hb dL_isSo_263 (by decide) ?_
                        obtain ⟨r113, is114, kr113, h⟩ := bd2_ex h
                        have pq : (((cAr g aq 10 vq) ++ ((cAr g aw 24 vw) ++ ((cAr g ac 21 vc) ++ ((cAr g al 24 vl) ++ ((wBR g ad tx is111 wa st hi)))))) : va_W).Perm (((wBR g ad tx is111 wa st hi)) ++ ((cAr g aq 10 vq) ++ ((cAr g aw 24 vw) ++ ((cAr g ac 21 vc) ++ ((cAr g al 24 vl)))))) := pmS [(cAr g aq 10 vq), (cAr g aw 24 vw), (cAr g ac 21 vc), (cAr g al 24 vl), (wBR g ad tx is111 wa st hi)] [0, 1, 2, 3, 4] [4] [0, 1, 2, 3] (by decide)
                        have pr : ((((wBR g ad tx is114 wa st hi)) ++ ((cAr g aq 10 vq) ++ ((cAr g aw 24 vw) ++ ((cAr g ac 21 vc) ++ ((cAr g al 24 vl)))))) : va_W).Perm ((cAr g aq 10 vq) ++ ((cAr g aw 24 vw) ++ ((cAr g ac 21 vc) ++ ((cAr g al 24 vl) ++ ((wBR g ad tx is114 wa st hi)))))) := (pmS [(cAr g aq 10 vq), (cAr g aw 24 vw), (cAr g ac 21 vc), (cAr g al 24 vl), (wBR g ad tx is114 wa st hi)] [0, 1, 2, 3, 4] [4] [0, 1, 2, 3] (by decide)).symm
                        refine aft_p (st1 := [.int r113]) (ws' := ((cAr g aq 10 vq) ++ ((cAr g aw 24 vw) ++ ((cAr g ac 21 vc) ++ ((cAr g al 24 vl) ++ ((wBR g ad tx is114 wa st hi))))))) rfl pq pr (runW (As := [.ref (ad 0 0), .int (8 : Int32)]) (rest := []) ⟨hx, hb, hml, hown, hts⟩ (kL_count l g ad kr113) (vx_cwSW 2 hts gL_isSo_L_count rfl rfl rfl hdL_count ⟨Nat.le_of_ble_eq_true rfl, Nat.le_of_ble_eq_true rfl⟩) hK hN (hP.perm pq).left (hD.perm pq).left rfl hl.1 rfl (Nat.le_of_ble_eq_true rfl) dL_isSo_265 ⟨Nat.le_of_ble_eq_true rfl, Nat.le_of_ble_eq_true rfl⟩) hP hD hS hA (fun H locs hP hD hS => ?_)
                        refine lv_iload hx hb dL_isSo_268 (lv_at hl 0 rfl) ?_
                        refine lv_icmp_ne (tgt := 338) hx hb dL_isSo_270 (by decide) (fun c115 => ?_) (fun c115 => ?_)
                        · have h := if_f c115 h
                          refine lv_iconst (v := 0) hx hb dL_isSo_338 (by decide) ?_
                          cases some_i h
                          exact kx8 _ _ _ hP hD hS (lv_sub hl [1, 2, 3, 4, 5, 6, 7] rfl)
                        · have h := if_t c115 h
                          refine lv_aload_n hx hb dL_isSo_273 rfl (lv_at hl 1 rfl) ?_
                          refine lv_bipush (v := 9) hx hb dL_isSo_274 (by decide) ?_
                          obtain ⟨r116, is117, kr116, h⟩ := bd2_ex h
                          have pq : (((cAr g aq 10 vq) ++ ((cAr g aw 24 vw) ++ ((cAr g ac 21 vc) ++ ((cAr g al 24 vl) ++ ((wBR g ad tx is114 wa st hi)))))) : va_W).Perm (((wBR g ad tx is114 wa st hi)) ++ ((cAr g aq 10 vq) ++ ((cAr g aw 24 vw) ++ ((cAr g ac 21 vc) ++ ((cAr g al 24 vl)))))) := pmS [(cAr g aq 10 vq), (cAr g aw 24 vw), (cAr g ac 21 vc), (cAr g al 24 vl), (wBR g ad tx is114 wa st hi)] [0, 1, 2, 3, 4] [4] [0, 1, 2, 3] (by decide)
                          have pr : ((((wBR g ad tx is117 wa st hi)) ++ ((cAr g aq 10 vq) ++ ((cAr g aw 24 vw) ++ ((cAr g ac 21 vc) ++ ((cAr g al 24 vl)))))) : va_W).Perm ((cAr g aq 10 vq) ++ ((cAr g aw 24 vw) ++ ((cAr g ac 21 vc) ++ ((cAr g al 24 vl) ++ ((wBR g ad tx is117 wa st hi)))))) := (pmS [(cAr g aq 10 vq), (cAr g aw 24 vw), (cAr g ac 21 vc), (cAr g al 24 vl), (wBR g ad tx is117 wa st hi)] [0, 1, 2, 3, 4] [4] [0, 1, 2, 3] (by decide)).symm
                          refine aft_p (st1 := [.int r116]) (ws' := ((cAr g aq 10 vq) ++ ((cAr g aw 24 vw) ++ ((cAr g ac 21 vc) ++ ((cAr g al 24 vl) ++ ((wBR g ad tx is117 wa st hi))))))) rfl pq pr (runW (As := [.ref (ad 0 0), .int (9 : Int32)]) (rest := []) ⟨hx, hb, hml, hown, hts⟩ (kL_count l g ad kr116) (vx_cwSW 2 hts gL_isSo_L_count rfl rfl rfl hdL_count ⟨Nat.le_of_ble_eq_true rfl, Nat.le_of_ble_eq_true rfl⟩) hK hN (hP.perm pq).left (hD.perm pq).left rfl hl.1 rfl (Nat.le_of_ble_eq_true rfl) dL_isSo_276 ⟨Nat.le_of_ble_eq_true rfl, Nat.le_of_ble_eq_true rfl⟩) hP hD hS hA (fun H locs hP hD hS => ?_)
                          refine lv_aload_n hx hb dL_isSo_279 rfl (lv_at hl 3 rfl) ?_
                          refine lv_bipush (v := 7) hx hb dL_isSo_280 (by decide) ?_
                          refine va_iald hx hb hK hP 0 0 rfl rfl (inb_in (i := 7) (n := 10) (by decide)) dL_isSo_282 ?_
                          refine lv_icmp_ne (tgt := 338) hx hb dL_isSo_283 (by decide) (fun c118 => ?_) (fun c118 => ?_)
                          · have h := if_f c118 h
                            refine lv_iconst (v := 0) hx hb dL_isSo_338 (by decide) ?_
                            cases some_i h
                            exact kx8 _ _ _ hP hD hS (lv_sub hl [1, 2, 3, 4, 5, 6, 7] rfl)
                          · have h := if_t c118 h
                            refine lv_aload_n hx hb dL_isSo_286 rfl (lv_at hl 1 rfl) ?_
                            refine lv_bipush (v := 10) hx hb dL_isSo_287 (by decide) ?_
                            obtain ⟨r119, is120, kr119, h⟩ := bd2_ex h
                            have pq : (((cAr g aq 10 vq) ++ ((cAr g aw 24 vw) ++ ((cAr g ac 21 vc) ++ ((cAr g al 24 vl) ++ ((wBR g ad tx is117 wa st hi)))))) : va_W).Perm (((wBR g ad tx is117 wa st hi)) ++ ((cAr g aq 10 vq) ++ ((cAr g aw 24 vw) ++ ((cAr g ac 21 vc) ++ ((cAr g al 24 vl)))))) := pmS [(cAr g aq 10 vq), (cAr g aw 24 vw), (cAr g ac 21 vc), (cAr g al 24 vl), (wBR g ad tx is117 wa st hi)] [0, 1, 2, 3, 4] [4] [0, 1, 2, 3] (by decide)
                            have pr : ((((wBR g ad tx is120 wa st hi)) ++ ((cAr g aq 10 vq) ++ ((cAr g aw 24 vw) ++ ((cAr g ac 21 vc) ++ ((cAr g al 24 vl)))))) : va_W).Perm ((cAr g aq 10 vq) ++ ((cAr g aw 24 vw) ++ ((cAr g ac 21 vc) ++ ((cAr g al 24 vl) ++ ((wBR g ad tx is120 wa st hi)))))) := (pmS [(cAr g aq 10 vq), (cAr g aw 24 vw), (cAr g ac 21 vc), (cAr g al 24 vl), (wBR g ad tx is120 wa st hi)] [0, 1, 2, 3, 4] [4] [0, 1, 2, 3] (by decide)).symm
                            refine aft_p (st1 := [.int r119]) (ws' := ((cAr g aq 10 vq) ++ ((cAr g aw 24 vw) ++ ((cAr g ac 21 vc) ++ ((cAr g al 24 vl) ++ ((wBR g ad tx is120 wa st hi))))))) rfl pq pr (runW (As := [.ref (ad 0 0), .int (10 : Int32)]) (rest := []) ⟨hx, hb, hml, hown, hts⟩ (kL_count l g ad kr119) (vx_cwSW 2 hts gL_isSo_L_count rfl rfl rfl hdL_count ⟨Nat.le_of_ble_eq_true rfl, Nat.le_of_ble_eq_true rfl⟩) hK hN (hP.perm pq).left (hD.perm pq).left rfl hl.1 rfl (Nat.le_of_ble_eq_true rfl) dL_isSo_289 ⟨Nat.le_of_ble_eq_true rfl, Nat.le_of_ble_eq_true rfl⟩) hP hD hS hA (fun H locs hP hD hS => ?_)
                            refine lv_aload_n hx hb dL_isSo_292 rfl (lv_at hl 3 rfl) ?_
                            refine lv_bipush (v := 8) hx hb dL_isSo_293 (by decide) ?_
                            refine va_iald hx hb hK hP 0 0 rfl rfl (inb_in (i := 8) (n := 10) (by decide)) dL_isSo_295 ?_
                            refine lv_icmp_ne (tgt := 338) hx hb dL_isSo_296 (by decide) (fun c121 => ?_) (fun c121 => ?_)
                            · have h := if_f c121 h
                              refine lv_iconst (v := 0) hx hb dL_isSo_338 (by decide) ?_
                              cases some_i h
                              exact kx8 _ _ _ hP hD hS (lv_sub hl [1, 2, 3, 4, 5, 6, 7] rfl)
                            · have h := if_t c121 h
                              refine lv_aload_n hx hb dL_isSo_299 rfl (lv_at hl 1 rfl) ?_
                              refine lv_bipush (v := 11) hx hb dL_isSo_300 (by decide) ?_
                              obtain ⟨r122, is123, kr122, h⟩ := bd2_ex h
                              have pq : (((cAr g aq 10 vq) ++ ((cAr g aw 24 vw) ++ ((cAr g ac 21 vc) ++ ((cAr g al 24 vl) ++ ((wBR g ad tx is120 wa st hi)))))) : va_W).Perm (((wBR g ad tx is120 wa st hi)) ++ ((cAr g aq 10 vq) ++ ((cAr g aw 24 vw) ++ ((cAr g ac 21 vc) ++ ((cAr g al 24 vl)))))) := pmS [(cAr g aq 10 vq), (cAr g aw 24 vw), (cAr g ac 21 vc), (cAr g al 24 vl), (wBR g ad tx is120 wa st hi)] [0, 1, 2, 3, 4] [4] [0, 1, 2, 3] (by decide)
                              have pr : ((((wBR g ad tx is123 wa st hi)) ++ ((cAr g aq 10 vq) ++ ((cAr g aw 24 vw) ++ ((cAr g ac 21 vc) ++ ((cAr g al 24 vl)))))) : va_W).Perm ((cAr g aq 10 vq) ++ ((cAr g aw 24 vw) ++ ((cAr g ac 21 vc) ++ ((cAr g al 24 vl) ++ ((wBR g ad tx is123 wa st hi)))))) := (pmS [(cAr g aq 10 vq), (cAr g aw 24 vw), (cAr g ac 21 vc), (cAr g al 24 vl), (wBR g ad tx is123 wa st hi)] [0, 1, 2, 3, 4] [4] [0, 1, 2, 3] (by decide)).symm
                              refine aft_p (st1 := [.int r122]) (ws' := ((cAr g aq 10 vq) ++ ((cAr g aw 24 vw) ++ ((cAr g ac 21 vc) ++ ((cAr g al 24 vl) ++ ((wBR g ad tx is123 wa st hi))))))) rfl pq pr (runW (As := [.ref (ad 0 0), .int (11 : Int32)]) (rest := []) ⟨hx, hb, hml, hown, hts⟩ (kL_count l g ad kr122) (vx_cwSW 2 hts gL_isSo_L_count rfl rfl rfl hdL_count ⟨Nat.le_of_ble_eq_true rfl, Nat.le_of_ble_eq_true rfl⟩) hK hN (hP.perm pq).left (hD.perm pq).left rfl hl.1 rfl (Nat.le_of_ble_eq_true rfl) dL_isSo_302 ⟨Nat.le_of_ble_eq_true rfl, Nat.le_of_ble_eq_true rfl⟩) hP hD hS hA (fun H locs hP hD hS => ?_)
                              refine lv_aload_n hx hb dL_isSo_305 rfl (lv_at hl 3 rfl) ?_
                              refine lv_bipush (v := 6) hx hb dL_isSo_306 (by decide) ?_
                              refine va_iald hx hb hK hP 0 0 rfl rfl (inb_in (i := 6) (n := 10) (by decide)) dL_isSo_308 ?_
                              refine lv_icmp_ne (tgt := 338) hx hb dL_isSo_309 (by decide) (fun c124 => ?_) (fun c124 => ?_)
                              · have h := if_f c124 h
                                refine lv_iconst (v := 0) hx hb dL_isSo_338 (by decide) ?_
                                cases some_i h
                                exact kx8 _ _ _ hP hD hS (lv_sub hl [1, 2, 3, 4, 5, 6, 7] rfl)
                              · have h := if_t c124 h
                                refine lv_aload_n hx hb dL_isSo_312 rfl (lv_at hl 1 rfl) ?_
                                refine lv_iconst (v := 0) hx hb dL_isSo_313 (by decide) ?_
                                obtain ⟨r125, kr125, h⟩ := bd_ex h
                                have pq : (((cAr g aq 10 vq) ++ ((cAr g aw 24 vw) ++ ((cAr g ac 21 vc) ++ ((cAr g al 24 vl) ++ ((wBR g ad tx is123 wa st hi)))))) : va_W).Perm (((wBR g ad tx is123 wa st hi)) ++ ((cAr g aq 10 vq) ++ ((cAr g aw 24 vw) ++ ((cAr g ac 21 vc) ++ ((cAr g al 24 vl)))))) := pmS [(cAr g aq 10 vq), (cAr g aw 24 vw), (cAr g ac 21 vc), (cAr g al 24 vl), (wBR g ad tx is123 wa st hi)] [0, 1, 2, 3, 4] [4] [0, 1, 2, 3] (by decide)
                                have pr : ((((wBR g ad tx is123 wa st hi)) ++ ((cAr g aq 10 vq) ++ ((cAr g aw 24 vw) ++ ((cAr g ac 21 vc) ++ ((cAr g al 24 vl)))))) : va_W).Perm ((cAr g aq 10 vq) ++ ((cAr g aw 24 vw) ++ ((cAr g ac 21 vc) ++ ((cAr g al 24 vl) ++ ((wBR g ad tx is123 wa st hi)))))) := (pmS [(cAr g aq 10 vq), (cAr g aw 24 vw), (cAr g ac 21 vc), (cAr g al 24 vl), (wBR g ad tx is123 wa st hi)] [0, 1, 2, 3, 4] [4] [0, 1, 2, 3] (by decide)).symm
                                refine aft_p (st1 := [.int r125]) (ws' := ((cAr g aq 10 vq) ++ ((cAr g aw 24 vw) ++ ((cAr g ac 21 vc) ++ ((cAr g al 24 vl) ++ ((wBR g ad tx is123 wa st hi))))))) rfl pq pr (runW (As := [.ref (ad 0 0), .int (0 : Int32)]) (rest := []) ⟨hx, hb, hml, hown, hts⟩ (kL_setting l g ad kr125) (vx_cwSW 2 hts gL_isSo_L_setting rfl rfl rfl hdL_setting ⟨Nat.le_of_ble_eq_true rfl, Nat.le_of_ble_eq_true rfl⟩) hK hN (hP.perm pq).left (hD.perm pq).left rfl hl.1 rfl (Nat.le_of_ble_eq_true rfl) dL_isSo_314 ⟨Nat.le_of_ble_eq_true rfl, Nat.le_of_ble_eq_true rfl⟩) hP hD hS hA (fun H locs hP hD hS => ?_)
                                refine lv_aload_n hx hb dL_isSo_317 rfl (lv_at hl 3 rfl) ?_
                                refine lv_iconst (v := 3) hx hb dL_isSo_318 (by decide) ?_
                                refine va_iald hx hb hK hP 0 0 rfl rfl (inb_in (i := 3) (n := 10) (by decide)) dL_isSo_319 ?_
                                refine lv_icmp_ne (tgt := 338) hx hb dL_isSo_320 (by decide) (fun c126 => ?_) (fun c126 => ?_)
                                · have h := if_f c126 h
                                  refine lv_iconst (v := 0) hx hb dL_isSo_338 (by decide) ?_
                                  cases some_i h
                                  exact kx8 _ _ _ hP hD hS (lv_sub hl [1, 2, 3, 4, 5, 6, 7] rfl)
                                · have h := if_t c126 h
                                  refine lv_aload_n hx hb dL_isSo_323 rfl (lv_at hl 1 rfl) ?_
                                  refine lv_iconst (v := 1) hx hb dL_isSo_324 (by decide) ?_
                                  obtain ⟨r127, kr127, h⟩ := bd_ex h
                                  have pq : (((cAr g aq 10 vq) ++ ((cAr g aw 24 vw) ++ ((cAr g ac 21 vc) ++ ((cAr g al 24 vl) ++ ((wBR g ad tx is123 wa st hi)))))) : va_W).Perm (((wBR g ad tx is123 wa st hi)) ++ ((cAr g aq 10 vq) ++ ((cAr g aw 24 vw) ++ ((cAr g ac 21 vc) ++ ((cAr g al 24 vl)))))) := pmS [(cAr g aq 10 vq), (cAr g aw 24 vw), (cAr g ac 21 vc), (cAr g al 24 vl), (wBR g ad tx is123 wa st hi)] [0, 1, 2, 3, 4] [4] [0, 1, 2, 3] (by decide)
                                  have pr : ((((wBR g ad tx is123 wa st hi)) ++ ((cAr g aq 10 vq) ++ ((cAr g aw 24 vw) ++ ((cAr g ac 21 vc) ++ ((cAr g al 24 vl)))))) : va_W).Perm ((cAr g aq 10 vq) ++ ((cAr g aw 24 vw) ++ ((cAr g ac 21 vc) ++ ((cAr g al 24 vl) ++ ((wBR g ad tx is123 wa st hi)))))) := (pmS [(cAr g aq 10 vq), (cAr g aw 24 vw), (cAr g ac 21 vc), (cAr g al 24 vl), (wBR g ad tx is123 wa st hi)] [0, 1, 2, 3, 4] [4] [0, 1, 2, 3] (by decide)).symm
                                  refine aft_p (st1 := [.int r127]) (ws' := ((cAr g aq 10 vq) ++ ((cAr g aw 24 vw) ++ ((cAr g ac 21 vc) ++ ((cAr g al 24 vl) ++ ((wBR g ad tx is123 wa st hi))))))) rfl pq pr (runW (As := [.ref (ad 0 0), .int (1 : Int32)]) (rest := []) ⟨hx, hb, hml, hown, hts⟩ (kL_setting l g ad kr127) (vx_cwSW 2 hts gL_isSo_L_setting rfl rfl rfl hdL_setting ⟨Nat.le_of_ble_eq_true rfl, Nat.le_of_ble_eq_true rfl⟩) hK hN (hP.perm pq).left (hD.perm pq).left rfl hl.1 rfl (Nat.le_of_ble_eq_true rfl) dL_isSo_325 ⟨Nat.le_of_ble_eq_true rfl, Nat.le_of_ble_eq_true rfl⟩) hP hD hS hA (fun H locs hP hD hS => ?_)
                                  refine lv_aload_n hx hb dL_isSo_328 rfl (lv_at hl 3 rfl) ?_
                                  refine lv_iconst (v := 4) hx hb dL_isSo_329 (by decide) ?_
                                  refine va_iald hx hb hK hP 0 0 rfl rfl (inb_in (i := 4) (n := 10) (by decide)) dL_isSo_330 ?_
                                  refine lv_icmp_ne (tgt := 338) hx hb dL_isSo_331 (by decide) (fun c128 => ?_) (fun c128 => ?_)
                                  · have h := if_f c128 h
                                    refine lv_iconst (v := 0) hx hb dL_isSo_338 (by decide) ?_
                                    cases some_i h
                                    exact kx8 _ _ _ hP hD hS (lv_sub hl [1, 2, 3, 4, 5, 6, 7] rfl)
                                  · have h := if_t c128 h
                                    refine lv_iconst (v := 1) hx hb dL_isSo_334 (by decide) ?_
                                    refine lv_goto (tgt := 339) hx hb dL_isSo_335 (by decide) ?_
                                    cases some_i h
                                    exact kx8 _ _ _ hP hD hS (lv_sub hl [1, 2, 3, 4, 5, 6, 7] rfl)
      have h := kj39
      refine lv_if_ge (tgt := 172) hx hb dL_isSo_165 (by decide) (fun c129 => ?_) (fun c129 => ?_)
      · have h := if_t c129 h
        refine lv_iconst (v := 1) hx hb dL_isSo_172 (by decide) ?_
        cases some_i h
        exact kx7 _ _ _ hP hD hS (lv_sub hl [0, 1, 2, 3, 4, 5, 6, 7, 8] rfl)
      · have h := if_f c129 h
        refine lv_iconst (v := 0) hx hb dL_isSo_168 (by decide) ?_
        refine lv_goto (tgt := 173) hx hb dL_isSo_169 (by decide) ?_
        cases some_i h
        exact kx7 _ _ _ hP hD hS (lv_sub hl [0, 1, 2, 3, 4, 5, 6, 7, 8] rfl)
    have h := kj38
    refine lv_if_ge (tgt := 158) hx hb dL_isSo_151 (by decide) (fun c130 => ?_) (fun c130 => ?_)
    · have h := if_t c130 h
      refine lv_iconst (v := 1) hx hb dL_isSo_158 (by decide) ?_
      cases some_i h
      exact kx6 _ _ _ hP hD hS (lv_sub hl [0, 1, 2, 3, 4, 5, 6, 7, 8] rfl)
    · have h := if_f c130 h
      refine lv_iconst (v := 0) hx hb dL_isSo_154 (by decide) ?_
      refine lv_goto (tgt := 159) hx hb dL_isSo_155 (by decide) ?_
      cases some_i h
      exact kx6 _ _ _ hP hD hS (lv_sub hl [0, 1, 2, 3, 4, 5, 6, 7, 8] rfl)
  have h := kj37
  refine lv_if_ge (tgt := 145) hx hb dL_isSo_138 (by decide) (fun c131 => ?_) (fun c131 => ?_)
  · have h := if_t c131 h
    refine lv_iconst (v := 1) hx hb dL_isSo_145 (by decide) ?_
    cases some_i h
    exact kx5 _ _ _ hP hD hS (lv_sub hl [0, 1, 2, 3, 4, 5, 6, 7, 8] rfl)
  · have h := if_f c131 h
    refine lv_iconst (v := 0) hx hb dL_isSo_141 (by decide) ?_
    refine lv_goto (tgt := 146) hx hb dL_isSo_142 (by decide) ?_
    cases some_i h
    exact kx5 _ _ _ hP hD hS (lv_sub hl [0, 1, 2, 3, 4, 5, 6, 7, 8] rfl)
end LM
