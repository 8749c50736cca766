section LW
def fL_cell (L : Nat) (xs : Nat → Int32) (k : Int32) : Option Int32 := if Int32.ofNat L ≤ k then some ((40093 : Int32) * (k + 7) + 2225619) else ck (inb k L) (some (xs k.toNatClampNeg))
def PgS (g : GG) (av : List Value) (b L : Nat) (xs : Nat → Int32) (sz : Nat) : Array Value → State → Prop := va_Pc av (fun U => U.heap.size = sz ∧ va_X b L xs U U.heap ∧ b < sz)
theorem PgS_blind (g : GG) (av : List Value) (b L : Nat) (xs : Nat → Int32) (sz : Nat) : FrameBlind (PgS g av b L xs sz) := fun a U gg mk q => by
  obtain ⟨q0, q1, qX, q2⟩ := q
  exact ⟨q0, q1, va_X.moved (u := U) (U := U.calling gg mk a) (Vm.Alike.refl U.vm) qX, q2⟩
def CellC (l : Launch) (g : GG) (y : MethodName) (ws : List Cond) (rm : Room) (av : List Value) (b L : Nat) (xs : Nat → Int32) (rv : Option Value) : Prop :=
  ∀ sz : Nat, Met l y ws rm (PgS g av b L xs sz) (Qg rv (Bg g [] [] sz) (va_A [] sz)) 0 0 (va_A [] sz)
abbrev rL_cell : Room := { frames := 0, cells := 0, slots := 0, locals := 0 }
theorem hdL_cell : yL_cell.cls ≠ "java/lang/invoke/MethodHandle" ∧ yL_cell.cls ≠ "java/lang/invoke/VarHandle" ∧ (parseMethodDescriptor yL_cell.desc).map (fun d => d.parameters.length) = some 2 := by decide +kernel
set_option maxRecDepth 100000 in
theorem kL_cell (l : Launch) (g : GG) {b L : Nat} {xs : Nat → Int32} {k v : Int32} (h : fL_cell L xs k = some v) : CellC l g yL_cell wsL_cell rL_cell [.ref b, .int k] b L xs (some (.int v)) := by
  intro sz
  refine Met.ofWF (cc := cL_cell) (maxL := 2) (ret := some .int) (by decide +kernel) rfl ?_
  intro p e s m args below meth c s₁ B hml hv
  obtain ⟨rfl, hsz, hXs, hbl⟩ := hv
  have hx := B.exec
  have hb := B.bytes
  have hr := B.returns
  have hts := atoms_spec (ws := wsL_cell) B.pre
  have hown : s.vm.findClass yL_cell.cls = some m.cls := findClass_of_methodNamed B.named
  have hlocks := B.notSynchronized
  subst hsz
  have hl := lv_entry [.ref b, .int k] (n := 2) (Nat.le_of_ble_eq_true rfl)
  rw [lg_entry_eq]
  have hbA : ¬ va_A [] s.heap.size b := by
    rintro (⟨k2, e2, h2⟩ | h2)
    · simp at h2
    · exact absurd hbl (Nat.not_lt.mpr h2)
  have hS : va_S (va_A [] s.heap.size) s.heap s.heap [] := va_S.rf
  have hl : lv_has _ 2 [(0, .ref b), (1, .int k)] := hl
  refine lv_iload_n hx hb dL_cell_0 rfl (lv_at hl 1 rfl) ?_
  refine lv_aload_n hx hb dL_cell_1 rfl (lv_at hl 0 rfl) ?_
  refine va_slen hx hb hXs hbl hbA hS dL_cell_2 ?_
  have fin : ∀ (pc : Nat) (ls : Array Slot), decode cL_cell pc = .ok (.ireturn, 1) → W p l e (headSpec wsL_cell rL_cell).room s m #[Value.ref b, Value.int k] below meth c s.heap [] 0 0 (MQ below (Qg (some (.int v)) (Bg g [] [] s.heap.size) (va_A [] s.heap.size)) #[Value.ref b, Value.int k] s 0 0 (va_A [] s.heap.size)) (F0 m pc ls [.int v]) := fun pc ls hd =>
    ret_end hx hb hr hlocks (fun t ht hW => ⟨⟨rfl, fun k q h => by simp at h, ⟨fun i j x y h => by simp at h, fun k q h => by simp at h⟩⟩, hS.F ht⟩) hS.2.2 (RetOK.i hd)
  unfold fL_cell at h
  refine lv_icmp_ge (tgt := 12) hx hb dL_cell_3 (by decide) (fun c1 => ?_) (fun c1 => ?_)
  · have h := if_t c1 h
    refine lv_ldc hx hb hown (hts (.constant RL 7 (40093)) (List.mem_of_getElem? (i := 1) rfl)) dL_cell_12 ?_
    refine lv_iload_n hx hb dL_cell_14 rfl (lv_at hl 1 rfl) ?_
    refine lv_bipush (v := 7) hx hb dL_cell_15 (by decide) ?_
    refine lv_iadd hx hb dL_cell_17 ?_
    refine lv_imul hx hb dL_cell_18 ?_
    refine lv_ldc hx hb hown (hts (.constant RL 8 (2225619)) (List.mem_of_getElem? (i := 2) rfl)) dL_cell_19 ?_
    refine lv_iadd hx hb dL_cell_21 ?_
    cases some_i h
    exact fin 22 _ dL_cell_22
  · have h := if_f c1 h
    obtain ⟨hi9, h⟩ := ck_ex h
    refine lv_aload_n hx hb dL_cell_6 rfl (lv_at hl 0 rfl) ?_
    refine lv_iload_n hx hb dL_cell_7 rfl (lv_at hl 1 rfl) ?_
    refine va_sld hx hb hXs hbl hbA hS (inb_in hi9) dL_cell_8 ?_
    refine lv_goto (tgt := 22) hx hb dL_cell_9 (by decide) ?_
    cases some_i h
    exact fin 22 _ dL_cell_22
theorem runCell {p : Program} {l : Launch} {e : Env} {R : Room} {s : State} {m : MethodId} {args : Array Value} {below : List Frame} {meth : Method} {c : Code} {H : Heap} {locs : List Loc} {cells slots : Nat} {g : GG} {A : Nat → Prop} {pc : Nat} {ls : Array Slot} {rest st0 : List Value} {rv : Option Value} {y : MethodName} {bytes cc : ByteArray} {maxL nL n index b L : Nat} {xs : Nat → Int32} {ret : Option FieldType} {ws : List Cond} {rm : Room} {Ts : List Cond} {own : String} {As : List Value} (S : CallFix p m c cc nL s args Ts own) (hC : CellC l g y ws rm As b L xs rv) (cw : CallB R s args own index y bytes maxL ret ws rm 0 0 n ∧ (Cond.static y).before args s = true) (hXs : va_X b L xs s s.heap) (hbl : b < s.heap.size) (hbA : ¬ A b) (hS : va_S A s.heap H locs)
    (hn : As.length = n) (hsize : ls.size = nL) (hst : st0 = As.reverse ++ rest) (hW : (rest.map fun v => v.category).sum ≤ 8) (hdg : decode cc pc = .ok (.invokestatic index, 3)) (hf : cells ≤ R.cells ∧ slots ≤ R.slots) : Rung p l e R s m args below meth c H locs cells slots (F0 m pc ls st0) rest g As [] rv [] :=
  va_runS (As := As) (rest := rest) S (hC H.size) cw ⟨PgS_blind _ _ _ _ _ _, fun U hU hW => ⟨rfl, by rw [hU], by rw [hU]; exact va_X.moved hW.alike (va_X.kept hXs (hS.2.1 b hbl hbA)), Nat.lt_of_lt_of_le hbl hS.1⟩⟩ rfl hn hsize hst (lv_room hW) hdg hf
def LCx (p : Program) (s : State) (m : MethodId) (args : Array Value) (c : Code) (b L : Nat) (xs : Nat → Int32) (g : GG) (A : Nat → Prop) : Prop :=
  p.tables.exec = Jvm.exec ∧ c.code = cL_law ∧ c.maxLocals = 16 ∧ s.vm.findClass RL = some m.cls ∧ (∀ w ∈ wsL_law, w.before args s = true) ∧ va_K g.1 vwCl (tyL g) s ∧ Nst s ∧ Xt s ∧ (∀ q : Nat, s.heap.size ≤ q → A q) ∧ va_X b L xs s s.heap ∧ b < s.heap.size ∧ ¬ A b ∧ Zs A s s.heap
def fL_law_L362 (vq : AI) (vw : AI) (vc : AI) (r2 : Int32) (j5 : Int32) (j6 : Int32) : Nat → Int32 → Int32 → Option (Int32)
  | 0, _, _ => none
  | n + 1, v11_9, v13_10 =>
    (if j5 = (2 : Int32) then
    (if (vq (0 : Int32).toNatClampNeg) ≤ v13_10 then
    (some v11_9)
    else
    (bd (fL_low (r2 >>> ((20 : Int32) &&& 31)) (5 : Int32)) fun (r14 : Int32) =>
    (if r14 ≤ (0 : Int32) then
    (some v11_9)
    else
    (if (vq (0 : Int32).toNatClampNeg) ≤ v11_9 then
    (bd (if (v11_9 + (1 : Int32)) < (vq (0 : Int32).toNatClampNeg) then
    (some (v11_9 + (1 : Int32)))
    else
    (some (0 : Int32))) fun (j17 : Int32) =>
    (pl ((v13_10 + (1 : Int32))) fun (x18 : Int32) =>
    (fL_law_L362 vq vw vc r2 j5 j6 n j17 x18)))
    else
    (bd (fL_whyNot vq vw vc j6 v11_9) fun (r20 : Int32) =>
    (if r20 = (0 : Int32) then
    (some v11_9)
    else
    (bd (if (v11_9 + (1 : Int32)) < (vq (0 : Int32).toNatClampNeg) then
    (some (v11_9 + (1 : Int32)))
    else
    (some (0 : Int32))) fun (j22 : Int32) =>
    (pl ((v13_10 + (1 : Int32))) fun (x23 : Int32) =>
    (fL_law_L362 vq vw vc r2 j5 j6 n j22 x23)))))))))
    else
    (some v11_9))
def fL_body (L : Nat) (xs : Nat → Int32) (tx : Tx) (is : Is) (wa : Wa) (st : St) (hi : Hi) (vq : AI) (vw : AI) (vc : AI) (vl : AI) (v6 : Int32) : Option (Option (Tx × Is × Wa × St × Hi × AI × AI × AI × AI)) :=
(bd (fL_cell L xs ((2 : Int32) * v6)) fun (r1 : Int32) =>
(bd (fL_cell L xs (((2 : Int32) * v6) + (1 : Int32))) fun (r2 : Int32) =>
(bd (fL_low r1 (22 : Int32)) fun (r3 : Int32) =>
(bd (if v6 < (3 : Int32) then
(some (0 : Int32))
else
(if (2 : Int32) ≤ r3 then
(if (7 : Int32) ≤ r3 then
(if (14 : Int32) ≤ r3 then
(if (18 : Int32) ≤ r3 then
(if (20 : Int32) ≤ r3 then
(if r3 = (20 : Int32) then
(some (6 : Int32))
else
(some (2 : Int32)))
else
(some (r3 - (14 : Int32))))
else
(some (3 : Int32)))
else
(some (2 : Int32)))
else
(some (1 : Int32)))
else
(some (0 : Int32)))) fun (j4 : Int32) =>
(bd (if j4 = (4 : Int32) then
(if (v6 - v6 / (3 : Int32) * (3 : Int32)) ≤ (0 : Int32) then
(some j4)
else
(some (2 : Int32)))
else
(some j4)) fun (j5 : Int32) =>
(bd (if j5 = (0 : Int32) then
(some (r2 &&& (1048575 : Int32)))
else
(if j5 = (5 : Int32) then
(bd (fL_low r2 (2 : Int32)) fun (r95 : Int32) =>
(some r95))
else
(if j5 = (6 : Int32) then
(bd (fL_low r2 (4 : Int32)) fun (r94 : Int32) =>
(some r94))
else
(bd (fL_low r2 (3 : Int32)) fun (r93 : Int32) =>
(some r93))))) fun (j6 : Int32) =>
(bd (if j5 = (0 : Int32) then
(some (r2 >>> ((20 : Int32) &&& 31)))
else
(if j5 = (5 : Int32) then
(bd (fL_low (r2 >>> ((2 : Int32) &&& 31)) (7 : Int32)) fun (r89 : Int32) =>
(some ((1 : Int32) + r89)))
else
(if j5 = (6 : Int32) then
(bd (fL_low (r2 >>> ((2 : Int32) &&& 31)) (8 : Int32)) fun (r88 : Int32) =>
(some r88))
else
(bd (fL_low (r2 >>> ((2 : Int32) &&& 31)) ((vq (0 : Int32).toNatClampNeg) + (1 : Int32))) fun (r87 : Int32) =>
(some r87))))) fun (j7 : Int32) =>
(bd (fL_low (r2 >>> ((8 : Int32) &&& 31)) ((vq (0 : Int32).toNatClampNeg) + (1 : Int32))) fun (r8 : Int32) =>
(bd (fL_law_L362 vq vw vc r2 j5 j6 1000 j7 (0 : Int32)) fun (v11_25 : Int32) =>
(bd3 (fL_told tx is wa st hi) fun (r26 : Int64) (is27 : Is) (wa28 : Wa) =>
(bd5 (fL_call tx is27 wa28 st hi j5 j6 v11_25 r8) fun (r29 : Int32) (tx30 : Tx) (wa31 : Wa) (st32 : St) (hi33 : Hi) =>
(if (-100 : Int32) ≤ r29 then
(if ((r1 >>> ((24 : Int32) &&& 31)) &&& (3 : Int32)) = (0 : Int32) then
(bd3 (fL_undo tx30 is27 wa31 st32 hi33) fun (r46 : Int32) (st47 : St) (hi48 : Hi) =>
(if r46 < (0 : Int32) then
(some none)
else
(bd3 (fL_told tx30 is27 wa31 st47 hi48) fun (r50 : Int64) (is51 : Is) (wa52 : Wa) =>
(if (lg_cmp r50 r26) = (0 : Int32) then
(bd5 (fL_call tx30 is51 wa52 st47 hi48 j5 j6 v11_25 r8) fun (r54 : Int32) (tx55 : Tx) (wa56 : Wa) (st57 : St) (hi58 : Hi) =>
(if r54 = r29 then
(bd4 (fL_due vq vw vc vl j5 j6 v11_25 r8) fun (r60 : Int32) (vq61 : AI) (vw62 : AI) (vc63 : AI) =>
(if r29 = r60 then
(bd (fL_lays vq61 vw62 vl) fun (vl65 : AI) =>
(bd3 (fL_isSo tx55 is51 wa56 st57 hi58 vq61 vw62 vc63 vl65 (r1 >>> ((5 : Int32) &&& 31))) fun (r66 : Int32) (is67 : Is) (wa68 : Wa) =>
(if r66 = (0 : Int32) then
(some none)
else
(some (some (tx55, is67, wa68, st57, hi58, vq61, vw62, vc63, vl65))))))
else
(some none)))
else
(some none)))
else
(some none)))))
else
(bd4 (fL_due vq vw vc vl j5 j6 v11_25 r8) fun (r36 : Int32) (vq37 : AI) (vw38 : AI) (vc39 : AI) =>
(if r29 = r36 then
(bd (fL_lays vq37 vw38 vl) fun (vl41 : AI) =>
(bd3 (fL_isSo tx30 is27 wa31 st32 hi33 vq37 vw38 vc39 vl41 (r1 >>> ((5 : Int32) &&& 31))) fun (r42 : Int32) (is43 : Is) (wa44 : Wa) =>
(if r42 = (0 : Int32) then
(some none)
else
(some (some (tx30, is43, wa44, st32, hi33, vq37, vw38, vc39, vl41))))))
else
(some none))))
else
(bd3 (fL_told tx30 is27 wa31 st32 hi33) fun (r70 : Int64) (is71 : Is) (wa72 : Wa) =>
(if (lg_cmp r70 r26) = (0 : Int32) then
(bd4 (fL_due vq vw vc vl j5 j6 v11_25 r8) fun (r74 : Int32) (vq75 : AI) (vw76 : AI) (vc77 : AI) =>
(if r29 = r74 then
(bd (fL_lays vq75 vw76 vl) fun (vl79 : AI) =>
(bd3 (fL_isSo tx30 is71 wa72 st32 hi33 vq75 vw76 vc77 vl79 (r1 >>> ((5 : Int32) &&& 31))) fun (r80 : Int32) (is81 : Is) (wa82 : Wa) =>
(if r80 = (0 : Int32) then
(some none)
else
(some (some (tx30, is81, wa82, st32, hi33, vq75, vw76, vc77, vl79))))))
else
(some none)))
else
(some none)))))))))))))))
set_option maxRecDepth 100000 in
set_option maxHeartbeats 32000000 in
theorem law_body {p : Program} {l : Launch} {e : Env} {su : State} {m : MethodId} {args : Array Value} {below : List Frame} {meth : Method} {c : Code} {b L : Nat} {xs : Nat → Int32} {g : GG} {A : Nat → Prop} {Q : State → Prop} (hst : l.stackTraces = false) (LC : LCx p su m args c b L xs g A) (aq aw ac al : Nat) (ad : Nat → Nat → Nat) {v6 : Int32} {tx : Tx} {is : Is} {wa : Wa} {st : St} {hi : Hi} {vq : AI} {vw : AI} {vc : AI} {vl : AI} {tx' : Tx} {is' : Is} {wa' : Wa} {st' : St} {hi' : Hi} {vq' : AI} {vw' : AI} {vc' : AI} {vl' : AI} {H : Heap} {locs : List Loc} {ls : Array Slot} (cells slots : Nat) (hro : cells + 3 ≤ 600130 ∧ slots + 18 ≤ 7301080) (h : fL_body L xs tx is wa st hi vq vw vc vl v6 = some (some (tx', is', wa', st', hi', vq', vw', vc', vl'))) (hP : va_P g.1 vwCl ((cAr g aq 10 vq) ++ ((cAr g aw 24 vw) ++ ((cAr g ac 21 vc) ++ ((cAr g al 24 vl) ++ ((wBR g ad tx is wa st hi)))))) H) (hD : va_D A ((cAr g aq 10 vq) ++ ((cAr g aw 24 vw) ++ ((cAr g ac 21 vc) ++ ((cAr g al 24 vl) ++ ((wBR g ad tx is wa st hi))))))) (hS : va_S A su.heap H locs) (hl : lv_has ls 16 [(0, .ref b), (1, .ref (ad 0 0)), (2, .ref aq), (3, .ref aw), (4, .ref ac), (5, .ref al), (6, .int v6)]) (kx : ∀ (H : Heap) (locs : List Loc) (ls : Array Slot), va_P g.1 vwCl ((cAr g aq 10 vq') ++ ((cAr g aw 24 vw') ++ ((cAr g ac 21 vc') ++ ((cAr g al 24 vl') ++ ((wBR g ad tx' is' wa' st' hi')))))) H → va_D A ((cAr g aq 10 vq') ++ ((cAr g aw 24 vw') ++ ((cAr g ac 21 vc') ++ ((cAr g al 24 vl') ++ ((wBR g ad tx' is' wa' st' hi')))))) → va_S A su.heap H locs → lv_has ls 16 [(0, .ref b), (1, .ref (ad 0 0)), (2, .ref aq), (3, .ref aw), (4, .ref ac), (5, .ref al), (6, .int v6)] → W p l e room_1 su m args below meth c H locs (cells + 1 + 1 + 1) (slots + 6 + 6 + 6) Q (F0 m 572 ls [])) : W p l e room_1 su m args below meth c H locs cells slots Q (F0 m 95 ls []) := by
  obtain ⟨hx, hb, hml, hown, hts, hK, hN, hX, hA, hXs, hbl, hbA, hZ⟩ := LC
  unfold fL_body at h
  refine lv_aload_n hx hb dL_law_95 rfl (lv_at hl 0 rfl) ?_
  refine lv_iconst (v := 2) hx hb dL_law_96 (by decide) ?_
  refine lv_iload hx hb dL_law_97 (lv_at hl 6 rfl) ?_
  refine lv_imul hx hb dL_law_99 ?_
  obtain ⟨r1, kr1, h⟩ := bd_ex h
  refine aft_e (st1 := [.int r1]) rfl (runCell (As := [.ref b, .int ((2 : Int32) * v6)]) (rest := []) ⟨hx, hb, hml, hown, hts⟩ (kL_cell l g (b := b) kr1) (va_cwS 2 hts gL_law_L_cell rfl rfl rfl hdL_cell ⟨Nat.le_of_ble_eq_true rfl, Nat.le_of_ble_eq_true rfl⟩) hXs hbl hbA hS rfl hl.1 rfl (Nat.le_of_ble_eq_true rfl) dL_law_100 ⟨by have := hro.1; show _ ≤ 600130; omega, by have := hro.2; show _ ≤ 7301080; omega⟩) hP hS hA (fun H locs hP hS => ?_)
  refine lv_istore (lv' := [(7, .int r1), (0, .ref b), (1, .ref (ad 0 0)), (2, .ref aq), (3, .ref aw), (4, .ref ac), (5, .ref al), (6, .int v6)]) hx hb dL_law_103 hl (by decide) rfl (fun ls hl => ?_)
  refine lv_aload_n hx hb dL_law_105 rfl (lv_at hl 1 rfl) ?_
  refine lv_iconst (v := 2) hx hb dL_law_106 (by decide) ?_
  refine lv_iload hx hb dL_law_107 (lv_at hl 7 rfl) ?_
  refine lv_imul hx hb dL_law_109 ?_
  refine lv_iconst (v := 1) hx hb dL_law_110 (by decide) ?_
  refine lv_iadd hx hb dL_law_111 ?_
  obtain ⟨r2, kr2, h⟩ := bd_ex h
  refine aft_e (st1 := [.int r2]) rfl (runCell (As := [.ref b, .int (((2 : Int32) * v6) + (1 : Int32))]) (rest := []) ⟨hx, hb, hml, hown, hts⟩ (kL_cell l g (b := b) kr2) (va_cwS 2 hts gL_law_L_cell rfl rfl rfl hdL_cell ⟨Nat.le_of_ble_eq_true rfl, Nat.le_of_ble_eq_true rfl⟩) hXs hbl hbA hS rfl hl.1 rfl (Nat.le_of_ble_eq_true rfl) dL_law_112 ⟨by have := hro.1; show _ ≤ 600130; omega, by have := hro.2; show _ ≤ 7301080; omega⟩) hP hS hA (fun H locs hP hS => ?_)
  refine lv_istore (lv' := [(8, .int r2), (7, .int r1), (0, .ref b), (1, .ref (ad 0 0)), (2, .ref aq), (3, .ref aw), (4, .ref ac), (5, .ref al), (6, .int v6)]) hx hb dL_law_115 hl (by decide) rfl (fun ls hl => ?_)
  refine lv_iload hx hb dL_law_117 (lv_at hl 1 rfl) ?_
  refine lv_bipush (v := 22) hx hb dL_law_119 (by decide) ?_
  obtain ⟨r3, kr3, h⟩ := bd_ex h
  refine aft_e (st1 := [.int r3]) rfl (runS (As := [.int r1, .int (22 : Int32)]) (rest := []) ⟨hx, hb, hml, hown, hts⟩ (kL_low l g kr3) (va_cwS 2 hts gL_law_L_low rfl rfl rfl hdL_low ⟨Nat.le_of_ble_eq_true rfl, Nat.le_of_ble_eq_true rfl⟩) hK hN nilP (nilD (A := A)) rfl hl.1 rfl (Nat.le_of_ble_eq_true rfl) dL_law_121 ⟨by have := hro.1; show _ ≤ 600130; omega, by have := hro.2; show _ ≤ 7301080; omega⟩) hP hS hA (fun H locs hP hS => ?_)
  refine lv_istore (lv' := [(9, .int r3), (8, .int r2), (7, .int r1), (0, .ref b), (1, .ref (ad 0 0)), (2, .ref aq), (3, .ref aw), (4, .ref ac), (5, .ref al), (6, .int v6)]) hx hb dL_law_124 hl (by decide) rfl (fun ls hl => ?_)
  refine lv_iload hx hb dL_law_126 (lv_at hl 9 rfl) ?_
  refine lv_iconst (v := 3) hx hb dL_law_128 (by decide) ?_
  obtain ⟨j4, kj4, h⟩ := bd_ex h
  have kx1 : ∀ (H : Heap) (locs : List Loc) (ls : Array Slot), va_P g.1 vwCl ((cAr g aq 10 vq) ++ ((cAr g aw 24 vw) ++ ((cAr g ac 21 vc) ++ ((cAr g al 24 vl) ++ ((wBR g ad tx is wa st hi)))))) H → va_D A ((cAr g aq 10 vq) ++ ((cAr g aw 24 vw) ++ ((cAr g ac 21 vc) ++ ((cAr g al 24 vl) ++ ((wBR g ad tx is wa st hi)))))) → va_S A su.heap H locs → lv_has ls 16 [(0, .ref b), (1, .ref (ad 0 0)), (2, .ref aq), (3, .ref aw), (4, .ref ac), (5, .ref al), (6, .int v6), (7, .int r1), (8, .int r2)] → W p l e room_1 su m args below meth c H locs cells slots Q (F0 m 203 ls [.int j4]) := by
    intro H locs ls hP hD hS hl
    refine lv_istore (lv' := [(9, .int j4), (0, .ref b), (1, .ref (ad 0 0)), (2, .ref aq), (3, .ref aw), (4, .ref ac), (5, .ref al), (6, .int v6), (7, .int r1), (8, .int r2)]) hx hb dL_law_203 hl (by decide) rfl (fun ls hl => ?_)
    refine lv_iload hx hb dL_law_205 (lv_at hl 0 rfl) ?_
    refine lv_iconst (v := 4) hx hb dL_law_207 (by decide) ?_
    obtain ⟨j5, kj5, h⟩ := bd_ex h
    have kx2 : ∀ (H : Heap) (locs : List Loc) (ls : Array Slot), va_P g.1 vwCl ((cAr g aq 10 vq) ++ ((cAr g aw 24 vw) ++ ((cAr g ac 21 vc) ++ ((cAr g al 24 vl) ++ ((wBR g ad tx is wa st hi)))))) H → va_D A ((cAr g aq 10 vq) ++ ((cAr g aw 24 vw) ++ ((cAr g ac 21 vc) ++ ((cAr g al 24 vl) ++ ((wBR g ad tx is wa st hi)))))) → va_S A su.heap H locs → lv_has ls 16 [(0, .ref b), (1, .ref (ad 0 0)), (2, .ref aq), (3, .ref aw), (4, .ref ac), (5, .ref al), (6, .int v6), (7, .int r1), (8, .int r2)] → W p l e room_1 su m args below meth c H locs cells slots Q (F0 m 224 ls [.int j5]) := by
      intro H locs ls hP hD hS hl
      refine lv_istore (lv' := [(9, .int j5), (0, .ref b), (1, .ref (ad 0 0)), (2, .ref aq), (3, .ref aw), (4, .ref ac), (5, .ref al), (6, .int v6), (7, .int r1), (8, .int r2)]) hx hb dL_law_224 hl (by decide) rfl (fun ls hl => ?_)
      refine lv_iload hx hb dL_law_226 (lv_at hl 0 rfl) ?_
      obtain ⟨j6, kj6, h⟩ := bd_ex h
      have kx3 : ∀ (H : Heap) (locs : List Loc) (ls : Array Slot), va_P g.1 vwCl ((cAr g aq 10 vq) ++ ((cAr g aw 24 vw) ++ ((cAr g ac 21 vc) ++ ((cAr g al 24 vl) ++ ((wBR g ad tx is wa st hi)))))) H → va_D A ((cAr g aq 10 vq) ++ ((cAr g aw 24 vw) ++ ((cAr g ac 21 vc) ++ ((cAr g al 24 vl) ++ ((wBR g ad tx is wa st hi)))))) → va_S A su.heap H locs → lv_has ls 16 [(0, .ref b), (1, .ref (ad 0 0)), (2, .ref aq), (3, .ref aw), (4, .ref ac), (5, .ref al), (6, .int v6), (7, .int r1), (8, .int r2), (9, .int j5)] → W p l e room_1 su m args below meth c H locs cells slots Q (F0 m 276 ls [.int j6]) := by
        intro H locs ls hP hD hS hl
        refine lv_istore (lv' := [(10, .int j6), (0, .ref b), (1, .ref (ad 0 0)), (2, .ref aq), (3, .ref aw), (4, .ref ac), (5, .ref al), (6, .int v6), (7, .int r1), (8, .int r2), (9, .int j5)]) hx hb dL_law_276 hl (by decide) rfl (fun ls hl => ?_)
        refine lv_iload hx hb dL_law_278 (lv_at hl 10 rfl) ?_
        obtain ⟨j7, kj7, h⟩ := bd_ex h
        have kx4 : ∀ (H : Heap) (locs : List Loc) (ls : Array Slot), va_P g.1 vwCl ((cAr g aq 10 vq) ++ ((cAr g aw 24 vw) ++ ((cAr g ac 21 vc) ++ ((cAr g al 24 vl) ++ ((wBR g ad tx is wa st hi)))))) H → va_D A ((cAr g aq 10 vq) ++ ((cAr g aw 24 vw) ++ ((cAr g ac 21 vc) ++ ((cAr g al 24 vl) ++ ((wBR g ad tx is wa st hi)))))) → va_S A su.heap H locs → lv_has ls 16 [(0, .ref b), (1, .ref (ad 0 0)), (2, .ref aq), (3, .ref aw), (4, .ref ac), (5, .ref al), (6, .int v6), (7, .int r1), (8, .int r2), (9, .int j5), (10, .int j6)] → W p l e room_1 su m args below meth c H locs cells slots Q (F0 m 342 ls [.int j7]) := by
          intro H locs ls hP hD hS hl
          refine lv_istore (lv' := [(11, .int j7), (0, .ref b), (1, .ref (ad 0 0)), (2, .ref aq), (3, .ref aw), (4, .ref ac), (5, .ref al), (6, .int v6), (7, .int r1), (8, .int r2), (9, .int j5), (10, .int j6)]) hx hb dL_law_342 hl (by decide) rfl (fun ls hl => ?_)
          refine lv_iload hx hb dL_law_344 (lv_at hl 9 rfl) ?_
          refine lv_bipush (v := 8) hx hb dL_law_346 (by decide) ?_
          refine lv_ishr hx hb dL_law_348 ?_
          refine lv_aload_n hx hb dL_law_349 rfl (lv_at hl 3 rfl) ?_
          refine lv_iconst (v := 0) hx hb dL_law_350 (by decide) ?_
          refine va_iald hx hb hK hP 0 0 rfl rfl (inb_in (i := 0) (n := 10) (by decide)) dL_law_351 ?_
          refine lv_iconst (v := 1) hx hb dL_law_352 (by decide) ?_
          refine lv_iadd hx hb dL_law_353 ?_
          obtain ⟨r8, kr8, h⟩ := bd_ex h
          refine aft_e (st1 := [.int r8]) rfl (runS (As := [.int (r2 >>> ((8 : Int32) &&& 31)), .int ((vq (0 : Int32).toNatClampNeg) + (1 : Int32))]) (rest := []) ⟨hx, hb, hml, hown, hts⟩ (kL_low l g kr8) (va_cwS 2 hts gL_law_L_low rfl rfl rfl hdL_low ⟨Nat.le_of_ble_eq_true rfl, Nat.le_of_ble_eq_true rfl⟩) hK hN nilP (nilD (A := A)) rfl hl.1 rfl (Nat.le_of_ble_eq_true rfl) dL_law_354 ⟨by have := hro.1; show _ ≤ 600130; omega, by have := hro.2; show _ ≤ 7301080; omega⟩) hP hS hA (fun H locs hP hS => ?_)
          refine lv_istore (lv' := [(12, .int r8), (11, .int j7), (0, .ref b), (1, .ref (ad 0 0)), (2, .ref aq), (3, .ref aw), (4, .ref ac), (5, .ref al), (6, .int v6), (7, .int r1), (8, .int r2), (9, .int j5), (10, .int j6)]) hx hb dL_law_357 hl (by decide) rfl (fun ls hl => ?_)
          refine lv_iconst (v := 0) hx hb dL_law_359 (by decide) ?_
          refine lv_istore (lv' := [(13, .int (0 : Int32)), (12, .int r8), (11, .int j7), (0, .ref b), (1, .ref (ad 0 0)), (2, .ref aq), (3, .ref aw), (4, .ref ac), (5, .ref al), (6, .int v6), (7, .int r1), (8, .int r2), (9, .int j5), (10, .int j6)]) hx hb dL_law_360 hl (by decide) rfl (fun ls hl => ?_)
          have L362 : ∀ (n : Nat) (v11_9 : Int32) (v13_10 : Int32) (y11_11 : Int32) (H : Heap) (locs : List Loc) (ls : Array Slot), fL_law_L362 vq vw vc r2 j5 j6 n v11_9 v13_10 = some y11_11 → va_P g.1 vwCl ((cAr g aq 10 vq) ++ ((cAr g aw 24 vw) ++ ((cAr g ac 21 vc) ++ ((cAr g al 24 vl) ++ ((wBR g ad tx is wa st hi)))))) H → va_D A ((cAr g aq 10 vq) ++ ((cAr g aw 24 vw) ++ ((cAr g ac 21 vc) ++ ((cAr g al 24 vl) ++ ((wBR g ad tx is wa st hi)))))) → va_S A su.heap H locs → lv_has ls 16 [(0, .ref b), (1, .ref (ad 0 0)), (2, .ref aq), (3, .ref aw), (4, .ref ac), (5, .ref al), (6, .int v6), (7, .int r1), (8, .int r2), (9, .int j5), (10, .int j6), (11, .int v11_9), (12, .int r8), (13, .int v13_10)] → (∀ (H : Heap) (locs : List Loc) (ls : Array Slot), va_P g.1 vwCl ((cAr g aq 10 vq) ++ ((cAr g aw 24 vw) ++ ((cAr g ac 21 vc) ++ ((cAr g al 24 vl) ++ ((wBR g ad tx is wa st hi)))))) H → va_D A ((cAr g aq 10 vq) ++ ((cAr g aw 24 vw) ++ ((cAr g ac 21 vc) ++ ((cAr g al 24 vl) ++ ((wBR g ad tx is wa st hi)))))) → va_S A su.heap H locs → lv_has ls 16 [(0, .ref b), (1, .ref (ad 0 0)), (2, .ref aq), (3, .ref aw), (4, .ref ac), (5, .ref al), (6, .int v6), (7, .int r1), (9, .int j5), (10, .int j6), (11, .int y11_11), (12, .int r8)] → W p l e room_1 su m args below meth c H locs cells slots Q (F0 m 436 ls [])) → W p l e room_1 su m args below meth c H locs cells slots Q (F0 m 362 ls []) := by
            intro n
            induction n with
            | zero => intro v11_9 v13_10 y11_11 H locs ls h hP hD hS hl kx; cases h
            | succ n ih =>
              intro v11_9 v13_10 y11_11 H locs ls h hP hD hS hl kx
              rw [fL_law_L362] at h
              refine lv_iload hx hb dL_law_362 (lv_at hl 9 rfl) ?_
              refine lv_iconst (v := 2) hx hb dL_law_364 (by decide) ?_
              refine lv_icmp_ne (tgt := 436) hx hb dL_law_365 (by decide) (fun c12 => ?_) (fun c12 => ?_)
              · have h := if_f c12 h
                cases some_i h
                exact kx _ _ _ hP hD hS (lv_sub hl [0, 1, 2, 3, 4, 5, 6, 7, 9, 10, 11, 12] rfl)
              · have h := if_t c12 h
                refine lv_iload hx hb dL_law_368 (lv_at hl 13 rfl) ?_
                refine lv_aload_n hx hb dL_law_370 rfl (lv_at hl 2 rfl) ?_
                refine lv_iconst (v := 0) hx hb dL_law_371 (by decide) ?_
                refine va_iald hx hb hK hP 0 0 rfl rfl (inb_in (i := 0) (n := 10) (by decide)) dL_law_372 ?_
                refine lv_icmp_ge (tgt := 436) hx hb dL_law_373 (by decide) (fun c13 => ?_) (fun c13 => ?_)
                · have h := if_t c13 h
                  cases some_i h
                  exact kx _ _ _ hP hD hS (lv_sub hl [0, 1, 2, 3, 4, 5, 6, 7, 9, 10, 11, 12] rfl)
                · have h := if_f c13 h
                  refine lv_iload hx hb dL_law_376 (lv_at hl 8 rfl) ?_
                  refine lv_bipush (v := 20) hx hb dL_law_378 (by decide) ?_
                  refine lv_ishr hx hb dL_law_380 ?_
                  refine lv_iconst (v := 5) hx hb dL_law_381 (by decide) ?_
                  obtain ⟨r14, kr14, h⟩ := bd_ex h
                  refine aft_e (st1 := [.int r14]) rfl (runS (As := [.int (r2 >>> ((20 : Int32) &&& 31)), .int (5 : Int32)]) (rest := []) ⟨hx, hb, hml, hown, hts⟩ (kL_low l g kr14) (va_cwS 2 hts gL_law_L_low rfl rfl rfl hdL_low ⟨Nat.le_of_ble_eq_true rfl, Nat.le_of_ble_eq_true rfl⟩) hK hN nilP (nilD (A := A)) rfl hl.1 rfl (Nat.le_of_ble_eq_true rfl) dL_law_382 ⟨by have := hro.1; show _ ≤ 600130; omega, by have := hro.2; show _ ≤ 7301080; omega⟩) hP hS hA (fun H locs hP hS => ?_)
                  refine lv_if_le (tgt := 436) hx hb dL_law_385 (by decide) (fun c15 => ?_) (fun c15 => ?_)
                  · have h := if_t c15 h
                    cases some_i h
                    exact kx _ _ _ hP hD hS (lv_sub hl [0, 1, 2, 3, 4, 5, 6, 7, 9, 10, 11, 12] rfl)
                  · have h := if_f c15 h
                    refine lv_iload hx hb dL_law_388 (lv_at hl 11 rfl) ?_
                    refine lv_aload_n hx hb dL_law_390 rfl (lv_at hl 2 rfl) ?_
                    refine lv_iconst (v := 0) hx hb dL_law_391 (by decide) ?_
                    refine va_iald hx hb hK hP 0 0 rfl rfl (inb_in (i := 0) (n := 10) (by decide)) dL_law_392 ?_
                    refine lv_icmp_ge (tgt := 410) hx hb dL_law_393 (by decide) (fun c16 => ?_) (fun c16 => ?_)
                    · have h := if_t c16 h
                      refine lv_iload hx hb dL_law_410 (lv_at hl 11 rfl) ?_
                      refine lv_iconst (v := 1) hx hb dL_law_412 (by decide) ?_
                      refine lv_iadd hx hb dL_law_413 ?_
                      refine lv_aload_n hx hb dL_law_414 rfl (lv_at hl 2 rfl) ?_
                      refine lv_iconst (v := 0) hx hb dL_law_415 (by decide) ?_
                      refine va_iald hx hb hK hP 0 0 rfl rfl (inb_in (i := 0) (n := 10) (by decide)) dL_law_416 ?_
                      obtain ⟨j17, kj17, h⟩ := bd_ex h
                      have kx5 : ∀ (H : Heap) (locs : List Loc) (ls : Array Slot), va_P g.1 vwCl ((cAr g aq 10 vq) ++ ((cAr g aw 24 vw) ++ ((cAr g ac 21 vc) ++ ((cAr g al 24 vl) ++ ((wBR g ad tx is wa st hi)))))) H → va_D A ((cAr g aq 10 vq) ++ ((cAr g aw 24 vw) ++ ((cAr g ac 21 vc) ++ ((cAr g al 24 vl) ++ ((wBR g ad tx is wa st hi)))))) → va_S A su.heap H locs → lv_has ls 16 [(0, .ref b), (1, .ref (ad 0 0)), (2, .ref aq), (3, .ref aw), (4, .ref ac), (5, .ref al), (6, .int v6), (7, .int r1), (8, .int r2), (9, .int j5), (10, .int j6), (12, .int r8), (13, .int v13_10)] → W p l e room_1 su m args below meth c H locs cells slots Q (F0 m 428 ls [.int j17]) := by
                        intro H locs ls hP hD hS hl
                        refine lv_istore (lv' := [(11, .int j17), (0, .ref b), (1, .ref (ad 0 0)), (2, .ref aq), (3, .ref aw), (4, .ref ac), (5, .ref al), (6, .int v6), (7, .int r1), (8, .int r2), (9, .int j5), (10, .int j6), (12, .int r8), (13, .int v13_10)]) hx hb dL_law_428 hl (by decide) rfl (fun ls hl => ?_)
                        obtain ⟨x18, ex18, h⟩ := pl_ex h
                        refine lv_iinc (v := x18) (lv' := [(13, .int x18), (11, .int j17), (0, .ref b), (1, .ref (ad 0 0)), (2, .ref aq), (3, .ref aw), (4, .ref ac), (5, .ref al), (6, .int v6), (7, .int r1), (8, .int r2), (9, .int j5), (10, .int j6), (12, .int r8)]) hx hb dL_law_430 hl (k := 13) rfl (by rw [← ex18]; rfl) (by decide) rfl (fun ls hl => ?_)
                        refine lv_goto (tgt := 362) hx hb dL_law_433 (by decide) ?_
                        exact ih j17 x18 _ _ _ _ h hP hD hS (lv_sub hl [2, 3, 4, 5, 6, 7, 8, 9, 10, 11, 12, 1, 13, 0] rfl) kx
                      have h := kj17
                      refine lv_icmp_lt (tgt := 424) hx hb dL_law_417 (by decide) (fun c19 => ?_) (fun c19 => ?_)
                      · have h := if_t c19 h
                        refine lv_iload hx hb dL_law_424 (lv_at hl 11 rfl) ?_
                        refine lv_iconst (v := 1) hx hb dL_law_426 (by decide) ?_
                        refine lv_iadd hx hb dL_law_427 ?_
                        cases some_i h
                        exact kx5 _ _ _ hP hD hS (lv_sub hl [0, 1, 2, 3, 4, 5, 6, 7, 8, 9, 10, 12, 13] rfl)
                      · have h := if_f c19 h
                        refine lv_iconst (v := 0) hx hb dL_law_420 (by decide) ?_
                        refine lv_goto (tgt := 428) hx hb dL_law_421 (by decide) ?_
                        cases some_i h
                        exact kx5 _ _ _ hP hD hS (lv_sub hl [0, 1, 2, 3, 4, 5, 6, 7, 8, 9, 10, 12, 13] rfl)
                    · have h := if_f c16 h
                      refine lv_iload hx hb dL_law_396 (lv_at hl 10 rfl) ?_
                      refine lv_iload hx hb dL_law_398 (lv_at hl 11 rfl) ?_
                      refine lv_aload_n hx hb dL_law_400 rfl (lv_at hl 2 rfl) ?_
                      refine lv_aload_n hx hb dL_law_401 rfl (lv_at hl 3 rfl) ?_
                      refine lv_aload hx hb dL_law_402 (lv_at hl 4 rfl) ?_
                      obtain ⟨r20, kr20, h⟩ := bd_ex h
                      have pq : (((cAr g aq 10 vq) ++ ((cAr g aw 24 vw) ++ ((cAr g ac 21 vc) ++ ((cAr g al 24 vl) ++ ((wBR g ad tx is wa st hi)))))) : va_W).Perm (((cAr g aq 10 vq) ++ ((cAr g aw 24 vw) ++ ((cAr g ac 21 vc)))) ++ ((cAr g al 24 vl) ++ ((wBR g ad tx is wa st hi)))) := pmS [(cAr g aq 10 vq), (cAr g aw 24 vw), (cAr g ac 21 vc), (cAr g al 24 vl), (wBR g ad tx is wa st hi)] [0, 1, 2, 3, 4] [0, 1, 2] [3, 4] (by decide)
                      have pr : ((((cAr g aq 10 vq) ++ ((cAr g aw 24 vw) ++ ((cAr g ac 21 vc)))) ++ ((cAr g al 24 vl) ++ ((wBR g ad tx is wa st hi)))) : va_W).Perm ((cAr g aq 10 vq) ++ ((cAr g aw 24 vw) ++ ((cAr g ac 21 vc) ++ ((cAr g al 24 vl) ++ ((wBR g ad tx is wa st hi)))))) := (pmS [(cAr g aq 10 vq), (cAr g aw 24 vw), (cAr g ac 21 vc), (cAr g al 24 vl), (wBR g ad tx is wa st hi)] [0, 1, 2, 3, 4] [0, 1, 2] [3, 4] (by decide)).symm
                      refine aft_p (st1 := [.int r20]) (ws' := ((cAr g aq 10 vq) ++ ((cAr g aw 24 vw) ++ ((cAr g ac 21 vc) ++ ((cAr g al 24 vl) ++ ((wBR g ad tx is wa st hi))))))) rfl pq pr (runS (As := [.int j6, .int v11_9, .ref aq, .ref aw, .ref ac]) (rest := []) ⟨hx, hb, hml, hown, hts⟩ (kL_whyNot l g aq aw ac kr20) (va_cwS 5 hts gL_law_L_whyNot rfl rfl rfl hdL_whyNot ⟨Nat.le_of_ble_eq_true rfl, Nat.le_of_ble_eq_true rfl⟩) hK hN (hP.perm pq).left (hD.perm pq).left rfl hl.1 rfl (Nat.le_of_ble_eq_true rfl) dL_law_404 ⟨by have := hro.1; show _ ≤ 600130; omega, by have := hro.2; show _ ≤ 7301080; omega⟩) hP hD hS hA (fun H locs hP hD hS => ?_)
                      refine lv_if_eq (tgt := 436) hx hb dL_law_407 (by decide) (fun c21 => ?_) (fun c21 => ?_)
                      · have h := if_t c21 h
                        cases some_i h
                        exact kx _ _ _ hP hD hS (lv_sub hl [0, 1, 2, 3, 4, 5, 6, 7, 9, 10, 11, 12] rfl)
                      · have h := if_f c21 h
                        refine lv_iload hx hb dL_law_410 (lv_at hl 11 rfl) ?_
                        refine lv_iconst (v := 1) hx hb dL_law_412 (by decide) ?_
                        refine lv_iadd hx hb dL_law_413 ?_
                        refine lv_aload_n hx hb dL_law_414 rfl (lv_at hl 2 rfl) ?_
                        refine lv_iconst (v := 0) hx hb dL_law_415 (by decide) ?_
                        refine va_iald hx hb hK hP 0 0 rfl rfl (inb_in (i := 0) (n := 10) (by decide)) dL_law_416 ?_
                        obtain ⟨j22, kj22, h⟩ := bd_ex h
                        have kx6 : ∀ (H : Heap) (locs : List Loc) (ls : Array Slot), va_P g.1 vwCl ((cAr g aq 10 vq) ++ ((cAr g aw 24 vw) ++ ((cAr g ac 21 vc) ++ ((cAr g al 24 vl) ++ ((wBR g ad tx is wa st hi)))))) H → va_D A ((cAr g aq 10 vq) ++ ((cAr g aw 24 vw) ++ ((cAr g ac 21 vc) ++ ((cAr g al 24 vl) ++ ((wBR g ad tx is wa st hi)))))) → va_S A su.heap H locs → lv_has ls 16 [(0, .ref b), (1, .ref (ad 0 0)), (2, .ref aq), (3, .ref aw), (4, .ref ac), (5, .ref al), (6, .int v6), (7, .int r1), (8, .int r2), (9, .int j5), (10, .int j6), (12, .int r8), (13, .int v13_10)] → W p l e room_1 su m args below meth c H locs cells slots Q (F0 m 428 ls [.int j22]) := by
                          intro H locs ls hP hD hS hl
                          refine lv_istore (lv' := [(11, .int j22), (0, .ref b), (1, .ref (ad 0 0)), (2, .ref aq), (3, .ref aw), (4, .ref ac), (5, .ref al), (6, .int v6), (7, .int r1), (8, .int r2), (9, .int j5), (10, .int j6), (12, .int r8), (13, .int v13_10)]) hx hb dL_law_428 hl (by decide) rfl (fun ls hl => ?_)
                          obtain ⟨x23, ex23, h⟩ := pl_ex h
                          refine lv_iinc (v := x23) (lv' := [(13, .int x23), (11, .int j22), (0, .ref b), (1, .ref (ad 0 0)), (2, .ref aq), (3, .ref aw), (4, .ref ac), (5, .ref al), (6, .int v6), (7, .int r1), (8, .int r2), (9, .int j5), (10, .int j6), (12, .int r8)]) hx hb dL_law_430 hl (k := 13) rfl (by rw [← ex23]; rfl) (by decide) rfl (fun ls hl => ?_)
                          refine lv_goto (tgt := 362) hx hb dL_law_433 (by decide) ?_
                          exact ih j22 x23 _ _ _ _ h hP hD hS (lv_sub hl [2, 3, 4, 5, 6, 7, 8, 9, 10, 11, 12, 1, 13, 0] rfl) kx
                        have h := kj22
                        refine lv_icmp_lt (tgt := 424) hx hb dL_law_417 (by decide) (fun c24 => ?_) (fun c24 => ?_)
                        · have h := if_t c24 h
                          refine lv_iload hx hb dL_law_424 (lv_at hl 11 rfl) ?_
                          refine lv_iconst (v := 1) hx hb dL_law_426 (by decide) ?_
                          refine lv_iadd hx hb dL_law_427 ?_
                          cases some_i h
                          exact kx6 _ _ _ hP hD hS (lv_sub hl [0, 1, 2, 3, 4, 5, 6, 7, 8, 9, 10, 12, 13] rfl)
                        · have h := if_f c24 h
                          refine lv_iconst (v := 0) hx hb dL_law_420 (by decide) ?_
                          refine lv_goto (tgt := 428) hx hb dL_law_421 (by decide) ?_
                          cases some_i h
                          exact kx6 _ _ _ hP hD hS (lv_sub hl [0, 1, 2, 3, 4, 5, 6, 7, 8, 9, 10, 12, 13] rfl)
          obtain ⟨v11_25, kv11_25, h⟩ := bd_ex h
          refine L362 1000 j7 (0 : Int32) v11_25 _ _ _ kv11_25 hP hD hS (lv_sub hl [3, 4, 5, 6, 7, 8, 9, 10, 11, 12, 13, 2, 1, 0] rfl) (fun H locs ls hP hD hS hl => ?_)
          refine lv_aload_n hx hb dL_law_436 rfl (lv_at hl 1 rfl) ?_
          obtain ⟨r26, is27, wa28, kr26, h⟩ := bd3_ex h
          have pq : (((cAr g aq 10 vq) ++ ((cAr g aw 24 vw) ++ ((cAr g ac 21 vc) ++ ((cAr g al 24 vl) ++ ((wBR g ad tx is wa st hi)))))) : va_W).Perm (((wBR g ad tx is wa st hi)) ++ ((cAr g aq 10 vq) ++ ((cAr g aw 24 vw) ++ ((cAr g ac 21 vc) ++ ((cAr g al 24 vl)))))) := pmS [(cAr g aq 10 vq), (cAr g aw 24 vw), (cAr g ac 21 vc), (cAr g al 24 vl), (wBR g ad tx is wa st hi)] [0, 1, 2, 3, 4] [4] [0, 1, 2, 3] (by decide)
          have pr : ((((wBR g ad tx is27 wa28 st hi)) ++ ((cAr g aq 10 vq) ++ ((cAr g aw 24 vw) ++ ((cAr g ac 21 vc) ++ ((cAr g al 24 vl)))))) : va_W).Perm ((cAr g aq 10 vq) ++ ((cAr g aw 24 vw) ++ ((cAr g ac 21 vc) ++ ((cAr g al 24 vl) ++ ((wBR g ad tx is27 wa28 st hi)))))) := (pmS [(cAr g aq 10 vq), (cAr g aw 24 vw), (cAr g ac 21 vc), (cAr g al 24 vl), (wBR g ad tx is27 wa28 st hi)] [0, 1, 2, 3, 4] [4] [0, 1, 2, 3] (by decide)).symm
          refine aft_p (st1 := [.long r26]) (ws' := ((cAr g aq 10 vq) ++ ((cAr g aw 24 vw) ++ ((cAr g ac 21 vc) ++ ((cAr g al 24 vl) ++ ((wBR g ad tx is27 wa28 st hi))))))) rfl pq pr (runS (As := [.ref (ad 0 0)]) (rest := []) ⟨hx, hb, hml, hown, hts⟩ (kL_told l g ad kr26) (va_cwS 1 hts gL_law_L_told rfl rfl rfl hdL_told ⟨Nat.le_of_ble_eq_true rfl, Nat.le_of_ble_eq_true rfl⟩) hK hN (hP.perm pq).left (hD.perm pq).left rfl hl.1 rfl (Nat.le_of_ble_eq_true rfl) dL_law_437 ⟨by have := hro.1; show _ ≤ 600130; omega, by have := hro.2; show _ ≤ 7301080; omega⟩) hP hD hS hA (fun H locs hP hD hS => ?_)
          refine lv_lstore (lv' := [(13, .long r26), (0, .ref b), (1, .ref (ad 0 0)), (2, .ref aq), (3, .ref aw), (4, .ref ac), (5, .ref al), (6, .int v6), (7, .int r1), (9, .int j5), (10, .int j6), (11, .int v11_25), (12, .int r8)]) hx hb dL_law_440 hl (by decide) rfl (fun ls hl => ?_)
          refine lv_aload_n hx hb dL_law_442 rfl (lv_at hl 2 rfl) ?_
          refine lv_iload hx hb dL_law_443 (lv_at hl 9 rfl) ?_
          refine lv_iload hx hb dL_law_445 (lv_at hl 10 rfl) ?_
          refine lv_iload hx hb dL_law_447 (lv_at hl 11 rfl) ?_
          refine lv_iload hx hb dL_law_449 (lv_at hl 12 rfl) ?_
          obtain ⟨r29, tx30, wa31, st32, hi33, kr29, h⟩ := bd5_ex h
          have pq : (((cAr g aq 10 vq) ++ ((cAr g aw 24 vw) ++ ((cAr g ac 21 vc) ++ ((cAr g al 24 vl) ++ ((wBR g ad tx is27 wa28 st hi)))))) : va_W).Perm (((wBR g ad tx is27 wa28 st hi)) ++ ((cAr g aq 10 vq) ++ ((cAr g aw 24 vw) ++ ((cAr g ac 21 vc) ++ ((cAr g al 24 vl)))))) := pmS [(cAr g aq 10 vq), (cAr g aw 24 vw), (cAr g ac 21 vc), (cAr g al 24 vl), (wBR g ad tx is27 wa28 st hi)] [0, 1, 2, 3, 4] [4] [0, 1, 2, 3] (by decide)
          have pr : ((((wBR g ad tx30 is27 wa31 st32 hi33)) ++ ((cAr g aq 10 vq) ++ ((cAr g aw 24 vw) ++ ((cAr g ac 21 vc) ++ ((cAr g al 24 vl)))))) : va_W).Perm ((cAr g aq 10 vq) ++ ((cAr g aw 24 vw) ++ ((cAr g ac 21 vc) ++ ((cAr g al 24 vl) ++ ((wBR g ad tx30 is27 wa31 st32 hi33)))))) := (pmS [(cAr g aq 10 vq), (cAr g aw 24 vw), (cAr g ac 21 vc), (cAr g al 24 vl), (wBR g ad tx30 is27 wa31 st32 hi33)] [0, 1, 2, 3, 4] [4] [0, 1, 2, 3] (by decide)).symm
          refine aftm_p (st1 := [.int r29]) (ws' := ((cAr g aq 10 vq) ++ ((cAr g aw 24 vw) ++ ((cAr g ac 21 vc) ++ ((cAr g al 24 vl) ++ ((wBR g ad tx30 is27 wa31 st32 hi33))))))) rfl pq pr (runLC (As := [.ref (ad 0 0), .int j5, .int j6, .int v11_25, .int r8]) (rest := []) ⟨hx, hb, hml, hown, hts⟩ (wL_call l hst g ad kr29) (va_cwS 5 hts gL_law_L_call rfl rfl rfl hdL_call ⟨Nat.le_of_ble_eq_true rfl, Nat.le_of_ble_eq_true rfl⟩) hK hN hX hZ (hP.perm pq).left (hD.perm pq).left hS hA rfl hl.1 rfl (Nat.le_of_ble_eq_true rfl) dL_law_451 ⟨by have := hro.1; show _ ≤ 600130; omega, by have := hro.2; show _ ≤ 7301080; omega⟩) hP hD hS hA (fun H locs hP hD hS => ?_)
          refine lv_istore (lv' := [(15, .int r29), (13, .long r26), (0, .ref b), (1, .ref (ad 0 0)), (2, .ref aq), (3, .ref aw), (4, .ref ac), (5, .ref al), (6, .int v6), (7, .int r1), (9, .int j5), (10, .int j6), (11, .int v11_25), (12, .int r8)]) hx hb dL_law_454 hl (by decide) rfl (fun ls hl => ?_)
          refine lv_iload hx hb dL_law_456 (lv_at hl 0 rfl) ?_
          refine lv_bipush (v := -100) hx hb dL_law_458 (by decide) ?_
          refine lv_icmp_ge (tgt := 476) hx hb dL_law_460 (by decide) (fun c34 => ?_) (fun c34 => ?_)
          · have h := if_t c34 h
            refine lv_iload hx hb dL_law_476 (lv_at hl 9 rfl) ?_
            refine lv_bipush (v := 24) hx hb dL_law_478 (by decide) ?_
            refine lv_ishr hx hb dL_law_480 ?_
            refine lv_iconst (v := 3) hx hb dL_law_481 (by decide) ?_
            refine lv_iand hx hb dL_law_482 ?_
            refine lv_if_ne (tgt := 522) hx hb dL_law_483 (by decide) (fun c35 => ?_) (fun c35 => ?_)
            · have h := if_f c35 h
              refine lv_iload hx hb dL_law_522 (lv_at hl 0 rfl) ?_
              refine lv_iload hx hb dL_law_524 (lv_at hl 10 rfl) ?_
              refine lv_iload hx hb dL_law_526 (lv_at hl 11 rfl) ?_
              refine lv_iload hx hb dL_law_528 (lv_at hl 12 rfl) ?_
              refine lv_iload hx hb dL_law_530 (lv_at hl 13 rfl) ?_
              refine lv_aload_n hx hb dL_law_532 rfl (lv_at hl 4 rfl) ?_
              refine lv_aload_n hx hb dL_law_533 rfl (lv_at hl 5 rfl) ?_
              refine lv_aload hx hb dL_law_534 (lv_at hl 6 rfl) ?_
              refine lv_aload hx hb dL_law_536 (lv_at hl 7 rfl) ?_
              obtain ⟨r36, vq37, vw38, vc39, kr36, h⟩ := bd4_ex h
              have pq : (((cAr g aq 10 vq) ++ ((cAr g aw 24 vw) ++ ((cAr g ac 21 vc) ++ ((cAr g al 24 vl) ++ ((wBR g ad tx30 is27 wa31 st32 hi33)))))) : va_W).Perm (((cAr g aq 10 vq) ++ ((cAr g aw 24 vw) ++ ((cAr g ac 21 vc) ++ ((cAr g al 24 vl))))) ++ ((wBR g ad tx30 is27 wa31 st32 hi33))) := pmS [(cAr g aq 10 vq), (cAr g aw 24 vw), (cAr g ac 21 vc), (cAr g al 24 vl), (wBR g ad tx30 is27 wa31 st32 hi33)] [0, 1, 2, 3, 4] [0, 1, 2, 3] [4] (by decide)
              have pr : ((((cAr g aq 10 vq37) ++ ((cAr g aw 24 vw38) ++ ((cAr g ac 21 vc39) ++ ((cAr g al 24 vl))))) ++ ((wBR g ad tx30 is27 wa31 st32 hi33))) : va_W).Perm ((cAr g aq 10 vq37) ++ ((cAr g aw 24 vw38) ++ ((cAr g ac 21 vc39) ++ ((cAr g al 24 vl) ++ ((wBR g ad tx30 is27 wa31 st32 hi33)))))) := (pmS [(cAr g aq 10 vq37), (cAr g aw 24 vw38), (cAr g ac 21 vc39), (cAr g al 24 vl), (wBR g ad tx30 is27 wa31 st32 hi33)] [0, 1, 2, 3, 4] [0, 1, 2, 3] [4] (by decide)).symm
              refine aft_p (st1 := [.int r36, .int r29]) (ws' := ((cAr g aq 10 vq37) ++ ((cAr g aw 24 vw38) ++ ((cAr g ac 21 vc39) ++ ((cAr g al 24 vl) ++ ((wBR g ad tx30 is27 wa31 st32 hi33))))))) rfl pq pr (runS (As := [.int j5, .int j6, .int v11_25, .int r8, .ref aq, .ref aw, .ref ac, .ref al]) (rest := [.int r29]) ⟨hx, hb, hml, hown, hts⟩ (kL_due l g aq aw ac al kr36) (va_cwS 8 hts gL_law_L_due rfl rfl rfl hdL_due ⟨Nat.le_of_ble_eq_true rfl, Nat.le_of_ble_eq_true rfl⟩) hK hN (hP.perm pq).left (hD.perm pq).left rfl hl.1 rfl (Nat.le_of_ble_eq_true rfl) dL_law_538 ⟨by have := hro.1; show _ ≤ 600130; omega, by have := hro.2; show _ ≤ 7301080; omega⟩) hP hD hS hA (fun H locs hP hD hS => ?_)
              refine lv_icmp_eq (tgt := 546) hx hb dL_law_541 (by decide) (fun c40 => ?_) (fun c40 => ?_)
              · have h := if_t c40 h
                refine lv_aload_n hx hb dL_law_546 rfl (lv_at hl 4 rfl) ?_
                refine lv_aload_n hx hb dL_law_547 rfl (lv_at hl 5 rfl) ?_
                refine lv_aload hx hb dL_law_548 (lv_at hl 7 rfl) ?_
                obtain ⟨vl41, kvl41, h⟩ := bd_ex h
                have pq : (((cAr g aq 10 vq37) ++ ((cAr g aw 24 vw38) ++ ((cAr g ac 21 vc39) ++ ((cAr g al 24 vl) ++ ((wBR g ad tx30 is27 wa31 st32 hi33)))))) : va_W).Perm (((cAr g aq 10 vq37) ++ ((cAr g aw 24 vw38) ++ ((cAr g al 24 vl)))) ++ ((cAr g ac 21 vc39) ++ ((wBR g ad tx30 is27 wa31 st32 hi33)))) := pmS [(cAr g aq 10 vq37), (cAr g aw 24 vw38), (cAr g ac 21 vc39), (cAr g al 24 vl), (wBR g ad tx30 is27 wa31 st32 hi33)] [0, 1, 2, 3, 4] [0, 1, 3] [2, 4] (by decide)
                have pr : ((((cAr g aq 10 vq37) ++ ((cAr g aw 24 vw38) ++ ((cAr g al 24 vl41)))) ++ ((cAr g ac 21 vc39) ++ ((wBR g ad tx30 is27 wa31 st32 hi33)))) : va_W).Perm ((cAr g aq 10 vq37) ++ ((cAr g aw 24 vw38) ++ ((cAr g ac 21 vc39) ++ ((cAr g al 24 vl41) ++ ((wBR g ad tx30 is27 wa31 st32 hi33)))))) := (pmS [(cAr g aq 10 vq37), (cAr g aw 24 vw38), (cAr g ac 21 vc39), (cAr g al 24 vl41), (wBR g ad tx30 is27 wa31 st32 hi33)] [0, 1, 2, 3, 4] [0, 1, 3] [2, 4] (by decide)).symm
                refine aft_p (st1 := []) (ws' := ((cAr g aq 10 vq37) ++ ((cAr g aw 24 vw38) ++ ((cAr g ac 21 vc39) ++ ((cAr g al 24 vl41) ++ ((wBR g ad tx30 is27 wa31 st32 hi33))))))) rfl pq pr (runS (As := [.ref aq, .ref aw, .ref al]) (rest := []) ⟨hx, hb, hml, hown, hts⟩ (kL_lays l g aq aw al kvl41) (va_cwS 3 hts gL_law_L_lays rfl rfl rfl hdL_lays ⟨Nat.le_of_ble_eq_true rfl, Nat.le_of_ble_eq_true rfl⟩) hK hN (hP.perm pq).left (hD.perm pq).left rfl hl.1 rfl (Nat.le_of_ble_eq_true rfl) dL_law_550 ⟨by have := hro.1; show _ ≤ 600130; omega, by have := hro.2; show _ ≤ 7301080; omega⟩) hP hD hS hA (fun H locs hP hD hS => ?_)
                refine lv_aload_n hx hb dL_law_553 rfl (lv_at hl 3 rfl) ?_
                refine lv_iload hx hb dL_law_554 (lv_at hl 9 rfl) ?_
                refine lv_iconst (v := 5) hx hb dL_law_556 (by decide) ?_
                refine lv_ishr hx hb dL_law_557 ?_
                refine lv_aload_n hx hb dL_law_558 rfl (lv_at hl 4 rfl) ?_
                refine lv_aload_n hx hb dL_law_559 rfl (lv_at hl 5 rfl) ?_
                refine lv_aload hx hb dL_law_560 (lv_at hl 6 rfl) ?_
                refine lv_aload hx hb dL_law_562 (lv_at hl 7 rfl) ?_
                obtain ⟨r42, is43, wa44, kr42, h⟩ := bd3_ex h
                refine aftm_w (st1 := [.int r42]) rfl (runLC (As := [.ref (ad 0 0), .int (r1 >>> ((5 : Int32) &&& 31)), .ref aq, .ref aw, .ref ac, .ref al]) (rest := []) ⟨hx, hb, hml, hown, hts⟩ (wL_isSo l hst g aq aw ac al ad kr42) (va_cwS 6 hts gL_law_L_isSo rfl rfl rfl hdL_isSo ⟨Nat.le_of_ble_eq_true rfl, Nat.le_of_ble_eq_true rfl⟩) hK hN hX hZ hP hD hS hA rfl hl.1 rfl (Nat.le_of_ble_eq_true rfl) dL_law_564 ⟨by have := hro.1; show _ ≤ 600130; omega, by have := hro.2; show _ ≤ 7301080; omega⟩) hP hD hS hA (fun H locs hP hD hS => ?_)
                refine lv_if_ne (tgt := 572) hx hb dL_law_567 (by decide) (fun c45 => ?_) (fun c45 => ?_)
                · have h := if_f c45 h
                  refine W.widen (k := (cells + 1 + 1 + 1)) (n := (slots + 6 + 6 + 6)) (by omega) (by omega) ?_
                  cases some_i (some_i h)
                  exact kx _ _ _ hP hD hS (lv_sub hl [2, 3, 4, 5, 6, 7, 8] rfl)
                · have h := if_t c45 h
                  refine lv_iconst (v := 0) hx hb dL_law_570 (by decide) ?_
                  cases h
              · have h := if_f c40 h
                refine lv_iconst (v := 0) hx hb dL_law_544 (by decide) ?_
                cases h
            · have h := if_t c35 h
              refine lv_aload_n hx hb dL_law_486 rfl (lv_at hl 3 rfl) ?_
              obtain ⟨r46, st47, hi48, kr46, h⟩ := bd3_ex h
              have pq : (((cAr g aq 10 vq) ++ ((cAr g aw 24 vw) ++ ((cAr g ac 21 vc) ++ ((cAr g al 24 vl) ++ ((wBR g ad tx30 is27 wa31 st32 hi33)))))) : va_W).Perm (((wBR g ad tx30 is27 wa31 st32 hi33)) ++ ((cAr g aq 10 vq) ++ ((cAr g aw 24 vw) ++ ((cAr g ac 21 vc) ++ ((cAr g al 24 vl)))))) := pmS [(cAr g aq 10 vq), (cAr g aw 24 vw), (cAr g ac 21 vc), (cAr g al 24 vl), (wBR g ad tx30 is27 wa31 st32 hi33)] [0, 1, 2, 3, 4] [4] [0, 1, 2, 3] (by decide)
              have pr : ((((wBR g ad tx30 is27 wa31 st47 hi48)) ++ ((cAr g aq 10 vq) ++ ((cAr g aw 24 vw) ++ ((cAr g ac 21 vc) ++ ((cAr g al 24 vl)))))) : va_W).Perm ((cAr g aq 10 vq) ++ ((cAr g aw 24 vw) ++ ((cAr g ac 21 vc) ++ ((cAr g al 24 vl) ++ ((wBR g ad tx30 is27 wa31 st47 hi48)))))) := (pmS [(cAr g aq 10 vq), (cAr g aw 24 vw), (cAr g ac 21 vc), (cAr g al 24 vl), (wBR g ad tx30 is27 wa31 st47 hi48)] [0, 1, 2, 3, 4] [4] [0, 1, 2, 3] (by decide)).symm
              refine aft_p (st1 := [.int r46]) (ws' := ((cAr g aq 10 vq) ++ ((cAr g aw 24 vw) ++ ((cAr g ac 21 vc) ++ ((cAr g al 24 vl) ++ ((wBR g ad tx30 is27 wa31 st47 hi48))))))) rfl pq pr (runW (As := [.ref (ad 0 0)]) (rest := []) ⟨hx, hb, hml, hown, hts⟩ (kL_undo l g ad kr46) (vx_cwSW 1 hts gL_law_L_undo rfl rfl rfl hdL_undo ⟨Nat.le_of_ble_eq_true rfl, Nat.le_of_ble_eq_true rfl⟩) hK hN (hP.perm pq).left (hD.perm pq).left rfl hl.1 rfl (Nat.le_of_ble_eq_true rfl) dL_law_487 ⟨by have := hro.1; show _ ≤ 600130; omega, by have := hro.2; show _ ≤ 7301080; omega⟩) hP hD hS hA (fun H locs hP hD hS => ?_)
              refine lv_if_lt (tgt := 520) hx hb dL_law_490 (by decide) (fun c49 => ?_) (fun c49 => ?_)
              · have h := if_t c49 h
                refine lv_iconst (v := 0) hx hb dL_law_520 (by decide) ?_
                cases h
              · have h := if_f c49 h
                refine lv_aload_n hx hb dL_law_493 rfl (lv_at hl 3 rfl) ?_
                obtain ⟨r50, is51, wa52, kr50, h⟩ := bd3_ex h
                have pq : (((cAr g aq 10 vq) ++ ((cAr g aw 24 vw) ++ ((cAr g ac 21 vc) ++ ((cAr g al 24 vl) ++ ((wBR g ad tx30 is27 wa31 st47 hi48)))))) : va_W).Perm (((wBR g ad tx30 is27 wa31 st47 hi48)) ++ ((cAr g aq 10 vq) ++ ((cAr g aw 24 vw) ++ ((cAr g ac 21 vc) ++ ((cAr g al 24 vl)))))) := pmS [(cAr g aq 10 vq), (cAr g aw 24 vw), (cAr g ac 21 vc), (cAr g al 24 vl), (wBR g ad tx30 is27 wa31 st47 hi48)] [0, 1, 2, 3, 4] [4] [0, 1, 2, 3] (by decide)
                have pr : ((((wBR g ad tx30 is51 wa52 st47 hi48)) ++ ((cAr g aq 10 vq) ++ ((cAr g aw 24 vw) ++ ((cAr g ac 21 vc) ++ ((cAr g al 24 vl)))))) : va_W).Perm ((cAr g aq 10 vq) ++ ((cAr g aw 24 vw) ++ ((cAr g ac 21 vc) ++ ((cAr g al 24 vl) ++ ((wBR g ad tx30 is51 wa52 st47 hi48)))))) := (pmS [(cAr g aq 10 vq), (cAr g aw 24 vw), (cAr g ac 21 vc), (cAr g al 24 vl), (wBR g ad tx30 is51 wa52 st47 hi48)] [0, 1, 2, 3, 4] [4] [0, 1, 2, 3] (by decide)).symm
                refine aft_p (st1 := [.long r50]) (ws' := ((cAr g aq 10 vq) ++ ((cAr g aw 24 vw) ++ ((cAr g ac 21 vc) ++ ((cAr g al 24 vl) ++ ((wBR g ad tx30 is51 wa52 st47 hi48))))))) rfl pq pr (runS (As := [.ref (ad 0 0)]) (rest := []) ⟨hx, hb, hml, hown, hts⟩ (kL_told l g ad kr50) (va_cwS 1 hts gL_law_L_told rfl rfl rfl hdL_told ⟨Nat.le_of_ble_eq_true rfl, Nat.le_of_ble_eq_true rfl⟩) hK hN (hP.perm pq).left (hD.perm pq).left rfl hl.1 rfl (Nat.le_of_ble_eq_true rfl) dL_law_494 ⟨by have := hro.1; show _ ≤ 600130; omega, by have := hro.2; show _ ≤ 7301080; omega⟩) hP hD hS hA (fun H locs hP hD hS => ?_)
                refine lv_lload hx hb dL_law_497 (lv_at hl 1 rfl) ?_
                refine W.lcmp hx hb dL_law_499 ?_
                refine lv_if_ne (tgt := 520) hx hb dL_law_500 (by decide) (fun c53 => ?_) (fun c53 => ?_)
                · have h := if_f c53 h
                  refine lv_iconst (v := 0) hx hb dL_law_520 (by decide) ?_
                  cases h
                · have h := if_t c53 h
                  refine lv_aload_n hx hb dL_law_503 rfl (lv_at hl 3 rfl) ?_
                  refine lv_iload hx hb dL_law_504 (lv_at hl 10 rfl) ?_
                  refine lv_iload hx hb dL_law_506 (lv_at hl 11 rfl) ?_
                  refine lv_iload hx hb dL_law_508 (lv_at hl 12 rfl) ?_
                  refine lv_iload hx hb dL_law_510 (lv_at hl 13 rfl) ?_
                  obtain ⟨r54, tx55, wa56, st57, hi58, kr54, h⟩ := bd5_ex h
                  have pq : (((cAr g aq 10 vq) ++ ((cAr g aw 24 vw) ++ ((cAr g ac 21 vc) ++ ((cAr g al 24 vl) ++ ((wBR g ad tx30 is51 wa52 st47 hi48)))))) : va_W).Perm (((wBR g ad tx30 is51 wa52 st47 hi48)) ++ ((cAr g aq 10 vq) ++ ((cAr g aw 24 vw) ++ ((cAr g ac 21 vc) ++ ((cAr g al 24 vl)))))) := pmS [(cAr g aq 10 vq), (cAr g aw 24 vw), (cAr g ac 21 vc), (cAr g al 24 vl), (wBR g ad tx30 is51 wa52 st47 hi48)] [0, 1, 2, 3, 4] [4] [0, 1, 2, 3] (by decide)
                  have pr : ((((wBR g ad tx55 is51 wa56 st57 hi58)) ++ ((cAr g aq 10 vq) ++ ((cAr g aw 24 vw) ++ ((cAr g ac 21 vc) ++ ((cAr g al 24 vl)))))) : va_W).Perm ((cAr g aq 10 vq) ++ ((cAr g aw 24 vw) ++ ((cAr g ac 21 vc) ++ ((cAr g al 24 vl) ++ ((wBR g ad tx55 is51 wa56 st57 hi58)))))) := (pmS [(cAr g aq 10 vq), (cAr g aw 24 vw), (cAr g ac 21 vc), (cAr g al 24 vl), (wBR g ad tx55 is51 wa56 st57 hi58)] [0, 1, 2, 3, 4] [4] [0, 1, 2, 3] (by decide)).symm
                  refine aftm_p (st1 := [.int r54]) (ws' := ((cAr g aq 10 vq) ++ ((cAr g aw 24 vw) ++ ((cAr g ac 21 vc) ++ ((cAr g al 24 vl) ++ ((wBR g ad tx55 is51 wa56 st57 hi58))))))) rfl pq pr (runLC (As := [.ref (ad 0 0), .int j5, .int j6, .int v11_25, .int r8]) (rest := []) ⟨hx, hb, hml, hown, hts⟩ (wL_call l hst g ad kr54) (va_cwS 5 hts gL_law_L_call rfl rfl rfl hdL_call ⟨Nat.le_of_ble_eq_true rfl, Nat.le_of_ble_eq_true rfl⟩) hK hN hX hZ (hP.perm pq).left (hD.perm pq).left hS hA rfl hl.1 rfl (Nat.le_of_ble_eq_true rfl) dL_law_512 ⟨by have := hro.1; show _ ≤ 600130; omega, by have := hro.2; show _ ≤ 7301080; omega⟩) hP hD hS hA (fun H locs hP hD hS => ?_)
                  refine lv_iload hx hb dL_law_515 (lv_at hl 0 rfl) ?_
                  refine lv_icmp_eq (tgt := 522) hx hb dL_law_517 (by decide) (fun c59 => ?_) (fun c59 => ?_)
                  · have h := if_t c59 h
                    refine lv_iload hx hb dL_law_522 (lv_at hl 0 rfl) ?_
                    refine lv_iload hx hb dL_law_524 (lv_at hl 10 rfl) ?_
                    refine lv_iload hx hb dL_law_526 (lv_at hl 11 rfl) ?_
                    refine lv_iload hx hb dL_law_528 (lv_at hl 12 rfl) ?_
                    refine lv_iload hx hb dL_law_530 (lv_at hl 13 rfl) ?_
                    refine lv_aload_n hx hb dL_law_532 rfl (lv_at hl 4 rfl) ?_
                    refine lv_aload_n hx hb dL_law_533 rfl (lv_at hl 5 rfl) ?_
                    refine lv_aload hx hb dL_law_534 (lv_at hl 6 rfl) ?_
                    refine lv_aload hx hb dL_law_536 (lv_at hl 7 rfl) ?_
                    obtain ⟨r60, vq61, vw62, vc63, kr60, h⟩ := bd4_ex h
                    have pq : (((cAr g aq 10 vq) ++ ((cAr g aw 24 vw) ++ ((cAr g ac 21 vc) ++ ((cAr g al 24 vl) ++ ((wBR g ad tx55 is51 wa56 st57 hi58)))))) : va_W).Perm (((cAr g aq 10 vq) ++ ((cAr g aw 24 vw) ++ ((cAr g ac 21 vc) ++ ((cAr g al 24 vl))))) ++ ((wBR g ad tx55 is51 wa56 st57 hi58))) := pmS [(cAr g aq 10 vq), (cAr g aw 24 vw), (cAr g ac 21 vc), (cAr g al 24 vl), (wBR g ad tx55 is51 wa56 st57 hi58)] [0, 1, 2, 3, 4] [0, 1, 2, 3] [4] (by decide)
                    have pr : ((((cAr g aq 10 vq61) ++ ((cAr g aw 24 vw62) ++ ((cAr g ac 21 vc63) ++ ((cAr g al 24 vl))))) ++ ((wBR g ad tx55 is51 wa56 st57 hi58))) : va_W).Perm ((cAr g aq 10 vq61) ++ ((cAr g aw 24 vw62) ++ ((cAr g ac 21 vc63) ++ ((cAr g al 24 vl) ++ ((wBR g ad tx55 is51 wa56 st57 hi58)))))) := (pmS [(cAr g aq 10 vq61), (cAr g aw 24 vw62), (cAr g ac 21 vc63), (cAr g al 24 vl), (wBR g ad tx55 is51 wa56 st57 hi58)] [0, 1, 2, 3, 4] [0, 1, 2, 3] [4] (by decide)).symm
                    refine aft_p (st1 := [.int r60, .int r29]) (ws' := ((cAr g aq 10 vq61) ++ ((cAr g aw 24 vw62) ++ ((cAr g ac 21 vc63) ++ ((cAr g al 24 vl) ++ ((wBR g ad tx55 is51 wa56 st57 hi58))))))) rfl pq pr (runS (As := [.int j5, .int j6, .int v11_25, .int r8, .ref aq, .ref aw, .ref ac, .ref al]) (rest := [.int r29]) ⟨hx, hb, hml, hown, hts⟩ (kL_due l g aq aw ac al kr60) (va_cwS 8 hts gL_law_L_due rfl rfl rfl hdL_due ⟨Nat.le_of_ble_eq_true rfl, Nat.le_of_ble_eq_true rfl⟩) hK hN (hP.perm pq).left (hD.perm pq).left rfl hl.1 rfl (Nat.le_of_ble_eq_true rfl) dL_law_538 ⟨by have := hro.1; show _ ≤ 600130; omega, by have := hro.2; show _ ≤ 7301080; omega⟩) hP hD hS hA (fun H locs hP hD hS => ?_)
                    refine lv_icmp_eq (tgt := 546) hx hb dL_law_541 (by decide) (fun c64 => ?_) (fun c64 => ?_)
                    · have h := if_t c64 h
                      refine lv_aload_n hx hb dL_law_546 rfl (lv_at hl 4 rfl) ?_
                      refine lv_aload_n hx hb dL_law_547 rfl (lv_at hl 5 rfl) ?_
                      refine lv_aload hx hb dL_law_548 (lv_at hl 7 rfl) ?_
                      obtain ⟨vl65, kvl65, h⟩ := bd_ex h
                      have pq : (((cAr g aq 10 vq61) ++ ((cAr g aw 24 vw62) ++ ((cAr g ac 21 vc63) ++ ((cAr g al 24 vl) ++ ((wBR g ad tx55 is51 wa56 st57 hi58)))))) : va_W).Perm (((cAr g aq 10 vq61) ++ ((cAr g aw 24 vw62) ++ ((cAr g al 24 vl)))) ++ ((cAr g ac 21 vc63) ++ ((wBR g ad tx55 is51 wa56 st57 hi58)))) := pmS [(cAr g aq 10 vq61), (cAr g aw 24 vw62), (cAr g ac 21 vc63), (cAr g al 24 vl), (wBR g ad tx55 is51 wa56 st57 hi58)] [0, 1, 2, 3, 4] [0, 1, 3] [2, 4] (by decide)
                      have pr : ((((cAr g aq 10 vq61) ++ ((cAr g aw 24 vw62) ++ ((cAr g al 24 vl65)))) ++ ((cAr g ac 21 vc63) ++ ((wBR g ad tx55 is51 wa56 st57 hi58)))) : va_W).Perm ((cAr g aq 10 vq61) ++ ((cAr g aw 24 vw62) ++ ((cAr g ac 21 vc63) ++ ((cAr g al 24 vl65) ++ ((wBR g ad tx55 is51 wa56 st57 hi58)))))) := (pmS [(cAr g aq 10 vq61), (cAr g aw 24 vw62), (cAr g ac 21 vc63), (cAr g al 24 vl65), (wBR g ad tx55 is51 wa56 st57 hi58)] [0, 1, 2, 3, 4] [0, 1, 3] [2, 4] (by decide)).symm
                      refine aft_p (st1 := []) (ws' := ((cAr g aq 10 vq61) ++ ((cAr g aw 24 vw62) ++ ((cAr g ac 21 vc63) ++ ((cAr g al 24 vl65) ++ ((wBR g ad tx55 is51 wa56 st57 hi58))))))) rfl pq pr (runS (As := [.ref aq, .ref aw, .ref al]) (rest := []) ⟨hx, hb, hml, hown, hts⟩ (kL_lays l g aq aw al kvl65) (va_cwS 3 hts gL_law_L_lays rfl rfl rfl hdL_lays ⟨Nat.le_of_ble_eq_true rfl, Nat.le_of_ble_eq_true rfl⟩) hK hN (hP.perm pq).left (hD.perm pq).left rfl hl.1 rfl (Nat.le_of_ble_eq_true rfl) dL_law_550 ⟨by have := hro.1; show _ ≤ 600130; omega, by have := hro.2; show _ ≤ 7301080; omega⟩) hP hD hS hA (fun H locs hP hD hS => ?_)
                      refine lv_aload_n hx hb dL_law_553 rfl (lv_at hl 3 rfl) ?_
                      refine lv_iload hx hb dL_law_554 (lv_at hl 9 rfl) ?_
                      refine lv_iconst (v := 5) hx hb dL_law_556 (by decide) ?_
                      refine lv_ishr hx hb dL_law_557 ?_
                      refine lv_aload_n hx hb dL_law_558 rfl (lv_at hl 4 rfl) ?_
                      refine lv_aload_n hx hb dL_law_559 rfl (lv_at hl 5 rfl) ?_
                      refine lv_aload hx hb dL_law_560 (lv_at hl 6 rfl) ?_
                      refine lv_aload hx hb dL_law_562 (lv_at hl 7 rfl) ?_
                      obtain ⟨r66, is67, wa68, kr66, h⟩ := bd3_ex h
                      refine aftm_w (st1 := [.int r66]) rfl (runLC (As := [.ref (ad 0 0), .int (r1 >>> ((5 : Int32) &&& 31)), .ref aq, .ref aw, .ref ac, .ref al]) (rest := []) ⟨hx, hb, hml, hown, hts⟩ (wL_isSo l hst g aq aw ac al ad kr66) (va_cwS 6 hts gL_law_L_isSo rfl rfl rfl hdL_isSo ⟨Nat.le_of_ble_eq_true rfl, Nat.le_of_ble_eq_true rfl⟩) hK hN hX hZ hP hD hS hA rfl hl.1 rfl (Nat.le_of_ble_eq_true rfl) dL_law_564 ⟨by have := hro.1; show _ ≤ 600130; omega, by have := hro.2; show _ ≤ 7301080; omega⟩) hP hD hS hA (fun H locs hP hD hS => ?_)
                      refine lv_if_ne (tgt := 572) hx hb dL_law_567 (by decide) (fun c69 => ?_) (fun c69 => ?_)
                      · have h := if_f c69 h
                        cases some_i (some_i h)
                        exact kx _ _ _ hP hD hS (lv_sub hl [2, 3, 4, 5, 6, 7, 8] rfl)
                      · have h := if_t c69 h
                        refine lv_iconst (v := 0) hx hb dL_law_570 (by decide) ?_
                        cases h
                    · have h := if_f c64 h
                      refine lv_iconst (v := 0) hx hb dL_law_544 (by decide) ?_
                      cases h
                  · have h := if_f c59 h
                    refine lv_iconst (v := 0) hx hb dL_law_520 (by decide) ?_
                    cases h
          · have h := if_f c34 h
            refine lv_aload_n hx hb dL_law_463 rfl (lv_at hl 3 rfl) ?_
            obtain ⟨r70, is71, wa72, kr70, h⟩ := bd3_ex h
            have pq : (((cAr g aq 10 vq) ++ ((cAr g aw 24 vw) ++ ((cAr g ac 21 vc) ++ ((cAr g al 24 vl) ++ ((wBR g ad tx30 is27 wa31 st32 hi33)))))) : va_W).Perm (((wBR g ad tx30 is27 wa31 st32 hi33)) ++ ((cAr g aq 10 vq) ++ ((cAr g aw 24 vw) ++ ((cAr g ac 21 vc) ++ ((cAr g al 24 vl)))))) := pmS [(cAr g aq 10 vq), (cAr g aw 24 vw), (cAr g ac 21 vc), (cAr g al 24 vl), (wBR g ad tx30 is27 wa31 st32 hi33)] [0, 1, 2, 3, 4] [4] [0, 1, 2, 3] (by decide)
            have pr : ((((wBR g ad tx30 is71 wa72 st32 hi33)) ++ ((cAr g aq 10 vq) ++ ((cAr g aw 24 vw) ++ ((cAr g ac 21 vc) ++ ((cAr g al 24 vl)))))) : va_W).Perm ((cAr g aq 10 vq) ++ ((cAr g aw 24 vw) ++ ((cAr g ac 21 vc) ++ ((cAr g al 24 vl) ++ ((wBR g ad tx30 is71 wa72 st32 hi33)))))) := (pmS [(cAr g aq 10 vq), (cAr g aw 24 vw), (cAr g ac 21 vc), (cAr g al 24 vl), (wBR g ad tx30 is71 wa72 st32 hi33)] [0, 1, 2, 3, 4] [4] [0, 1, 2, 3] (by decide)).symm
            refine aft_p (st1 := [.long r70]) (ws' := ((cAr g aq 10 vq) ++ ((cAr g aw 24 vw) ++ ((cAr g ac 21 vc) ++ ((cAr g al 24 vl) ++ ((wBR g ad tx30 is71 wa72 st32 hi33))))))) rfl pq pr (runS (As := [.ref (ad 0 0)]) (rest := []) ⟨hx, hb, hml, hown, hts⟩ (kL_told l g ad kr70) (va_cwS 1 hts gL_law_L_told rfl rfl rfl hdL_told ⟨Nat.le_of_ble_eq_true rfl, Nat.le_of_ble_eq_true rfl⟩) hK hN (hP.perm pq).left (hD.perm pq).left rfl hl.1 rfl (Nat.le_of_ble_eq_true rfl) dL_law_464 ⟨by have := hro.1; show _ ≤ 600130; omega, by have := hro.2; show _ ≤ 7301080; omega⟩) hP hD hS hA (fun H locs hP hD hS => ?_)
            refine lv_lload hx hb dL_law_467 (lv_at hl 1 rfl) ?_
            refine W.lcmp hx hb dL_law_469 ?_
            refine lv_if_eq (tgt := 522) hx hb dL_law_470 (by decide) (fun c73 => ?_) (fun c73 => ?_)
            · have h := if_t c73 h
              refine lv_iload hx hb dL_law_522 (lv_at hl 0 rfl) ?_
              refine lv_iload hx hb dL_law_524 (lv_at hl 10 rfl) ?_
              refine lv_iload hx hb dL_law_526 (lv_at hl 11 rfl) ?_
              refine lv_iload hx hb dL_law_528 (lv_at hl 12 rfl) ?_
              refine lv_iload hx hb dL_law_530 (lv_at hl 13 rfl) ?_
              refine lv_aload_n hx hb dL_law_532 rfl (lv_at hl 4 rfl) ?_
              refine lv_aload_n hx hb dL_law_533 rfl (lv_at hl 5 rfl) ?_
              refine lv_aload hx hb dL_law_534 (lv_at hl 6 rfl) ?_
              refine lv_aload hx hb dL_law_536 (lv_at hl 7 rfl) ?_
              obtain ⟨r74, vq75, vw76, vc77, kr74, h⟩ := bd4_ex h
              have pq : (((cAr g aq 10 vq) ++ ((cAr g aw 24 vw) ++ ((cAr g ac 21 vc) ++ ((cAr g al 24 vl) ++ ((wBR g ad tx30 is71 wa72 st32 hi33)))))) : va_W).Perm (((cAr g aq 10 vq) ++ ((cAr g aw 24 vw) ++ ((cAr g ac 21 vc) ++ ((cAr g al 24 vl))))) ++ ((wBR g ad tx30 is71 wa72 st32 hi33))) := pmS [(cAr g aq 10 vq), (cAr g aw 24 vw), (cAr g ac 21 vc), (cAr g al 24 vl), (wBR g ad tx30 is71 wa72 st32 hi33)] [0, 1, 2, 3, 4] [0, 1, 2, 3] [4] (by decide)
              have pr : ((((cAr g aq 10 vq75) ++ ((cAr g aw 24 vw76) ++ ((cAr g ac 21 vc77) ++ ((cAr g al 24 vl))))) ++ ((wBR g ad tx30 is71 wa72 st32 hi33))) : va_W).Perm ((cAr g aq 10 vq75) ++ ((cAr g aw 24 vw76) ++ ((cAr g ac 21 vc77) ++ ((cAr g al 24 vl) ++ ((wBR g ad tx30 is71 wa72 st32 hi33)))))) := (pmS [(cAr g aq 10 vq75), (cAr g aw 24 vw76), (cAr g ac 21 vc77), (cAr g al 24 vl), (wBR g ad tx30 is71 wa72 st32 hi33)] [0, 1, 2, 3, 4] [0, 1, 2, 3] [4] (by decide)).symm
              refine aft_p (st1 := [.int r74, .int r29]) (ws' := ((cAr g aq 10 vq75) ++ ((cAr g aw 24 vw76) ++ ((cAr g ac 21 vc77) ++ ((cAr g al 24 vl) ++ ((wBR g ad tx30 is71 wa72 st32 hi33))))))) rfl pq pr (runS (As := [.int j5, .int j6, .int v11_25, .int r8, .ref aq, .ref aw, .ref ac, .ref al]) (rest := [.int r29]) ⟨hx, hb, hml, hown, hts⟩ (kL_due l g aq aw ac al kr74) (va_cwS 8 hts gL_law_L_due rfl rfl rfl hdL_due ⟨Nat.le_of_ble_eq_true rfl, Nat.le_of_ble_eq_true rfl⟩) hK hN (hP.perm pq).left (hD.perm pq).left rfl hl.1 rfl (Nat.le_of_ble_eq_true rfl) dL_law_538 ⟨by have := hro.1; show _ ≤ 600130; omega, by have := hro.2; show _ ≤ 7301080; omega⟩) hP hD hS hA (fun H locs hP hD hS => ?_)
              refine lv_icmp_eq (tgt := 546) hx hb dL_law_541 (by decide) (fun c78 => ?_) (fun c78 => ?_)
              · have h := if_t c78 h
                refine lv_aload_n hx hb dL_law_546 rfl (lv_at hl 4 rfl) ?_
                refine lv_aload_n hx hb dL_law_547 rfl (lv_at hl 5 rfl) ?_
                refine lv_aload hx hb dL_law_548 (lv_at hl 7 rfl) ?_
                obtain ⟨vl79, kvl79, h⟩ := bd_ex h
                have pq : (((cAr g aq 10 vq75) ++ ((cAr g aw 24 vw76) ++ ((cAr g ac 21 vc77) ++ ((cAr g al 24 vl) ++ ((wBR g ad tx30 is71 wa72 st32 hi33)))))) : va_W).Perm (((cAr g aq 10 vq75) ++ ((cAr g aw 24 vw76) ++ ((cAr g al 24 vl)))) ++ ((cAr g ac 21 vc77) ++ ((wBR g ad tx30 is71 wa72 st32 hi33)))) := pmS [(cAr g aq 10 vq75), (cAr g aw 24 vw76), (cAr g ac 21 vc77), (cAr g al 24 vl), (wBR g ad tx30 is71 wa72 st32 hi33)] [0, 1, 2, 3, 4] [0, 1, 3] [2, 4] (by decide)
                have pr : ((((cAr g aq 10 vq75) ++ ((cAr g aw 24 vw76) ++ ((cAr g al 24 vl79)))) ++ ((cAr g ac 21 vc77) ++ ((wBR g ad tx30 is71 wa72 st32 hi33)))) : va_W).Perm ((cAr g aq 10 vq75) ++ ((cAr g aw 24 vw76) ++ ((cAr g ac 21 vc77) ++ ((cAr g al 24 vl79) ++ ((wBR g ad tx30 is71 wa72 st32 hi33)))))) := (pmS [(cAr g aq 10 vq75), (cAr g aw 24 vw76), (cAr g ac 21 vc77), (cAr g al 24 vl79), (wBR g ad tx30 is71 wa72 st32 hi33)] [0, 1, 2, 3, 4] [0, 1, 3] [2, 4] (by decide)).symm
                refine aft_p (st1 := []) (ws' := ((cAr g aq 10 vq75) ++ ((cAr g aw 24 vw76) ++ ((cAr g ac 21 vc77) ++ ((cAr g al 24 vl79) ++ ((wBR g ad tx30 is71 wa72 st32 hi33))))))) rfl pq pr (runS (As := [.ref aq, .ref aw, .ref al]) (rest := []) ⟨hx, hb, hml, hown, hts⟩ (kL_lays l g aq aw al kvl79) (va_cwS 3 hts gL_law_L_lays rfl rfl rfl hdL_lays ⟨Nat.le_of_ble_eq_true rfl, Nat.le_of_ble_eq_true rfl⟩) hK hN (hP.perm pq).left (hD.perm pq).left rfl hl.1 rfl (Nat.le_of_ble_eq_true rfl) dL_law_550 ⟨by have := hro.1; show _ ≤ 600130; omega, by have := hro.2; show _ ≤ 7301080; omega⟩) hP hD hS hA (fun H locs hP hD hS => ?_)
                refine lv_aload_n hx hb dL_law_553 rfl (lv_at hl 3 rfl) ?_
                refine lv_iload hx hb dL_law_554 (lv_at hl 9 rfl) ?_
                refine lv_iconst (v := 5) hx hb dL_law_556 (by decide) ?_
                refine lv_ishr hx hb dL_law_557 ?_
                refine lv_aload_n hx hb dL_law_558 rfl (lv_at hl 4 rfl) ?_
                refine lv_aload_n hx hb dL_law_559 rfl (lv_at hl 5 rfl) ?_
                refine lv_aload hx hb dL_law_560 (lv_at hl 6 rfl) ?_
                refine lv_aload hx hb dL_law_562 (lv_at hl 7 rfl) ?_
                obtain ⟨r80, is81, wa82, kr80, h⟩ := bd3_ex h
                refine aftm_w (st1 := [.int r80]) rfl (runLC (As := [.ref (ad 0 0), .int (r1 >>> ((5 : Int32) &&& 31)), .ref aq, .ref aw, .ref ac, .ref al]) (rest := []) ⟨hx, hb, hml, hown, hts⟩ (wL_isSo l hst g aq aw ac al ad kr80) (va_cwS 6 hts gL_law_L_isSo rfl rfl rfl hdL_isSo ⟨Nat.le_of_ble_eq_true rfl, Nat.le_of_ble_eq_true rfl⟩) hK hN hX hZ hP hD hS hA rfl hl.1 rfl (Nat.le_of_ble_eq_true rfl) dL_law_564 ⟨by have := hro.1; show _ ≤ 600130; omega, by have := hro.2; show _ ≤ 7301080; omega⟩) hP hD hS hA (fun H locs hP hD hS => ?_)
                refine lv_if_ne (tgt := 572) hx hb dL_law_567 (by decide) (fun c83 => ?_) (fun c83 => ?_)
                · have h := if_f c83 h
                  refine W.widen (k := (cells + 1 + 1 + 1)) (n := (slots + 6 + 6 + 6)) (by omega) (by omega) ?_
                  cases some_i (some_i h)
                  exact kx _ _ _ hP hD hS (lv_sub hl [2, 3, 4, 5, 6, 7, 8] rfl)
                · have h := if_t c83 h
                  refine lv_iconst (v := 0) hx hb dL_law_570 (by decide) ?_
                  cases h
              · have h := if_f c78 h
                refine lv_iconst (v := 0) hx hb dL_law_544 (by decide) ?_
                cases h
            · have h := if_f c73 h
              refine lv_goto (tgt := 520) hx hb dL_law_473 (by decide) ?_
              refine lv_iconst (v := 0) hx hb dL_law_520 (by decide) ?_
              cases h
        have h := kj7
        refine lv_if_ne (tgt := 291) hx hb dL_law_280 (by decide) (fun c84 => ?_) (fun c84 => ?_)
        · have h := if_f c84 h
          refine lv_iload hx hb dL_law_291 (lv_at hl 10 rfl) ?_
          refine lv_iconst (v := 5) hx hb dL_law_293 (by decide) ?_
          refine lv_icmp_ne (tgt := 311) hx hb dL_law_294 (by decide) (fun c85 => ?_) (fun c85 => ?_)
          · have h := if_f c85 h
            refine lv_iload hx hb dL_law_311 (lv_at hl 10 rfl) ?_
            refine lv_bipush (v := 6) hx hb dL_law_313 (by decide) ?_
            refine lv_icmp_ne (tgt := 330) hx hb dL_law_315 (by decide) (fun c86 => ?_) (fun c86 => ?_)
            · have h := if_f c86 h
              refine lv_iload hx hb dL_law_330 (lv_at hl 9 rfl) ?_
              refine lv_iconst (v := 2) hx hb dL_law_332 (by decide) ?_
              refine lv_ishr hx hb dL_law_333 ?_
              refine lv_aload_n hx hb dL_law_334 rfl (lv_at hl 3 rfl) ?_
              refine lv_iconst (v := 0) hx hb dL_law_335 (by decide) ?_
              refine va_iald hx hb hK hP 0 0 rfl rfl (inb_in (i := 0) (n := 10) (by decide)) dL_law_336 ?_
              refine lv_iconst (v := 1) hx hb dL_law_337 (by decide) ?_
              refine lv_iadd hx hb dL_law_338 ?_
              obtain ⟨r87, kr87, h⟩ := bd_ex h
              refine aft_e (st1 := [.int r87]) rfl (runS (As := [.int (r2 >>> ((2 : Int32) &&& 31)), .int ((vq (0 : Int32).toNatClampNeg) + (1 : Int32))]) (rest := []) ⟨hx, hb, hml, hown, hts⟩ (kL_low l g kr87) (va_cwS 2 hts gL_law_L_low rfl rfl rfl hdL_low ⟨Nat.le_of_ble_eq_true rfl, Nat.le_of_ble_eq_true rfl⟩) hK hN nilP (nilD (A := A)) rfl hl.1 rfl (Nat.le_of_ble_eq_true rfl) dL_law_339 ⟨by have := hro.1; show _ ≤ 600130; omega, by have := hro.2; show _ ≤ 7301080; omega⟩) hP hS hA (fun H locs hP hS => ?_)
              cases some_i h
              exact kx4 _ _ _ hP hD hS (lv_sub hl [1, 2, 3, 4, 5, 6, 7, 8, 9, 10, 0] rfl)
            · have h := if_t c86 h
              refine lv_iload hx hb dL_law_318 (lv_at hl 9 rfl) ?_
              refine lv_iconst (v := 2) hx hb dL_law_320 (by decide) ?_
              refine lv_ishr hx hb dL_law_321 ?_
              refine lv_bipush (v := 8) hx hb dL_law_322 (by decide) ?_
              obtain ⟨r88, kr88, h⟩ := bd_ex h
              refine aft_e (st1 := [.int r88]) rfl (runS (As := [.int (r2 >>> ((2 : Int32) &&& 31)), .int (8 : Int32)]) (rest := []) ⟨hx, hb, hml, hown, hts⟩ (kL_low l g kr88) (va_cwS 2 hts gL_law_L_low rfl rfl rfl hdL_low ⟨Nat.le_of_ble_eq_true rfl, Nat.le_of_ble_eq_true rfl⟩) hK hN nilP (nilD (A := A)) rfl hl.1 rfl (Nat.le_of_ble_eq_true rfl) dL_law_324 ⟨by have := hro.1; show _ ≤ 600130; omega, by have := hro.2; show _ ≤ 7301080; omega⟩) hP hS hA (fun H locs hP hS => ?_)
              refine lv_goto (tgt := 342) hx hb dL_law_327 (by decide) ?_
              cases some_i h
              exact kx4 _ _ _ hP hD hS (lv_sub hl [1, 2, 3, 4, 5, 6, 7, 8, 9, 10, 0] rfl)
          · have h := if_t c85 h
            refine lv_iconst (v := 1) hx hb dL_law_297 (by decide) ?_
            refine lv_iload hx hb dL_law_298 (lv_at hl 9 rfl) ?_
            refine lv_iconst (v := 2) hx hb dL_law_300 (by decide) ?_
            refine lv_ishr hx hb dL_law_301 ?_
            refine lv_bipush (v := 7) hx hb dL_law_302 (by decide) ?_
            obtain ⟨r89, kr89, h⟩ := bd_ex h
            refine aft_e (st1 := [.int r89, .int (1 : Int32)]) rfl (runS (As := [.int (r2 >>> ((2 : Int32) &&& 31)), .int (7 : Int32)]) (rest := [.int (1 : Int32)]) ⟨hx, hb, hml, hown, hts⟩ (kL_low l g kr89) (va_cwS 2 hts gL_law_L_low rfl rfl rfl hdL_low ⟨Nat.le_of_ble_eq_true rfl, Nat.le_of_ble_eq_true rfl⟩) hK hN nilP (nilD (A := A)) rfl hl.1 rfl (Nat.le_of_ble_eq_true rfl) dL_law_304 ⟨by have := hro.1; show _ ≤ 600130; omega, by have := hro.2; show _ ≤ 7301080; omega⟩) hP hS hA (fun H locs hP hS => ?_)
            refine lv_iadd hx hb dL_law_307 ?_
            refine lv_goto (tgt := 342) hx hb dL_law_308 (by decide) ?_
            cases some_i h
            exact kx4 _ _ _ hP hD hS (lv_sub hl [1, 2, 3, 4, 5, 6, 7, 8, 9, 10, 0] rfl)
        · have h := if_t c84 h
          refine lv_iload hx hb dL_law_283 (lv_at hl 9 rfl) ?_
          refine lv_bipush (v := 20) hx hb dL_law_285 (by decide) ?_
          refine lv_ishr hx hb dL_law_287 ?_
          refine lv_goto (tgt := 342) hx hb dL_law_288 (by decide) ?_
          cases some_i h
          exact kx4 _ _ _ hP hD hS (lv_sub hl [1, 2, 3, 4, 5, 6, 7, 8, 9, 10, 0] rfl)
      have h := kj6
      refine lv_if_ne (tgt := 239) hx hb dL_law_228 (by decide) (fun c90 => ?_) (fun c90 => ?_)
      · have h := if_f c90 h
        refine lv_iload hx hb dL_law_239 (lv_at hl 0 rfl) ?_
        refine lv_iconst (v := 5) hx hb dL_law_241 (by decide) ?_
        refine lv_icmp_ne (tgt := 254) hx hb dL_law_242 (by decide) (fun c91 => ?_) (fun c91 => ?_)
        · have h := if_f c91 h
          refine lv_iload hx hb dL_law_254 (lv_at hl 0 rfl) ?_
          refine lv_bipush (v := 6) hx hb dL_law_256 (by decide) ?_
          refine lv_icmp_ne (tgt := 270) hx hb dL_law_258 (by decide) (fun c92 => ?_) (fun c92 => ?_)
          · have h := if_f c92 h
            refine lv_iload hx hb dL_law_270 (lv_at hl 9 rfl) ?_
            refine lv_iconst (v := 3) hx hb dL_law_272 (by decide) ?_
            obtain ⟨r93, kr93, h⟩ := bd_ex h
            refine aft_e (st1 := [.int r93]) rfl (runS (As := [.int r2, .int (3 : Int32)]) (rest := []) ⟨hx, hb, hml, hown, hts⟩ (kL_low l g kr93) (va_cwS 2 hts gL_law_L_low rfl rfl rfl hdL_low ⟨Nat.le_of_ble_eq_true rfl, Nat.le_of_ble_eq_true rfl⟩) hK hN nilP (nilD (A := A)) rfl hl.1 rfl (Nat.le_of_ble_eq_true rfl) dL_law_273 ⟨by have := hro.1; show _ ≤ 600130; omega, by have := hro.2; show _ ≤ 7301080; omega⟩) hP hS hA (fun H locs hP hS => ?_)
            cases some_i h
            exact kx3 _ _ _ hP hD hS (lv_sub hl [1, 2, 3, 4, 5, 6, 7, 8, 9, 0] rfl)
          · have h := if_t c92 h
            refine lv_iload hx hb dL_law_261 (lv_at hl 9 rfl) ?_
            refine lv_iconst (v := 4) hx hb dL_law_263 (by decide) ?_
            obtain ⟨r94, kr94, h⟩ := bd_ex h
            refine aft_e (st1 := [.int r94]) rfl (runS (As := [.int r2, .int (4 : Int32)]) (rest := []) ⟨hx, hb, hml, hown, hts⟩ (kL_low l g kr94) (va_cwS 2 hts gL_law_L_low rfl rfl rfl hdL_low ⟨Nat.le_of_ble_eq_true rfl, Nat.le_of_ble_eq_true rfl⟩) hK hN nilP (nilD (A := A)) rfl hl.1 rfl (Nat.le_of_ble_eq_true rfl) dL_law_264 ⟨by have := hro.1; show _ ≤ 600130; omega, by have := hro.2; show _ ≤ 7301080; omega⟩) hP hS hA (fun H locs hP hS => ?_)
            refine lv_goto (tgt := 276) hx hb dL_law_267 (by decide) ?_
            cases some_i h
            exact kx3 _ _ _ hP hD hS (lv_sub hl [1, 2, 3, 4, 5, 6, 7, 8, 9, 0] rfl)
        · have h := if_t c91 h
          refine lv_iload hx hb dL_law_245 (lv_at hl 9 rfl) ?_
          refine lv_iconst (v := 2) hx hb dL_law_247 (by decide) ?_
          obtain ⟨r95, kr95, h⟩ := bd_ex h
          refine aft_e (st1 := [.int r95]) rfl (runS (As := [.int r2, .int (2 : Int32)]) (rest := []) ⟨hx, hb, hml, hown, hts⟩ (kL_low l g kr95) (va_cwS 2 hts gL_law_L_low rfl rfl rfl hdL_low ⟨Nat.le_of_ble_eq_true rfl, Nat.le_of_ble_eq_true rfl⟩) hK hN nilP (nilD (A := A)) rfl hl.1 rfl (Nat.le_of_ble_eq_true rfl) dL_law_248 ⟨by have := hro.1; show _ ≤ 600130; omega, by have := hro.2; show _ ≤ 7301080; omega⟩) hP hS hA (fun H locs hP hS => ?_)
          refine lv_goto (tgt := 276) hx hb dL_law_251 (by decide) ?_
          cases some_i h
          exact kx3 _ _ _ hP hD hS (lv_sub hl [1, 2, 3, 4, 5, 6, 7, 8, 9, 0] rfl)
      · have h := if_t c90 h
        refine lv_iload hx hb dL_law_231 (lv_at hl 9 rfl) ?_
        refine lv_ldc hx hb hown (hts (.constant RL 184 (1048575)) (List.mem_of_getElem? (i := 4) rfl)) dL_law_233 ?_
        refine lv_iand hx hb dL_law_235 ?_
        refine lv_goto (tgt := 276) hx hb dL_law_236 (by decide) ?_
        cases some_i h
        exact kx3 _ _ _ hP hD hS (lv_sub hl [1, 2, 3, 4, 5, 6, 7, 8, 9, 0] rfl)
    have h := kj5
    refine lv_icmp_ne (tgt := 222) hx hb dL_law_208 (by decide) (fun c96 => ?_) (fun c96 => ?_)
    · have h := if_f c96 h
      refine lv_iload hx hb dL_law_222 (lv_at hl 0 rfl) ?_
      cases some_i h
      exact kx2 _ _ _ hP hD hS (lv_sub hl [1, 2, 3, 4, 5, 6, 7, 8, 9] rfl)
    · have h := if_t c96 h
      refine lv_iload hx hb dL_law_211 (lv_at hl 7 rfl) ?_
      refine lv_iconst (v := 3) hx hb dL_law_213 (by decide) ?_
      refine lv_irem hx hb dL_law_214 (by decide) ?_
      refine lv_if_le (tgt := 222) hx hb dL_law_215 (by decide) (fun c97 => ?_) (fun c97 => ?_)
      · have h := if_t c97 h
        refine lv_iload hx hb dL_law_222 (lv_at hl 0 rfl) ?_
        cases some_i h
        exact kx2 _ _ _ hP hD hS (lv_sub hl [1, 2, 3, 4, 5, 6, 7, 8, 9] rfl)
      · have h := if_f c97 h
        refine lv_iconst (v := 2) hx hb dL_law_218 (by decide) ?_
        refine lv_goto (tgt := 224) hx hb dL_law_219 (by decide) ?_
        cases some_i h
        exact kx2 _ _ _ hP hD hS (lv_sub hl [1, 2, 3, 4, 5, 6, 7, 8, 9] rfl)
  have h := kj4
  refine lv_icmp_lt (tgt := 138) hx hb dL_law_129 (by decide) (fun c98 => ?_) (fun c98 => ?_)
  · have h := if_t c98 h
    refine lv_iconst (v := 0) hx hb dL_law_138 (by decide) ?_
    refine lv_goto (tgt := 203) hx hb dL_law_139 (by decide) ?_
    cases some_i h
    exact kx1 _ _ _ hP hD hS (lv_sub hl [3, 4, 5, 6, 7, 8, 9, 2, 1] rfl)
  · have h := if_f c98 h
    refine lv_iload hx hb dL_law_132 (lv_at hl 0 rfl) ?_
    refine lv_iconst (v := 2) hx hb dL_law_134 (by decide) ?_
    refine lv_icmp_ge (tgt := 142) hx hb dL_law_135 (by decide) (fun c99 => ?_) (fun c99 => ?_)
    · have h := if_t c99 h
      refine lv_iload hx hb dL_law_142 (lv_at hl 0 rfl) ?_
      refine lv_bipush (v := 7) hx hb dL_law_144 (by decide) ?_
      refine lv_icmp_ge (tgt := 153) hx hb dL_law_146 (by decide) (fun c100 => ?_) (fun c100 => ?_)
      · have h := if_t c100 h
        refine lv_iload hx hb dL_law_153 (lv_at hl 0 rfl) ?_
        refine lv_bipush (v := 14) hx hb dL_law_155 (by decide) ?_
        refine lv_icmp_ge (tgt := 164) hx hb dL_law_157 (by decide) (fun c101 => ?_) (fun c101 => ?_)
        · have h := if_t c101 h
          refine lv_iload hx hb dL_law_164 (lv_at hl 0 rfl) ?_
          refine lv_bipush (v := 18) hx hb dL_law_166 (by decide) ?_
          refine lv_icmp_ge (tgt := 175) hx hb dL_law_168 (by decide) (fun c102 => ?_) (fun c102 => ?_)
          · have h := if_t c102 h
            refine lv_iload hx hb dL_law_175 (lv_at hl 0 rfl) ?_
            refine lv_bipush (v := 20) hx hb dL_law_177 (by decide) ?_
            refine lv_icmp_ge (tgt := 190) hx hb dL_law_179 (by decide) (fun c103 => ?_) (fun c103 => ?_)
            · have h := if_t c103 h
              refine lv_iload hx hb dL_law_190 (lv_at hl 0 rfl) ?_
              refine lv_bipush (v := 20) hx hb dL_law_192 (by decide) ?_
              refine lv_icmp_ne (tgt := 202) hx hb dL_law_194 (by decide) (fun c104 => ?_) (fun c104 => ?_)
              · have h := if_f c104 h
                refine lv_iconst (v := 2) hx hb dL_law_202 (by decide) ?_
                cases some_i h
                exact kx1 _ _ _ hP hD hS (lv_sub hl [3, 4, 5, 6, 7, 8, 9, 2, 1] rfl)
              · have h := if_t c104 h
                refine lv_bipush (v := 6) hx hb dL_law_197 (by decide) ?_
                refine lv_goto (tgt := 203) hx hb dL_law_199 (by decide) ?_
                cases some_i h
                exact kx1 _ _ _ hP hD hS (lv_sub hl [3, 4, 5, 6, 7, 8, 9, 2, 1] rfl)
            · have h := if_f c103 h
              refine lv_iload hx hb dL_law_182 (lv_at hl 0 rfl) ?_
              refine lv_bipush (v := 14) hx hb dL_law_184 (by decide) ?_
              refine lv_isub hx hb dL_law_186 ?_
              refine lv_goto (tgt := 203) hx hb dL_law_187 (by decide) ?_
              cases some_i h
              exact kx1 _ _ _ hP hD hS (lv_sub hl [3, 4, 5, 6, 7, 8, 9, 2, 1] rfl)
          · have h := if_f c102 h
            refine lv_iconst (v := 3) hx hb dL_law_171 (by decide) ?_
            refine lv_goto (tgt := 203) hx hb dL_law_172 (by decide) ?_
            cases some_i h
            exact kx1 _ _ _ hP hD hS (lv_sub hl [3, 4, 5, 6, 7, 8, 9, 2, 1] rfl)
        · have h := if_f c101 h
          refine lv_iconst (v := 2) hx hb dL_law_160 (by decide) ?_
          refine lv_goto (tgt := 203) hx hb dL_law_161 (by decide) ?_
          cases some_i h
          exact kx1 _ _ _ hP hD hS (lv_sub hl [3, 4, 5, 6, 7, 8, 9, 2, 1] rfl)
      · have h := if_f c100 h
        refine lv_iconst (v := 1) hx hb dL_law_149 (by decide) ?_
        refine lv_goto (tgt := 203) hx hb dL_law_150 (by decide) ?_
        cases some_i h
        exact kx1 _ _ _ hP hD hS (lv_sub hl [3, 4, 5, 6, 7, 8, 9, 2, 1] rfl)
    · have h := if_f c99 h
      refine lv_iconst (v := 0) hx hb dL_law_138 (by decide) ?_
      refine lv_goto (tgt := 203) hx hb dL_law_139 (by decide) ?_
      cases some_i h
      exact kx1 _ _ _ hP hD hS (lv_sub hl [3, 4, 5, 6, 7, 8, 9, 2, 1] rfl)
end LW
