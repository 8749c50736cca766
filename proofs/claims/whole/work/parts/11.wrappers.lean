section WRP
abbrev wBR (g : GG) (ad : Nat → Nat → Nat) (tx : Tx) (is : Is) (wa : Wa) (st : St) (hi : Hi) : va_W := cRt ad ++ (cTx g (ad 1) tx ++ (cIs g (ad 2) is ++ (cWa g (ad 3) wa ++ (cSt g (ad 4) st ++ cHi g (ad 5) (ad 6) hi))))
def cOut (g : GG) (o : Nat) (out : Nat → Int64) : va_W := [(o, .inl (g.2.2.2, 1, .inr (.inl out)))]
/-- as Cg, of a method that may make one exception on its way -/
def CL (l : Launch) (g : GG) (y : MethodName) (ws : List Cond) (rm : Room) (av : List Value) (w : va_W) (rv : Option Value) (w' : va_W) : Prop :=
  ∀ sz : Nat, Met l y ws rm (PgX g av w sz) (Qg rv (Bg g w w' sz) (va_A w sz)) 1 6 (va_A w sz)
theorem CL_of {l : Launch} {g : GG} {y : MethodName} {ws ws' : List Cond} {rm : Room} {av : List Value} {w : va_W} {rv : Option Value} {w' : va_W} {cc : ByteArray} {maxL : Nat} {ret : Option FieldType} {hh : List (Nat × Nat × Nat × Nat)}
    (hy : plainName y.cls = true) (hw : ws = Cond.codeWith y cc maxL ret hh :: ws') (hn : (lg_sl av).length ≤ maxL)
    (body : ∀ (p : Program) (e : Env) (s : State) (m : MethodId) (args : Array Value) (below : List Frame) (meth : Method) (c : Code) (A : Nat → Prop) (Q : State → Prop) (ls : Array Slot),
      p.tables.exec = Jvm.exec → c.code = cc → c.maxLocals = maxL → s.vm.findClass y.cls = some m.cls → (∀ w ∈ ws, w.before args s = true) → va_K g.1 vwCl (tyL g) s → Nst s → (∀ q : Nat, s.heap.size ≤ q → A q) → Xt s → Zs A s s.heap → c.exceptionTable.toList = tableOf hh →
      va_P g.1 vwCl w s.heap → va_D A w → va_S A s.heap s.heap [] → lv_has ls maxL (lv_args 0 av) →
      (∀ (H : Heap) (locs : List Loc) (pc : Nat) (ls1 : Array Slot) (st : List Value), va_P g.1 vwCl w' H → va_D A w' → va_S A s.heap H locs → RetOK cc pc st rv ret → W p l e rm s m args below meth c H locs 1 6 Q (F0 m pc ls1 st)) →
      W p l e rm s m args below meth c s.heap [] 0 0 Q (F0 m 0 ls [])) : CL l g y ws rm av w rv w' := by
  intro sz
  refine va_MetW (cc := cc) (maxL := maxL) (ret := ret) (hh := hh) hy hw ?_
  intro p e s m args below meth c s₁ B hml hv
  obtain ⟨rfl, ⟨hsz, hP, hK, hD0, hN⟩, hX, hZ⟩ := hv
  have hx := B.exec
  have hb := B.bytes
  have hr := B.returns
  have hts := atoms_spec (ws := ws) B.pre
  have hown : s.vm.findClass y.cls = some m.cls := findClass_of_methodNamed B.named
  have hlocks := B.notSynchronized
  have ht : c.exceptionTable.toList = tableOf hh := vx_table (x := y) B (hts _ (by rw [hw]; exact List.mem_cons_self))
  subst hsz
  have hD := hD0.self (sz := s.heap.size)
  have hl := lv_entry av (n := maxL) hn
  rw [lg_entry_eq]
  exact body p e s m _ below meth c (va_A w s.heap.size) _ _ hx hb hml hown hts hK hN (fun q h => Or.inr h) hX hZ ht hP hD va_S.rf hl
    (fun H locs pc ls1 st hP hD hS hR => ret_end hx hb hr hlocks (fun t ht hW => ⟨⟨rfl, by rw [ht]; exact hP, hD⟩, hS.F ht⟩) hS.2.2 hR)
section AX
variable {p : Program} {l : Launch} {e : Env} {R : Room} {s : State} {m : MethodId} {args : Array Value} {below : List Frame} {meth : Method} {c : Code} {H : Heap} {locs : List Loc} {cells slots : Nat} {Q : State → Prop}
variable {g : GG} {A : Nat → Prop} {pc : Nat} {ls : Array Slot} {rest st0 : List Value} {a : Array Value}
theorem aftX {wc wr ws : va_W} {E : String} (hp : ws.Perm (wc ++ wr)) (hr : vx_Run p l e R s m args below meth c H locs cells slots 1 6 (F0 m pc ls st0) rest (fun _ _ _ => False) (QT E g wc H.size) (va_A wc H.size)) (hP : va_P g.1 vwCl ws H) (hD : va_D A ws) (hS : va_S A s.heap H locs) (hA : ∀ q : Nat, s.heap.size ≤ q → A q)
    (kx : ∀ (ce : Cell) (q9 : Addr) (H1 : Heap) (locs1 : List Loc), va_P g.1 vwCl ws H1 → va_S A s.heap H1 locs1 → H1[q9]? = some ce → ce.vm = .none → s.vm.findClass E = some ce.cls → vx_W p l e R s m args below meth c H1 locs1 (cells + 1) (slots + 6) Q (F0 m pc ls rest) q9) : W p l e R s m args below meth c H locs cells slots Q (F0 m pc ls st0) := by
  have hD2 := hD.perm hp
  have hf := fr_free hD2.left hS hA
  intro T hT X
  rcases hr T hT X with ⟨v, st₀, t, T', L, h0, X', hL, e1, e2, hq, st⟩ | ⟨q, st₀, t, T', L, E1, ce, h0, X', hL, e1, e2, ⟨rfl, hp1, hd1, hF⟩, hce, hcv, hcl, st⟩
  · exact hq.elim
  · obtain ⟨k1, k2, k3⟩ := vx_keep (A0 := A) (A1 := va_A wc H.size) h0 e1 hS (fun q _ h => hf q h) hf hL (by rw [← h0]; rw [h0]; exact hF)
    obtain ⟨hP3, -⟩ := fr_join (hP.perm hp) hD2 k2 hf (by rw [e1]; exact hp1) hd1
    obtain ⟨t2, a1, b1⟩ := kx ce q T'.heap (locs ++ L) (hP3.perm hp.symm) k3 (by rw [e1]; exact hce) hcv hcl T' rfl X'
    exact ⟨t2, st.trans a1, b1⟩
end AX
abbrev rL_add : Room := { frames := 7, cells := 1, slots := 6, locals := 154 }
theorem hdL_add : yL_add.cls ≠ "java/lang/invoke/MethodHandle" ∧ yL_add.cls ≠ "java/lang/invoke/VarHandle" ∧ (parseMethodDescriptor yL_add.desc).map (fun d => d.parameters.length) = some 2 := by decide +kernel
set_option maxRecDepth 100000 in
set_option maxHeartbeats 8000000 in
theorem wL_add (l : Launch) (hst : l.stackTraces = false) (g : GG) (ad : Nat → Nat → Nat) (o : Nat) {tx : Tx} {is : Is} {wa : Wa} {st : St} {hi : Hi} {out : Nat → Int64} {res : Int32} {tx' : Tx} {st' : St} {hi' : Hi} (h : fX5_add tx is wa st hi = some (.inr (res, tx', st', hi'))) : CL l g yL_add wsL_add rL_add [.ref (ad 0 0), .ref o] (cOut g o out ++ wBR g ad tx is wa st hi) (some (.int 0)) (cOut g o (vp_updL out 0 res.toInt64) ++ wBR g ad tx' is wa st' hi') := by
  refine CL_of (cc := cL_add) (maxL := 3) (ret := some .int) (hh := [(0, 8, 11, 13)]) (by decide +kernel) rfl (Nat.le_of_ble_eq_true rfl) ?_
  intro p e su m args below meth c A Q ls hx hb hml hown hts hK hN hA hX hZ ht hP hD hS hl hend
  have hl : lv_has ls 3 [(0, .ref (ad 0 0)), (1, .ref o)] := hl
  refine lv_aload_n hx hb dL_add_0 rfl (lv_at hl 1 rfl) ?_
  refine lv_iconst (v := 0) hx hb dL_add_1 (by decide) ?_
  refine lv_aload_n hx hb dL_add_2 rfl (lv_at hl 0 rfl) ?_
  have q0 : (cOut g o out ++ wBR g ad tx is wa st hi).Perm (wBR g ad tx is wa st hi ++ cOut g o out) := List.perm_append_comm
  refine aft_p (st1 := [.int res, .int 0, .ref o]) (ws' := (cOut g o out ++ wBR g ad tx' is wa st' hi')) rfl q0 List.perm_append_comm (runV (As := []) (rest := [.int 0, .ref o]) ⟨hx, hb, hml, hown, hts⟩ (kX5_add l g ad h) (cwV 0 hts gL_add_X5_add rfl rfl rfl hdX5_add ⟨Nat.le_of_ble_eq_true rfl, Nat.le_of_ble_eq_true rfl⟩) hK hN (hP.perm q0).left (hD.perm q0).left (va_recv hK hP (ci := 5) (q0 := 1) rfl rfl) rfl hl.1 rfl (Nat.le_of_ble_eq_true rfl) dL_add_3 ⟨Nat.zero_le _, Nat.zero_le _⟩) hP hD hS hA (fun H locs hP hD hS => ?_)
  refine lv_i2l (v := res.toInt64) hx hb dL_add_6 rfl ?_
  refine va_last hx hb hK hP hD hS 0 2 rfl rfl (inb_in (i := 0) (n := 1) (by decide)) dL_add_7 (fun H locs hP hD hS => ?_)
  have hP : va_P g.1 vwCl (cOut g o (vp_updL out 0 res.toInt64) ++ wBR g ad tx' is wa st' hi') H := hP
  have hD : va_D A (cOut g o (vp_updL out 0 res.toInt64) ++ wBR g ad tx' is wa st' hi') := hD
  refine lv_goto (tgt := 14) hx hb dL_add_8 (by decide) ?_
  refine lv_iconst (v := 0) hx hb dL_add_14 (by decide) ?_
  refine W.widen (k := 1) (n := 6) (Nat.zero_le _) (Nat.zero_le _) ?_
  exact hend _ _ _ _ _ hP hD hS (RetOK.i dL_add_15)
set_option maxRecDepth 100000 in
set_option maxHeartbeats 8000000 in
theorem wL_add_2 (l : Launch) (hst : l.stackTraces = false) (g : GG) (ad : Nat → Nat → Nat) (o : Nat) {tx : Tx} {is : Is} {wa : Wa} {st : St} {hi : Hi} {out : Nat → Int64} (h : fX5_add tx is wa st hi = some (.inl 2)) : CL l g yL_add wsL_add rL_add [.ref (ad 0 0), .ref o] (cOut g o out ++ wBR g ad tx is wa st hi) (some (.int 1)) (cOut g o out ++ wBR g ad tx is wa st hi) := by
  refine CL_of (cc := cL_add) (maxL := 3) (ret := some .int) (hh := [(0, 8, 11, 13)]) (by decide +kernel) rfl (Nat.le_of_ble_eq_true rfl) ?_
  intro p e su m args below meth c A Q ls hx hb hml hown hts hK hN hA hX hZ ht hP hD hS hl hend
  have hl : lv_has ls 3 [(0, .ref (ad 0 0)), (1, .ref o)] := hl
  refine lv_aload_n hx hb dL_add_0 rfl (lv_at hl 1 rfl) ?_
  refine lv_iconst (v := 0) hx hb dL_add_1 (by decide) ?_
  refine lv_aload_n hx hb dL_add_2 rfl (lv_at hl 0 rfl) ?_
  have q0 : (cOut g o out ++ wBR g ad tx is wa st hi).Perm (wBR g ad tx is wa st hi ++ cOut g o out) := List.perm_append_comm
  have hPc := (hP.perm q0).left
  have hDc := (hD.perm q0).left
  refine aftX (E := "java/lang/IllegalArgumentException") q0 (vx_runV (As := []) (rest := [.int 0, .ref o]) ⟨hx, hb, hml, hown, hts⟩ (tX5_add_2 l hst g ad h su.heap.size) (cwV 0 hts gL_add_X5_add rfl rfl rfl hdX5_add ⟨Nat.le_of_ble_eq_true rfl, Nat.le_of_ble_eq_true rfl⟩) ⟨PgX_blind _ _ _ _, (va_recv hK hP (ci := 5) (q0 := 1) rfl rfl), fun U hU hW => ⟨rfl, ⟨by rw [hU], by rw [hU]; exact hPc, va_K.moved hW.alike hK, hDc.weaken (fun _ _ _ _ => trivial), hN.warm hW⟩, hX.warm hW, by rw [hU]; exact Zs.moved hW.alike (hZ.narrow (fr_free hDc hS hA))⟩⟩ rfl rfl hl.1 rfl (lv_room (Nat.le_of_ble_eq_true rfl)) dL_add_3 ⟨Nat.le_of_ble_eq_true rfl, Nat.le_of_ble_eq_true rfl⟩) hP hD hS hA (fun ce q9 H locs hP hS hce hcv hcl => ?_)
  refine vx_catch (own := RL) (name := "java/lang/IllegalArgumentException") (E := "java/lang/IllegalArgumentException") hown [] ⟨0, 8, 11, 13⟩ [] (by rw [ht]; rfl) (fun z hz => by simp at hz) (by decide) (by decide) (hts (.classLink RL 13 "java/lang/IllegalArgumentException") (List.mem_of_getElem? (i := 1) rfl)) (va_Nw.use rfl (hX.1.1 "java/lang/IllegalArgumentException" (by decide +kernel))) hce hcv hcl ?_
  refine lv_astore_n (lv' := [(2, .ref q9), (0, .ref (ad 0 0)), (1, .ref o)]) hx hb dL_add_11 rfl hl (by decide) rfl (fun ls hl => ?_)
  refine lv_iconst (v := 1) hx hb dL_add_12 (by decide) ?_
  exact hend _ _ _ _ _ hP hD hS (RetOK.i dL_add_13)
abbrev rL_append : Room := { frames := 7, cells := 1, slots := 6, locals := 111 }
theorem hdL_append : yL_append.cls ≠ "java/lang/invoke/MethodHandle" ∧ yL_append.cls ≠ "java/lang/invoke/VarHandle" ∧ (parseMethodDescriptor yL_append.desc).map (fun d => d.parameters.length) = some 3 := by decide +kernel
set_option maxRecDepth 100000 in
set_option maxHeartbeats 8000000 in
theorem wL_append (l : Launch) (hst : l.stackTraces = false) (g : GG) (ad : Nat → Nat → Nat) (o : Nat) {tx : Tx} {is : Is} {wa : Wa} {st : St} {hi : Hi} {out : Nat → Int64} {p1 : Int32} {res : Int32} {tx' : Tx} (h : fX5_append tx is wa st hi p1 = some (.inr (res, tx'))) : CL l g yL_append wsL_append rL_append [.ref (ad 0 0), .int p1, .ref o] (cOut g o out ++ wBR g ad tx is wa st hi) (some (.int 0)) (cOut g o (vp_updL out 0 res.toInt64) ++ wBR g ad tx' is wa st hi) := by
  refine CL_of (cc := cL_append) (maxL := 4) (ret := some .int) (hh := [(0, 9, 12, 13), (0, 9, 15, 28)]) (by decide +kernel) rfl (Nat.le_of_ble_eq_true rfl) ?_
  intro p e su m args below meth c A Q ls hx hb hml hown hts hK hN hA hX hZ ht hP hD hS hl hend
  have hl : lv_has ls 4 [(0, .ref (ad 0 0)), (1, .int p1), (2, .ref o)] := hl
  refine lv_aload_n hx hb dL_append_0 rfl (lv_at hl 2 rfl) ?_
  refine lv_iconst (v := 0) hx hb dL_append_1 (by decide) ?_
  refine lv_aload_n hx hb dL_append_2 rfl (lv_at hl 0 rfl) ?_
  refine lv_iload_n hx hb dL_append_3 rfl (lv_at hl 1 rfl) ?_
  have q0 : (cOut g o out ++ wBR g ad tx is wa st hi).Perm (wBR g ad tx is wa st hi ++ cOut g o out) := List.perm_append_comm
  refine aft_p (st1 := [.int res, .int 0, .ref o]) (ws' := (cOut g o out ++ wBR g ad tx' is wa st hi)) rfl q0 List.perm_append_comm (runV (As := [.int p1]) (rest := [.int 0, .ref o]) ⟨hx, hb, hml, hown, hts⟩ (kX5_append l g ad h) (cwV 1 hts gL_append_X5_append rfl rfl rfl hdX5_append ⟨Nat.le_of_ble_eq_true rfl, Nat.le_of_ble_eq_true rfl⟩) hK hN (hP.perm q0).left (hD.perm q0).left (va_recv hK hP (ci := 5) (q0 := 1) rfl rfl) rfl hl.1 rfl (Nat.le_of_ble_eq_true rfl) dL_append_4 ⟨Nat.zero_le _, Nat.zero_le _⟩) hP hD hS hA (fun H locs hP hD hS => ?_)
  refine lv_i2l (v := res.toInt64) hx hb dL_append_7 rfl ?_
  refine va_last hx hb hK hP hD hS 0 2 rfl rfl (inb_in (i := 0) (n := 1) (by decide)) dL_append_8 (fun H locs hP hD hS => ?_)
  have hP : va_P g.1 vwCl (cOut g o (vp_updL out 0 res.toInt64) ++ wBR g ad tx' is wa st hi) H := hP
  have hD : va_D A (cOut g o (vp_updL out 0 res.toInt64) ++ wBR g ad tx' is wa st hi) := hD
  refine lv_goto (tgt := 18) hx hb dL_append_9 (by decide) ?_
  refine lv_iconst (v := 0) hx hb dL_append_18 (by decide) ?_
  refine W.widen (k := 1) (n := 6) (Nat.zero_le _) (Nat.zero_le _) ?_
  exact hend _ _ _ _ _ hP hD hS (RetOK.i dL_append_19)
set_option maxRecDepth 100000 in
set_option maxHeartbeats 8000000 in
theorem wL_append_2 (l : Launch) (hst : l.stackTraces = false) (g : GG) (ad : Nat → Nat → Nat) (o : Nat) {tx : Tx} {is : Is} {wa : Wa} {st : St} {hi : Hi} {out : Nat → Int64} {p1 : Int32} (h : fX5_append tx is wa st hi p1 = some (.inl 2)) : CL l g yL_append wsL_append rL_append [.ref (ad 0 0), .int p1, .ref o] (cOut g o out ++ wBR g ad tx is wa st hi) (some (.int 1)) (cOut g o out ++ wBR g ad tx is wa st hi) := by
  refine CL_of (cc := cL_append) (maxL := 4) (ret := some .int) (hh := [(0, 9, 12, 13), (0, 9, 15, 28)]) (by decide +kernel) rfl (Nat.le_of_ble_eq_true rfl) ?_
  intro p e su m args below meth c A Q ls hx hb hml hown hts hK hN hA hX hZ ht hP hD hS hl hend
  have hl : lv_has ls 4 [(0, .ref (ad 0 0)), (1, .int p1), (2, .ref o)] := hl
  refine lv_aload_n hx hb dL_append_0 rfl (lv_at hl 2 rfl) ?_
  refine lv_iconst (v := 0) hx hb dL_append_1 (by decide) ?_
  refine lv_aload_n hx hb dL_append_2 rfl (lv_at hl 0 rfl) ?_
  refine lv_iload_n hx hb dL_append_3 rfl (lv_at hl 1 rfl) ?_
  have q0 : (cOut g o out ++ wBR g ad tx is wa st hi).Perm (wBR g ad tx is wa st hi ++ cOut g o out) := List.perm_append_comm
  have hPc := (hP.perm q0).left
  have hDc := (hD.perm q0).left
  refine aftX (E := "java/lang/IllegalArgumentException") q0 (vx_runV (As := [.int p1]) (rest := [.int 0, .ref o]) ⟨hx, hb, hml, hown, hts⟩ (tX5_append_2 l hst g ad h su.heap.size) (cwV 1 hts gL_append_X5_append rfl rfl rfl hdX5_append ⟨Nat.le_of_ble_eq_true rfl, Nat.le_of_ble_eq_true rfl⟩) ⟨PgX_blind _ _ _ _, (va_recv hK hP (ci := 5) (q0 := 1) rfl rfl), fun U hU hW => ⟨rfl, ⟨by rw [hU], by rw [hU]; exact hPc, va_K.moved hW.alike hK, hDc.weaken (fun _ _ _ _ => trivial), hN.warm hW⟩, hX.warm hW, by rw [hU]; exact Zs.moved hW.alike (hZ.narrow (fr_free hDc hS hA))⟩⟩ rfl rfl hl.1 rfl (lv_room (Nat.le_of_ble_eq_true rfl)) dL_append_4 ⟨Nat.le_of_ble_eq_true rfl, Nat.le_of_ble_eq_true rfl⟩) hP hD hS hA (fun ce q9 H locs hP hS hce hcv hcl => ?_)
  refine vx_catch (own := RL) (name := "java/lang/IllegalArgumentException") (E := "java/lang/IllegalArgumentException") hown [] ⟨0, 9, 12, 13⟩ [⟨0, 9, 15, 28⟩] (by rw [ht]; rfl) (fun z hz => by simp at hz) (by decide) (by decide) (hts (.classLink RL 13 "java/lang/IllegalArgumentException") (List.mem_of_getElem? (i := 1) rfl)) (va_Nw.use rfl (hX.1.1 "java/lang/IllegalArgumentException" (by decide +kernel))) hce hcv hcl ?_
  refine lv_astore_n (lv' := [(3, .ref q9), (0, .ref (ad 0 0)), (1, .int p1), (2, .ref o)]) hx hb dL_append_12 rfl hl (by decide) rfl (fun ls hl => ?_)
  refine lv_iconst (v := 1) hx hb dL_append_13 (by decide) ?_
  exact hend _ _ _ _ _ hP hD hS (RetOK.i dL_append_14)
set_option maxRecDepth 100000 in
set_option maxHeartbeats 8000000 in
theorem wL_append_3 (l : Launch) (hst : l.stackTraces = false) (g : GG) (ad : Nat → Nat → Nat) (o : Nat) {tx : Tx} {is : Is} {wa : Wa} {st : St} {hi : Hi} {out : Nat → Int64} {p1 : Int32} (h : fX5_append tx is wa st hi p1 = some (.inl 3)) : CL l g yL_append wsL_append rL_append [.ref (ad 0 0), .int p1, .ref o] (cOut g o out ++ wBR g ad tx is wa st hi) (some (.int 2)) (cOut g o out ++ wBR g ad tx is wa st hi) := by
  refine CL_of (cc := cL_append) (maxL := 4) (ret := some .int) (hh := [(0, 9, 12, 13), (0, 9, 15, 28)]) (by decide +kernel) rfl (Nat.le_of_ble_eq_true rfl) ?_
  intro p e su m args below meth c A Q ls hx hb hml hown hts hK hN hA hX hZ ht hP hD hS hl hend
  have hl : lv_has ls 4 [(0, .ref (ad 0 0)), (1, .int p1), (2, .ref o)] := hl
  refine lv_aload_n hx hb dL_append_0 rfl (lv_at hl 2 rfl) ?_
  refine lv_iconst (v := 0) hx hb dL_append_1 (by decide) ?_
  refine lv_aload_n hx hb dL_append_2 rfl (lv_at hl 0 rfl) ?_
  refine lv_iload_n hx hb dL_append_3 rfl (lv_at hl 1 rfl) ?_
  have q0 : (cOut g o out ++ wBR g ad tx is wa st hi).Perm (wBR g ad tx is wa st hi ++ cOut g o out) := List.perm_append_comm
  have hPc := (hP.perm q0).left
  have hDc := (hD.perm q0).left
  refine aftX (E := "java/lang/IllegalStateException") q0 (vx_runV (As := [.int p1]) (rest := [.int 0, .ref o]) ⟨hx, hb, hml, hown, hts⟩ (tX5_append_3 l hst g ad h su.heap.size) (cwV 1 hts gL_append_X5_append rfl rfl rfl hdX5_append ⟨Nat.le_of_ble_eq_true rfl, Nat.le_of_ble_eq_true rfl⟩) ⟨PgX_blind _ _ _ _, (va_recv hK hP (ci := 5) (q0 := 1) rfl rfl), fun U hU hW => ⟨rfl, ⟨by rw [hU], by rw [hU]; exact hPc, va_K.moved hW.alike hK, hDc.weaken (fun _ _ _ _ => trivial), hN.warm hW⟩, hX.warm hW, by rw [hU]; exact Zs.moved hW.alike (hZ.narrow (fr_free hDc hS hA))⟩⟩ rfl rfl hl.1 rfl (lv_room (Nat.le_of_ble_eq_true rfl)) dL_append_4 ⟨Nat.le_of_ble_eq_true rfl, Nat.le_of_ble_eq_true rfl⟩) hP hD hS hA (fun ce q9 H locs hP hS hce hcv hcl => ?_)
  refine vx_catch (own := RL) (name := "java/lang/IllegalStateException") (E := "java/lang/IllegalStateException") hown [⟨0, 9, 12, 13⟩] ⟨0, 9, 15, 28⟩ [] (by rw [ht]; rfl) (fun z hz => by
    simp only [List.mem_cons, List.not_mem_nil, or_false] at hz
    rcases hz with rfl
    · exact Or.inr ⟨by decide, "java/lang/IllegalArgumentException", (hts (.classLink RL 13 "java/lang/IllegalArgumentException") (List.mem_of_getElem? (i := 1) rfl)), hX.2.1 ("java/lang/IllegalStateException", "java/lang/IllegalArgumentException") (by decide +kernel)⟩) (by decide) (by decide) (hts (.classLink RL 28 "java/lang/IllegalStateException") (List.mem_of_getElem? (i := 2) rfl)) (va_Nw.use rfl (hX.1.1 "java/lang/IllegalStateException" (by decide +kernel))) hce hcv hcl ?_
  refine lv_astore_n (lv' := [(3, .ref q9), (0, .ref (ad 0 0)), (1, .int p1), (2, .ref o)]) hx hb dL_append_15 rfl hl (by decide) rfl (fun ls hl => ?_)
  refine lv_iconst (v := 2) hx hb dL_append_16 (by decide) ?_
  exact hend _ _ _ _ _ hP hD hS (RetOK.i dL_append_17)
abbrev rL_bar : Room := { frames := 7, cells := 1, slots := 6, locals := 125 }
theorem hdL_bar : yL_bar.cls ≠ "java/lang/invoke/MethodHandle" ∧ yL_bar.cls ≠ "java/lang/invoke/VarHandle" ∧ (parseMethodDescriptor yL_bar.desc).map (fun d => d.parameters.length) = some 4 := by decide +kernel
set_option maxRecDepth 100000 in
set_option maxHeartbeats 8000000 in
theorem wL_bar (l : Launch) (hst : l.stackTraces = false) (g : GG) (ad : Nat → Nat → Nat) (o : Nat) {tx : Tx} {is : Is} {wa : Wa} {st : St} {hi : Hi} {out : Nat → Int64} {p1 : Int32} {p2 : Int32} {res : Int32} {st' : St} {hi' : Hi} (h : fX5_bar tx is wa st hi p1 p2 = some (.inr (res, st', hi'))) : CL l g yL_bar wsL_bar rL_bar [.ref (ad 0 0), .int p1, .int p2, .ref o] (cOut g o out ++ wBR g ad tx is wa st hi) (some (.int 0)) (cOut g o (vp_updL out 0 res.toInt64) ++ wBR g ad tx is wa st' hi') := by
  refine CL_of (cc := cL_bar) (maxL := 5) (ret := some .int) (hh := [(0, 10, 13, 19), (0, 10, 17, 13)]) (by decide +kernel) rfl (Nat.le_of_ble_eq_true rfl) ?_
  intro p e su m args below meth c A Q ls hx hb hml hown hts hK hN hA hX hZ ht hP hD hS hl hend
  have hl : lv_has ls 5 [(0, .ref (ad 0 0)), (1, .int p1), (2, .int p2), (3, .ref o)] := hl
  refine lv_aload_n hx hb dL_bar_0 rfl (lv_at hl 3 rfl) ?_
  refine lv_iconst (v := 0) hx hb dL_bar_1 (by decide) ?_
  refine lv_aload_n hx hb dL_bar_2 rfl (lv_at hl 0 rfl) ?_
  refine lv_iload_n hx hb dL_bar_3 rfl (lv_at hl 1 rfl) ?_
  refine lv_iload_n hx hb dL_bar_4 rfl (lv_at hl 2 rfl) ?_
  have q0 : (cOut g o out ++ wBR g ad tx is wa st hi).Perm (wBR g ad tx is wa st hi ++ cOut g o out) := List.perm_append_comm
  refine aft_p (st1 := [.int res, .int 0, .ref o]) (ws' := (cOut g o out ++ wBR g ad tx is wa st' hi')) rfl q0 List.perm_append_comm (runV (As := [.int p1, .int p2]) (rest := [.int 0, .ref o]) ⟨hx, hb, hml, hown, hts⟩ (kX5_bar l g ad h) (cwV 2 hts gL_bar_X5_bar rfl rfl rfl hdX5_bar ⟨Nat.le_of_ble_eq_true rfl, Nat.le_of_ble_eq_true rfl⟩) hK hN (hP.perm q0).left (hD.perm q0).left (va_recv hK hP (ci := 5) (q0 := 1) rfl rfl) rfl hl.1 rfl (Nat.le_of_ble_eq_true rfl) dL_bar_5 ⟨Nat.zero_le _, Nat.zero_le _⟩) hP hD hS hA (fun H locs hP hD hS => ?_)
  refine lv_i2l (v := res.toInt64) hx hb dL_bar_8 rfl ?_
  refine va_last hx hb hK hP hD hS 0 2 rfl rfl (inb_in (i := 0) (n := 1) (by decide)) dL_bar_9 (fun H locs hP hD hS => ?_)
  have hP : va_P g.1 vwCl (cOut g o (vp_updL out 0 res.toInt64) ++ wBR g ad tx is wa st' hi') H := hP
  have hD : va_D A (cOut g o (vp_updL out 0 res.toInt64) ++ wBR g ad tx is wa st' hi') := hD
  refine lv_goto (tgt := 21) hx hb dL_bar_10 (by decide) ?_
  refine lv_iconst (v := 0) hx hb dL_bar_21 (by decide) ?_
  refine W.widen (k := 1) (n := 6) (Nat.zero_le _) (Nat.zero_le _) ?_
  exact hend _ _ _ _ _ hP hD hS (RetOK.i dL_bar_22)
set_option maxRecDepth 100000 in
set_option maxHeartbeats 8000000 in
theorem wL_bar_1 (l : Launch) (hst : l.stackTraces = false) (g : GG) (ad : Nat → Nat → Nat) (o : Nat) {tx : Tx} {is : Is} {wa : Wa} {st : St} {hi : Hi} {out : Nat → Int64} {p1 : Int32} {p2 : Int32} (h : fX5_bar tx is wa st hi p1 p2 = some (.inl 1)) : CL l g yL_bar wsL_bar rL_bar [.ref (ad 0 0), .int p1, .int p2, .ref o] (cOut g o out ++ wBR g ad tx is wa st hi) (some (.int 1)) (cOut g o out ++ wBR g ad tx is wa st hi) := by
  refine CL_of (cc := cL_bar) (maxL := 5) (ret := some .int) (hh := [(0, 10, 13, 19), (0, 10, 17, 13)]) (by decide +kernel) rfl (Nat.le_of_ble_eq_true rfl) ?_
  intro p e su m args below meth c A Q ls hx hb hml hown hts hK hN hA hX hZ ht hP hD hS hl hend
  have hl : lv_has ls 5 [(0, .ref (ad 0 0)), (1, .int p1), (2, .int p2), (3, .ref o)] := hl
  refine lv_aload_n hx hb dL_bar_0 rfl (lv_at hl 3 rfl) ?_
  refine lv_iconst (v := 0) hx hb dL_bar_1 (by decide) ?_
  refine lv_aload_n hx hb dL_bar_2 rfl (lv_at hl 0 rfl) ?_
  refine lv_iload_n hx hb dL_bar_3 rfl (lv_at hl 1 rfl) ?_
  refine lv_iload_n hx hb dL_bar_4 rfl (lv_at hl 2 rfl) ?_
  have q0 : (cOut g o out ++ wBR g ad tx is wa st hi).Perm (wBR g ad tx is wa st hi ++ cOut g o out) := List.perm_append_comm
  have hPc := (hP.perm q0).left
  have hDc := (hD.perm q0).left
  refine aftX (E := "java/lang/IndexOutOfBoundsException") q0 (vx_runV (As := [.int p1, .int p2]) (rest := [.int 0, .ref o]) ⟨hx, hb, hml, hown, hts⟩ (tX5_bar_1 l hst g ad h su.heap.size) (cwV 2 hts gL_bar_X5_bar rfl rfl rfl hdX5_bar ⟨Nat.le_of_ble_eq_true rfl, Nat.le_of_ble_eq_true rfl⟩) ⟨PgX_blind _ _ _ _, (va_recv hK hP (ci := 5) (q0 := 1) rfl rfl), fun U hU hW => ⟨rfl, ⟨by rw [hU], by rw [hU]; exact hPc, va_K.moved hW.alike hK, hDc.weaken (fun _ _ _ _ => trivial), hN.warm hW⟩, hX.warm hW, by rw [hU]; exact Zs.moved hW.alike (hZ.narrow (fr_free hDc hS hA))⟩⟩ rfl rfl hl.1 rfl (lv_room (Nat.le_of_ble_eq_true rfl)) dL_bar_5 ⟨Nat.le_of_ble_eq_true rfl, Nat.le_of_ble_eq_true rfl⟩) hP hD hS hA (fun ce q9 H locs hP hS hce hcv hcl => ?_)
  refine vx_catch (own := RL) (name := "java/lang/IndexOutOfBoundsException") (E := "java/lang/IndexOutOfBoundsException") hown [] ⟨0, 10, 13, 19⟩ [⟨0, 10, 17, 13⟩] (by rw [ht]; rfl) (fun z hz => by simp at hz) (by decide) (by decide) (hts (.classLink RL 19 "java/lang/IndexOutOfBoundsException") (List.mem_of_getElem? (i := 1) rfl)) (va_Nw.use rfl (hX.1.1 "java/lang/IndexOutOfBoundsException" (by decide +kernel))) hce hcv hcl ?_
  refine lv_astore (lv' := [(4, .ref q9), (0, .ref (ad 0 0)), (1, .int p1), (2, .int p2), (3, .ref o)]) hx hb dL_bar_13 hl (by decide) rfl (fun ls hl => ?_)
  refine lv_iconst (v := 1) hx hb dL_bar_15 (by decide) ?_
  exact hend _ _ _ _ _ hP hD hS (RetOK.i dL_bar_16)
set_option maxRecDepth 100000 in
set_option maxHeartbeats 8000000 in
theorem wL_bar_2 (l : Launch) (hst : l.stackTraces = false) (g : GG) (ad : Nat → Nat → Nat) (o : Nat) {tx : Tx} {is : Is} {wa : Wa} {st : St} {hi : Hi} {out : Nat → Int64} {p1 : Int32} {p2 : Int32} (h : fX5_bar tx is wa st hi p1 p2 = some (.inl 2)) : CL l g yL_bar wsL_bar rL_bar [.ref (ad 0 0), .int p1, .int p2, .ref o] (cOut g o out ++ wBR g ad tx is wa st hi) (some (.int 2)) (cOut g o out ++ wBR g ad tx is wa st hi) := by
  refine CL_of (cc := cL_bar) (maxL := 5) (ret := some .int) (hh := [(0, 10, 13, 19), (0, 10, 17, 13)]) (by decide +kernel) rfl (Nat.le_of_ble_eq_true rfl) ?_
  intro p e su m args below meth c A Q ls hx hb hml hown hts hK hN hA hX hZ ht hP hD hS hl hend
  have hl : lv_has ls 5 [(0, .ref (ad 0 0)), (1, .int p1), (2, .int p2), (3, .ref o)] := hl
  refine lv_aload_n hx hb dL_bar_0 rfl (lv_at hl 3 rfl) ?_
  refine lv_iconst (v := 0) hx hb dL_bar_1 (by decide) ?_
  refine lv_aload_n hx hb dL_bar_2 rfl (lv_at hl 0 rfl) ?_
  refine lv_iload_n hx hb dL_bar_3 rfl (lv_at hl 1 rfl) ?_
  refine lv_iload_n hx hb dL_bar_4 rfl (lv_at hl 2 rfl) ?_
  have q0 : (cOut g o out ++ wBR g ad tx is wa st hi).Perm (wBR g ad tx is wa st hi ++ cOut g o out) := List.perm_append_comm
  have hPc := (hP.perm q0).left
  have hDc := (hD.perm q0).left
  refine aftX (E := "java/lang/IllegalArgumentException") q0 (vx_runV (As := [.int p1, .int p2]) (rest := [.int 0, .ref o]) ⟨hx, hb, hml, hown, hts⟩ (tX5_bar_2 l hst g ad h su.heap.size) (cwV 2 hts gL_bar_X5_bar rfl rfl rfl hdX5_bar ⟨Nat.le_of_ble_eq_true rfl, Nat.le_of_ble_eq_true rfl⟩) ⟨PgX_blind _ _ _ _, (va_recv hK hP (ci := 5) (q0 := 1) rfl rfl), fun U hU hW => ⟨rfl, ⟨by rw [hU], by rw [hU]; exact hPc, va_K.moved hW.alike hK, hDc.weaken (fun _ _ _ _ => trivial), hN.warm hW⟩, hX.warm hW, by rw [hU]; exact Zs.moved hW.alike (hZ.narrow (fr_free hDc hS hA))⟩⟩ rfl rfl hl.1 rfl (lv_room (Nat.le_of_ble_eq_true rfl)) dL_bar_5 ⟨Nat.le_of_ble_eq_true rfl, Nat.le_of_ble_eq_true rfl⟩) hP hD hS hA (fun ce q9 H locs hP hS hce hcv hcl => ?_)
  refine vx_catch (own := RL) (name := "java/lang/IllegalArgumentException") (E := "java/lang/IllegalArgumentException") hown [⟨0, 10, 13, 19⟩] ⟨0, 10, 17, 13⟩ [] (by rw [ht]; rfl) (fun z hz => by
    simp only [List.mem_cons, List.not_mem_nil, or_false] at hz
    rcases hz with rfl
    · exact Or.inr ⟨by decide, "java/lang/IndexOutOfBoundsException", (hts (.classLink RL 19 "java/lang/IndexOutOfBoundsException") (List.mem_of_getElem? (i := 1) rfl)), hX.2.1 ("java/lang/IllegalArgumentException", "java/lang/IndexOutOfBoundsException") (by decide +kernel)⟩) (by decide) (by decide) (hts (.classLink RL 13 "java/lang/IllegalArgumentException") (List.mem_of_getElem? (i := 2) rfl)) (va_Nw.use rfl (hX.1.1 "java/lang/IllegalArgumentException" (by decide +kernel))) hce hcv hcl ?_
  refine lv_astore (lv' := [(4, .ref q9), (0, .ref (ad 0 0)), (1, .int p1), (2, .int p2), (3, .ref o)]) hx hb dL_bar_17 hl (by decide) rfl (fun ls hl => ?_)
  refine lv_iconst (v := 2) hx hb dL_bar_19 (by decide) ?_
  exact hend _ _ _ _ _ hP hD hS (RetOK.i dL_bar_20)
abbrev rL_climb : Room := { frames := 7, cells := 1, slots := 6, locals := 124 }
theorem hdL_climb : yL_climb.cls ≠ "java/lang/invoke/MethodHandle" ∧ yL_climb.cls ≠ "java/lang/invoke/VarHandle" ∧ (parseMethodDescriptor yL_climb.desc).map (fun d => d.parameters.length) = some 4 := by decide +kernel
set_option maxRecDepth 100000 in
set_option maxHeartbeats 8000000 in
theorem wL_climb (l : Launch) (hst : l.stackTraces = false) (g : GG) (ad : Nat → Nat → Nat) (o : Nat) {tx : Tx} {is : Is} {wa : Wa} {st : St} {hi : Hi} {out : Nat → Int64} {p1 : Int32} {p2 : Int32} {res : Int32} {st' : St} {hi' : Hi} (h : fX5_climb tx is wa st hi p1 p2 = some (.inr (res, st', hi'))) : CL l g yL_climb wsL_climb rL_climb [.ref (ad 0 0), .int p1, .int p2, .ref o] (cOut g o out ++ wBR g ad tx is wa st hi) (some (.int 0)) (cOut g o (vp_updL out 0 res.toInt64) ++ wBR g ad tx is wa st' hi') := by
  refine CL_of (cc := cL_climb) (maxL := 5) (ret := some .int) (hh := [(0, 10, 13, 19), (0, 10, 17, 28)]) (by decide +kernel) rfl (Nat.le_of_ble_eq_true rfl) ?_
  intro p e su m args below meth c A Q ls hx hb hml hown hts hK hN hA hX hZ ht hP hD hS hl hend
  have hl : lv_has ls 5 [(0, .ref (ad 0 0)), (1, .int p1), (2, .int p2), (3, .ref o)] := hl
  refine lv_aload_n hx hb dL_climb_0 rfl (lv_at hl 3 rfl) ?_
  refine lv_iconst (v := 0) hx hb dL_climb_1 (by decide) ?_
  refine lv_aload_n hx hb dL_climb_2 rfl (lv_at hl 0 rfl) ?_
  refine lv_iload_n hx hb dL_climb_3 rfl (lv_at hl 1 rfl) ?_
  refine lv_iload_n hx hb dL_climb_4 rfl (lv_at hl 2 rfl) ?_
  have q0 : (cOut g o out ++ wBR g ad tx is wa st hi).Perm (wBR g ad tx is wa st hi ++ cOut g o out) := List.perm_append_comm
  refine aft_p (st1 := [.int res, .int 0, .ref o]) (ws' := (cOut g o out ++ wBR g ad tx is wa st' hi')) rfl q0 List.perm_append_comm (runV (As := [.int p1, .int p2]) (rest := [.int 0, .ref o]) ⟨hx, hb, hml, hown, hts⟩ (kX5_climb l g ad h) (cwV 2 hts gL_climb_X5_climb rfl rfl rfl hdX5_climb ⟨Nat.le_of_ble_eq_true rfl, Nat.le_of_ble_eq_true rfl⟩) hK hN (hP.perm q0).left (hD.perm q0).left (va_recv hK hP (ci := 5) (q0 := 1) rfl rfl) rfl hl.1 rfl (Nat.le_of_ble_eq_true rfl) dL_climb_5 ⟨Nat.zero_le _, Nat.zero_le _⟩) hP hD hS hA (fun H locs hP hD hS => ?_)
  refine lv_i2l (v := res.toInt64) hx hb dL_climb_8 rfl ?_
  refine va_last hx hb hK hP hD hS 0 2 rfl rfl (inb_in (i := 0) (n := 1) (by decide)) dL_climb_9 (fun H locs hP hD hS => ?_)
  have hP : va_P g.1 vwCl (cOut g o (vp_updL out 0 res.toInt64) ++ wBR g ad tx is wa st' hi') H := hP
  have hD : va_D A (cOut g o (vp_updL out 0 res.toInt64) ++ wBR g ad tx is wa st' hi') := hD
  refine lv_goto (tgt := 21) hx hb dL_climb_10 (by decide) ?_
  refine lv_iconst (v := 0) hx hb dL_climb_21 (by decide) ?_
  refine W.widen (k := 1) (n := 6) (Nat.zero_le _) (Nat.zero_le _) ?_
  exact hend _ _ _ _ _ hP hD hS (RetOK.i dL_climb_22)
set_option maxRecDepth 100000 in
set_option maxHeartbeats 8000000 in
theorem wL_climb_1 (l : Launch) (hst : l.stackTraces = false) (g : GG) (ad : Nat → Nat → Nat) (o : Nat) {tx : Tx} {is : Is} {wa : Wa} {st : St} {hi : Hi} {out : Nat → Int64} {p1 : Int32} {p2 : Int32} (h : fX5_climb tx is wa st hi p1 p2 = some (.inl 1)) : CL l g yL_climb wsL_climb rL_climb [.ref (ad 0 0), .int p1, .int p2, .ref o] (cOut g o out ++ wBR g ad tx is wa st hi) (some (.int 1)) (cOut g o out ++ wBR g ad tx is wa st hi) := by
  refine CL_of (cc := cL_climb) (maxL := 5) (ret := some .int) (hh := [(0, 10, 13, 19), (0, 10, 17, 28)]) (by decide +kernel) rfl (Nat.le_of_ble_eq_true rfl) ?_
  intro p e su m args below meth c A Q ls hx hb hml hown hts hK hN hA hX hZ ht hP hD hS hl hend
  have hl : lv_has ls 5 [(0, .ref (ad 0 0)), (1, .int p1), (2, .int p2), (3, .ref o)] := hl
  refine lv_aload_n hx hb dL_climb_0 rfl (lv_at hl 3 rfl) ?_
  refine lv_iconst (v := 0) hx hb dL_climb_1 (by decide) ?_
  refine lv_aload_n hx hb dL_climb_2 rfl (lv_at hl 0 rfl) ?_
  refine lv_iload_n hx hb dL_climb_3 rfl (lv_at hl 1 rfl) ?_
  refine lv_iload_n hx hb dL_climb_4 rfl (lv_at hl 2 rfl) ?_
  have q0 : (cOut g o out ++ wBR g ad tx is wa st hi).Perm (wBR g ad tx is wa st hi ++ cOut g o out) := List.perm_append_comm
  have hPc := (hP.perm q0).left
  have hDc := (hD.perm q0).left
  refine aftX (E := "java/lang/IndexOutOfBoundsException") q0 (vx_runV (As := [.int p1, .int p2]) (rest := [.int 0, .ref o]) ⟨hx, hb, hml, hown, hts⟩ (tX5_climb_1 l hst g ad h su.heap.size) (cwV 2 hts gL_climb_X5_climb rfl rfl rfl hdX5_climb ⟨Nat.le_of_ble_eq_true rfl, Nat.le_of_ble_eq_true rfl⟩) ⟨PgX_blind _ _ _ _, (va_recv hK hP (ci := 5) (q0 := 1) rfl rfl), fun U hU hW => ⟨rfl, ⟨by rw [hU], by rw [hU]; exact hPc, va_K.moved hW.alike hK, hDc.weaken (fun _ _ _ _ => trivial), hN.warm hW⟩, hX.warm hW, by rw [hU]; exact Zs.moved hW.alike (hZ.narrow (fr_free hDc hS hA))⟩⟩ rfl rfl hl.1 rfl (lv_room (Nat.le_of_ble_eq_true rfl)) dL_climb_5 ⟨Nat.le_of_ble_eq_true rfl, Nat.le_of_ble_eq_true rfl⟩) hP hD hS hA (fun ce q9 H locs hP hS hce hcv hcl => ?_)
  refine vx_catch (own := RL) (name := "java/lang/IndexOutOfBoundsException") (E := "java/lang/IndexOutOfBoundsException") hown [] ⟨0, 10, 13, 19⟩ [⟨0, 10, 17, 28⟩] (by rw [ht]; rfl) (fun z hz => by simp at hz) (by decide) (by decide) (hts (.classLink RL 19 "java/lang/IndexOutOfBoundsException") (List.mem_of_getElem? (i := 1) rfl)) (va_Nw.use rfl (hX.1.1 "java/lang/IndexOutOfBoundsException" (by decide +kernel))) hce hcv hcl ?_
  refine lv_astore (lv' := [(4, .ref q9), (0, .ref (ad 0 0)), (1, .int p1), (2, .int p2), (3, .ref o)]) hx hb dL_climb_13 hl (by decide) rfl (fun ls hl => ?_)
  refine lv_iconst (v := 1) hx hb dL_climb_15 (by decide) ?_
  exact hend _ _ _ _ _ hP hD hS (RetOK.i dL_climb_16)
set_option maxRecDepth 100000 in
set_option maxHeartbeats 8000000 in
theorem wL_climb_3 (l : Launch) (hst : l.stackTraces = false) (g : GG) (ad : Nat → Nat → Nat) (o : Nat) {tx : Tx} {is : Is} {wa : Wa} {st : St} {hi : Hi} {out : Nat → Int64} {p1 : Int32} {p2 : Int32} (h : fX5_climb tx is wa st hi p1 p2 = some (.inl 3)) : CL l g yL_climb wsL_climb rL_climb [.ref (ad 0 0), .int p1, .int p2, .ref o] (cOut g o out ++ wBR g ad tx is wa st hi) (some (.int 2)) (cOut g o out ++ wBR g ad tx is wa st hi) := by
  refine CL_of (cc := cL_climb) (maxL := 5) (ret := some .int) (hh := [(0, 10, 13, 19), (0, 10, 17, 28)]) (by decide +kernel) rfl (Nat.le_of_ble_eq_true rfl) ?_
  intro p e su m args below meth c A Q ls hx hb hml hown hts hK hN hA hX hZ ht hP hD hS hl hend
  have hl : lv_has ls 5 [(0, .ref (ad 0 0)), (1, .int p1), (2, .int p2), (3, .ref o)] := hl
  refine lv_aload_n hx hb dL_climb_0 rfl (lv_at hl 3 rfl) ?_
  refine lv_iconst (v := 0) hx hb dL_climb_1 (by decide) ?_
  refine lv_aload_n hx hb dL_climb_2 rfl (lv_at hl 0 rfl) ?_
  refine lv_iload_n hx hb dL_climb_3 rfl (lv_at hl 1 rfl) ?_
  refine lv_iload_n hx hb dL_climb_4 rfl (lv_at hl 2 rfl) ?_
  have q0 : (cOut g o out ++ wBR g ad tx is wa st hi).Perm (wBR g ad tx is wa st hi ++ cOut g o out) := List.perm_append_comm
  have hPc := (hP.perm q0).left
  have hDc := (hD.perm q0).left
  refine aftX (E := "java/lang/IllegalStateException") q0 (vx_runV (As := [.int p1, .int p2]) (rest := [.int 0, .ref o]) ⟨hx, hb, hml, hown, hts⟩ (tX5_climb_3 l hst g ad h su.heap.size) (cwV 2 hts gL_climb_X5_climb rfl rfl rfl hdX5_climb ⟨Nat.le_of_ble_eq_true rfl, Nat.le_of_ble_eq_true rfl⟩) ⟨PgX_blind _ _ _ _, (va_recv hK hP (ci := 5) (q0 := 1) rfl rfl), fun U hU hW => ⟨rfl, ⟨by rw [hU], by rw [hU]; exact hPc, va_K.moved hW.alike hK, hDc.weaken (fun _ _ _ _ => trivial), hN.warm hW⟩, hX.warm hW, by rw [hU]; exact Zs.moved hW.alike (hZ.narrow (fr_free hDc hS hA))⟩⟩ rfl rfl hl.1 rfl (lv_room (Nat.le_of_ble_eq_true rfl)) dL_climb_5 ⟨Nat.le_of_ble_eq_true rfl, Nat.le_of_ble_eq_true rfl⟩) hP hD hS hA (fun ce q9 H locs hP hS hce hcv hcl => ?_)
  refine vx_catch (own := RL) (name := "java/lang/IllegalStateException") (E := "java/lang/IllegalStateException") hown [⟨0, 10, 13, 19⟩] ⟨0, 10, 17, 28⟩ [] (by rw [ht]; rfl) (fun z hz => by
    simp only [List.mem_cons, List.not_mem_nil, or_false] at hz
    rcases hz with rfl
    · exact Or.inr ⟨by decide, "java/lang/IndexOutOfBoundsException", (hts (.classLink RL 19 "java/lang/IndexOutOfBoundsException") (List.mem_of_getElem? (i := 1) rfl)), hX.2.1 ("java/lang/IllegalStateException", "java/lang/IndexOutOfBoundsException") (by decide +kernel)⟩) (by decide) (by decide) (hts (.classLink RL 28 "java/lang/IllegalStateException") (List.mem_of_getElem? (i := 2) rfl)) (va_Nw.use rfl (hX.1.1 "java/lang/IllegalStateException" (by decide +kernel))) hce hcv hcl ?_
  refine lv_astore (lv' := [(4, .ref q9), (0, .ref (ad 0 0)), (1, .int p1), (2, .int p2), (3, .ref o)]) hx hb dL_climb_17 hl (by decide) rfl (fun ls hl => ?_)
  refine lv_iconst (v := 2) hx hb dL_climb_19 (by decide) ?_
  exact hend _ _ _ _ _ hP hD hS (RetOK.i dL_climb_20)
abbrev rL_climber : Room := { frames := 7, cells := 1, slots := 6, locals := 170 }
theorem hdL_climber : yL_climber.cls ≠ "java/lang/invoke/MethodHandle" ∧ yL_climber.cls ≠ "java/lang/invoke/VarHandle" ∧ (parseMethodDescriptor yL_climber.desc).map (fun d => d.parameters.length) = some 4 := by decide +kernel
set_option maxRecDepth 100000 in
set_option maxHeartbeats 8000000 in
theorem wL_climber (l : Launch) (hst : l.stackTraces = false) (g : GG) (ad : Nat → Nat → Nat) (o : Nat) {tx : Tx} {is : Is} {wa : Wa} {st : St} {hi : Hi} {out : Nat → Int64} {p1 : Int32} {p2 : Int32} {res : Int32} {wa' : Wa} (h : fX5_climber tx is wa st hi p1 p2 = some (.inr (res, wa'))) : CL l g yL_climber wsL_climber rL_climber [.ref (ad 0 0), .int p1, .int p2, .ref o] (cOut g o out ++ wBR g ad tx is wa st hi) (some (.int 0)) (cOut g o (vp_updL out 0 res.toInt64) ++ wBR g ad tx is wa' st hi) := by
  refine CL_of (cc := cL_climber) (maxL := 5) (ret := some .int) (hh := [(0, 10, 13, 19), (0, 10, 17, 13)]) (by decide +kernel) rfl (Nat.le_of_ble_eq_true rfl) ?_
  intro p e su m args below meth c A Q ls hx hb hml hown hts hK hN hA hX hZ ht hP hD hS hl hend
  have hl : lv_has ls 5 [(0, .ref (ad 0 0)), (1, .int p1), (2, .int p2), (3, .ref o)] := hl
  refine lv_aload_n hx hb dL_climber_0 rfl (lv_at hl 3 rfl) ?_
  refine lv_iconst (v := 0) hx hb dL_climber_1 (by decide) ?_
  refine lv_aload_n hx hb dL_climber_2 rfl (lv_at hl 0 rfl) ?_
  refine lv_iload_n hx hb dL_climber_3 rfl (lv_at hl 1 rfl) ?_
  refine lv_iload_n hx hb dL_climber_4 rfl (lv_at hl 2 rfl) ?_
  have q0 : (cOut g o out ++ wBR g ad tx is wa st hi).Perm (wBR g ad tx is wa st hi ++ cOut g o out) := List.perm_append_comm
  refine aft_p (st1 := [.int res, .int 0, .ref o]) (ws' := (cOut g o out ++ wBR g ad tx is wa' st hi)) rfl q0 List.perm_append_comm (runV (As := [.int p1, .int p2]) (rest := [.int 0, .ref o]) ⟨hx, hb, hml, hown, hts⟩ (kX5_climber l g ad h) (cwV 2 hts gL_climber_X5_climber rfl rfl rfl hdX5_climber ⟨Nat.le_of_ble_eq_true rfl, Nat.le_of_ble_eq_true rfl⟩) hK hN (hP.perm q0).left (hD.perm q0).left (va_recv hK hP (ci := 5) (q0 := 1) rfl rfl) rfl hl.1 rfl (Nat.le_of_ble_eq_true rfl) dL_climber_5 ⟨Nat.zero_le _, Nat.zero_le _⟩) hP hD hS hA (fun H locs hP hD hS => ?_)
  refine lv_i2l (v := res.toInt64) hx hb dL_climber_8 rfl ?_
  refine va_last hx hb hK hP hD hS 0 2 rfl rfl (inb_in (i := 0) (n := 1) (by decide)) dL_climber_9 (fun H locs hP hD hS => ?_)
  have hP : va_P g.1 vwCl (cOut g o (vp_updL out 0 res.toInt64) ++ wBR g ad tx is wa' st hi) H := hP
  have hD : va_D A (cOut g o (vp_updL out 0 res.toInt64) ++ wBR g ad tx is wa' st hi) := hD
  refine lv_goto (tgt := 21) hx hb dL_climber_10 (by decide) ?_
  refine lv_iconst (v := 0) hx hb dL_climber_21 (by decide) ?_
  refine W.widen (k := 1) (n := 6) (Nat.zero_le _) (Nat.zero_le _) ?_
  exact hend _ _ _ _ _ hP hD hS (RetOK.i dL_climber_22)
set_option maxRecDepth 100000 in
set_option maxHeartbeats 8000000 in
theorem wL_climber_1 (l : Launch) (hst : l.stackTraces = false) (g : GG) (ad : Nat → Nat → Nat) (o : Nat) {tx : Tx} {is : Is} {wa : Wa} {st : St} {hi : Hi} {out : Nat → Int64} {p1 : Int32} {p2 : Int32} (h : fX5_climber tx is wa st hi p1 p2 = some (.inl 1)) : CL l g yL_climber wsL_climber rL_climber [.ref (ad 0 0), .int p1, .int p2, .ref o] (cOut g o out ++ wBR g ad tx is wa st hi) (some (.int 1)) (cOut g o out ++ wBR g ad tx is wa st hi) := by
  refine CL_of (cc := cL_climber) (maxL := 5) (ret := some .int) (hh := [(0, 10, 13, 19), (0, 10, 17, 13)]) (by decide +kernel) rfl (Nat.le_of_ble_eq_true rfl) ?_
  intro p e su m args below meth c A Q ls hx hb hml hown hts hK hN hA hX hZ ht hP hD hS hl hend
  have hl : lv_has ls 5 [(0, .ref (ad 0 0)), (1, .int p1), (2, .int p2), (3, .ref o)] := hl
  refine lv_aload_n hx hb dL_climber_0 rfl (lv_at hl 3 rfl) ?_
  refine lv_iconst (v := 0) hx hb dL_climber_1 (by decide) ?_
  refine lv_aload_n hx hb dL_climber_2 rfl (lv_at hl 0 rfl) ?_
  refine lv_iload_n hx hb dL_climber_3 rfl (lv_at hl 1 rfl) ?_
  refine lv_iload_n hx hb dL_climber_4 rfl (lv_at hl 2 rfl) ?_
  have q0 : (cOut g o out ++ wBR g ad tx is wa st hi).Perm (wBR g ad tx is wa st hi ++ cOut g o out) := List.perm_append_comm
  have hPc := (hP.perm q0).left
  have hDc := (hD.perm q0).left
  refine aftX (E := "java/lang/IndexOutOfBoundsException") q0 (vx_runV (As := [.int p1, .int p2]) (rest := [.int 0, .ref o]) ⟨hx, hb, hml, hown, hts⟩ (tX5_climber_1 l hst g ad h su.heap.size) (cwV 2 hts gL_climber_X5_climber rfl rfl rfl hdX5_climber ⟨Nat.le_of_ble_eq_true rfl, Nat.le_of_ble_eq_true rfl⟩) ⟨PgX_blind _ _ _ _, (va_recv hK hP (ci := 5) (q0 := 1) rfl rfl), fun U hU hW => ⟨rfl, ⟨by rw [hU], by rw [hU]; exact hPc, va_K.moved hW.alike hK, hDc.weaken (fun _ _ _ _ => trivial), hN.warm hW⟩, hX.warm hW, by rw [hU]; exact Zs.moved hW.alike (hZ.narrow (fr_free hDc hS hA))⟩⟩ rfl rfl hl.1 rfl (lv_room (Nat.le_of_ble_eq_true rfl)) dL_climber_5 ⟨Nat.le_of_ble_eq_true rfl, Nat.le_of_ble_eq_true rfl⟩) hP hD hS hA (fun ce q9 H locs hP hS hce hcv hcl => ?_)
  refine vx_catch (own := RL) (name := "java/lang/IndexOutOfBoundsException") (E := "java/lang/IndexOutOfBoundsException") hown [] ⟨0, 10, 13, 19⟩ [⟨0, 10, 17, 13⟩] (by rw [ht]; rfl) (fun z hz => by simp at hz) (by decide) (by decide) (hts (.classLink RL 19 "java/lang/IndexOutOfBoundsException") (List.mem_of_getElem? (i := 1) rfl)) (va_Nw.use rfl (hX.1.1 "java/lang/IndexOutOfBoundsException" (by decide +kernel))) hce hcv hcl ?_
  refine lv_astore (lv' := [(4, .ref q9), (0, .ref (ad 0 0)), (1, .int p1), (2, .int p2), (3, .ref o)]) hx hb dL_climber_13 hl (by decide) rfl (fun ls hl => ?_)
  refine lv_iconst (v := 1) hx hb dL_climber_15 (by decide) ?_
  exact hend _ _ _ _ _ hP hD hS (RetOK.i dL_climber_16)
set_option maxRecDepth 100000 in
set_option maxHeartbeats 8000000 in
theorem wL_climber_2 (l : Launch) (hst : l.stackTraces = false) (g : GG) (ad : Nat → Nat → Nat) (o : Nat) {tx : Tx} {is : Is} {wa : Wa} {st : St} {hi : Hi} {out : Nat → Int64} {p1 : Int32} {p2 : Int32} (h : fX5_climber tx is wa st hi p1 p2 = some (.inl 2)) : CL l g yL_climber wsL_climber rL_climber [.ref (ad 0 0), .int p1, .int p2, .ref o] (cOut g o out ++ wBR g ad tx is wa st hi) (some (.int 2)) (cOut g o out ++ wBR g ad tx is wa st hi) := by
  refine CL_of (cc := cL_climber) (maxL := 5) (ret := some .int) (hh := [(0, 10, 13, 19), (0, 10, 17, 13)]) (by decide +kernel) rfl (Nat.le_of_ble_eq_true rfl) ?_
  intro p e su m args below meth c A Q ls hx hb hml hown hts hK hN hA hX hZ ht hP hD hS hl hend
  have hl : lv_has ls 5 [(0, .ref (ad 0 0)), (1, .int p1), (2, .int p2), (3, .ref o)] := hl
  refine lv_aload_n hx hb dL_climber_0 rfl (lv_at hl 3 rfl) ?_
  refine lv_iconst (v := 0) hx hb dL_climber_1 (by decide) ?_
  refine lv_aload_n hx hb dL_climber_2 rfl (lv_at hl 0 rfl) ?_
  refine lv_iload_n hx hb dL_climber_3 rfl (lv_at hl 1 rfl) ?_
  refine lv_iload_n hx hb dL_climber_4 rfl (lv_at hl 2 rfl) ?_
  have q0 : (cOut g o out ++ wBR g ad tx is wa st hi).Perm (wBR g ad tx is wa st hi ++ cOut g o out) := List.perm_append_comm
  have hPc := (hP.perm q0).left
  have hDc := (hD.perm q0).left
  refine aftX (E := "java/lang/IllegalArgumentException") q0 (vx_runV (As := [.int p1, .int p2]) (rest := [.int 0, .ref o]) ⟨hx, hb, hml, hown, hts⟩ (tX5_climber_2 l hst g ad h su.heap.size) (cwV 2 hts gL_climber_X5_climber rfl rfl rfl hdX5_climber ⟨Nat.le_of_ble_eq_true rfl, Nat.le_of_ble_eq_true rfl⟩) ⟨PgX_blind _ _ _ _, (va_recv hK hP (ci := 5) (q0 := 1) rfl rfl), fun U hU hW => ⟨rfl, ⟨by rw [hU], by rw [hU]; exact hPc, va_K.moved hW.alike hK, hDc.weaken (fun _ _ _ _ => trivial), hN.warm hW⟩, hX.warm hW, by rw [hU]; exact Zs.moved hW.alike (hZ.narrow (fr_free hDc hS hA))⟩⟩ rfl rfl hl.1 rfl (lv_room (Nat.le_of_ble_eq_true rfl)) dL_climber_5 ⟨Nat.le_of_ble_eq_true rfl, Nat.le_of_ble_eq_true rfl⟩) hP hD hS hA (fun ce q9 H locs hP hS hce hcv hcl => ?_)
  refine vx_catch (own := RL) (name := "java/lang/IllegalArgumentException") (E := "java/lang/IllegalArgumentException") hown [⟨0, 10, 13, 19⟩] ⟨0, 10, 17, 13⟩ [] (by rw [ht]; rfl) (fun z hz => by
    simp only [List.mem_cons, List.not_mem_nil, or_false] at hz
    rcases hz with rfl
    · exact Or.inr ⟨by decide, "java/lang/IndexOutOfBoundsException", (hts (.classLink RL 19 "java/lang/IndexOutOfBoundsException") (List.mem_of_getElem? (i := 1) rfl)), hX.2.1 ("java/lang/IllegalArgumentException", "java/lang/IndexOutOfBoundsException") (by decide +kernel)⟩) (by decide) (by decide) (hts (.classLink RL 13 "java/lang/IllegalArgumentException") (List.mem_of_getElem? (i := 2) rfl)) (va_Nw.use rfl (hX.1.1 "java/lang/IllegalArgumentException" (by decide +kernel))) hce hcv hcl ?_
  refine lv_astore (lv' := [(4, .ref q9), (0, .ref (ad 0 0)), (1, .int p1), (2, .int p2), (3, .ref o)]) hx hb dL_climber_17 hl (by decide) rfl (fun ls hl => ?_)
  refine lv_iconst (v := 2) hx hb dL_climber_19 (by decide) ?_
  exact hend _ _ _ _ _ hP hD hS (RetOK.i dL_climber_20)
abbrev rL_count : Room := { frames := 7, cells := 1, slots := 6, locals := 135 }
theorem hdL_count : yL_count.cls ≠ "java/lang/invoke/MethodHandle" ∧ yL_count.cls ≠ "java/lang/invoke/VarHandle" ∧ (parseMethodDescriptor yL_count.desc).map (fun d => d.parameters.length) = some 3 := by decide +kernel
set_option maxRecDepth 100000 in
set_option maxHeartbeats 8000000 in
theorem wL_count (l : Launch) (hst : l.stackTraces = false) (g : GG) (ad : Nat → Nat → Nat) (o : Nat) {tx : Tx} {is : Is} {wa : Wa} {st : St} {hi : Hi} {out : Nat → Int64} {p1 : Int32} {res : Int32} {is' : Is} (h : fX5_count tx is wa st hi p1 = some (.inr (res, is'))) : CL l g yL_count wsL_count rL_count [.ref (ad 0 0), .int p1, .ref o] (cOut g o out ++ wBR g ad tx is wa st hi) (some (.int 0)) (cOut g o (vp_updL out 0 res.toInt64) ++ wBR g ad tx is' wa st hi) := by
  refine CL_of (cc := cL_count) (maxL := 4) (ret := some .int) (hh := [(0, 9, 12, 13)]) (by decide +kernel) rfl (Nat.le_of_ble_eq_true rfl) ?_
  intro p e su m args below meth c A Q ls hx hb hml hown hts hK hN hA hX hZ ht hP hD hS hl hend
  have hl : lv_has ls 4 [(0, .ref (ad 0 0)), (1, .int p1), (2, .ref o)] := hl
  refine lv_aload_n hx hb dL_count_0 rfl (lv_at hl 2 rfl) ?_
  refine lv_iconst (v := 0) hx hb dL_count_1 (by decide) ?_
  refine lv_aload_n hx hb dL_count_2 rfl (lv_at hl 0 rfl) ?_
  refine lv_iload_n hx hb dL_count_3 rfl (lv_at hl 1 rfl) ?_
  have q0 : (cOut g o out ++ wBR g ad tx is wa st hi).Perm (wBR g ad tx is wa st hi ++ cOut g o out) := List.perm_append_comm
  refine aft_p (st1 := [.int res, .int 0, .ref o]) (ws' := (cOut g o out ++ wBR g ad tx is' wa st hi)) rfl q0 List.perm_append_comm (runV (As := [.int p1]) (rest := [.int 0, .ref o]) ⟨hx, hb, hml, hown, hts⟩ (kX5_count l g ad h) (cwV 1 hts gL_count_X5_count rfl rfl rfl hdX5_count ⟨Nat.le_of_ble_eq_true rfl, Nat.le_of_ble_eq_true rfl⟩) hK hN (hP.perm q0).left (hD.perm q0).left (va_recv hK hP (ci := 5) (q0 := 1) rfl rfl) rfl hl.1 rfl (Nat.le_of_ble_eq_true rfl) dL_count_4 ⟨Nat.zero_le _, Nat.zero_le _⟩) hP hD hS hA (fun H locs hP hD hS => ?_)
  refine lv_i2l (v := res.toInt64) hx hb dL_count_7 rfl ?_
  refine va_last hx hb hK hP hD hS 0 2 rfl rfl (inb_in (i := 0) (n := 1) (by decide)) dL_count_8 (fun H locs hP hD hS => ?_)
  have hP : va_P g.1 vwCl (cOut g o (vp_updL out 0 res.toInt64) ++ wBR g ad tx is' wa st hi) H := hP
  have hD : va_D A (cOut g o (vp_updL out 0 res.toInt64) ++ wBR g ad tx is' wa st hi) := hD
  refine lv_goto (tgt := 15) hx hb dL_count_9 (by decide) ?_
  refine lv_iconst (v := 0) hx hb dL_count_15 (by decide) ?_
  refine W.widen (k := 1) (n := 6) (Nat.zero_le _) (Nat.zero_le _) ?_
  exact hend _ _ _ _ _ hP hD hS (RetOK.i dL_count_16)
set_option maxRecDepth 100000 in
set_option maxHeartbeats 8000000 in
theorem wL_count_2 (l : Launch) (hst : l.stackTraces = false) (g : GG) (ad : Nat → Nat → Nat) (o : Nat) {tx : Tx} {is : Is} {wa : Wa} {st : St} {hi : Hi} {out : Nat → Int64} {p1 : Int32} (h : fX5_count tx is wa st hi p1 = some (.inl 2)) : CL l g yL_count wsL_count rL_count [.ref (ad 0 0), .int p1, .ref o] (cOut g o out ++ wBR g ad tx is wa st hi) (some (.int 1)) (cOut g o out ++ wBR g ad tx is wa st hi) := by
  refine CL_of (cc := cL_count) (maxL := 4) (ret := some .int) (hh := [(0, 9, 12, 13)]) (by decide +kernel) rfl (Nat.le_of_ble_eq_true rfl) ?_
  intro p e su m args below meth c A Q ls hx hb hml hown hts hK hN hA hX hZ ht hP hD hS hl hend
  have hl : lv_has ls 4 [(0, .ref (ad 0 0)), (1, .int p1), (2, .ref o)] := hl
  refine lv_aload_n hx hb dL_count_0 rfl (lv_at hl 2 rfl) ?_
  refine lv_iconst (v := 0) hx hb dL_count_1 (by decide) ?_
  refine lv_aload_n hx hb dL_count_2 rfl (lv_at hl 0 rfl) ?_
  refine lv_iload_n hx hb dL_count_3 rfl (lv_at hl 1 rfl) ?_
  have q0 : (cOut g o out ++ wBR g ad tx is wa st hi).Perm (wBR g ad tx is wa st hi ++ cOut g o out) := List.perm_append_comm
  have hPc := (hP.perm q0).left
  have hDc := (hD.perm q0).left
  refine aftX (E := "java/lang/IllegalArgumentException") q0 (vx_runV (As := [.int p1]) (rest := [.int 0, .ref o]) ⟨hx, hb, hml, hown, hts⟩ (tX5_count_2 l hst g ad h su.heap.size) (cwV 1 hts gL_count_X5_count rfl rfl rfl hdX5_count ⟨Nat.le_of_ble_eq_true rfl, Nat.le_of_ble_eq_true rfl⟩) ⟨PgX_blind _ _ _ _, (va_recv hK hP (ci := 5) (q0 := 1) rfl rfl), fun U hU hW => ⟨rfl, ⟨by rw [hU], by rw [hU]; exact hPc, va_K.moved hW.alike hK, hDc.weaken (fun _ _ _ _ => trivial), hN.warm hW⟩, hX.warm hW, by rw [hU]; exact Zs.moved hW.alike (hZ.narrow (fr_free hDc hS hA))⟩⟩ rfl rfl hl.1 rfl (lv_room (Nat.le_of_ble_eq_true rfl)) dL_count_4 ⟨Nat.le_of_ble_eq_true rfl, Nat.le_of_ble_eq_true rfl⟩) hP hD hS hA (fun ce q9 H locs hP hS hce hcv hcl => ?_)
  refine vx_catch (own := RL) (name := "java/lang/IllegalArgumentException") (E := "java/lang/IllegalArgumentException") hown [] ⟨0, 9, 12, 13⟩ [] (by rw [ht]; rfl) (fun z hz => by simp at hz) (by decide) (by decide) (hts (.classLink RL 13 "java/lang/IllegalArgumentException") (List.mem_of_getElem? (i := 1) rfl)) (va_Nw.use rfl (hX.1.1 "java/lang/IllegalArgumentException" (by decide +kernel))) hce hcv hcl ?_
  refine lv_astore_n (lv' := [(3, .ref q9), (0, .ref (ad 0 0)), (1, .int p1), (2, .ref o)]) hx hb dL_count_12 rfl hl (by decide) rfl (fun ls hl => ?_)
  refine lv_iconst (v := 1) hx hb dL_count_13 (by decide) ?_
  exact hend _ _ _ _ _ hP hD hS (RetOK.i dL_count_14)
abbrev rL_firstError : Room := { frames := 7, cells := 1, slots := 6, locals := 111 }
theorem hdL_firstError : yL_firstError.cls ≠ "java/lang/invoke/MethodHandle" ∧ yL_firstError.cls ≠ "java/lang/invoke/VarHandle" ∧ (parseMethodDescriptor yL_firstError.desc).map (fun d => d.parameters.length) = some 3 := by decide +kernel
set_option maxRecDepth 100000 in
set_option maxHeartbeats 8000000 in
theorem wL_firstError (l : Launch) (hst : l.stackTraces = false) (g : GG) (ad : Nat → Nat → Nat) (o : Nat) {tx : Tx} {is : Is} {wa : Wa} {st : St} {hi : Hi} {out : Nat → Int64} {p1 : Int32} {res : Int32}  (h : fX5_firstError tx is wa st hi p1 = some (.inr res)) : CL l g yL_firstError wsL_firstError rL_firstError [.ref (ad 0 0), .int p1, .ref o] (cOut g o out ++ wBR g ad tx is wa st hi) (some (.int 0)) (cOut g o (vp_updL out 0 res.toInt64) ++ wBR g ad tx is wa st hi) := by
  refine CL_of (cc := cL_firstError) (maxL := 4) (ret := some .int) (hh := [(0, 9, 12, 13)]) (by decide +kernel) rfl (Nat.le_of_ble_eq_true rfl) ?_
  intro p e su m args below meth c A Q ls hx hb hml hown hts hK hN hA hX hZ ht hP hD hS hl hend
  have hl : lv_has ls 4 [(0, .ref (ad 0 0)), (1, .int p1), (2, .ref o)] := hl
  refine lv_aload_n hx hb dL_firstError_0 rfl (lv_at hl 2 rfl) ?_
  refine lv_iconst (v := 0) hx hb dL_firstError_1 (by decide) ?_
  refine lv_aload_n hx hb dL_firstError_2 rfl (lv_at hl 0 rfl) ?_
  refine lv_iload_n hx hb dL_firstError_3 rfl (lv_at hl 1 rfl) ?_
  have q0 : (cOut g o out ++ wBR g ad tx is wa st hi).Perm (wBR g ad tx is wa st hi ++ cOut g o out) := List.perm_append_comm
  refine aft_p (st1 := [.int res, .int 0, .ref o]) (ws' := (cOut g o out ++ wBR g ad tx is wa st hi)) rfl q0 List.perm_append_comm (runV (As := [.int p1]) (rest := [.int 0, .ref o]) ⟨hx, hb, hml, hown, hts⟩ (kX5_firstError l g ad h) (cwV 1 hts gL_firstError_X5_firstError rfl rfl rfl hdX5_firstError ⟨Nat.le_of_ble_eq_true rfl, Nat.le_of_ble_eq_true rfl⟩) hK hN (hP.perm q0).left (hD.perm q0).left (va_recv hK hP (ci := 5) (q0 := 1) rfl rfl) rfl hl.1 rfl (Nat.le_of_ble_eq_true rfl) dL_firstError_4 ⟨Nat.zero_le _, Nat.zero_le _⟩) hP hD hS hA (fun H locs hP hD hS => ?_)
  refine lv_i2l (v := res.toInt64) hx hb dL_firstError_7 rfl ?_
  refine va_last hx hb hK hP hD hS 0 2 rfl rfl (inb_in (i := 0) (n := 1) (by decide)) dL_firstError_8 (fun H locs hP hD hS => ?_)
  have hP : va_P g.1 vwCl (cOut g o (vp_updL out 0 res.toInt64) ++ wBR g ad tx is wa st hi) H := hP
  have hD : va_D A (cOut g o (vp_updL out 0 res.toInt64) ++ wBR g ad tx is wa st hi) := hD
  refine lv_goto (tgt := 15) hx hb dL_firstError_9 (by decide) ?_
  refine lv_iconst (v := 0) hx hb dL_firstError_15 (by decide) ?_
  refine W.widen (k := 1) (n := 6) (Nat.zero_le _) (Nat.zero_le _) ?_
  exact hend _ _ _ _ _ hP hD hS (RetOK.i dL_firstError_16)
set_option maxRecDepth 100000 in
set_option maxHeartbeats 8000000 in
theorem wL_firstError_2 (l : Launch) (hst : l.stackTraces = false) (g : GG) (ad : Nat → Nat → Nat) (o : Nat) {tx : Tx} {is : Is} {wa : Wa} {st : St} {hi : Hi} {out : Nat → Int64} {p1 : Int32} (h : fX5_firstError tx is wa st hi p1 = some (.inl 2)) : CL l g yL_firstError wsL_firstError rL_firstError [.ref (ad 0 0), .int p1, .ref o] (cOut g o out ++ wBR g ad tx is wa st hi) (some (.int 1)) (cOut g o out ++ wBR g ad tx is wa st hi) := by
  refine CL_of (cc := cL_firstError) (maxL := 4) (ret := some .int) (hh := [(0, 9, 12, 13)]) (by decide +kernel) rfl (Nat.le_of_ble_eq_true rfl) ?_
  intro p e su m args below meth c A Q ls hx hb hml hown hts hK hN hA hX hZ ht hP hD hS hl hend
  have hl : lv_has ls 4 [(0, .ref (ad 0 0)), (1, .int p1), (2, .ref o)] := hl
  refine lv_aload_n hx hb dL_firstError_0 rfl (lv_at hl 2 rfl) ?_
  refine lv_iconst (v := 0) hx hb dL_firstError_1 (by decide) ?_
  refine lv_aload_n hx hb dL_firstError_2 rfl (lv_at hl 0 rfl) ?_
  refine lv_iload_n hx hb dL_firstError_3 rfl (lv_at hl 1 rfl) ?_
  have q0 : (cOut g o out ++ wBR g ad tx is wa st hi).Perm (wBR g ad tx is wa st hi ++ cOut g o out) := List.perm_append_comm
  have hPc := (hP.perm q0).left
  have hDc := (hD.perm q0).left
  refine aftX (E := "java/lang/IllegalArgumentException") q0 (vx_runV (As := [.int p1]) (rest := [.int 0, .ref o]) ⟨hx, hb, hml, hown, hts⟩ (tX5_firstError_2 l hst g ad h su.heap.size) (cwV 1 hts gL_firstError_X5_firstError rfl rfl rfl hdX5_firstError ⟨Nat.le_of_ble_eq_true rfl, Nat.le_of_ble_eq_true rfl⟩) ⟨PgX_blind _ _ _ _, (va_recv hK hP (ci := 5) (q0 := 1) rfl rfl), fun U hU hW => ⟨rfl, ⟨by rw [hU], by rw [hU]; exact hPc, va_K.moved hW.alike hK, hDc.weaken (fun _ _ _ _ => trivial), hN.warm hW⟩, hX.warm hW, by rw [hU]; exact Zs.moved hW.alike (hZ.narrow (fr_free hDc hS hA))⟩⟩ rfl rfl hl.1 rfl (lv_room (Nat.le_of_ble_eq_true rfl)) dL_firstError_4 ⟨Nat.le_of_ble_eq_true rfl, Nat.le_of_ble_eq_true rfl⟩) hP hD hS hA (fun ce q9 H locs hP hS hce hcv hcl => ?_)
  refine vx_catch (own := RL) (name := "java/lang/IllegalArgumentException") (E := "java/lang/IllegalArgumentException") hown [] ⟨0, 9, 12, 13⟩ [] (by rw [ht]; rfl) (fun z hz => by simp at hz) (by decide) (by decide) (hts (.classLink RL 13 "java/lang/IllegalArgumentException") (List.mem_of_getElem? (i := 1) rfl)) (va_Nw.use rfl (hX.1.1 "java/lang/IllegalArgumentException" (by decide +kernel))) hce hcv hcl ?_
  refine lv_astore_n (lv' := [(3, .ref q9), (0, .ref (ad 0 0)), (1, .int p1), (2, .ref o)]) hx hb dL_firstError_12 rfl hl (by decide) rfl (fun ls hl => ?_)
  refine lv_iconst (v := 1) hx hb dL_firstError_13 (by decide) ?_
  exact hend _ _ _ _ _ hP hD hS (RetOK.i dL_firstError_14)
abbrev rL_goBack : Room := { frames := 7, cells := 1, slots := 6, locals := 122 }
theorem hdL_goBack : yL_goBack.cls ≠ "java/lang/invoke/MethodHandle" ∧ yL_goBack.cls ≠ "java/lang/invoke/VarHandle" ∧ (parseMethodDescriptor yL_goBack.desc).map (fun d => d.parameters.length) = some 2 := by decide +kernel
set_option maxRecDepth 100000 in
set_option maxHeartbeats 8000000 in
theorem wL_goBack (l : Launch) (hst : l.stackTraces = false) (g : GG) (ad : Nat → Nat → Nat) (o : Nat) {tx : Tx} {is : Is} {wa : Wa} {st : St} {hi : Hi} {out : Nat → Int64} {res : Int32} {st' : St} {hi' : Hi} (h : fX5_goBack tx is wa st hi = some (.inr (res, st', hi'))) : CL l g yL_goBack wsL_goBack rL_goBack [.ref (ad 0 0), .ref o] (cOut g o out ++ wBR g ad tx is wa st hi) (some (.int 0)) (cOut g o (vp_updL out 0 res.toInt64) ++ wBR g ad tx is wa st' hi') := by
  refine CL_of (cc := cL_goBack) (maxL := 3) (ret := some .int) (hh := [(0, 8, 11, 28)]) (by decide +kernel) rfl (Nat.le_of_ble_eq_true rfl) ?_
  intro p e su m args below meth c A Q ls hx hb hml hown hts hK hN hA hX hZ ht hP hD hS hl hend
  have hl : lv_has ls 3 [(0, .ref (ad 0 0)), (1, .ref o)] := hl
  refine lv_aload_n hx hb dL_goBack_0 rfl (lv_at hl 1 rfl) ?_
  refine lv_iconst (v := 0) hx hb dL_goBack_1 (by decide) ?_
  refine lv_aload_n hx hb dL_goBack_2 rfl (lv_at hl 0 rfl) ?_
  have q0 : (cOut g o out ++ wBR g ad tx is wa st hi).Perm (wBR g ad tx is wa st hi ++ cOut g o out) := List.perm_append_comm
  refine aft_p (st1 := [.int res, .int 0, .ref o]) (ws' := (cOut g o out ++ wBR g ad tx is wa st' hi')) rfl q0 List.perm_append_comm (runV (As := []) (rest := [.int 0, .ref o]) ⟨hx, hb, hml, hown, hts⟩ (kX5_goBack l g ad h) (cwV 0 hts gL_goBack_X5_goBack rfl rfl rfl hdX5_goBack ⟨Nat.le_of_ble_eq_true rfl, Nat.le_of_ble_eq_true rfl⟩) hK hN (hP.perm q0).left (hD.perm q0).left (va_recv hK hP (ci := 5) (q0 := 1) rfl rfl) rfl hl.1 rfl (Nat.le_of_ble_eq_true rfl) dL_goBack_3 ⟨Nat.zero_le _, Nat.zero_le _⟩) hP hD hS hA (fun H locs hP hD hS => ?_)
  refine lv_i2l (v := res.toInt64) hx hb dL_goBack_6 rfl ?_
  refine va_last hx hb hK hP hD hS 0 2 rfl rfl (inb_in (i := 0) (n := 1) (by decide)) dL_goBack_7 (fun H locs hP hD hS => ?_)
  have hP : va_P g.1 vwCl (cOut g o (vp_updL out 0 res.toInt64) ++ wBR g ad tx is wa st' hi') H := hP
  have hD : va_D A (cOut g o (vp_updL out 0 res.toInt64) ++ wBR g ad tx is wa st' hi') := hD
  refine lv_goto (tgt := 14) hx hb dL_goBack_8 (by decide) ?_
  refine lv_iconst (v := 0) hx hb dL_goBack_14 (by decide) ?_
  refine W.widen (k := 1) (n := 6) (Nat.zero_le _) (Nat.zero_le _) ?_
  exact hend _ _ _ _ _ hP hD hS (RetOK.i dL_goBack_15)
set_option maxRecDepth 100000 in
set_option maxHeartbeats 8000000 in
theorem wL_goBack_3 (l : Launch) (hst : l.stackTraces = false) (g : GG) (ad : Nat → Nat → Nat) (o : Nat) {tx : Tx} {is : Is} {wa : Wa} {st : St} {hi : Hi} {out : Nat → Int64} (h : fX5_goBack tx is wa st hi = some (.inl 3)) : CL l g yL_goBack wsL_goBack rL_goBack [.ref (ad 0 0), .ref o] (cOut g o out ++ wBR g ad tx is wa st hi) (some (.int 1)) (cOut g o out ++ wBR g ad tx is wa st hi) := by
  refine CL_of (cc := cL_goBack) (maxL := 3) (ret := some .int) (hh := [(0, 8, 11, 28)]) (by decide +kernel) rfl (Nat.le_of_ble_eq_true rfl) ?_
  intro p e su m args below meth c A Q ls hx hb hml hown hts hK hN hA hX hZ ht hP hD hS hl hend
  have hl : lv_has ls 3 [(0, .ref (ad 0 0)), (1, .ref o)] := hl
  refine lv_aload_n hx hb dL_goBack_0 rfl (lv_at hl 1 rfl) ?_
  refine lv_iconst (v := 0) hx hb dL_goBack_1 (by decide) ?_
  refine lv_aload_n hx hb dL_goBack_2 rfl (lv_at hl 0 rfl) ?_
  have q0 : (cOut g o out ++ wBR g ad tx is wa st hi).Perm (wBR g ad tx is wa st hi ++ cOut g o out) := List.perm_append_comm
  have hPc := (hP.perm q0).left
  have hDc := (hD.perm q0).left
  refine aftX (E := "java/lang/IllegalStateException") q0 (vx_runV (As := []) (rest := [.int 0, .ref o]) ⟨hx, hb, hml, hown, hts⟩ (tX5_goBack_3 l hst g ad h su.heap.size) (cwV 0 hts gL_goBack_X5_goBack rfl rfl rfl hdX5_goBack ⟨Nat.le_of_ble_eq_true rfl, Nat.le_of_ble_eq_true rfl⟩) ⟨PgX_blind _ _ _ _, (va_recv hK hP (ci := 5) (q0 := 1) rfl rfl), fun U hU hW => ⟨rfl, ⟨by rw [hU], by rw [hU]; exact hPc, va_K.moved hW.alike hK, hDc.weaken (fun _ _ _ _ => trivial), hN.warm hW⟩, hX.warm hW, by rw [hU]; exact Zs.moved hW.alike (hZ.narrow (fr_free hDc hS hA))⟩⟩ rfl rfl hl.1 rfl (lv_room (Nat.le_of_ble_eq_true rfl)) dL_goBack_3 ⟨Nat.le_of_ble_eq_true rfl, Nat.le_of_ble_eq_true rfl⟩) hP hD hS hA (fun ce q9 H locs hP hS hce hcv hcl => ?_)
  refine vx_catch (own := RL) (name := "java/lang/IllegalStateException") (E := "java/lang/IllegalStateException") hown [] ⟨0, 8, 11, 28⟩ [] (by rw [ht]; rfl) (fun z hz => by simp at hz) (by decide) (by decide) (hts (.classLink RL 28 "java/lang/IllegalStateException") (List.mem_of_getElem? (i := 1) rfl)) (va_Nw.use rfl (hX.1.1 "java/lang/IllegalStateException" (by decide +kernel))) hce hcv hcl ?_
  refine lv_astore_n (lv' := [(2, .ref q9), (0, .ref (ad 0 0)), (1, .ref o)]) hx hb dL_goBack_11 rfl hl (by decide) rfl (fun ls hl => ?_)
  refine lv_iconst (v := 1) hx hb dL_goBack_12 (by decide) ?_
  exact hend _ _ _ _ _ hP hD hS (RetOK.i dL_goBack_13)
abbrev rL_ifPut : Room := { frames := 7, cells := 1, slots := 6, locals := 119 }
theorem hdL_ifPut : yL_ifPut.cls ≠ "java/lang/invoke/MethodHandle" ∧ yL_ifPut.cls ≠ "java/lang/invoke/VarHandle" ∧ (parseMethodDescriptor yL_ifPut.desc).map (fun d => d.parameters.length) = some 4 := by decide +kernel
set_option maxRecDepth 100000 in
set_option maxHeartbeats 8000000 in
theorem wL_ifPut (l : Launch) (hst : l.stackTraces = false) (g : GG) (ad : Nat → Nat → Nat) (o : Nat) {tx : Tx} {is : Is} {wa : Wa} {st : St} {hi : Hi} {out : Nat → Int64} {p1 : Int32} {p2 : Int32} {res : Int32} {wa' : Wa} (h : fX5_ifPut tx is wa st hi p1 p2 = some (.inr (res, wa'))) : CL l g yL_ifPut wsL_ifPut rL_ifPut [.ref (ad 0 0), .int p1, .int p2, .ref o] (cOut g o out ++ wBR g ad tx is wa st hi) (some (.int 0)) (cOut g o (vp_updL out 0 res.toInt64) ++ wBR g ad tx is wa' st hi) := by
  refine CL_of (cc := cL_ifPut) (maxL := 5) (ret := some .int) (hh := [(0, 10, 13, 19), (0, 10, 17, 13)]) (by decide +kernel) rfl (Nat.le_of_ble_eq_true rfl) ?_
  intro p e su m args below meth c A Q ls hx hb hml hown hts hK hN hA hX hZ ht hP hD hS hl hend
  have hl : lv_has ls 5 [(0, .ref (ad 0 0)), (1, .int p1), (2, .int p2), (3, .ref o)] := hl
  refine lv_aload_n hx hb dL_ifPut_0 rfl (lv_at hl 3 rfl) ?_
  refine lv_iconst (v := 0) hx hb dL_ifPut_1 (by decide) ?_
  refine lv_aload_n hx hb dL_ifPut_2 rfl (lv_at hl 0 rfl) ?_
  refine lv_iload_n hx hb dL_ifPut_3 rfl (lv_at hl 1 rfl) ?_
  refine lv_iload_n hx hb dL_ifPut_4 rfl (lv_at hl 2 rfl) ?_
  have q0 : (cOut g o out ++ wBR g ad tx is wa st hi).Perm (wBR g ad tx is wa st hi ++ cOut g o out) := List.perm_append_comm
  refine aft_p (st1 := [.int res, .int 0, .ref o]) (ws' := (cOut g o out ++ wBR g ad tx is wa' st hi)) rfl q0 List.perm_append_comm (runV (As := [.int p1, .int p2]) (rest := [.int 0, .ref o]) ⟨hx, hb, hml, hown, hts⟩ (kX5_ifPut l g ad h) (cwV 2 hts gL_ifPut_X5_ifPut rfl rfl rfl hdX5_ifPut ⟨Nat.le_of_ble_eq_true rfl, Nat.le_of_ble_eq_true rfl⟩) hK hN (hP.perm q0).left (hD.perm q0).left (va_recv hK hP (ci := 5) (q0 := 1) rfl rfl) rfl hl.1 rfl (Nat.le_of_ble_eq_true rfl) dL_ifPut_5 ⟨Nat.zero_le _, Nat.zero_le _⟩) hP hD hS hA (fun H locs hP hD hS => ?_)
  refine lv_i2l (v := res.toInt64) hx hb dL_ifPut_8 rfl ?_
  refine va_last hx hb hK hP hD hS 0 2 rfl rfl (inb_in (i := 0) (n := 1) (by decide)) dL_ifPut_9 (fun H locs hP hD hS => ?_)
  have hP : va_P g.1 vwCl (cOut g o (vp_updL out 0 res.toInt64) ++ wBR g ad tx is wa' st hi) H := hP
  have hD : va_D A (cOut g o (vp_updL out 0 res.toInt64) ++ wBR g ad tx is wa' st hi) := hD
  refine lv_goto (tgt := 21) hx hb dL_ifPut_10 (by decide) ?_
  refine lv_iconst (v := 0) hx hb dL_ifPut_21 (by decide) ?_
  refine W.widen (k := 1) (n := 6) (Nat.zero_le _) (Nat.zero_le _) ?_
  exact hend _ _ _ _ _ hP hD hS (RetOK.i dL_ifPut_22)
set_option maxRecDepth 100000 in
set_option maxHeartbeats 8000000 in
theorem wL_ifPut_1 (l : Launch) (hst : l.stackTraces = false) (g : GG) (ad : Nat → Nat → Nat) (o : Nat) {tx : Tx} {is : Is} {wa : Wa} {st : St} {hi : Hi} {out : Nat → Int64} {p1 : Int32} {p2 : Int32} (h : fX5_ifPut tx is wa st hi p1 p2 = some (.inl 1)) : CL l g yL_ifPut wsL_ifPut rL_ifPut [.ref (ad 0 0), .int p1, .int p2, .ref o] (cOut g o out ++ wBR g ad tx is wa st hi) (some (.int 1)) (cOut g o out ++ wBR g ad tx is wa st hi) := by
  refine CL_of (cc := cL_ifPut) (maxL := 5) (ret := some .int) (hh := [(0, 10, 13, 19), (0, 10, 17, 13)]) (by decide +kernel) rfl (Nat.le_of_ble_eq_true rfl) ?_
  intro p e su m args below meth c A Q ls hx hb hml hown hts hK hN hA hX hZ ht hP hD hS hl hend
  have hl : lv_has ls 5 [(0, .ref (ad 0 0)), (1, .int p1), (2, .int p2), (3, .ref o)] := hl
  refine lv_aload_n hx hb dL_ifPut_0 rfl (lv_at hl 3 rfl) ?_
  refine lv_iconst (v := 0) hx hb dL_ifPut_1 (by decide) ?_
  refine lv_aload_n hx hb dL_ifPut_2 rfl (lv_at hl 0 rfl) ?_
  refine lv_iload_n hx hb dL_ifPut_3 rfl (lv_at hl 1 rfl) ?_
  refine lv_iload_n hx hb dL_ifPut_4 rfl (lv_at hl 2 rfl) ?_
  have q0 : (cOut g o out ++ wBR g ad tx is wa st hi).Perm (wBR g ad tx is wa st hi ++ cOut g o out) := List.perm_append_comm
  have hPc := (hP.perm q0).left
  have hDc := (hD.perm q0).left
  refine aftX (E := "java/lang/IndexOutOfBoundsException") q0 (vx_runV (As := [.int p1, .int p2]) (rest := [.int 0, .ref o]) ⟨hx, hb, hml, hown, hts⟩ (tX5_ifPut_1 l hst g ad h su.heap.size) (cwV 2 hts gL_ifPut_X5_ifPut rfl rfl rfl hdX5_ifPut ⟨Nat.le_of_ble_eq_true rfl, Nat.le_of_ble_eq_true rfl⟩) ⟨PgX_blind _ _ _ _, (va_recv hK hP (ci := 5) (q0 := 1) rfl rfl), fun U hU hW => ⟨rfl, ⟨by rw [hU], by rw [hU]; exact hPc, va_K.moved hW.alike hK, hDc.weaken (fun _ _ _ _ => trivial), hN.warm hW⟩, hX.warm hW, by rw [hU]; exact Zs.moved hW.alike (hZ.narrow (fr_free hDc hS hA))⟩⟩ rfl rfl hl.1 rfl (lv_room (Nat.le_of_ble_eq_true rfl)) dL_ifPut_5 ⟨Nat.le_of_ble_eq_true rfl, Nat.le_of_ble_eq_true rfl⟩) hP hD hS hA (fun ce q9 H locs hP hS hce hcv hcl => ?_)
  refine vx_catch (own := RL) (name := "java/lang/IndexOutOfBoundsException") (E := "java/lang/IndexOutOfBoundsException") hown [] ⟨0, 10, 13, 19⟩ [⟨0, 10, 17, 13⟩] (by rw [ht]; rfl) (fun z hz => by simp at hz) (by decide) (by decide) (hts (.classLink RL 19 "java/lang/IndexOutOfBoundsException") (List.mem_of_getElem? (i := 1) rfl)) (va_Nw.use rfl (hX.1.1 "java/lang/IndexOutOfBoundsException" (by decide +kernel))) hce hcv hcl ?_
  refine lv_astore (lv' := [(4, .ref q9), (0, .ref (ad 0 0)), (1, .int p1), (2, .int p2), (3, .ref o)]) hx hb dL_ifPut_13 hl (by decide) rfl (fun ls hl => ?_)
  refine lv_iconst (v := 1) hx hb dL_ifPut_15 (by decide) ?_
  exact hend _ _ _ _ _ hP hD hS (RetOK.i dL_ifPut_16)
set_option maxRecDepth 100000 in
set_option maxHeartbeats 8000000 in
theorem wL_ifPut_2 (l : Launch) (hst : l.stackTraces = false) (g : GG) (ad : Nat → Nat → Nat) (o : Nat) {tx : Tx} {is : Is} {wa : Wa} {st : St} {hi : Hi} {out : Nat → Int64} {p1 : Int32} {p2 : Int32} (h : fX5_ifPut tx is wa st hi p1 p2 = some (.inl 2)) : CL l g yL_ifPut wsL_ifPut rL_ifPut [.ref (ad 0 0), .int p1, .int p2, .ref o] (cOut g o out ++ wBR g ad tx is wa st hi) (some (.int 2)) (cOut g o out ++ wBR g ad tx is wa st hi) := by
  refine CL_of (cc := cL_ifPut) (maxL := 5) (ret := some .int) (hh := [(0, 10, 13, 19), (0, 10, 17, 13)]) (by decide +kernel) rfl (Nat.le_of_ble_eq_true rfl) ?_
  intro p e su m args below meth c A Q ls hx hb hml hown hts hK hN hA hX hZ ht hP hD hS hl hend
  have hl : lv_has ls 5 [(0, .ref (ad 0 0)), (1, .int p1), (2, .int p2), (3, .ref o)] := hl
  refine lv_aload_n hx hb dL_ifPut_0 rfl (lv_at hl 3 rfl) ?_
  refine lv_iconst (v := 0) hx hb dL_ifPut_1 (by decide) ?_
  refine lv_aload_n hx hb dL_ifPut_2 rfl (lv_at hl 0 rfl) ?_
  refine lv_iload_n hx hb dL_ifPut_3 rfl (lv_at hl 1 rfl) ?_
  refine lv_iload_n hx hb dL_ifPut_4 rfl (lv_at hl 2 rfl) ?_
  have q0 : (cOut g o out ++ wBR g ad tx is wa st hi).Perm (wBR g ad tx is wa st hi ++ cOut g o out) := List.perm_append_comm
  have hPc := (hP.perm q0).left
  have hDc := (hD.perm q0).left
  refine aftX (E := "java/lang/IllegalArgumentException") q0 (vx_runV (As := [.int p1, .int p2]) (rest := [.int 0, .ref o]) ⟨hx, hb, hml, hown, hts⟩ (tX5_ifPut_2 l hst g ad h su.heap.size) (cwV 2 hts gL_ifPut_X5_ifPut rfl rfl rfl hdX5_ifPut ⟨Nat.le_of_ble_eq_true rfl, Nat.le_of_ble_eq_true rfl⟩) ⟨PgX_blind _ _ _ _, (va_recv hK hP (ci := 5) (q0 := 1) rfl rfl), fun U hU hW => ⟨rfl, ⟨by rw [hU], by rw [hU]; exact hPc, va_K.moved hW.alike hK, hDc.weaken (fun _ _ _ _ => trivial), hN.warm hW⟩, hX.warm hW, by rw [hU]; exact Zs.moved hW.alike (hZ.narrow (fr_free hDc hS hA))⟩⟩ rfl rfl hl.1 rfl (lv_room (Nat.le_of_ble_eq_true rfl)) dL_ifPut_5 ⟨Nat.le_of_ble_eq_true rfl, Nat.le_of_ble_eq_true rfl⟩) hP hD hS hA (fun ce q9 H locs hP hS hce hcv hcl => ?_)
  refine vx_catch (own := RL) (name := "java/lang/IllegalArgumentException") (E := "java/lang/IllegalArgumentException") hown [⟨0, 10, 13, 19⟩] ⟨0, 10, 17, 13⟩ [] (by rw [ht]; rfl) (fun z hz => by
    simp only [List.mem_cons, List.not_mem_nil, or_false] at hz
    rcases hz with rfl
    · exact Or.inr ⟨by decide, "java/lang/IndexOutOfBoundsException", (hts (.classLink RL 19 "java/lang/IndexOutOfBoundsException") (List.mem_of_getElem? (i := 1) rfl)), hX.2.1 ("java/lang/IllegalArgumentException", "java/lang/IndexOutOfBoundsException") (by decide +kernel)⟩) (by decide) (by decide) (hts (.classLink RL 13 "java/lang/IllegalArgumentException") (List.mem_of_getElem? (i := 2) rfl)) (va_Nw.use rfl (hX.1.1 "java/lang/IllegalArgumentException" (by decide +kernel))) hce hcv hcl ?_
  refine lv_astore (lv' := [(4, .ref q9), (0, .ref (ad 0 0)), (1, .int p1), (2, .int p2), (3, .ref o)]) hx hb dL_ifPut_17 hl (by decide) rfl (fun ls hl => ?_)
  refine lv_iconst (v := 2) hx hb dL_ifPut_19 (by decide) ?_
  exact hend _ _ _ _ _ hP hD hS (RetOK.i dL_ifPut_20)
abbrev rL_leave : Room := { frames := 7, cells := 1, slots := 6, locals := 124 }
theorem hdL_leave : yL_leave.cls ≠ "java/lang/invoke/MethodHandle" ∧ yL_leave.cls ≠ "java/lang/invoke/VarHandle" ∧ (parseMethodDescriptor yL_leave.desc).map (fun d => d.parameters.length) = some 3 := by decide +kernel
set_option maxRecDepth 100000 in
set_option maxHeartbeats 8000000 in
theorem wL_leave (l : Launch) (hst : l.stackTraces = false) (g : GG) (ad : Nat → Nat → Nat) (o : Nat) {tx : Tx} {is : Is} {wa : Wa} {st : St} {hi : Hi} {out : Nat → Int64} {p1 : Int32} {res : Int32} {st' : St} {hi' : Hi} (h : fX5_leave tx is wa st hi p1 = some (.inr (res, st', hi'))) : CL l g yL_leave wsL_leave rL_leave [.ref (ad 0 0), .int p1, .ref o] (cOut g o out ++ wBR g ad tx is wa st hi) (some (.int 0)) (cOut g o (vp_updL out 0 res.toInt64) ++ wBR g ad tx is wa st' hi') := by
  refine CL_of (cc := cL_leave) (maxL := 4) (ret := some .int) (hh := [(0, 9, 12, 19), (0, 9, 15, 28)]) (by decide +kernel) rfl (Nat.le_of_ble_eq_true rfl) ?_
  intro p e su m args below meth c A Q ls hx hb hml hown hts hK hN hA hX hZ ht hP hD hS hl hend
  have hl : lv_has ls 4 [(0, .ref (ad 0 0)), (1, .int p1), (2, .ref o)] := hl
  refine lv_aload_n hx hb dL_leave_0 rfl (lv_at hl 2 rfl) ?_
  refine lv_iconst (v := 0) hx hb dL_leave_1 (by decide) ?_
  refine lv_aload_n hx hb dL_leave_2 rfl (lv_at hl 0 rfl) ?_
  refine lv_iload_n hx hb dL_leave_3 rfl (lv_at hl 1 rfl) ?_
  have q0 : (cOut g o out ++ wBR g ad tx is wa st hi).Perm (wBR g ad tx is wa st hi ++ cOut g o out) := List.perm_append_comm
  refine aft_p (st1 := [.int res, .int 0, .ref o]) (ws' := (cOut g o out ++ wBR g ad tx is wa st' hi')) rfl q0 List.perm_append_comm (runV (As := [.int p1]) (rest := [.int 0, .ref o]) ⟨hx, hb, hml, hown, hts⟩ (kX5_leave l g ad h) (cwV 1 hts gL_leave_X5_leave rfl rfl rfl hdX5_leave ⟨Nat.le_of_ble_eq_true rfl, Nat.le_of_ble_eq_true rfl⟩) hK hN (hP.perm q0).left (hD.perm q0).left (va_recv hK hP (ci := 5) (q0 := 1) rfl rfl) rfl hl.1 rfl (Nat.le_of_ble_eq_true rfl) dL_leave_4 ⟨Nat.zero_le _, Nat.zero_le _⟩) hP hD hS hA (fun H locs hP hD hS => ?_)
  refine lv_i2l (v := res.toInt64) hx hb dL_leave_7 rfl ?_
  refine va_last hx hb hK hP hD hS 0 2 rfl rfl (inb_in (i := 0) (n := 1) (by decide)) dL_leave_8 (fun H locs hP hD hS => ?_)
  have hP : va_P g.1 vwCl (cOut g o (vp_updL out 0 res.toInt64) ++ wBR g ad tx is wa st' hi') H := hP
  have hD : va_D A (cOut g o (vp_updL out 0 res.toInt64) ++ wBR g ad tx is wa st' hi') := hD
  refine lv_goto (tgt := 18) hx hb dL_leave_9 (by decide) ?_
  refine lv_iconst (v := 0) hx hb dL_leave_18 (by decide) ?_
  refine W.widen (k := 1) (n := 6) (Nat.zero_le _) (Nat.zero_le _) ?_
  exact hend _ _ _ _ _ hP hD hS (RetOK.i dL_leave_19)
set_option maxRecDepth 100000 in
set_option maxHeartbeats 8000000 in
theorem wL_leave_1 (l : Launch) (hst : l.stackTraces = false) (g : GG) (ad : Nat → Nat → Nat) (o : Nat) {tx : Tx} {is : Is} {wa : Wa} {st : St} {hi : Hi} {out : Nat → Int64} {p1 : Int32} (h : fX5_leave tx is wa st hi p1 = some (.inl 1)) : CL l g yL_leave wsL_leave rL_leave [.ref (ad 0 0), .int p1, .ref o] (cOut g o out ++ wBR g ad tx is wa st hi) (some (.int 1)) (cOut g o out ++ wBR g ad tx is wa st hi) := by
  refine CL_of (cc := cL_leave) (maxL := 4) (ret := some .int) (hh := [(0, 9, 12, 19), (0, 9, 15, 28)]) (by decide +kernel) rfl (Nat.le_of_ble_eq_true rfl) ?_
  intro p e su m args below meth c A Q ls hx hb hml hown hts hK hN hA hX hZ ht hP hD hS hl hend
  have hl : lv_has ls 4 [(0, .ref (ad 0 0)), (1, .int p1), (2, .ref o)] := hl
  refine lv_aload_n hx hb dL_leave_0 rfl (lv_at hl 2 rfl) ?_
  refine lv_iconst (v := 0) hx hb dL_leave_1 (by decide) ?_
  refine lv_aload_n hx hb dL_leave_2 rfl (lv_at hl 0 rfl) ?_
  refine lv_iload_n hx hb dL_leave_3 rfl (lv_at hl 1 rfl) ?_
  have q0 : (cOut g o out ++ wBR g ad tx is wa st hi).Perm (wBR g ad tx is wa st hi ++ cOut g o out) := List.perm_append_comm
  have hPc := (hP.perm q0).left
  have hDc := (hD.perm q0).left
  refine aftX (E := "java/lang/IndexOutOfBoundsException") q0 (vx_runV (As := [.int p1]) (rest := [.int 0, .ref o]) ⟨hx, hb, hml, hown, hts⟩ (tX5_leave_1 l hst g ad h su.heap.size) (cwV 1 hts gL_leave_X5_leave rfl rfl rfl hdX5_leave ⟨Nat.le_of_ble_eq_true rfl, Nat.le_of_ble_eq_true rfl⟩) ⟨PgX_blind _ _ _ _, (va_recv hK hP (ci := 5) (q0 := 1) rfl rfl), fun U hU hW => ⟨rfl, ⟨by rw [hU], by rw [hU]; exact hPc, va_K.moved hW.alike hK, hDc.weaken (fun _ _ _ _ => trivial), hN.warm hW⟩, hX.warm hW, by rw [hU]; exact Zs.moved hW.alike (hZ.narrow (fr_free hDc hS hA))⟩⟩ rfl rfl hl.1 rfl (lv_room (Nat.le_of_ble_eq_true rfl)) dL_leave_4 ⟨Nat.le_of_ble_eq_true rfl, Nat.le_of_ble_eq_true rfl⟩) hP hD hS hA (fun ce q9 H locs hP hS hce hcv hcl => ?_)
  refine vx_catch (own := RL) (name := "java/lang/IndexOutOfBoundsException") (E := "java/lang/IndexOutOfBoundsException") hown [] ⟨0, 9, 12, 19⟩ [⟨0, 9, 15, 28⟩] (by rw [ht]; rfl) (fun z hz => by simp at hz) (by decide) (by decide) (hts (.classLink RL 19 "java/lang/IndexOutOfBoundsException") (List.mem_of_getElem? (i := 1) rfl)) (va_Nw.use rfl (hX.1.1 "java/lang/IndexOutOfBoundsException" (by decide +kernel))) hce hcv hcl ?_
  refine lv_astore_n (lv' := [(3, .ref q9), (0, .ref (ad 0 0)), (1, .int p1), (2, .ref o)]) hx hb dL_leave_12 rfl hl (by decide) rfl (fun ls hl => ?_)
  refine lv_iconst (v := 1) hx hb dL_leave_13 (by decide) ?_
  exact hend _ _ _ _ _ hP hD hS (RetOK.i dL_leave_14)
set_option maxRecDepth 100000 in
set_option maxHeartbeats 8000000 in
theorem wL_leave_3 (l : Launch) (hst : l.stackTraces = false) (g : GG) (ad : Nat → Nat → Nat) (o : Nat) {tx : Tx} {is : Is} {wa : Wa} {st : St} {hi : Hi} {out : Nat → Int64} {p1 : Int32} (h : fX5_leave tx is wa st hi p1 = some (.inl 3)) : CL l g yL_leave wsL_leave rL_leave [.ref (ad 0 0), .int p1, .ref o] (cOut g o out ++ wBR g ad tx is wa st hi) (some (.int 2)) (cOut g o out ++ wBR g ad tx is wa st hi) := by
  refine CL_of (cc := cL_leave) (maxL := 4) (ret := some .int) (hh := [(0, 9, 12, 19), (0, 9, 15, 28)]) (by decide +kernel) rfl (Nat.le_of_ble_eq_true rfl) ?_
  intro p e su m args below meth c A Q ls hx hb hml hown hts hK hN hA hX hZ ht hP hD hS hl hend
  have hl : lv_has ls 4 [(0, .ref (ad 0 0)), (1, .int p1), (2, .ref o)] := hl
  refine lv_aload_n hx hb dL_leave_0 rfl (lv_at hl 2 rfl) ?_
  refine lv_iconst (v := 0) hx hb dL_leave_1 (by decide) ?_
  refine lv_aload_n hx hb dL_leave_2 rfl (lv_at hl 0 rfl) ?_
  refine lv_iload_n hx hb dL_leave_3 rfl (lv_at hl 1 rfl) ?_
  have q0 : (cOut g o out ++ wBR g ad tx is wa st hi).Perm (wBR g ad tx is wa st hi ++ cOut g o out) := List.perm_append_comm
  have hPc := (hP.perm q0).left
  have hDc := (hD.perm q0).left
  refine aftX (E := "java/lang/IllegalStateException") q0 (vx_runV (As := [.int p1]) (rest := [.int 0, .ref o]) ⟨hx, hb, hml, hown, hts⟩ (tX5_leave_3 l hst g ad h su.heap.size) (cwV 1 hts gL_leave_X5_leave rfl rfl rfl hdX5_leave ⟨Nat.le_of_ble_eq_true rfl, Nat.le_of_ble_eq_true rfl⟩) ⟨PgX_blind _ _ _ _, (va_recv hK hP (ci := 5) (q0 := 1) rfl rfl), fun U hU hW => ⟨rfl, ⟨by rw [hU], by rw [hU]; exact hPc, va_K.moved hW.alike hK, hDc.weaken (fun _ _ _ _ => trivial), hN.warm hW⟩, hX.warm hW, by rw [hU]; exact Zs.moved hW.alike (hZ.narrow (fr_free hDc hS hA))⟩⟩ rfl rfl hl.1 rfl (lv_room (Nat.le_of_ble_eq_true rfl)) dL_leave_4 ⟨Nat.le_of_ble_eq_true rfl, Nat.le_of_ble_eq_true rfl⟩) hP hD hS hA (fun ce q9 H locs hP hS hce hcv hcl => ?_)
  refine vx_catch (own := RL) (name := "java/lang/IllegalStateException") (E := "java/lang/IllegalStateException") hown [⟨0, 9, 12, 19⟩] ⟨0, 9, 15, 28⟩ [] (by rw [ht]; rfl) (fun z hz => by
    simp only [List.mem_cons, List.not_mem_nil, or_false] at hz
    rcases hz with rfl
    · exact Or.inr ⟨by decide, "java/lang/IndexOutOfBoundsException", (hts (.classLink RL 19 "java/lang/IndexOutOfBoundsException") (List.mem_of_getElem? (i := 1) rfl)), hX.2.1 ("java/lang/IllegalStateException", "java/lang/IndexOutOfBoundsException") (by decide +kernel)⟩) (by decide) (by decide) (hts (.classLink RL 28 "java/lang/IllegalStateException") (List.mem_of_getElem? (i := 2) rfl)) (va_Nw.use rfl (hX.1.1 "java/lang/IllegalStateException" (by decide +kernel))) hce hcv hcl ?_
  refine lv_astore_n (lv' := [(3, .ref q9), (0, .ref (ad 0 0)), (1, .int p1), (2, .ref o)]) hx hb dL_leave_15 rfl hl (by decide) rfl (fun ls hl => ?_)
  refine lv_iconst (v := 2) hx hb dL_leave_16 (by decide) ?_
  exact hend _ _ _ _ _ hP hD hS (RetOK.i dL_leave_17)
abbrev rL_plain : Room := { frames := 7, cells := 1, slots := 6, locals := 112 }
theorem hdL_plain : yL_plain.cls ≠ "java/lang/invoke/MethodHandle" ∧ yL_plain.cls ≠ "java/lang/invoke/VarHandle" ∧ (parseMethodDescriptor yL_plain.desc).map (fun d => d.parameters.length) = some 4 := by decide +kernel
set_option maxRecDepth 100000 in
set_option maxHeartbeats 8000000 in
theorem wL_plain (l : Launch) (hst : l.stackTraces = false) (g : GG) (ad : Nat → Nat → Nat) (o : Nat) {tx : Tx} {is : Is} {wa : Wa} {st : St} {hi : Hi} {out : Nat → Int64} {p1 : Int32} {p2 : Int32} {res : Int32}  (h : fX5_plain tx is wa st hi p1 p2 = some (.inr res)) : CL l g yL_plain wsL_plain rL_plain [.ref (ad 0 0), .int p1, .int p2, .ref o] (cOut g o out ++ wBR g ad tx is wa st hi) (some (.int 0)) (cOut g o (vp_updL out 0 res.toInt64) ++ wBR g ad tx is wa st hi) := by
  refine CL_of (cc := cL_plain) (maxL := 5) (ret := some .int) (hh := [(0, 10, 13, 19)]) (by decide +kernel) rfl (Nat.le_of_ble_eq_true rfl) ?_
  intro p e su m args below meth c A Q ls hx hb hml hown hts hK hN hA hX hZ ht hP hD hS hl hend
  have hl : lv_has ls 5 [(0, .ref (ad 0 0)), (1, .int p1), (2, .int p2), (3, .ref o)] := hl
  refine lv_aload_n hx hb dL_plain_0 rfl (lv_at hl 3 rfl) ?_
  refine lv_iconst (v := 0) hx hb dL_plain_1 (by decide) ?_
  refine lv_aload_n hx hb dL_plain_2 rfl (lv_at hl 0 rfl) ?_
  refine lv_iload_n hx hb dL_plain_3 rfl (lv_at hl 1 rfl) ?_
  refine lv_iload_n hx hb dL_plain_4 rfl (lv_at hl 2 rfl) ?_
  have q0 : (cOut g o out ++ wBR g ad tx is wa st hi).Perm (wBR g ad tx is wa st hi ++ cOut g o out) := List.perm_append_comm
  refine aft_p (st1 := [.int res, .int 0, .ref o]) (ws' := (cOut g o out ++ wBR g ad tx is wa st hi)) rfl q0 List.perm_append_comm (runV (As := [.int p1, .int p2]) (rest := [.int 0, .ref o]) ⟨hx, hb, hml, hown, hts⟩ (kX5_plain l g ad h) (cwV 2 hts gL_plain_X5_plain rfl rfl rfl hdX5_plain ⟨Nat.le_of_ble_eq_true rfl, Nat.le_of_ble_eq_true rfl⟩) hK hN (hP.perm q0).left (hD.perm q0).left (va_recv hK hP (ci := 5) (q0 := 1) rfl rfl) rfl hl.1 rfl (Nat.le_of_ble_eq_true rfl) dL_plain_5 ⟨Nat.zero_le _, Nat.zero_le _⟩) hP hD hS hA (fun H locs hP hD hS => ?_)
  refine lv_i2l (v := res.toInt64) hx hb dL_plain_8 rfl ?_
  refine va_last hx hb hK hP hD hS 0 2 rfl rfl (inb_in (i := 0) (n := 1) (by decide)) dL_plain_9 (fun H locs hP hD hS => ?_)
  have hP : va_P g.1 vwCl (cOut g o (vp_updL out 0 res.toInt64) ++ wBR g ad tx is wa st hi) H := hP
  have hD : va_D A (cOut g o (vp_updL out 0 res.toInt64) ++ wBR g ad tx is wa st hi) := hD
  refine lv_goto (tgt := 17) hx hb dL_plain_10 (by decide) ?_
  refine lv_iconst (v := 0) hx hb dL_plain_17 (by decide) ?_
  refine W.widen (k := 1) (n := 6) (Nat.zero_le _) (Nat.zero_le _) ?_
  exact hend _ _ _ _ _ hP hD hS (RetOK.i dL_plain_18)
set_option maxRecDepth 100000 in
set_option maxHeartbeats 8000000 in
theorem wL_plain_1 (l : Launch) (hst : l.stackTraces = false) (g : GG) (ad : Nat → Nat → Nat) (o : Nat) {tx : Tx} {is : Is} {wa : Wa} {st : St} {hi : Hi} {out : Nat → Int64} {p1 : Int32} {p2 : Int32} (h : fX5_plain tx is wa st hi p1 p2 = some (.inl 1)) : CL l g yL_plain wsL_plain rL_plain [.ref (ad 0 0), .int p1, .int p2, .ref o] (cOut g o out ++ wBR g ad tx is wa st hi) (some (.int 1)) (cOut g o out ++ wBR g ad tx is wa st hi) := by
  refine CL_of (cc := cL_plain) (maxL := 5) (ret := some .int) (hh := [(0, 10, 13, 19)]) (by decide +kernel) rfl (Nat.le_of_ble_eq_true rfl) ?_
  intro p e su m args below meth c A Q ls hx hb hml hown hts hK hN hA hX hZ ht hP hD hS hl hend
  have hl : lv_has ls 5 [(0, .ref (ad 0 0)), (1, .int p1), (2, .int p2), (3, .ref o)] := hl
  refine lv_aload_n hx hb dL_plain_0 rfl (lv_at hl 3 rfl) ?_
  refine lv_iconst (v := 0) hx hb dL_plain_1 (by decide) ?_
  refine lv_aload_n hx hb dL_plain_2 rfl (lv_at hl 0 rfl) ?_
  refine lv_iload_n hx hb dL_plain_3 rfl (lv_at hl 1 rfl) ?_
  refine lv_iload_n hx hb dL_plain_4 rfl (lv_at hl 2 rfl) ?_
  have q0 : (cOut g o out ++ wBR g ad tx is wa st hi).Perm (wBR g ad tx is wa st hi ++ cOut g o out) := List.perm_append_comm
  have hPc := (hP.perm q0).left
  have hDc := (hD.perm q0).left
  refine aftX (E := "java/lang/IndexOutOfBoundsException") q0 (vx_runV (As := [.int p1, .int p2]) (rest := [.int 0, .ref o]) ⟨hx, hb, hml, hown, hts⟩ (tX5_plain_1 l hst g ad h su.heap.size) (cwV 2 hts gL_plain_X5_plain rfl rfl rfl hdX5_plain ⟨Nat.le_of_ble_eq_true rfl, Nat.le_of_ble_eq_true rfl⟩) ⟨PgX_blind _ _ _ _, (va_recv hK hP (ci := 5) (q0 := 1) rfl rfl), fun U hU hW => ⟨rfl, ⟨by rw [hU], by rw [hU]; exact hPc, va_K.moved hW.alike hK, hDc.weaken (fun _ _ _ _ => trivial), hN.warm hW⟩, hX.warm hW, by rw [hU]; exact Zs.moved hW.alike (hZ.narrow (fr_free hDc hS hA))⟩⟩ rfl rfl hl.1 rfl (lv_room (Nat.le_of_ble_eq_true rfl)) dL_plain_5 ⟨Nat.le_of_ble_eq_true rfl, Nat.le_of_ble_eq_true rfl⟩) hP hD hS hA (fun ce q9 H locs hP hS hce hcv hcl => ?_)
  refine vx_catch (own := RL) (name := "java/lang/IndexOutOfBoundsException") (E := "java/lang/IndexOutOfBoundsException") hown [] ⟨0, 10, 13, 19⟩ [] (by rw [ht]; rfl) (fun z hz => by simp at hz) (by decide) (by decide) (hts (.classLink RL 19 "java/lang/IndexOutOfBoundsException") (List.mem_of_getElem? (i := 1) rfl)) (va_Nw.use rfl (hX.1.1 "java/lang/IndexOutOfBoundsException" (by decide +kernel))) hce hcv hcl ?_
  refine lv_astore (lv' := [(4, .ref q9), (0, .ref (ad 0 0)), (1, .int p1), (2, .int p2), (3, .ref o)]) hx hb dL_plain_13 hl (by decide) rfl (fun ls hl => ?_)
  refine lv_iconst (v := 1) hx hb dL_plain_15 (by decide) ?_
  exact hend _ _ _ _ _ hP hD hS (RetOK.i dL_plain_16)
abbrev rL_play : Room := { frames := 7, cells := 1, slots := 6, locals := 155 }
theorem hdL_play : yL_play.cls ≠ "java/lang/invoke/MethodHandle" ∧ yL_play.cls ≠ "java/lang/invoke/VarHandle" ∧ (parseMethodDescriptor yL_play.desc).map (fun d => d.parameters.length) = some 2 := by decide +kernel
set_option maxRecDepth 100000 in
set_option maxHeartbeats 8000000 in
theorem wL_play (l : Launch) (hst : l.stackTraces = false) (g : GG) (ad : Nat → Nat → Nat) (o : Nat) {tx : Tx} {is : Is} {wa : Wa} {st : St} {hi : Hi} {out : Nat → Int64} {res : Int32} {tx' : Tx} {st' : St} {hi' : Hi} (h : fX5_play tx is wa st hi = some (.inr (res, tx', st', hi'))) : CL l g yL_play wsL_play rL_play [.ref (ad 0 0), .ref o] (cOut g o out ++ wBR g ad tx is wa st hi) (some (.int 0)) (cOut g o (vp_updL out 0 res.toInt64) ++ wBR g ad tx' is wa st' hi') := by
  refine CL_of (cc := cL_play) (maxL := 3) (ret := some .int) (hh := [(0, 8, 11, 13)]) (by decide +kernel) rfl (Nat.le_of_ble_eq_true rfl) ?_
  intro p e su m args below meth c A Q ls hx hb hml hown hts hK hN hA hX hZ ht hP hD hS hl hend
  have hl : lv_has ls 3 [(0, .ref (ad 0 0)), (1, .ref o)] := hl
  refine lv_aload_n hx hb dL_play_0 rfl (lv_at hl 1 rfl) ?_
  refine lv_iconst (v := 0) hx hb dL_play_1 (by decide) ?_
  refine lv_aload_n hx hb dL_play_2 rfl (lv_at hl 0 rfl) ?_
  have q0 : (cOut g o out ++ wBR g ad tx is wa st hi).Perm (wBR g ad tx is wa st hi ++ cOut g o out) := List.perm_append_comm
  refine aft_p (st1 := [.int res, .int 0, .ref o]) (ws' := (cOut g o out ++ wBR g ad tx' is wa st' hi')) rfl q0 List.perm_append_comm (runV (As := []) (rest := [.int 0, .ref o]) ⟨hx, hb, hml, hown, hts⟩ (kX5_play l g ad h) (cwV 0 hts gL_play_X5_play rfl rfl rfl hdX5_play ⟨Nat.le_of_ble_eq_true rfl, Nat.le_of_ble_eq_true rfl⟩) hK hN (hP.perm q0).left (hD.perm q0).left (va_recv hK hP (ci := 5) (q0 := 1) rfl rfl) rfl hl.1 rfl (Nat.le_of_ble_eq_true rfl) dL_play_3 ⟨Nat.zero_le _, Nat.zero_le _⟩) hP hD hS hA (fun H locs hP hD hS => ?_)
  refine lv_i2l (v := res.toInt64) hx hb dL_play_6 rfl ?_
  refine va_last hx hb hK hP hD hS 0 2 rfl rfl (inb_in (i := 0) (n := 1) (by decide)) dL_play_7 (fun H locs hP hD hS => ?_)
  have hP : va_P g.1 vwCl (cOut g o (vp_updL out 0 res.toInt64) ++ wBR g ad tx' is wa st' hi') H := hP
  have hD : va_D A (cOut g o (vp_updL out 0 res.toInt64) ++ wBR g ad tx' is wa st' hi') := hD
  refine lv_goto (tgt := 14) hx hb dL_play_8 (by decide) ?_
  refine lv_iconst (v := 0) hx hb dL_play_14 (by decide) ?_
  refine W.widen (k := 1) (n := 6) (Nat.zero_le _) (Nat.zero_le _) ?_
  exact hend _ _ _ _ _ hP hD hS (RetOK.i dL_play_15)
set_option maxRecDepth 100000 in
set_option maxHeartbeats 8000000 in
theorem wL_play_2 (l : Launch) (hst : l.stackTraces = false) (g : GG) (ad : Nat → Nat → Nat) (o : Nat) {tx : Tx} {is : Is} {wa : Wa} {st : St} {hi : Hi} {out : Nat → Int64} (h : fX5_play tx is wa st hi = some (.inl 2)) : CL l g yL_play wsL_play rL_play [.ref (ad 0 0), .ref o] (cOut g o out ++ wBR g ad tx is wa st hi) (some (.int 1)) (cOut g o out ++ wBR g ad tx is wa st hi) := by
  refine CL_of (cc := cL_play) (maxL := 3) (ret := some .int) (hh := [(0, 8, 11, 13)]) (by decide +kernel) rfl (Nat.le_of_ble_eq_true rfl) ?_
  intro p e su m args below meth c A Q ls hx hb hml hown hts hK hN hA hX hZ ht hP hD hS hl hend
  have hl : lv_has ls 3 [(0, .ref (ad 0 0)), (1, .ref o)] := hl
  refine lv_aload_n hx hb dL_play_0 rfl (lv_at hl 1 rfl) ?_
  refine lv_iconst (v := 0) hx hb dL_play_1 (by decide) ?_
  refine lv_aload_n hx hb dL_play_2 rfl (lv_at hl 0 rfl) ?_
  have q0 : (cOut g o out ++ wBR g ad tx is wa st hi).Perm (wBR g ad tx is wa st hi ++ cOut g o out) := List.perm_append_comm
  have hPc := (hP.perm q0).left
  have hDc := (hD.perm q0).left
  refine aftX (E := "java/lang/IllegalArgumentException") q0 (vx_runV (As := []) (rest := [.int 0, .ref o]) ⟨hx, hb, hml, hown, hts⟩ (tX5_play_2 l hst g ad h su.heap.size) (cwV 0 hts gL_play_X5_play rfl rfl rfl hdX5_play ⟨Nat.le_of_ble_eq_true rfl, Nat.le_of_ble_eq_true rfl⟩) ⟨PgX_blind _ _ _ _, (va_recv hK hP (ci := 5) (q0 := 1) rfl rfl), fun U hU hW => ⟨rfl, ⟨by rw [hU], by rw [hU]; exact hPc, va_K.moved hW.alike hK, hDc.weaken (fun _ _ _ _ => trivial), hN.warm hW⟩, hX.warm hW, by rw [hU]; exact Zs.moved hW.alike (hZ.narrow (fr_free hDc hS hA))⟩⟩ rfl rfl hl.1 rfl (lv_room (Nat.le_of_ble_eq_true rfl)) dL_play_3 ⟨Nat.le_of_ble_eq_true rfl, Nat.le_of_ble_eq_true rfl⟩) hP hD hS hA (fun ce q9 H locs hP hS hce hcv hcl => ?_)
  refine vx_catch (own := RL) (name := "java/lang/IllegalArgumentException") (E := "java/lang/IllegalArgumentException") hown [] ⟨0, 8, 11, 13⟩ [] (by rw [ht]; rfl) (fun z hz => by simp at hz) (by decide) (by decide) (hts (.classLink RL 13 "java/lang/IllegalArgumentException") (List.mem_of_getElem? (i := 1) rfl)) (va_Nw.use rfl (hX.1.1 "java/lang/IllegalArgumentException" (by decide +kernel))) hce hcv hcl ?_
  refine lv_astore_n (lv' := [(2, .ref q9), (0, .ref (ad 0 0)), (1, .ref o)]) hx hb dL_play_11 rfl hl (by decide) rfl (fun ls hl => ?_)
  refine lv_iconst (v := 1) hx hb dL_play_12 (by decide) ?_
  exact hend _ _ _ _ _ hP hD hS (RetOK.i dL_play_13)
abbrev rL_put : Room := { frames := 7, cells := 1, slots := 6, locals := 125 }
theorem hdL_put : yL_put.cls ≠ "java/lang/invoke/MethodHandle" ∧ yL_put.cls ≠ "java/lang/invoke/VarHandle" ∧ (parseMethodDescriptor yL_put.desc).map (fun d => d.parameters.length) = some 5 := by decide +kernel
set_option maxRecDepth 100000 in
set_option maxHeartbeats 8000000 in
theorem wL_put (l : Launch) (hst : l.stackTraces = false) (g : GG) (ad : Nat → Nat → Nat) (o : Nat) {tx : Tx} {is : Is} {wa : Wa} {st : St} {hi : Hi} {out : Nat → Int64} {p1 : Int32} {p2 : Int32} {p3 : Int32} {res : Int32} {wa' : Wa} {st' : St} {hi' : Hi} (h : fX5_put tx is wa st hi p1 p2 p3 = some (.inr (res, wa', st', hi'))) : CL l g yL_put wsL_put rL_put [.ref (ad 0 0), .int p1, .int p2, .int p3, .ref o] (cOut g o out ++ wBR g ad tx is wa st hi) (some (.int 0)) (cOut g o (vp_updL out 0 res.toInt64) ++ wBR g ad tx is wa' st' hi') := by
  refine CL_of (cc := cL_put) (maxL := 6) (ret := some .int) (hh := [(0, 12, 15, 19), (0, 12, 19, 13), (0, 12, 23, 28)]) (by decide +kernel) rfl (Nat.le_of_ble_eq_true rfl) ?_
  intro p e su m args below meth c A Q ls hx hb hml hown hts hK hN hA hX hZ ht hP hD hS hl hend
  have hl : lv_has ls 6 [(0, .ref (ad 0 0)), (1, .int p1), (2, .int p2), (3, .int p3), (4, .ref o)] := hl
  refine lv_aload hx hb dL_put_0 (lv_at hl 4 rfl) ?_
  refine lv_iconst (v := 0) hx hb dL_put_2 (by decide) ?_
  refine lv_aload_n hx hb dL_put_3 rfl (lv_at hl 0 rfl) ?_
  refine lv_iload_n hx hb dL_put_4 rfl (lv_at hl 1 rfl) ?_
  refine lv_iload_n hx hb dL_put_5 rfl (lv_at hl 2 rfl) ?_
  refine lv_iload_n hx hb dL_put_6 rfl (lv_at hl 3 rfl) ?_
  have q0 : (cOut g o out ++ wBR g ad tx is wa st hi).Perm (wBR g ad tx is wa st hi ++ cOut g o out) := List.perm_append_comm
  refine aft_p (st1 := [.int res, .int 0, .ref o]) (ws' := (cOut g o out ++ wBR g ad tx is wa' st' hi')) rfl q0 List.perm_append_comm (runV (As := [.int p1, .int p2, .int p3]) (rest := [.int 0, .ref o]) ⟨hx, hb, hml, hown, hts⟩ (kX5_put l g ad h) (cwV 3 hts gL_put_X5_put rfl rfl rfl hdX5_put ⟨Nat.le_of_ble_eq_true rfl, Nat.le_of_ble_eq_true rfl⟩) hK hN (hP.perm q0).left (hD.perm q0).left (va_recv hK hP (ci := 5) (q0 := 1) rfl rfl) rfl hl.1 rfl (Nat.le_of_ble_eq_true rfl) dL_put_7 ⟨Nat.zero_le _, Nat.zero_le _⟩) hP hD hS hA (fun H locs hP hD hS => ?_)
  refine lv_i2l (v := res.toInt64) hx hb dL_put_10 rfl ?_
  refine va_last hx hb hK hP hD hS 0 2 rfl rfl (inb_in (i := 0) (n := 1) (by decide)) dL_put_11 (fun H locs hP hD hS => ?_)
  have hP : va_P g.1 vwCl (cOut g o (vp_updL out 0 res.toInt64) ++ wBR g ad tx is wa' st' hi') H := hP
  have hD : va_D A (cOut g o (vp_updL out 0 res.toInt64) ++ wBR g ad tx is wa' st' hi') := hD
  refine lv_goto (tgt := 27) hx hb dL_put_12 (by decide) ?_
  refine lv_iconst (v := 0) hx hb dL_put_27 (by decide) ?_
  refine W.widen (k := 1) (n := 6) (Nat.zero_le _) (Nat.zero_le _) ?_
  exact hend _ _ _ _ _ hP hD hS (RetOK.i dL_put_28)
set_option maxRecDepth 100000 in
set_option maxHeartbeats 8000000 in
theorem wL_put_1 (l : Launch) (hst : l.stackTraces = false) (g : GG) (ad : Nat → Nat → Nat) (o : Nat) {tx : Tx} {is : Is} {wa : Wa} {st : St} {hi : Hi} {out : Nat → Int64} {p1 : Int32} {p2 : Int32} {p3 : Int32} (h : fX5_put tx is wa st hi p1 p2 p3 = some (.inl 1)) : CL l g yL_put wsL_put rL_put [.ref (ad 0 0), .int p1, .int p2, .int p3, .ref o] (cOut g o out ++ wBR g ad tx is wa st hi) (some (.int 1)) (cOut g o out ++ wBR g ad tx is wa st hi) := by
  refine CL_of (cc := cL_put) (maxL := 6) (ret := some .int) (hh := [(0, 12, 15, 19), (0, 12, 19, 13), (0, 12, 23, 28)]) (by decide +kernel) rfl (Nat.le_of_ble_eq_true rfl) ?_
  intro p e su m args below meth c A Q ls hx hb hml hown hts hK hN hA hX hZ ht hP hD hS hl hend
  have hl : lv_has ls 6 [(0, .ref (ad 0 0)), (1, .int p1), (2, .int p2), (3, .int p3), (4, .ref o)] := hl
  refine lv_aload hx hb dL_put_0 (lv_at hl 4 rfl) ?_
  refine lv_iconst (v := 0) hx hb dL_put_2 (by decide) ?_
  refine lv_aload_n hx hb dL_put_3 rfl (lv_at hl 0 rfl) ?_
  refine lv_iload_n hx hb dL_put_4 rfl (lv_at hl 1 rfl) ?_
  refine lv_iload_n hx hb dL_put_5 rfl (lv_at hl 2 rfl) ?_
  refine lv_iload_n hx hb dL_put_6 rfl (lv_at hl 3 rfl) ?_
  have q0 : (cOut g o out ++ wBR g ad tx is wa st hi).Perm (wBR g ad tx is wa st hi ++ cOut g o out) := List.perm_append_comm
  have hPc := (hP.perm q0).left
  have hDc := (hD.perm q0).left
  refine aftX (E := "java/lang/IndexOutOfBoundsException") q0 (vx_runV (As := [.int p1, .int p2, .int p3]) (rest := [.int 0, .ref o]) ⟨hx, hb, hml, hown, hts⟩ (tX5_put_1 l hst g ad h su.heap.size) (cwV 3 hts gL_put_X5_put rfl rfl rfl hdX5_put ⟨Nat.le_of_ble_eq_true rfl, Nat.le_of_ble_eq_true rfl⟩) ⟨PgX_blind _ _ _ _, (va_recv hK hP (ci := 5) (q0 := 1) rfl rfl), fun U hU hW => ⟨rfl, ⟨by rw [hU], by rw [hU]; exact hPc, va_K.moved hW.alike hK, hDc.weaken (fun _ _ _ _ => trivial), hN.warm hW⟩, hX.warm hW, by rw [hU]; exact Zs.moved hW.alike (hZ.narrow (fr_free hDc hS hA))⟩⟩ rfl rfl hl.1 rfl (lv_room (Nat.le_of_ble_eq_true rfl)) dL_put_7 ⟨Nat.le_of_ble_eq_true rfl, Nat.le_of_ble_eq_true rfl⟩) hP hD hS hA (fun ce q9 H locs hP hS hce hcv hcl => ?_)
  refine vx_catch (own := RL) (name := "java/lang/IndexOutOfBoundsException") (E := "java/lang/IndexOutOfBoundsException") hown [] ⟨0, 12, 15, 19⟩ [⟨0, 12, 19, 13⟩, ⟨0, 12, 23, 28⟩] (by rw [ht]; rfl) (fun z hz => by simp at hz) (by decide) (by decide) (hts (.classLink RL 19 "java/lang/IndexOutOfBoundsException") (List.mem_of_getElem? (i := 1) rfl)) (va_Nw.use rfl (hX.1.1 "java/lang/IndexOutOfBoundsException" (by decide +kernel))) hce hcv hcl ?_
  refine lv_astore (lv' := [(5, .ref q9), (0, .ref (ad 0 0)), (1, .int p1), (2, .int p2), (3, .int p3), (4, .ref o)]) hx hb dL_put_15 hl (by decide) rfl (fun ls hl => ?_)
  refine lv_iconst (v := 1) hx hb dL_put_17 (by decide) ?_
  exact hend _ _ _ _ _ hP hD hS (RetOK.i dL_put_18)
set_option maxRecDepth 100000 in
set_option maxHeartbeats 8000000 in
theorem wL_put_2 (l : Launch) (hst : l.stackTraces = false) (g : GG) (ad : Nat → Nat → Nat) (o : Nat) {tx : Tx} {is : Is} {wa : Wa} {st : St} {hi : Hi} {out : Nat → Int64} {p1 : Int32} {p2 : Int32} {p3 : Int32} (h : fX5_put tx is wa st hi p1 p2 p3 = some (.inl 2)) : CL l g yL_put wsL_put rL_put [.ref (ad 0 0), .int p1, .int p2, .int p3, .ref o] (cOut g o out ++ wBR g ad tx is wa st hi) (some (.int 2)) (cOut g o out ++ wBR g ad tx is wa st hi) := by
  refine CL_of (cc := cL_put) (maxL := 6) (ret := some .int) (hh := [(0, 12, 15, 19), (0, 12, 19, 13), (0, 12, 23, 28)]) (by decide +kernel) rfl (Nat.le_of_ble_eq_true rfl) ?_
  intro p e su m args below meth c A Q ls hx hb hml hown hts hK hN hA hX hZ ht hP hD hS hl hend
  have hl : lv_has ls 6 [(0, .ref (ad 0 0)), (1, .int p1), (2, .int p2), (3, .int p3), (4, .ref o)] := hl
  refine lv_aload hx hb dL_put_0 (lv_at hl 4 rfl) ?_
  refine lv_iconst (v := 0) hx hb dL_put_2 (by decide) ?_
  refine lv_aload_n hx hb dL_put_3 rfl (lv_at hl 0 rfl) ?_
  refine lv_iload_n hx hb dL_put_4 rfl (lv_at hl 1 rfl) ?_
  refine lv_iload_n hx hb dL_put_5 rfl (lv_at hl 2 rfl) ?_
  refine lv_iload_n hx hb dL_put_6 rfl (lv_at hl 3 rfl) ?_
  have q0 : (cOut g o out ++ wBR g ad tx is wa st hi).Perm (wBR g ad tx is wa st hi ++ cOut g o out) := List.perm_append_comm
  have hPc := (hP.perm q0).left
  have hDc := (hD.perm q0).left
  refine aftX (E := "java/lang/IllegalArgumentException") q0 (vx_runV (As := [.int p1, .int p2, .int p3]) (rest := [.int 0, .ref o]) ⟨hx, hb, hml, hown, hts⟩ (tX5_put_2 l hst g ad h su.heap.size) (cwV 3 hts gL_put_X5_put rfl rfl rfl hdX5_put ⟨Nat.le_of_ble_eq_true rfl, Nat.le_of_ble_eq_true rfl⟩) ⟨PgX_blind _ _ _ _, (va_recv hK hP (ci := 5) (q0 := 1) rfl rfl), fun U hU hW => ⟨rfl, ⟨by rw [hU], by rw [hU]; exact hPc, va_K.moved hW.alike hK, hDc.weaken (fun _ _ _ _ => trivial), hN.warm hW⟩, hX.warm hW, by rw [hU]; exact Zs.moved hW.alike (hZ.narrow (fr_free hDc hS hA))⟩⟩ rfl rfl hl.1 rfl (lv_room (Nat.le_of_ble_eq_true rfl)) dL_put_7 ⟨Nat.le_of_ble_eq_true rfl, Nat.le_of_ble_eq_true rfl⟩) hP hD hS hA (fun ce q9 H locs hP hS hce hcv hcl => ?_)
  refine vx_catch (own := RL) (name := "java/lang/IllegalArgumentException") (E := "java/lang/IllegalArgumentException") hown [⟨0, 12, 15, 19⟩] ⟨0, 12, 19, 13⟩ [⟨0, 12, 23, 28⟩] (by rw [ht]; rfl) (fun z hz => by
    simp only [List.mem_cons, List.not_mem_nil, or_false] at hz
    rcases hz with rfl
    · exact Or.inr ⟨by decide, "java/lang/IndexOutOfBoundsException", (hts (.classLink RL 19 "java/lang/IndexOutOfBoundsException") (List.mem_of_getElem? (i := 1) rfl)), hX.2.1 ("java/lang/IllegalArgumentException", "java/lang/IndexOutOfBoundsException") (by decide +kernel)⟩) (by decide) (by decide) (hts (.classLink RL 13 "java/lang/IllegalArgumentException") (List.mem_of_getElem? (i := 2) rfl)) (va_Nw.use rfl (hX.1.1 "java/lang/IllegalArgumentException" (by decide +kernel))) hce hcv hcl ?_
  refine lv_astore (lv' := [(5, .ref q9), (0, .ref (ad 0 0)), (1, .int p1), (2, .int p2), (3, .int p3), (4, .ref o)]) hx hb dL_put_19 hl (by decide) rfl (fun ls hl => ?_)
  refine lv_iconst (v := 2) hx hb dL_put_21 (by decide) ?_
  exact hend _ _ _ _ _ hP hD hS (RetOK.i dL_put_22)
set_option maxRecDepth 100000 in
set_option maxHeartbeats 8000000 in
theorem wL_put_3 (l : Launch) (hst : l.stackTraces = false) (g : GG) (ad : Nat → Nat → Nat) (o : Nat) {tx : Tx} {is : Is} {wa : Wa} {st : St} {hi : Hi} {out : Nat → Int64} {p1 : Int32} {p2 : Int32} {p3 : Int32} (h : fX5_put tx is wa st hi p1 p2 p3 = some (.inl 3)) : CL l g yL_put wsL_put rL_put [.ref (ad 0 0), .int p1, .int p2, .int p3, .ref o] (cOut g o out ++ wBR g ad tx is wa st hi) (some (.int 3)) (cOut g o out ++ wBR g ad tx is wa st hi) := by
  refine CL_of (cc := cL_put) (maxL := 6) (ret := some .int) (hh := [(0, 12, 15, 19), (0, 12, 19, 13), (0, 12, 23, 28)]) (by decide +kernel) rfl (Nat.le_of_ble_eq_true rfl) ?_
  intro p e su m args below meth c A Q ls hx hb hml hown hts hK hN hA hX hZ ht hP hD hS hl hend
  have hl : lv_has ls 6 [(0, .ref (ad 0 0)), (1, .int p1), (2, .int p2), (3, .int p3), (4, .ref o)] := hl
  refine lv_aload hx hb dL_put_0 (lv_at hl 4 rfl) ?_
  refine lv_iconst (v := 0) hx hb dL_put_2 (by decide) ?_
  refine lv_aload_n hx hb dL_put_3 rfl (lv_at hl 0 rfl) ?_
  refine lv_iload_n hx hb dL_put_4 rfl (lv_at hl 1 rfl) ?_
  refine lv_iload_n hx hb dL_put_5 rfl (lv_at hl 2 rfl) ?_
  refine lv_iload_n hx hb dL_put_6 rfl (lv_at hl 3 rfl) ?_
  have q0 : (cOut g o out ++ wBR g ad tx is wa st hi).Perm (wBR g ad tx is wa st hi ++ cOut g o out) := List.perm_append_comm
  have hPc := (hP.perm q0).left
  have hDc := (hD.perm q0).left
  refine aftX (E := "java/lang/IllegalStateException") q0 (vx_runV (As := [.int p1, .int p2, .int p3]) (rest := [.int 0, .ref o]) ⟨hx, hb, hml, hown, hts⟩ (tX5_put_3 l hst g ad h su.heap.size) (cwV 3 hts gL_put_X5_put rfl rfl rfl hdX5_put ⟨Nat.le_of_ble_eq_true rfl, Nat.le_of_ble_eq_true rfl⟩) ⟨PgX_blind _ _ _ _, (va_recv hK hP (ci := 5) (q0 := 1) rfl rfl), fun U hU hW => ⟨rfl, ⟨by rw [hU], by rw [hU]; exact hPc, va_K.moved hW.alike hK, hDc.weaken (fun _ _ _ _ => trivial), hN.warm hW⟩, hX.warm hW, by rw [hU]; exact Zs.moved hW.alike (hZ.narrow (fr_free hDc hS hA))⟩⟩ rfl rfl hl.1 rfl (lv_room (Nat.le_of_ble_eq_true rfl)) dL_put_7 ⟨Nat.le_of_ble_eq_true rfl, Nat.le_of_ble_eq_true rfl⟩) hP hD hS hA (fun ce q9 H locs hP hS hce hcv hcl => ?_)
  refine vx_catch (own := RL) (name := "java/lang/IllegalStateException") (E := "java/lang/IllegalStateException") hown [⟨0, 12, 15, 19⟩, ⟨0, 12, 19, 13⟩] ⟨0, 12, 23, 28⟩ [] (by rw [ht]; rfl) (fun z hz => by
    simp only [List.mem_cons, List.not_mem_nil, or_false] at hz
    rcases hz with rfl | rfl
    · exact Or.inr ⟨by decide, "java/lang/IndexOutOfBoundsException", (hts (.classLink RL 19 "java/lang/IndexOutOfBoundsException") (List.mem_of_getElem? (i := 1) rfl)), hX.2.1 ("java/lang/IllegalStateException", "java/lang/IndexOutOfBoundsException") (by decide +kernel)⟩
    · exact Or.inr ⟨by decide, "java/lang/IllegalArgumentException", (hts (.classLink RL 13 "java/lang/IllegalArgumentException") (List.mem_of_getElem? (i := 2) rfl)), hX.2.1 ("java/lang/IllegalStateException", "java/lang/IllegalArgumentException") (by decide +kernel)⟩) (by decide) (by decide) (hts (.classLink RL 28 "java/lang/IllegalStateException") (List.mem_of_getElem? (i := 3) rfl)) (va_Nw.use rfl (hX.1.1 "java/lang/IllegalStateException" (by decide +kernel))) hce hcv hcl ?_
  refine lv_astore (lv' := [(5, .ref q9), (0, .ref (ad 0 0)), (1, .int p1), (2, .int p2), (3, .int p3), (4, .ref o)]) hx hb dL_put_23 hl (by decide) rfl (fun ls hl => ?_)
  refine lv_iconst (v := 3) hx hb dL_put_25 (by decide) ?_
  exact hend _ _ _ _ _ hP hD hS (RetOK.i dL_put_26)
abbrev rL_set : Room := { frames := 7, cells := 1, slots := 6, locals := 156 }
theorem hdL_set : yL_set.cls ≠ "java/lang/invoke/MethodHandle" ∧ yL_set.cls ≠ "java/lang/invoke/VarHandle" ∧ (parseMethodDescriptor yL_set.desc).map (fun d => d.parameters.length) = some 4 := by decide +kernel
set_option maxRecDepth 100000 in
set_option maxHeartbeats 8000000 in
theorem wL_set (l : Launch) (hst : l.stackTraces = false) (g : GG) (ad : Nat → Nat → Nat) (o : Nat) {tx : Tx} {is : Is} {wa : Wa} {st : St} {hi : Hi} {out : Nat → Int64} {p1 : Int32} {p2 : Int32} {res : Int32} {st' : St} {hi' : Hi} (h : fX5_set tx is wa st hi p1 p2 = some (.inr (res, st', hi'))) : CL l g yL_set wsL_set rL_set [.ref (ad 0 0), .int p1, .int p2, .ref o] (cOut g o out ++ wBR g ad tx is wa st hi) (some (.int 0)) (cOut g o (vp_updL out 0 res.toInt64) ++ wBR g ad tx is wa st' hi') := by
  refine CL_of (cc := cL_set) (maxL := 5) (ret := some .int) (hh := [(0, 10, 13, 19), (0, 10, 17, 13)]) (by decide +kernel) rfl (Nat.le_of_ble_eq_true rfl) ?_
  intro p e su m args below meth c A Q ls hx hb hml hown hts hK hN hA hX hZ ht hP hD hS hl hend
  have hl : lv_has ls 5 [(0, .ref (ad 0 0)), (1, .int p1), (2, .int p2), (3, .ref o)] := hl
  refine lv_aload_n hx hb dL_set_0 rfl (lv_at hl 3 rfl) ?_
  refine lv_iconst (v := 0) hx hb dL_set_1 (by decide) ?_
  refine lv_aload_n hx hb dL_set_2 rfl (lv_at hl 0 rfl) ?_
  refine lv_iload_n hx hb dL_set_3 rfl (lv_at hl 1 rfl) ?_
  refine lv_iload_n hx hb dL_set_4 rfl (lv_at hl 2 rfl) ?_
  have q0 : (cOut g o out ++ wBR g ad tx is wa st hi).Perm (wBR g ad tx is wa st hi ++ cOut g o out) := List.perm_append_comm
  refine aft_p (st1 := [.int res, .int 0, .ref o]) (ws' := (cOut g o out ++ wBR g ad tx is wa st' hi')) rfl q0 List.perm_append_comm (runV (As := [.int p1, .int p2]) (rest := [.int 0, .ref o]) ⟨hx, hb, hml, hown, hts⟩ (kX5_set l g ad h) (cwV 2 hts gL_set_X5_set rfl rfl rfl hdX5_set ⟨Nat.le_of_ble_eq_true rfl, Nat.le_of_ble_eq_true rfl⟩) hK hN (hP.perm q0).left (hD.perm q0).left (va_recv hK hP (ci := 5) (q0 := 1) rfl rfl) rfl hl.1 rfl (Nat.le_of_ble_eq_true rfl) dL_set_5 ⟨Nat.zero_le _, Nat.zero_le _⟩) hP hD hS hA (fun H locs hP hD hS => ?_)
  refine lv_i2l (v := res.toInt64) hx hb dL_set_8 rfl ?_
  refine va_last hx hb hK hP hD hS 0 2 rfl rfl (inb_in (i := 0) (n := 1) (by decide)) dL_set_9 (fun H locs hP hD hS => ?_)
  have hP : va_P g.1 vwCl (cOut g o (vp_updL out 0 res.toInt64) ++ wBR g ad tx is wa st' hi') H := hP
  have hD : va_D A (cOut g o (vp_updL out 0 res.toInt64) ++ wBR g ad tx is wa st' hi') := hD
  refine lv_goto (tgt := 21) hx hb dL_set_10 (by decide) ?_
  refine lv_iconst (v := 0) hx hb dL_set_21 (by decide) ?_
  refine W.widen (k := 1) (n := 6) (Nat.zero_le _) (Nat.zero_le _) ?_
  exact hend _ _ _ _ _ hP hD hS (RetOK.i dL_set_22)
set_option maxRecDepth 100000 in
set_option maxHeartbeats 8000000 in
theorem wL_set_1 (l : Launch) (hst : l.stackTraces = false) (g : GG) (ad : Nat → Nat → Nat) (o : Nat) {tx : Tx} {is : Is} {wa : Wa} {st : St} {hi : Hi} {out : Nat → Int64} {p1 : Int32} {p2 : Int32} (h : fX5_set tx is wa st hi p1 p2 = some (.inl 1)) : CL l g yL_set wsL_set rL_set [.ref (ad 0 0), .int p1, .int p2, .ref o] (cOut g o out ++ wBR g ad tx is wa st hi) (some (.int 1)) (cOut g o out ++ wBR g ad tx is wa st hi) := by
  refine CL_of (cc := cL_set) (maxL := 5) (ret := some .int) (hh := [(0, 10, 13, 19), (0, 10, 17, 13)]) (by decide +kernel) rfl (Nat.le_of_ble_eq_true rfl) ?_
  intro p e su m args below meth c A Q ls hx hb hml hown hts hK hN hA hX hZ ht hP hD hS hl hend
  have hl : lv_has ls 5 [(0, .ref (ad 0 0)), (1, .int p1), (2, .int p2), (3, .ref o)] := hl
  refine lv_aload_n hx hb dL_set_0 rfl (lv_at hl 3 rfl) ?_
  refine lv_iconst (v := 0) hx hb dL_set_1 (by decide) ?_
  refine lv_aload_n hx hb dL_set_2 rfl (lv_at hl 0 rfl) ?_
  refine lv_iload_n hx hb dL_set_3 rfl (lv_at hl 1 rfl) ?_
  refine lv_iload_n hx hb dL_set_4 rfl (lv_at hl 2 rfl) ?_
  have q0 : (cOut g o out ++ wBR g ad tx is wa st hi).Perm (wBR g ad tx is wa st hi ++ cOut g o out) := List.perm_append_comm
  have hPc := (hP.perm q0).left
  have hDc := (hD.perm q0).left
  refine aftX (E := "java/lang/IndexOutOfBoundsException") q0 (vx_runV (As := [.int p1, .int p2]) (rest := [.int 0, .ref o]) ⟨hx, hb, hml, hown, hts⟩ (tX5_set_1 l hst g ad h su.heap.size) (cwV 2 hts gL_set_X5_set rfl rfl rfl hdX5_set ⟨Nat.le_of_ble_eq_true rfl, Nat.le_of_ble_eq_true rfl⟩) ⟨PgX_blind _ _ _ _, (va_recv hK hP (ci := 5) (q0 := 1) rfl rfl), fun U hU hW => ⟨rfl, ⟨by rw [hU], by rw [hU]; exact hPc, va_K.moved hW.alike hK, hDc.weaken (fun _ _ _ _ => trivial), hN.warm hW⟩, hX.warm hW, by rw [hU]; exact Zs.moved hW.alike (hZ.narrow (fr_free hDc hS hA))⟩⟩ rfl rfl hl.1 rfl (lv_room (Nat.le_of_ble_eq_true rfl)) dL_set_5 ⟨Nat.le_of_ble_eq_true rfl, Nat.le_of_ble_eq_true rfl⟩) hP hD hS hA (fun ce q9 H locs hP hS hce hcv hcl => ?_)
  refine vx_catch (own := RL) (name := "java/lang/IndexOutOfBoundsException") (E := "java/lang/IndexOutOfBoundsException") hown [] ⟨0, 10, 13, 19⟩ [⟨0, 10, 17, 13⟩] (by rw [ht]; rfl) (fun z hz => by simp at hz) (by decide) (by decide) (hts (.classLink RL 19 "java/lang/IndexOutOfBoundsException") (List.mem_of_getElem? (i := 1) rfl)) (va_Nw.use rfl (hX.1.1 "java/lang/IndexOutOfBoundsException" (by decide +kernel))) hce hcv hcl ?_
  refine lv_astore (lv' := [(4, .ref q9), (0, .ref (ad 0 0)), (1, .int p1), (2, .int p2), (3, .ref o)]) hx hb dL_set_13 hl (by decide) rfl (fun ls hl => ?_)
  refine lv_iconst (v := 1) hx hb dL_set_15 (by decide) ?_
  exact hend _ _ _ _ _ hP hD hS (RetOK.i dL_set_16)
set_option maxRecDepth 100000 in
set_option maxHeartbeats 8000000 in
theorem wL_set_2 (l : Launch) (hst : l.stackTraces = false) (g : GG) (ad : Nat → Nat → Nat) (o : Nat) {tx : Tx} {is : Is} {wa : Wa} {st : St} {hi : Hi} {out : Nat → Int64} {p1 : Int32} {p2 : Int32} (h : fX5_set tx is wa st hi p1 p2 = some (.inl 2)) : CL l g yL_set wsL_set rL_set [.ref (ad 0 0), .int p1, .int p2, .ref o] (cOut g o out ++ wBR g ad tx is wa st hi) (some (.int 2)) (cOut g o out ++ wBR g ad tx is wa st hi) := by
  refine CL_of (cc := cL_set) (maxL := 5) (ret := some .int) (hh := [(0, 10, 13, 19), (0, 10, 17, 13)]) (by decide +kernel) rfl (Nat.le_of_ble_eq_true rfl) ?_
  intro p e su m args below meth c A Q ls hx hb hml hown hts hK hN hA hX hZ ht hP hD hS hl hend
  have hl : lv_has ls 5 [(0, .ref (ad 0 0)), (1, .int p1), (2, .int p2), (3, .ref o)] := hl
  refine lv_aload_n hx hb dL_set_0 rfl (lv_at hl 3 rfl) ?_
  refine lv_iconst (v := 0) hx hb dL_set_1 (by decide) ?_
  refine lv_aload_n hx hb dL_set_2 rfl (lv_at hl 0 rfl) ?_
  refine lv_iload_n hx hb dL_set_3 rfl (lv_at hl 1 rfl) ?_
  refine lv_iload_n hx hb dL_set_4 rfl (lv_at hl 2 rfl) ?_
  have q0 : (cOut g o out ++ wBR g ad tx is wa st hi).Perm (wBR g ad tx is wa st hi ++ cOut g o out) := List.perm_append_comm
  have hPc := (hP.perm q0).left
  have hDc := (hD.perm q0).left
  refine aftX (E := "java/lang/IllegalArgumentException") q0 (vx_runV (As := [.int p1, .int p2]) (rest := [.int 0, .ref o]) ⟨hx, hb, hml, hown, hts⟩ (tX5_set_2 l hst g ad h su.heap.size) (cwV 2 hts gL_set_X5_set rfl rfl rfl hdX5_set ⟨Nat.le_of_ble_eq_true rfl, Nat.le_of_ble_eq_true rfl⟩) ⟨PgX_blind _ _ _ _, (va_recv hK hP (ci := 5) (q0 := 1) rfl rfl), fun U hU hW => ⟨rfl, ⟨by rw [hU], by rw [hU]; exact hPc, va_K.moved hW.alike hK, hDc.weaken (fun _ _ _ _ => trivial), hN.warm hW⟩, hX.warm hW, by rw [hU]; exact Zs.moved hW.alike (hZ.narrow (fr_free hDc hS hA))⟩⟩ rfl rfl hl.1 rfl (lv_room (Nat.le_of_ble_eq_true rfl)) dL_set_5 ⟨Nat.le_of_ble_eq_true rfl, Nat.le_of_ble_eq_true rfl⟩) hP hD hS hA (fun ce q9 H locs hP hS hce hcv hcl => ?_)
  refine vx_catch (own := RL) (name := "java/lang/IllegalArgumentException") (E := "java/lang/IllegalArgumentException") hown [⟨0, 10, 13, 19⟩] ⟨0, 10, 17, 13⟩ [] (by rw [ht]; rfl) (fun z hz => by
    simp only [List.mem_cons, List.not_mem_nil, or_false] at hz
    rcases hz with rfl
    · exact Or.inr ⟨by decide, "java/lang/IndexOutOfBoundsException", (hts (.classLink RL 19 "java/lang/IndexOutOfBoundsException") (List.mem_of_getElem? (i := 1) rfl)), hX.2.1 ("java/lang/IllegalArgumentException", "java/lang/IndexOutOfBoundsException") (by decide +kernel)⟩) (by decide) (by decide) (hts (.classLink RL 13 "java/lang/IllegalArgumentException") (List.mem_of_getElem? (i := 2) rfl)) (va_Nw.use rfl (hX.1.1 "java/lang/IllegalArgumentException" (by decide +kernel))) hce hcv hcl ?_
  refine lv_astore (lv' := [(4, .ref q9), (0, .ref (ad 0 0)), (1, .int p1), (2, .int p2), (3, .ref o)]) hx hb dL_set_17 hl (by decide) rfl (fun ls hl => ?_)
  refine lv_iconst (v := 2) hx hb dL_set_19 (by decide) ?_
  exact hend _ _ _ _ _ hP hD hS (RetOK.i dL_set_20)
abbrev rL_setting : Room := { frames := 7, cells := 1, slots := 6, locals := 111 }
theorem hdL_setting : yL_setting.cls ≠ "java/lang/invoke/MethodHandle" ∧ yL_setting.cls ≠ "java/lang/invoke/VarHandle" ∧ (parseMethodDescriptor yL_setting.desc).map (fun d => d.parameters.length) = some 3 := by decide +kernel
set_option maxRecDepth 100000 in
set_option maxHeartbeats 8000000 in
theorem wL_setting (l : Launch) (hst : l.stackTraces = false) (g : GG) (ad : Nat → Nat → Nat) (o : Nat) {tx : Tx} {is : Is} {wa : Wa} {st : St} {hi : Hi} {out : Nat → Int64} {p1 : Int32} {res : Int32}  (h : fX5_setting tx is wa st hi p1 = some (.inr res)) : CL l g yL_setting wsL_setting rL_setting [.ref (ad 0 0), .int p1, .ref o] (cOut g o out ++ wBR g ad tx is wa st hi) (some (.int 0)) (cOut g o (vp_updL out 0 res.toInt64) ++ wBR g ad tx is wa st hi) := by
  refine CL_of (cc := cL_setting) (maxL := 4) (ret := some .int) (hh := [(0, 9, 12, 19)]) (by decide +kernel) rfl (Nat.le_of_ble_eq_true rfl) ?_
  intro p e su m args below meth c A Q ls hx hb hml hown hts hK hN hA hX hZ ht hP hD hS hl hend
  have hl : lv_has ls 4 [(0, .ref (ad 0 0)), (1, .int p1), (2, .ref o)] := hl
  refine lv_aload_n hx hb dL_setting_0 rfl (lv_at hl 2 rfl) ?_
  refine lv_iconst (v := 0) hx hb dL_setting_1 (by decide) ?_
  refine lv_aload_n hx hb dL_setting_2 rfl (lv_at hl 0 rfl) ?_
  refine lv_iload_n hx hb dL_setting_3 rfl (lv_at hl 1 rfl) ?_
  have q0 : (cOut g o out ++ wBR g ad tx is wa st hi).Perm (wBR g ad tx is wa st hi ++ cOut g o out) := List.perm_append_comm
  refine aft_p (st1 := [.int res, .int 0, .ref o]) (ws' := (cOut g o out ++ wBR g ad tx is wa st hi)) rfl q0 List.perm_append_comm (runV (As := [.int p1]) (rest := [.int 0, .ref o]) ⟨hx, hb, hml, hown, hts⟩ (kX5_setting l g ad h) (cwV 1 hts gL_setting_X5_setting rfl rfl rfl hdX5_setting ⟨Nat.le_of_ble_eq_true rfl, Nat.le_of_ble_eq_true rfl⟩) hK hN (hP.perm q0).left (hD.perm q0).left (va_recv hK hP (ci := 5) (q0 := 1) rfl rfl) rfl hl.1 rfl (Nat.le_of_ble_eq_true rfl) dL_setting_4 ⟨Nat.zero_le _, Nat.zero_le _⟩) hP hD hS hA (fun H locs hP hD hS => ?_)
  refine lv_i2l (v := res.toInt64) hx hb dL_setting_7 rfl ?_
  refine va_last hx hb hK hP hD hS 0 2 rfl rfl (inb_in (i := 0) (n := 1) (by decide)) dL_setting_8 (fun H locs hP hD hS => ?_)
  have hP : va_P g.1 vwCl (cOut g o (vp_updL out 0 res.toInt64) ++ wBR g ad tx is wa st hi) H := hP
  have hD : va_D A (cOut g o (vp_updL out 0 res.toInt64) ++ wBR g ad tx is wa st hi) := hD
  refine lv_goto (tgt := 15) hx hb dL_setting_9 (by decide) ?_
  refine lv_iconst (v := 0) hx hb dL_setting_15 (by decide) ?_
  refine W.widen (k := 1) (n := 6) (Nat.zero_le _) (Nat.zero_le _) ?_
  exact hend _ _ _ _ _ hP hD hS (RetOK.i dL_setting_16)
set_option maxRecDepth 100000 in
set_option maxHeartbeats 8000000 in
theorem wL_setting_1 (l : Launch) (hst : l.stackTraces = false) (g : GG) (ad : Nat → Nat → Nat) (o : Nat) {tx : Tx} {is : Is} {wa : Wa} {st : St} {hi : Hi} {out : Nat → Int64} {p1 : Int32} (h : fX5_setting tx is wa st hi p1 = some (.inl 1)) : CL l g yL_setting wsL_setting rL_setting [.ref (ad 0 0), .int p1, .ref o] (cOut g o out ++ wBR g ad tx is wa st hi) (some (.int 1)) (cOut g o out ++ wBR g ad tx is wa st hi) := by
  refine CL_of (cc := cL_setting) (maxL := 4) (ret := some .int) (hh := [(0, 9, 12, 19)]) (by decide +kernel) rfl (Nat.le_of_ble_eq_true rfl) ?_
  intro p e su m args below meth c A Q ls hx hb hml hown hts hK hN hA hX hZ ht hP hD hS hl hend
  have hl : lv_has ls 4 [(0, .ref (ad 0 0)), (1, .int p1), (2, .ref o)] := hl
  refine lv_aload_n hx hb dL_setting_0 rfl (lv_at hl 2 rfl) ?_
  refine lv_iconst (v := 0) hx hb dL_setting_1 (by decide) ?_
  refine lv_aload_n hx hb dL_setting_2 rfl (lv_at hl 0 rfl) ?_
  refine lv_iload_n hx hb dL_setting_3 rfl (lv_at hl 1 rfl) ?_
  have q0 : (cOut g o out ++ wBR g ad tx is wa st hi).Perm (wBR g ad tx is wa st hi ++ cOut g o out) := List.perm_append_comm
  have hPc := (hP.perm q0).left
  have hDc := (hD.perm q0).left
  refine aftX (E := "java/lang/IndexOutOfBoundsException") q0 (vx_runV (As := [.int p1]) (rest := [.int 0, .ref o]) ⟨hx, hb, hml, hown, hts⟩ (tX5_setting_1 l hst g ad h su.heap.size) (cwV 1 hts gL_setting_X5_setting rfl rfl rfl hdX5_setting ⟨Nat.le_of_ble_eq_true rfl, Nat.le_of_ble_eq_true rfl⟩) ⟨PgX_blind _ _ _ _, (va_recv hK hP (ci := 5) (q0 := 1) rfl rfl), fun U hU hW => ⟨rfl, ⟨by rw [hU], by rw [hU]; exact hPc, va_K.moved hW.alike hK, hDc.weaken (fun _ _ _ _ => trivial), hN.warm hW⟩, hX.warm hW, by rw [hU]; exact Zs.moved hW.alike (hZ.narrow (fr_free hDc hS hA))⟩⟩ rfl rfl hl.1 rfl (lv_room (Nat.le_of_ble_eq_true rfl)) dL_setting_4 ⟨Nat.le_of_ble_eq_true rfl, Nat.le_of_ble_eq_true rfl⟩) hP hD hS hA (fun ce q9 H locs hP hS hce hcv hcl => ?_)
  refine vx_catch (own := RL) (name := "java/lang/IndexOutOfBoundsException") (E := "java/lang/IndexOutOfBoundsException") hown [] ⟨0, 9, 12, 19⟩ [] (by rw [ht]; rfl) (fun z hz => by simp at hz) (by decide) (by decide) (hts (.classLink RL 19 "java/lang/IndexOutOfBoundsException") (List.mem_of_getElem? (i := 1) rfl)) (va_Nw.use rfl (hX.1.1 "java/lang/IndexOutOfBoundsException" (by decide +kernel))) hce hcv hcl ?_
  refine lv_astore_n (lv' := [(3, .ref q9), (0, .ref (ad 0 0)), (1, .int p1), (2, .ref o)]) hx hb dL_setting_12 rfl hl (by decide) rfl (fun ls hl => ?_)
  refine lv_iconst (v := 1) hx hb dL_setting_13 (by decide) ?_
  exact hend _ _ _ _ _ hP hD hS (RetOK.i dL_setting_14)
abbrev rL_undo : Room := { frames := 7, cells := 1, slots := 6, locals := 122 }
theorem hdL_undo : yL_undo.cls ≠ "java/lang/invoke/MethodHandle" ∧ yL_undo.cls ≠ "java/lang/invoke/VarHandle" ∧ (parseMethodDescriptor yL_undo.desc).map (fun d => d.parameters.length) = some 2 := by decide +kernel
set_option maxRecDepth 100000 in
set_option maxHeartbeats 8000000 in
theorem wL_undo (l : Launch) (hst : l.stackTraces = false) (g : GG) (ad : Nat → Nat → Nat) (o : Nat) {tx : Tx} {is : Is} {wa : Wa} {st : St} {hi : Hi} {out : Nat → Int64} {res : Int32} {st' : St} {hi' : Hi} (h : fX5_undo tx is wa st hi = some (.inr (res, st', hi'))) : CL l g yL_undo wsL_undo rL_undo [.ref (ad 0 0), .ref o] (cOut g o out ++ wBR g ad tx is wa st hi) (some (.int 0)) (cOut g o (vp_updL out 0 res.toInt64) ++ wBR g ad tx is wa st' hi') := by
  refine CL_of (cc := cL_undo) (maxL := 3) (ret := some .int) (hh := [(0, 8, 11, 28)]) (by decide +kernel) rfl (Nat.le_of_ble_eq_true rfl) ?_
  intro p e su m args below meth c A Q ls hx hb hml hown hts hK hN hA hX hZ ht hP hD hS hl hend
  have hl : lv_has ls 3 [(0, .ref (ad 0 0)), (1, .ref o)] := hl
  refine lv_aload_n hx hb dL_undo_0 rfl (lv_at hl 1 rfl) ?_
  refine lv_iconst (v := 0) hx hb dL_undo_1 (by decide) ?_
  refine lv_aload_n hx hb dL_undo_2 rfl (lv_at hl 0 rfl) ?_
  have q0 : (cOut g o out ++ wBR g ad tx is wa st hi).Perm (wBR g ad tx is wa st hi ++ cOut g o out) := List.perm_append_comm
  refine aft_p (st1 := [.int res, .int 0, .ref o]) (ws' := (cOut g o out ++ wBR g ad tx is wa st' hi')) rfl q0 List.perm_append_comm (runV (As := []) (rest := [.int 0, .ref o]) ⟨hx, hb, hml, hown, hts⟩ (kX5_undo l g ad h) (cwV 0 hts gL_undo_X5_undo rfl rfl rfl hdX5_undo ⟨Nat.le_of_ble_eq_true rfl, Nat.le_of_ble_eq_true rfl⟩) hK hN (hP.perm q0).left (hD.perm q0).left (va_recv hK hP (ci := 5) (q0 := 1) rfl rfl) rfl hl.1 rfl (Nat.le_of_ble_eq_true rfl) dL_undo_3 ⟨Nat.zero_le _, Nat.zero_le _⟩) hP hD hS hA (fun H locs hP hD hS => ?_)
  refine lv_i2l (v := res.toInt64) hx hb dL_undo_6 rfl ?_
  refine va_last hx hb hK hP hD hS 0 2 rfl rfl (inb_in (i := 0) (n := 1) (by decide)) dL_undo_7 (fun H locs hP hD hS => ?_)
  have hP : va_P g.1 vwCl (cOut g o (vp_updL out 0 res.toInt64) ++ wBR g ad tx is wa st' hi') H := hP
  have hD : va_D A (cOut g o (vp_updL out 0 res.toInt64) ++ wBR g ad tx is wa st' hi') := hD
  refine lv_goto (tgt := 14) hx hb dL_undo_8 (by decide) ?_
  refine lv_iconst (v := 0) hx hb dL_undo_14 (by decide) ?_
  refine W.widen (k := 1) (n := 6) (Nat.zero_le _) (Nat.zero_le _) ?_
  exact hend _ _ _ _ _ hP hD hS (RetOK.i dL_undo_15)
set_option maxRecDepth 100000 in
set_option maxHeartbeats 8000000 in
theorem wL_undo_3 (l : Launch) (hst : l.stackTraces = false) (g : GG) (ad : Nat → Nat → Nat) (o : Nat) {tx : Tx} {is : Is} {wa : Wa} {st : St} {hi : Hi} {out : Nat → Int64} (h : fX5_undo tx is wa st hi = some (.inl 3)) : CL l g yL_undo wsL_undo rL_undo [.ref (ad 0 0), .ref o] (cOut g o out ++ wBR g ad tx is wa st hi) (some (.int 1)) (cOut g o out ++ wBR g ad tx is wa st hi) := by
  refine CL_of (cc := cL_undo) (maxL := 3) (ret := some .int) (hh := [(0, 8, 11, 28)]) (by decide +kernel) rfl (Nat.le_of_ble_eq_true rfl) ?_
  intro p e su m args below meth c A Q ls hx hb hml hown hts hK hN hA hX hZ ht hP hD hS hl hend
  have hl : lv_has ls 3 [(0, .ref (ad 0 0)), (1, .ref o)] := hl
  refine lv_aload_n hx hb dL_undo_0 rfl (lv_at hl 1 rfl) ?_
  refine lv_iconst (v := 0) hx hb dL_undo_1 (by decide) ?_
  refine lv_aload_n hx hb dL_undo_2 rfl (lv_at hl 0 rfl) ?_
  have q0 : (cOut g o out ++ wBR g ad tx is wa st hi).Perm (wBR g ad tx is wa st hi ++ cOut g o out) := List.perm_append_comm
  have hPc := (hP.perm q0).left
  have hDc := (hD.perm q0).left
  refine aftX (E := "java/lang/IllegalStateException") q0 (vx_runV (As := []) (rest := [.int 0, .ref o]) ⟨hx, hb, hml, hown, hts⟩ (tX5_undo_3 l hst g ad h su.heap.size) (cwV 0 hts gL_undo_X5_undo rfl rfl rfl hdX5_undo ⟨Nat.le_of_ble_eq_true rfl, Nat.le_of_ble_eq_true rfl⟩) ⟨PgX_blind _ _ _ _, (va_recv hK hP (ci := 5) (q0 := 1) rfl rfl), fun U hU hW => ⟨rfl, ⟨by rw [hU], by rw [hU]; exact hPc, va_K.moved hW.alike hK, hDc.weaken (fun _ _ _ _ => trivial), hN.warm hW⟩, hX.warm hW, by rw [hU]; exact Zs.moved hW.alike (hZ.narrow (fr_free hDc hS hA))⟩⟩ rfl rfl hl.1 rfl (lv_room (Nat.le_of_ble_eq_true rfl)) dL_undo_3 ⟨Nat.le_of_ble_eq_true rfl, Nat.le_of_ble_eq_true rfl⟩) hP hD hS hA (fun ce q9 H locs hP hS hce hcv hcl => ?_)
  refine vx_catch (own := RL) (name := "java/lang/IllegalStateException") (E := "java/lang/IllegalStateException") hown [] ⟨0, 8, 11, 28⟩ [] (by rw [ht]; rfl) (fun z hz => by simp at hz) (by decide) (by decide) (hts (.classLink RL 28 "java/lang/IllegalStateException") (List.mem_of_getElem? (i := 1) rfl)) (va_Nw.use rfl (hX.1.1 "java/lang/IllegalStateException" (by decide +kernel))) hce hcv hcl ?_
  refine lv_astore_n (lv' := [(2, .ref q9), (0, .ref (ad 0 0)), (1, .ref o)]) hx hb dL_undo_11 rfl hl (by decide) rfl (fun ls hl => ?_)
  refine lv_iconst (v := 1) hx hb dL_undo_12 (by decide) ?_
  exact hend _ _ _ _ _ hP hD hS (RetOK.i dL_undo_13)
abbrev rL_why : Room := { frames := 7, cells := 1, slots := 6, locals := 112 }
theorem hdL_why : yL_why.cls ≠ "java/lang/invoke/MethodHandle" ∧ yL_why.cls ≠ "java/lang/invoke/VarHandle" ∧ (parseMethodDescriptor yL_why.desc).map (fun d => d.parameters.length) = some 4 := by decide +kernel
set_option maxRecDepth 100000 in
set_option maxHeartbeats 8000000 in
theorem wL_why (l : Launch) (hst : l.stackTraces = false) (g : GG) (ad : Nat → Nat → Nat) (o : Nat) {tx : Tx} {is : Is} {wa : Wa} {st : St} {hi : Hi} {out : Nat → Int64} {p1 : Int32} {p2 : Int32} {res : Int32}  (h : fX5_why tx is wa st hi p1 p2 = some (.inr res)) : CL l g yL_why wsL_why rL_why [.ref (ad 0 0), .int p1, .int p2, .ref o] (cOut g o out ++ wBR g ad tx is wa st hi) (some (.int 0)) (cOut g o (vp_updL out 0 res.toInt64) ++ wBR g ad tx is wa st hi) := by
  refine CL_of (cc := cL_why) (maxL := 5) (ret := some .int) (hh := [(0, 10, 13, 19)]) (by decide +kernel) rfl (Nat.le_of_ble_eq_true rfl) ?_
  intro p e su m args below meth c A Q ls hx hb hml hown hts hK hN hA hX hZ ht hP hD hS hl hend
  have hl : lv_has ls 5 [(0, .ref (ad 0 0)), (1, .int p1), (2, .int p2), (3, .ref o)] := hl
  refine lv_aload_n hx hb dL_why_0 rfl (lv_at hl 3 rfl) ?_
  refine lv_iconst (v := 0) hx hb dL_why_1 (by decide) ?_
  refine lv_aload_n hx hb dL_why_2 rfl (lv_at hl 0 rfl) ?_
  refine lv_iload_n hx hb dL_why_3 rfl (lv_at hl 1 rfl) ?_
  refine lv_iload_n hx hb dL_why_4 rfl (lv_at hl 2 rfl) ?_
  have q0 : (cOut g o out ++ wBR g ad tx is wa st hi).Perm (wBR g ad tx is wa st hi ++ cOut g o out) := List.perm_append_comm
  refine aft_p (st1 := [.int res, .int 0, .ref o]) (ws' := (cOut g o out ++ wBR g ad tx is wa st hi)) rfl q0 List.perm_append_comm (runV (As := [.int p1, .int p2]) (rest := [.int 0, .ref o]) ⟨hx, hb, hml, hown, hts⟩ (kX5_why l g ad h) (cwV 2 hts gL_why_X5_why rfl rfl rfl hdX5_why ⟨Nat.le_of_ble_eq_true rfl, Nat.le_of_ble_eq_true rfl⟩) hK hN (hP.perm q0).left (hD.perm q0).left (va_recv hK hP (ci := 5) (q0 := 1) rfl rfl) rfl hl.1 rfl (Nat.le_of_ble_eq_true rfl) dL_why_5 ⟨Nat.zero_le _, Nat.zero_le _⟩) hP hD hS hA (fun H locs hP hD hS => ?_)
  refine lv_i2l (v := res.toInt64) hx hb dL_why_8 rfl ?_
  refine va_last hx hb hK hP hD hS 0 2 rfl rfl (inb_in (i := 0) (n := 1) (by decide)) dL_why_9 (fun H locs hP hD hS => ?_)
  have hP : va_P g.1 vwCl (cOut g o (vp_updL out 0 res.toInt64) ++ wBR g ad tx is wa st hi) H := hP
  have hD : va_D A (cOut g o (vp_updL out 0 res.toInt64) ++ wBR g ad tx is wa st hi) := hD
  refine lv_goto (tgt := 17) hx hb dL_why_10 (by decide) ?_
  refine lv_iconst (v := 0) hx hb dL_why_17 (by decide) ?_
  refine W.widen (k := 1) (n := 6) (Nat.zero_le _) (Nat.zero_le _) ?_
  exact hend _ _ _ _ _ hP hD hS (RetOK.i dL_why_18)
set_option maxRecDepth 100000 in
set_option maxHeartbeats 8000000 in
theorem wL_why_1 (l : Launch) (hst : l.stackTraces = false) (g : GG) (ad : Nat → Nat → Nat) (o : Nat) {tx : Tx} {is : Is} {wa : Wa} {st : St} {hi : Hi} {out : Nat → Int64} {p1 : Int32} {p2 : Int32} (h : fX5_why tx is wa st hi p1 p2 = some (.inl 1)) : CL l g yL_why wsL_why rL_why [.ref (ad 0 0), .int p1, .int p2, .ref o] (cOut g o out ++ wBR g ad tx is wa st hi) (some (.int 1)) (cOut g o out ++ wBR g ad tx is wa st hi) := by
  refine CL_of (cc := cL_why) (maxL := 5) (ret := some .int) (hh := [(0, 10, 13, 19)]) (by decide +kernel) rfl (Nat.le_of_ble_eq_true rfl) ?_
  intro p e su m args below meth c A Q ls hx hb hml hown hts hK hN hA hX hZ ht hP hD hS hl hend
  have hl : lv_has ls 5 [(0, .ref (ad 0 0)), (1, .int p1), (2, .int p2), (3, .ref o)] := hl
  refine lv_aload_n hx hb dL_why_0 rfl (lv_at hl 3 rfl) ?_
  refine lv_iconst (v := 0) hx hb dL_why_1 (by decide) ?_
  refine lv_aload_n hx hb dL_why_2 rfl (lv_at hl 0 rfl) ?_
  refine lv_iload_n hx hb dL_why_3 rfl (lv_at hl 1 rfl) ?_
  refine lv_iload_n hx hb dL_why_4 rfl (lv_at hl 2 rfl) ?_
  have q0 : (cOut g o out ++ wBR g ad tx is wa st hi).Perm (wBR g ad tx is wa st hi ++ cOut g o out) := List.perm_append_comm
  have hPc := (hP.perm q0).left
  have hDc := (hD.perm q0).left
  refine aftX (E := "java/lang/IndexOutOfBoundsException") q0 (vx_runV (As := [.int p1, .int p2]) (rest := [.int 0, .ref o]) ⟨hx, hb, hml, hown, hts⟩ (tX5_why_1 l hst g ad h su.heap.size) (cwV 2 hts gL_why_X5_why rfl rfl rfl hdX5_why ⟨Nat.le_of_ble_eq_true rfl, Nat.le_of_ble_eq_true rfl⟩) ⟨PgX_blind _ _ _ _, (va_recv hK hP (ci := 5) (q0 := 1) rfl rfl), fun U hU hW => ⟨rfl, ⟨by rw [hU], by rw [hU]; exact hPc, va_K.moved hW.alike hK, hDc.weaken (fun _ _ _ _ => trivial), hN.warm hW⟩, hX.warm hW, by rw [hU]; exact Zs.moved hW.alike (hZ.narrow (fr_free hDc hS hA))⟩⟩ rfl rfl hl.1 rfl (lv_room (Nat.le_of_ble_eq_true rfl)) dL_why_5 ⟨Nat.le_of_ble_eq_true rfl, Nat.le_of_ble_eq_true rfl⟩) hP hD hS hA (fun ce q9 H locs hP hS hce hcv hcl => ?_)
  refine vx_catch (own := RL) (name := "java/lang/IndexOutOfBoundsException") (E := "java/lang/IndexOutOfBoundsException") hown [] ⟨0, 10, 13, 19⟩ [] (by rw [ht]; rfl) (fun z hz => by simp at hz) (by decide) (by decide) (hts (.classLink RL 19 "java/lang/IndexOutOfBoundsException") (List.mem_of_getElem? (i := 1) rfl)) (va_Nw.use rfl (hX.1.1 "java/lang/IndexOutOfBoundsException" (by decide +kernel))) hce hcv hcl ?_
  refine lv_astore (lv' := [(4, .ref q9), (0, .ref (ad 0 0)), (1, .int p1), (2, .int p2), (3, .ref o)]) hx hb dL_why_13 hl (by decide) rfl (fun ls hl => ?_)
  refine lv_iconst (v := 1) hx hb dL_why_15 (by decide) ?_
  exact hend _ _ _ _ _ hP hD hS (RetOK.i dL_why_16)
abbrev rL_word : Room := { frames := 7, cells := 1, slots := 6, locals := 132 }
theorem hdL_word : yL_word.cls ≠ "java/lang/invoke/MethodHandle" ∧ yL_word.cls ≠ "java/lang/invoke/VarHandle" ∧ (parseMethodDescriptor yL_word.desc).map (fun d => d.parameters.length) = some 4 := by decide +kernel
set_option maxRecDepth 100000 in
set_option maxHeartbeats 8000000 in
theorem wL_word (l : Launch) (hst : l.stackTraces = false) (g : GG) (ad : Nat → Nat → Nat) (o : Nat) {tx : Tx} {is : Is} {wa : Wa} {st : St} {hi : Hi} {out : Nat → Int64} {p1 : Int32} {p2 : Int32} {res : Int32}  (h : fX5_word tx is wa st hi p1 p2 = some (.inr res)) : CL l g yL_word wsL_word rL_word [.ref (ad 0 0), .int p1, .int p2, .ref o] (cOut g o out ++ wBR g ad tx is wa st hi) (some (.int 0)) (cOut g o (vp_updL out 0 res.toInt64) ++ wBR g ad tx is wa st hi) := by
  refine CL_of (cc := cL_word) (maxL := 5) (ret := some .int) (hh := [(0, 10, 13, 19), (0, 10, 17, 13)]) (by decide +kernel) rfl (Nat.le_of_ble_eq_true rfl) ?_
  intro p e su m args below meth c A Q ls hx hb hml hown hts hK hN hA hX hZ ht hP hD hS hl hend
  have hl : lv_has ls 5 [(0, .ref (ad 0 0)), (1, .int p1), (2, .int p2), (3, .ref o)] := hl
  refine lv_aload_n hx hb dL_word_0 rfl (lv_at hl 3 rfl) ?_
  refine lv_iconst (v := 0) hx hb dL_word_1 (by decide) ?_
  refine lv_aload_n hx hb dL_word_2 rfl (lv_at hl 0 rfl) ?_
  refine lv_iload_n hx hb dL_word_3 rfl (lv_at hl 1 rfl) ?_
  refine lv_iload_n hx hb dL_word_4 rfl (lv_at hl 2 rfl) ?_
  have q0 : (cOut g o out ++ wBR g ad tx is wa st hi).Perm (wBR g ad tx is wa st hi ++ cOut g o out) := List.perm_append_comm
  refine aft_p (st1 := [.int res, .int 0, .ref o]) (ws' := (cOut g o out ++ wBR g ad tx is wa st hi)) rfl q0 List.perm_append_comm (runV (As := [.int p1, .int p2]) (rest := [.int 0, .ref o]) ⟨hx, hb, hml, hown, hts⟩ (kX5_word l g ad h) (cwV 2 hts gL_word_X5_word rfl rfl rfl hdX5_word ⟨Nat.le_of_ble_eq_true rfl, Nat.le_of_ble_eq_true rfl⟩) hK hN (hP.perm q0).left (hD.perm q0).left (va_recv hK hP (ci := 5) (q0 := 1) rfl rfl) rfl hl.1 rfl (Nat.le_of_ble_eq_true rfl) dL_word_5 ⟨Nat.zero_le _, Nat.zero_le _⟩) hP hD hS hA (fun H locs hP hD hS => ?_)
  refine lv_i2l (v := res.toInt64) hx hb dL_word_8 rfl ?_
  refine va_last hx hb hK hP hD hS 0 2 rfl rfl (inb_in (i := 0) (n := 1) (by decide)) dL_word_9 (fun H locs hP hD hS => ?_)
  have hP : va_P g.1 vwCl (cOut g o (vp_updL out 0 res.toInt64) ++ wBR g ad tx is wa st hi) H := hP
  have hD : va_D A (cOut g o (vp_updL out 0 res.toInt64) ++ wBR g ad tx is wa st hi) := hD
  refine lv_goto (tgt := 21) hx hb dL_word_10 (by decide) ?_
  refine lv_iconst (v := 0) hx hb dL_word_21 (by decide) ?_
  refine W.widen (k := 1) (n := 6) (Nat.zero_le _) (Nat.zero_le _) ?_
  exact hend _ _ _ _ _ hP hD hS (RetOK.i dL_word_22)
set_option maxRecDepth 100000 in
set_option maxHeartbeats 8000000 in
theorem wL_word_1 (l : Launch) (hst : l.stackTraces = false) (g : GG) (ad : Nat → Nat → Nat) (o : Nat) {tx : Tx} {is : Is} {wa : Wa} {st : St} {hi : Hi} {out : Nat → Int64} {p1 : Int32} {p2 : Int32} (h : fX5_word tx is wa st hi p1 p2 = some (.inl 1)) : CL l g yL_word wsL_word rL_word [.ref (ad 0 0), .int p1, .int p2, .ref o] (cOut g o out ++ wBR g ad tx is wa st hi) (some (.int 1)) (cOut g o out ++ wBR g ad tx is wa st hi) := by
  refine CL_of (cc := cL_word) (maxL := 5) (ret := some .int) (hh := [(0, 10, 13, 19), (0, 10, 17, 13)]) (by decide +kernel) rfl (Nat.le_of_ble_eq_true rfl) ?_
  intro p e su m args below meth c A Q ls hx hb hml hown hts hK hN hA hX hZ ht hP hD hS hl hend
  have hl : lv_has ls 5 [(0, .ref (ad 0 0)), (1, .int p1), (2, .int p2), (3, .ref o)] := hl
  refine lv_aload_n hx hb dL_word_0 rfl (lv_at hl 3 rfl) ?_
  refine lv_iconst (v := 0) hx hb dL_word_1 (by decide) ?_
  refine lv_aload_n hx hb dL_word_2 rfl (lv_at hl 0 rfl) ?_
  refine lv_iload_n hx hb dL_word_3 rfl (lv_at hl 1 rfl) ?_
  refine lv_iload_n hx hb dL_word_4 rfl (lv_at hl 2 rfl) ?_
  have q0 : (cOut g o out ++ wBR g ad tx is wa st hi).Perm (wBR g ad tx is wa st hi ++ cOut g o out) := List.perm_append_comm
  have hPc := (hP.perm q0).left
  have hDc := (hD.perm q0).left
  refine aftX (E := "java/lang/IndexOutOfBoundsException") q0 (vx_runV (As := [.int p1, .int p2]) (rest := [.int 0, .ref o]) ⟨hx, hb, hml, hown, hts⟩ (tX5_word_1 l hst g ad h su.heap.size) (cwV 2 hts gL_word_X5_word rfl rfl rfl hdX5_word ⟨Nat.le_of_ble_eq_true rfl, Nat.le_of_ble_eq_true rfl⟩) ⟨PgX_blind _ _ _ _, (va_recv hK hP (ci := 5) (q0 := 1) rfl rfl), fun U hU hW => ⟨rfl, ⟨by rw [hU], by rw [hU]; exact hPc, va_K.moved hW.alike hK, hDc.weaken (fun _ _ _ _ => trivial), hN.warm hW⟩, hX.warm hW, by rw [hU]; exact Zs.moved hW.alike (hZ.narrow (fr_free hDc hS hA))⟩⟩ rfl rfl hl.1 rfl (lv_room (Nat.le_of_ble_eq_true rfl)) dL_word_5 ⟨Nat.le_of_ble_eq_true rfl, Nat.le_of_ble_eq_true rfl⟩) hP hD hS hA (fun ce q9 H locs hP hS hce hcv hcl => ?_)
  refine vx_catch (own := RL) (name := "java/lang/IndexOutOfBoundsException") (E := "java/lang/IndexOutOfBoundsException") hown [] ⟨0, 10, 13, 19⟩ [⟨0, 10, 17, 13⟩] (by rw [ht]; rfl) (fun z hz => by simp at hz) (by decide) (by decide) (hts (.classLink RL 19 "java/lang/IndexOutOfBoundsException") (List.mem_of_getElem? (i := 1) rfl)) (va_Nw.use rfl (hX.1.1 "java/lang/IndexOutOfBoundsException" (by decide +kernel))) hce hcv hcl ?_
  refine lv_astore (lv' := [(4, .ref q9), (0, .ref (ad 0 0)), (1, .int p1), (2, .int p2), (3, .ref o)]) hx hb dL_word_13 hl (by decide) rfl (fun ls hl => ?_)
  refine lv_iconst (v := 1) hx hb dL_word_15 (by decide) ?_
  exact hend _ _ _ _ _ hP hD hS (RetOK.i dL_word_16)
set_option maxRecDepth 100000 in
set_option maxHeartbeats 8000000 in
theorem wL_word_2 (l : Launch) (hst : l.stackTraces = false) (g : GG) (ad : Nat → Nat → Nat) (o : Nat) {tx : Tx} {is : Is} {wa : Wa} {st : St} {hi : Hi} {out : Nat → Int64} {p1 : Int32} {p2 : Int32} (h : fX5_word tx is wa st hi p1 p2 = some (.inl 2)) : CL l g yL_word wsL_word rL_word [.ref (ad 0 0), .int p1, .int p2, .ref o] (cOut g o out ++ wBR g ad tx is wa st hi) (some (.int 2)) (cOut g o out ++ wBR g ad tx is wa st hi) := by
  refine CL_of (cc := cL_word) (maxL := 5) (ret := some .int) (hh := [(0, 10, 13, 19), (0, 10, 17, 13)]) (by decide +kernel) rfl (Nat.le_of_ble_eq_true rfl) ?_
  intro p e su m args below meth c A Q ls hx hb hml hown hts hK hN hA hX hZ ht hP hD hS hl hend
  have hl : lv_has ls 5 [(0, .ref (ad 0 0)), (1, .int p1), (2, .int p2), (3, .ref o)] := hl
  refine lv_aload_n hx hb dL_word_0 rfl (lv_at hl 3 rfl) ?_
  refine lv_iconst (v := 0) hx hb dL_word_1 (by decide) ?_
  refine lv_aload_n hx hb dL_word_2 rfl (lv_at hl 0 rfl) ?_
  refine lv_iload_n hx hb dL_word_3 rfl (lv_at hl 1 rfl) ?_
  refine lv_iload_n hx hb dL_word_4 rfl (lv_at hl 2 rfl) ?_
  have q0 : (cOut g o out ++ wBR g ad tx is wa st hi).Perm (wBR g ad tx is wa st hi ++ cOut g o out) := List.perm_append_comm
  have hPc := (hP.perm q0).left
  have hDc := (hD.perm q0).left
  refine aftX (E := "java/lang/IllegalArgumentException") q0 (vx_runV (As := [.int p1, .int p2]) (rest := [.int 0, .ref o]) ⟨hx, hb, hml, hown, hts⟩ (tX5_word_2 l hst g ad h su.heap.size) (cwV 2 hts gL_word_X5_word rfl rfl rfl hdX5_word ⟨Nat.le_of_ble_eq_true rfl, Nat.le_of_ble_eq_true rfl⟩) ⟨PgX_blind _ _ _ _, (va_recv hK hP (ci := 5) (q0 := 1) rfl rfl), fun U hU hW => ⟨rfl, ⟨by rw [hU], by rw [hU]; exact hPc, va_K.moved hW.alike hK, hDc.weaken (fun _ _ _ _ => trivial), hN.warm hW⟩, hX.warm hW, by rw [hU]; exact Zs.moved hW.alike (hZ.narrow (fr_free hDc hS hA))⟩⟩ rfl rfl hl.1 rfl (lv_room (Nat.le_of_ble_eq_true rfl)) dL_word_5 ⟨Nat.le_of_ble_eq_true rfl, Nat.le_of_ble_eq_true rfl⟩) hP hD hS hA (fun ce q9 H locs hP hS hce hcv hcl => ?_)
  refine vx_catch (own := RL) (name := "java/lang/IllegalArgumentException") (E := "java/lang/IllegalArgumentException") hown [⟨0, 10, 13, 19⟩] ⟨0, 10, 17, 13⟩ [] (by rw [ht]; rfl) (fun z hz => by
    simp only [List.mem_cons, List.not_mem_nil, or_false] at hz
    rcases hz with rfl
    · exact Or.inr ⟨by decide, "java/lang/IndexOutOfBoundsException", (hts (.classLink RL 19 "java/lang/IndexOutOfBoundsException") (List.mem_of_getElem? (i := 1) rfl)), hX.2.1 ("java/lang/IllegalArgumentException", "java/lang/IndexOutOfBoundsException") (by decide +kernel)⟩) (by decide) (by decide) (hts (.classLink RL 13 "java/lang/IllegalArgumentException") (List.mem_of_getElem? (i := 2) rfl)) (va_Nw.use rfl (hX.1.1 "java/lang/IllegalArgumentException" (by decide +kernel))) hce hcv hcl ?_
  refine lv_astore (lv' := [(4, .ref q9), (0, .ref (ad 0 0)), (1, .int p1), (2, .int p2), (3, .ref o)]) hx hb dL_word_17 hl (by decide) rfl (fun ls hl => ?_)
  refine lv_iconst (v := 2) hx hb dL_word_19 (by decide) ?_
  exact hend _ _ _ _ _ hP hD hS (RetOK.i dL_word_20)
end WRP
