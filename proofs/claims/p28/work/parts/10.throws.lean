section THR
/-! what a method that throws asks of the machine besides: texts, castable classes, Throwable's two statics -/
def strL : List (Nat × String) := [(50, "the buffer is not complete words"), (68, "no such setting"), (71, "the value is not 1 to 7"), (81, "no such place"), (83, "the letter is not 0 to 7"), (98, "no such climber or word"), (100, "both words are the same"), (114, "the climber can not be put there"), (129, "the climber can not go there"), (137, "no such climber"), (139, "the climber is on no word"), (145, "the code is not 33 to 126"), (151, "the buffer is full"), (187, "there is no saved state"), (192, "no such word"), (194, "what is not 0 to 9"), (202, "what is not 0 to 12")]
def excL : List String := ["java/lang/IndexOutOfBoundsException", "java/lang/IllegalArgumentException", "java/lang/IllegalStateException"]
def ncL : List (String × String) := [("java/lang/IllegalArgumentException", "java/lang/IndexOutOfBoundsException"), ("java/lang/IllegalStateException", "java/lang/IndexOutOfBoundsException"), ("java/lang/IllegalStateException", "java/lang/IllegalArgumentException")]
def dcL : List MethodName := [⟨"java/lang/RuntimeException", "<init>", "(Ljava/lang/String;)V"⟩, ⟨"java/lang/Exception", "<init>", "(Ljava/lang/String;)V"⟩, ⟨"java/lang/Throwable", "<init>", "(Ljava/lang/String;)V"⟩]
def Xt (U : State) : Prop := ((∀ c ∈ excL, va_Nw (.castable c c) U) ∧ ∀ x ∈ dcL, va_Nw (.declares x) U) ∧ (∀ q ∈ ncL, va_Nc q.1 q.2 U) ∧ ∀ q ∈ strL, ∃ sa, vk_R RX5 q.1 q.2 sa U
theorem Xt.warm {s U : State} (hW : s.WarmedH U.vm) (h : Xt s) : Xt U :=
  ⟨⟨fun c hc => va_Nw.warmC hW (h.1.1 c hc), fun x hx => va_Nw.warmD hW (h.1.2 x hx)⟩, fun q hq => va_Nc.moved (u := s) (U := U) hW.alike (h.2.1 q hq), fun q hq => by
    obtain ⟨sa, h1⟩ := h.2.2 q hq
    exact ⟨sa, vk_R.warm hW h1⟩⟩
theorem Xt.same {u U : State} (hv : u.vm = U.vm) (h : Xt u) : Xt U :=
  ⟨⟨fun c hc => va_Nw.same rfl hv (h.1.1 c hc), fun x hx => va_Nw.same rfl hv (h.1.2 x hx)⟩, fun q hq => va_Nc.moved (u := u) (U := U) (hv ▸ Vm.Alike.refl u.vm) (h.2.1 q hq), fun q hq => by
    obtain ⟨sa, h1⟩ := h.2.2 q hq
    exact ⟨sa, vk_R.same hv.symm h1⟩⟩
/-- Throwable's two statics, in cells that none of A is -/
def Zs (A : Nat → Prop) (U : State) (H : Heap) : Prop := vx_Zq Bundle.tN "UNASSIGNED_STACK" Bundle.steD A U H ∧ vx_Zq Bundle.tN "SUPPRESSED_SENTINEL" Bundle.listD A U H
theorem Zs.moved {A : Nat → Prop} {u U : State} {H : Heap} (hvm : u.vm.Alike U.vm) (h : Zs A u H) : Zs A U H := ⟨vx_Zq.moved hvm h.1, vx_Zq.moved hvm h.2⟩
theorem Zs.kept {A : Nat → Prop} {U : State} {H H1 : Heap} (h : Zs A U H) (hq : ∀ a : Nat, a < H.size → ¬ A a → H1[a]? = H[a]?) : Zs A U H1 := ⟨vx_Zq.kept h.1 hq, vx_Zq.kept h.2 hq⟩
theorem Zs.narrow {A B : Nat → Prop} {U : State} {H : Heap} (h : Zs A U H) (hAB : ∀ q, B q → A q) : Zs B U H := ⟨vx_Zq.narrow h.1 hAB, vx_Zq.narrow h.2 hAB⟩
def PgX (g : GG) (av : List Value) (w : va_W) (sz : Nat) : Array Value → State → Prop := va_Pc av (fun U => (U.heap.size = sz ∧ va_P g.1 vwCl w U.heap ∧ va_K g.1 vwCl (tyL g) U ∧ va_D (fun _ => True) w ∧ Nst U) ∧ Xt U ∧ Zs (va_A w sz) U U.heap)
theorem PgX_blind (g : GG) (av : List Value) (w : va_W) (sz : Nat) : FrameBlind (PgX g av w sz) := fun a U gg mk q => by
  obtain ⟨q0, ⟨q1, qP, qK, qD, qN⟩, qX, qZ⟩ := q
  exact ⟨q0, ⟨q1, qP, va_K.moved (u := U) (U := U.calling gg mk a) (Vm.Alike.refl U.vm) qK, qD, Nst.same (u := U) (U := U.calling gg mk a) rfl qN⟩, Xt.same (u := U) (U := U.calling gg mk a) rfl qX, Zs.moved (u := U) (U := U.calling gg mk a) (Vm.Alike.refl U.vm) qZ⟩
def QT (E : String) (g : GG) (w : va_W) (sz : Nat) : String → State → State → Prop := fun E1 st t => E1 = E ∧ va_P g.1 vwCl w t.heap ∧ va_D (va_A w sz) w ∧ va_F (va_A w sz) st t
/-- called with av over the world w, the method throws an E, and the world stays -/
def CT (l : Launch) (g : GG) (y : MethodName) (ws : List Cond) (rm : Room) (av : List Value) (w : va_W) (E : String) : Prop :=
  ∀ sz : Nat, vx_Met l y ws rm (PgX g av w sz) (fun _ _ _ _ => False) (QT E g w sz) 1 6 (va_A w sz)
abbrev exN : List String := ["java/lang/RuntimeException", "java/lang/Exception"]
theorem CT_of {l : Launch} (hst : l.stackTraces = false) {g : GG} {y : MethodName} {ws ws' : List Cond} {rm : Room} {av : List Value} {w : va_W} {E : String} {cc : ByteArray} {maxL : Nat} {ret : Option FieldType}
    (hE : E ∈ excL) (hF : 6 ≤ rm.frames) (hLo : 90 ≤ rm.locals) (hC : rm.cells = 1) (hSl : rm.slots = 6) (hcls : y.cls = RX5)
    (hy : plainName y.cls = true) (hw : ws = Cond.code y cc maxL ret :: ws') (hn : (lg_sl av).length ≤ maxL)
    (body : ∀ (p : Program) (e : Env) (s : State) (m : MethodId) (args : Array Value) (below : List Frame) (meth : Method) (c : Code) (A : Nat → Prop) (Q : State → Prop) (ls : Array Slot),
      p.tables.exec = Jvm.exec → c.code = cc → c.maxLocals = maxL → s.vm.findClass y.cls = some m.cls → (∀ w ∈ ws, w.before args s = true) → va_K g.1 vwCl (tyL g) s → Nst s → (∀ q : Nat, s.heap.size ≤ q → A q) → meth.name = y.name →
      va_P g.1 vwCl w s.heap → va_D A w → va_S A s.heap s.heap [] → lv_has ls maxL (lv_args 0 av) →
      (∀ (H : Heap) (locs : List Loc) (pc : Nat) (ls1 : Array Slot) (ik is ic : Nat) (text : String), va_P g.1 vwCl w H → va_D A w → va_S A s.heap H locs → ls1.size = maxL → (is, text) ∈ strL →
        (Cond.classLink RX5 ik E).before args s = true → (Cond.initialized E).before args s = true → (∀ w ∈ (vx_atS RX5 ic E exN).filter goodWord, w.before args s = true) →
        (∀ w ∈ Cond.classLink RX5 ik E :: Cond.initialized E :: vx_atS RX5 ic E exN, vx_ot w = true) → (∀ w ∈ (vx_atS RX5 ic E exN).filter (fun w => !goodWord w), w ∈ Cond.castable E E :: dcL.map Cond.declares) →
        decode cc pc = .ok (.new ik, 3) → decode cc (pc + 3) = .ok (.dup, 1) → decode cc (pc + 4) = .ok (.ldc is, 2) → decode cc (pc + 6) = .ok (.invokespecial ic, 3) → decode cc (pc + 9) = .ok (.athrow, 1) →
        W p l e rm s m args below meth c H locs 0 0 Q (F0 m pc ls1 [])) →
      W p l e rm s m args below meth c s.heap [] 0 0 Q (F0 m 0 ls [])) : CT l g y ws rm av w E := by
  intro sz
  refine vx_ofW (cc := cc) (maxL := maxL) (ret := ret) hy hw ?_
  intro p e s m args below meth c s₁ B hml hout hv
  obtain ⟨rfl, ⟨hsz, hP, hK, hD0, hN⟩, hX, hZ⟩ := hv
  have hx := B.exec
  have hb := B.bytes
  have hts := atoms_spec (ws := ws) B.pre
  have hown : s.vm.findClass y.cls = some m.cls := findClass_of_methodNamed B.named
  have hlocks := B.notSynchronized
  have hnm : meth.name = y.name := (name_of_methodNamed B.named B.method).1
  subst hsz
  have hD := hD0.self (sz := s.heap.size)
  have hl := lv_entry av (n := maxL) hn
  rw [lg_entry_eq]
  refine body p e s m _ below meth c (va_A w s.heap.size) _ _ hx hb hml hown hts hK hN (fun q h => Or.inr h) hnm hP hD va_S.rf hl ?_
  intro H locs pc ls1 ik is ic text hP hD hS hsize hstr hk hini hat hgood hB d0 d3 d4 d6 d9
  obtain ⟨sa, hsa⟩ := hX.2.2 (is, text) hstr
  have hown5 : s.vm.findClass RX5 = some m.cls := hcls ▸ hown
  have hfit : Bundle.fit E = true := (by decide +kernel : ∀ c ∈ excL, Bundle.fit c = true) E hE
  refine vx_throwS hx hb hst (own := RX5) (cls := E) (names := exN) hown5 hfit (by decide +kernel) hk hini hsa (vx_hat hat hB (vx_c (va_Nw.use rfl (hX.1.1 E hE)) (fun w hw => by
    obtain ⟨x, hx, rfl⟩ := List.mem_map.mp hw
    exact va_Nw.use rfl (hX.1.2 x hx)))) hgood hZ.1 hZ.2 hS (hsize.trans hml.symm) d0 d3 d4 d6 d9 (fun x hx => absurd hx (fun q => (hout x q))) ?_ ?_ ?_ ?_ hlocks ?_ hS.2.2 (Nat.le_refl 1) (Nat.le_refl 6)
  · show 2 + 3 < rm.frames
    omega
  · show 0 + (13 * (2 + 1) + 43) ≤ rm.locals
    omega
  · show 0 + 1 ≤ rm.cells
    omega
  · show 0 + 6 ≤ rm.slots
    omega
  · intro t hA hz hk
    refine ⟨rfl, hP.kept fun k q hq => hk q.1 (hP k q hq).lt, hD, Nat.le_trans hS.1 hz, fun q h1 h2 => ?_⟩
    rw [hk q (Nat.lt_of_lt_of_le h1 hS.1)]
    exact hS.2.1 q h1 h2
end THR
abbrev rtX5_add : Room := { frames := 6, cells := 1, slots := 6, locals := 133 }
set_option maxRecDepth 100000 in
set_option maxHeartbeats 8000000 in
theorem tX5_add_2 (l : Launch) (hst : l.stackTraces = false) (g : GG) (ad : Nat → Nat → Nat) {tx : Tx} {is : Is} {wa : Wa} {st : St} {hi : Hi} (h : fX5_add tx is wa st hi = some (.inl 2)) : CT l g yX5_add wsX5_add rtX5_add [.ref ((ad 0) 0)] (cRt ad ++ (cTx g (ad 1) tx ++ (cIs g (ad 2) is ++ (cWa g (ad 3) wa ++ (cSt g (ad 4) st ++ (cHi g (ad 5) (ad 6) hi)))))) "java/lang/IllegalArgumentException" := by
  refine CT_of hst (cc := cX5_add) (maxL := 2) (ret := (some .int)) (by decide +kernel) (by decide) (by decide) rfl rfl rfl (by decide +kernel) rfl (Nat.le_of_ble_eq_true rfl) ?_
  intro p e su m args below meth c A Q ls hx hb hml hown hts hK hN hA hnm hP hD hS hl hthrow
  have hinX5 : ∀ w ∈ u_ws RX5 TX5 5, w ∈ wsX5_add := fun _ h9 => List.mem_cons_of_mem _ (List.mem_append_left _ (List.mem_append_left _ (List.mem_append_left _ (List.mem_append_left _ (List.mem_append_right _ h9)))))
  have hinX3 : ∀ w ∈ u_ws RX3 TX3 2, w ∈ wsX5_add := fun _ h9 => List.mem_cons_of_mem _ (List.mem_append_left _ (List.mem_append_left _ (List.mem_append_left _ (List.mem_append_right _ h9))))
  have hinX0 : ∀ w ∈ u_ws RX0 TX0 4, w ∈ wsX5_add := fun _ h9 => List.mem_cons_of_mem _ (List.mem_append_left _ (List.mem_append_left _ (List.mem_append_right _ h9)))
  have hinX2 : ∀ w ∈ u_ws RX2 TX2 17, w ∈ wsX5_add := fun _ h9 => List.mem_cons_of_mem _ (List.mem_append_left _ (List.mem_append_right _ h9))
  unfold fX5_add at h
  have hl : lv_has ls 2 [(0, .ref ((ad 0) 0))] := hl
  refine lv_aload_n hx hb dX5_add_0 rfl (lv_at hl 0 rfl) ?_
  refine va_get (D := g.1) (ci := 5) (v := .ref ((ad 1) 0)) (C := RX5) (T := TX5) (N := 5) hx hb hts hinX5 hown hK hP 0 rfl rfl 2 (by decide) (hts (.fieldLink RX5 26 "BarredRungs" "text" "LBarredRungs$Text;") (List.mem_of_getElem? (i := 3) rfl)) (fun _ h9 => h9) rfl dX5_add_1 ?_
  refine lv_iconst (v := 1) hx hb dX5_add_4 (by decide) ?_
  obtain ⟨r1, kr1, h⟩ := bd_ex h
  have hP8 : va_P g.1 vwCl ((cRt ad) ++ ((cTx g (ad 1) tx) ++ (cIs g (ad 2) is ++ (cWa g (ad 3) wa ++ (cSt g (ad 4) st ++ (cHi g (ad 5) (ad 6) hi)))))) _ := hP
  have hD8 : va_D A ((cRt ad) ++ ((cTx g (ad 1) tx) ++ (cIs g (ad 2) is ++ (cWa g (ad 3) wa ++ (cSt g (ad 4) st ++ (cHi g (ad 5) (ad 6) hi)))))) := hD
  refine aft_f (st1 := [.int r1]) rfl (cRt ad) (cIs g (ad 2) is ++ (cWa g (ad 3) wa ++ (cSt g (ad 4) st ++ (cHi g (ad 5) (ad 6) hi)))) (runV (As := [.int (1 : Int32)]) (rest := []) ⟨hx, hb, hml, hown, hts⟩ (kX3_isWhole l g (ad 1) kr1) (cwV 1 hts gX5_add_X3_isWhole rfl rfl rfl hdX3_isWhole ⟨Nat.le_of_ble_eq_true rfl, Nat.le_of_ble_eq_true rfl⟩) hK hN hP8.right.left hD8.right.left (va_recv hK hP (ci := 3) (q0 := 1) rfl rfl) rfl hl.1 rfl (Nat.le_of_ble_eq_true rfl) dX5_add_5 ⟨Nat.zero_le _, Nat.zero_le _⟩) hP8 hD8 hS hA (fun H locs hP hD hS => ?_)
  have hP : va_P g.1 vwCl (cRt ad ++ (cTx g (ad 1) tx ++ (cIs g (ad 2) is ++ (cWa g (ad 3) wa ++ (cSt g (ad 4) st ++ (cHi g (ad 5) (ad 6) hi)))))) H := hP
  have hD : va_D A (cRt ad ++ (cTx g (ad 1) tx ++ (cIs g (ad 2) is ++ (cWa g (ad 3) wa ++ (cSt g (ad 4) st ++ (cHi g (ad 5) (ad 6) hi)))))) := hD
  refine lv_if_ne (tgt := 21) hx hb dX5_add_8 (by decide) (fun c2 => ?_) (fun c2 => ?_)
  · have h := if_f c2 h
    refine lv_aload_n hx hb dX5_add_21 rfl (lv_at hl 0 rfl) ?_
    refine va_get (D := g.1) (ci := 5) (v := .ref ((ad 5) 0)) (C := RX5) (T := TX5) (N := 5) hx hb hts hinX5 hown hK hP 0 rfl rfl 1 (by decide) (hts (.fieldLink RX5 19 "BarredRungs" "history" "LBarredRungs$History;") (List.mem_of_getElem? (i := 4) rfl)) (fun _ h9 => h9) rfl dX5_add_22 ?_
    refine lv_aload_n hx hb dX5_add_25 rfl (lv_at hl 0 rfl) ?_
    refine va_get (D := g.1) (ci := 5) (v := .ref ((ad 4) 0)) (C := RX5) (T := TX5) (N := 5) hx hb hts hinX5 hown hK hP 0 rfl rfl 0 (by decide) (hts (.fieldLink RX5 12 "BarredRungs" "now" "LBarredRungs$State;") (List.mem_of_getElem? (i := 5) rfl)) (fun _ h9 => h9) rfl dX5_add_26 ?_
    obtain ⟨hi3, khi3, h⟩ := bd_ex h
    have hP8 : va_P g.1 vwCl ((cRt ad ++ (cTx g (ad 1) tx ++ (cIs g (ad 2) is ++ (cWa g (ad 3) wa)))) ++ ((cSt g (ad 4) st ++ (cHi g (ad 5) (ad 6) hi)) ++ [])) _ := hP
    have hD8 : va_D A ((cRt ad ++ (cTx g (ad 1) tx ++ (cIs g (ad 2) is ++ (cWa g (ad 3) wa)))) ++ ((cSt g (ad 4) st ++ (cHi g (ad 5) (ad 6) hi)) ++ [])) := hD
    refine aft_f (st1 := []) rfl (cRt ad ++ (cTx g (ad 1) tx ++ (cIs g (ad 2) is ++ (cWa g (ad 3) wa)))) [] (runV (As := [.ref ((ad 4) 0)]) (rest := []) ⟨hx, hb, hml, hown, hts⟩ (kX0_save l g (ad 4) (ad 5) (ad 6) khi3) (cwV 1 hts gX5_add_X0_save rfl rfl rfl hdX0_save ⟨Nat.le_of_ble_eq_true rfl, Nat.le_of_ble_eq_true rfl⟩) hK hN hP8.right.left hD8.right.left (va_recv hK hP (ci := 0) (q0 := 20) rfl rfl) rfl hl.1 rfl (Nat.le_of_ble_eq_true rfl) dX5_add_29 ⟨Nat.zero_le _, Nat.zero_le _⟩) hP8 hD8 hS hA (fun H locs hP hD hS => ?_)
    have hP : va_P g.1 vwCl (cRt ad ++ (cTx g (ad 1) tx ++ (cIs g (ad 2) is ++ (cWa g (ad 3) wa ++ (cSt g (ad 4) st ++ (cHi g (ad 5) (ad 6) hi3)))))) H := hP
    have hD : va_D A (cRt ad ++ (cTx g (ad 1) tx ++ (cIs g (ad 2) is ++ (cWa g (ad 3) wa ++ (cSt g (ad 4) st ++ (cHi g (ad 5) (ad 6) hi3)))))) := hD
    refine lv_aload_n hx hb dX5_add_32 rfl (lv_at hl 0 rfl) ?_
    obtain ⟨r4, st5, kr4, h⟩ := bd2_ex h
    refine aft_w (st1 := [.int r4]) rfl (runV (As := []) (rest := []) ⟨hx, hb, hml, hown, hts⟩ (kX5_takeInWords l g ad kr4) (cwV 0 hts gX5_add_X5_takeInWords rfl rfl rfl hdX5_takeInWords ⟨Nat.le_of_ble_eq_true rfl, Nat.le_of_ble_eq_true rfl⟩) hK hN hP hD (va_recv hK hP (ci := 5) (q0 := 0) rfl rfl) rfl hl.1 rfl (Nat.le_of_ble_eq_true rfl) dX5_add_33 ⟨Nat.zero_le _, Nat.zero_le _⟩) hD hS hA (fun H locs hP hD hS => ?_)
    refine lv_istore_n (lv' := [(1, .int r4), (0, .ref ((ad 0) 0))]) hx hb dX5_add_36 rfl hl (by decide) rfl (fun ls hl => ?_)
    refine lv_aload_n hx hb dX5_add_37 rfl (lv_at hl 1 rfl) ?_
    refine va_get (D := g.1) (ci := 5) (v := .ref ((ad 1) 0)) (C := RX5) (T := TX5) (N := 5) hx hb hts hinX5 hown hK hP 0 rfl rfl 2 (by decide) (hts (.fieldLink RX5 26 "BarredRungs" "text" "LBarredRungs$Text;") (List.mem_of_getElem? (i := 3) rfl)) (fun _ h9 => h9) rfl dX5_add_38 ?_
    obtain ⟨tx6, ktx6, h⟩ := bd_ex h
    have hP8 : va_P g.1 vwCl ((cRt ad) ++ ((cTx g (ad 1) tx) ++ (cIs g (ad 2) is ++ (cWa g (ad 3) wa ++ (cSt g (ad 4) st5 ++ (cHi g (ad 5) (ad 6) hi3)))))) _ := hP
    have hD8 : va_D A ((cRt ad) ++ ((cTx g (ad 1) tx) ++ (cIs g (ad 2) is ++ (cWa g (ad 3) wa ++ (cSt g (ad 4) st5 ++ (cHi g (ad 5) (ad 6) hi3)))))) := hD
    refine aft_f (st1 := []) rfl (cRt ad) (cIs g (ad 2) is ++ (cWa g (ad 3) wa ++ (cSt g (ad 4) st5 ++ (cHi g (ad 5) (ad 6) hi3)))) (runV (As := []) (rest := []) ⟨hx, hb, hml, hown, hts⟩ (kX3_empty l g (ad 1) ktx6) (cwV 0 hts gX5_add_X3_empty rfl rfl rfl hdX3_empty ⟨Nat.le_of_ble_eq_true rfl, Nat.le_of_ble_eq_true rfl⟩) hK hN hP8.right.left hD8.right.left (va_recv hK hP (ci := 3) (q0 := 1) rfl rfl) rfl hl.1 rfl (Nat.le_of_ble_eq_true rfl) dX5_add_41 ⟨Nat.zero_le _, Nat.zero_le _⟩) hP8 hD8 hS hA (fun H locs hP hD hS => ?_)
    have hP : va_P g.1 vwCl (cRt ad ++ (cTx g (ad 1) tx6 ++ (cIs g (ad 2) is ++ (cWa g (ad 3) wa ++ (cSt g (ad 4) st5 ++ (cHi g (ad 5) (ad 6) hi3)))))) H := hP
    have hD : va_D A (cRt ad ++ (cTx g (ad 1) tx6 ++ (cIs g (ad 2) is ++ (cWa g (ad 3) wa ++ (cSt g (ad 4) st5 ++ (cHi g (ad 5) (ad 6) hi3)))))) := hD
    refine lv_iload_n hx hb dX5_add_44 rfl (lv_at hl 0 rfl) ?_
    cases h
  · have h := if_t c2 h
    exact hthrow _ _ _ _ 48 50 52 "the buffer is not complete words" hP hD hS hl.1 (by decide +kernel) (hts (.classLink RX5 48 "java/lang/IllegalArgumentException") (List.mem_of_getElem? (i := 1) rfl)) (hts (.initialized "java/lang/IllegalArgumentException") (List.mem_of_getElem? (i := 2) rfl)) (fun w h9 => hts w (List.mem_cons_of_mem _ (List.mem_append_right _ h9))) (by decide +kernel) (by decide +kernel) dX5_add_11 dX5_add_14 dX5_add_15 dX5_add_17 dX5_add_20
abbrev rtX5_append : Room := { frames := 6, cells := 1, slots := 6, locals := 90 }
set_option maxRecDepth 100000 in
set_option maxHeartbeats 8000000 in
theorem tX5_append_2 (l : Launch) (hst : l.stackTraces = false) (g : GG) (ad : Nat → Nat → Nat) {tx : Tx} {is : Is} {wa : Wa} {st : St} {hi : Hi} {p1 : Int32} (h : fX5_append tx is wa st hi p1 = some (.inl 2)) : CT l g yX5_append wsX5_append rtX5_append [.ref ((ad 0) 0), .int p1] (cRt ad ++ (cTx g (ad 1) tx ++ (cIs g (ad 2) is ++ (cWa g (ad 3) wa ++ (cSt g (ad 4) st ++ (cHi g (ad 5) (ad 6) hi)))))) "java/lang/IllegalArgumentException" := by
  refine CT_of hst (cc := cX5_append) (maxL := 2) (ret := (some .int)) (by decide +kernel) (by decide) (by decide) rfl rfl rfl (by decide +kernel) rfl (Nat.le_of_ble_eq_true rfl) ?_
  intro p e su m args below meth c A Q ls hx hb hml hown hts hK hN hA hnm hP hD hS hl hthrow
  have hinX5 : ∀ w ∈ u_ws RX5 TX5 5, w ∈ wsX5_append := fun _ h9 => List.mem_cons_of_mem _ (List.mem_append_left _ (List.mem_append_left _ (List.mem_append_left _ (List.mem_append_right _ h9))))
  have hinX3 : ∀ w ∈ u_ws RX3 TX3 2, w ∈ wsX5_append := fun _ h9 => List.mem_cons_of_mem _ (List.mem_append_left _ (List.mem_append_left _ (List.mem_append_right _ h9)))
  unfold fX5_append at h
  have hl : lv_has ls 2 [(0, .ref ((ad 0) 0)), (1, .int p1)] := hl
  refine lv_iload_n hx hb dX5_append_0 rfl (lv_at hl 1 rfl) ?_
  refine lv_bipush (v := 33) hx hb dX5_append_1 (by decide) ?_
  refine lv_icmp_lt (tgt := 12) hx hb dX5_append_3 (by decide) (fun c1 => ?_) (fun c1 => ?_)
  · have h := if_t c1 h
    exact hthrow _ _ _ _ 48 145 52 "the code is not 33 to 126" hP hD hS hl.1 (by decide +kernel) (hts (.classLink RX5 48 "java/lang/IllegalArgumentException") (List.mem_of_getElem? (i := 1) rfl)) (hts (.initialized "java/lang/IllegalArgumentException") (List.mem_of_getElem? (i := 2) rfl)) (fun w h9 => hts w (List.mem_cons_of_mem _ (List.mem_append_left _ (List.mem_append_right _ h9)))) (by decide +kernel) (by decide +kernel) dX5_append_12 dX5_append_15 dX5_append_16 dX5_append_18 dX5_append_21
  · have h := if_f c1 h
    refine lv_iload_n hx hb dX5_append_6 rfl (lv_at hl 1 rfl) ?_
    refine lv_bipush (v := 126) hx hb dX5_append_7 (by decide) ?_
    refine lv_icmp_le (tgt := 22) hx hb dX5_append_9 (by decide) (fun c2 => ?_) (fun c2 => ?_)
    · have h := if_t c2 h
      refine lv_aload_n hx hb dX5_append_22 rfl (lv_at hl 0 rfl) ?_
      refine va_get (D := g.1) (ci := 5) (v := .ref ((ad 1) 0)) (C := RX5) (T := TX5) (N := 5) hx hb hts hinX5 hown hK hP 0 rfl rfl 2 (by decide) (hts (.fieldLink RX5 26 "BarredRungs" "text" "LBarredRungs$Text;") (List.mem_of_getElem? (i := 5) rfl)) (fun _ h9 => h9) rfl dX5_append_23 ?_
      obtain ⟨r3, kr3, h⟩ := bd_ex h
      have hP8 : va_P g.1 vwCl ((cRt ad) ++ ((cTx g (ad 1) tx) ++ (cIs g (ad 2) is ++ (cWa g (ad 3) wa ++ (cSt g (ad 4) st ++ (cHi g (ad 5) (ad 6) hi)))))) _ := hP
      have hD8 : va_D A ((cRt ad) ++ ((cTx g (ad 1) tx) ++ (cIs g (ad 2) is ++ (cWa g (ad 3) wa ++ (cSt g (ad 4) st ++ (cHi g (ad 5) (ad 6) hi)))))) := hD
      refine aft_f (st1 := [.int r3]) rfl (cRt ad) (cIs g (ad 2) is ++ (cWa g (ad 3) wa ++ (cSt g (ad 4) st ++ (cHi g (ad 5) (ad 6) hi)))) (runV (As := []) (rest := []) ⟨hx, hb, hml, hown, hts⟩ (kX3_isFull l g (ad 1) kr3) (cwV 0 hts gX5_append_X3_isFull rfl rfl rfl hdX3_isFull ⟨Nat.le_of_ble_eq_true rfl, Nat.le_of_ble_eq_true rfl⟩) hK hN hP8.right.left hD8.right.left (va_recv hK hP (ci := 3) (q0 := 1) rfl rfl) rfl hl.1 rfl (Nat.le_of_ble_eq_true rfl) dX5_append_26 ⟨Nat.zero_le _, Nat.zero_le _⟩) hP8 hD8 hS hA (fun H locs hP hD hS => ?_)
      have hP : va_P g.1 vwCl (cRt ad ++ (cTx g (ad 1) tx ++ (cIs g (ad 2) is ++ (cWa g (ad 3) wa ++ (cSt g (ad 4) st ++ (cHi g (ad 5) (ad 6) hi)))))) H := hP
      have hD : va_D A (cRt ad ++ (cTx g (ad 1) tx ++ (cIs g (ad 2) is ++ (cWa g (ad 3) wa ++ (cSt g (ad 4) st ++ (cHi g (ad 5) (ad 6) hi)))))) := hD
      refine lv_if_eq (tgt := 42) hx hb dX5_append_29 (by decide) (fun c4 => ?_) (fun c4 => ?_)
      · have h := if_t c4 h
        refine lv_aload_n hx hb dX5_append_42 rfl (lv_at hl 0 rfl) ?_
        refine va_get (D := g.1) (ci := 5) (v := .ref ((ad 1) 0)) (C := RX5) (T := TX5) (N := 5) hx hb hts hinX5 hown hK hP 0 rfl rfl 2 (by decide) (hts (.fieldLink RX5 26 "BarredRungs" "text" "LBarredRungs$Text;") (List.mem_of_getElem? (i := 5) rfl)) (fun _ h9 => h9) rfl dX5_append_43 ?_
        refine lv_iload_n hx hb dX5_append_46 rfl (lv_at hl 1 rfl) ?_
        obtain ⟨tx5, ktx5, h⟩ := bd_ex h
        have hP8 : va_P g.1 vwCl ((cRt ad) ++ ((cTx g (ad 1) tx) ++ (cIs g (ad 2) is ++ (cWa g (ad 3) wa ++ (cSt g (ad 4) st ++ (cHi g (ad 5) (ad 6) hi)))))) _ := hP
        have hD8 : va_D A ((cRt ad) ++ ((cTx g (ad 1) tx) ++ (cIs g (ad 2) is ++ (cWa g (ad 3) wa ++ (cSt g (ad 4) st ++ (cHi g (ad 5) (ad 6) hi)))))) := hD
        refine aft_f (st1 := []) rfl (cRt ad) (cIs g (ad 2) is ++ (cWa g (ad 3) wa ++ (cSt g (ad 4) st ++ (cHi g (ad 5) (ad 6) hi)))) (runV (As := [.int p1]) (rest := []) ⟨hx, hb, hml, hown, hts⟩ (kX3_take l g (ad 1) ktx5) (cwV 1 hts gX5_append_X3_take rfl rfl rfl hdX3_take ⟨Nat.le_of_ble_eq_true rfl, Nat.le_of_ble_eq_true rfl⟩) hK hN hP8.right.left hD8.right.left (va_recv hK hP (ci := 3) (q0 := 1) rfl rfl) rfl hl.1 rfl (Nat.le_of_ble_eq_true rfl) dX5_append_47 ⟨Nat.zero_le _, Nat.zero_le _⟩) hP8 hD8 hS hA (fun H locs hP hD hS => ?_)
        have hP : va_P g.1 vwCl (cRt ad ++ (cTx g (ad 1) tx5 ++ (cIs g (ad 2) is ++ (cWa g (ad 3) wa ++ (cSt g (ad 4) st ++ (cHi g (ad 5) (ad 6) hi)))))) H := hP
        have hD : va_D A (cRt ad ++ (cTx g (ad 1) tx5 ++ (cIs g (ad 2) is ++ (cWa g (ad 3) wa ++ (cSt g (ad 4) st ++ (cHi g (ad 5) (ad 6) hi)))))) := hD
        refine lv_aload_n hx hb dX5_append_50 rfl (lv_at hl 0 rfl) ?_
        refine va_get (D := g.1) (ci := 5) (v := .ref ((ad 1) 0)) (C := RX5) (T := TX5) (N := 5) hx hb hts hinX5 hown hK hP 0 rfl rfl 2 (by decide) (hts (.fieldLink RX5 26 "BarredRungs" "text" "LBarredRungs$Text;") (List.mem_of_getElem? (i := 5) rfl)) (fun _ h9 => h9) rfl dX5_append_51 ?_
        refine va_get (D := g.1) (ci := 3) (v := .int (Tx_length tx5)) (C := RX3) (T := TX3) (N := 2) hx hb hts hinX3 hown hK hP 1 rfl rfl 1 (by decide) (hts (.fieldLink RX5 156 "BarredRungs$Text" "length" "I") (List.mem_of_getElem? (i := 6) rfl)) (fun _ h9 => h9) rfl dX5_append_54 ?_
        cases h
      · have h := if_f c4 h
        exact absurd (Sum.inl.inj (some_i h)) (by decide)
    · have h := if_f c2 h
      exact hthrow _ _ _ _ 48 145 52 "the code is not 33 to 126" hP hD hS hl.1 (by decide +kernel) (hts (.classLink RX5 48 "java/lang/IllegalArgumentException") (List.mem_of_getElem? (i := 1) rfl)) (hts (.initialized "java/lang/IllegalArgumentException") (List.mem_of_getElem? (i := 2) rfl)) (fun w h9 => hts w (List.mem_cons_of_mem _ (List.mem_append_left _ (List.mem_append_right _ h9)))) (by decide +kernel) (by decide +kernel) dX5_append_12 dX5_append_15 dX5_append_16 dX5_append_18 dX5_append_21
set_option maxRecDepth 100000 in
set_option maxHeartbeats 8000000 in
theorem tX5_append_3 (l : Launch) (hst : l.stackTraces = false) (g : GG) (ad : Nat → Nat → Nat) {tx : Tx} {is : Is} {wa : Wa} {st : St} {hi : Hi} {p1 : Int32} (h : fX5_append tx is wa st hi p1 = some (.inl 3)) : CT l g yX5_append wsX5_append rtX5_append [.ref ((ad 0) 0), .int p1] (cRt ad ++ (cTx g (ad 1) tx ++ (cIs g (ad 2) is ++ (cWa g (ad 3) wa ++ (cSt g (ad 4) st ++ (cHi g (ad 5) (ad 6) hi)))))) "java/lang/IllegalStateException" := by
  refine CT_of hst (cc := cX5_append) (maxL := 2) (ret := (some .int)) (by decide +kernel) (by decide) (by decide) rfl rfl rfl (by decide +kernel) rfl (Nat.le_of_ble_eq_true rfl) ?_
  intro p e su m args below meth c A Q ls hx hb hml hown hts hK hN hA hnm hP hD hS hl hthrow
  have hinX5 : ∀ w ∈ u_ws RX5 TX5 5, w ∈ wsX5_append := fun _ h9 => List.mem_cons_of_mem _ (List.mem_append_left _ (List.mem_append_left _ (List.mem_append_left _ (List.mem_append_right _ h9))))
  have hinX3 : ∀ w ∈ u_ws RX3 TX3 2, w ∈ wsX5_append := fun _ h9 => List.mem_cons_of_mem _ (List.mem_append_left _ (List.mem_append_left _ (List.mem_append_right _ h9)))
  unfold fX5_append at h
  have hl : lv_has ls 2 [(0, .ref ((ad 0) 0)), (1, .int p1)] := hl
  refine lv_iload_n hx hb dX5_append_0 rfl (lv_at hl 1 rfl) ?_
  refine lv_bipush (v := 33) hx hb dX5_append_1 (by decide) ?_
  refine lv_icmp_lt (tgt := 12) hx hb dX5_append_3 (by decide) (fun c1 => ?_) (fun c1 => ?_)
  · have h := if_t c1 h
    exact absurd (Sum.inl.inj (some_i h)) (by decide)
  · have h := if_f c1 h
    refine lv_iload_n hx hb dX5_append_6 rfl (lv_at hl 1 rfl) ?_
    refine lv_bipush (v := 126) hx hb dX5_append_7 (by decide) ?_
    refine lv_icmp_le (tgt := 22) hx hb dX5_append_9 (by decide) (fun c2 => ?_) (fun c2 => ?_)
    · have h := if_t c2 h
      refine lv_aload_n hx hb dX5_append_22 rfl (lv_at hl 0 rfl) ?_
      refine va_get (D := g.1) (ci := 5) (v := .ref ((ad 1) 0)) (C := RX5) (T := TX5) (N := 5) hx hb hts hinX5 hown hK hP 0 rfl rfl 2 (by decide) (hts (.fieldLink RX5 26 "BarredRungs" "text" "LBarredRungs$Text;") (List.mem_of_getElem? (i := 5) rfl)) (fun _ h9 => h9) rfl dX5_append_23 ?_
      obtain ⟨r3, kr3, h⟩ := bd_ex h
      have hP8 : va_P g.1 vwCl ((cRt ad) ++ ((cTx g (ad 1) tx) ++ (cIs g (ad 2) is ++ (cWa g (ad 3) wa ++ (cSt g (ad 4) st ++ (cHi g (ad 5) (ad 6) hi)))))) _ := hP
      have hD8 : va_D A ((cRt ad) ++ ((cTx g (ad 1) tx) ++ (cIs g (ad 2) is ++ (cWa g (ad 3) wa ++ (cSt g (ad 4) st ++ (cHi g (ad 5) (ad 6) hi)))))) := hD
      refine aft_f (st1 := [.int r3]) rfl (cRt ad) (cIs g (ad 2) is ++ (cWa g (ad 3) wa ++ (cSt g (ad 4) st ++ (cHi g (ad 5) (ad 6) hi)))) (runV (As := []) (rest := []) ⟨hx, hb, hml, hown, hts⟩ (kX3_isFull l g (ad 1) kr3) (cwV 0 hts gX5_append_X3_isFull rfl rfl rfl hdX3_isFull ⟨Nat.le_of_ble_eq_true rfl, Nat.le_of_ble_eq_true rfl⟩) hK hN hP8.right.left hD8.right.left (va_recv hK hP (ci := 3) (q0 := 1) rfl rfl) rfl hl.1 rfl (Nat.le_of_ble_eq_true rfl) dX5_append_26 ⟨Nat.zero_le _, Nat.zero_le _⟩) hP8 hD8 hS hA (fun H locs hP hD hS => ?_)
      have hP : va_P g.1 vwCl (cRt ad ++ (cTx g (ad 1) tx ++ (cIs g (ad 2) is ++ (cWa g (ad 3) wa ++ (cSt g (ad 4) st ++ (cHi g (ad 5) (ad 6) hi)))))) H := hP
      have hD : va_D A (cRt ad ++ (cTx g (ad 1) tx ++ (cIs g (ad 2) is ++ (cWa g (ad 3) wa ++ (cSt g (ad 4) st ++ (cHi g (ad 5) (ad 6) hi)))))) := hD
      refine lv_if_eq (tgt := 42) hx hb dX5_append_29 (by decide) (fun c4 => ?_) (fun c4 => ?_)
      · have h := if_t c4 h
        refine lv_aload_n hx hb dX5_append_42 rfl (lv_at hl 0 rfl) ?_
        refine va_get (D := g.1) (ci := 5) (v := .ref ((ad 1) 0)) (C := RX5) (T := TX5) (N := 5) hx hb hts hinX5 hown hK hP 0 rfl rfl 2 (by decide) (hts (.fieldLink RX5 26 "BarredRungs" "text" "LBarredRungs$Text;") (List.mem_of_getElem? (i := 5) rfl)) (fun _ h9 => h9) rfl dX5_append_43 ?_
        refine lv_iload_n hx hb dX5_append_46 rfl (lv_at hl 1 rfl) ?_
        obtain ⟨tx5, ktx5, h⟩ := bd_ex h
        have hP8 : va_P g.1 vwCl ((cRt ad) ++ ((cTx g (ad 1) tx) ++ (cIs g (ad 2) is ++ (cWa g (ad 3) wa ++ (cSt g (ad 4) st ++ (cHi g (ad 5) (ad 6) hi)))))) _ := hP
        have hD8 : va_D A ((cRt ad) ++ ((cTx g (ad 1) tx) ++ (cIs g (ad 2) is ++ (cWa g (ad 3) wa ++ (cSt g (ad 4) st ++ (cHi g (ad 5) (ad 6) hi)))))) := hD
        refine aft_f (st1 := []) rfl (cRt ad) (cIs g (ad 2) is ++ (cWa g (ad 3) wa ++ (cSt g (ad 4) st ++ (cHi g (ad 5) (ad 6) hi)))) (runV (As := [.int p1]) (rest := []) ⟨hx, hb, hml, hown, hts⟩ (kX3_take l g (ad 1) ktx5) (cwV 1 hts gX5_append_X3_take rfl rfl rfl hdX3_take ⟨Nat.le_of_ble_eq_true rfl, Nat.le_of_ble_eq_true rfl⟩) hK hN hP8.right.left hD8.right.left (va_recv hK hP (ci := 3) (q0 := 1) rfl rfl) rfl hl.1 rfl (Nat.le_of_ble_eq_true rfl) dX5_append_47 ⟨Nat.zero_le _, Nat.zero_le _⟩) hP8 hD8 hS hA (fun H locs hP hD hS => ?_)
        have hP : va_P g.1 vwCl (cRt ad ++ (cTx g (ad 1) tx5 ++ (cIs g (ad 2) is ++ (cWa g (ad 3) wa ++ (cSt g (ad 4) st ++ (cHi g (ad 5) (ad 6) hi)))))) H := hP
        have hD : va_D A (cRt ad ++ (cTx g (ad 1) tx5 ++ (cIs g (ad 2) is ++ (cWa g (ad 3) wa ++ (cSt g (ad 4) st ++ (cHi g (ad 5) (ad 6) hi)))))) := hD
        refine lv_aload_n hx hb dX5_append_50 rfl (lv_at hl 0 rfl) ?_
        refine va_get (D := g.1) (ci := 5) (v := .ref ((ad 1) 0)) (C := RX5) (T := TX5) (N := 5) hx hb hts hinX5 hown hK hP 0 rfl rfl 2 (by decide) (hts (.fieldLink RX5 26 "BarredRungs" "text" "LBarredRungs$Text;") (List.mem_of_getElem? (i := 5) rfl)) (fun _ h9 => h9) rfl dX5_append_51 ?_
        refine va_get (D := g.1) (ci := 3) (v := .int (Tx_length tx5)) (C := RX3) (T := TX3) (N := 2) hx hb hts hinX3 hown hK hP 1 rfl rfl 1 (by decide) (hts (.fieldLink RX5 156 "BarredRungs$Text" "length" "I") (List.mem_of_getElem? (i := 6) rfl)) (fun _ h9 => h9) rfl dX5_append_54 ?_
        cases h
      · have h := if_f c4 h
        exact hthrow _ _ _ _ 112 151 116 "the buffer is full" hP hD hS hl.1 (by decide +kernel) (hts (.classLink RX5 112 "java/lang/IllegalStateException") (List.mem_of_getElem? (i := 3) rfl)) (hts (.initialized "java/lang/IllegalStateException") (List.mem_of_getElem? (i := 4) rfl)) (fun w h9 => hts w (List.mem_cons_of_mem _ (List.mem_append_right _ h9))) (by decide +kernel) (by decide +kernel) dX5_append_32 dX5_append_35 dX5_append_36 dX5_append_38 dX5_append_41
    · have h := if_f c2 h
      exact absurd (Sum.inl.inj (some_i h)) (by decide)
abbrev rtX5_bar : Room := { frames := 6, cells := 1, slots := 6, locals := 102 }
set_option maxRecDepth 100000 in
set_option maxHeartbeats 8000000 in
theorem tX5_bar_1 (l : Launch) (hst : l.stackTraces = false) (g : GG) (ad : Nat → Nat → Nat) {tx : Tx} {is : Is} {wa : Wa} {st : St} {hi : Hi} {p1 : Int32} {p2 : Int32} (h : fX5_bar tx is wa st hi p1 p2 = some (.inl 1)) : CT l g yX5_bar wsX5_bar rtX5_bar [.ref ((ad 0) 0), .int p1, .int p2] (cRt ad ++ (cTx g (ad 1) tx ++ (cIs g (ad 2) is ++ (cWa g (ad 3) wa ++ (cSt g (ad 4) st ++ (cHi g (ad 5) (ad 6) hi)))))) "java/lang/IndexOutOfBoundsException" := by
  refine CT_of hst (cc := cX5_bar) (maxL := 4) (ret := (some .int)) (by decide +kernel) (by decide) (by decide) rfl rfl rfl (by decide +kernel) rfl (Nat.le_of_ble_eq_true rfl) ?_
  intro p e su m args below meth c A Q ls hx hb hml hown hts hK hN hA hnm hP hD hS hl hthrow
  have hinX5 : ∀ w ∈ u_ws RX5 TX5 5, w ∈ wsX5_bar := fun _ h9 => List.mem_cons_of_mem _ (List.mem_append_left _ (List.mem_append_left _ (List.mem_append_left _ (List.mem_append_left _ (List.mem_append_right _ h9)))))
  have hinX2 : ∀ w ∈ u_ws RX2 TX2 17, w ∈ wsX5_bar := fun _ h9 => List.mem_cons_of_mem _ (List.mem_append_left _ (List.mem_append_left _ (List.mem_append_left _ (List.mem_append_right _ h9))))
  have hinX0 : ∀ w ∈ u_ws RX0 TX0 4, w ∈ wsX5_bar := fun _ h9 => List.mem_cons_of_mem _ (List.mem_append_left _ (List.mem_append_left _ (List.mem_append_right _ h9)))
  unfold fX5_bar at h
  have hl : lv_has ls 4 [(0, .ref ((ad 0) 0)), (1, .int p1), (2, .int p2)] := hl
  refine lv_iload_n hx hb dX5_bar_0 rfl (lv_at hl 1 rfl) ?_
  refine lv_if_lt (tgt := 9) hx hb dX5_bar_1 (by decide) (fun c1 => ?_) (fun c1 => ?_)
  · have h := if_t c1 h
    exact hthrow _ _ _ _ 66 81 70 "no such place" hP hD hS hl.1 (by decide +kernel) (hts (.classLink RX5 66 "java/lang/IndexOutOfBoundsException") (List.mem_of_getElem? (i := 1) rfl)) (hts (.initialized "java/lang/IndexOutOfBoundsException") (List.mem_of_getElem? (i := 2) rfl)) (fun w h9 => hts w (List.mem_cons_of_mem _ (List.mem_append_left _ (List.mem_append_right _ h9)))) (by decide +kernel) (by decide +kernel) dX5_bar_9 dX5_bar_12 dX5_bar_13 dX5_bar_15 dX5_bar_18
  · have h := if_f c1 h
    refine lv_iload_n hx hb dX5_bar_4 rfl (lv_at hl 1 rfl) ?_
    refine lv_iconst (v := 4) hx hb dX5_bar_5 (by decide) ?_
    refine lv_icmp_lt (tgt := 19) hx hb dX5_bar_6 (by decide) (fun c2 => ?_) (fun c2 => ?_)
    · have h := if_t c2 h
      refine lv_iload_n hx hb dX5_bar_19 rfl (lv_at hl 2 rfl) ?_
      refine lv_if_lt (tgt := 29) hx hb dX5_bar_20 (by decide) (fun c3 => ?_) (fun c3 => ?_)
      · have h := if_t c3 h
        exact absurd (Sum.inl.inj (some_i h)) (by decide)
      · have h := if_f c3 h
        refine lv_iload_n hx hb dX5_bar_23 rfl (lv_at hl 2 rfl) ?_
        refine lv_bipush (v := 8) hx hb dX5_bar_24 (by decide) ?_
        refine lv_icmp_lt (tgt := 39) hx hb dX5_bar_26 (by decide) (fun c4 => ?_) (fun c4 => ?_)
        · have h := if_t c4 h
          refine lv_aload_n hx hb dX5_bar_39 rfl (lv_at hl 0 rfl) ?_
          refine va_get (D := g.1) (ci := 5) (v := .ref ((ad 5) 0)) (C := RX5) (T := TX5) (N := 5) hx hb hts hinX5 hown hK hP 0 rfl rfl 1 (by decide) (hts (.fieldLink RX5 19 "BarredRungs" "history" "LBarredRungs$History;") (List.mem_of_getElem? (i := 5) rfl)) (fun _ h9 => h9) rfl dX5_bar_40 ?_
          refine lv_aload_n hx hb dX5_bar_43 rfl (lv_at hl 0 rfl) ?_
          refine va_get (D := g.1) (ci := 5) (v := .ref ((ad 4) 0)) (C := RX5) (T := TX5) (N := 5) hx hb hts hinX5 hown hK hP 0 rfl rfl 0 (by decide) (hts (.fieldLink RX5 12 "BarredRungs" "now" "LBarredRungs$State;") (List.mem_of_getElem? (i := 6) rfl)) (fun _ h9 => h9) rfl dX5_bar_44 ?_
          obtain ⟨hi5, khi5, h⟩ := bd_ex h
          have hP8 : va_P g.1 vwCl ((cRt ad ++ (cTx g (ad 1) tx ++ (cIs g (ad 2) is ++ (cWa g (ad 3) wa)))) ++ ((cSt g (ad 4) st ++ (cHi g (ad 5) (ad 6) hi)) ++ [])) _ := hP
          have hD8 : va_D A ((cRt ad ++ (cTx g (ad 1) tx ++ (cIs g (ad 2) is ++ (cWa g (ad 3) wa)))) ++ ((cSt g (ad 4) st ++ (cHi g (ad 5) (ad 6) hi)) ++ [])) := hD
          refine aft_f (st1 := []) rfl (cRt ad ++ (cTx g (ad 1) tx ++ (cIs g (ad 2) is ++ (cWa g (ad 3) wa)))) [] (runV (As := [.ref ((ad 4) 0)]) (rest := []) ⟨hx, hb, hml, hown, hts⟩ (kX0_save l g (ad 4) (ad 5) (ad 6) khi5) (cwV 1 hts gX5_bar_X0_save rfl rfl rfl hdX0_save ⟨Nat.le_of_ble_eq_true rfl, Nat.le_of_ble_eq_true rfl⟩) hK hN hP8.right.left hD8.right.left (va_recv hK hP (ci := 0) (q0 := 20) rfl rfl) rfl hl.1 rfl (Nat.le_of_ble_eq_true rfl) dX5_bar_47 ⟨Nat.zero_le _, Nat.zero_le _⟩) hP8 hD8 hS hA (fun H locs hP hD hS => ?_)
          have hP : va_P g.1 vwCl (cRt ad ++ (cTx g (ad 1) tx ++ (cIs g (ad 2) is ++ (cWa g (ad 3) wa ++ (cSt g (ad 4) st ++ (cHi g (ad 5) (ad 6) hi5)))))) H := hP
          have hD : va_D A (cRt ad ++ (cTx g (ad 1) tx ++ (cIs g (ad 2) is ++ (cWa g (ad 3) wa ++ (cSt g (ad 4) st ++ (cHi g (ad 5) (ad 6) hi5)))))) := hD
          refine lv_bipush (v := 8) hx hb dX5_bar_50 (by decide) ?_
          refine lv_aload_n hx hb dX5_bar_52 rfl (lv_at hl 0 rfl) ?_
          refine va_get (D := g.1) (ci := 5) (v := .ref ((ad 4) 0)) (C := RX5) (T := TX5) (N := 5) hx hb hts hinX5 hown hK hP 0 rfl rfl 0 (by decide) (hts (.fieldLink RX5 12 "BarredRungs" "now" "LBarredRungs$State;") (List.mem_of_getElem? (i := 6) rfl)) (fun _ h9 => h9) rfl dX5_bar_53 ?_
          refine va_get (D := g.1) (ci := 2) (v := .int (St_place st)) (C := RX2) (T := TX2) (N := 17) hx hb hts hinX2 hown hK hP 10 rfl rfl 10 (by decide) (hts (.fieldLink RX5 85 "BarredRungs$State" "place" "I") (List.mem_of_getElem? (i := 7) rfl)) (fun _ h9 => h9) rfl dX5_bar_56 ?_
          refine lv_imul hx hb dX5_bar_59 ?_
          refine lv_aload_n hx hb dX5_bar_60 rfl (lv_at hl 0 rfl) ?_
          refine va_get (D := g.1) (ci := 5) (v := .ref ((ad 4) 0)) (C := RX5) (T := TX5) (N := 5) hx hb hts hinX5 hown hK hP 0 rfl rfl 0 (by decide) (hts (.fieldLink RX5 12 "BarredRungs" "now" "LBarredRungs$State;") (List.mem_of_getElem? (i := 6) rfl)) (fun _ h9 => h9) rfl dX5_bar_61 ?_
          refine va_get (D := g.1) (ci := 2) (v := .int (St_letter st)) (C := RX2) (T := TX2) (N := 17) hx hb hts hinX2 hown hK hP 10 rfl rfl 11 (by decide) (hts (.fieldLink RX5 89 "BarredRungs$State" "letter" "I") (List.mem_of_getElem? (i := 8) rfl)) (fun _ h9 => h9) rfl dX5_bar_64 ?_
          refine lv_iadd hx hb dX5_bar_67 ?_
          obtain ⟨x6, ex6, h⟩ := pl_ex h
          refine lv_eqi ex6 ?_
          refine lv_istore_n (lv' := [(3, .int x6), (0, .ref ((ad 0) 0)), (1, .int p1), (2, .int p2)]) hx hb dX5_bar_68 rfl hl (by decide) rfl (fun ls hl => ?_)
          refine lv_aload_n hx hb dX5_bar_69 rfl (lv_at hl 1 rfl) ?_
          refine va_get (D := g.1) (ci := 5) (v := .ref ((ad 4) 0)) (C := RX5) (T := TX5) (N := 5) hx hb hts hinX5 hown hK hP 0 rfl rfl 0 (by decide) (hts (.fieldLink RX5 12 "BarredRungs" "now" "LBarredRungs$State;") (List.mem_of_getElem? (i := 6) rfl)) (fun _ h9 => h9) rfl dX5_bar_70 ?_
          refine lv_iload_n hx hb dX5_bar_73 rfl (lv_at hl 2 rfl) ?_
          obtain ⟨st7, est7, h⟩ := pl_ex h
          refine va_put (D := g.1) (ci := 2) (v := .int p1) (ty := .int) (C := RX2) (T := TX2) (N := 17) hx hb hts hinX2 tyX2 tyX2_ok nmX2 hown hK hP hD hS 10 rfl rfl 10 (by decide) (hts (.fieldLink RX5 85 "BarredRungs$State" "place" "I") (List.mem_of_getElem? (i := 7) rfl)) (fun _ h9 => h9) rfl (by decide +kernel) rfl rfl (Nat.le_of_ble_eq_true rfl) dX5_bar_74 (fun H locs hP hD hS => ?_)
          have hP : va_P g.1 vwCl (cRt ad ++ (cTx g (ad 1) tx ++ (cIs g (ad 2) is ++ (cWa g (ad 3) wa ++ (cSt g (ad 4) st7 ++ (cHi g (ad 5) (ad 6) hi5)))))) H := by rw [← est7]; exact hP
          have hD : va_D A (cRt ad ++ (cTx g (ad 1) tx ++ (cIs g (ad 2) is ++ (cWa g (ad 3) wa ++ (cSt g (ad 4) st7 ++ (cHi g (ad 5) (ad 6) hi5)))))) := by rw [← est7]; exact hD
          refine lv_aload_n hx hb dX5_bar_77 rfl (lv_at hl 1 rfl) ?_
          refine va_get (D := g.1) (ci := 5) (v := .ref ((ad 4) 0)) (C := RX5) (T := TX5) (N := 5) hx hb hts hinX5 hown hK hP 0 rfl rfl 0 (by decide) (hts (.fieldLink RX5 12 "BarredRungs" "now" "LBarredRungs$State;") (List.mem_of_getElem? (i := 6) rfl)) (fun _ h9 => h9) rfl dX5_bar_78 ?_
          refine lv_iload_n hx hb dX5_bar_81 rfl (lv_at hl 3 rfl) ?_
          obtain ⟨st8, est8, h⟩ := pl_ex h
          refine va_put (D := g.1) (ci := 2) (v := .int p2) (ty := .int) (C := RX2) (T := TX2) (N := 17) hx hb hts hinX2 tyX2 tyX2_ok nmX2 hown hK hP hD hS 10 rfl rfl 11 (by decide) (hts (.fieldLink RX5 89 "BarredRungs$State" "letter" "I") (List.mem_of_getElem? (i := 8) rfl)) (fun _ h9 => h9) rfl (by decide +kernel) rfl rfl (Nat.le_of_ble_eq_true rfl) dX5_bar_82 (fun H locs hP hD hS => ?_)
          have hP : va_P g.1 vwCl (cRt ad ++ (cTx g (ad 1) tx ++ (cIs g (ad 2) is ++ (cWa g (ad 3) wa ++ (cSt g (ad 4) st8 ++ (cHi g (ad 5) (ad 6) hi5)))))) H := by rw [← est8]; exact hP
          have hD : va_D A (cRt ad ++ (cTx g (ad 1) tx ++ (cIs g (ad 2) is ++ (cWa g (ad 3) wa ++ (cSt g (ad 4) st8 ++ (cHi g (ad 5) (ad 6) hi5)))))) := by rw [← est8]; exact hD
          refine lv_iload_n hx hb dX5_bar_85 rfl (lv_at hl 0 rfl) ?_
          cases h
        · have h := if_f c4 h
          exact absurd (Sum.inl.inj (some_i h)) (by decide)
    · have h := if_f c2 h
      exact hthrow _ _ _ _ 66 81 70 "no such place" hP hD hS hl.1 (by decide +kernel) (hts (.classLink RX5 66 "java/lang/IndexOutOfBoundsException") (List.mem_of_getElem? (i := 1) rfl)) (hts (.initialized "java/lang/IndexOutOfBoundsException") (List.mem_of_getElem? (i := 2) rfl)) (fun w h9 => hts w (List.mem_cons_of_mem _ (List.mem_append_left _ (List.mem_append_right _ h9)))) (by decide +kernel) (by decide +kernel) dX5_bar_9 dX5_bar_12 dX5_bar_13 dX5_bar_15 dX5_bar_18
set_option maxRecDepth 100000 in
set_option maxHeartbeats 8000000 in
theorem tX5_bar_2 (l : Launch) (hst : l.stackTraces = false) (g : GG) (ad : Nat → Nat → Nat) {tx : Tx} {is : Is} {wa : Wa} {st : St} {hi : Hi} {p1 : Int32} {p2 : Int32} (h : fX5_bar tx is wa st hi p1 p2 = some (.inl 2)) : CT l g yX5_bar wsX5_bar rtX5_bar [.ref ((ad 0) 0), .int p1, .int p2] (cRt ad ++ (cTx g (ad 1) tx ++ (cIs g (ad 2) is ++ (cWa g (ad 3) wa ++ (cSt g (ad 4) st ++ (cHi g (ad 5) (ad 6) hi)))))) "java/lang/IllegalArgumentException" := by
  refine CT_of hst (cc := cX5_bar) (maxL := 4) (ret := (some .int)) (by decide +kernel) (by decide) (by decide) rfl rfl rfl (by decide +kernel) rfl (Nat.le_of_ble_eq_true rfl) ?_
  intro p e su m args below meth c A Q ls hx hb hml hown hts hK hN hA hnm hP hD hS hl hthrow
  have hinX5 : ∀ w ∈ u_ws RX5 TX5 5, w ∈ wsX5_bar := fun _ h9 => List.mem_cons_of_mem _ (List.mem_append_left _ (List.mem_append_left _ (List.mem_append_left _ (List.mem_append_left _ (List.mem_append_right _ h9)))))
  have hinX2 : ∀ w ∈ u_ws RX2 TX2 17, w ∈ wsX5_bar := fun _ h9 => List.mem_cons_of_mem _ (List.mem_append_left _ (List.mem_append_left _ (List.mem_append_left _ (List.mem_append_right _ h9))))
  have hinX0 : ∀ w ∈ u_ws RX0 TX0 4, w ∈ wsX5_bar := fun _ h9 => List.mem_cons_of_mem _ (List.mem_append_left _ (List.mem_append_left _ (List.mem_append_right _ h9)))
  unfold fX5_bar at h
  have hl : lv_has ls 4 [(0, .ref ((ad 0) 0)), (1, .int p1), (2, .int p2)] := hl
  refine lv_iload_n hx hb dX5_bar_0 rfl (lv_at hl 1 rfl) ?_
  refine lv_if_lt (tgt := 9) hx hb dX5_bar_1 (by decide) (fun c1 => ?_) (fun c1 => ?_)
  · have h := if_t c1 h
    exact absurd (Sum.inl.inj (some_i h)) (by decide)
  · have h := if_f c1 h
    refine lv_iload_n hx hb dX5_bar_4 rfl (lv_at hl 1 rfl) ?_
    refine lv_iconst (v := 4) hx hb dX5_bar_5 (by decide) ?_
    refine lv_icmp_lt (tgt := 19) hx hb dX5_bar_6 (by decide) (fun c2 => ?_) (fun c2 => ?_)
    · have h := if_t c2 h
      refine lv_iload_n hx hb dX5_bar_19 rfl (lv_at hl 2 rfl) ?_
      refine lv_if_lt (tgt := 29) hx hb dX5_bar_20 (by decide) (fun c3 => ?_) (fun c3 => ?_)
      · have h := if_t c3 h
        exact hthrow _ _ _ _ 48 83 52 "the letter is not 0 to 7" hP hD hS hl.1 (by decide +kernel) (hts (.classLink RX5 48 "java/lang/IllegalArgumentException") (List.mem_of_getElem? (i := 3) rfl)) (hts (.initialized "java/lang/IllegalArgumentException") (List.mem_of_getElem? (i := 4) rfl)) (fun w h9 => hts w (List.mem_cons_of_mem _ (List.mem_append_right _ h9))) (by decide +kernel) (by decide +kernel) dX5_bar_29 dX5_bar_32 dX5_bar_33 dX5_bar_35 dX5_bar_38
      · have h := if_f c3 h
        refine lv_iload_n hx hb dX5_bar_23 rfl (lv_at hl 2 rfl) ?_
        refine lv_bipush (v := 8) hx hb dX5_bar_24 (by decide) ?_
        refine lv_icmp_lt (tgt := 39) hx hb dX5_bar_26 (by decide) (fun c4 => ?_) (fun c4 => ?_)
        · have h := if_t c4 h
          refine lv_aload_n hx hb dX5_bar_39 rfl (lv_at hl 0 rfl) ?_
          refine va_get (D := g.1) (ci := 5) (v := .ref ((ad 5) 0)) (C := RX5) (T := TX5) (N := 5) hx hb hts hinX5 hown hK hP 0 rfl rfl 1 (by decide) (hts (.fieldLink RX5 19 "BarredRungs" "history" "LBarredRungs$History;") (List.mem_of_getElem? (i := 5) rfl)) (fun _ h9 => h9) rfl dX5_bar_40 ?_
          refine lv_aload_n hx hb dX5_bar_43 rfl (lv_at hl 0 rfl) ?_
          refine va_get (D := g.1) (ci := 5) (v := .ref ((ad 4) 0)) (C := RX5) (T := TX5) (N := 5) hx hb hts hinX5 hown hK hP 0 rfl rfl 0 (by decide) (hts (.fieldLink RX5 12 "BarredRungs" "now" "LBarredRungs$State;") (List.mem_of_getElem? (i := 6) rfl)) (fun _ h9 => h9) rfl dX5_bar_44 ?_
          obtain ⟨hi5, khi5, h⟩ := bd_ex h
          have hP8 : va_P g.1 vwCl ((cRt ad ++ (cTx g (ad 1) tx ++ (cIs g (ad 2) is ++ (cWa g (ad 3) wa)))) ++ ((cSt g (ad 4) st ++ (cHi g (ad 5) (ad 6) hi)) ++ [])) _ := hP
          have hD8 : va_D A ((cRt ad ++ (cTx g (ad 1) tx ++ (cIs g (ad 2) is ++ (cWa g (ad 3) wa)))) ++ ((cSt g (ad 4) st ++ (cHi g (ad 5) (ad 6) hi)) ++ [])) := hD
          refine aft_f (st1 := []) rfl (cRt ad ++ (cTx g (ad 1) tx ++ (cIs g (ad 2) is ++ (cWa g (ad 3) wa)))) [] (runV (As := [.ref ((ad 4) 0)]) (rest := []) ⟨hx, hb, hml, hown, hts⟩ (kX0_save l g (ad 4) (ad 5) (ad 6) khi5) (cwV 1 hts gX5_bar_X0_save rfl rfl rfl hdX0_save ⟨Nat.le_of_ble_eq_true rfl, Nat.le_of_ble_eq_true rfl⟩) hK hN hP8.right.left hD8.right.left (va_recv hK hP (ci := 0) (q0 := 20) rfl rfl) rfl hl.1 rfl (Nat.le_of_ble_eq_true rfl) dX5_bar_47 ⟨Nat.zero_le _, Nat.zero_le _⟩) hP8 hD8 hS hA (fun H locs hP hD hS => ?_)
          have hP : va_P g.1 vwCl (cRt ad ++ (cTx g (ad 1) tx ++ (cIs g (ad 2) is ++ (cWa g (ad 3) wa ++ (cSt g (ad 4) st ++ (cHi g (ad 5) (ad 6) hi5)))))) H := hP
          have hD : va_D A (cRt ad ++ (cTx g (ad 1) tx ++ (cIs g (ad 2) is ++ (cWa g (ad 3) wa ++ (cSt g (ad 4) st ++ (cHi g (ad 5) (ad 6) hi5)))))) := hD
          refine lv_bipush (v := 8) hx hb dX5_bar_50 (by decide) ?_
          refine lv_aload_n hx hb dX5_bar_52 rfl (lv_at hl 0 rfl) ?_
          refine va_get (D := g.1) (ci := 5) (v := .ref ((ad 4) 0)) (C := RX5) (T := TX5) (N := 5) hx hb hts hinX5 hown hK hP 0 rfl rfl 0 (by decide) (hts (.fieldLink RX5 12 "BarredRungs" "now" "LBarredRungs$State;") (List.mem_of_getElem? (i := 6) rfl)) (fun _ h9 => h9) rfl dX5_bar_53 ?_
          refine va_get (D := g.1) (ci := 2) (v := .int (St_place st)) (C := RX2) (T := TX2) (N := 17) hx hb hts hinX2 hown hK hP 10 rfl rfl 10 (by decide) (hts (.fieldLink RX5 85 "BarredRungs$State" "place" "I") (List.mem_of_getElem? (i := 7) rfl)) (fun _ h9 => h9) rfl dX5_bar_56 ?_
          refine lv_imul hx hb dX5_bar_59 ?_
          refine lv_aload_n hx hb dX5_bar_60 rfl (lv_at hl 0 rfl) ?_
          refine va_get (D := g.1) (ci := 5) (v := .ref ((ad 4) 0)) (C := RX5) (T := TX5) (N := 5) hx hb hts hinX5 hown hK hP 0 rfl rfl 0 (by decide) (hts (.fieldLink RX5 12 "BarredRungs" "now" "LBarredRungs$State;") (List.mem_of_getElem? (i := 6) rfl)) (fun _ h9 => h9) rfl dX5_bar_61 ?_
          refine va_get (D := g.1) (ci := 2) (v := .int (St_letter st)) (C := RX2) (T := TX2) (N := 17) hx hb hts hinX2 hown hK hP 10 rfl rfl 11 (by decide) (hts (.fieldLink RX5 89 "BarredRungs$State" "letter" "I") (List.mem_of_getElem? (i := 8) rfl)) (fun _ h9 => h9) rfl dX5_bar_64 ?_
          refine lv_iadd hx hb dX5_bar_67 ?_
          obtain ⟨x6, ex6, h⟩ := pl_ex h
          refine lv_eqi ex6 ?_
          refine lv_istore_n (lv' := [(3, .int x6), (0, .ref ((ad 0) 0)), (1, .int p1), (2, .int p2)]) hx hb dX5_bar_68 rfl hl (by decide) rfl (fun ls hl => ?_)
          refine lv_aload_n hx hb dX5_bar_69 rfl (lv_at hl 1 rfl) ?_
          refine va_get (D := g.1) (ci := 5) (v := .ref ((ad 4) 0)) (C := RX5) (T := TX5) (N := 5) hx hb hts hinX5 hown hK hP 0 rfl rfl 0 (by decide) (hts (.fieldLink RX5 12 "BarredRungs" "now" "LBarredRungs$State;") (List.mem_of_getElem? (i := 6) rfl)) (fun _ h9 => h9) rfl dX5_bar_70 ?_
          refine lv_iload_n hx hb dX5_bar_73 rfl (lv_at hl 2 rfl) ?_
          obtain ⟨st7, est7, h⟩ := pl_ex h
          refine va_put (D := g.1) (ci := 2) (v := .int p1) (ty := .int) (C := RX2) (T := TX2) (N := 17) hx hb hts hinX2 tyX2 tyX2_ok nmX2 hown hK hP hD hS 10 rfl rfl 10 (by decide) (hts (.fieldLink RX5 85 "BarredRungs$State" "place" "I") (List.mem_of_getElem? (i := 7) rfl)) (fun _ h9 => h9) rfl (by decide +kernel) rfl rfl (Nat.le_of_ble_eq_true rfl) dX5_bar_74 (fun H locs hP hD hS => ?_)
          have hP : va_P g.1 vwCl (cRt ad ++ (cTx g (ad 1) tx ++ (cIs g (ad 2) is ++ (cWa g (ad 3) wa ++ (cSt g (ad 4) st7 ++ (cHi g (ad 5) (ad 6) hi5)))))) H := by rw [← est7]; exact hP
          have hD : va_D A (cRt ad ++ (cTx g (ad 1) tx ++ (cIs g (ad 2) is ++ (cWa g (ad 3) wa ++ (cSt g (ad 4) st7 ++ (cHi g (ad 5) (ad 6) hi5)))))) := by rw [← est7]; exact hD
          refine lv_aload_n hx hb dX5_bar_77 rfl (lv_at hl 1 rfl) ?_
          refine va_get (D := g.1) (ci := 5) (v := .ref ((ad 4) 0)) (C := RX5) (T := TX5) (N := 5) hx hb hts hinX5 hown hK hP 0 rfl rfl 0 (by decide) (hts (.fieldLink RX5 12 "BarredRungs" "now" "LBarredRungs$State;") (List.mem_of_getElem? (i := 6) rfl)) (fun _ h9 => h9) rfl dX5_bar_78 ?_
          refine lv_iload_n hx hb dX5_bar_81 rfl (lv_at hl 3 rfl) ?_
          obtain ⟨st8, est8, h⟩ := pl_ex h
          refine va_put (D := g.1) (ci := 2) (v := .int p2) (ty := .int) (C := RX2) (T := TX2) (N := 17) hx hb hts hinX2 tyX2 tyX2_ok nmX2 hown hK hP hD hS 10 rfl rfl 11 (by decide) (hts (.fieldLink RX5 89 "BarredRungs$State" "letter" "I") (List.mem_of_getElem? (i := 8) rfl)) (fun _ h9 => h9) rfl (by decide +kernel) rfl rfl (Nat.le_of_ble_eq_true rfl) dX5_bar_82 (fun H locs hP hD hS => ?_)
          have hP : va_P g.1 vwCl (cRt ad ++ (cTx g (ad 1) tx ++ (cIs g (ad 2) is ++ (cWa g (ad 3) wa ++ (cSt g (ad 4) st8 ++ (cHi g (ad 5) (ad 6) hi5)))))) H := by rw [← est8]; exact hP
          have hD : va_D A (cRt ad ++ (cTx g (ad 1) tx ++ (cIs g (ad 2) is ++ (cWa g (ad 3) wa ++ (cSt g (ad 4) st8 ++ (cHi g (ad 5) (ad 6) hi5)))))) := by rw [← est8]; exact hD
          refine lv_iload_n hx hb dX5_bar_85 rfl (lv_at hl 0 rfl) ?_
          cases h
        · have h := if_f c4 h
          exact hthrow _ _ _ _ 48 83 52 "the letter is not 0 to 7" hP hD hS hl.1 (by decide +kernel) (hts (.classLink RX5 48 "java/lang/IllegalArgumentException") (List.mem_of_getElem? (i := 3) rfl)) (hts (.initialized "java/lang/IllegalArgumentException") (List.mem_of_getElem? (i := 4) rfl)) (fun w h9 => hts w (List.mem_cons_of_mem _ (List.mem_append_right _ h9))) (by decide +kernel) (by decide +kernel) dX5_bar_29 dX5_bar_32 dX5_bar_33 dX5_bar_35 dX5_bar_38
    · have h := if_f c2 h
      exact absurd (Sum.inl.inj (some_i h)) (by decide)
abbrev rtX5_climb : Room := { frames := 6, cells := 1, slots := 6, locals := 102 }
set_option maxRecDepth 100000 in
set_option maxHeartbeats 8000000 in
theorem tX5_climb_1 (l : Launch) (hst : l.stackTraces = false) (g : GG) (ad : Nat → Nat → Nat) {tx : Tx} {is : Is} {wa : Wa} {st : St} {hi : Hi} {p1 : Int32} {p2 : Int32} (h : fX5_climb tx is wa st hi p1 p2 = some (.inl 1)) : CT l g yX5_climb wsX5_climb rtX5_climb [.ref ((ad 0) 0), .int p1, .int p2] (cRt ad ++ (cTx g (ad 1) tx ++ (cIs g (ad 2) is ++ (cWa g (ad 3) wa ++ (cSt g (ad 4) st ++ (cHi g (ad 5) (ad 6) hi)))))) "java/lang/IndexOutOfBoundsException" := by
  refine CT_of hst (cc := cX5_climb) (maxL := 3) (ret := (some .int)) (by decide +kernel) (by decide) (by decide) rfl rfl rfl (by decide +kernel) rfl (Nat.le_of_ble_eq_true rfl) ?_
  intro p e su m args below meth c A Q ls hx hb hml hown hts hK hN hA hnm hP hD hS hl hthrow
  have hinX5 : ∀ w ∈ u_ws RX5 TX5 5, w ∈ wsX5_climb := fun _ h9 => List.mem_cons_of_mem _ (List.mem_append_left _ (List.mem_append_left _ (List.mem_append_left _ (List.mem_append_left _ (List.mem_append_right _ h9)))))
  have hinX2 : ∀ w ∈ u_ws RX2 TX2 17, w ∈ wsX5_climb := fun _ h9 => List.mem_cons_of_mem _ (List.mem_append_left _ (List.mem_append_left _ (List.mem_append_left _ (List.mem_append_right _ h9))))
  have hinX0 : ∀ w ∈ u_ws RX0 TX0 4, w ∈ wsX5_climb := fun _ h9 => List.mem_cons_of_mem _ (List.mem_append_left _ (List.mem_append_left _ (List.mem_append_right _ h9)))
  unfold fX5_climb at h
  have hl : lv_has ls 3 [(0, .ref ((ad 0) 0)), (1, .int p1), (2, .int p2)] := hl
  refine lv_iload_n hx hb dX5_climb_0 rfl (lv_at hl 1 rfl) ?_
  obtain ⟨r1, kr1, h⟩ := bd_ex h
  refine aft_e (st1 := [.int r1]) rfl (runS (As := [.int p1]) (rest := []) ⟨hx, hb, hml, hown, hts⟩ (kX5_isClimber l g kr1) (va_cwS 1 hts gX5_climb_X5_isClimber rfl rfl rfl hdX5_isClimber.2 ⟨Nat.le_of_ble_eq_true rfl, Nat.le_of_ble_eq_true rfl⟩) hK hN nilP (nilD (A := A)) rfl hl.1 rfl (Nat.le_of_ble_eq_true rfl) dX5_climb_1 ⟨Nat.zero_le _, Nat.zero_le _⟩) hP hS hA (fun H locs hP hS => ?_)
  refine lv_if_eq (tgt := 18) hx hb dX5_climb_4 (by decide) (fun c2 => ?_) (fun c2 => ?_)
  · have h := if_t c2 h
    exact hthrow _ _ _ _ 66 98 70 "no such climber or word" hP hD hS hl.1 (by decide +kernel) (hts (.classLink RX5 66 "java/lang/IndexOutOfBoundsException") (List.mem_of_getElem? (i := 1) rfl)) (hts (.initialized "java/lang/IndexOutOfBoundsException") (List.mem_of_getElem? (i := 2) rfl)) (fun w h9 => hts w (List.mem_cons_of_mem _ (List.mem_append_left _ (List.mem_append_right _ h9)))) (by decide +kernel) (by decide +kernel) dX5_climb_18 dX5_climb_21 dX5_climb_22 dX5_climb_24 dX5_climb_27
  · have h := if_f c2 h
    refine lv_aload_n hx hb dX5_climb_7 rfl (lv_at hl 0 rfl) ?_
    refine va_get (D := g.1) (ci := 5) (v := .ref ((ad 4) 0)) (C := RX5) (T := TX5) (N := 5) hx hb hts hinX5 hown hK hP 0 rfl rfl 0 (by decide) (hts (.fieldLink RX5 12 "BarredRungs" "now" "LBarredRungs$State;") (List.mem_of_getElem? (i := 5) rfl)) (fun _ h9 => h9) rfl dX5_climb_8 ?_
    refine lv_iload_n hx hb dX5_climb_11 rfl (lv_at hl 2 rfl) ?_
    obtain ⟨r3, kr3, h⟩ := bd_ex h
    have hP8 : va_P g.1 vwCl ((cRt ad ++ (cTx g (ad 1) tx ++ (cIs g (ad 2) is ++ (cWa g (ad 3) wa)))) ++ ((cSt g (ad 4) st) ++ (cHi g (ad 5) (ad 6) hi))) _ := hP
    have hD8 : va_D A ((cRt ad ++ (cTx g (ad 1) tx ++ (cIs g (ad 2) is ++ (cWa g (ad 3) wa)))) ++ ((cSt g (ad 4) st) ++ (cHi g (ad 5) (ad 6) hi))) := hD
    refine aft_f (st1 := [.int r3]) rfl (cRt ad ++ (cTx g (ad 1) tx ++ (cIs g (ad 2) is ++ (cWa g (ad 3) wa)))) (cHi g (ad 5) (ad 6) hi) (runV (As := [.int p2]) (rest := []) ⟨hx, hb, hml, hown, hts⟩ (kX2_hasWord l g (ad 4) kr3) (cwV 1 hts gX5_climb_X2_hasWord rfl rfl rfl hdX2_hasWord ⟨Nat.le_of_ble_eq_true rfl, Nat.le_of_ble_eq_true rfl⟩) hK hN hP8.right.left hD8.right.left (va_recv hK hP (ci := 2) (q0 := 10) rfl rfl) rfl hl.1 rfl (Nat.le_of_ble_eq_true rfl) dX5_climb_12 ⟨Nat.zero_le _, Nat.zero_le _⟩) hP8 hD8 hS hA (fun H locs hP hD hS => ?_)
    have hP : va_P g.1 vwCl (cRt ad ++ (cTx g (ad 1) tx ++ (cIs g (ad 2) is ++ (cWa g (ad 3) wa ++ (cSt g (ad 4) st ++ (cHi g (ad 5) (ad 6) hi)))))) H := hP
    have hD : va_D A (cRt ad ++ (cTx g (ad 1) tx ++ (cIs g (ad 2) is ++ (cWa g (ad 3) wa ++ (cSt g (ad 4) st ++ (cHi g (ad 5) (ad 6) hi)))))) := hD
    refine lv_if_ne (tgt := 28) hx hb dX5_climb_15 (by decide) (fun c4 => ?_) (fun c4 => ?_)
    · have h := if_f c4 h
      refine lv_aload_n hx hb dX5_climb_28 rfl (lv_at hl 0 rfl) ?_
      refine va_get (D := g.1) (ci := 5) (v := .ref ((ad 4) 0)) (C := RX5) (T := TX5) (N := 5) hx hb hts hinX5 hown hK hP 0 rfl rfl 0 (by decide) (hts (.fieldLink RX5 12 "BarredRungs" "now" "LBarredRungs$State;") (List.mem_of_getElem? (i := 5) rfl)) (fun _ h9 => h9) rfl dX5_climb_29 ?_
      refine lv_iload_n hx hb dX5_climb_32 rfl (lv_at hl 1 rfl) ?_
      refine lv_iload_n hx hb dX5_climb_33 rfl (lv_at hl 2 rfl) ?_
      obtain ⟨r5, kr5, h⟩ := bd_ex h
      have hP8 : va_P g.1 vwCl ((cRt ad ++ (cTx g (ad 1) tx ++ (cIs g (ad 2) is ++ (cWa g (ad 3) wa)))) ++ ((cSt g (ad 4) st) ++ (cHi g (ad 5) (ad 6) hi))) _ := hP
      have hD8 : va_D A ((cRt ad ++ (cTx g (ad 1) tx ++ (cIs g (ad 2) is ++ (cWa g (ad 3) wa)))) ++ ((cSt g (ad 4) st) ++ (cHi g (ad 5) (ad 6) hi))) := hD
      refine aft_f (st1 := [.int r5]) rfl (cRt ad ++ (cTx g (ad 1) tx ++ (cIs g (ad 2) is ++ (cWa g (ad 3) wa)))) (cHi g (ad 5) (ad 6) hi) (runV (As := [.int p1, .int p2]) (rest := []) ⟨hx, hb, hml, hown, hts⟩ (kX2_hindrance l g (ad 4) kr5) (cwV 2 hts gX5_climb_X2_hindrance rfl rfl rfl hdX2_hindrance ⟨Nat.le_of_ble_eq_true rfl, Nat.le_of_ble_eq_true rfl⟩) hK hN hP8.right.left hD8.right.left (va_recv hK hP (ci := 2) (q0 := 10) rfl rfl) rfl hl.1 rfl (Nat.le_of_ble_eq_true rfl) dX5_climb_34 ⟨Nat.zero_le _, Nat.zero_le _⟩) hP8 hD8 hS hA (fun H locs hP hD hS => ?_)
      have hP : va_P g.1 vwCl (cRt ad ++ (cTx g (ad 1) tx ++ (cIs g (ad 2) is ++ (cWa g (ad 3) wa ++ (cSt g (ad 4) st ++ (cHi g (ad 5) (ad 6) hi)))))) H := hP
      have hD : va_D A (cRt ad ++ (cTx g (ad 1) tx ++ (cIs g (ad 2) is ++ (cWa g (ad 3) wa ++ (cSt g (ad 4) st ++ (cHi g (ad 5) (ad 6) hi)))))) := hD
      refine lv_if_eq (tgt := 50) hx hb dX5_climb_37 (by decide) (fun c6 => ?_) (fun c6 => ?_)
      · have h := if_t c6 h
        refine lv_aload_n hx hb dX5_climb_50 rfl (lv_at hl 0 rfl) ?_
        refine va_get (D := g.1) (ci := 5) (v := .ref ((ad 5) 0)) (C := RX5) (T := TX5) (N := 5) hx hb hts hinX5 hown hK hP 0 rfl rfl 1 (by decide) (hts (.fieldLink RX5 19 "BarredRungs" "history" "LBarredRungs$History;") (List.mem_of_getElem? (i := 6) rfl)) (fun _ h9 => h9) rfl dX5_climb_51 ?_
        refine lv_aload_n hx hb dX5_climb_54 rfl (lv_at hl 0 rfl) ?_
        refine va_get (D := g.1) (ci := 5) (v := .ref ((ad 4) 0)) (C := RX5) (T := TX5) (N := 5) hx hb hts hinX5 hown hK hP 0 rfl rfl 0 (by decide) (hts (.fieldLink RX5 12 "BarredRungs" "now" "LBarredRungs$State;") (List.mem_of_getElem? (i := 5) rfl)) (fun _ h9 => h9) rfl dX5_climb_55 ?_
        obtain ⟨hi7, khi7, h⟩ := bd_ex h
        have hP8 : va_P g.1 vwCl ((cRt ad ++ (cTx g (ad 1) tx ++ (cIs g (ad 2) is ++ (cWa g (ad 3) wa)))) ++ ((cSt g (ad 4) st ++ (cHi g (ad 5) (ad 6) hi)) ++ [])) _ := hP
        have hD8 : va_D A ((cRt ad ++ (cTx g (ad 1) tx ++ (cIs g (ad 2) is ++ (cWa g (ad 3) wa)))) ++ ((cSt g (ad 4) st ++ (cHi g (ad 5) (ad 6) hi)) ++ [])) := hD
        refine aft_f (st1 := []) rfl (cRt ad ++ (cTx g (ad 1) tx ++ (cIs g (ad 2) is ++ (cWa g (ad 3) wa)))) [] (runV (As := [.ref ((ad 4) 0)]) (rest := []) ⟨hx, hb, hml, hown, hts⟩ (kX0_save l g (ad 4) (ad 5) (ad 6) khi7) (cwV 1 hts gX5_climb_X0_save rfl rfl rfl hdX0_save ⟨Nat.le_of_ble_eq_true rfl, Nat.le_of_ble_eq_true rfl⟩) hK hN hP8.right.left hD8.right.left (va_recv hK hP (ci := 0) (q0 := 20) rfl rfl) rfl hl.1 rfl (Nat.le_of_ble_eq_true rfl) dX5_climb_58 ⟨Nat.zero_le _, Nat.zero_le _⟩) hP8 hD8 hS hA (fun H locs hP hD hS => ?_)
        have hP : va_P g.1 vwCl (cRt ad ++ (cTx g (ad 1) tx ++ (cIs g (ad 2) is ++ (cWa g (ad 3) wa ++ (cSt g (ad 4) st ++ (cHi g (ad 5) (ad 6) hi7)))))) H := hP
        have hD : va_D A (cRt ad ++ (cTx g (ad 1) tx ++ (cIs g (ad 2) is ++ (cWa g (ad 3) wa ++ (cSt g (ad 4) st ++ (cHi g (ad 5) (ad 6) hi7)))))) := hD
        refine lv_aload_n hx hb dX5_climb_61 rfl (lv_at hl 0 rfl) ?_
        refine va_get (D := g.1) (ci := 5) (v := .ref ((ad 4) 0)) (C := RX5) (T := TX5) (N := 5) hx hb hts hinX5 hown hK hP 0 rfl rfl 0 (by decide) (hts (.fieldLink RX5 12 "BarredRungs" "now" "LBarredRungs$State;") (List.mem_of_getElem? (i := 5) rfl)) (fun _ h9 => h9) rfl dX5_climb_62 ?_
        refine lv_iload_n hx hb dX5_climb_65 rfl (lv_at hl 1 rfl) ?_
        refine lv_iload_n hx hb dX5_climb_66 rfl (lv_at hl 2 rfl) ?_
        obtain ⟨r8, st9, kr8, h⟩ := bd2_ex h
        have hP8 : va_P g.1 vwCl ((cRt ad ++ (cTx g (ad 1) tx ++ (cIs g (ad 2) is ++ (cWa g (ad 3) wa)))) ++ ((cSt g (ad 4) st) ++ (cHi g (ad 5) (ad 6) hi7))) _ := hP
        have hD8 : va_D A ((cRt ad ++ (cTx g (ad 1) tx ++ (cIs g (ad 2) is ++ (cWa g (ad 3) wa)))) ++ ((cSt g (ad 4) st) ++ (cHi g (ad 5) (ad 6) hi7))) := hD
        refine aft_f (st1 := [.int r8]) rfl (cRt ad ++ (cTx g (ad 1) tx ++ (cIs g (ad 2) is ++ (cWa g (ad 3) wa)))) (cHi g (ad 5) (ad 6) hi7) (runV (As := [.int p1, .int p2]) (rest := []) ⟨hx, hb, hml, hown, hts⟩ (kX2_move l g (ad 4) kr8) (cwV 2 hts gX5_climb_X2_move rfl rfl rfl hdX2_move ⟨Nat.le_of_ble_eq_true rfl, Nat.le_of_ble_eq_true rfl⟩) hK hN hP8.right.left hD8.right.left (va_recv hK hP (ci := 2) (q0 := 10) rfl rfl) rfl hl.1 rfl (Nat.le_of_ble_eq_true rfl) dX5_climb_67 ⟨Nat.zero_le _, Nat.zero_le _⟩) hP8 hD8 hS hA (fun H locs hP hD hS => ?_)
        have hP : va_P g.1 vwCl (cRt ad ++ (cTx g (ad 1) tx ++ (cIs g (ad 2) is ++ (cWa g (ad 3) wa ++ (cSt g (ad 4) st9 ++ (cHi g (ad 5) (ad 6) hi7)))))) H := hP
        have hD : va_D A (cRt ad ++ (cTx g (ad 1) tx ++ (cIs g (ad 2) is ++ (cWa g (ad 3) wa ++ (cSt g (ad 4) st9 ++ (cHi g (ad 5) (ad 6) hi7)))))) := hD
        refine lv_if_eq (tgt := 77) hx hb dX5_climb_70 (by decide) (fun c10 => ?_) (fun c10 => ?_)
        · have h := if_t c10 h
          refine lv_iconst (v := 0) hx hb dX5_climb_77 (by decide) ?_
          cases h
        · have h := if_f c10 h
          refine lv_iconst (v := 1) hx hb dX5_climb_73 (by decide) ?_
          refine lv_goto (tgt := 78) hx hb dX5_climb_74 (by decide) ?_
          cases h
      · have h := if_f c6 h
        exact absurd (Sum.inl.inj (some_i h)) (by decide)
    · have h := if_t c4 h
      exact hthrow _ _ _ _ 66 98 70 "no such climber or word" hP hD hS hl.1 (by decide +kernel) (hts (.classLink RX5 66 "java/lang/IndexOutOfBoundsException") (List.mem_of_getElem? (i := 1) rfl)) (hts (.initialized "java/lang/IndexOutOfBoundsException") (List.mem_of_getElem? (i := 2) rfl)) (fun w h9 => hts w (List.mem_cons_of_mem _ (List.mem_append_left _ (List.mem_append_right _ h9)))) (by decide +kernel) (by decide +kernel) dX5_climb_18 dX5_climb_21 dX5_climb_22 dX5_climb_24 dX5_climb_27
set_option maxRecDepth 100000 in
set_option maxHeartbeats 8000000 in
theorem tX5_climb_3 (l : Launch) (hst : l.stackTraces = false) (g : GG) (ad : Nat → Nat → Nat) {tx : Tx} {is : Is} {wa : Wa} {st : St} {hi : Hi} {p1 : Int32} {p2 : Int32} (h : fX5_climb tx is wa st hi p1 p2 = some (.inl 3)) : CT l g yX5_climb wsX5_climb rtX5_climb [.ref ((ad 0) 0), .int p1, .int p2] (cRt ad ++ (cTx g (ad 1) tx ++ (cIs g (ad 2) is ++ (cWa g (ad 3) wa ++ (cSt g (ad 4) st ++ (cHi g (ad 5) (ad 6) hi)))))) "java/lang/IllegalStateException" := by
  refine CT_of hst (cc := cX5_climb) (maxL := 3) (ret := (some .int)) (by decide +kernel) (by decide) (by decide) rfl rfl rfl (by decide +kernel) rfl (Nat.le_of_ble_eq_true rfl) ?_
  intro p e su m args below meth c A Q ls hx hb hml hown hts hK hN hA hnm hP hD hS hl hthrow
  have hinX5 : ∀ w ∈ u_ws RX5 TX5 5, w ∈ wsX5_climb := fun _ h9 => List.mem_cons_of_mem _ (List.mem_append_left _ (List.mem_append_left _ (List.mem_append_left _ (List.mem_append_left _ (List.mem_append_right _ h9)))))
  have hinX2 : ∀ w ∈ u_ws RX2 TX2 17, w ∈ wsX5_climb := fun _ h9 => List.mem_cons_of_mem _ (List.mem_append_left _ (List.mem_append_left _ (List.mem_append_left _ (List.mem_append_right _ h9))))
  have hinX0 : ∀ w ∈ u_ws RX0 TX0 4, w ∈ wsX5_climb := fun _ h9 => List.mem_cons_of_mem _ (List.mem_append_left _ (List.mem_append_left _ (List.mem_append_right _ h9)))
  unfold fX5_climb at h
  have hl : lv_has ls 3 [(0, .ref ((ad 0) 0)), (1, .int p1), (2, .int p2)] := hl
  refine lv_iload_n hx hb dX5_climb_0 rfl (lv_at hl 1 rfl) ?_
  obtain ⟨r1, kr1, h⟩ := bd_ex h
  refine aft_e (st1 := [.int r1]) rfl (runS (As := [.int p1]) (rest := []) ⟨hx, hb, hml, hown, hts⟩ (kX5_isClimber l g kr1) (va_cwS 1 hts gX5_climb_X5_isClimber rfl rfl rfl hdX5_isClimber.2 ⟨Nat.le_of_ble_eq_true rfl, Nat.le_of_ble_eq_true rfl⟩) hK hN nilP (nilD (A := A)) rfl hl.1 rfl (Nat.le_of_ble_eq_true rfl) dX5_climb_1 ⟨Nat.zero_le _, Nat.zero_le _⟩) hP hS hA (fun H locs hP hS => ?_)
  refine lv_if_eq (tgt := 18) hx hb dX5_climb_4 (by decide) (fun c2 => ?_) (fun c2 => ?_)
  · have h := if_t c2 h
    exact absurd (Sum.inl.inj (some_i h)) (by decide)
  · have h := if_f c2 h
    refine lv_aload_n hx hb dX5_climb_7 rfl (lv_at hl 0 rfl) ?_
    refine va_get (D := g.1) (ci := 5) (v := .ref ((ad 4) 0)) (C := RX5) (T := TX5) (N := 5) hx hb hts hinX5 hown hK hP 0 rfl rfl 0 (by decide) (hts (.fieldLink RX5 12 "BarredRungs" "now" "LBarredRungs$State;") (List.mem_of_getElem? (i := 5) rfl)) (fun _ h9 => h9) rfl dX5_climb_8 ?_
    refine lv_iload_n hx hb dX5_climb_11 rfl (lv_at hl 2 rfl) ?_
    obtain ⟨r3, kr3, h⟩ := bd_ex h
    have hP8 : va_P g.1 vwCl ((cRt ad ++ (cTx g (ad 1) tx ++ (cIs g (ad 2) is ++ (cWa g (ad 3) wa)))) ++ ((cSt g (ad 4) st) ++ (cHi g (ad 5) (ad 6) hi))) _ := hP
    have hD8 : va_D A ((cRt ad ++ (cTx g (ad 1) tx ++ (cIs g (ad 2) is ++ (cWa g (ad 3) wa)))) ++ ((cSt g (ad 4) st) ++ (cHi g (ad 5) (ad 6) hi))) := hD
    refine aft_f (st1 := [.int r3]) rfl (cRt ad ++ (cTx g (ad 1) tx ++ (cIs g (ad 2) is ++ (cWa g (ad 3) wa)))) (cHi g (ad 5) (ad 6) hi) (runV (As := [.int p2]) (rest := []) ⟨hx, hb, hml, hown, hts⟩ (kX2_hasWord l g (ad 4) kr3) (cwV 1 hts gX5_climb_X2_hasWord rfl rfl rfl hdX2_hasWord ⟨Nat.le_of_ble_eq_true rfl, Nat.le_of_ble_eq_true rfl⟩) hK hN hP8.right.left hD8.right.left (va_recv hK hP (ci := 2) (q0 := 10) rfl rfl) rfl hl.1 rfl (Nat.le_of_ble_eq_true rfl) dX5_climb_12 ⟨Nat.zero_le _, Nat.zero_le _⟩) hP8 hD8 hS hA (fun H locs hP hD hS => ?_)
    have hP : va_P g.1 vwCl (cRt ad ++ (cTx g (ad 1) tx ++ (cIs g (ad 2) is ++ (cWa g (ad 3) wa ++ (cSt g (ad 4) st ++ (cHi g (ad 5) (ad 6) hi)))))) H := hP
    have hD : va_D A (cRt ad ++ (cTx g (ad 1) tx ++ (cIs g (ad 2) is ++ (cWa g (ad 3) wa ++ (cSt g (ad 4) st ++ (cHi g (ad 5) (ad 6) hi)))))) := hD
    refine lv_if_ne (tgt := 28) hx hb dX5_climb_15 (by decide) (fun c4 => ?_) (fun c4 => ?_)
    · have h := if_f c4 h
      refine lv_aload_n hx hb dX5_climb_28 rfl (lv_at hl 0 rfl) ?_
      refine va_get (D := g.1) (ci := 5) (v := .ref ((ad 4) 0)) (C := RX5) (T := TX5) (N := 5) hx hb hts hinX5 hown hK hP 0 rfl rfl 0 (by decide) (hts (.fieldLink RX5 12 "BarredRungs" "now" "LBarredRungs$State;") (List.mem_of_getElem? (i := 5) rfl)) (fun _ h9 => h9) rfl dX5_climb_29 ?_
      refine lv_iload_n hx hb dX5_climb_32 rfl (lv_at hl 1 rfl) ?_
      refine lv_iload_n hx hb dX5_climb_33 rfl (lv_at hl 2 rfl) ?_
      obtain ⟨r5, kr5, h⟩ := bd_ex h
      have hP8 : va_P g.1 vwCl ((cRt ad ++ (cTx g (ad 1) tx ++ (cIs g (ad 2) is ++ (cWa g (ad 3) wa)))) ++ ((cSt g (ad 4) st) ++ (cHi g (ad 5) (ad 6) hi))) _ := hP
      have hD8 : va_D A ((cRt ad ++ (cTx g (ad 1) tx ++ (cIs g (ad 2) is ++ (cWa g (ad 3) wa)))) ++ ((cSt g (ad 4) st) ++ (cHi g (ad 5) (ad 6) hi))) := hD
      refine aft_f (st1 := [.int r5]) rfl (cRt ad ++ (cTx g (ad 1) tx ++ (cIs g (ad 2) is ++ (cWa g (ad 3) wa)))) (cHi g (ad 5) (ad 6) hi) (runV (As := [.int p1, .int p2]) (rest := []) ⟨hx, hb, hml, hown, hts⟩ (kX2_hindrance l g (ad 4) kr5) (cwV 2 hts gX5_climb_X2_hindrance rfl rfl rfl hdX2_hindrance ⟨Nat.le_of_ble_eq_true rfl, Nat.le_of_ble_eq_true rfl⟩) hK hN hP8.right.left hD8.right.left (va_recv hK hP (ci := 2) (q0 := 10) rfl rfl) rfl hl.1 rfl (Nat.le_of_ble_eq_true rfl) dX5_climb_34 ⟨Nat.zero_le _, Nat.zero_le _⟩) hP8 hD8 hS hA (fun H locs hP hD hS => ?_)
      have hP : va_P g.1 vwCl (cRt ad ++ (cTx g (ad 1) tx ++ (cIs g (ad 2) is ++ (cWa g (ad 3) wa ++ (cSt g (ad 4) st ++ (cHi g (ad 5) (ad 6) hi)))))) H := hP
      have hD : va_D A (cRt ad ++ (cTx g (ad 1) tx ++ (cIs g (ad 2) is ++ (cWa g (ad 3) wa ++ (cSt g (ad 4) st ++ (cHi g (ad 5) (ad 6) hi)))))) := hD
      refine lv_if_eq (tgt := 50) hx hb dX5_climb_37 (by decide) (fun c6 => ?_) (fun c6 => ?_)
      · have h := if_t c6 h
        refine lv_aload_n hx hb dX5_climb_50 rfl (lv_at hl 0 rfl) ?_
        refine va_get (D := g.1) (ci := 5) (v := .ref ((ad 5) 0)) (C := RX5) (T := TX5) (N := 5) hx hb hts hinX5 hown hK hP 0 rfl rfl 1 (by decide) (hts (.fieldLink RX5 19 "BarredRungs" "history" "LBarredRungs$History;") (List.mem_of_getElem? (i := 6) rfl)) (fun _ h9 => h9) rfl dX5_climb_51 ?_
        refine lv_aload_n hx hb dX5_climb_54 rfl (lv_at hl 0 rfl) ?_
        refine va_get (D := g.1) (ci := 5) (v := .ref ((ad 4) 0)) (C := RX5) (T := TX5) (N := 5) hx hb hts hinX5 hown hK hP 0 rfl rfl 0 (by decide) (hts (.fieldLink RX5 12 "BarredRungs" "now" "LBarredRungs$State;") (List.mem_of_getElem? (i := 5) rfl)) (fun _ h9 => h9) rfl dX5_climb_55 ?_
        obtain ⟨hi7, khi7, h⟩ := bd_ex h
        have hP8 : va_P g.1 vwCl ((cRt ad ++ (cTx g (ad 1) tx ++ (cIs g (ad 2) is ++ (cWa g (ad 3) wa)))) ++ ((cSt g (ad 4) st ++ (cHi g (ad 5) (ad 6) hi)) ++ [])) _ := hP
        have hD8 : va_D A ((cRt ad ++ (cTx g (ad 1) tx ++ (cIs g (ad 2) is ++ (cWa g (ad 3) wa)))) ++ ((cSt g (ad 4) st ++ (cHi g (ad 5) (ad 6) hi)) ++ [])) := hD
        refine aft_f (st1 := []) rfl (cRt ad ++ (cTx g (ad 1) tx ++ (cIs g (ad 2) is ++ (cWa g (ad 3) wa)))) [] (runV (As := [.ref ((ad 4) 0)]) (rest := []) ⟨hx, hb, hml, hown, hts⟩ (kX0_save l g (ad 4) (ad 5) (ad 6) khi7) (cwV 1 hts gX5_climb_X0_save rfl rfl rfl hdX0_save ⟨Nat.le_of_ble_eq_true rfl, Nat.le_of_ble_eq_true rfl⟩) hK hN hP8.right.left hD8.right.left (va_recv hK hP (ci := 0) (q0 := 20) rfl rfl) rfl hl.1 rfl (Nat.le_of_ble_eq_true rfl) dX5_climb_58 ⟨Nat.zero_le _, Nat.zero_le _⟩) hP8 hD8 hS hA (fun H locs hP hD hS => ?_)
        have hP : va_P g.1 vwCl (cRt ad ++ (cTx g (ad 1) tx ++ (cIs g (ad 2) is ++ (cWa g (ad 3) wa ++ (cSt g (ad 4) st ++ (cHi g (ad 5) (ad 6) hi7)))))) H := hP
        have hD : va_D A (cRt ad ++ (cTx g (ad 1) tx ++ (cIs g (ad 2) is ++ (cWa g (ad 3) wa ++ (cSt g (ad 4) st ++ (cHi g (ad 5) (ad 6) hi7)))))) := hD
        refine lv_aload_n hx hb dX5_climb_61 rfl (lv_at hl 0 rfl) ?_
        refine va_get (D := g.1) (ci := 5) (v := .ref ((ad 4) 0)) (C := RX5) (T := TX5) (N := 5) hx hb hts hinX5 hown hK hP 0 rfl rfl 0 (by decide) (hts (.fieldLink RX5 12 "BarredRungs" "now" "LBarredRungs$State;") (List.mem_of_getElem? (i := 5) rfl)) (fun _ h9 => h9) rfl dX5_climb_62 ?_
        refine lv_iload_n hx hb dX5_climb_65 rfl (lv_at hl 1 rfl) ?_
        refine lv_iload_n hx hb dX5_climb_66 rfl (lv_at hl 2 rfl) ?_
        obtain ⟨r8, st9, kr8, h⟩ := bd2_ex h
        have hP8 : va_P g.1 vwCl ((cRt ad ++ (cTx g (ad 1) tx ++ (cIs g (ad 2) is ++ (cWa g (ad 3) wa)))) ++ ((cSt g (ad 4) st) ++ (cHi g (ad 5) (ad 6) hi7))) _ := hP
        have hD8 : va_D A ((cRt ad ++ (cTx g (ad 1) tx ++ (cIs g (ad 2) is ++ (cWa g (ad 3) wa)))) ++ ((cSt g (ad 4) st) ++ (cHi g (ad 5) (ad 6) hi7))) := hD
        refine aft_f (st1 := [.int r8]) rfl (cRt ad ++ (cTx g (ad 1) tx ++ (cIs g (ad 2) is ++ (cWa g (ad 3) wa)))) (cHi g (ad 5) (ad 6) hi7) (runV (As := [.int p1, .int p2]) (rest := []) ⟨hx, hb, hml, hown, hts⟩ (kX2_move l g (ad 4) kr8) (cwV 2 hts gX5_climb_X2_move rfl rfl rfl hdX2_move ⟨Nat.le_of_ble_eq_true rfl, Nat.le_of_ble_eq_true rfl⟩) hK hN hP8.right.left hD8.right.left (va_recv hK hP (ci := 2) (q0 := 10) rfl rfl) rfl hl.1 rfl (Nat.le_of_ble_eq_true rfl) dX5_climb_67 ⟨Nat.zero_le _, Nat.zero_le _⟩) hP8 hD8 hS hA (fun H locs hP hD hS => ?_)
        have hP : va_P g.1 vwCl (cRt ad ++ (cTx g (ad 1) tx ++ (cIs g (ad 2) is ++ (cWa g (ad 3) wa ++ (cSt g (ad 4) st9 ++ (cHi g (ad 5) (ad 6) hi7)))))) H := hP
        have hD : va_D A (cRt ad ++ (cTx g (ad 1) tx ++ (cIs g (ad 2) is ++ (cWa g (ad 3) wa ++ (cSt g (ad 4) st9 ++ (cHi g (ad 5) (ad 6) hi7)))))) := hD
        refine lv_if_eq (tgt := 77) hx hb dX5_climb_70 (by decide) (fun c10 => ?_) (fun c10 => ?_)
        · have h := if_t c10 h
          refine lv_iconst (v := 0) hx hb dX5_climb_77 (by decide) ?_
          cases h
        · have h := if_f c10 h
          refine lv_iconst (v := 1) hx hb dX5_climb_73 (by decide) ?_
          refine lv_goto (tgt := 78) hx hb dX5_climb_74 (by decide) ?_
          cases h
      · have h := if_f c6 h
        exact hthrow _ _ _ _ 112 129 116 "the climber can not go there" hP hD hS hl.1 (by decide +kernel) (hts (.classLink RX5 112 "java/lang/IllegalStateException") (List.mem_of_getElem? (i := 3) rfl)) (hts (.initialized "java/lang/IllegalStateException") (List.mem_of_getElem? (i := 4) rfl)) (fun w h9 => hts w (List.mem_cons_of_mem _ (List.mem_append_right _ h9))) (by decide +kernel) (by decide +kernel) dX5_climb_40 dX5_climb_43 dX5_climb_44 dX5_climb_46 dX5_climb_49
    · have h := if_t c4 h
      exact absurd (Sum.inl.inj (some_i h)) (by decide)
abbrev rtX5_climber : Room := { frames := 6, cells := 1, slots := 6, locals := 148 }
set_option maxRecDepth 100000 in
set_option maxHeartbeats 8000000 in
theorem tX5_climber_1 (l : Launch) (hst : l.stackTraces = false) (g : GG) (ad : Nat → Nat → Nat) {tx : Tx} {is : Is} {wa : Wa} {st : St} {hi : Hi} {p1 : Int32} {p2 : Int32} (h : fX5_climber tx is wa st hi p1 p2 = some (.inl 1)) : CT l g yX5_climber wsX5_climber rtX5_climber [.ref ((ad 0) 0), .int p1, .int p2] (cRt ad ++ (cTx g (ad 1) tx ++ (cIs g (ad 2) is ++ (cWa g (ad 3) wa ++ (cSt g (ad 4) st ++ (cHi g (ad 5) (ad 6) hi)))))) "java/lang/IndexOutOfBoundsException" := by
  refine CT_of hst (cc := cX5_climber) (maxL := 3) (ret := (some .int)) (by decide +kernel) (by decide) (by decide) rfl rfl rfl (by decide +kernel) rfl (Nat.le_of_ble_eq_true rfl) ?_
  intro p e su m args below meth c A Q ls hx hb hml hown hts hK hN hA hnm hP hD hS hl hthrow
  have hinX5 : ∀ w ∈ u_ws RX5 TX5 5, w ∈ wsX5_climber := fun _ h9 => List.mem_cons_of_mem _ (List.mem_append_left _ (List.mem_append_left _ (List.mem_append_left _ (List.mem_append_left _ (List.mem_append_right _ h9)))))
  have hinX2 : ∀ w ∈ u_ws RX2 TX2 17, w ∈ wsX5_climber := fun _ h9 => List.mem_cons_of_mem _ (List.mem_append_left _ (List.mem_append_left _ (List.mem_append_left _ (List.mem_append_right _ h9))))
  have hinX4 : ∀ w ∈ u_ws RX4 TX4 4, w ∈ wsX5_climber := fun _ h9 => List.mem_cons_of_mem _ (List.mem_append_left _ (List.mem_append_left _ (List.mem_append_right _ h9)))
  unfold fX5_climber at h
  have hl : lv_has ls 3 [(0, .ref ((ad 0) 0)), (1, .int p1), (2, .int p2)] := hl
  refine lv_iload_n hx hb dX5_climber_0 rfl (lv_at hl 1 rfl) ?_
  obtain ⟨r1, kr1, h⟩ := bd_ex h
  refine aft_e (st1 := [.int r1]) rfl (runS (As := [.int p1]) (rest := []) ⟨hx, hb, hml, hown, hts⟩ (kX5_isClimber l g kr1) (va_cwS 1 hts gX5_climber_X5_isClimber rfl rfl rfl hdX5_isClimber.2 ⟨Nat.le_of_ble_eq_true rfl, Nat.le_of_ble_eq_true rfl⟩) hK hN nilP (nilD (A := A)) rfl hl.1 rfl (Nat.le_of_ble_eq_true rfl) dX5_climber_1 ⟨Nat.zero_le _, Nat.zero_le _⟩) hP hS hA (fun H locs hP hS => ?_)
  refine lv_if_ne (tgt := 17) hx hb dX5_climber_4 (by decide) (fun c2 => ?_) (fun c2 => ?_)
  · have h := if_f c2 h
    refine lv_iload_n hx hb dX5_climber_17 rfl (lv_at hl 2 rfl) ?_
    refine lv_if_lt (tgt := 27) hx hb dX5_climber_18 (by decide) (fun c3 => ?_) (fun c3 => ?_)
    · have h := if_t c3 h
      exact absurd (Sum.inl.inj (some_i h)) (by decide)
    · have h := if_f c3 h
      refine lv_iload_n hx hb dX5_climber_21 rfl (lv_at hl 2 rfl) ?_
      refine lv_bipush (v := 9) hx hb dX5_climber_22 (by decide) ?_
      refine lv_icmp_le (tgt := 37) hx hb dX5_climber_24 (by decide) (fun c4 => ?_) (fun c4 => ?_)
      · have h := if_t c4 h
        refine lv_aload_n hx hb dX5_climber_37 rfl (lv_at hl 0 rfl) ?_
        refine lv_iload_n hx hb dX5_climber_38 rfl (lv_at hl 1 rfl) ?_
        refine lv_iload_n hx hb dX5_climber_39 rfl (lv_at hl 2 rfl) ?_
        obtain ⟨r5, wa6, kr5, h⟩ := bd2_ex h
        refine aft_w (st1 := [.int r5]) rfl (runV (As := [.int p1, .int p2]) (rest := []) ⟨hx, hb, hml, hown, hts⟩ (kX5_climberNumber l g ad kr5) (cwV 2 hts gX5_climber_X5_climberNumber rfl rfl rfl hdX5_climberNumber ⟨Nat.le_of_ble_eq_true rfl, Nat.le_of_ble_eq_true rfl⟩) hK hN hP hD (va_recv hK hP (ci := 5) (q0 := 0) rfl rfl) rfl hl.1 rfl (Nat.le_of_ble_eq_true rfl) dX5_climber_40 ⟨Nat.zero_le _, Nat.zero_le _⟩) hD hS hA (fun H locs hP hD hS => ?_)
        cases h
      · have h := if_f c4 h
        exact absurd (Sum.inl.inj (some_i h)) (by decide)
  · have h := if_t c2 h
    exact hthrow _ _ _ _ 66 137 70 "no such climber" hP hD hS hl.1 (by decide +kernel) (hts (.classLink RX5 66 "java/lang/IndexOutOfBoundsException") (List.mem_of_getElem? (i := 1) rfl)) (hts (.initialized "java/lang/IndexOutOfBoundsException") (List.mem_of_getElem? (i := 2) rfl)) (fun w h9 => hts w (List.mem_cons_of_mem _ (List.mem_append_left _ (List.mem_append_right _ h9)))) (by decide +kernel) (by decide +kernel) dX5_climber_7 dX5_climber_10 dX5_climber_11 dX5_climber_13 dX5_climber_16
set_option maxRecDepth 100000 in
set_option maxHeartbeats 8000000 in
theorem tX5_climber_2 (l : Launch) (hst : l.stackTraces = false) (g : GG) (ad : Nat → Nat → Nat) {tx : Tx} {is : Is} {wa : Wa} {st : St} {hi : Hi} {p1 : Int32} {p2 : Int32} (h : fX5_climber tx is wa st hi p1 p2 = some (.inl 2)) : CT l g yX5_climber wsX5_climber rtX5_climber [.ref ((ad 0) 0), .int p1, .int p2] (cRt ad ++ (cTx g (ad 1) tx ++ (cIs g (ad 2) is ++ (cWa g (ad 3) wa ++ (cSt g (ad 4) st ++ (cHi g (ad 5) (ad 6) hi)))))) "java/lang/IllegalArgumentException" := by
  refine CT_of hst (cc := cX5_climber) (maxL := 3) (ret := (some .int)) (by decide +kernel) (by decide) (by decide) rfl rfl rfl (by decide +kernel) rfl (Nat.le_of_ble_eq_true rfl) ?_
  intro p e su m args below meth c A Q ls hx hb hml hown hts hK hN hA hnm hP hD hS hl hthrow
  have hinX5 : ∀ w ∈ u_ws RX5 TX5 5, w ∈ wsX5_climber := fun _ h9 => List.mem_cons_of_mem _ (List.mem_append_left _ (List.mem_append_left _ (List.mem_append_left _ (List.mem_append_left _ (List.mem_append_right _ h9)))))
  have hinX2 : ∀ w ∈ u_ws RX2 TX2 17, w ∈ wsX5_climber := fun _ h9 => List.mem_cons_of_mem _ (List.mem_append_left _ (List.mem_append_left _ (List.mem_append_left _ (List.mem_append_right _ h9))))
  have hinX4 : ∀ w ∈ u_ws RX4 TX4 4, w ∈ wsX5_climber := fun _ h9 => List.mem_cons_of_mem _ (List.mem_append_left _ (List.mem_append_left _ (List.mem_append_right _ h9)))
  unfold fX5_climber at h
  have hl : lv_has ls 3 [(0, .ref ((ad 0) 0)), (1, .int p1), (2, .int p2)] := hl
  refine lv_iload_n hx hb dX5_climber_0 rfl (lv_at hl 1 rfl) ?_
  obtain ⟨r1, kr1, h⟩ := bd_ex h
  refine aft_e (st1 := [.int r1]) rfl (runS (As := [.int p1]) (rest := []) ⟨hx, hb, hml, hown, hts⟩ (kX5_isClimber l g kr1) (va_cwS 1 hts gX5_climber_X5_isClimber rfl rfl rfl hdX5_isClimber.2 ⟨Nat.le_of_ble_eq_true rfl, Nat.le_of_ble_eq_true rfl⟩) hK hN nilP (nilD (A := A)) rfl hl.1 rfl (Nat.le_of_ble_eq_true rfl) dX5_climber_1 ⟨Nat.zero_le _, Nat.zero_le _⟩) hP hS hA (fun H locs hP hS => ?_)
  refine lv_if_ne (tgt := 17) hx hb dX5_climber_4 (by decide) (fun c2 => ?_) (fun c2 => ?_)
  · have h := if_f c2 h
    refine lv_iload_n hx hb dX5_climber_17 rfl (lv_at hl 2 rfl) ?_
    refine lv_if_lt (tgt := 27) hx hb dX5_climber_18 (by decide) (fun c3 => ?_) (fun c3 => ?_)
    · have h := if_t c3 h
      exact hthrow _ _ _ _ 48 194 52 "what is not 0 to 9" hP hD hS hl.1 (by decide +kernel) (hts (.classLink RX5 48 "java/lang/IllegalArgumentException") (List.mem_of_getElem? (i := 3) rfl)) (hts (.initialized "java/lang/IllegalArgumentException") (List.mem_of_getElem? (i := 4) rfl)) (fun w h9 => hts w (List.mem_cons_of_mem _ (List.mem_append_right _ h9))) (by decide +kernel) (by decide +kernel) dX5_climber_27 dX5_climber_30 dX5_climber_31 dX5_climber_33 dX5_climber_36
    · have h := if_f c3 h
      refine lv_iload_n hx hb dX5_climber_21 rfl (lv_at hl 2 rfl) ?_
      refine lv_bipush (v := 9) hx hb dX5_climber_22 (by decide) ?_
      refine lv_icmp_le (tgt := 37) hx hb dX5_climber_24 (by decide) (fun c4 => ?_) (fun c4 => ?_)
      · have h := if_t c4 h
        refine lv_aload_n hx hb dX5_climber_37 rfl (lv_at hl 0 rfl) ?_
        refine lv_iload_n hx hb dX5_climber_38 rfl (lv_at hl 1 rfl) ?_
        refine lv_iload_n hx hb dX5_climber_39 rfl (lv_at hl 2 rfl) ?_
        obtain ⟨r5, wa6, kr5, h⟩ := bd2_ex h
        refine aft_w (st1 := [.int r5]) rfl (runV (As := [.int p1, .int p2]) (rest := []) ⟨hx, hb, hml, hown, hts⟩ (kX5_climberNumber l g ad kr5) (cwV 2 hts gX5_climber_X5_climberNumber rfl rfl rfl hdX5_climberNumber ⟨Nat.le_of_ble_eq_true rfl, Nat.le_of_ble_eq_true rfl⟩) hK hN hP hD (va_recv hK hP (ci := 5) (q0 := 0) rfl rfl) rfl hl.1 rfl (Nat.le_of_ble_eq_true rfl) dX5_climber_40 ⟨Nat.zero_le _, Nat.zero_le _⟩) hD hS hA (fun H locs hP hD hS => ?_)
        cases h
      · have h := if_f c4 h
        exact hthrow _ _ _ _ 48 194 52 "what is not 0 to 9" hP hD hS hl.1 (by decide +kernel) (hts (.classLink RX5 48 "java/lang/IllegalArgumentException") (List.mem_of_getElem? (i := 3) rfl)) (hts (.initialized "java/lang/IllegalArgumentException") (List.mem_of_getElem? (i := 4) rfl)) (fun w h9 => hts w (List.mem_cons_of_mem _ (List.mem_append_right _ h9))) (by decide +kernel) (by decide +kernel) dX5_climber_27 dX5_climber_30 dX5_climber_31 dX5_climber_33 dX5_climber_36
  · have h := if_t c2 h
    exact absurd (Sum.inl.inj (some_i h)) (by decide)
abbrev rtX5_count : Room := { frames := 6, cells := 1, slots := 6, locals := 114 }
set_option maxRecDepth 100000 in
set_option maxHeartbeats 8000000 in
theorem tX5_count_2 (l : Launch) (hst : l.stackTraces = false) (g : GG) (ad : Nat → Nat → Nat) {tx : Tx} {is : Is} {wa : Wa} {st : St} {hi : Hi} {p1 : Int32} (h : fX5_count tx is wa st hi p1 = some (.inl 2)) : CT l g yX5_count wsX5_count rtX5_count [.ref ((ad 0) 0), .int p1] (cRt ad ++ (cTx g (ad 1) tx ++ (cIs g (ad 2) is ++ (cWa g (ad 3) wa ++ (cSt g (ad 4) st ++ (cHi g (ad 5) (ad 6) hi)))))) "java/lang/IllegalArgumentException" := by
  refine CT_of hst (cc := cX5_count) (maxL := 2) (ret := (some .int)) (by decide +kernel) (by decide) (by decide) rfl rfl rfl (by decide +kernel) rfl (Nat.le_of_ble_eq_true rfl) ?_
  intro p e su m args below meth c A Q ls hx hb hml hown hts hK hN hA hnm hP hD hS hl hthrow
  have hinX5 : ∀ w ∈ u_ws RX5 TX5 5, w ∈ wsX5_count := fun _ h9 => List.mem_cons_of_mem _ (List.mem_append_left _ (List.mem_append_left _ (List.mem_append_left _ (List.mem_append_left _ (List.mem_append_right _ h9)))))
  have hinX2 : ∀ w ∈ u_ws RX2 TX2 17, w ∈ wsX5_count := fun _ h9 => List.mem_cons_of_mem _ (List.mem_append_left _ (List.mem_append_left _ (List.mem_append_left _ (List.mem_append_right _ h9))))
  have hinX0 : ∀ w ∈ u_ws RX0 TX0 4, w ∈ wsX5_count := fun _ h9 => List.mem_cons_of_mem _ (List.mem_append_left _ (List.mem_append_left _ (List.mem_append_right _ h9)))
  have hinX1 : ∀ w ∈ u_ws RX1 TX1 1, w ∈ wsX5_count := fun _ h9 => List.mem_cons_of_mem _ (List.mem_append_left _ (List.mem_append_right _ h9))
  unfold fX5_count at h
  have hl : lv_has ls 2 [(0, .ref ((ad 0) 0)), (1, .int p1)] := hl
  refine lv_iload_n hx hb dX5_count_0 rfl (lv_at hl 1 rfl) ?_
  refine lv_if_lt (tgt := 10) hx hb dX5_count_1 (by decide) (fun c1 => ?_) (fun c1 => ?_)
  · have h := if_t c1 h
    exact hthrow _ _ _ _ 48 202 52 "what is not 0 to 12" hP hD hS hl.1 (by decide +kernel) (hts (.classLink RX5 48 "java/lang/IllegalArgumentException") (List.mem_of_getElem? (i := 1) rfl)) (hts (.initialized "java/lang/IllegalArgumentException") (List.mem_of_getElem? (i := 2) rfl)) (fun w h9 => hts w (List.mem_cons_of_mem _ (List.mem_append_right _ h9))) (by decide +kernel) (by decide +kernel) dX5_count_10 dX5_count_13 dX5_count_14 dX5_count_16 dX5_count_19
  · have h := if_f c1 h
    refine lv_iload_n hx hb dX5_count_4 rfl (lv_at hl 1 rfl) ?_
    refine lv_bipush (v := 12) hx hb dX5_count_5 (by decide) ?_
    refine lv_icmp_le (tgt := 20) hx hb dX5_count_7 (by decide) (fun c2 => ?_) (fun c2 => ?_)
    · have h := if_t c2 h
      refine lv_aload_n hx hb dX5_count_20 rfl (lv_at hl 0 rfl) ?_
      refine lv_iload_n hx hb dX5_count_21 rfl (lv_at hl 1 rfl) ?_
      obtain ⟨r3, is4, kr3, h⟩ := bd2_ex h
      refine aft_w (st1 := [.int r3]) rfl (runV (As := [.int p1]) (rest := []) ⟨hx, hb, hml, hown, hts⟩ (kX5_countNumber l g ad kr3) (cwV 1 hts gX5_count_X5_countNumber rfl rfl rfl hdX5_countNumber ⟨Nat.le_of_ble_eq_true rfl, Nat.le_of_ble_eq_true rfl⟩) hK hN hP hD (va_recv hK hP (ci := 5) (q0 := 0) rfl rfl) rfl hl.1 rfl (Nat.le_of_ble_eq_true rfl) dX5_count_22 ⟨Nat.zero_le _, Nat.zero_le _⟩) hD hS hA (fun H locs hP hD hS => ?_)
      cases h
    · have h := if_f c2 h
      exact hthrow _ _ _ _ 48 202 52 "what is not 0 to 12" hP hD hS hl.1 (by decide +kernel) (hts (.classLink RX5 48 "java/lang/IllegalArgumentException") (List.mem_of_getElem? (i := 1) rfl)) (hts (.initialized "java/lang/IllegalArgumentException") (List.mem_of_getElem? (i := 2) rfl)) (fun w h9 => hts w (List.mem_cons_of_mem _ (List.mem_append_right _ h9))) (by decide +kernel) (by decide +kernel) dX5_count_10 dX5_count_13 dX5_count_14 dX5_count_16 dX5_count_19
abbrev rtX5_ifPut : Room := { frames := 6, cells := 1, slots := 6, locals := 97 }
set_option maxRecDepth 100000 in
set_option maxHeartbeats 8000000 in
theorem tX5_ifPut_1 (l : Launch) (hst : l.stackTraces = false) (g : GG) (ad : Nat → Nat → Nat) {tx : Tx} {is : Is} {wa : Wa} {st : St} {hi : Hi} {p1 : Int32} {p2 : Int32} (h : fX5_ifPut tx is wa st hi p1 p2 = some (.inl 1)) : CT l g yX5_ifPut wsX5_ifPut rtX5_ifPut [.ref ((ad 0) 0), .int p1, .int p2] (cRt ad ++ (cTx g (ad 1) tx ++ (cIs g (ad 2) is ++ (cWa g (ad 3) wa ++ (cSt g (ad 4) st ++ (cHi g (ad 5) (ad 6) hi)))))) "java/lang/IndexOutOfBoundsException" := by
  refine CT_of hst (cc := cX5_ifPut) (maxL := 3) (ret := (some .int)) (by decide +kernel) (by decide) (by decide) rfl rfl rfl (by decide +kernel) rfl (Nat.le_of_ble_eq_true rfl) ?_
  intro p e su m args below meth c A Q ls hx hb hml hown hts hK hN hA hnm hP hD hS hl hthrow
  have hinX5 : ∀ w ∈ u_ws RX5 TX5 5, w ∈ wsX5_ifPut := fun _ h9 => List.mem_cons_of_mem _ (List.mem_append_left _ (List.mem_append_left _ (List.mem_append_left _ (List.mem_append_left _ (List.mem_append_right _ h9)))))
  have hinX2 : ∀ w ∈ u_ws RX2 TX2 17, w ∈ wsX5_ifPut := fun _ h9 => List.mem_cons_of_mem _ (List.mem_append_left _ (List.mem_append_left _ (List.mem_append_left _ (List.mem_append_right _ h9))))
  have hinX4 : ∀ w ∈ u_ws RX4 TX4 4, w ∈ wsX5_ifPut := fun _ h9 => List.mem_cons_of_mem _ (List.mem_append_left _ (List.mem_append_left _ (List.mem_append_right _ h9)))
  unfold fX5_ifPut at h
  have hl : lv_has ls 3 [(0, .ref ((ad 0) 0)), (1, .int p1), (2, .int p2)] := hl
  refine lv_aload_n hx hb dX5_ifPut_0 rfl (lv_at hl 0 rfl) ?_
  refine va_get (D := g.1) (ci := 5) (v := .ref ((ad 4) 0)) (C := RX5) (T := TX5) (N := 5) hx hb hts hinX5 hown hK hP 0 rfl rfl 0 (by decide) (hts (.fieldLink RX5 12 "BarredRungs" "now" "LBarredRungs$State;") (List.mem_of_getElem? (i := 5) rfl)) (fun _ h9 => h9) rfl dX5_ifPut_1 ?_
  refine lv_iload_n hx hb dX5_ifPut_4 rfl (lv_at hl 1 rfl) ?_
  obtain ⟨r1, kr1, h⟩ := bd_ex h
  have hP8 : va_P g.1 vwCl ((cRt ad ++ (cTx g (ad 1) tx ++ (cIs g (ad 2) is ++ (cWa g (ad 3) wa)))) ++ ((cSt g (ad 4) st) ++ (cHi g (ad 5) (ad 6) hi))) _ := hP
  have hD8 : va_D A ((cRt ad ++ (cTx g (ad 1) tx ++ (cIs g (ad 2) is ++ (cWa g (ad 3) wa)))) ++ ((cSt g (ad 4) st) ++ (cHi g (ad 5) (ad 6) hi))) := hD
  refine aft_f (st1 := [.int r1]) rfl (cRt ad ++ (cTx g (ad 1) tx ++ (cIs g (ad 2) is ++ (cWa g (ad 3) wa)))) (cHi g (ad 5) (ad 6) hi) (runV (As := [.int p1]) (rest := []) ⟨hx, hb, hml, hown, hts⟩ (kX2_hasWord l g (ad 4) kr1) (cwV 1 hts gX5_ifPut_X2_hasWord rfl rfl rfl hdX2_hasWord ⟨Nat.le_of_ble_eq_true rfl, Nat.le_of_ble_eq_true rfl⟩) hK hN hP8.right.left hD8.right.left (va_recv hK hP (ci := 2) (q0 := 10) rfl rfl) rfl hl.1 rfl (Nat.le_of_ble_eq_true rfl) dX5_ifPut_5 ⟨Nat.zero_le _, Nat.zero_le _⟩) hP8 hD8 hS hA (fun H locs hP hD hS => ?_)
  have hP : va_P g.1 vwCl (cRt ad ++ (cTx g (ad 1) tx ++ (cIs g (ad 2) is ++ (cWa g (ad 3) wa ++ (cSt g (ad 4) st ++ (cHi g (ad 5) (ad 6) hi)))))) H := hP
  have hD : va_D A (cRt ad ++ (cTx g (ad 1) tx ++ (cIs g (ad 2) is ++ (cWa g (ad 3) wa ++ (cSt g (ad 4) st ++ (cHi g (ad 5) (ad 6) hi)))))) := hD
  refine lv_if_eq (tgt := 22) hx hb dX5_ifPut_8 (by decide) (fun c2 => ?_) (fun c2 => ?_)
  · have h := if_t c2 h
    exact hthrow _ _ _ _ 66 192 70 "no such word" hP hD hS hl.1 (by decide +kernel) (hts (.classLink RX5 66 "java/lang/IndexOutOfBoundsException") (List.mem_of_getElem? (i := 1) rfl)) (hts (.initialized "java/lang/IndexOutOfBoundsException") (List.mem_of_getElem? (i := 2) rfl)) (fun w h9 => hts w (List.mem_cons_of_mem _ (List.mem_append_left _ (List.mem_append_right _ h9)))) (by decide +kernel) (by decide +kernel) dX5_ifPut_22 dX5_ifPut_25 dX5_ifPut_26 dX5_ifPut_28 dX5_ifPut_31
  · have h := if_f c2 h
    refine lv_aload_n hx hb dX5_ifPut_11 rfl (lv_at hl 0 rfl) ?_
    refine va_get (D := g.1) (ci := 5) (v := .ref ((ad 4) 0)) (C := RX5) (T := TX5) (N := 5) hx hb hts hinX5 hown hK hP 0 rfl rfl 0 (by decide) (hts (.fieldLink RX5 12 "BarredRungs" "now" "LBarredRungs$State;") (List.mem_of_getElem? (i := 5) rfl)) (fun _ h9 => h9) rfl dX5_ifPut_12 ?_
    refine lv_iload_n hx hb dX5_ifPut_15 rfl (lv_at hl 2 rfl) ?_
    obtain ⟨r3, kr3, h⟩ := bd_ex h
    have hP8 : va_P g.1 vwCl ((cRt ad ++ (cTx g (ad 1) tx ++ (cIs g (ad 2) is ++ (cWa g (ad 3) wa)))) ++ ((cSt g (ad 4) st) ++ (cHi g (ad 5) (ad 6) hi))) _ := hP
    have hD8 : va_D A ((cRt ad ++ (cTx g (ad 1) tx ++ (cIs g (ad 2) is ++ (cWa g (ad 3) wa)))) ++ ((cSt g (ad 4) st) ++ (cHi g (ad 5) (ad 6) hi))) := hD
    refine aft_f (st1 := [.int r3]) rfl (cRt ad ++ (cTx g (ad 1) tx ++ (cIs g (ad 2) is ++ (cWa g (ad 3) wa)))) (cHi g (ad 5) (ad 6) hi) (runV (As := [.int p2]) (rest := []) ⟨hx, hb, hml, hown, hts⟩ (kX2_hasWord l g (ad 4) kr3) (cwV 1 hts gX5_ifPut_X2_hasWord rfl rfl rfl hdX2_hasWord ⟨Nat.le_of_ble_eq_true rfl, Nat.le_of_ble_eq_true rfl⟩) hK hN hP8.right.left hD8.right.left (va_recv hK hP (ci := 2) (q0 := 10) rfl rfl) rfl hl.1 rfl (Nat.le_of_ble_eq_true rfl) dX5_ifPut_16 ⟨Nat.zero_le _, Nat.zero_le _⟩) hP8 hD8 hS hA (fun H locs hP hD hS => ?_)
    have hP : va_P g.1 vwCl (cRt ad ++ (cTx g (ad 1) tx ++ (cIs g (ad 2) is ++ (cWa g (ad 3) wa ++ (cSt g (ad 4) st ++ (cHi g (ad 5) (ad 6) hi)))))) H := hP
    have hD : va_D A (cRt ad ++ (cTx g (ad 1) tx ++ (cIs g (ad 2) is ++ (cWa g (ad 3) wa ++ (cSt g (ad 4) st ++ (cHi g (ad 5) (ad 6) hi)))))) := hD
    refine lv_if_ne (tgt := 32) hx hb dX5_ifPut_19 (by decide) (fun c4 => ?_) (fun c4 => ?_)
    · have h := if_f c4 h
      refine lv_iload_n hx hb dX5_ifPut_32 rfl (lv_at hl 1 rfl) ?_
      refine lv_iload_n hx hb dX5_ifPut_33 rfl (lv_at hl 2 rfl) ?_
      refine lv_icmp_ne (tgt := 47) hx hb dX5_ifPut_34 (by decide) (fun c5 => ?_) (fun c5 => ?_)
      · have h := if_f c5 h
        refine lv_aload_n hx hb dX5_ifPut_47 rfl (lv_at hl 0 rfl) ?_
        refine va_get (D := g.1) (ci := 5) (v := .ref ((ad 4) 0)) (C := RX5) (T := TX5) (N := 5) hx hb hts hinX5 hown hK hP 0 rfl rfl 0 (by decide) (hts (.fieldLink RX5 12 "BarredRungs" "now" "LBarredRungs$State;") (List.mem_of_getElem? (i := 5) rfl)) (fun _ h9 => h9) rfl dX5_ifPut_48 ?_
        refine lv_iload_n hx hb dX5_ifPut_51 rfl (lv_at hl 1 rfl) ?_
        refine lv_iconst (v := 0) hx hb dX5_ifPut_52 (by decide) ?_
        obtain ⟨r6, kr6, h⟩ := bd_ex h
        have hP8 : va_P g.1 vwCl ((cRt ad ++ (cTx g (ad 1) tx ++ (cIs g (ad 2) is ++ (cWa g (ad 3) wa)))) ++ ((cSt g (ad 4) st) ++ (cHi g (ad 5) (ad 6) hi))) _ := hP
        have hD8 : va_D A ((cRt ad ++ (cTx g (ad 1) tx ++ (cIs g (ad 2) is ++ (cWa g (ad 3) wa)))) ++ ((cSt g (ad 4) st) ++ (cHi g (ad 5) (ad 6) hi))) := hD
        refine aft_f (st1 := [.int r6]) rfl (cRt ad ++ (cTx g (ad 1) tx ++ (cIs g (ad 2) is ++ (cWa g (ad 3) wa)))) (cHi g (ad 5) (ad 6) hi) (runV (As := [.int p1, .int (0 : Int32)]) (rest := []) ⟨hx, hb, hml, hown, hts⟩ (kX2_isBarredAfter l g (ad 4) kr6) (cwV 2 hts gX5_ifPut_X2_isBarredAfter rfl rfl rfl hdX2_isBarredAfter ⟨Nat.le_of_ble_eq_true rfl, Nat.le_of_ble_eq_true rfl⟩) hK hN hP8.right.left hD8.right.left (va_recv hK hP (ci := 2) (q0 := 10) rfl rfl) rfl hl.1 rfl (Nat.le_of_ble_eq_true rfl) dX5_ifPut_53 ⟨Nat.zero_le _, Nat.zero_le _⟩) hP8 hD8 hS hA (fun H locs hP hD hS => ?_)
        have hP : va_P g.1 vwCl (cRt ad ++ (cTx g (ad 1) tx ++ (cIs g (ad 2) is ++ (cWa g (ad 3) wa ++ (cSt g (ad 4) st ++ (cHi g (ad 5) (ad 6) hi)))))) H := hP
        have hD : va_D A (cRt ad ++ (cTx g (ad 1) tx ++ (cIs g (ad 2) is ++ (cWa g (ad 3) wa ++ (cSt g (ad 4) st ++ (cHi g (ad 5) (ad 6) hi)))))) := hD
        refine lv_if_eq (tgt := 63) hx hb dX5_ifPut_56 (by decide) (fun c7 => ?_) (fun c7 => ?_)
        · have h := if_t c7 h
          refine lv_aload_n hx hb dX5_ifPut_63 rfl (lv_at hl 0 rfl) ?_
          refine va_get (D := g.1) (ci := 5) (v := .ref ((ad 3) 0)) (C := RX5) (T := TX5) (N := 5) hx hb hts hinX5 hown hK hP 0 rfl rfl 3 (by decide) (hts (.fieldLink RX5 33 "BarredRungs" "ways" "LBarredRungs$Ways;") (List.mem_of_getElem? (i := 6) rfl)) (fun _ h9 => h9) rfl dX5_ifPut_64 ?_
          refine lv_aload_n hx hb dX5_ifPut_67 rfl (lv_at hl 0 rfl) ?_
          refine va_get (D := g.1) (ci := 5) (v := .ref ((ad 4) 0)) (C := RX5) (T := TX5) (N := 5) hx hb hts hinX5 hown hK hP 0 rfl rfl 0 (by decide) (hts (.fieldLink RX5 12 "BarredRungs" "now" "LBarredRungs$State;") (List.mem_of_getElem? (i := 5) rfl)) (fun _ h9 => h9) rfl dX5_ifPut_68 ?_
          refine lv_iload_n hx hb dX5_ifPut_71 rfl (lv_at hl 1 rfl) ?_
          refine lv_iload_n hx hb dX5_ifPut_72 rfl (lv_at hl 2 rfl) ?_
          refine lv_iconst (v := 0) hx hb dX5_ifPut_73 (by decide) ?_
          obtain ⟨r8, wa9, kr8, h⟩ := bd2_ex h
          have hP8 : va_P g.1 vwCl ((cRt ad ++ (cTx g (ad 1) tx ++ (cIs g (ad 2) is))) ++ ((cWa g (ad 3) wa ++ (cSt g (ad 4) st)) ++ (cHi g (ad 5) (ad 6) hi))) _ := hP
          have hD8 : va_D A ((cRt ad ++ (cTx g (ad 1) tx ++ (cIs g (ad 2) is))) ++ ((cWa g (ad 3) wa ++ (cSt g (ad 4) st)) ++ (cHi g (ad 5) (ad 6) hi))) := hD
          refine aft_f (st1 := [.int r8]) rfl (cRt ad ++ (cTx g (ad 1) tx ++ (cIs g (ad 2) is))) (cHi g (ad 5) (ad 6) hi) (runV (As := [.ref ((ad 4) 0), .int p1, .int p2, .int (0 : Int32)]) (rest := []) ⟨hx, hb, hml, hown, hts⟩ (kX4_onward l g (ad 3) (ad 4) kr8) (cwV 4 hts gX5_ifPut_X4_onward rfl rfl rfl hdX4_onward ⟨Nat.le_of_ble_eq_true rfl, Nat.le_of_ble_eq_true rfl⟩) hK hN hP8.right.left hD8.right.left (va_recv hK hP (ci := 4) (q0 := 5) rfl rfl) rfl hl.1 rfl (Nat.le_of_ble_eq_true rfl) dX5_ifPut_74 ⟨Nat.zero_le _, Nat.zero_le _⟩) hP8 hD8 hS hA (fun H locs hP hD hS => ?_)
          have hP : va_P g.1 vwCl (cRt ad ++ (cTx g (ad 1) tx ++ (cIs g (ad 2) is ++ (cWa g (ad 3) wa9 ++ (cSt g (ad 4) st ++ (cHi g (ad 5) (ad 6) hi)))))) H := hP
          have hD : va_D A (cRt ad ++ (cTx g (ad 1) tx ++ (cIs g (ad 2) is ++ (cWa g (ad 3) wa9 ++ (cSt g (ad 4) st ++ (cHi g (ad 5) (ad 6) hi)))))) := hD
          cases h
        · have h := if_f c7 h
          refine lv_iconst (v := -1) hx hb dX5_ifPut_59 (by decide) ?_
          refine lv_goto (tgt := 77) hx hb dX5_ifPut_60 (by decide) ?_
          cases h
      · have h := if_t c5 h
        exact absurd (Sum.inl.inj (some_i h)) (by decide)
    · have h := if_t c4 h
      exact hthrow _ _ _ _ 66 192 70 "no such word" hP hD hS hl.1 (by decide +kernel) (hts (.classLink RX5 66 "java/lang/IndexOutOfBoundsException") (List.mem_of_getElem? (i := 1) rfl)) (hts (.initialized "java/lang/IndexOutOfBoundsException") (List.mem_of_getElem? (i := 2) rfl)) (fun w h9 => hts w (List.mem_cons_of_mem _ (List.mem_append_left _ (List.mem_append_right _ h9)))) (by decide +kernel) (by decide +kernel) dX5_ifPut_22 dX5_ifPut_25 dX5_ifPut_26 dX5_ifPut_28 dX5_ifPut_31
set_option maxRecDepth 100000 in
set_option maxHeartbeats 8000000 in
theorem tX5_ifPut_2 (l : Launch) (hst : l.stackTraces = false) (g : GG) (ad : Nat → Nat → Nat) {tx : Tx} {is : Is} {wa : Wa} {st : St} {hi : Hi} {p1 : Int32} {p2 : Int32} (h : fX5_ifPut tx is wa st hi p1 p2 = some (.inl 2)) : CT l g yX5_ifPut wsX5_ifPut rtX5_ifPut [.ref ((ad 0) 0), .int p1, .int p2] (cRt ad ++ (cTx g (ad 1) tx ++ (cIs g (ad 2) is ++ (cWa g (ad 3) wa ++ (cSt g (ad 4) st ++ (cHi g (ad 5) (ad 6) hi)))))) "java/lang/IllegalArgumentException" := by
  refine CT_of hst (cc := cX5_ifPut) (maxL := 3) (ret := (some .int)) (by decide +kernel) (by decide) (by decide) rfl rfl rfl (by decide +kernel) rfl (Nat.le_of_ble_eq_true rfl) ?_
  intro p e su m args below meth c A Q ls hx hb hml hown hts hK hN hA hnm hP hD hS hl hthrow
  have hinX5 : ∀ w ∈ u_ws RX5 TX5 5, w ∈ wsX5_ifPut := fun _ h9 => List.mem_cons_of_mem _ (List.mem_append_left _ (List.mem_append_left _ (List.mem_append_left _ (List.mem_append_left _ (List.mem_append_right _ h9)))))
  have hinX2 : ∀ w ∈ u_ws RX2 TX2 17, w ∈ wsX5_ifPut := fun _ h9 => List.mem_cons_of_mem _ (List.mem_append_left _ (List.mem_append_left _ (List.mem_append_left _ (List.mem_append_right _ h9))))
  have hinX4 : ∀ w ∈ u_ws RX4 TX4 4, w ∈ wsX5_ifPut := fun _ h9 => List.mem_cons_of_mem _ (List.mem_append_left _ (List.mem_append_left _ (List.mem_append_right _ h9)))
  unfold fX5_ifPut at h
  have hl : lv_has ls 3 [(0, .ref ((ad 0) 0)), (1, .int p1), (2, .int p2)] := hl
  refine lv_aload_n hx hb dX5_ifPut_0 rfl (lv_at hl 0 rfl) ?_
  refine va_get (D := g.1) (ci := 5) (v := .ref ((ad 4) 0)) (C := RX5) (T := TX5) (N := 5) hx hb hts hinX5 hown hK hP 0 rfl rfl 0 (by decide) (hts (.fieldLink RX5 12 "BarredRungs" "now" "LBarredRungs$State;") (List.mem_of_getElem? (i := 5) rfl)) (fun _ h9 => h9) rfl dX5_ifPut_1 ?_
  refine lv_iload_n hx hb dX5_ifPut_4 rfl (lv_at hl 1 rfl) ?_
  obtain ⟨r1, kr1, h⟩ := bd_ex h
  have hP8 : va_P g.1 vwCl ((cRt ad ++ (cTx g (ad 1) tx ++ (cIs g (ad 2) is ++ (cWa g (ad 3) wa)))) ++ ((cSt g (ad 4) st) ++ (cHi g (ad 5) (ad 6) hi))) _ := hP
  have hD8 : va_D A ((cRt ad ++ (cTx g (ad 1) tx ++ (cIs g (ad 2) is ++ (cWa g (ad 3) wa)))) ++ ((cSt g (ad 4) st) ++ (cHi g (ad 5) (ad 6) hi))) := hD
  refine aft_f (st1 := [.int r1]) rfl (cRt ad ++ (cTx g (ad 1) tx ++ (cIs g (ad 2) is ++ (cWa g (ad 3) wa)))) (cHi g (ad 5) (ad 6) hi) (runV (As := [.int p1]) (rest := []) ⟨hx, hb, hml, hown, hts⟩ (kX2_hasWord l g (ad 4) kr1) (cwV 1 hts gX5_ifPut_X2_hasWord rfl rfl rfl hdX2_hasWord ⟨Nat.le_of_ble_eq_true rfl, Nat.le_of_ble_eq_true rfl⟩) hK hN hP8.right.left hD8.right.left (va_recv hK hP (ci := 2) (q0 := 10) rfl rfl) rfl hl.1 rfl (Nat.le_of_ble_eq_true rfl) dX5_ifPut_5 ⟨Nat.zero_le _, Nat.zero_le _⟩) hP8 hD8 hS hA (fun H locs hP hD hS => ?_)
  have hP : va_P g.1 vwCl (cRt ad ++ (cTx g (ad 1) tx ++ (cIs g (ad 2) is ++ (cWa g (ad 3) wa ++ (cSt g (ad 4) st ++ (cHi g (ad 5) (ad 6) hi)))))) H := hP
  have hD : va_D A (cRt ad ++ (cTx g (ad 1) tx ++ (cIs g (ad 2) is ++ (cWa g (ad 3) wa ++ (cSt g (ad 4) st ++ (cHi g (ad 5) (ad 6) hi)))))) := hD
  refine lv_if_eq (tgt := 22) hx hb dX5_ifPut_8 (by decide) (fun c2 => ?_) (fun c2 => ?_)
  · have h := if_t c2 h
    exact absurd (Sum.inl.inj (some_i h)) (by decide)
  · have h := if_f c2 h
    refine lv_aload_n hx hb dX5_ifPut_11 rfl (lv_at hl 0 rfl) ?_
    refine va_get (D := g.1) (ci := 5) (v := .ref ((ad 4) 0)) (C := RX5) (T := TX5) (N := 5) hx hb hts hinX5 hown hK hP 0 rfl rfl 0 (by decide) (hts (.fieldLink RX5 12 "BarredRungs" "now" "LBarredRungs$State;") (List.mem_of_getElem? (i := 5) rfl)) (fun _ h9 => h9) rfl dX5_ifPut_12 ?_
    refine lv_iload_n hx hb dX5_ifPut_15 rfl (lv_at hl 2 rfl) ?_
    obtain ⟨r3, kr3, h⟩ := bd_ex h
    have hP8 : va_P g.1 vwCl ((cRt ad ++ (cTx g (ad 1) tx ++ (cIs g (ad 2) is ++ (cWa g (ad 3) wa)))) ++ ((cSt g (ad 4) st) ++ (cHi g (ad 5) (ad 6) hi))) _ := hP
    have hD8 : va_D A ((cRt ad ++ (cTx g (ad 1) tx ++ (cIs g (ad 2) is ++ (cWa g (ad 3) wa)))) ++ ((cSt g (ad 4) st) ++ (cHi g (ad 5) (ad 6) hi))) := hD
    refine aft_f (st1 := [.int r3]) rfl (cRt ad ++ (cTx g (ad 1) tx ++ (cIs g (ad 2) is ++ (cWa g (ad 3) wa)))) (cHi g (ad 5) (ad 6) hi) (runV (As := [.int p2]) (rest := []) ⟨hx, hb, hml, hown, hts⟩ (kX2_hasWord l g (ad 4) kr3) (cwV 1 hts gX5_ifPut_X2_hasWord rfl rfl rfl hdX2_hasWord ⟨Nat.le_of_ble_eq_true rfl, Nat.le_of_ble_eq_true rfl⟩) hK hN hP8.right.left hD8.right.left (va_recv hK hP (ci := 2) (q0 := 10) rfl rfl) rfl hl.1 rfl (Nat.le_of_ble_eq_true rfl) dX5_ifPut_16 ⟨Nat.zero_le _, Nat.zero_le _⟩) hP8 hD8 hS hA (fun H locs hP hD hS => ?_)
    have hP : va_P g.1 vwCl (cRt ad ++ (cTx g (ad 1) tx ++ (cIs g (ad 2) is ++ (cWa g (ad 3) wa ++ (cSt g (ad 4) st ++ (cHi g (ad 5) (ad 6) hi)))))) H := hP
    have hD : va_D A (cRt ad ++ (cTx g (ad 1) tx ++ (cIs g (ad 2) is ++ (cWa g (ad 3) wa ++ (cSt g (ad 4) st ++ (cHi g (ad 5) (ad 6) hi)))))) := hD
    refine lv_if_ne (tgt := 32) hx hb dX5_ifPut_19 (by decide) (fun c4 => ?_) (fun c4 => ?_)
    · have h := if_f c4 h
      refine lv_iload_n hx hb dX5_ifPut_32 rfl (lv_at hl 1 rfl) ?_
      refine lv_iload_n hx hb dX5_ifPut_33 rfl (lv_at hl 2 rfl) ?_
      refine lv_icmp_ne (tgt := 47) hx hb dX5_ifPut_34 (by decide) (fun c5 => ?_) (fun c5 => ?_)
      · have h := if_f c5 h
        refine lv_aload_n hx hb dX5_ifPut_47 rfl (lv_at hl 0 rfl) ?_
        refine va_get (D := g.1) (ci := 5) (v := .ref ((ad 4) 0)) (C := RX5) (T := TX5) (N := 5) hx hb hts hinX5 hown hK hP 0 rfl rfl 0 (by decide) (hts (.fieldLink RX5 12 "BarredRungs" "now" "LBarredRungs$State;") (List.mem_of_getElem? (i := 5) rfl)) (fun _ h9 => h9) rfl dX5_ifPut_48 ?_
        refine lv_iload_n hx hb dX5_ifPut_51 rfl (lv_at hl 1 rfl) ?_
        refine lv_iconst (v := 0) hx hb dX5_ifPut_52 (by decide) ?_
        obtain ⟨r6, kr6, h⟩ := bd_ex h
        have hP8 : va_P g.1 vwCl ((cRt ad ++ (cTx g (ad 1) tx ++ (cIs g (ad 2) is ++ (cWa g (ad 3) wa)))) ++ ((cSt g (ad 4) st) ++ (cHi g (ad 5) (ad 6) hi))) _ := hP
        have hD8 : va_D A ((cRt ad ++ (cTx g (ad 1) tx ++ (cIs g (ad 2) is ++ (cWa g (ad 3) wa)))) ++ ((cSt g (ad 4) st) ++ (cHi g (ad 5) (ad 6) hi))) := hD
        refine aft_f (st1 := [.int r6]) rfl (cRt ad ++ (cTx g (ad 1) tx ++ (cIs g (ad 2) is ++ (cWa g (ad 3) wa)))) (cHi g (ad 5) (ad 6) hi) (runV (As := [.int p1, .int (0 : Int32)]) (rest := []) ⟨hx, hb, hml, hown, hts⟩ (kX2_isBarredAfter l g (ad 4) kr6) (cwV 2 hts gX5_ifPut_X2_isBarredAfter rfl rfl rfl hdX2_isBarredAfter ⟨Nat.le_of_ble_eq_true rfl, Nat.le_of_ble_eq_true rfl⟩) hK hN hP8.right.left hD8.right.left (va_recv hK hP (ci := 2) (q0 := 10) rfl rfl) rfl hl.1 rfl (Nat.le_of_ble_eq_true rfl) dX5_ifPut_53 ⟨Nat.zero_le _, Nat.zero_le _⟩) hP8 hD8 hS hA (fun H locs hP hD hS => ?_)
        have hP : va_P g.1 vwCl (cRt ad ++ (cTx g (ad 1) tx ++ (cIs g (ad 2) is ++ (cWa g (ad 3) wa ++ (cSt g (ad 4) st ++ (cHi g (ad 5) (ad 6) hi)))))) H := hP
        have hD : va_D A (cRt ad ++ (cTx g (ad 1) tx ++ (cIs g (ad 2) is ++ (cWa g (ad 3) wa ++ (cSt g (ad 4) st ++ (cHi g (ad 5) (ad 6) hi)))))) := hD
        refine lv_if_eq (tgt := 63) hx hb dX5_ifPut_56 (by decide) (fun c7 => ?_) (fun c7 => ?_)
        · have h := if_t c7 h
          refine lv_aload_n hx hb dX5_ifPut_63 rfl (lv_at hl 0 rfl) ?_
          refine va_get (D := g.1) (ci := 5) (v := .ref ((ad 3) 0)) (C := RX5) (T := TX5) (N := 5) hx hb hts hinX5 hown hK hP 0 rfl rfl 3 (by decide) (hts (.fieldLink RX5 33 "BarredRungs" "ways" "LBarredRungs$Ways;") (List.mem_of_getElem? (i := 6) rfl)) (fun _ h9 => h9) rfl dX5_ifPut_64 ?_
          refine lv_aload_n hx hb dX5_ifPut_67 rfl (lv_at hl 0 rfl) ?_
          refine va_get (D := g.1) (ci := 5) (v := .ref ((ad 4) 0)) (C := RX5) (T := TX5) (N := 5) hx hb hts hinX5 hown hK hP 0 rfl rfl 0 (by decide) (hts (.fieldLink RX5 12 "BarredRungs" "now" "LBarredRungs$State;") (List.mem_of_getElem? (i := 5) rfl)) (fun _ h9 => h9) rfl dX5_ifPut_68 ?_
          refine lv_iload_n hx hb dX5_ifPut_71 rfl (lv_at hl 1 rfl) ?_
          refine lv_iload_n hx hb dX5_ifPut_72 rfl (lv_at hl 2 rfl) ?_
          refine lv_iconst (v := 0) hx hb dX5_ifPut_73 (by decide) ?_
          obtain ⟨r8, wa9, kr8, h⟩ := bd2_ex h
          have hP8 : va_P g.1 vwCl ((cRt ad ++ (cTx g (ad 1) tx ++ (cIs g (ad 2) is))) ++ ((cWa g (ad 3) wa ++ (cSt g (ad 4) st)) ++ (cHi g (ad 5) (ad 6) hi))) _ := hP
          have hD8 : va_D A ((cRt ad ++ (cTx g (ad 1) tx ++ (cIs g (ad 2) is))) ++ ((cWa g (ad 3) wa ++ (cSt g (ad 4) st)) ++ (cHi g (ad 5) (ad 6) hi))) := hD
          refine aft_f (st1 := [.int r8]) rfl (cRt ad ++ (cTx g (ad 1) tx ++ (cIs g (ad 2) is))) (cHi g (ad 5) (ad 6) hi) (runV (As := [.ref ((ad 4) 0), .int p1, .int p2, .int (0 : Int32)]) (rest := []) ⟨hx, hb, hml, hown, hts⟩ (kX4_onward l g (ad 3) (ad 4) kr8) (cwV 4 hts gX5_ifPut_X4_onward rfl rfl rfl hdX4_onward ⟨Nat.le_of_ble_eq_true rfl, Nat.le_of_ble_eq_true rfl⟩) hK hN hP8.right.left hD8.right.left (va_recv hK hP (ci := 4) (q0 := 5) rfl rfl) rfl hl.1 rfl (Nat.le_of_ble_eq_true rfl) dX5_ifPut_74 ⟨Nat.zero_le _, Nat.zero_le _⟩) hP8 hD8 hS hA (fun H locs hP hD hS => ?_)
          have hP : va_P g.1 vwCl (cRt ad ++ (cTx g (ad 1) tx ++ (cIs g (ad 2) is ++ (cWa g (ad 3) wa9 ++ (cSt g (ad 4) st ++ (cHi g (ad 5) (ad 6) hi)))))) H := hP
          have hD : va_D A (cRt ad ++ (cTx g (ad 1) tx ++ (cIs g (ad 2) is ++ (cWa g (ad 3) wa9 ++ (cSt g (ad 4) st ++ (cHi g (ad 5) (ad 6) hi)))))) := hD
          cases h
        · have h := if_f c7 h
          refine lv_iconst (v := -1) hx hb dX5_ifPut_59 (by decide) ?_
          refine lv_goto (tgt := 77) hx hb dX5_ifPut_60 (by decide) ?_
          cases h
      · have h := if_t c5 h
        exact hthrow _ _ _ _ 48 100 52 "both words are the same" hP hD hS hl.1 (by decide +kernel) (hts (.classLink RX5 48 "java/lang/IllegalArgumentException") (List.mem_of_getElem? (i := 3) rfl)) (hts (.initialized "java/lang/IllegalArgumentException") (List.mem_of_getElem? (i := 4) rfl)) (fun w h9 => hts w (List.mem_cons_of_mem _ (List.mem_append_right _ h9))) (by decide +kernel) (by decide +kernel) dX5_ifPut_37 dX5_ifPut_40 dX5_ifPut_41 dX5_ifPut_43 dX5_ifPut_46
    · have h := if_t c4 h
      exact absurd (Sum.inl.inj (some_i h)) (by decide)
abbrev rtX5_leave : Room := { frames := 6, cells := 1, slots := 6, locals := 102 }
set_option maxRecDepth 100000 in
set_option maxHeartbeats 8000000 in
theorem tX5_leave_1 (l : Launch) (hst : l.stackTraces = false) (g : GG) (ad : Nat → Nat → Nat) {tx : Tx} {is : Is} {wa : Wa} {st : St} {hi : Hi} {p1 : Int32} (h : fX5_leave tx is wa st hi p1 = some (.inl 1)) : CT l g yX5_leave wsX5_leave rtX5_leave [.ref ((ad 0) 0), .int p1] (cRt ad ++ (cTx g (ad 1) tx ++ (cIs g (ad 2) is ++ (cWa g (ad 3) wa ++ (cSt g (ad 4) st ++ (cHi g (ad 5) (ad 6) hi)))))) "java/lang/IndexOutOfBoundsException" := by
  refine CT_of hst (cc := cX5_leave) (maxL := 3) (ret := (some .int)) (by decide +kernel) (by decide) (by decide) rfl rfl rfl (by decide +kernel) rfl (Nat.le_of_ble_eq_true rfl) ?_
  intro p e su m args below meth c A Q ls hx hb hml hown hts hK hN hA hnm hP hD hS hl hthrow
  have hinX5 : ∀ w ∈ u_ws RX5 TX5 5, w ∈ wsX5_leave := fun _ h9 => List.mem_cons_of_mem _ (List.mem_append_left _ (List.mem_append_left _ (List.mem_append_left _ (List.mem_append_left _ (List.mem_append_right _ h9)))))
  have hinX2 : ∀ w ∈ u_ws RX2 TX2 17, w ∈ wsX5_leave := fun _ h9 => List.mem_cons_of_mem _ (List.mem_append_left _ (List.mem_append_left _ (List.mem_append_left _ (List.mem_append_right _ h9))))
  have hinX0 : ∀ w ∈ u_ws RX0 TX0 4, w ∈ wsX5_leave := fun _ h9 => List.mem_cons_of_mem _ (List.mem_append_left _ (List.mem_append_left _ (List.mem_append_right _ h9)))
  unfold fX5_leave at h
  have hl : lv_has ls 3 [(0, .ref ((ad 0) 0)), (1, .int p1)] := hl
  refine lv_iload_n hx hb dX5_leave_0 rfl (lv_at hl 1 rfl) ?_
  obtain ⟨r1, kr1, h⟩ := bd_ex h
  refine aft_e (st1 := [.int r1]) rfl (runS (As := [.int p1]) (rest := []) ⟨hx, hb, hml, hown, hts⟩ (kX5_isClimber l g kr1) (va_cwS 1 hts gX5_leave_X5_isClimber rfl rfl rfl hdX5_isClimber.2 ⟨Nat.le_of_ble_eq_true rfl, Nat.le_of_ble_eq_true rfl⟩) hK hN nilP (nilD (A := A)) rfl hl.1 rfl (Nat.le_of_ble_eq_true rfl) dX5_leave_1 ⟨Nat.zero_le _, Nat.zero_le _⟩) hP hS hA (fun H locs hP hS => ?_)
  refine lv_if_ne (tgt := 17) hx hb dX5_leave_4 (by decide) (fun c2 => ?_) (fun c2 => ?_)
  · have h := if_f c2 h
    refine lv_aload_n hx hb dX5_leave_17 rfl (lv_at hl 0 rfl) ?_
    refine va_get (D := g.1) (ci := 5) (v := .ref ((ad 4) 0)) (C := RX5) (T := TX5) (N := 5) hx hb hts hinX5 hown hK hP 0 rfl rfl 0 (by decide) (hts (.fieldLink RX5 12 "BarredRungs" "now" "LBarredRungs$State;") (List.mem_of_getElem? (i := 5) rfl)) (fun _ h9 => h9) rfl dX5_leave_18 ?_
    refine lv_iload_n hx hb dX5_leave_21 rfl (lv_at hl 1 rfl) ?_
    obtain ⟨r3, kr3, h⟩ := bd_ex h
    have hP8 : va_P g.1 vwCl ((cRt ad ++ (cTx g (ad 1) tx ++ (cIs g (ad 2) is ++ (cWa g (ad 3) wa)))) ++ ((cSt g (ad 4) st) ++ (cHi g (ad 5) (ad 6) hi))) _ := hP
    have hD8 : va_D A ((cRt ad ++ (cTx g (ad 1) tx ++ (cIs g (ad 2) is ++ (cWa g (ad 3) wa)))) ++ ((cSt g (ad 4) st) ++ (cHi g (ad 5) (ad 6) hi))) := hD
    refine aft_f (st1 := [.int r3]) rfl (cRt ad ++ (cTx g (ad 1) tx ++ (cIs g (ad 2) is ++ (cWa g (ad 3) wa)))) (cHi g (ad 5) (ad 6) hi) (runV (As := [.int p1]) (rest := []) ⟨hx, hb, hml, hown, hts⟩ (kX2_wordUnder l g (ad 4) kr3) (cwV 1 hts gX5_leave_X2_wordUnder rfl rfl rfl hdX2_wordUnder ⟨Nat.le_of_ble_eq_true rfl, Nat.le_of_ble_eq_true rfl⟩) hK hN hP8.right.left hD8.right.left (va_recv hK hP (ci := 2) (q0 := 10) rfl rfl) rfl hl.1 rfl (Nat.le_of_ble_eq_true rfl) dX5_leave_22 ⟨Nat.zero_le _, Nat.zero_le _⟩) hP8 hD8 hS hA (fun H locs hP hD hS => ?_)
    have hP : va_P g.1 vwCl (cRt ad ++ (cTx g (ad 1) tx ++ (cIs g (ad 2) is ++ (cWa g (ad 3) wa ++ (cSt g (ad 4) st ++ (cHi g (ad 5) (ad 6) hi)))))) H := hP
    have hD : va_D A (cRt ad ++ (cTx g (ad 1) tx ++ (cIs g (ad 2) is ++ (cWa g (ad 3) wa ++ (cSt g (ad 4) st ++ (cHi g (ad 5) (ad 6) hi)))))) := hD
    refine lv_istore_n (lv' := [(2, .int r3), (0, .ref ((ad 0) 0)), (1, .int p1)]) hx hb dX5_leave_25 rfl hl (by decide) rfl (fun ls hl => ?_)
    refine lv_iload_n hx hb dX5_leave_26 rfl (lv_at hl 0 rfl) ?_
    refine lv_iconst (v := -1) hx hb dX5_leave_27 (by decide) ?_
    refine lv_icmp_ne (tgt := 41) hx hb dX5_leave_28 (by decide) (fun c4 => ?_) (fun c4 => ?_)
    · have h := if_f c4 h
      refine lv_aload_n hx hb dX5_leave_41 rfl (lv_at hl 1 rfl) ?_
      refine va_get (D := g.1) (ci := 5) (v := .ref ((ad 5) 0)) (C := RX5) (T := TX5) (N := 5) hx hb hts hinX5 hown hK hP 0 rfl rfl 1 (by decide) (hts (.fieldLink RX5 19 "BarredRungs" "history" "LBarredRungs$History;") (List.mem_of_getElem? (i := 6) rfl)) (fun _ h9 => h9) rfl dX5_leave_42 ?_
      refine lv_aload_n hx hb dX5_leave_45 rfl (lv_at hl 1 rfl) ?_
      refine va_get (D := g.1) (ci := 5) (v := .ref ((ad 4) 0)) (C := RX5) (T := TX5) (N := 5) hx hb hts hinX5 hown hK hP 0 rfl rfl 0 (by decide) (hts (.fieldLink RX5 12 "BarredRungs" "now" "LBarredRungs$State;") (List.mem_of_getElem? (i := 5) rfl)) (fun _ h9 => h9) rfl dX5_leave_46 ?_
      obtain ⟨hi5, khi5, h⟩ := bd_ex h
      have hP8 : va_P g.1 vwCl ((cRt ad ++ (cTx g (ad 1) tx ++ (cIs g (ad 2) is ++ (cWa g (ad 3) wa)))) ++ ((cSt g (ad 4) st ++ (cHi g (ad 5) (ad 6) hi)) ++ [])) _ := hP
      have hD8 : va_D A ((cRt ad ++ (cTx g (ad 1) tx ++ (cIs g (ad 2) is ++ (cWa g (ad 3) wa)))) ++ ((cSt g (ad 4) st ++ (cHi g (ad 5) (ad 6) hi)) ++ [])) := hD
      refine aft_f (st1 := []) rfl (cRt ad ++ (cTx g (ad 1) tx ++ (cIs g (ad 2) is ++ (cWa g (ad 3) wa)))) [] (runV (As := [.ref ((ad 4) 0)]) (rest := []) ⟨hx, hb, hml, hown, hts⟩ (kX0_save l g (ad 4) (ad 5) (ad 6) khi5) (cwV 1 hts gX5_leave_X0_save rfl rfl rfl hdX0_save ⟨Nat.le_of_ble_eq_true rfl, Nat.le_of_ble_eq_true rfl⟩) hK hN hP8.right.left hD8.right.left (va_recv hK hP (ci := 0) (q0 := 20) rfl rfl) rfl hl.1 rfl (Nat.le_of_ble_eq_true rfl) dX5_leave_49 ⟨Nat.zero_le _, Nat.zero_le _⟩) hP8 hD8 hS hA (fun H locs hP hD hS => ?_)
      have hP : va_P g.1 vwCl (cRt ad ++ (cTx g (ad 1) tx ++ (cIs g (ad 2) is ++ (cWa g (ad 3) wa ++ (cSt g (ad 4) st ++ (cHi g (ad 5) (ad 6) hi5)))))) H := hP
      have hD : va_D A (cRt ad ++ (cTx g (ad 1) tx ++ (cIs g (ad 2) is ++ (cWa g (ad 3) wa ++ (cSt g (ad 4) st ++ (cHi g (ad 5) (ad 6) hi5)))))) := hD
      refine lv_aload_n hx hb dX5_leave_52 rfl (lv_at hl 1 rfl) ?_
      refine va_get (D := g.1) (ci := 5) (v := .ref ((ad 4) 0)) (C := RX5) (T := TX5) (N := 5) hx hb hts hinX5 hown hK hP 0 rfl rfl 0 (by decide) (hts (.fieldLink RX5 12 "BarredRungs" "now" "LBarredRungs$State;") (List.mem_of_getElem? (i := 5) rfl)) (fun _ h9 => h9) rfl dX5_leave_53 ?_
      refine lv_iload_n hx hb dX5_leave_56 rfl (lv_at hl 2 rfl) ?_
      obtain ⟨st6, kst6, h⟩ := bd_ex h
      have hP8 : va_P g.1 vwCl ((cRt ad ++ (cTx g (ad 1) tx ++ (cIs g (ad 2) is ++ (cWa g (ad 3) wa)))) ++ ((cSt g (ad 4) st) ++ (cHi g (ad 5) (ad 6) hi5))) _ := hP
      have hD8 : va_D A ((cRt ad ++ (cTx g (ad 1) tx ++ (cIs g (ad 2) is ++ (cWa g (ad 3) wa)))) ++ ((cSt g (ad 4) st) ++ (cHi g (ad 5) (ad 6) hi5))) := hD
      refine aft_f (st1 := []) rfl (cRt ad ++ (cTx g (ad 1) tx ++ (cIs g (ad 2) is ++ (cWa g (ad 3) wa)))) (cHi g (ad 5) (ad 6) hi5) (runV (As := [.int p1]) (rest := []) ⟨hx, hb, hml, hown, hts⟩ (kX2_takeOff l g (ad 4) kst6) (cwV 1 hts gX5_leave_X2_takeOff rfl rfl rfl hdX2_takeOff ⟨Nat.le_of_ble_eq_true rfl, Nat.le_of_ble_eq_true rfl⟩) hK hN hP8.right.left hD8.right.left (va_recv hK hP (ci := 2) (q0 := 10) rfl rfl) rfl hl.1 rfl (Nat.le_of_ble_eq_true rfl) dX5_leave_57 ⟨Nat.zero_le _, Nat.zero_le _⟩) hP8 hD8 hS hA (fun H locs hP hD hS => ?_)
      have hP : va_P g.1 vwCl (cRt ad ++ (cTx g (ad 1) tx ++ (cIs g (ad 2) is ++ (cWa g (ad 3) wa ++ (cSt g (ad 4) st6 ++ (cHi g (ad 5) (ad 6) hi5)))))) H := hP
      have hD : va_D A (cRt ad ++ (cTx g (ad 1) tx ++ (cIs g (ad 2) is ++ (cWa g (ad 3) wa ++ (cSt g (ad 4) st6 ++ (cHi g (ad 5) (ad 6) hi5)))))) := hD
      refine lv_iload_n hx hb dX5_leave_60 rfl (lv_at hl 0 rfl) ?_
      cases h
    · have h := if_t c4 h
      exact absurd (Sum.inl.inj (some_i h)) (by decide)
  · have h := if_t c2 h
    exact hthrow _ _ _ _ 66 137 70 "no such climber" hP hD hS hl.1 (by decide +kernel) (hts (.classLink RX5 66 "java/lang/IndexOutOfBoundsException") (List.mem_of_getElem? (i := 1) rfl)) (hts (.initialized "java/lang/IndexOutOfBoundsException") (List.mem_of_getElem? (i := 2) rfl)) (fun w h9 => hts w (List.mem_cons_of_mem _ (List.mem_append_left _ (List.mem_append_right _ h9)))) (by decide +kernel) (by decide +kernel) dX5_leave_7 dX5_leave_10 dX5_leave_11 dX5_leave_13 dX5_leave_16
set_option maxRecDepth 100000 in
set_option maxHeartbeats 8000000 in
theorem tX5_leave_3 (l : Launch) (hst : l.stackTraces = false) (g : GG) (ad : Nat → Nat → Nat) {tx : Tx} {is : Is} {wa : Wa} {st : St} {hi : Hi} {p1 : Int32} (h : fX5_leave tx is wa st hi p1 = some (.inl 3)) : CT l g yX5_leave wsX5_leave rtX5_leave [.ref ((ad 0) 0), .int p1] (cRt ad ++ (cTx g (ad 1) tx ++ (cIs g (ad 2) is ++ (cWa g (ad 3) wa ++ (cSt g (ad 4) st ++ (cHi g (ad 5) (ad 6) hi)))))) "java/lang/IllegalStateException" := by
  refine CT_of hst (cc := cX5_leave) (maxL := 3) (ret := (some .int)) (by decide +kernel) (by decide) (by decide) rfl rfl rfl (by decide +kernel) rfl (Nat.le_of_ble_eq_true rfl) ?_
  intro p e su m args below meth c A Q ls hx hb hml hown hts hK hN hA hnm hP hD hS hl hthrow
  have hinX5 : ∀ w ∈ u_ws RX5 TX5 5, w ∈ wsX5_leave := fun _ h9 => List.mem_cons_of_mem _ (List.mem_append_left _ (List.mem_append_left _ (List.mem_append_left _ (List.mem_append_left _ (List.mem_append_right _ h9)))))
  have hinX2 : ∀ w ∈ u_ws RX2 TX2 17, w ∈ wsX5_leave := fun _ h9 => List.mem_cons_of_mem _ (List.mem_append_left _ (List.mem_append_left _ (List.mem_append_left _ (List.mem_append_right _ h9))))
  have hinX0 : ∀ w ∈ u_ws RX0 TX0 4, w ∈ wsX5_leave := fun _ h9 => List.mem_cons_of_mem _ (List.mem_append_left _ (List.mem_append_left _ (List.mem_append_right _ h9)))
  unfold fX5_leave at h
  have hl : lv_has ls 3 [(0, .ref ((ad 0) 0)), (1, .int p1)] := hl
  refine lv_iload_n hx hb dX5_leave_0 rfl (lv_at hl 1 rfl) ?_
  obtain ⟨r1, kr1, h⟩ := bd_ex h
  refine aft_e (st1 := [.int r1]) rfl (runS (As := [.int p1]) (rest := []) ⟨hx, hb, hml, hown, hts⟩ (kX5_isClimber l g kr1) (va_cwS 1 hts gX5_leave_X5_isClimber rfl rfl rfl hdX5_isClimber.2 ⟨Nat.le_of_ble_eq_true rfl, Nat.le_of_ble_eq_true rfl⟩) hK hN nilP (nilD (A := A)) rfl hl.1 rfl (Nat.le_of_ble_eq_true rfl) dX5_leave_1 ⟨Nat.zero_le _, Nat.zero_le _⟩) hP hS hA (fun H locs hP hS => ?_)
  refine lv_if_ne (tgt := 17) hx hb dX5_leave_4 (by decide) (fun c2 => ?_) (fun c2 => ?_)
  · have h := if_f c2 h
    refine lv_aload_n hx hb dX5_leave_17 rfl (lv_at hl 0 rfl) ?_
    refine va_get (D := g.1) (ci := 5) (v := .ref ((ad 4) 0)) (C := RX5) (T := TX5) (N := 5) hx hb hts hinX5 hown hK hP 0 rfl rfl 0 (by decide) (hts (.fieldLink RX5 12 "BarredRungs" "now" "LBarredRungs$State;") (List.mem_of_getElem? (i := 5) rfl)) (fun _ h9 => h9) rfl dX5_leave_18 ?_
    refine lv_iload_n hx hb dX5_leave_21 rfl (lv_at hl 1 rfl) ?_
    obtain ⟨r3, kr3, h⟩ := bd_ex h
    have hP8 : va_P g.1 vwCl ((cRt ad ++ (cTx g (ad 1) tx ++ (cIs g (ad 2) is ++ (cWa g (ad 3) wa)))) ++ ((cSt g (ad 4) st) ++ (cHi g (ad 5) (ad 6) hi))) _ := hP
    have hD8 : va_D A ((cRt ad ++ (cTx g (ad 1) tx ++ (cIs g (ad 2) is ++ (cWa g (ad 3) wa)))) ++ ((cSt g (ad 4) st) ++ (cHi g (ad 5) (ad 6) hi))) := hD
    refine aft_f (st1 := [.int r3]) rfl (cRt ad ++ (cTx g (ad 1) tx ++ (cIs g (ad 2) is ++ (cWa g (ad 3) wa)))) (cHi g (ad 5) (ad 6) hi) (runV (As := [.int p1]) (rest := []) ⟨hx, hb, hml, hown, hts⟩ (kX2_wordUnder l g (ad 4) kr3) (cwV 1 hts gX5_leave_X2_wordUnder rfl rfl rfl hdX2_wordUnder ⟨Nat.le_of_ble_eq_true rfl, Nat.le_of_ble_eq_true rfl⟩) hK hN hP8.right.left hD8.right.left (va_recv hK hP (ci := 2) (q0 := 10) rfl rfl) rfl hl.1 rfl (Nat.le_of_ble_eq_true rfl) dX5_leave_22 ⟨Nat.zero_le _, Nat.zero_le _⟩) hP8 hD8 hS hA (fun H locs hP hD hS => ?_)
    have hP : va_P g.1 vwCl (cRt ad ++ (cTx g (ad 1) tx ++ (cIs g (ad 2) is ++ (cWa g (ad 3) wa ++ (cSt g (ad 4) st ++ (cHi g (ad 5) (ad 6) hi)))))) H := hP
    have hD : va_D A (cRt ad ++ (cTx g (ad 1) tx ++ (cIs g (ad 2) is ++ (cWa g (ad 3) wa ++ (cSt g (ad 4) st ++ (cHi g (ad 5) (ad 6) hi)))))) := hD
    refine lv_istore_n (lv' := [(2, .int r3), (0, .ref ((ad 0) 0)), (1, .int p1)]) hx hb dX5_leave_25 rfl hl (by decide) rfl (fun ls hl => ?_)
    refine lv_iload_n hx hb dX5_leave_26 rfl (lv_at hl 0 rfl) ?_
    refine lv_iconst (v := -1) hx hb dX5_leave_27 (by decide) ?_
    refine lv_icmp_ne (tgt := 41) hx hb dX5_leave_28 (by decide) (fun c4 => ?_) (fun c4 => ?_)
    · have h := if_f c4 h
      refine lv_aload_n hx hb dX5_leave_41 rfl (lv_at hl 1 rfl) ?_
      refine va_get (D := g.1) (ci := 5) (v := .ref ((ad 5) 0)) (C := RX5) (T := TX5) (N := 5) hx hb hts hinX5 hown hK hP 0 rfl rfl 1 (by decide) (hts (.fieldLink RX5 19 "BarredRungs" "history" "LBarredRungs$History;") (List.mem_of_getElem? (i := 6) rfl)) (fun _ h9 => h9) rfl dX5_leave_42 ?_
      refine lv_aload_n hx hb dX5_leave_45 rfl (lv_at hl 1 rfl) ?_
      refine va_get (D := g.1) (ci := 5) (v := .ref ((ad 4) 0)) (C := RX5) (T := TX5) (N := 5) hx hb hts hinX5 hown hK hP 0 rfl rfl 0 (by decide) (hts (.fieldLink RX5 12 "BarredRungs" "now" "LBarredRungs$State;") (List.mem_of_getElem? (i := 5) rfl)) (fun _ h9 => h9) rfl dX5_leave_46 ?_
      obtain ⟨hi5, khi5, h⟩ := bd_ex h
      have hP8 : va_P g.1 vwCl ((cRt ad ++ (cTx g (ad 1) tx ++ (cIs g (ad 2) is ++ (cWa g (ad 3) wa)))) ++ ((cSt g (ad 4) st ++ (cHi g (ad 5) (ad 6) hi)) ++ [])) _ := hP
      have hD8 : va_D A ((cRt ad ++ (cTx g (ad 1) tx ++ (cIs g (ad 2) is ++ (cWa g (ad 3) wa)))) ++ ((cSt g (ad 4) st ++ (cHi g (ad 5) (ad 6) hi)) ++ [])) := hD
      refine aft_f (st1 := []) rfl (cRt ad ++ (cTx g (ad 1) tx ++ (cIs g (ad 2) is ++ (cWa g (ad 3) wa)))) [] (runV (As := [.ref ((ad 4) 0)]) (rest := []) ⟨hx, hb, hml, hown, hts⟩ (kX0_save l g (ad 4) (ad 5) (ad 6) khi5) (cwV 1 hts gX5_leave_X0_save rfl rfl rfl hdX0_save ⟨Nat.le_of_ble_eq_true rfl, Nat.le_of_ble_eq_true rfl⟩) hK hN hP8.right.left hD8.right.left (va_recv hK hP (ci := 0) (q0 := 20) rfl rfl) rfl hl.1 rfl (Nat.le_of_ble_eq_true rfl) dX5_leave_49 ⟨Nat.zero_le _, Nat.zero_le _⟩) hP8 hD8 hS hA (fun H locs hP hD hS => ?_)
      have hP : va_P g.1 vwCl (cRt ad ++ (cTx g (ad 1) tx ++ (cIs g (ad 2) is ++ (cWa g (ad 3) wa ++ (cSt g (ad 4) st ++ (cHi g (ad 5) (ad 6) hi5)))))) H := hP
      have hD : va_D A (cRt ad ++ (cTx g (ad 1) tx ++ (cIs g (ad 2) is ++ (cWa g (ad 3) wa ++ (cSt g (ad 4) st ++ (cHi g (ad 5) (ad 6) hi5)))))) := hD
      refine lv_aload_n hx hb dX5_leave_52 rfl (lv_at hl 1 rfl) ?_
      refine va_get (D := g.1) (ci := 5) (v := .ref ((ad 4) 0)) (C := RX5) (T := TX5) (N := 5) hx hb hts hinX5 hown hK hP 0 rfl rfl 0 (by decide) (hts (.fieldLink RX5 12 "BarredRungs" "now" "LBarredRungs$State;") (List.mem_of_getElem? (i := 5) rfl)) (fun _ h9 => h9) rfl dX5_leave_53 ?_
      refine lv_iload_n hx hb dX5_leave_56 rfl (lv_at hl 2 rfl) ?_
      obtain ⟨st6, kst6, h⟩ := bd_ex h
      have hP8 : va_P g.1 vwCl ((cRt ad ++ (cTx g (ad 1) tx ++ (cIs g (ad 2) is ++ (cWa g (ad 3) wa)))) ++ ((cSt g (ad 4) st) ++ (cHi g (ad 5) (ad 6) hi5))) _ := hP
      have hD8 : va_D A ((cRt ad ++ (cTx g (ad 1) tx ++ (cIs g (ad 2) is ++ (cWa g (ad 3) wa)))) ++ ((cSt g (ad 4) st) ++ (cHi g (ad 5) (ad 6) hi5))) := hD
      refine aft_f (st1 := []) rfl (cRt ad ++ (cTx g (ad 1) tx ++ (cIs g (ad 2) is ++ (cWa g (ad 3) wa)))) (cHi g (ad 5) (ad 6) hi5) (runV (As := [.int p1]) (rest := []) ⟨hx, hb, hml, hown, hts⟩ (kX2_takeOff l g (ad 4) kst6) (cwV 1 hts gX5_leave_X2_takeOff rfl rfl rfl hdX2_takeOff ⟨Nat.le_of_ble_eq_true rfl, Nat.le_of_ble_eq_true rfl⟩) hK hN hP8.right.left hD8.right.left (va_recv hK hP (ci := 2) (q0 := 10) rfl rfl) rfl hl.1 rfl (Nat.le_of_ble_eq_true rfl) dX5_leave_57 ⟨Nat.zero_le _, Nat.zero_le _⟩) hP8 hD8 hS hA (fun H locs hP hD hS => ?_)
      have hP : va_P g.1 vwCl (cRt ad ++ (cTx g (ad 1) tx ++ (cIs g (ad 2) is ++ (cWa g (ad 3) wa ++ (cSt g (ad 4) st6 ++ (cHi g (ad 5) (ad 6) hi5)))))) H := hP
      have hD : va_D A (cRt ad ++ (cTx g (ad 1) tx ++ (cIs g (ad 2) is ++ (cWa g (ad 3) wa ++ (cSt g (ad 4) st6 ++ (cHi g (ad 5) (ad 6) hi5)))))) := hD
      refine lv_iload_n hx hb dX5_leave_60 rfl (lv_at hl 0 rfl) ?_
      cases h
    · have h := if_t c4 h
      exact hthrow _ _ _ _ 112 139 116 "the climber is on no word" hP hD hS hl.1 (by decide +kernel) (hts (.classLink RX5 112 "java/lang/IllegalStateException") (List.mem_of_getElem? (i := 3) rfl)) (hts (.initialized "java/lang/IllegalStateException") (List.mem_of_getElem? (i := 4) rfl)) (fun w h9 => hts w (List.mem_cons_of_mem _ (List.mem_append_right _ h9))) (by decide +kernel) (by decide +kernel) dX5_leave_31 dX5_leave_34 dX5_leave_35 dX5_leave_37 dX5_leave_40
  · have h := if_t c2 h
    exact absurd (Sum.inl.inj (some_i h)) (by decide)
abbrev rtX5_plain : Room := { frames := 6, cells := 1, slots := 6, locals := 90 }
set_option maxRecDepth 100000 in
set_option maxHeartbeats 8000000 in
theorem tX5_plain_1 (l : Launch) (hst : l.stackTraces = false) (g : GG) (ad : Nat → Nat → Nat) {tx : Tx} {is : Is} {wa : Wa} {st : St} {hi : Hi} {p1 : Int32} {p2 : Int32} (h : fX5_plain tx is wa st hi p1 p2 = some (.inl 1)) : CT l g yX5_plain wsX5_plain rtX5_plain [.ref ((ad 0) 0), .int p1, .int p2] (cRt ad ++ (cTx g (ad 1) tx ++ (cIs g (ad 2) is ++ (cWa g (ad 3) wa ++ (cSt g (ad 4) st ++ (cHi g (ad 5) (ad 6) hi)))))) "java/lang/IndexOutOfBoundsException" := by
  refine CT_of hst (cc := cX5_plain) (maxL := 3) (ret := (some .int)) (by decide +kernel) (by decide) (by decide) rfl rfl rfl (by decide +kernel) rfl (Nat.le_of_ble_eq_true rfl) ?_
  intro p e su m args below meth c A Q ls hx hb hml hown hts hK hN hA hnm hP hD hS hl hthrow
  have hinX5 : ∀ w ∈ u_ws RX5 TX5 5, w ∈ wsX5_plain := fun _ h9 => List.mem_cons_of_mem _ (List.mem_append_left _ (List.mem_append_left _ (List.mem_append_right _ h9)))
  have hinX2 : ∀ w ∈ u_ws RX2 TX2 17, w ∈ wsX5_plain := fun _ h9 => List.mem_cons_of_mem _ (List.mem_append_left _ (List.mem_append_right _ h9))
  unfold fX5_plain at h
  have hl : lv_has ls 3 [(0, .ref ((ad 0) 0)), (1, .int p1), (2, .int p2)] := hl
  refine lv_aload_n hx hb dX5_plain_0 rfl (lv_at hl 0 rfl) ?_
  refine va_get (D := g.1) (ci := 5) (v := .ref ((ad 4) 0)) (C := RX5) (T := TX5) (N := 5) hx hb hts hinX5 hown hK hP 0 rfl rfl 0 (by decide) (hts (.fieldLink RX5 12 "BarredRungs" "now" "LBarredRungs$State;") (List.mem_of_getElem? (i := 3) rfl)) (fun _ h9 => h9) rfl dX5_plain_1 ?_
  refine lv_iload_n hx hb dX5_plain_4 rfl (lv_at hl 1 rfl) ?_
  obtain ⟨r1, kr1, h⟩ := bd_ex h
  have hP8 : va_P g.1 vwCl ((cRt ad ++ (cTx g (ad 1) tx ++ (cIs g (ad 2) is ++ (cWa g (ad 3) wa)))) ++ ((cSt g (ad 4) st) ++ (cHi g (ad 5) (ad 6) hi))) _ := hP
  have hD8 : va_D A ((cRt ad ++ (cTx g (ad 1) tx ++ (cIs g (ad 2) is ++ (cWa g (ad 3) wa)))) ++ ((cSt g (ad 4) st) ++ (cHi g (ad 5) (ad 6) hi))) := hD
  refine aft_f (st1 := [.int r1]) rfl (cRt ad ++ (cTx g (ad 1) tx ++ (cIs g (ad 2) is ++ (cWa g (ad 3) wa)))) (cHi g (ad 5) (ad 6) hi) (runV (As := [.int p1]) (rest := []) ⟨hx, hb, hml, hown, hts⟩ (kX2_hasWord l g (ad 4) kr1) (cwV 1 hts gX5_plain_X2_hasWord rfl rfl rfl hdX2_hasWord ⟨Nat.le_of_ble_eq_true rfl, Nat.le_of_ble_eq_true rfl⟩) hK hN hP8.right.left hD8.right.left (va_recv hK hP (ci := 2) (q0 := 10) rfl rfl) rfl hl.1 rfl (Nat.le_of_ble_eq_true rfl) dX5_plain_5 ⟨Nat.zero_le _, Nat.zero_le _⟩) hP8 hD8 hS hA (fun H locs hP hD hS => ?_)
  have hP : va_P g.1 vwCl (cRt ad ++ (cTx g (ad 1) tx ++ (cIs g (ad 2) is ++ (cWa g (ad 3) wa ++ (cSt g (ad 4) st ++ (cHi g (ad 5) (ad 6) hi)))))) H := hP
  have hD : va_D A (cRt ad ++ (cTx g (ad 1) tx ++ (cIs g (ad 2) is ++ (cWa g (ad 3) wa ++ (cSt g (ad 4) st ++ (cHi g (ad 5) (ad 6) hi)))))) := hD
  refine lv_if_eq (tgt := 22) hx hb dX5_plain_8 (by decide) (fun c2 => ?_) (fun c2 => ?_)
  · have h := if_t c2 h
    exact hthrow _ _ _ _ 66 192 70 "no such word" hP hD hS hl.1 (by decide +kernel) (hts (.classLink RX5 66 "java/lang/IndexOutOfBoundsException") (List.mem_of_getElem? (i := 1) rfl)) (hts (.initialized "java/lang/IndexOutOfBoundsException") (List.mem_of_getElem? (i := 2) rfl)) (fun w h9 => hts w (List.mem_cons_of_mem _ (List.mem_append_right _ h9))) (by decide +kernel) (by decide +kernel) dX5_plain_22 dX5_plain_25 dX5_plain_26 dX5_plain_28 dX5_plain_31
  · have h := if_f c2 h
    refine lv_aload_n hx hb dX5_plain_11 rfl (lv_at hl 0 rfl) ?_
    refine va_get (D := g.1) (ci := 5) (v := .ref ((ad 4) 0)) (C := RX5) (T := TX5) (N := 5) hx hb hts hinX5 hown hK hP 0 rfl rfl 0 (by decide) (hts (.fieldLink RX5 12 "BarredRungs" "now" "LBarredRungs$State;") (List.mem_of_getElem? (i := 3) rfl)) (fun _ h9 => h9) rfl dX5_plain_12 ?_
    refine lv_iload_n hx hb dX5_plain_15 rfl (lv_at hl 2 rfl) ?_
    obtain ⟨r3, kr3, h⟩ := bd_ex h
    have hP8 : va_P g.1 vwCl ((cRt ad ++ (cTx g (ad 1) tx ++ (cIs g (ad 2) is ++ (cWa g (ad 3) wa)))) ++ ((cSt g (ad 4) st) ++ (cHi g (ad 5) (ad 6) hi))) _ := hP
    have hD8 : va_D A ((cRt ad ++ (cTx g (ad 1) tx ++ (cIs g (ad 2) is ++ (cWa g (ad 3) wa)))) ++ ((cSt g (ad 4) st) ++ (cHi g (ad 5) (ad 6) hi))) := hD
    refine aft_f (st1 := [.int r3]) rfl (cRt ad ++ (cTx g (ad 1) tx ++ (cIs g (ad 2) is ++ (cWa g (ad 3) wa)))) (cHi g (ad 5) (ad 6) hi) (runV (As := [.int p2]) (rest := []) ⟨hx, hb, hml, hown, hts⟩ (kX2_hasWord l g (ad 4) kr3) (cwV 1 hts gX5_plain_X2_hasWord rfl rfl rfl hdX2_hasWord ⟨Nat.le_of_ble_eq_true rfl, Nat.le_of_ble_eq_true rfl⟩) hK hN hP8.right.left hD8.right.left (va_recv hK hP (ci := 2) (q0 := 10) rfl rfl) rfl hl.1 rfl (Nat.le_of_ble_eq_true rfl) dX5_plain_16 ⟨Nat.zero_le _, Nat.zero_le _⟩) hP8 hD8 hS hA (fun H locs hP hD hS => ?_)
    have hP : va_P g.1 vwCl (cRt ad ++ (cTx g (ad 1) tx ++ (cIs g (ad 2) is ++ (cWa g (ad 3) wa ++ (cSt g (ad 4) st ++ (cHi g (ad 5) (ad 6) hi)))))) H := hP
    have hD : va_D A (cRt ad ++ (cTx g (ad 1) tx ++ (cIs g (ad 2) is ++ (cWa g (ad 3) wa ++ (cSt g (ad 4) st ++ (cHi g (ad 5) (ad 6) hi)))))) := hD
    refine lv_if_ne (tgt := 32) hx hb dX5_plain_19 (by decide) (fun c4 => ?_) (fun c4 => ?_)
    · have h := if_f c4 h
      refine lv_aload_n hx hb dX5_plain_32 rfl (lv_at hl 0 rfl) ?_
      refine va_get (D := g.1) (ci := 5) (v := .ref ((ad 3) 0)) (C := RX5) (T := TX5) (N := 5) hx hb hts hinX5 hown hK hP 0 rfl rfl 3 (by decide) (hts (.fieldLink RX5 33 "BarredRungs" "ways" "LBarredRungs$Ways;") (List.mem_of_getElem? (i := 4) rfl)) (fun _ h9 => h9) rfl dX5_plain_33 ?_
      refine lv_aload_n hx hb dX5_plain_36 rfl (lv_at hl 0 rfl) ?_
      refine va_get (D := g.1) (ci := 5) (v := .ref ((ad 4) 0)) (C := RX5) (T := TX5) (N := 5) hx hb hts hinX5 hown hK hP 0 rfl rfl 0 (by decide) (hts (.fieldLink RX5 12 "BarredRungs" "now" "LBarredRungs$State;") (List.mem_of_getElem? (i := 3) rfl)) (fun _ h9 => h9) rfl dX5_plain_37 ?_
      refine lv_iload_n hx hb dX5_plain_40 rfl (lv_at hl 1 rfl) ?_
      refine lv_iload_n hx hb dX5_plain_41 rfl (lv_at hl 2 rfl) ?_
      obtain ⟨r5, kr5, h⟩ := bd_ex h
      have hP8 : va_P g.1 vwCl ((cRt ad ++ (cTx g (ad 1) tx ++ (cIs g (ad 2) is))) ++ ((cWa g (ad 3) wa ++ (cSt g (ad 4) st)) ++ (cHi g (ad 5) (ad 6) hi))) _ := hP
      have hD8 : va_D A ((cRt ad ++ (cTx g (ad 1) tx ++ (cIs g (ad 2) is))) ++ ((cWa g (ad 3) wa ++ (cSt g (ad 4) st)) ++ (cHi g (ad 5) (ad 6) hi))) := hD
      refine aft_f (st1 := [.int r5]) rfl (cRt ad ++ (cTx g (ad 1) tx ++ (cIs g (ad 2) is))) (cHi g (ad 5) (ad 6) hi) (runV (As := [.ref ((ad 4) 0), .int p1, .int p2]) (rest := []) ⟨hx, hb, hml, hown, hts⟩ (kX4_byLinksAlone l g (ad 3) (ad 4) kr5) (cwV 3 hts gX5_plain_X4_byLinksAlone rfl rfl rfl hdX4_byLinksAlone ⟨Nat.le_of_ble_eq_true rfl, Nat.le_of_ble_eq_true rfl⟩) hK hN hP8.right.left hD8.right.left (va_recv hK hP (ci := 4) (q0 := 5) rfl rfl) rfl hl.1 rfl (Nat.le_of_ble_eq_true rfl) dX5_plain_42 ⟨Nat.zero_le _, Nat.zero_le _⟩) hP8 hD8 hS hA (fun H locs hP hD hS => ?_)
      have hP : va_P g.1 vwCl (cRt ad ++ (cTx g (ad 1) tx ++ (cIs g (ad 2) is ++ (cWa g (ad 3) wa ++ (cSt g (ad 4) st ++ (cHi g (ad 5) (ad 6) hi)))))) H := hP
      have hD : va_D A (cRt ad ++ (cTx g (ad 1) tx ++ (cIs g (ad 2) is ++ (cWa g (ad 3) wa ++ (cSt g (ad 4) st ++ (cHi g (ad 5) (ad 6) hi)))))) := hD
      cases h
    · have h := if_t c4 h
      exact hthrow _ _ _ _ 66 192 70 "no such word" hP hD hS hl.1 (by decide +kernel) (hts (.classLink RX5 66 "java/lang/IndexOutOfBoundsException") (List.mem_of_getElem? (i := 1) rfl)) (hts (.initialized "java/lang/IndexOutOfBoundsException") (List.mem_of_getElem? (i := 2) rfl)) (fun w h9 => hts w (List.mem_cons_of_mem _ (List.mem_append_right _ h9))) (by decide +kernel) (by decide +kernel) dX5_plain_22 dX5_plain_25 dX5_plain_26 dX5_plain_28 dX5_plain_31
abbrev rtX5_put : Room := { frames := 6, cells := 1, slots := 6, locals := 102 }
set_option maxRecDepth 100000 in
set_option maxHeartbeats 8000000 in
theorem tX5_put_1 (l : Launch) (hst : l.stackTraces = false) (g : GG) (ad : Nat → Nat → Nat) {tx : Tx} {is : Is} {wa : Wa} {st : St} {hi : Hi} {p1 : Int32} {p2 : Int32} {p3 : Int32} (h : fX5_put tx is wa st hi p1 p2 p3 = some (.inl 1)) : CT l g yX5_put wsX5_put rtX5_put [.ref ((ad 0) 0), .int p1, .int p2, .int p3] (cRt ad ++ (cTx g (ad 1) tx ++ (cIs g (ad 2) is ++ (cWa g (ad 3) wa ++ (cSt g (ad 4) st ++ (cHi g (ad 5) (ad 6) hi)))))) "java/lang/IndexOutOfBoundsException" := by
  refine CT_of hst (cc := cX5_put) (maxL := 4) (ret := (some .int)) (by decide +kernel) (by decide) (by decide) rfl rfl rfl (by decide +kernel) rfl (Nat.le_of_ble_eq_true rfl) ?_
  intro p e su m args below meth c A Q ls hx hb hml hown hts hK hN hA hnm hP hD hS hl hthrow
  have hinX5 : ∀ w ∈ u_ws RX5 TX5 5, w ∈ wsX5_put := fun _ h9 => List.mem_cons_of_mem _ (List.mem_append_left _ (List.mem_append_left _ (List.mem_append_left _ (List.mem_append_left _ (List.mem_append_left _ (List.mem_append_left _ (List.mem_append_right _ h9)))))))
  have hinX2 : ∀ w ∈ u_ws RX2 TX2 17, w ∈ wsX5_put := fun _ h9 => List.mem_cons_of_mem _ (List.mem_append_left _ (List.mem_append_left _ (List.mem_append_left _ (List.mem_append_left _ (List.mem_append_left _ (List.mem_append_right _ h9))))))
  have hinX0 : ∀ w ∈ u_ws RX0 TX0 4, w ∈ wsX5_put := fun _ h9 => List.mem_cons_of_mem _ (List.mem_append_left _ (List.mem_append_left _ (List.mem_append_left _ (List.mem_append_left _ (List.mem_append_right _ h9)))))
  have hinX4 : ∀ w ∈ u_ws RX4 TX4 4, w ∈ wsX5_put := fun _ h9 => List.mem_cons_of_mem _ (List.mem_append_left _ (List.mem_append_left _ (List.mem_append_left _ (List.mem_append_right _ h9))))
  unfold fX5_put at h
  have hl : lv_has ls 4 [(0, .ref ((ad 0) 0)), (1, .int p1), (2, .int p2), (3, .int p3)] := hl
  refine lv_iload_n hx hb dX5_put_0 rfl (lv_at hl 1 rfl) ?_
  obtain ⟨r1, kr1, h⟩ := bd_ex h
  refine aft_e (st1 := [.int r1]) rfl (runS (As := [.int p1]) (rest := []) ⟨hx, hb, hml, hown, hts⟩ (kX5_isClimber l g kr1) (va_cwS 1 hts gX5_put_X5_isClimber rfl rfl rfl hdX5_isClimber.2 ⟨Nat.le_of_ble_eq_true rfl, Nat.le_of_ble_eq_true rfl⟩) hK hN nilP (nilD (A := A)) rfl hl.1 rfl (Nat.le_of_ble_eq_true rfl) dX5_put_1 ⟨Nat.zero_le _, Nat.zero_le _⟩) hP hS hA (fun H locs hP hS => ?_)
  refine lv_if_eq (tgt := 29) hx hb dX5_put_4 (by decide) (fun c2 => ?_) (fun c2 => ?_)
  · have h := if_t c2 h
    exact hthrow _ _ _ _ 66 98 70 "no such climber or word" hP hD hS hl.1 (by decide +kernel) (hts (.classLink RX5 66 "java/lang/IndexOutOfBoundsException") (List.mem_of_getElem? (i := 1) rfl)) (hts (.initialized "java/lang/IndexOutOfBoundsException") (List.mem_of_getElem? (i := 2) rfl)) (fun w h9 => hts w (List.mem_cons_of_mem _ (List.mem_append_left _ (List.mem_append_left _ (List.mem_append_right _ h9))))) (by decide +kernel) (by decide +kernel) dX5_put_29 dX5_put_32 dX5_put_33 dX5_put_35 dX5_put_38
  · have h := if_f c2 h
    refine lv_aload_n hx hb dX5_put_7 rfl (lv_at hl 0 rfl) ?_
    refine va_get (D := g.1) (ci := 5) (v := .ref ((ad 4) 0)) (C := RX5) (T := TX5) (N := 5) hx hb hts hinX5 hown hK hP 0 rfl rfl 0 (by decide) (hts (.fieldLink RX5 12 "BarredRungs" "now" "LBarredRungs$State;") (List.mem_of_getElem? (i := 7) rfl)) (fun _ h9 => h9) rfl dX5_put_8 ?_
    refine lv_iload_n hx hb dX5_put_11 rfl (lv_at hl 2 rfl) ?_
    obtain ⟨r3, kr3, h⟩ := bd_ex h
    have hP8 : va_P g.1 vwCl ((cRt ad ++ (cTx g (ad 1) tx ++ (cIs g (ad 2) is ++ (cWa g (ad 3) wa)))) ++ ((cSt g (ad 4) st) ++ (cHi g (ad 5) (ad 6) hi))) _ := hP
    have hD8 : va_D A ((cRt ad ++ (cTx g (ad 1) tx ++ (cIs g (ad 2) is ++ (cWa g (ad 3) wa)))) ++ ((cSt g (ad 4) st) ++ (cHi g (ad 5) (ad 6) hi))) := hD
    refine aft_f (st1 := [.int r3]) rfl (cRt ad ++ (cTx g (ad 1) tx ++ (cIs g (ad 2) is ++ (cWa g (ad 3) wa)))) (cHi g (ad 5) (ad 6) hi) (runV (As := [.int p2]) (rest := []) ⟨hx, hb, hml, hown, hts⟩ (kX2_hasWord l g (ad 4) kr3) (cwV 1 hts gX5_put_X2_hasWord rfl rfl rfl hdX2_hasWord ⟨Nat.le_of_ble_eq_true rfl, Nat.le_of_ble_eq_true rfl⟩) hK hN hP8.right.left hD8.right.left (va_recv hK hP (ci := 2) (q0 := 10) rfl rfl) rfl hl.1 rfl (Nat.le_of_ble_eq_true rfl) dX5_put_12 ⟨Nat.zero_le _, Nat.zero_le _⟩) hP8 hD8 hS hA (fun H locs hP hD hS => ?_)
    have hP : va_P g.1 vwCl (cRt ad ++ (cTx g (ad 1) tx ++ (cIs g (ad 2) is ++ (cWa g (ad 3) wa ++ (cSt g (ad 4) st ++ (cHi g (ad 5) (ad 6) hi)))))) H := hP
    have hD : va_D A (cRt ad ++ (cTx g (ad 1) tx ++ (cIs g (ad 2) is ++ (cWa g (ad 3) wa ++ (cSt g (ad 4) st ++ (cHi g (ad 5) (ad 6) hi)))))) := hD
    refine lv_if_eq (tgt := 29) hx hb dX5_put_15 (by decide) (fun c4 => ?_) (fun c4 => ?_)
    · have h := if_t c4 h
      exact hthrow _ _ _ _ 66 98 70 "no such climber or word" hP hD hS hl.1 (by decide +kernel) (hts (.classLink RX5 66 "java/lang/IndexOutOfBoundsException") (List.mem_of_getElem? (i := 1) rfl)) (hts (.initialized "java/lang/IndexOutOfBoundsException") (List.mem_of_getElem? (i := 2) rfl)) (fun w h9 => hts w (List.mem_cons_of_mem _ (List.mem_append_left _ (List.mem_append_left _ (List.mem_append_right _ h9))))) (by decide +kernel) (by decide +kernel) dX5_put_29 dX5_put_32 dX5_put_33 dX5_put_35 dX5_put_38
    · have h := if_f c4 h
      refine lv_aload_n hx hb dX5_put_18 rfl (lv_at hl 0 rfl) ?_
      refine va_get (D := g.1) (ci := 5) (v := .ref ((ad 4) 0)) (C := RX5) (T := TX5) (N := 5) hx hb hts hinX5 hown hK hP 0 rfl rfl 0 (by decide) (hts (.fieldLink RX5 12 "BarredRungs" "now" "LBarredRungs$State;") (List.mem_of_getElem? (i := 7) rfl)) (fun _ h9 => h9) rfl dX5_put_19 ?_
      refine lv_iload_n hx hb dX5_put_22 rfl (lv_at hl 3 rfl) ?_
      obtain ⟨r5, kr5, h⟩ := bd_ex h
      have hP8 : va_P g.1 vwCl ((cRt ad ++ (cTx g (ad 1) tx ++ (cIs g (ad 2) is ++ (cWa g (ad 3) wa)))) ++ ((cSt g (ad 4) st) ++ (cHi g (ad 5) (ad 6) hi))) _ := hP
      have hD8 : va_D A ((cRt ad ++ (cTx g (ad 1) tx ++ (cIs g (ad 2) is ++ (cWa g (ad 3) wa)))) ++ ((cSt g (ad 4) st) ++ (cHi g (ad 5) (ad 6) hi))) := hD
      refine aft_f (st1 := [.int r5]) rfl (cRt ad ++ (cTx g (ad 1) tx ++ (cIs g (ad 2) is ++ (cWa g (ad 3) wa)))) (cHi g (ad 5) (ad 6) hi) (runV (As := [.int p3]) (rest := []) ⟨hx, hb, hml, hown, hts⟩ (kX2_hasWord l g (ad 4) kr5) (cwV 1 hts gX5_put_X2_hasWord rfl rfl rfl hdX2_hasWord ⟨Nat.le_of_ble_eq_true rfl, Nat.le_of_ble_eq_true rfl⟩) hK hN hP8.right.left hD8.right.left (va_recv hK hP (ci := 2) (q0 := 10) rfl rfl) rfl hl.1 rfl (Nat.le_of_ble_eq_true rfl) dX5_put_23 ⟨Nat.zero_le _, Nat.zero_le _⟩) hP8 hD8 hS hA (fun H locs hP hD hS => ?_)
      have hP : va_P g.1 vwCl (cRt ad ++ (cTx g (ad 1) tx ++ (cIs g (ad 2) is ++ (cWa g (ad 3) wa ++ (cSt g (ad 4) st ++ (cHi g (ad 5) (ad 6) hi)))))) H := hP
      have hD : va_D A (cRt ad ++ (cTx g (ad 1) tx ++ (cIs g (ad 2) is ++ (cWa g (ad 3) wa ++ (cSt g (ad 4) st ++ (cHi g (ad 5) (ad 6) hi)))))) := hD
      refine lv_if_ne (tgt := 39) hx hb dX5_put_26 (by decide) (fun c6 => ?_) (fun c6 => ?_)
      · have h := if_f c6 h
        refine lv_iload_n hx hb dX5_put_39 rfl (lv_at hl 2 rfl) ?_
        refine lv_iload_n hx hb dX5_put_40 rfl (lv_at hl 3 rfl) ?_
        refine lv_icmp_ne (tgt := 54) hx hb dX5_put_41 (by decide) (fun c7 => ?_) (fun c7 => ?_)
        · have h := if_f c7 h
          refine lv_aload_n hx hb dX5_put_54 rfl (lv_at hl 0 rfl) ?_
          refine va_get (D := g.1) (ci := 5) (v := .ref ((ad 4) 0)) (C := RX5) (T := TX5) (N := 5) hx hb hts hinX5 hown hK hP 0 rfl rfl 0 (by decide) (hts (.fieldLink RX5 12 "BarredRungs" "now" "LBarredRungs$State;") (List.mem_of_getElem? (i := 7) rfl)) (fun _ h9 => h9) rfl dX5_put_55 ?_
          refine lv_iload_n hx hb dX5_put_58 rfl (lv_at hl 1 rfl) ?_
          obtain ⟨r8, kr8, h⟩ := bd_ex h
          have hP8 : va_P g.1 vwCl ((cRt ad ++ (cTx g (ad 1) tx ++ (cIs g (ad 2) is ++ (cWa g (ad 3) wa)))) ++ ((cSt g (ad 4) st) ++ (cHi g (ad 5) (ad 6) hi))) _ := hP
          have hD8 : va_D A ((cRt ad ++ (cTx g (ad 1) tx ++ (cIs g (ad 2) is ++ (cWa g (ad 3) wa)))) ++ ((cSt g (ad 4) st) ++ (cHi g (ad 5) (ad 6) hi))) := hD
          refine aft_f (st1 := [.int r8]) rfl (cRt ad ++ (cTx g (ad 1) tx ++ (cIs g (ad 2) is ++ (cWa g (ad 3) wa)))) (cHi g (ad 5) (ad 6) hi) (runV (As := [.int p1]) (rest := []) ⟨hx, hb, hml, hown, hts⟩ (kX2_wordUnder l g (ad 4) kr8) (cwV 1 hts gX5_put_X2_wordUnder rfl rfl rfl hdX2_wordUnder ⟨Nat.le_of_ble_eq_true rfl, Nat.le_of_ble_eq_true rfl⟩) hK hN hP8.right.left hD8.right.left (va_recv hK hP (ci := 2) (q0 := 10) rfl rfl) rfl hl.1 rfl (Nat.le_of_ble_eq_true rfl) dX5_put_59 ⟨Nat.zero_le _, Nat.zero_le _⟩) hP8 hD8 hS hA (fun H locs hP hD hS => ?_)
          have hP : va_P g.1 vwCl (cRt ad ++ (cTx g (ad 1) tx ++ (cIs g (ad 2) is ++ (cWa g (ad 3) wa ++ (cSt g (ad 4) st ++ (cHi g (ad 5) (ad 6) hi)))))) H := hP
          have hD : va_D A (cRt ad ++ (cTx g (ad 1) tx ++ (cIs g (ad 2) is ++ (cWa g (ad 3) wa ++ (cSt g (ad 4) st ++ (cHi g (ad 5) (ad 6) hi)))))) := hD
          refine lv_iconst (v := -1) hx hb dX5_put_62 (by decide) ?_
          refine lv_icmp_ne (tgt := 90) hx hb dX5_put_63 (by decide) (fun c9 => ?_) (fun c9 => ?_)
          · have h := if_f c9 h
            exact absurd (Sum.inl.inj (some_i h)) (by decide)
          · have h := if_t c9 h
            refine lv_aload_n hx hb dX5_put_66 rfl (lv_at hl 0 rfl) ?_
            refine va_get (D := g.1) (ci := 5) (v := .ref ((ad 4) 0)) (C := RX5) (T := TX5) (N := 5) hx hb hts hinX5 hown hK hP 0 rfl rfl 0 (by decide) (hts (.fieldLink RX5 12 "BarredRungs" "now" "LBarredRungs$State;") (List.mem_of_getElem? (i := 7) rfl)) (fun _ h9 => h9) rfl dX5_put_67 ?_
            refine lv_iload_n hx hb dX5_put_70 rfl (lv_at hl 2 rfl) ?_
            obtain ⟨r10, kr10, h⟩ := bd_ex h
            have hP8 : va_P g.1 vwCl ((cRt ad ++ (cTx g (ad 1) tx ++ (cIs g (ad 2) is ++ (cWa g (ad 3) wa)))) ++ ((cSt g (ad 4) st) ++ (cHi g (ad 5) (ad 6) hi))) _ := hP
            have hD8 : va_D A ((cRt ad ++ (cTx g (ad 1) tx ++ (cIs g (ad 2) is ++ (cWa g (ad 3) wa)))) ++ ((cSt g (ad 4) st) ++ (cHi g (ad 5) (ad 6) hi))) := hD
            refine aft_f (st1 := [.int r10]) rfl (cRt ad ++ (cTx g (ad 1) tx ++ (cIs g (ad 2) is ++ (cWa g (ad 3) wa)))) (cHi g (ad 5) (ad 6) hi) (runV (As := [.int p2]) (rest := []) ⟨hx, hb, hml, hown, hts⟩ (kX2_climberOn l g (ad 4) kr10) (cwV 1 hts gX5_put_X2_climberOn rfl rfl rfl hdX2_climberOn ⟨Nat.le_of_ble_eq_true rfl, Nat.le_of_ble_eq_true rfl⟩) hK hN hP8.right.left hD8.right.left (va_recv hK hP (ci := 2) (q0 := 10) rfl rfl) rfl hl.1 rfl (Nat.le_of_ble_eq_true rfl) dX5_put_71 ⟨Nat.zero_le _, Nat.zero_le _⟩) hP8 hD8 hS hA (fun H locs hP hD hS => ?_)
            have hP : va_P g.1 vwCl (cRt ad ++ (cTx g (ad 1) tx ++ (cIs g (ad 2) is ++ (cWa g (ad 3) wa ++ (cSt g (ad 4) st ++ (cHi g (ad 5) (ad 6) hi)))))) H := hP
            have hD : va_D A (cRt ad ++ (cTx g (ad 1) tx ++ (cIs g (ad 2) is ++ (cWa g (ad 3) wa ++ (cSt g (ad 4) st ++ (cHi g (ad 5) (ad 6) hi)))))) := hD
            refine lv_iconst (v := -1) hx hb dX5_put_74 (by decide) ?_
            refine lv_icmp_ne (tgt := 90) hx hb dX5_put_75 (by decide) (fun c11 => ?_) (fun c11 => ?_)
            · have h := if_f c11 h
              exact absurd (Sum.inl.inj (some_i h)) (by decide)
            · have h := if_t c11 h
              refine lv_aload_n hx hb dX5_put_78 rfl (lv_at hl 0 rfl) ?_
              refine va_get (D := g.1) (ci := 5) (v := .ref ((ad 4) 0)) (C := RX5) (T := TX5) (N := 5) hx hb hts hinX5 hown hK hP 0 rfl rfl 0 (by decide) (hts (.fieldLink RX5 12 "BarredRungs" "now" "LBarredRungs$State;") (List.mem_of_getElem? (i := 7) rfl)) (fun _ h9 => h9) rfl dX5_put_79 ?_
              refine lv_iload_n hx hb dX5_put_82 rfl (lv_at hl 2 rfl) ?_
              refine lv_iconst (v := 0) hx hb dX5_put_83 (by decide) ?_
              obtain ⟨r12, kr12, h⟩ := bd_ex h
              have hP8 : va_P g.1 vwCl ((cRt ad ++ (cTx g (ad 1) tx ++ (cIs g (ad 2) is ++ (cWa g (ad 3) wa)))) ++ ((cSt g (ad 4) st) ++ (cHi g (ad 5) (ad 6) hi))) _ := hP
              have hD8 : va_D A ((cRt ad ++ (cTx g (ad 1) tx ++ (cIs g (ad 2) is ++ (cWa g (ad 3) wa)))) ++ ((cSt g (ad 4) st) ++ (cHi g (ad 5) (ad 6) hi))) := hD
              refine aft_f (st1 := [.int r12]) rfl (cRt ad ++ (cTx g (ad 1) tx ++ (cIs g (ad 2) is ++ (cWa g (ad 3) wa)))) (cHi g (ad 5) (ad 6) hi) (runV (As := [.int p2, .int (0 : Int32)]) (rest := []) ⟨hx, hb, hml, hown, hts⟩ (kX2_isBarredAfter l g (ad 4) kr12) (cwV 2 hts gX5_put_X2_isBarredAfter rfl rfl rfl hdX2_isBarredAfter ⟨Nat.le_of_ble_eq_true rfl, Nat.le_of_ble_eq_true rfl⟩) hK hN hP8.right.left hD8.right.left (va_recv hK hP (ci := 2) (q0 := 10) rfl rfl) rfl hl.1 rfl (Nat.le_of_ble_eq_true rfl) dX5_put_84 ⟨Nat.zero_le _, Nat.zero_le _⟩) hP8 hD8 hS hA (fun H locs hP hD hS => ?_)
              have hP : va_P g.1 vwCl (cRt ad ++ (cTx g (ad 1) tx ++ (cIs g (ad 2) is ++ (cWa g (ad 3) wa ++ (cSt g (ad 4) st ++ (cHi g (ad 5) (ad 6) hi)))))) H := hP
              have hD : va_D A (cRt ad ++ (cTx g (ad 1) tx ++ (cIs g (ad 2) is ++ (cWa g (ad 3) wa ++ (cSt g (ad 4) st ++ (cHi g (ad 5) (ad 6) hi)))))) := hD
              refine lv_if_eq (tgt := 100) hx hb dX5_put_87 (by decide) (fun c13 => ?_) (fun c13 => ?_)
              · have h := if_t c13 h
                refine lv_aload_n hx hb dX5_put_100 rfl (lv_at hl 0 rfl) ?_
                refine va_get (D := g.1) (ci := 5) (v := .ref ((ad 5) 0)) (C := RX5) (T := TX5) (N := 5) hx hb hts hinX5 hown hK hP 0 rfl rfl 1 (by decide) (hts (.fieldLink RX5 19 "BarredRungs" "history" "LBarredRungs$History;") (List.mem_of_getElem? (i := 8) rfl)) (fun _ h9 => h9) rfl dX5_put_101 ?_
                refine lv_aload_n hx hb dX5_put_104 rfl (lv_at hl 0 rfl) ?_
                refine va_get (D := g.1) (ci := 5) (v := .ref ((ad 4) 0)) (C := RX5) (T := TX5) (N := 5) hx hb hts hinX5 hown hK hP 0 rfl rfl 0 (by decide) (hts (.fieldLink RX5 12 "BarredRungs" "now" "LBarredRungs$State;") (List.mem_of_getElem? (i := 7) rfl)) (fun _ h9 => h9) rfl dX5_put_105 ?_
                obtain ⟨hi14, khi14, h⟩ := bd_ex h
                have hP8 : va_P g.1 vwCl ((cRt ad ++ (cTx g (ad 1) tx ++ (cIs g (ad 2) is ++ (cWa g (ad 3) wa)))) ++ ((cSt g (ad 4) st ++ (cHi g (ad 5) (ad 6) hi)) ++ [])) _ := hP
                have hD8 : va_D A ((cRt ad ++ (cTx g (ad 1) tx ++ (cIs g (ad 2) is ++ (cWa g (ad 3) wa)))) ++ ((cSt g (ad 4) st ++ (cHi g (ad 5) (ad 6) hi)) ++ [])) := hD
                refine aft_f (st1 := []) rfl (cRt ad ++ (cTx g (ad 1) tx ++ (cIs g (ad 2) is ++ (cWa g (ad 3) wa)))) [] (runV (As := [.ref ((ad 4) 0)]) (rest := []) ⟨hx, hb, hml, hown, hts⟩ (kX0_save l g (ad 4) (ad 5) (ad 6) khi14) (cwV 1 hts gX5_put_X0_save rfl rfl rfl hdX0_save ⟨Nat.le_of_ble_eq_true rfl, Nat.le_of_ble_eq_true rfl⟩) hK hN hP8.right.left hD8.right.left (va_recv hK hP (ci := 0) (q0 := 20) rfl rfl) rfl hl.1 rfl (Nat.le_of_ble_eq_true rfl) dX5_put_108 ⟨Nat.zero_le _, Nat.zero_le _⟩) hP8 hD8 hS hA (fun H locs hP hD hS => ?_)
                have hP : va_P g.1 vwCl (cRt ad ++ (cTx g (ad 1) tx ++ (cIs g (ad 2) is ++ (cWa g (ad 3) wa ++ (cSt g (ad 4) st ++ (cHi g (ad 5) (ad 6) hi14)))))) H := hP
                have hD : va_D A (cRt ad ++ (cTx g (ad 1) tx ++ (cIs g (ad 2) is ++ (cWa g (ad 3) wa ++ (cSt g (ad 4) st ++ (cHi g (ad 5) (ad 6) hi14)))))) := hD
                refine lv_aload_n hx hb dX5_put_111 rfl (lv_at hl 0 rfl) ?_
                refine va_get (D := g.1) (ci := 5) (v := .ref ((ad 4) 0)) (C := RX5) (T := TX5) (N := 5) hx hb hts hinX5 hown hK hP 0 rfl rfl 0 (by decide) (hts (.fieldLink RX5 12 "BarredRungs" "now" "LBarredRungs$State;") (List.mem_of_getElem? (i := 7) rfl)) (fun _ h9 => h9) rfl dX5_put_112 ?_
                refine lv_iload_n hx hb dX5_put_115 rfl (lv_at hl 1 rfl) ?_
                refine lv_iload_n hx hb dX5_put_116 rfl (lv_at hl 2 rfl) ?_
                refine lv_iload_n hx hb dX5_put_117 rfl (lv_at hl 3 rfl) ?_
                obtain ⟨st15, kst15, h⟩ := bd_ex h
                have hP8 : va_P g.1 vwCl ((cRt ad ++ (cTx g (ad 1) tx ++ (cIs g (ad 2) is ++ (cWa g (ad 3) wa)))) ++ ((cSt g (ad 4) st) ++ (cHi g (ad 5) (ad 6) hi14))) _ := hP
                have hD8 : va_D A ((cRt ad ++ (cTx g (ad 1) tx ++ (cIs g (ad 2) is ++ (cWa g (ad 3) wa)))) ++ ((cSt g (ad 4) st) ++ (cHi g (ad 5) (ad 6) hi14))) := hD
                refine aft_f (st1 := []) rfl (cRt ad ++ (cTx g (ad 1) tx ++ (cIs g (ad 2) is ++ (cWa g (ad 3) wa)))) (cHi g (ad 5) (ad 6) hi14) (runV (As := [.int p1, .int p2, .int p3]) (rest := []) ⟨hx, hb, hml, hown, hts⟩ (kX2_putOn l g (ad 4) kst15) (cwV 3 hts gX5_put_X2_putOn rfl rfl rfl hdX2_putOn ⟨Nat.le_of_ble_eq_true rfl, Nat.le_of_ble_eq_true rfl⟩) hK hN hP8.right.left hD8.right.left (va_recv hK hP (ci := 2) (q0 := 10) rfl rfl) rfl hl.1 rfl (Nat.le_of_ble_eq_true rfl) dX5_put_118 ⟨Nat.zero_le _, Nat.zero_le _⟩) hP8 hD8 hS hA (fun H locs hP hD hS => ?_)
                have hP : va_P g.1 vwCl (cRt ad ++ (cTx g (ad 1) tx ++ (cIs g (ad 2) is ++ (cWa g (ad 3) wa ++ (cSt g (ad 4) st15 ++ (cHi g (ad 5) (ad 6) hi14)))))) H := hP
                have hD : va_D A (cRt ad ++ (cTx g (ad 1) tx ++ (cIs g (ad 2) is ++ (cWa g (ad 3) wa ++ (cSt g (ad 4) st15 ++ (cHi g (ad 5) (ad 6) hi14)))))) := hD
                refine lv_aload_n hx hb dX5_put_121 rfl (lv_at hl 0 rfl) ?_
                refine va_get (D := g.1) (ci := 5) (v := .ref ((ad 3) 0)) (C := RX5) (T := TX5) (N := 5) hx hb hts hinX5 hown hK hP 0 rfl rfl 3 (by decide) (hts (.fieldLink RX5 33 "BarredRungs" "ways" "LBarredRungs$Ways;") (List.mem_of_getElem? (i := 9) rfl)) (fun _ h9 => h9) rfl dX5_put_122 ?_
                refine lv_aload_n hx hb dX5_put_125 rfl (lv_at hl 0 rfl) ?_
                refine va_get (D := g.1) (ci := 5) (v := .ref ((ad 4) 0)) (C := RX5) (T := TX5) (N := 5) hx hb hts hinX5 hown hK hP 0 rfl rfl 0 (by decide) (hts (.fieldLink RX5 12 "BarredRungs" "now" "LBarredRungs$State;") (List.mem_of_getElem? (i := 7) rfl)) (fun _ h9 => h9) rfl dX5_put_126 ?_
                refine lv_iload_n hx hb dX5_put_129 rfl (lv_at hl 2 rfl) ?_
                refine lv_iload_n hx hb dX5_put_130 rfl (lv_at hl 3 rfl) ?_
                refine lv_iconst (v := 0) hx hb dX5_put_131 (by decide) ?_
                obtain ⟨r16, wa17, kr16, h⟩ := bd2_ex h
                have hP8 : va_P g.1 vwCl ((cRt ad ++ (cTx g (ad 1) tx ++ (cIs g (ad 2) is))) ++ ((cWa g (ad 3) wa ++ (cSt g (ad 4) st15)) ++ (cHi g (ad 5) (ad 6) hi14))) _ := hP
                have hD8 : va_D A ((cRt ad ++ (cTx g (ad 1) tx ++ (cIs g (ad 2) is))) ++ ((cWa g (ad 3) wa ++ (cSt g (ad 4) st15)) ++ (cHi g (ad 5) (ad 6) hi14))) := hD
                refine aft_f (st1 := [.int r16]) rfl (cRt ad ++ (cTx g (ad 1) tx ++ (cIs g (ad 2) is))) (cHi g (ad 5) (ad 6) hi14) (runV (As := [.ref ((ad 4) 0), .int p2, .int p3, .int (0 : Int32)]) (rest := []) ⟨hx, hb, hml, hown, hts⟩ (kX4_onward l g (ad 3) (ad 4) kr16) (cwV 4 hts gX5_put_X4_onward rfl rfl rfl hdX4_onward ⟨Nat.le_of_ble_eq_true rfl, Nat.le_of_ble_eq_true rfl⟩) hK hN hP8.right.left hD8.right.left (va_recv hK hP (ci := 4) (q0 := 5) rfl rfl) rfl hl.1 rfl (Nat.le_of_ble_eq_true rfl) dX5_put_132 ⟨Nat.zero_le _, Nat.zero_le _⟩) hP8 hD8 hS hA (fun H locs hP hD hS => ?_)
                have hP : va_P g.1 vwCl (cRt ad ++ (cTx g (ad 1) tx ++ (cIs g (ad 2) is ++ (cWa g (ad 3) wa17 ++ (cSt g (ad 4) st15 ++ (cHi g (ad 5) (ad 6) hi14)))))) H := hP
                have hD : va_D A (cRt ad ++ (cTx g (ad 1) tx ++ (cIs g (ad 2) is ++ (cWa g (ad 3) wa17 ++ (cSt g (ad 4) st15 ++ (cHi g (ad 5) (ad 6) hi14)))))) := hD
                cases h
              · have h := if_f c13 h
                exact absurd (Sum.inl.inj (some_i h)) (by decide)
        · have h := if_t c7 h
          exact absurd (Sum.inl.inj (some_i h)) (by decide)
      · have h := if_t c6 h
        exact hthrow _ _ _ _ 66 98 70 "no such climber or word" hP hD hS hl.1 (by decide +kernel) (hts (.classLink RX5 66 "java/lang/IndexOutOfBoundsException") (List.mem_of_getElem? (i := 1) rfl)) (hts (.initialized "java/lang/IndexOutOfBoundsException") (List.mem_of_getElem? (i := 2) rfl)) (fun w h9 => hts w (List.mem_cons_of_mem _ (List.mem_append_left _ (List.mem_append_left _ (List.mem_append_right _ h9))))) (by decide +kernel) (by decide +kernel) dX5_put_29 dX5_put_32 dX5_put_33 dX5_put_35 dX5_put_38
set_option maxRecDepth 100000 in
set_option maxHeartbeats 8000000 in
theorem tX5_put_2 (l : Launch) (hst : l.stackTraces = false) (g : GG) (ad : Nat → Nat → Nat) {tx : Tx} {is : Is} {wa : Wa} {st : St} {hi : Hi} {p1 : Int32} {p2 : Int32} {p3 : Int32} (h : fX5_put tx is wa st hi p1 p2 p3 = some (.inl 2)) : CT l g yX5_put wsX5_put rtX5_put [.ref ((ad 0) 0), .int p1, .int p2, .int p3] (cRt ad ++ (cTx g (ad 1) tx ++ (cIs g (ad 2) is ++ (cWa g (ad 3) wa ++ (cSt g (ad 4) st ++ (cHi g (ad 5) (ad 6) hi)))))) "java/lang/IllegalArgumentException" := by
  refine CT_of hst (cc := cX5_put) (maxL := 4) (ret := (some .int)) (by decide +kernel) (by decide) (by decide) rfl rfl rfl (by decide +kernel) rfl (Nat.le_of_ble_eq_true rfl) ?_
  intro p e su m args below meth c A Q ls hx hb hml hown hts hK hN hA hnm hP hD hS hl hthrow
  have hinX5 : ∀ w ∈ u_ws RX5 TX5 5, w ∈ wsX5_put := fun _ h9 => List.mem_cons_of_mem _ (List.mem_append_left _ (List.mem_append_left _ (List.mem_append_left _ (List.mem_append_left _ (List.mem_append_left _ (List.mem_append_left _ (List.mem_append_right _ h9)))))))
  have hinX2 : ∀ w ∈ u_ws RX2 TX2 17, w ∈ wsX5_put := fun _ h9 => List.mem_cons_of_mem _ (List.mem_append_left _ (List.mem_append_left _ (List.mem_append_left _ (List.mem_append_left _ (List.mem_append_left _ (List.mem_append_right _ h9))))))
  have hinX0 : ∀ w ∈ u_ws RX0 TX0 4, w ∈ wsX5_put := fun _ h9 => List.mem_cons_of_mem _ (List.mem_append_left _ (List.mem_append_left _ (List.mem_append_left _ (List.mem_append_left _ (List.mem_append_right _ h9)))))
  have hinX4 : ∀ w ∈ u_ws RX4 TX4 4, w ∈ wsX5_put := fun _ h9 => List.mem_cons_of_mem _ (List.mem_append_left _ (List.mem_append_left _ (List.mem_append_left _ (List.mem_append_right _ h9))))
  unfold fX5_put at h
  have hl : lv_has ls 4 [(0, .ref ((ad 0) 0)), (1, .int p1), (2, .int p2), (3, .int p3)] := hl
  refine lv_iload_n hx hb dX5_put_0 rfl (lv_at hl 1 rfl) ?_
  obtain ⟨r1, kr1, h⟩ := bd_ex h
  refine aft_e (st1 := [.int r1]) rfl (runS (As := [.int p1]) (rest := []) ⟨hx, hb, hml, hown, hts⟩ (kX5_isClimber l g kr1) (va_cwS 1 hts gX5_put_X5_isClimber rfl rfl rfl hdX5_isClimber.2 ⟨Nat.le_of_ble_eq_true rfl, Nat.le_of_ble_eq_true rfl⟩) hK hN nilP (nilD (A := A)) rfl hl.1 rfl (Nat.le_of_ble_eq_true rfl) dX5_put_1 ⟨Nat.zero_le _, Nat.zero_le _⟩) hP hS hA (fun H locs hP hS => ?_)
  refine lv_if_eq (tgt := 29) hx hb dX5_put_4 (by decide) (fun c2 => ?_) (fun c2 => ?_)
  · have h := if_t c2 h
    exact absurd (Sum.inl.inj (some_i h)) (by decide)
  · have h := if_f c2 h
    refine lv_aload_n hx hb dX5_put_7 rfl (lv_at hl 0 rfl) ?_
    refine va_get (D := g.1) (ci := 5) (v := .ref ((ad 4) 0)) (C := RX5) (T := TX5) (N := 5) hx hb hts hinX5 hown hK hP 0 rfl rfl 0 (by decide) (hts (.fieldLink RX5 12 "BarredRungs" "now" "LBarredRungs$State;") (List.mem_of_getElem? (i := 7) rfl)) (fun _ h9 => h9) rfl dX5_put_8 ?_
    refine lv_iload_n hx hb dX5_put_11 rfl (lv_at hl 2 rfl) ?_
    obtain ⟨r3, kr3, h⟩ := bd_ex h
    have hP8 : va_P g.1 vwCl ((cRt ad ++ (cTx g (ad 1) tx ++ (cIs g (ad 2) is ++ (cWa g (ad 3) wa)))) ++ ((cSt g (ad 4) st) ++ (cHi g (ad 5) (ad 6) hi))) _ := hP
    have hD8 : va_D A ((cRt ad ++ (cTx g (ad 1) tx ++ (cIs g (ad 2) is ++ (cWa g (ad 3) wa)))) ++ ((cSt g (ad 4) st) ++ (cHi g (ad 5) (ad 6) hi))) := hD
    refine aft_f (st1 := [.int r3]) rfl (cRt ad ++ (cTx g (ad 1) tx ++ (cIs g (ad 2) is ++ (cWa g (ad 3) wa)))) (cHi g (ad 5) (ad 6) hi) (runV (As := [.int p2]) (rest := []) ⟨hx, hb, hml, hown, hts⟩ (kX2_hasWord l g (ad 4) kr3) (cwV 1 hts gX5_put_X2_hasWord rfl rfl rfl hdX2_hasWord ⟨Nat.le_of_ble_eq_true rfl, Nat.le_of_ble_eq_true rfl⟩) hK hN hP8.right.left hD8.right.left (va_recv hK hP (ci := 2) (q0 := 10) rfl rfl) rfl hl.1 rfl (Nat.le_of_ble_eq_true rfl) dX5_put_12 ⟨Nat.zero_le _, Nat.zero_le _⟩) hP8 hD8 hS hA (fun H locs hP hD hS => ?_)
    have hP : va_P g.1 vwCl (cRt ad ++ (cTx g (ad 1) tx ++ (cIs g (ad 2) is ++ (cWa g (ad 3) wa ++ (cSt g (ad 4) st ++ (cHi g (ad 5) (ad 6) hi)))))) H := hP
    have hD : va_D A (cRt ad ++ (cTx g (ad 1) tx ++ (cIs g (ad 2) is ++ (cWa g (ad 3) wa ++ (cSt g (ad 4) st ++ (cHi g (ad 5) (ad 6) hi)))))) := hD
    refine lv_if_eq (tgt := 29) hx hb dX5_put_15 (by decide) (fun c4 => ?_) (fun c4 => ?_)
    · have h := if_t c4 h
      exact absurd (Sum.inl.inj (some_i h)) (by decide)
    · have h := if_f c4 h
      refine lv_aload_n hx hb dX5_put_18 rfl (lv_at hl 0 rfl) ?_
      refine va_get (D := g.1) (ci := 5) (v := .ref ((ad 4) 0)) (C := RX5) (T := TX5) (N := 5) hx hb hts hinX5 hown hK hP 0 rfl rfl 0 (by decide) (hts (.fieldLink RX5 12 "BarredRungs" "now" "LBarredRungs$State;") (List.mem_of_getElem? (i := 7) rfl)) (fun _ h9 => h9) rfl dX5_put_19 ?_
      refine lv_iload_n hx hb dX5_put_22 rfl (lv_at hl 3 rfl) ?_
      obtain ⟨r5, kr5, h⟩ := bd_ex h
      have hP8 : va_P g.1 vwCl ((cRt ad ++ (cTx g (ad 1) tx ++ (cIs g (ad 2) is ++ (cWa g (ad 3) wa)))) ++ ((cSt g (ad 4) st) ++ (cHi g (ad 5) (ad 6) hi))) _ := hP
      have hD8 : va_D A ((cRt ad ++ (cTx g (ad 1) tx ++ (cIs g (ad 2) is ++ (cWa g (ad 3) wa)))) ++ ((cSt g (ad 4) st) ++ (cHi g (ad 5) (ad 6) hi))) := hD
      refine aft_f (st1 := [.int r5]) rfl (cRt ad ++ (cTx g (ad 1) tx ++ (cIs g (ad 2) is ++ (cWa g (ad 3) wa)))) (cHi g (ad 5) (ad 6) hi) (runV (As := [.int p3]) (rest := []) ⟨hx, hb, hml, hown, hts⟩ (kX2_hasWord l g (ad 4) kr5) (cwV 1 hts gX5_put_X2_hasWord rfl rfl rfl hdX2_hasWord ⟨Nat.le_of_ble_eq_true rfl, Nat.le_of_ble_eq_true rfl⟩) hK hN hP8.right.left hD8.right.left (va_recv hK hP (ci := 2) (q0 := 10) rfl rfl) rfl hl.1 rfl (Nat.le_of_ble_eq_true rfl) dX5_put_23 ⟨Nat.zero_le _, Nat.zero_le _⟩) hP8 hD8 hS hA (fun H locs hP hD hS => ?_)
      have hP : va_P g.1 vwCl (cRt ad ++ (cTx g (ad 1) tx ++ (cIs g (ad 2) is ++ (cWa g (ad 3) wa ++ (cSt g (ad 4) st ++ (cHi g (ad 5) (ad 6) hi)))))) H := hP
      have hD : va_D A (cRt ad ++ (cTx g (ad 1) tx ++ (cIs g (ad 2) is ++ (cWa g (ad 3) wa ++ (cSt g (ad 4) st ++ (cHi g (ad 5) (ad 6) hi)))))) := hD
      refine lv_if_ne (tgt := 39) hx hb dX5_put_26 (by decide) (fun c6 => ?_) (fun c6 => ?_)
      · have h := if_f c6 h
        refine lv_iload_n hx hb dX5_put_39 rfl (lv_at hl 2 rfl) ?_
        refine lv_iload_n hx hb dX5_put_40 rfl (lv_at hl 3 rfl) ?_
        refine lv_icmp_ne (tgt := 54) hx hb dX5_put_41 (by decide) (fun c7 => ?_) (fun c7 => ?_)
        · have h := if_f c7 h
          refine lv_aload_n hx hb dX5_put_54 rfl (lv_at hl 0 rfl) ?_
          refine va_get (D := g.1) (ci := 5) (v := .ref ((ad 4) 0)) (C := RX5) (T := TX5) (N := 5) hx hb hts hinX5 hown hK hP 0 rfl rfl 0 (by decide) (hts (.fieldLink RX5 12 "BarredRungs" "now" "LBarredRungs$State;") (List.mem_of_getElem? (i := 7) rfl)) (fun _ h9 => h9) rfl dX5_put_55 ?_
          refine lv_iload_n hx hb dX5_put_58 rfl (lv_at hl 1 rfl) ?_
          obtain ⟨r8, kr8, h⟩ := bd_ex h
          have hP8 : va_P g.1 vwCl ((cRt ad ++ (cTx g (ad 1) tx ++ (cIs g (ad 2) is ++ (cWa g (ad 3) wa)))) ++ ((cSt g (ad 4) st) ++ (cHi g (ad 5) (ad 6) hi))) _ := hP
          have hD8 : va_D A ((cRt ad ++ (cTx g (ad 1) tx ++ (cIs g (ad 2) is ++ (cWa g (ad 3) wa)))) ++ ((cSt g (ad 4) st) ++ (cHi g (ad 5) (ad 6) hi))) := hD
          refine aft_f (st1 := [.int r8]) rfl (cRt ad ++ (cTx g (ad 1) tx ++ (cIs g (ad 2) is ++ (cWa g (ad 3) wa)))) (cHi g (ad 5) (ad 6) hi) (runV (As := [.int p1]) (rest := []) ⟨hx, hb, hml, hown, hts⟩ (kX2_wordUnder l g (ad 4) kr8) (cwV 1 hts gX5_put_X2_wordUnder rfl rfl rfl hdX2_wordUnder ⟨Nat.le_of_ble_eq_true rfl, Nat.le_of_ble_eq_true rfl⟩) hK hN hP8.right.left hD8.right.left (va_recv hK hP (ci := 2) (q0 := 10) rfl rfl) rfl hl.1 rfl (Nat.le_of_ble_eq_true rfl) dX5_put_59 ⟨Nat.zero_le _, Nat.zero_le _⟩) hP8 hD8 hS hA (fun H locs hP hD hS => ?_)
          have hP : va_P g.1 vwCl (cRt ad ++ (cTx g (ad 1) tx ++ (cIs g (ad 2) is ++ (cWa g (ad 3) wa ++ (cSt g (ad 4) st ++ (cHi g (ad 5) (ad 6) hi)))))) H := hP
          have hD : va_D A (cRt ad ++ (cTx g (ad 1) tx ++ (cIs g (ad 2) is ++ (cWa g (ad 3) wa ++ (cSt g (ad 4) st ++ (cHi g (ad 5) (ad 6) hi)))))) := hD
          refine lv_iconst (v := -1) hx hb dX5_put_62 (by decide) ?_
          refine lv_icmp_ne (tgt := 90) hx hb dX5_put_63 (by decide) (fun c9 => ?_) (fun c9 => ?_)
          · have h := if_f c9 h
            exact absurd (Sum.inl.inj (some_i h)) (by decide)
          · have h := if_t c9 h
            refine lv_aload_n hx hb dX5_put_66 rfl (lv_at hl 0 rfl) ?_
            refine va_get (D := g.1) (ci := 5) (v := .ref ((ad 4) 0)) (C := RX5) (T := TX5) (N := 5) hx hb hts hinX5 hown hK hP 0 rfl rfl 0 (by decide) (hts (.fieldLink RX5 12 "BarredRungs" "now" "LBarredRungs$State;") (List.mem_of_getElem? (i := 7) rfl)) (fun _ h9 => h9) rfl dX5_put_67 ?_
            refine lv_iload_n hx hb dX5_put_70 rfl (lv_at hl 2 rfl) ?_
            obtain ⟨r10, kr10, h⟩ := bd_ex h
            have hP8 : va_P g.1 vwCl ((cRt ad ++ (cTx g (ad 1) tx ++ (cIs g (ad 2) is ++ (cWa g (ad 3) wa)))) ++ ((cSt g (ad 4) st) ++ (cHi g (ad 5) (ad 6) hi))) _ := hP
            have hD8 : va_D A ((cRt ad ++ (cTx g (ad 1) tx ++ (cIs g (ad 2) is ++ (cWa g (ad 3) wa)))) ++ ((cSt g (ad 4) st) ++ (cHi g (ad 5) (ad 6) hi))) := hD
            refine aft_f (st1 := [.int r10]) rfl (cRt ad ++ (cTx g (ad 1) tx ++ (cIs g (ad 2) is ++ (cWa g (ad 3) wa)))) (cHi g (ad 5) (ad 6) hi) (runV (As := [.int p2]) (rest := []) ⟨hx, hb, hml, hown, hts⟩ (kX2_climberOn l g (ad 4) kr10) (cwV 1 hts gX5_put_X2_climberOn rfl rfl rfl hdX2_climberOn ⟨Nat.le_of_ble_eq_true rfl, Nat.le_of_ble_eq_true rfl⟩) hK hN hP8.right.left hD8.right.left (va_recv hK hP (ci := 2) (q0 := 10) rfl rfl) rfl hl.1 rfl (Nat.le_of_ble_eq_true rfl) dX5_put_71 ⟨Nat.zero_le _, Nat.zero_le _⟩) hP8 hD8 hS hA (fun H locs hP hD hS => ?_)
            have hP : va_P g.1 vwCl (cRt ad ++ (cTx g (ad 1) tx ++ (cIs g (ad 2) is ++ (cWa g (ad 3) wa ++ (cSt g (ad 4) st ++ (cHi g (ad 5) (ad 6) hi)))))) H := hP
            have hD : va_D A (cRt ad ++ (cTx g (ad 1) tx ++ (cIs g (ad 2) is ++ (cWa g (ad 3) wa ++ (cSt g (ad 4) st ++ (cHi g (ad 5) (ad 6) hi)))))) := hD
            refine lv_iconst (v := -1) hx hb dX5_put_74 (by decide) ?_
            refine lv_icmp_ne (tgt := 90) hx hb dX5_put_75 (by decide) (fun c11 => ?_) (fun c11 => ?_)
            · have h := if_f c11 h
              exact absurd (Sum.inl.inj (some_i h)) (by decide)
            · have h := if_t c11 h
              refine lv_aload_n hx hb dX5_put_78 rfl (lv_at hl 0 rfl) ?_
              refine va_get (D := g.1) (ci := 5) (v := .ref ((ad 4) 0)) (C := RX5) (T := TX5) (N := 5) hx hb hts hinX5 hown hK hP 0 rfl rfl 0 (by decide) (hts (.fieldLink RX5 12 "BarredRungs" "now" "LBarredRungs$State;") (List.mem_of_getElem? (i := 7) rfl)) (fun _ h9 => h9) rfl dX5_put_79 ?_
              refine lv_iload_n hx hb dX5_put_82 rfl (lv_at hl 2 rfl) ?_
              refine lv_iconst (v := 0) hx hb dX5_put_83 (by decide) ?_
              obtain ⟨r12, kr12, h⟩ := bd_ex h
              have hP8 : va_P g.1 vwCl ((cRt ad ++ (cTx g (ad 1) tx ++ (cIs g (ad 2) is ++ (cWa g (ad 3) wa)))) ++ ((cSt g (ad 4) st) ++ (cHi g (ad 5) (ad 6) hi))) _ := hP
              have hD8 : va_D A ((cRt ad ++ (cTx g (ad 1) tx ++ (cIs g (ad 2) is ++ (cWa g (ad 3) wa)))) ++ ((cSt g (ad 4) st) ++ (cHi g (ad 5) (ad 6) hi))) := hD
              refine aft_f (st1 := [.int r12]) rfl (cRt ad ++ (cTx g (ad 1) tx ++ (cIs g (ad 2) is ++ (cWa g (ad 3) wa)))) (cHi g (ad 5) (ad 6) hi) (runV (As := [.int p2, .int (0 : Int32)]) (rest := []) ⟨hx, hb, hml, hown, hts⟩ (kX2_isBarredAfter l g (ad 4) kr12) (cwV 2 hts gX5_put_X2_isBarredAfter rfl rfl rfl hdX2_isBarredAfter ⟨Nat.le_of_ble_eq_true rfl, Nat.le_of_ble_eq_true rfl⟩) hK hN hP8.right.left hD8.right.left (va_recv hK hP (ci := 2) (q0 := 10) rfl rfl) rfl hl.1 rfl (Nat.le_of_ble_eq_true rfl) dX5_put_84 ⟨Nat.zero_le _, Nat.zero_le _⟩) hP8 hD8 hS hA (fun H locs hP hD hS => ?_)
              have hP : va_P g.1 vwCl (cRt ad ++ (cTx g (ad 1) tx ++ (cIs g (ad 2) is ++ (cWa g (ad 3) wa ++ (cSt g (ad 4) st ++ (cHi g (ad 5) (ad 6) hi)))))) H := hP
              have hD : va_D A (cRt ad ++ (cTx g (ad 1) tx ++ (cIs g (ad 2) is ++ (cWa g (ad 3) wa ++ (cSt g (ad 4) st ++ (cHi g (ad 5) (ad 6) hi)))))) := hD
              refine lv_if_eq (tgt := 100) hx hb dX5_put_87 (by decide) (fun c13 => ?_) (fun c13 => ?_)
              · have h := if_t c13 h
                refine lv_aload_n hx hb dX5_put_100 rfl (lv_at hl 0 rfl) ?_
                refine va_get (D := g.1) (ci := 5) (v := .ref ((ad 5) 0)) (C := RX5) (T := TX5) (N := 5) hx hb hts hinX5 hown hK hP 0 rfl rfl 1 (by decide) (hts (.fieldLink RX5 19 "BarredRungs" "history" "LBarredRungs$History;") (List.mem_of_getElem? (i := 8) rfl)) (fun _ h9 => h9) rfl dX5_put_101 ?_
                refine lv_aload_n hx hb dX5_put_104 rfl (lv_at hl 0 rfl) ?_
                refine va_get (D := g.1) (ci := 5) (v := .ref ((ad 4) 0)) (C := RX5) (T := TX5) (N := 5) hx hb hts hinX5 hown hK hP 0 rfl rfl 0 (by decide) (hts (.fieldLink RX5 12 "BarredRungs" "now" "LBarredRungs$State;") (List.mem_of_getElem? (i := 7) rfl)) (fun _ h9 => h9) rfl dX5_put_105 ?_
                obtain ⟨hi14, khi14, h⟩ := bd_ex h
                have hP8 : va_P g.1 vwCl ((cRt ad ++ (cTx g (ad 1) tx ++ (cIs g (ad 2) is ++ (cWa g (ad 3) wa)))) ++ ((cSt g (ad 4) st ++ (cHi g (ad 5) (ad 6) hi)) ++ [])) _ := hP
                have hD8 : va_D A ((cRt ad ++ (cTx g (ad 1) tx ++ (cIs g (ad 2) is ++ (cWa g (ad 3) wa)))) ++ ((cSt g (ad 4) st ++ (cHi g (ad 5) (ad 6) hi)) ++ [])) := hD
                refine aft_f (st1 := []) rfl (cRt ad ++ (cTx g (ad 1) tx ++ (cIs g (ad 2) is ++ (cWa g (ad 3) wa)))) [] (runV (As := [.ref ((ad 4) 0)]) (rest := []) ⟨hx, hb, hml, hown, hts⟩ (kX0_save l g (ad 4) (ad 5) (ad 6) khi14) (cwV 1 hts gX5_put_X0_save rfl rfl rfl hdX0_save ⟨Nat.le_of_ble_eq_true rfl, Nat.le_of_ble_eq_true rfl⟩) hK hN hP8.right.left hD8.right.left (va_recv hK hP (ci := 0) (q0 := 20) rfl rfl) rfl hl.1 rfl (Nat.le_of_ble_eq_true rfl) dX5_put_108 ⟨Nat.zero_le _, Nat.zero_le _⟩) hP8 hD8 hS hA (fun H locs hP hD hS => ?_)
                have hP : va_P g.1 vwCl (cRt ad ++ (cTx g (ad 1) tx ++ (cIs g (ad 2) is ++ (cWa g (ad 3) wa ++ (cSt g (ad 4) st ++ (cHi g (ad 5) (ad 6) hi14)))))) H := hP
                have hD : va_D A (cRt ad ++ (cTx g (ad 1) tx ++ (cIs g (ad 2) is ++ (cWa g (ad 3) wa ++ (cSt g (ad 4) st ++ (cHi g (ad 5) (ad 6) hi14)))))) := hD
                refine lv_aload_n hx hb dX5_put_111 rfl (lv_at hl 0 rfl) ?_
                refine va_get (D := g.1) (ci := 5) (v := .ref ((ad 4) 0)) (C := RX5) (T := TX5) (N := 5) hx hb hts hinX5 hown hK hP 0 rfl rfl 0 (by decide) (hts (.fieldLink RX5 12 "BarredRungs" "now" "LBarredRungs$State;") (List.mem_of_getElem? (i := 7) rfl)) (fun _ h9 => h9) rfl dX5_put_112 ?_
                refine lv_iload_n hx hb dX5_put_115 rfl (lv_at hl 1 rfl) ?_
                refine lv_iload_n hx hb dX5_put_116 rfl (lv_at hl 2 rfl) ?_
                refine lv_iload_n hx hb dX5_put_117 rfl (lv_at hl 3 rfl) ?_
                obtain ⟨st15, kst15, h⟩ := bd_ex h
                have hP8 : va_P g.1 vwCl ((cRt ad ++ (cTx g (ad 1) tx ++ (cIs g (ad 2) is ++ (cWa g (ad 3) wa)))) ++ ((cSt g (ad 4) st) ++ (cHi g (ad 5) (ad 6) hi14))) _ := hP
                have hD8 : va_D A ((cRt ad ++ (cTx g (ad 1) tx ++ (cIs g (ad 2) is ++ (cWa g (ad 3) wa)))) ++ ((cSt g (ad 4) st) ++ (cHi g (ad 5) (ad 6) hi14))) := hD
                refine aft_f (st1 := []) rfl (cRt ad ++ (cTx g (ad 1) tx ++ (cIs g (ad 2) is ++ (cWa g (ad 3) wa)))) (cHi g (ad 5) (ad 6) hi14) (runV (As := [.int p1, .int p2, .int p3]) (rest := []) ⟨hx, hb, hml, hown, hts⟩ (kX2_putOn l g (ad 4) kst15) (cwV 3 hts gX5_put_X2_putOn rfl rfl rfl hdX2_putOn ⟨Nat.le_of_ble_eq_true rfl, Nat.le_of_ble_eq_true rfl⟩) hK hN hP8.right.left hD8.right.left (va_recv hK hP (ci := 2) (q0 := 10) rfl rfl) rfl hl.1 rfl (Nat.le_of_ble_eq_true rfl) dX5_put_118 ⟨Nat.zero_le _, Nat.zero_le _⟩) hP8 hD8 hS hA (fun H locs hP hD hS => ?_)
                have hP : va_P g.1 vwCl (cRt ad ++ (cTx g (ad 1) tx ++ (cIs g (ad 2) is ++ (cWa g (ad 3) wa ++ (cSt g (ad 4) st15 ++ (cHi g (ad 5) (ad 6) hi14)))))) H := hP
                have hD : va_D A (cRt ad ++ (cTx g (ad 1) tx ++ (cIs g (ad 2) is ++ (cWa g (ad 3) wa ++ (cSt g (ad 4) st15 ++ (cHi g (ad 5) (ad 6) hi14)))))) := hD
                refine lv_aload_n hx hb dX5_put_121 rfl (lv_at hl 0 rfl) ?_
                refine va_get (D := g.1) (ci := 5) (v := .ref ((ad 3) 0)) (C := RX5) (T := TX5) (N := 5) hx hb hts hinX5 hown hK hP 0 rfl rfl 3 (by decide) (hts (.fieldLink RX5 33 "BarredRungs" "ways" "LBarredRungs$Ways;") (List.mem_of_getElem? (i := 9) rfl)) (fun _ h9 => h9) rfl dX5_put_122 ?_
                refine lv_aload_n hx hb dX5_put_125 rfl (lv_at hl 0 rfl) ?_
                refine va_get (D := g.1) (ci := 5) (v := .ref ((ad 4) 0)) (C := RX5) (T := TX5) (N := 5) hx hb hts hinX5 hown hK hP 0 rfl rfl 0 (by decide) (hts (.fieldLink RX5 12 "BarredRungs" "now" "LBarredRungs$State;") (List.mem_of_getElem? (i := 7) rfl)) (fun _ h9 => h9) rfl dX5_put_126 ?_
                refine lv_iload_n hx hb dX5_put_129 rfl (lv_at hl 2 rfl) ?_
                refine lv_iload_n hx hb dX5_put_130 rfl (lv_at hl 3 rfl) ?_
                refine lv_iconst (v := 0) hx hb dX5_put_131 (by decide) ?_
                obtain ⟨r16, wa17, kr16, h⟩ := bd2_ex h
                have hP8 : va_P g.1 vwCl ((cRt ad ++ (cTx g (ad 1) tx ++ (cIs g (ad 2) is))) ++ ((cWa g (ad 3) wa ++ (cSt g (ad 4) st15)) ++ (cHi g (ad 5) (ad 6) hi14))) _ := hP
                have hD8 : va_D A ((cRt ad ++ (cTx g (ad 1) tx ++ (cIs g (ad 2) is))) ++ ((cWa g (ad 3) wa ++ (cSt g (ad 4) st15)) ++ (cHi g (ad 5) (ad 6) hi14))) := hD
                refine aft_f (st1 := [.int r16]) rfl (cRt ad ++ (cTx g (ad 1) tx ++ (cIs g (ad 2) is))) (cHi g (ad 5) (ad 6) hi14) (runV (As := [.ref ((ad 4) 0), .int p2, .int p3, .int (0 : Int32)]) (rest := []) ⟨hx, hb, hml, hown, hts⟩ (kX4_onward l g (ad 3) (ad 4) kr16) (cwV 4 hts gX5_put_X4_onward rfl rfl rfl hdX4_onward ⟨Nat.le_of_ble_eq_true rfl, Nat.le_of_ble_eq_true rfl⟩) hK hN hP8.right.left hD8.right.left (va_recv hK hP (ci := 4) (q0 := 5) rfl rfl) rfl hl.1 rfl (Nat.le_of_ble_eq_true rfl) dX5_put_132 ⟨Nat.zero_le _, Nat.zero_le _⟩) hP8 hD8 hS hA (fun H locs hP hD hS => ?_)
                have hP : va_P g.1 vwCl (cRt ad ++ (cTx g (ad 1) tx ++ (cIs g (ad 2) is ++ (cWa g (ad 3) wa17 ++ (cSt g (ad 4) st15 ++ (cHi g (ad 5) (ad 6) hi14)))))) H := hP
                have hD : va_D A (cRt ad ++ (cTx g (ad 1) tx ++ (cIs g (ad 2) is ++ (cWa g (ad 3) wa17 ++ (cSt g (ad 4) st15 ++ (cHi g (ad 5) (ad 6) hi14)))))) := hD
                cases h
              · have h := if_f c13 h
                exact absurd (Sum.inl.inj (some_i h)) (by decide)
        · have h := if_t c7 h
          exact hthrow _ _ _ _ 48 100 52 "both words are the same" hP hD hS hl.1 (by decide +kernel) (hts (.classLink RX5 48 "java/lang/IllegalArgumentException") (List.mem_of_getElem? (i := 3) rfl)) (hts (.initialized "java/lang/IllegalArgumentException") (List.mem_of_getElem? (i := 4) rfl)) (fun w h9 => hts w (List.mem_cons_of_mem _ (List.mem_append_left _ (List.mem_append_right _ h9)))) (by decide +kernel) (by decide +kernel) dX5_put_44 dX5_put_47 dX5_put_48 dX5_put_50 dX5_put_53
      · have h := if_t c6 h
        exact absurd (Sum.inl.inj (some_i h)) (by decide)
set_option maxRecDepth 100000 in
set_option maxHeartbeats 8000000 in
theorem tX5_put_3 (l : Launch) (hst : l.stackTraces = false) (g : GG) (ad : Nat → Nat → Nat) {tx : Tx} {is : Is} {wa : Wa} {st : St} {hi : Hi} {p1 : Int32} {p2 : Int32} {p3 : Int32} (h : fX5_put tx is wa st hi p1 p2 p3 = some (.inl 3)) : CT l g yX5_put wsX5_put rtX5_put [.ref ((ad 0) 0), .int p1, .int p2, .int p3] (cRt ad ++ (cTx g (ad 1) tx ++ (cIs g (ad 2) is ++ (cWa g (ad 3) wa ++ (cSt g (ad 4) st ++ (cHi g (ad 5) (ad 6) hi)))))) "java/lang/IllegalStateException" := by
  refine CT_of hst (cc := cX5_put) (maxL := 4) (ret := (some .int)) (by decide +kernel) (by decide) (by decide) rfl rfl rfl (by decide +kernel) rfl (Nat.le_of_ble_eq_true rfl) ?_
  intro p e su m args below meth c A Q ls hx hb hml hown hts hK hN hA hnm hP hD hS hl hthrow
  have hinX5 : ∀ w ∈ u_ws RX5 TX5 5, w ∈ wsX5_put := fun _ h9 => List.mem_cons_of_mem _ (List.mem_append_left _ (List.mem_append_left _ (List.mem_append_left _ (List.mem_append_left _ (List.mem_append_left _ (List.mem_append_left _ (List.mem_append_right _ h9)))))))
  have hinX2 : ∀ w ∈ u_ws RX2 TX2 17, w ∈ wsX5_put := fun _ h9 => List.mem_cons_of_mem _ (List.mem_append_left _ (List.mem_append_left _ (List.mem_append_left _ (List.mem_append_left _ (List.mem_append_left _ (List.mem_append_right _ h9))))))
  have hinX0 : ∀ w ∈ u_ws RX0 TX0 4, w ∈ wsX5_put := fun _ h9 => List.mem_cons_of_mem _ (List.mem_append_left _ (List.mem_append_left _ (List.mem_append_left _ (List.mem_append_left _ (List.mem_append_right _ h9)))))
  have hinX4 : ∀ w ∈ u_ws RX4 TX4 4, w ∈ wsX5_put := fun _ h9 => List.mem_cons_of_mem _ (List.mem_append_left _ (List.mem_append_left _ (List.mem_append_left _ (List.mem_append_right _ h9))))
  unfold fX5_put at h
  have hl : lv_has ls 4 [(0, .ref ((ad 0) 0)), (1, .int p1), (2, .int p2), (3, .int p3)] := hl
  refine lv_iload_n hx hb dX5_put_0 rfl (lv_at hl 1 rfl) ?_
  obtain ⟨r1, kr1, h⟩ := bd_ex h
  refine aft_e (st1 := [.int r1]) rfl (runS (As := [.int p1]) (rest := []) ⟨hx, hb, hml, hown, hts⟩ (kX5_isClimber l g kr1) (va_cwS 1 hts gX5_put_X5_isClimber rfl rfl rfl hdX5_isClimber.2 ⟨Nat.le_of_ble_eq_true rfl, Nat.le_of_ble_eq_true rfl⟩) hK hN nilP (nilD (A := A)) rfl hl.1 rfl (Nat.le_of_ble_eq_true rfl) dX5_put_1 ⟨Nat.zero_le _, Nat.zero_le _⟩) hP hS hA (fun H locs hP hS => ?_)
  refine lv_if_eq (tgt := 29) hx hb dX5_put_4 (by decide) (fun c2 => ?_) (fun c2 => ?_)
  · have h := if_t c2 h
    exact absurd (Sum.inl.inj (some_i h)) (by decide)
  · have h := if_f c2 h
    refine lv_aload_n hx hb dX5_put_7 rfl (lv_at hl 0 rfl) ?_
    refine va_get (D := g.1) (ci := 5) (v := .ref ((ad 4) 0)) (C := RX5) (T := TX5) (N := 5) hx hb hts hinX5 hown hK hP 0 rfl rfl 0 (by decide) (hts (.fieldLink RX5 12 "BarredRungs" "now" "LBarredRungs$State;") (List.mem_of_getElem? (i := 7) rfl)) (fun _ h9 => h9) rfl dX5_put_8 ?_
    refine lv_iload_n hx hb dX5_put_11 rfl (lv_at hl 2 rfl) ?_
    obtain ⟨r3, kr3, h⟩ := bd_ex h
    have hP8 : va_P g.1 vwCl ((cRt ad ++ (cTx g (ad 1) tx ++ (cIs g (ad 2) is ++ (cWa g (ad 3) wa)))) ++ ((cSt g (ad 4) st) ++ (cHi g (ad 5) (ad 6) hi))) _ := hP
    have hD8 : va_D A ((cRt ad ++ (cTx g (ad 1) tx ++ (cIs g (ad 2) is ++ (cWa g (ad 3) wa)))) ++ ((cSt g (ad 4) st) ++ (cHi g (ad 5) (ad 6) hi))) := hD
    refine aft_f (st1 := [.int r3]) rfl (cRt ad ++ (cTx g (ad 1) tx ++ (cIs g (ad 2) is ++ (cWa g (ad 3) wa)))) (cHi g (ad 5) (ad 6) hi) (runV (As := [.int p2]) (rest := []) ⟨hx, hb, hml, hown, hts⟩ (kX2_hasWord l g (ad 4) kr3) (cwV 1 hts gX5_put_X2_hasWord rfl rfl rfl hdX2_hasWord ⟨Nat.le_of_ble_eq_true rfl, Nat.le_of_ble_eq_true rfl⟩) hK hN hP8.right.left hD8.right.left (va_recv hK hP (ci := 2) (q0 := 10) rfl rfl) rfl hl.1 rfl (Nat.le_of_ble_eq_true rfl) dX5_put_12 ⟨Nat.zero_le _, Nat.zero_le _⟩) hP8 hD8 hS hA (fun H locs hP hD hS => ?_)
    have hP : va_P g.1 vwCl (cRt ad ++ (cTx g (ad 1) tx ++ (cIs g (ad 2) is ++ (cWa g (ad 3) wa ++ (cSt g (ad 4) st ++ (cHi g (ad 5) (ad 6) hi)))))) H := hP
    have hD : va_D A (cRt ad ++ (cTx g (ad 1) tx ++ (cIs g (ad 2) is ++ (cWa g (ad 3) wa ++ (cSt g (ad 4) st ++ (cHi g (ad 5) (ad 6) hi)))))) := hD
    refine lv_if_eq (tgt := 29) hx hb dX5_put_15 (by decide) (fun c4 => ?_) (fun c4 => ?_)
    · have h := if_t c4 h
      exact absurd (Sum.inl.inj (some_i h)) (by decide)
    · have h := if_f c4 h
      refine lv_aload_n hx hb dX5_put_18 rfl (lv_at hl 0 rfl) ?_
      refine va_get (D := g.1) (ci := 5) (v := .ref ((ad 4) 0)) (C := RX5) (T := TX5) (N := 5) hx hb hts hinX5 hown hK hP 0 rfl rfl 0 (by decide) (hts (.fieldLink RX5 12 "BarredRungs" "now" "LBarredRungs$State;") (List.mem_of_getElem? (i := 7) rfl)) (fun _ h9 => h9) rfl dX5_put_19 ?_
      refine lv_iload_n hx hb dX5_put_22 rfl (lv_at hl 3 rfl) ?_
      obtain ⟨r5, kr5, h⟩ := bd_ex h
      have hP8 : va_P g.1 vwCl ((cRt ad ++ (cTx g (ad 1) tx ++ (cIs g (ad 2) is ++ (cWa g (ad 3) wa)))) ++ ((cSt g (ad 4) st) ++ (cHi g (ad 5) (ad 6) hi))) _ := hP
      have hD8 : va_D A ((cRt ad ++ (cTx g (ad 1) tx ++ (cIs g (ad 2) is ++ (cWa g (ad 3) wa)))) ++ ((cSt g (ad 4) st) ++ (cHi g (ad 5) (ad 6) hi))) := hD
      refine aft_f (st1 := [.int r5]) rfl (cRt ad ++ (cTx g (ad 1) tx ++ (cIs g (ad 2) is ++ (cWa g (ad 3) wa)))) (cHi g (ad 5) (ad 6) hi) (runV (As := [.int p3]) (rest := []) ⟨hx, hb, hml, hown, hts⟩ (kX2_hasWord l g (ad 4) kr5) (cwV 1 hts gX5_put_X2_hasWord rfl rfl rfl hdX2_hasWord ⟨Nat.le_of_ble_eq_true rfl, Nat.le_of_ble_eq_true rfl⟩) hK hN hP8.right.left hD8.right.left (va_recv hK hP (ci := 2) (q0 := 10) rfl rfl) rfl hl.1 rfl (Nat.le_of_ble_eq_true rfl) dX5_put_23 ⟨Nat.zero_le _, Nat.zero_le _⟩) hP8 hD8 hS hA (fun H locs hP hD hS => ?_)
      have hP : va_P g.1 vwCl (cRt ad ++ (cTx g (ad 1) tx ++ (cIs g (ad 2) is ++ (cWa g (ad 3) wa ++ (cSt g (ad 4) st ++ (cHi g (ad 5) (ad 6) hi)))))) H := hP
      have hD : va_D A (cRt ad ++ (cTx g (ad 1) tx ++ (cIs g (ad 2) is ++ (cWa g (ad 3) wa ++ (cSt g (ad 4) st ++ (cHi g (ad 5) (ad 6) hi)))))) := hD
      refine lv_if_ne (tgt := 39) hx hb dX5_put_26 (by decide) (fun c6 => ?_) (fun c6 => ?_)
      · have h := if_f c6 h
        refine lv_iload_n hx hb dX5_put_39 rfl (lv_at hl 2 rfl) ?_
        refine lv_iload_n hx hb dX5_put_40 rfl (lv_at hl 3 rfl) ?_
        refine lv_icmp_ne (tgt := 54) hx hb dX5_put_41 (by decide) (fun c7 => ?_) (fun c7 => ?_)
        · have h := if_f c7 h
          refine lv_aload_n hx hb dX5_put_54 rfl (lv_at hl 0 rfl) ?_
          refine va_get (D := g.1) (ci := 5) (v := .ref ((ad 4) 0)) (C := RX5) (T := TX5) (N := 5) hx hb hts hinX5 hown hK hP 0 rfl rfl 0 (by decide) (hts (.fieldLink RX5 12 "BarredRungs" "now" "LBarredRungs$State;") (List.mem_of_getElem? (i := 7) rfl)) (fun _ h9 => h9) rfl dX5_put_55 ?_
          refine lv_iload_n hx hb dX5_put_58 rfl (lv_at hl 1 rfl) ?_
          obtain ⟨r8, kr8, h⟩ := bd_ex h
          have hP8 : va_P g.1 vwCl ((cRt ad ++ (cTx g (ad 1) tx ++ (cIs g (ad 2) is ++ (cWa g (ad 3) wa)))) ++ ((cSt g (ad 4) st) ++ (cHi g (ad 5) (ad 6) hi))) _ := hP
          have hD8 : va_D A ((cRt ad ++ (cTx g (ad 1) tx ++ (cIs g (ad 2) is ++ (cWa g (ad 3) wa)))) ++ ((cSt g (ad 4) st) ++ (cHi g (ad 5) (ad 6) hi))) := hD
          refine aft_f (st1 := [.int r8]) rfl (cRt ad ++ (cTx g (ad 1) tx ++ (cIs g (ad 2) is ++ (cWa g (ad 3) wa)))) (cHi g (ad 5) (ad 6) hi) (runV (As := [.int p1]) (rest := []) ⟨hx, hb, hml, hown, hts⟩ (kX2_wordUnder l g (ad 4) kr8) (cwV 1 hts gX5_put_X2_wordUnder rfl rfl rfl hdX2_wordUnder ⟨Nat.le_of_ble_eq_true rfl, Nat.le_of_ble_eq_true rfl⟩) hK hN hP8.right.left hD8.right.left (va_recv hK hP (ci := 2) (q0 := 10) rfl rfl) rfl hl.1 rfl (Nat.le_of_ble_eq_true rfl) dX5_put_59 ⟨Nat.zero_le _, Nat.zero_le _⟩) hP8 hD8 hS hA (fun H locs hP hD hS => ?_)
          have hP : va_P g.1 vwCl (cRt ad ++ (cTx g (ad 1) tx ++ (cIs g (ad 2) is ++ (cWa g (ad 3) wa ++ (cSt g (ad 4) st ++ (cHi g (ad 5) (ad 6) hi)))))) H := hP
          have hD : va_D A (cRt ad ++ (cTx g (ad 1) tx ++ (cIs g (ad 2) is ++ (cWa g (ad 3) wa ++ (cSt g (ad 4) st ++ (cHi g (ad 5) (ad 6) hi)))))) := hD
          refine lv_iconst (v := -1) hx hb dX5_put_62 (by decide) ?_
          refine lv_icmp_ne (tgt := 90) hx hb dX5_put_63 (by decide) (fun c9 => ?_) (fun c9 => ?_)
          · have h := if_f c9 h
            exact hthrow _ _ _ _ 112 114 116 "the climber can not be put there" hP hD hS hl.1 (by decide +kernel) (hts (.classLink RX5 112 "java/lang/IllegalStateException") (List.mem_of_getElem? (i := 5) rfl)) (hts (.initialized "java/lang/IllegalStateException") (List.mem_of_getElem? (i := 6) rfl)) (fun w h9 => hts w (List.mem_cons_of_mem _ (List.mem_append_right _ h9))) (by decide +kernel) (by decide +kernel) dX5_put_90 dX5_put_93 dX5_put_94 dX5_put_96 dX5_put_99
          · have h := if_t c9 h
            refine lv_aload_n hx hb dX5_put_66 rfl (lv_at hl 0 rfl) ?_
            refine va_get (D := g.1) (ci := 5) (v := .ref ((ad 4) 0)) (C := RX5) (T := TX5) (N := 5) hx hb hts hinX5 hown hK hP 0 rfl rfl 0 (by decide) (hts (.fieldLink RX5 12 "BarredRungs" "now" "LBarredRungs$State;") (List.mem_of_getElem? (i := 7) rfl)) (fun _ h9 => h9) rfl dX5_put_67 ?_
            refine lv_iload_n hx hb dX5_put_70 rfl (lv_at hl 2 rfl) ?_
            obtain ⟨r10, kr10, h⟩ := bd_ex h
            have hP8 : va_P g.1 vwCl ((cRt ad ++ (cTx g (ad 1) tx ++ (cIs g (ad 2) is ++ (cWa g (ad 3) wa)))) ++ ((cSt g (ad 4) st) ++ (cHi g (ad 5) (ad 6) hi))) _ := hP
            have hD8 : va_D A ((cRt ad ++ (cTx g (ad 1) tx ++ (cIs g (ad 2) is ++ (cWa g (ad 3) wa)))) ++ ((cSt g (ad 4) st) ++ (cHi g (ad 5) (ad 6) hi))) := hD
            refine aft_f (st1 := [.int r10]) rfl (cRt ad ++ (cTx g (ad 1) tx ++ (cIs g (ad 2) is ++ (cWa g (ad 3) wa)))) (cHi g (ad 5) (ad 6) hi) (runV (As := [.int p2]) (rest := []) ⟨hx, hb, hml, hown, hts⟩ (kX2_climberOn l g (ad 4) kr10) (cwV 1 hts gX5_put_X2_climberOn rfl rfl rfl hdX2_climberOn ⟨Nat.le_of_ble_eq_true rfl, Nat.le_of_ble_eq_true rfl⟩) hK hN hP8.right.left hD8.right.left (va_recv hK hP (ci := 2) (q0 := 10) rfl rfl) rfl hl.1 rfl (Nat.le_of_ble_eq_true rfl) dX5_put_71 ⟨Nat.zero_le _, Nat.zero_le _⟩) hP8 hD8 hS hA (fun H locs hP hD hS => ?_)
            have hP : va_P g.1 vwCl (cRt ad ++ (cTx g (ad 1) tx ++ (cIs g (ad 2) is ++ (cWa g (ad 3) wa ++ (cSt g (ad 4) st ++ (cHi g (ad 5) (ad 6) hi)))))) H := hP
            have hD : va_D A (cRt ad ++ (cTx g (ad 1) tx ++ (cIs g (ad 2) is ++ (cWa g (ad 3) wa ++ (cSt g (ad 4) st ++ (cHi g (ad 5) (ad 6) hi)))))) := hD
            refine lv_iconst (v := -1) hx hb dX5_put_74 (by decide) ?_
            refine lv_icmp_ne (tgt := 90) hx hb dX5_put_75 (by decide) (fun c11 => ?_) (fun c11 => ?_)
            · have h := if_f c11 h
              exact hthrow _ _ _ _ 112 114 116 "the climber can not be put there" hP hD hS hl.1 (by decide +kernel) (hts (.classLink RX5 112 "java/lang/IllegalStateException") (List.mem_of_getElem? (i := 5) rfl)) (hts (.initialized "java/lang/IllegalStateException") (List.mem_of_getElem? (i := 6) rfl)) (fun w h9 => hts w (List.mem_cons_of_mem _ (List.mem_append_right _ h9))) (by decide +kernel) (by decide +kernel) dX5_put_90 dX5_put_93 dX5_put_94 dX5_put_96 dX5_put_99
            · have h := if_t c11 h
              refine lv_aload_n hx hb dX5_put_78 rfl (lv_at hl 0 rfl) ?_
              refine va_get (D := g.1) (ci := 5) (v := .ref ((ad 4) 0)) (C := RX5) (T := TX5) (N := 5) hx hb hts hinX5 hown hK hP 0 rfl rfl 0 (by decide) (hts (.fieldLink RX5 12 "BarredRungs" "now" "LBarredRungs$State;") (List.mem_of_getElem? (i := 7) rfl)) (fun _ h9 => h9) rfl dX5_put_79 ?_
              refine lv_iload_n hx hb dX5_put_82 rfl (lv_at hl 2 rfl) ?_
              refine lv_iconst (v := 0) hx hb dX5_put_83 (by decide) ?_
              obtain ⟨r12, kr12, h⟩ := bd_ex h
              have hP8 : va_P g.1 vwCl ((cRt ad ++ (cTx g (ad 1) tx ++ (cIs g (ad 2) is ++ (cWa g (ad 3) wa)))) ++ ((cSt g (ad 4) st) ++ (cHi g (ad 5) (ad 6) hi))) _ := hP
              have hD8 : va_D A ((cRt ad ++ (cTx g (ad 1) tx ++ (cIs g (ad 2) is ++ (cWa g (ad 3) wa)))) ++ ((cSt g (ad 4) st) ++ (cHi g (ad 5) (ad 6) hi))) := hD
              refine aft_f (st1 := [.int r12]) rfl (cRt ad ++ (cTx g (ad 1) tx ++ (cIs g (ad 2) is ++ (cWa g (ad 3) wa)))) (cHi g (ad 5) (ad 6) hi) (runV (As := [.int p2, .int (0 : Int32)]) (rest := []) ⟨hx, hb, hml, hown, hts⟩ (kX2_isBarredAfter l g (ad 4) kr12) (cwV 2 hts gX5_put_X2_isBarredAfter rfl rfl rfl hdX2_isBarredAfter ⟨Nat.le_of_ble_eq_true rfl, Nat.le_of_ble_eq_true rfl⟩) hK hN hP8.right.left hD8.right.left (va_recv hK hP (ci := 2) (q0 := 10) rfl rfl) rfl hl.1 rfl (Nat.le_of_ble_eq_true rfl) dX5_put_84 ⟨Nat.zero_le _, Nat.zero_le _⟩) hP8 hD8 hS hA (fun H locs hP hD hS => ?_)
              have hP : va_P g.1 vwCl (cRt ad ++ (cTx g (ad 1) tx ++ (cIs g (ad 2) is ++ (cWa g (ad 3) wa ++ (cSt g (ad 4) st ++ (cHi g (ad 5) (ad 6) hi)))))) H := hP
              have hD : va_D A (cRt ad ++ (cTx g (ad 1) tx ++ (cIs g (ad 2) is ++ (cWa g (ad 3) wa ++ (cSt g (ad 4) st ++ (cHi g (ad 5) (ad 6) hi)))))) := hD
              refine lv_if_eq (tgt := 100) hx hb dX5_put_87 (by decide) (fun c13 => ?_) (fun c13 => ?_)
              · have h := if_t c13 h
                refine lv_aload_n hx hb dX5_put_100 rfl (lv_at hl 0 rfl) ?_
                refine va_get (D := g.1) (ci := 5) (v := .ref ((ad 5) 0)) (C := RX5) (T := TX5) (N := 5) hx hb hts hinX5 hown hK hP 0 rfl rfl 1 (by decide) (hts (.fieldLink RX5 19 "BarredRungs" "history" "LBarredRungs$History;") (List.mem_of_getElem? (i := 8) rfl)) (fun _ h9 => h9) rfl dX5_put_101 ?_
                refine lv_aload_n hx hb dX5_put_104 rfl (lv_at hl 0 rfl) ?_
                refine va_get (D := g.1) (ci := 5) (v := .ref ((ad 4) 0)) (C := RX5) (T := TX5) (N := 5) hx hb hts hinX5 hown hK hP 0 rfl rfl 0 (by decide) (hts (.fieldLink RX5 12 "BarredRungs" "now" "LBarredRungs$State;") (List.mem_of_getElem? (i := 7) rfl)) (fun _ h9 => h9) rfl dX5_put_105 ?_
                obtain ⟨hi14, khi14, h⟩ := bd_ex h
                have hP8 : va_P g.1 vwCl ((cRt ad ++ (cTx g (ad 1) tx ++ (cIs g (ad 2) is ++ (cWa g (ad 3) wa)))) ++ ((cSt g (ad 4) st ++ (cHi g (ad 5) (ad 6) hi)) ++ [])) _ := hP
                have hD8 : va_D A ((cRt ad ++ (cTx g (ad 1) tx ++ (cIs g (ad 2) is ++ (cWa g (ad 3) wa)))) ++ ((cSt g (ad 4) st ++ (cHi g (ad 5) (ad 6) hi)) ++ [])) := hD
                refine aft_f (st1 := []) rfl (cRt ad ++ (cTx g (ad 1) tx ++ (cIs g (ad 2) is ++ (cWa g (ad 3) wa)))) [] (runV (As := [.ref ((ad 4) 0)]) (rest := []) ⟨hx, hb, hml, hown, hts⟩ (kX0_save l g (ad 4) (ad 5) (ad 6) khi14) (cwV 1 hts gX5_put_X0_save rfl rfl rfl hdX0_save ⟨Nat.le_of_ble_eq_true rfl, Nat.le_of_ble_eq_true rfl⟩) hK hN hP8.right.left hD8.right.left (va_recv hK hP (ci := 0) (q0 := 20) rfl rfl) rfl hl.1 rfl (Nat.le_of_ble_eq_true rfl) dX5_put_108 ⟨Nat.zero_le _, Nat.zero_le _⟩) hP8 hD8 hS hA (fun H locs hP hD hS => ?_)
                have hP : va_P g.1 vwCl (cRt ad ++ (cTx g (ad 1) tx ++ (cIs g (ad 2) is ++ (cWa g (ad 3) wa ++ (cSt g (ad 4) st ++ (cHi g (ad 5) (ad 6) hi14)))))) H := hP
                have hD : va_D A (cRt ad ++ (cTx g (ad 1) tx ++ (cIs g (ad 2) is ++ (cWa g (ad 3) wa ++ (cSt g (ad 4) st ++ (cHi g (ad 5) (ad 6) hi14)))))) := hD
                refine lv_aload_n hx hb dX5_put_111 rfl (lv_at hl 0 rfl) ?_
                refine va_get (D := g.1) (ci := 5) (v := .ref ((ad 4) 0)) (C := RX5) (T := TX5) (N := 5) hx hb hts hinX5 hown hK hP 0 rfl rfl 0 (by decide) (hts (.fieldLink RX5 12 "BarredRungs" "now" "LBarredRungs$State;") (List.mem_of_getElem? (i := 7) rfl)) (fun _ h9 => h9) rfl dX5_put_112 ?_
                refine lv_iload_n hx hb dX5_put_115 rfl (lv_at hl 1 rfl) ?_
                refine lv_iload_n hx hb dX5_put_116 rfl (lv_at hl 2 rfl) ?_
                refine lv_iload_n hx hb dX5_put_117 rfl (lv_at hl 3 rfl) ?_
                obtain ⟨st15, kst15, h⟩ := bd_ex h
                have hP8 : va_P g.1 vwCl ((cRt ad ++ (cTx g (ad 1) tx ++ (cIs g (ad 2) is ++ (cWa g (ad 3) wa)))) ++ ((cSt g (ad 4) st) ++ (cHi g (ad 5) (ad 6) hi14))) _ := hP
                have hD8 : va_D A ((cRt ad ++ (cTx g (ad 1) tx ++ (cIs g (ad 2) is ++ (cWa g (ad 3) wa)))) ++ ((cSt g (ad 4) st) ++ (cHi g (ad 5) (ad 6) hi14))) := hD
                refine aft_f (st1 := []) rfl (cRt ad ++ (cTx g (ad 1) tx ++ (cIs g (ad 2) is ++ (cWa g (ad 3) wa)))) (cHi g (ad 5) (ad 6) hi14) (runV (As := [.int p1, .int p2, .int p3]) (rest := []) ⟨hx, hb, hml, hown, hts⟩ (kX2_putOn l g (ad 4) kst15) (cwV 3 hts gX5_put_X2_putOn rfl rfl rfl hdX2_putOn ⟨Nat.le_of_ble_eq_true rfl, Nat.le_of_ble_eq_true rfl⟩) hK hN hP8.right.left hD8.right.left (va_recv hK hP (ci := 2) (q0 := 10) rfl rfl) rfl hl.1 rfl (Nat.le_of_ble_eq_true rfl) dX5_put_118 ⟨Nat.zero_le _, Nat.zero_le _⟩) hP8 hD8 hS hA (fun H locs hP hD hS => ?_)
                have hP : va_P g.1 vwCl (cRt ad ++ (cTx g (ad 1) tx ++ (cIs g (ad 2) is ++ (cWa g (ad 3) wa ++ (cSt g (ad 4) st15 ++ (cHi g (ad 5) (ad 6) hi14)))))) H := hP
                have hD : va_D A (cRt ad ++ (cTx g (ad 1) tx ++ (cIs g (ad 2) is ++ (cWa g (ad 3) wa ++ (cSt g (ad 4) st15 ++ (cHi g (ad 5) (ad 6) hi14)))))) := hD
                refine lv_aload_n hx hb dX5_put_121 rfl (lv_at hl 0 rfl) ?_
                refine va_get (D := g.1) (ci := 5) (v := .ref ((ad 3) 0)) (C := RX5) (T := TX5) (N := 5) hx hb hts hinX5 hown hK hP 0 rfl rfl 3 (by decide) (hts (.fieldLink RX5 33 "BarredRungs" "ways" "LBarredRungs$Ways;") (List.mem_of_getElem? (i := 9) rfl)) (fun _ h9 => h9) rfl dX5_put_122 ?_
                refine lv_aload_n hx hb dX5_put_125 rfl (lv_at hl 0 rfl) ?_
                refine va_get (D := g.1) (ci := 5) (v := .ref ((ad 4) 0)) (C := RX5) (T := TX5) (N := 5) hx hb hts hinX5 hown hK hP 0 rfl rfl 0 (by decide) (hts (.fieldLink RX5 12 "BarredRungs" "now" "LBarredRungs$State;") (List.mem_of_getElem? (i := 7) rfl)) (fun _ h9 => h9) rfl dX5_put_126 ?_
                refine lv_iload_n hx hb dX5_put_129 rfl (lv_at hl 2 rfl) ?_
                refine lv_iload_n hx hb dX5_put_130 rfl (lv_at hl 3 rfl) ?_
                refine lv_iconst (v := 0) hx hb dX5_put_131 (by decide) ?_
                obtain ⟨r16, wa17, kr16, h⟩ := bd2_ex h
                have hP8 : va_P g.1 vwCl ((cRt ad ++ (cTx g (ad 1) tx ++ (cIs g (ad 2) is))) ++ ((cWa g (ad 3) wa ++ (cSt g (ad 4) st15)) ++ (cHi g (ad 5) (ad 6) hi14))) _ := hP
                have hD8 : va_D A ((cRt ad ++ (cTx g (ad 1) tx ++ (cIs g (ad 2) is))) ++ ((cWa g (ad 3) wa ++ (cSt g (ad 4) st15)) ++ (cHi g (ad 5) (ad 6) hi14))) := hD
                refine aft_f (st1 := [.int r16]) rfl (cRt ad ++ (cTx g (ad 1) tx ++ (cIs g (ad 2) is))) (cHi g (ad 5) (ad 6) hi14) (runV (As := [.ref ((ad 4) 0), .int p2, .int p3, .int (0 : Int32)]) (rest := []) ⟨hx, hb, hml, hown, hts⟩ (kX4_onward l g (ad 3) (ad 4) kr16) (cwV 4 hts gX5_put_X4_onward rfl rfl rfl hdX4_onward ⟨Nat.le_of_ble_eq_true rfl, Nat.le_of_ble_eq_true rfl⟩) hK hN hP8.right.left hD8.right.left (va_recv hK hP (ci := 4) (q0 := 5) rfl rfl) rfl hl.1 rfl (Nat.le_of_ble_eq_true rfl) dX5_put_132 ⟨Nat.zero_le _, Nat.zero_le _⟩) hP8 hD8 hS hA (fun H locs hP hD hS => ?_)
                have hP : va_P g.1 vwCl (cRt ad ++ (cTx g (ad 1) tx ++ (cIs g (ad 2) is ++ (cWa g (ad 3) wa17 ++ (cSt g (ad 4) st15 ++ (cHi g (ad 5) (ad 6) hi14)))))) H := hP
                have hD : va_D A (cRt ad ++ (cTx g (ad 1) tx ++ (cIs g (ad 2) is ++ (cWa g (ad 3) wa17 ++ (cSt g (ad 4) st15 ++ (cHi g (ad 5) (ad 6) hi14)))))) := hD
                cases h
              · have h := if_f c13 h
                exact hthrow _ _ _ _ 112 114 116 "the climber can not be put there" hP hD hS hl.1 (by decide +kernel) (hts (.classLink RX5 112 "java/lang/IllegalStateException") (List.mem_of_getElem? (i := 5) rfl)) (hts (.initialized "java/lang/IllegalStateException") (List.mem_of_getElem? (i := 6) rfl)) (fun w h9 => hts w (List.mem_cons_of_mem _ (List.mem_append_right _ h9))) (by decide +kernel) (by decide +kernel) dX5_put_90 dX5_put_93 dX5_put_94 dX5_put_96 dX5_put_99
        · have h := if_t c7 h
          exact absurd (Sum.inl.inj (some_i h)) (by decide)
      · have h := if_t c6 h
        exact absurd (Sum.inl.inj (some_i h)) (by decide)
abbrev rtX5_set : Room := { frames := 6, cells := 1, slots := 6, locals := 133 }
set_option maxRecDepth 100000 in
set_option maxHeartbeats 8000000 in
theorem tX5_set_1 (l : Launch) (hst : l.stackTraces = false) (g : GG) (ad : Nat → Nat → Nat) {tx : Tx} {is : Is} {wa : Wa} {st : St} {hi : Hi} {p1 : Int32} {p2 : Int32} (h : fX5_set tx is wa st hi p1 p2 = some (.inl 1)) : CT l g yX5_set wsX5_set rtX5_set [.ref ((ad 0) 0), .int p1, .int p2] (cRt ad ++ (cTx g (ad 1) tx ++ (cIs g (ad 2) is ++ (cWa g (ad 3) wa ++ (cSt g (ad 4) st ++ (cHi g (ad 5) (ad 6) hi)))))) "java/lang/IndexOutOfBoundsException" := by
  refine CT_of hst (cc := cX5_set) (maxL := 4) (ret := (some .int)) (by decide +kernel) (by decide) (by decide) rfl rfl rfl (by decide +kernel) rfl (Nat.le_of_ble_eq_true rfl) ?_
  intro p e su m args below meth c A Q ls hx hb hml hown hts hK hN hA hnm hP hD hS hl hthrow
  have hinX5 : ∀ w ∈ u_ws RX5 TX5 5, w ∈ wsX5_set := fun _ h9 => List.mem_cons_of_mem _ (List.mem_append_left _ (List.mem_append_left _ (List.mem_append_left _ (List.mem_append_left _ (List.mem_append_right _ h9)))))
  have hinX0 : ∀ w ∈ u_ws RX0 TX0 4, w ∈ wsX5_set := fun _ h9 => List.mem_cons_of_mem _ (List.mem_append_left _ (List.mem_append_left _ (List.mem_append_left _ (List.mem_append_right _ h9))))
  have hinX2 : ∀ w ∈ u_ws RX2 TX2 17, w ∈ wsX5_set := fun _ h9 => List.mem_cons_of_mem _ (List.mem_append_left _ (List.mem_append_left _ (List.mem_append_right _ h9)))
  unfold fX5_set at h
  have hl : lv_has ls 4 [(0, .ref ((ad 0) 0)), (1, .int p1), (2, .int p2)] := hl
  refine lv_iload_n hx hb dX5_set_0 rfl (lv_at hl 1 rfl) ?_
  refine lv_if_eq (tgt := 19) hx hb dX5_set_1 (by decide) (fun c1 => ?_) (fun c1 => ?_)
  · have h := if_t c1 h
    refine lv_iload_n hx hb dX5_set_19 rfl (lv_at hl 2 rfl) ?_
    refine lv_iconst (v := 1) hx hb dX5_set_20 (by decide) ?_
    refine lv_icmp_lt (tgt := 30) hx hb dX5_set_21 (by decide) (fun c2 => ?_) (fun c2 => ?_)
    · have h := if_t c2 h
      exact absurd (Sum.inl.inj (some_i h)) (by decide)
    · have h := if_f c2 h
      refine lv_iload_n hx hb dX5_set_24 rfl (lv_at hl 2 rfl) ?_
      refine lv_bipush (v := 7) hx hb dX5_set_25 (by decide) ?_
      refine lv_icmp_le (tgt := 40) hx hb dX5_set_27 (by decide) (fun c3 => ?_) (fun c3 => ?_)
      · have h := if_t c3 h
        refine lv_aload_n hx hb dX5_set_40 rfl (lv_at hl 0 rfl) ?_
        refine va_get (D := g.1) (ci := 5) (v := .ref ((ad 5) 0)) (C := RX5) (T := TX5) (N := 5) hx hb hts hinX5 hown hK hP 0 rfl rfl 1 (by decide) (hts (.fieldLink RX5 19 "BarredRungs" "history" "LBarredRungs$History;") (List.mem_of_getElem? (i := 5) rfl)) (fun _ h9 => h9) rfl dX5_set_41 ?_
        refine lv_aload_n hx hb dX5_set_44 rfl (lv_at hl 0 rfl) ?_
        refine va_get (D := g.1) (ci := 5) (v := .ref ((ad 4) 0)) (C := RX5) (T := TX5) (N := 5) hx hb hts hinX5 hown hK hP 0 rfl rfl 0 (by decide) (hts (.fieldLink RX5 12 "BarredRungs" "now" "LBarredRungs$State;") (List.mem_of_getElem? (i := 6) rfl)) (fun _ h9 => h9) rfl dX5_set_45 ?_
        obtain ⟨hi4, khi4, h⟩ := bd_ex h
        have hP8 : va_P g.1 vwCl ((cRt ad ++ (cTx g (ad 1) tx ++ (cIs g (ad 2) is ++ (cWa g (ad 3) wa)))) ++ ((cSt g (ad 4) st ++ (cHi g (ad 5) (ad 6) hi)) ++ [])) _ := hP
        have hD8 : va_D A ((cRt ad ++ (cTx g (ad 1) tx ++ (cIs g (ad 2) is ++ (cWa g (ad 3) wa)))) ++ ((cSt g (ad 4) st ++ (cHi g (ad 5) (ad 6) hi)) ++ [])) := hD
        refine aft_f (st1 := []) rfl (cRt ad ++ (cTx g (ad 1) tx ++ (cIs g (ad 2) is ++ (cWa g (ad 3) wa)))) [] (runV (As := [.ref ((ad 4) 0)]) (rest := []) ⟨hx, hb, hml, hown, hts⟩ (kX0_save l g (ad 4) (ad 5) (ad 6) khi4) (cwV 1 hts gX5_set_X0_save rfl rfl rfl hdX0_save ⟨Nat.le_of_ble_eq_true rfl, Nat.le_of_ble_eq_true rfl⟩) hK hN hP8.right.left hD8.right.left (va_recv hK hP (ci := 0) (q0 := 20) rfl rfl) rfl hl.1 rfl (Nat.le_of_ble_eq_true rfl) dX5_set_48 ⟨Nat.zero_le _, Nat.zero_le _⟩) hP8 hD8 hS hA (fun H locs hP hD hS => ?_)
        have hP : va_P g.1 vwCl (cRt ad ++ (cTx g (ad 1) tx ++ (cIs g (ad 2) is ++ (cWa g (ad 3) wa ++ (cSt g (ad 4) st ++ (cHi g (ad 5) (ad 6) hi4)))))) H := hP
        have hD : va_D A (cRt ad ++ (cTx g (ad 1) tx ++ (cIs g (ad 2) is ++ (cWa g (ad 3) wa ++ (cSt g (ad 4) st ++ (cHi g (ad 5) (ad 6) hi4)))))) := hD
        refine lv_aload_n hx hb dX5_set_51 rfl (lv_at hl 0 rfl) ?_
        refine va_get (D := g.1) (ci := 5) (v := .ref ((ad 4) 0)) (C := RX5) (T := TX5) (N := 5) hx hb hts hinX5 hown hK hP 0 rfl rfl 0 (by decide) (hts (.fieldLink RX5 12 "BarredRungs" "now" "LBarredRungs$State;") (List.mem_of_getElem? (i := 6) rfl)) (fun _ h9 => h9) rfl dX5_set_52 ?_
        refine lv_iload_n hx hb dX5_set_55 rfl (lv_at hl 1 rfl) ?_
        obtain ⟨r5, kr5, h⟩ := bd_ex h
        have hP8 : va_P g.1 vwCl ((cRt ad ++ (cTx g (ad 1) tx ++ (cIs g (ad 2) is ++ (cWa g (ad 3) wa)))) ++ ((cSt g (ad 4) st) ++ (cHi g (ad 5) (ad 6) hi4))) _ := hP
        have hD8 : va_D A ((cRt ad ++ (cTx g (ad 1) tx ++ (cIs g (ad 2) is ++ (cWa g (ad 3) wa)))) ++ ((cSt g (ad 4) st) ++ (cHi g (ad 5) (ad 6) hi4))) := hD
        refine aft_f (st1 := [.int r5]) rfl (cRt ad ++ (cTx g (ad 1) tx ++ (cIs g (ad 2) is ++ (cWa g (ad 3) wa)))) (cHi g (ad 5) (ad 6) hi4) (runV (As := [.int p1]) (rest := []) ⟨hx, hb, hml, hown, hts⟩ (kX2_settingOf l g (ad 4) kr5) (cwV 1 hts gX5_set_X2_settingOf rfl rfl rfl hdX2_settingOf ⟨Nat.le_of_ble_eq_true rfl, Nat.le_of_ble_eq_true rfl⟩) hK hN hP8.right.left hD8.right.left (va_recv hK hP (ci := 2) (q0 := 10) rfl rfl) rfl hl.1 rfl (Nat.le_of_ble_eq_true rfl) dX5_set_56 ⟨Nat.zero_le _, Nat.zero_le _⟩) hP8 hD8 hS hA (fun H locs hP hD hS => ?_)
        have hP : va_P g.1 vwCl (cRt ad ++ (cTx g (ad 1) tx ++ (cIs g (ad 2) is ++ (cWa g (ad 3) wa ++ (cSt g (ad 4) st ++ (cHi g (ad 5) (ad 6) hi4)))))) H := hP
        have hD : va_D A (cRt ad ++ (cTx g (ad 1) tx ++ (cIs g (ad 2) is ++ (cWa g (ad 3) wa ++ (cSt g (ad 4) st ++ (cHi g (ad 5) (ad 6) hi4)))))) := hD
        refine lv_istore_n (lv' := [(3, .int r5), (0, .ref ((ad 0) 0)), (1, .int p1), (2, .int p2)]) hx hb dX5_set_59 rfl hl (by decide) rfl (fun ls hl => ?_)
        refine lv_aload_n hx hb dX5_set_60 rfl (lv_at hl 1 rfl) ?_
        refine va_get (D := g.1) (ci := 5) (v := .ref ((ad 4) 0)) (C := RX5) (T := TX5) (N := 5) hx hb hts hinX5 hown hK hP 0 rfl rfl 0 (by decide) (hts (.fieldLink RX5 12 "BarredRungs" "now" "LBarredRungs$State;") (List.mem_of_getElem? (i := 6) rfl)) (fun _ h9 => h9) rfl dX5_set_61 ?_
        refine lv_iload_n hx hb dX5_set_64 rfl (lv_at hl 2 rfl) ?_
        refine lv_iload_n hx hb dX5_set_65 rfl (lv_at hl 3 rfl) ?_
        obtain ⟨st6, kst6, h⟩ := bd_ex h
        have hP8 : va_P g.1 vwCl ((cRt ad ++ (cTx g (ad 1) tx ++ (cIs g (ad 2) is ++ (cWa g (ad 3) wa)))) ++ ((cSt g (ad 4) st) ++ (cHi g (ad 5) (ad 6) hi4))) _ := hP
        have hD8 : va_D A ((cRt ad ++ (cTx g (ad 1) tx ++ (cIs g (ad 2) is ++ (cWa g (ad 3) wa)))) ++ ((cSt g (ad 4) st) ++ (cHi g (ad 5) (ad 6) hi4))) := hD
        refine aft_f (st1 := []) rfl (cRt ad ++ (cTx g (ad 1) tx ++ (cIs g (ad 2) is ++ (cWa g (ad 3) wa)))) (cHi g (ad 5) (ad 6) hi4) (runV (As := [.int p1, .int p2]) (rest := []) ⟨hx, hb, hml, hown, hts⟩ (kX2_changeSetting l g (ad 4) kst6) (cwV 2 hts gX5_set_X2_changeSetting rfl rfl rfl hdX2_changeSetting ⟨Nat.le_of_ble_eq_true rfl, Nat.le_of_ble_eq_true rfl⟩) hK hN hP8.right.left hD8.right.left (va_recv hK hP (ci := 2) (q0 := 10) rfl rfl) rfl hl.1 rfl (Nat.le_of_ble_eq_true rfl) dX5_set_66 ⟨Nat.zero_le _, Nat.zero_le _⟩) hP8 hD8 hS hA (fun H locs hP hD hS => ?_)
        have hP : va_P g.1 vwCl (cRt ad ++ (cTx g (ad 1) tx ++ (cIs g (ad 2) is ++ (cWa g (ad 3) wa ++ (cSt g (ad 4) st6 ++ (cHi g (ad 5) (ad 6) hi4)))))) H := hP
        have hD : va_D A (cRt ad ++ (cTx g (ad 1) tx ++ (cIs g (ad 2) is ++ (cWa g (ad 3) wa ++ (cSt g (ad 4) st6 ++ (cHi g (ad 5) (ad 6) hi4)))))) := hD
        refine lv_iload_n hx hb dX5_set_69 rfl (lv_at hl 0 rfl) ?_
        cases h
      · have h := if_f c3 h
        exact absurd (Sum.inl.inj (some_i h)) (by decide)
  · have h := if_f c1 h
    refine lv_iload_n hx hb dX5_set_4 rfl (lv_at hl 1 rfl) ?_
    refine lv_iconst (v := 1) hx hb dX5_set_5 (by decide) ?_
    refine lv_icmp_eq (tgt := 19) hx hb dX5_set_6 (by decide) (fun c7 => ?_) (fun c7 => ?_)
    · have h := if_t c7 h
      refine lv_iload_n hx hb dX5_set_19 rfl (lv_at hl 2 rfl) ?_
      refine lv_iconst (v := 1) hx hb dX5_set_20 (by decide) ?_
      refine lv_icmp_lt (tgt := 30) hx hb dX5_set_21 (by decide) (fun c8 => ?_) (fun c8 => ?_)
      · have h := if_t c8 h
        exact absurd (Sum.inl.inj (some_i h)) (by decide)
      · have h := if_f c8 h
        refine lv_iload_n hx hb dX5_set_24 rfl (lv_at hl 2 rfl) ?_
        refine lv_bipush (v := 7) hx hb dX5_set_25 (by decide) ?_
        refine lv_icmp_le (tgt := 40) hx hb dX5_set_27 (by decide) (fun c9 => ?_) (fun c9 => ?_)
        · have h := if_t c9 h
          refine lv_aload_n hx hb dX5_set_40 rfl (lv_at hl 0 rfl) ?_
          refine va_get (D := g.1) (ci := 5) (v := .ref ((ad 5) 0)) (C := RX5) (T := TX5) (N := 5) hx hb hts hinX5 hown hK hP 0 rfl rfl 1 (by decide) (hts (.fieldLink RX5 19 "BarredRungs" "history" "LBarredRungs$History;") (List.mem_of_getElem? (i := 5) rfl)) (fun _ h9 => h9) rfl dX5_set_41 ?_
          refine lv_aload_n hx hb dX5_set_44 rfl (lv_at hl 0 rfl) ?_
          refine va_get (D := g.1) (ci := 5) (v := .ref ((ad 4) 0)) (C := RX5) (T := TX5) (N := 5) hx hb hts hinX5 hown hK hP 0 rfl rfl 0 (by decide) (hts (.fieldLink RX5 12 "BarredRungs" "now" "LBarredRungs$State;") (List.mem_of_getElem? (i := 6) rfl)) (fun _ h9 => h9) rfl dX5_set_45 ?_
          obtain ⟨hi10, khi10, h⟩ := bd_ex h
          have hP8 : va_P g.1 vwCl ((cRt ad ++ (cTx g (ad 1) tx ++ (cIs g (ad 2) is ++ (cWa g (ad 3) wa)))) ++ ((cSt g (ad 4) st ++ (cHi g (ad 5) (ad 6) hi)) ++ [])) _ := hP
          have hD8 : va_D A ((cRt ad ++ (cTx g (ad 1) tx ++ (cIs g (ad 2) is ++ (cWa g (ad 3) wa)))) ++ ((cSt g (ad 4) st ++ (cHi g (ad 5) (ad 6) hi)) ++ [])) := hD
          refine aft_f (st1 := []) rfl (cRt ad ++ (cTx g (ad 1) tx ++ (cIs g (ad 2) is ++ (cWa g (ad 3) wa)))) [] (runV (As := [.ref ((ad 4) 0)]) (rest := []) ⟨hx, hb, hml, hown, hts⟩ (kX0_save l g (ad 4) (ad 5) (ad 6) khi10) (cwV 1 hts gX5_set_X0_save rfl rfl rfl hdX0_save ⟨Nat.le_of_ble_eq_true rfl, Nat.le_of_ble_eq_true rfl⟩) hK hN hP8.right.left hD8.right.left (va_recv hK hP (ci := 0) (q0 := 20) rfl rfl) rfl hl.1 rfl (Nat.le_of_ble_eq_true rfl) dX5_set_48 ⟨Nat.zero_le _, Nat.zero_le _⟩) hP8 hD8 hS hA (fun H locs hP hD hS => ?_)
          have hP : va_P g.1 vwCl (cRt ad ++ (cTx g (ad 1) tx ++ (cIs g (ad 2) is ++ (cWa g (ad 3) wa ++ (cSt g (ad 4) st ++ (cHi g (ad 5) (ad 6) hi10)))))) H := hP
          have hD : va_D A (cRt ad ++ (cTx g (ad 1) tx ++ (cIs g (ad 2) is ++ (cWa g (ad 3) wa ++ (cSt g (ad 4) st ++ (cHi g (ad 5) (ad 6) hi10)))))) := hD
          refine lv_aload_n hx hb dX5_set_51 rfl (lv_at hl 0 rfl) ?_
          refine va_get (D := g.1) (ci := 5) (v := .ref ((ad 4) 0)) (C := RX5) (T := TX5) (N := 5) hx hb hts hinX5 hown hK hP 0 rfl rfl 0 (by decide) (hts (.fieldLink RX5 12 "BarredRungs" "now" "LBarredRungs$State;") (List.mem_of_getElem? (i := 6) rfl)) (fun _ h9 => h9) rfl dX5_set_52 ?_
          refine lv_iload_n hx hb dX5_set_55 rfl (lv_at hl 1 rfl) ?_
          obtain ⟨r11, kr11, h⟩ := bd_ex h
          have hP8 : va_P g.1 vwCl ((cRt ad ++ (cTx g (ad 1) tx ++ (cIs g (ad 2) is ++ (cWa g (ad 3) wa)))) ++ ((cSt g (ad 4) st) ++ (cHi g (ad 5) (ad 6) hi10))) _ := hP
          have hD8 : va_D A ((cRt ad ++ (cTx g (ad 1) tx ++ (cIs g (ad 2) is ++ (cWa g (ad 3) wa)))) ++ ((cSt g (ad 4) st) ++ (cHi g (ad 5) (ad 6) hi10))) := hD
          refine aft_f (st1 := [.int r11]) rfl (cRt ad ++ (cTx g (ad 1) tx ++ (cIs g (ad 2) is ++ (cWa g (ad 3) wa)))) (cHi g (ad 5) (ad 6) hi10) (runV (As := [.int p1]) (rest := []) ⟨hx, hb, hml, hown, hts⟩ (kX2_settingOf l g (ad 4) kr11) (cwV 1 hts gX5_set_X2_settingOf rfl rfl rfl hdX2_settingOf ⟨Nat.le_of_ble_eq_true rfl, Nat.le_of_ble_eq_true rfl⟩) hK hN hP8.right.left hD8.right.left (va_recv hK hP (ci := 2) (q0 := 10) rfl rfl) rfl hl.1 rfl (Nat.le_of_ble_eq_true rfl) dX5_set_56 ⟨Nat.zero_le _, Nat.zero_le _⟩) hP8 hD8 hS hA (fun H locs hP hD hS => ?_)
          have hP : va_P g.1 vwCl (cRt ad ++ (cTx g (ad 1) tx ++ (cIs g (ad 2) is ++ (cWa g (ad 3) wa ++ (cSt g (ad 4) st ++ (cHi g (ad 5) (ad 6) hi10)))))) H := hP
          have hD : va_D A (cRt ad ++ (cTx g (ad 1) tx ++ (cIs g (ad 2) is ++ (cWa g (ad 3) wa ++ (cSt g (ad 4) st ++ (cHi g (ad 5) (ad 6) hi10)))))) := hD
          refine lv_istore_n (lv' := [(3, .int r11), (0, .ref ((ad 0) 0)), (1, .int p1), (2, .int p2)]) hx hb dX5_set_59 rfl hl (by decide) rfl (fun ls hl => ?_)
          refine lv_aload_n hx hb dX5_set_60 rfl (lv_at hl 1 rfl) ?_
          refine va_get (D := g.1) (ci := 5) (v := .ref ((ad 4) 0)) (C := RX5) (T := TX5) (N := 5) hx hb hts hinX5 hown hK hP 0 rfl rfl 0 (by decide) (hts (.fieldLink RX5 12 "BarredRungs" "now" "LBarredRungs$State;") (List.mem_of_getElem? (i := 6) rfl)) (fun _ h9 => h9) rfl dX5_set_61 ?_
          refine lv_iload_n hx hb dX5_set_64 rfl (lv_at hl 2 rfl) ?_
          refine lv_iload_n hx hb dX5_set_65 rfl (lv_at hl 3 rfl) ?_
          obtain ⟨st12, kst12, h⟩ := bd_ex h
          have hP8 : va_P g.1 vwCl ((cRt ad ++ (cTx g (ad 1) tx ++ (cIs g (ad 2) is ++ (cWa g (ad 3) wa)))) ++ ((cSt g (ad 4) st) ++ (cHi g (ad 5) (ad 6) hi10))) _ := hP
          have hD8 : va_D A ((cRt ad ++ (cTx g (ad 1) tx ++ (cIs g (ad 2) is ++ (cWa g (ad 3) wa)))) ++ ((cSt g (ad 4) st) ++ (cHi g (ad 5) (ad 6) hi10))) := hD
          refine aft_f (st1 := []) rfl (cRt ad ++ (cTx g (ad 1) tx ++ (cIs g (ad 2) is ++ (cWa g (ad 3) wa)))) (cHi g (ad 5) (ad 6) hi10) (runV (As := [.int p1, .int p2]) (rest := []) ⟨hx, hb, hml, hown, hts⟩ (kX2_changeSetting l g (ad 4) kst12) (cwV 2 hts gX5_set_X2_changeSetting rfl rfl rfl hdX2_changeSetting ⟨Nat.le_of_ble_eq_true rfl, Nat.le_of_ble_eq_true rfl⟩) hK hN hP8.right.left hD8.right.left (va_recv hK hP (ci := 2) (q0 := 10) rfl rfl) rfl hl.1 rfl (Nat.le_of_ble_eq_true rfl) dX5_set_66 ⟨Nat.zero_le _, Nat.zero_le _⟩) hP8 hD8 hS hA (fun H locs hP hD hS => ?_)
          have hP : va_P g.1 vwCl (cRt ad ++ (cTx g (ad 1) tx ++ (cIs g (ad 2) is ++ (cWa g (ad 3) wa ++ (cSt g (ad 4) st12 ++ (cHi g (ad 5) (ad 6) hi10)))))) H := hP
          have hD : va_D A (cRt ad ++ (cTx g (ad 1) tx ++ (cIs g (ad 2) is ++ (cWa g (ad 3) wa ++ (cSt g (ad 4) st12 ++ (cHi g (ad 5) (ad 6) hi10)))))) := hD
          refine lv_iload_n hx hb dX5_set_69 rfl (lv_at hl 0 rfl) ?_
          cases h
        · have h := if_f c9 h
          exact absurd (Sum.inl.inj (some_i h)) (by decide)
    · have h := if_f c7 h
      exact hthrow _ _ _ _ 66 68 70 "no such setting" hP hD hS hl.1 (by decide +kernel) (hts (.classLink RX5 66 "java/lang/IndexOutOfBoundsException") (List.mem_of_getElem? (i := 1) rfl)) (hts (.initialized "java/lang/IndexOutOfBoundsException") (List.mem_of_getElem? (i := 2) rfl)) (fun w h9 => hts w (List.mem_cons_of_mem _ (List.mem_append_left _ (List.mem_append_right _ h9)))) (by decide +kernel) (by decide +kernel) dX5_set_9 dX5_set_12 dX5_set_13 dX5_set_15 dX5_set_18
set_option maxRecDepth 100000 in
set_option maxHeartbeats 8000000 in
theorem tX5_set_2 (l : Launch) (hst : l.stackTraces = false) (g : GG) (ad : Nat → Nat → Nat) {tx : Tx} {is : Is} {wa : Wa} {st : St} {hi : Hi} {p1 : Int32} {p2 : Int32} (h : fX5_set tx is wa st hi p1 p2 = some (.inl 2)) : CT l g yX5_set wsX5_set rtX5_set [.ref ((ad 0) 0), .int p1, .int p2] (cRt ad ++ (cTx g (ad 1) tx ++ (cIs g (ad 2) is ++ (cWa g (ad 3) wa ++ (cSt g (ad 4) st ++ (cHi g (ad 5) (ad 6) hi)))))) "java/lang/IllegalArgumentException" := by
  refine CT_of hst (cc := cX5_set) (maxL := 4) (ret := (some .int)) (by decide +kernel) (by decide) (by decide) rfl rfl rfl (by decide +kernel) rfl (Nat.le_of_ble_eq_true rfl) ?_
  intro p e su m args below meth c A Q ls hx hb hml hown hts hK hN hA hnm hP hD hS hl hthrow
  have hinX5 : ∀ w ∈ u_ws RX5 TX5 5, w ∈ wsX5_set := fun _ h9 => List.mem_cons_of_mem _ (List.mem_append_left _ (List.mem_append_left _ (List.mem_append_left _ (List.mem_append_left _ (List.mem_append_right _ h9)))))
  have hinX0 : ∀ w ∈ u_ws RX0 TX0 4, w ∈ wsX5_set := fun _ h9 => List.mem_cons_of_mem _ (List.mem_append_left _ (List.mem_append_left _ (List.mem_append_left _ (List.mem_append_right _ h9))))
  have hinX2 : ∀ w ∈ u_ws RX2 TX2 17, w ∈ wsX5_set := fun _ h9 => List.mem_cons_of_mem _ (List.mem_append_left _ (List.mem_append_left _ (List.mem_append_right _ h9)))
  unfold fX5_set at h
  have hl : lv_has ls 4 [(0, .ref ((ad 0) 0)), (1, .int p1), (2, .int p2)] := hl
  refine lv_iload_n hx hb dX5_set_0 rfl (lv_at hl 1 rfl) ?_
  refine lv_if_eq (tgt := 19) hx hb dX5_set_1 (by decide) (fun c1 => ?_) (fun c1 => ?_)
  · have h := if_t c1 h
    refine lv_iload_n hx hb dX5_set_19 rfl (lv_at hl 2 rfl) ?_
    refine lv_iconst (v := 1) hx hb dX5_set_20 (by decide) ?_
    refine lv_icmp_lt (tgt := 30) hx hb dX5_set_21 (by decide) (fun c2 => ?_) (fun c2 => ?_)
    · have h := if_t c2 h
      exact hthrow _ _ _ _ 48 71 52 "the value is not 1 to 7" hP hD hS hl.1 (by decide +kernel) (hts (.classLink RX5 48 "java/lang/IllegalArgumentException") (List.mem_of_getElem? (i := 3) rfl)) (hts (.initialized "java/lang/IllegalArgumentException") (List.mem_of_getElem? (i := 4) rfl)) (fun w h9 => hts w (List.mem_cons_of_mem _ (List.mem_append_right _ h9))) (by decide +kernel) (by decide +kernel) dX5_set_30 dX5_set_33 dX5_set_34 dX5_set_36 dX5_set_39
    · have h := if_f c2 h
      refine lv_iload_n hx hb dX5_set_24 rfl (lv_at hl 2 rfl) ?_
      refine lv_bipush (v := 7) hx hb dX5_set_25 (by decide) ?_
      refine lv_icmp_le (tgt := 40) hx hb dX5_set_27 (by decide) (fun c3 => ?_) (fun c3 => ?_)
      · have h := if_t c3 h
        refine lv_aload_n hx hb dX5_set_40 rfl (lv_at hl 0 rfl) ?_
        refine va_get (D := g.1) (ci := 5) (v := .ref ((ad 5) 0)) (C := RX5) (T := TX5) (N := 5) hx hb hts hinX5 hown hK hP 0 rfl rfl 1 (by decide) (hts (.fieldLink RX5 19 "BarredRungs" "history" "LBarredRungs$History;") (List.mem_of_getElem? (i := 5) rfl)) (fun _ h9 => h9) rfl dX5_set_41 ?_
        refine lv_aload_n hx hb dX5_set_44 rfl (lv_at hl 0 rfl) ?_
        refine va_get (D := g.1) (ci := 5) (v := .ref ((ad 4) 0)) (C := RX5) (T := TX5) (N := 5) hx hb hts hinX5 hown hK hP 0 rfl rfl 0 (by decide) (hts (.fieldLink RX5 12 "BarredRungs" "now" "LBarredRungs$State;") (List.mem_of_getElem? (i := 6) rfl)) (fun _ h9 => h9) rfl dX5_set_45 ?_
        obtain ⟨hi4, khi4, h⟩ := bd_ex h
        have hP8 : va_P g.1 vwCl ((cRt ad ++ (cTx g (ad 1) tx ++ (cIs g (ad 2) is ++ (cWa g (ad 3) wa)))) ++ ((cSt g (ad 4) st ++ (cHi g (ad 5) (ad 6) hi)) ++ [])) _ := hP
        have hD8 : va_D A ((cRt ad ++ (cTx g (ad 1) tx ++ (cIs g (ad 2) is ++ (cWa g (ad 3) wa)))) ++ ((cSt g (ad 4) st ++ (cHi g (ad 5) (ad 6) hi)) ++ [])) := hD
        refine aft_f (st1 := []) rfl (cRt ad ++ (cTx g (ad 1) tx ++ (cIs g (ad 2) is ++ (cWa g (ad 3) wa)))) [] (runV (As := [.ref ((ad 4) 0)]) (rest := []) ⟨hx, hb, hml, hown, hts⟩ (kX0_save l g (ad 4) (ad 5) (ad 6) khi4) (cwV 1 hts gX5_set_X0_save rfl rfl rfl hdX0_save ⟨Nat.le_of_ble_eq_true rfl, Nat.le_of_ble_eq_true rfl⟩) hK hN hP8.right.left hD8.right.left (va_recv hK hP (ci := 0) (q0 := 20) rfl rfl) rfl hl.1 rfl (Nat.le_of_ble_eq_true rfl) dX5_set_48 ⟨Nat.zero_le _, Nat.zero_le _⟩) hP8 hD8 hS hA (fun H locs hP hD hS => ?_)
        have hP : va_P g.1 vwCl (cRt ad ++ (cTx g (ad 1) tx ++ (cIs g (ad 2) is ++ (cWa g (ad 3) wa ++ (cSt g (ad 4) st ++ (cHi g (ad 5) (ad 6) hi4)))))) H := hP
        have hD : va_D A (cRt ad ++ (cTx g (ad 1) tx ++ (cIs g (ad 2) is ++ (cWa g (ad 3) wa ++ (cSt g (ad 4) st ++ (cHi g (ad 5) (ad 6) hi4)))))) := hD
        refine lv_aload_n hx hb dX5_set_51 rfl (lv_at hl 0 rfl) ?_
        refine va_get (D := g.1) (ci := 5) (v := .ref ((ad 4) 0)) (C := RX5) (T := TX5) (N := 5) hx hb hts hinX5 hown hK hP 0 rfl rfl 0 (by decide) (hts (.fieldLink RX5 12 "BarredRungs" "now" "LBarredRungs$State;") (List.mem_of_getElem? (i := 6) rfl)) (fun _ h9 => h9) rfl dX5_set_52 ?_
        refine lv_iload_n hx hb dX5_set_55 rfl (lv_at hl 1 rfl) ?_
        obtain ⟨r5, kr5, h⟩ := bd_ex h
        have hP8 : va_P g.1 vwCl ((cRt ad ++ (cTx g (ad 1) tx ++ (cIs g (ad 2) is ++ (cWa g (ad 3) wa)))) ++ ((cSt g (ad 4) st) ++ (cHi g (ad 5) (ad 6) hi4))) _ := hP
        have hD8 : va_D A ((cRt ad ++ (cTx g (ad 1) tx ++ (cIs g (ad 2) is ++ (cWa g (ad 3) wa)))) ++ ((cSt g (ad 4) st) ++ (cHi g (ad 5) (ad 6) hi4))) := hD
        refine aft_f (st1 := [.int r5]) rfl (cRt ad ++ (cTx g (ad 1) tx ++ (cIs g (ad 2) is ++ (cWa g (ad 3) wa)))) (cHi g (ad 5) (ad 6) hi4) (runV (As := [.int p1]) (rest := []) ⟨hx, hb, hml, hown, hts⟩ (kX2_settingOf l g (ad 4) kr5) (cwV 1 hts gX5_set_X2_settingOf rfl rfl rfl hdX2_settingOf ⟨Nat.le_of_ble_eq_true rfl, Nat.le_of_ble_eq_true rfl⟩) hK hN hP8.right.left hD8.right.left (va_recv hK hP (ci := 2) (q0 := 10) rfl rfl) rfl hl.1 rfl (Nat.le_of_ble_eq_true rfl) dX5_set_56 ⟨Nat.zero_le _, Nat.zero_le _⟩) hP8 hD8 hS hA (fun H locs hP hD hS => ?_)
        have hP : va_P g.1 vwCl (cRt ad ++ (cTx g (ad 1) tx ++ (cIs g (ad 2) is ++ (cWa g (ad 3) wa ++ (cSt g (ad 4) st ++ (cHi g (ad 5) (ad 6) hi4)))))) H := hP
        have hD : va_D A (cRt ad ++ (cTx g (ad 1) tx ++ (cIs g (ad 2) is ++ (cWa g (ad 3) wa ++ (cSt g (ad 4) st ++ (cHi g (ad 5) (ad 6) hi4)))))) := hD
        refine lv_istore_n (lv' := [(3, .int r5), (0, .ref ((ad 0) 0)), (1, .int p1), (2, .int p2)]) hx hb dX5_set_59 rfl hl (by decide) rfl (fun ls hl => ?_)
        refine lv_aload_n hx hb dX5_set_60 rfl (lv_at hl 1 rfl) ?_
        refine va_get (D := g.1) (ci := 5) (v := .ref ((ad 4) 0)) (C := RX5) (T := TX5) (N := 5) hx hb hts hinX5 hown hK hP 0 rfl rfl 0 (by decide) (hts (.fieldLink RX5 12 "BarredRungs" "now" "LBarredRungs$State;") (List.mem_of_getElem? (i := 6) rfl)) (fun _ h9 => h9) rfl dX5_set_61 ?_
        refine lv_iload_n hx hb dX5_set_64 rfl (lv_at hl 2 rfl) ?_
        refine lv_iload_n hx hb dX5_set_65 rfl (lv_at hl 3 rfl) ?_
        obtain ⟨st6, kst6, h⟩ := bd_ex h
        have hP8 : va_P g.1 vwCl ((cRt ad ++ (cTx g (ad 1) tx ++ (cIs g (ad 2) is ++ (cWa g (ad 3) wa)))) ++ ((cSt g (ad 4) st) ++ (cHi g (ad 5) (ad 6) hi4))) _ := hP
        have hD8 : va_D A ((cRt ad ++ (cTx g (ad 1) tx ++ (cIs g (ad 2) is ++ (cWa g (ad 3) wa)))) ++ ((cSt g (ad 4) st) ++ (cHi g (ad 5) (ad 6) hi4))) := hD
        refine aft_f (st1 := []) rfl (cRt ad ++ (cTx g (ad 1) tx ++ (cIs g (ad 2) is ++ (cWa g (ad 3) wa)))) (cHi g (ad 5) (ad 6) hi4) (runV (As := [.int p1, .int p2]) (rest := []) ⟨hx, hb, hml, hown, hts⟩ (kX2_changeSetting l g (ad 4) kst6) (cwV 2 hts gX5_set_X2_changeSetting rfl rfl rfl hdX2_changeSetting ⟨Nat.le_of_ble_eq_true rfl, Nat.le_of_ble_eq_true rfl⟩) hK hN hP8.right.left hD8.right.left (va_recv hK hP (ci := 2) (q0 := 10) rfl rfl) rfl hl.1 rfl (Nat.le_of_ble_eq_true rfl) dX5_set_66 ⟨Nat.zero_le _, Nat.zero_le _⟩) hP8 hD8 hS hA (fun H locs hP hD hS => ?_)
        have hP : va_P g.1 vwCl (cRt ad ++ (cTx g (ad 1) tx ++ (cIs g (ad 2) is ++ (cWa g (ad 3) wa ++ (cSt g (ad 4) st6 ++ (cHi g (ad 5) (ad 6) hi4)))))) H := hP
        have hD : va_D A (cRt ad ++ (cTx g (ad 1) tx ++ (cIs g (ad 2) is ++ (cWa g (ad 3) wa ++ (cSt g (ad 4) st6 ++ (cHi g (ad 5) (ad 6) hi4)))))) := hD
        refine lv_iload_n hx hb dX5_set_69 rfl (lv_at hl 0 rfl) ?_
        cases h
      · have h := if_f c3 h
        exact hthrow _ _ _ _ 48 71 52 "the value is not 1 to 7" hP hD hS hl.1 (by decide +kernel) (hts (.classLink RX5 48 "java/lang/IllegalArgumentException") (List.mem_of_getElem? (i := 3) rfl)) (hts (.initialized "java/lang/IllegalArgumentException") (List.mem_of_getElem? (i := 4) rfl)) (fun w h9 => hts w (List.mem_cons_of_mem _ (List.mem_append_right _ h9))) (by decide +kernel) (by decide +kernel) dX5_set_30 dX5_set_33 dX5_set_34 dX5_set_36 dX5_set_39
  · have h := if_f c1 h
    refine lv_iload_n hx hb dX5_set_4 rfl (lv_at hl 1 rfl) ?_
    refine lv_iconst (v := 1) hx hb dX5_set_5 (by decide) ?_
    refine lv_icmp_eq (tgt := 19) hx hb dX5_set_6 (by decide) (fun c7 => ?_) (fun c7 => ?_)
    · have h := if_t c7 h
      refine lv_iload_n hx hb dX5_set_19 rfl (lv_at hl 2 rfl) ?_
      refine lv_iconst (v := 1) hx hb dX5_set_20 (by decide) ?_
      refine lv_icmp_lt (tgt := 30) hx hb dX5_set_21 (by decide) (fun c8 => ?_) (fun c8 => ?_)
      · have h := if_t c8 h
        exact hthrow _ _ _ _ 48 71 52 "the value is not 1 to 7" hP hD hS hl.1 (by decide +kernel) (hts (.classLink RX5 48 "java/lang/IllegalArgumentException") (List.mem_of_getElem? (i := 3) rfl)) (hts (.initialized "java/lang/IllegalArgumentException") (List.mem_of_getElem? (i := 4) rfl)) (fun w h9 => hts w (List.mem_cons_of_mem _ (List.mem_append_right _ h9))) (by decide +kernel) (by decide +kernel) dX5_set_30 dX5_set_33 dX5_set_34 dX5_set_36 dX5_set_39
      · have h := if_f c8 h
        refine lv_iload_n hx hb dX5_set_24 rfl (lv_at hl 2 rfl) ?_
        refine lv_bipush (v := 7) hx hb dX5_set_25 (by decide) ?_
        refine lv_icmp_le (tgt := 40) hx hb dX5_set_27 (by decide) (fun c9 => ?_) (fun c9 => ?_)
        · have h := if_t c9 h
          refine lv_aload_n hx hb dX5_set_40 rfl (lv_at hl 0 rfl) ?_
          refine va_get (D := g.1) (ci := 5) (v := .ref ((ad 5) 0)) (C := RX5) (T := TX5) (N := 5) hx hb hts hinX5 hown hK hP 0 rfl rfl 1 (by decide) (hts (.fieldLink RX5 19 "BarredRungs" "history" "LBarredRungs$History;") (List.mem_of_getElem? (i := 5) rfl)) (fun _ h9 => h9) rfl dX5_set_41 ?_
          refine lv_aload_n hx hb dX5_set_44 rfl (lv_at hl 0 rfl) ?_
          refine va_get (D := g.1) (ci := 5) (v := .ref ((ad 4) 0)) (C := RX5) (T := TX5) (N := 5) hx hb hts hinX5 hown hK hP 0 rfl rfl 0 (by decide) (hts (.fieldLink RX5 12 "BarredRungs" "now" "LBarredRungs$State;") (List.mem_of_getElem? (i := 6) rfl)) (fun _ h9 => h9) rfl dX5_set_45 ?_
          obtain ⟨hi10, khi10, h⟩ := bd_ex h
          have hP8 : va_P g.1 vwCl ((cRt ad ++ (cTx g (ad 1) tx ++ (cIs g (ad 2) is ++ (cWa g (ad 3) wa)))) ++ ((cSt g (ad 4) st ++ (cHi g (ad 5) (ad 6) hi)) ++ [])) _ := hP
          have hD8 : va_D A ((cRt ad ++ (cTx g (ad 1) tx ++ (cIs g (ad 2) is ++ (cWa g (ad 3) wa)))) ++ ((cSt g (ad 4) st ++ (cHi g (ad 5) (ad 6) hi)) ++ [])) := hD
          refine aft_f (st1 := []) rfl (cRt ad ++ (cTx g (ad 1) tx ++ (cIs g (ad 2) is ++ (cWa g (ad 3) wa)))) [] (runV (As := [.ref ((ad 4) 0)]) (rest := []) ⟨hx, hb, hml, hown, hts⟩ (kX0_save l g (ad 4) (ad 5) (ad 6) khi10) (cwV 1 hts gX5_set_X0_save rfl rfl rfl hdX0_save ⟨Nat.le_of_ble_eq_true rfl, Nat.le_of_ble_eq_true rfl⟩) hK hN hP8.right.left hD8.right.left (va_recv hK hP (ci := 0) (q0 := 20) rfl rfl) rfl hl.1 rfl (Nat.le_of_ble_eq_true rfl) dX5_set_48 ⟨Nat.zero_le _, Nat.zero_le _⟩) hP8 hD8 hS hA (fun H locs hP hD hS => ?_)
          have hP : va_P g.1 vwCl (cRt ad ++ (cTx g (ad 1) tx ++ (cIs g (ad 2) is ++ (cWa g (ad 3) wa ++ (cSt g (ad 4) st ++ (cHi g (ad 5) (ad 6) hi10)))))) H := hP
          have hD : va_D A (cRt ad ++ (cTx g (ad 1) tx ++ (cIs g (ad 2) is ++ (cWa g (ad 3) wa ++ (cSt g (ad 4) st ++ (cHi g (ad 5) (ad 6) hi10)))))) := hD
          refine lv_aload_n hx hb dX5_set_51 rfl (lv_at hl 0 rfl) ?_
          refine va_get (D := g.1) (ci := 5) (v := .ref ((ad 4) 0)) (C := RX5) (T := TX5) (N := 5) hx hb hts hinX5 hown hK hP 0 rfl rfl 0 (by decide) (hts (.fieldLink RX5 12 "BarredRungs" "now" "LBarredRungs$State;") (List.mem_of_getElem? (i := 6) rfl)) (fun _ h9 => h9) rfl dX5_set_52 ?_
          refine lv_iload_n hx hb dX5_set_55 rfl (lv_at hl 1 rfl) ?_
          obtain ⟨r11, kr11, h⟩ := bd_ex h
          have hP8 : va_P g.1 vwCl ((cRt ad ++ (cTx g (ad 1) tx ++ (cIs g (ad 2) is ++ (cWa g (ad 3) wa)))) ++ ((cSt g (ad 4) st) ++ (cHi g (ad 5) (ad 6) hi10))) _ := hP
          have hD8 : va_D A ((cRt ad ++ (cTx g (ad 1) tx ++ (cIs g (ad 2) is ++ (cWa g (ad 3) wa)))) ++ ((cSt g (ad 4) st) ++ (cHi g (ad 5) (ad 6) hi10))) := hD
          refine aft_f (st1 := [.int r11]) rfl (cRt ad ++ (cTx g (ad 1) tx ++ (cIs g (ad 2) is ++ (cWa g (ad 3) wa)))) (cHi g (ad 5) (ad 6) hi10) (runV (As := [.int p1]) (rest := []) ⟨hx, hb, hml, hown, hts⟩ (kX2_settingOf l g (ad 4) kr11) (cwV 1 hts gX5_set_X2_settingOf rfl rfl rfl hdX2_settingOf ⟨Nat.le_of_ble_eq_true rfl, Nat.le_of_ble_eq_true rfl⟩) hK hN hP8.right.left hD8.right.left (va_recv hK hP (ci := 2) (q0 := 10) rfl rfl) rfl hl.1 rfl (Nat.le_of_ble_eq_true rfl) dX5_set_56 ⟨Nat.zero_le _, Nat.zero_le _⟩) hP8 hD8 hS hA (fun H locs hP hD hS => ?_)
          have hP : va_P g.1 vwCl (cRt ad ++ (cTx g (ad 1) tx ++ (cIs g (ad 2) is ++ (cWa g (ad 3) wa ++ (cSt g (ad 4) st ++ (cHi g (ad 5) (ad 6) hi10)))))) H := hP
          have hD : va_D A (cRt ad ++ (cTx g (ad 1) tx ++ (cIs g (ad 2) is ++ (cWa g (ad 3) wa ++ (cSt g (ad 4) st ++ (cHi g (ad 5) (ad 6) hi10)))))) := hD
          refine lv_istore_n (lv' := [(3, .int r11), (0, .ref ((ad 0) 0)), (1, .int p1), (2, .int p2)]) hx hb dX5_set_59 rfl hl (by decide) rfl (fun ls hl => ?_)
          refine lv_aload_n hx hb dX5_set_60 rfl (lv_at hl 1 rfl) ?_
          refine va_get (D := g.1) (ci := 5) (v := .ref ((ad 4) 0)) (C := RX5) (T := TX5) (N := 5) hx hb hts hinX5 hown hK hP 0 rfl rfl 0 (by decide) (hts (.fieldLink RX5 12 "BarredRungs" "now" "LBarredRungs$State;") (List.mem_of_getElem? (i := 6) rfl)) (fun _ h9 => h9) rfl dX5_set_61 ?_
          refine lv_iload_n hx hb dX5_set_64 rfl (lv_at hl 2 rfl) ?_
          refine lv_iload_n hx hb dX5_set_65 rfl (lv_at hl 3 rfl) ?_
          obtain ⟨st12, kst12, h⟩ := bd_ex h
          have hP8 : va_P g.1 vwCl ((cRt ad ++ (cTx g (ad 1) tx ++ (cIs g (ad 2) is ++ (cWa g (ad 3) wa)))) ++ ((cSt g (ad 4) st) ++ (cHi g (ad 5) (ad 6) hi10))) _ := hP
          have hD8 : va_D A ((cRt ad ++ (cTx g (ad 1) tx ++ (cIs g (ad 2) is ++ (cWa g (ad 3) wa)))) ++ ((cSt g (ad 4) st) ++ (cHi g (ad 5) (ad 6) hi10))) := hD
          refine aft_f (st1 := []) rfl (cRt ad ++ (cTx g (ad 1) tx ++ (cIs g (ad 2) is ++ (cWa g (ad 3) wa)))) (cHi g (ad 5) (ad 6) hi10) (runV (As := [.int p1, .int p2]) (rest := []) ⟨hx, hb, hml, hown, hts⟩ (kX2_changeSetting l g (ad 4) kst12) (cwV 2 hts gX5_set_X2_changeSetting rfl rfl rfl hdX2_changeSetting ⟨Nat.le_of_ble_eq_true rfl, Nat.le_of_ble_eq_true rfl⟩) hK hN hP8.right.left hD8.right.left (va_recv hK hP (ci := 2) (q0 := 10) rfl rfl) rfl hl.1 rfl (Nat.le_of_ble_eq_true rfl) dX5_set_66 ⟨Nat.zero_le _, Nat.zero_le _⟩) hP8 hD8 hS hA (fun H locs hP hD hS => ?_)
          have hP : va_P g.1 vwCl (cRt ad ++ (cTx g (ad 1) tx ++ (cIs g (ad 2) is ++ (cWa g (ad 3) wa ++ (cSt g (ad 4) st12 ++ (cHi g (ad 5) (ad 6) hi10)))))) H := hP
          have hD : va_D A (cRt ad ++ (cTx g (ad 1) tx ++ (cIs g (ad 2) is ++ (cWa g (ad 3) wa ++ (cSt g (ad 4) st12 ++ (cHi g (ad 5) (ad 6) hi10)))))) := hD
          refine lv_iload_n hx hb dX5_set_69 rfl (lv_at hl 0 rfl) ?_
          cases h
        · have h := if_f c9 h
          exact hthrow _ _ _ _ 48 71 52 "the value is not 1 to 7" hP hD hS hl.1 (by decide +kernel) (hts (.classLink RX5 48 "java/lang/IllegalArgumentException") (List.mem_of_getElem? (i := 3) rfl)) (hts (.initialized "java/lang/IllegalArgumentException") (List.mem_of_getElem? (i := 4) rfl)) (fun w h9 => hts w (List.mem_cons_of_mem _ (List.mem_append_right _ h9))) (by decide +kernel) (by decide +kernel) dX5_set_30 dX5_set_33 dX5_set_34 dX5_set_36 dX5_set_39
    · have h := if_f c7 h
      exact absurd (Sum.inl.inj (some_i h)) (by decide)
abbrev rtX5_setting : Room := { frames := 6, cells := 1, slots := 6, locals := 90 }
set_option maxRecDepth 100000 in
set_option maxHeartbeats 8000000 in
theorem tX5_setting_1 (l : Launch) (hst : l.stackTraces = false) (g : GG) (ad : Nat → Nat → Nat) {tx : Tx} {is : Is} {wa : Wa} {st : St} {hi : Hi} {p1 : Int32} (h : fX5_setting tx is wa st hi p1 = some (.inl 1)) : CT l g yX5_setting wsX5_setting rtX5_setting [.ref ((ad 0) 0), .int p1] (cRt ad ++ (cTx g (ad 1) tx ++ (cIs g (ad 2) is ++ (cWa g (ad 3) wa ++ (cSt g (ad 4) st ++ (cHi g (ad 5) (ad 6) hi)))))) "java/lang/IndexOutOfBoundsException" := by
  refine CT_of hst (cc := cX5_setting) (maxL := 2) (ret := (some .int)) (by decide +kernel) (by decide) (by decide) rfl rfl rfl (by decide +kernel) rfl (Nat.le_of_ble_eq_true rfl) ?_
  intro p e su m args below meth c A Q ls hx hb hml hown hts hK hN hA hnm hP hD hS hl hthrow
  have hinX5 : ∀ w ∈ u_ws RX5 TX5 5, w ∈ wsX5_setting := fun _ h9 => List.mem_cons_of_mem _ (List.mem_append_left _ (List.mem_append_left _ (List.mem_append_right _ h9)))
  have hinX2 : ∀ w ∈ u_ws RX2 TX2 17, w ∈ wsX5_setting := fun _ h9 => List.mem_cons_of_mem _ (List.mem_append_left _ (List.mem_append_right _ h9))
  unfold fX5_setting at h
  have hl : lv_has ls 2 [(0, .ref ((ad 0) 0)), (1, .int p1)] := hl
  refine lv_iload_n hx hb dX5_setting_0 rfl (lv_at hl 1 rfl) ?_
  refine lv_if_eq (tgt := 19) hx hb dX5_setting_1 (by decide) (fun c1 => ?_) (fun c1 => ?_)
  · have h := if_t c1 h
    refine lv_aload_n hx hb dX5_setting_19 rfl (lv_at hl 0 rfl) ?_
    refine va_get (D := g.1) (ci := 5) (v := .ref ((ad 4) 0)) (C := RX5) (T := TX5) (N := 5) hx hb hts hinX5 hown hK hP 0 rfl rfl 0 (by decide) (hts (.fieldLink RX5 12 "BarredRungs" "now" "LBarredRungs$State;") (List.mem_of_getElem? (i := 3) rfl)) (fun _ h9 => h9) rfl dX5_setting_20 ?_
    refine lv_iload_n hx hb dX5_setting_23 rfl (lv_at hl 1 rfl) ?_
    obtain ⟨r2, kr2, h⟩ := bd_ex h
    have hP8 : va_P g.1 vwCl ((cRt ad ++ (cTx g (ad 1) tx ++ (cIs g (ad 2) is ++ (cWa g (ad 3) wa)))) ++ ((cSt g (ad 4) st) ++ (cHi g (ad 5) (ad 6) hi))) _ := hP
    have hD8 : va_D A ((cRt ad ++ (cTx g (ad 1) tx ++ (cIs g (ad 2) is ++ (cWa g (ad 3) wa)))) ++ ((cSt g (ad 4) st) ++ (cHi g (ad 5) (ad 6) hi))) := hD
    refine aft_f (st1 := [.int r2]) rfl (cRt ad ++ (cTx g (ad 1) tx ++ (cIs g (ad 2) is ++ (cWa g (ad 3) wa)))) (cHi g (ad 5) (ad 6) hi) (runV (As := [.int p1]) (rest := []) ⟨hx, hb, hml, hown, hts⟩ (kX2_settingOf l g (ad 4) kr2) (cwV 1 hts gX5_setting_X2_settingOf rfl rfl rfl hdX2_settingOf ⟨Nat.le_of_ble_eq_true rfl, Nat.le_of_ble_eq_true rfl⟩) hK hN hP8.right.left hD8.right.left (va_recv hK hP (ci := 2) (q0 := 10) rfl rfl) rfl hl.1 rfl (Nat.le_of_ble_eq_true rfl) dX5_setting_24 ⟨Nat.zero_le _, Nat.zero_le _⟩) hP8 hD8 hS hA (fun H locs hP hD hS => ?_)
    have hP : va_P g.1 vwCl (cRt ad ++ (cTx g (ad 1) tx ++ (cIs g (ad 2) is ++ (cWa g (ad 3) wa ++ (cSt g (ad 4) st ++ (cHi g (ad 5) (ad 6) hi)))))) H := hP
    have hD : va_D A (cRt ad ++ (cTx g (ad 1) tx ++ (cIs g (ad 2) is ++ (cWa g (ad 3) wa ++ (cSt g (ad 4) st ++ (cHi g (ad 5) (ad 6) hi)))))) := hD
    cases h
  · have h := if_f c1 h
    refine lv_iload_n hx hb dX5_setting_4 rfl (lv_at hl 1 rfl) ?_
    refine lv_iconst (v := 1) hx hb dX5_setting_5 (by decide) ?_
    refine lv_icmp_eq (tgt := 19) hx hb dX5_setting_6 (by decide) (fun c3 => ?_) (fun c3 => ?_)
    · have h := if_t c3 h
      refine lv_aload_n hx hb dX5_setting_19 rfl (lv_at hl 0 rfl) ?_
      refine va_get (D := g.1) (ci := 5) (v := .ref ((ad 4) 0)) (C := RX5) (T := TX5) (N := 5) hx hb hts hinX5 hown hK hP 0 rfl rfl 0 (by decide) (hts (.fieldLink RX5 12 "BarredRungs" "now" "LBarredRungs$State;") (List.mem_of_getElem? (i := 3) rfl)) (fun _ h9 => h9) rfl dX5_setting_20 ?_
      refine lv_iload_n hx hb dX5_setting_23 rfl (lv_at hl 1 rfl) ?_
      obtain ⟨r4, kr4, h⟩ := bd_ex h
      have hP8 : va_P g.1 vwCl ((cRt ad ++ (cTx g (ad 1) tx ++ (cIs g (ad 2) is ++ (cWa g (ad 3) wa)))) ++ ((cSt g (ad 4) st) ++ (cHi g (ad 5) (ad 6) hi))) _ := hP
      have hD8 : va_D A ((cRt ad ++ (cTx g (ad 1) tx ++ (cIs g (ad 2) is ++ (cWa g (ad 3) wa)))) ++ ((cSt g (ad 4) st) ++ (cHi g (ad 5) (ad 6) hi))) := hD
      refine aft_f (st1 := [.int r4]) rfl (cRt ad ++ (cTx g (ad 1) tx ++ (cIs g (ad 2) is ++ (cWa g (ad 3) wa)))) (cHi g (ad 5) (ad 6) hi) (runV (As := [.int p1]) (rest := []) ⟨hx, hb, hml, hown, hts⟩ (kX2_settingOf l g (ad 4) kr4) (cwV 1 hts gX5_setting_X2_settingOf rfl rfl rfl hdX2_settingOf ⟨Nat.le_of_ble_eq_true rfl, Nat.le_of_ble_eq_true rfl⟩) hK hN hP8.right.left hD8.right.left (va_recv hK hP (ci := 2) (q0 := 10) rfl rfl) rfl hl.1 rfl (Nat.le_of_ble_eq_true rfl) dX5_setting_24 ⟨Nat.zero_le _, Nat.zero_le _⟩) hP8 hD8 hS hA (fun H locs hP hD hS => ?_)
      have hP : va_P g.1 vwCl (cRt ad ++ (cTx g (ad 1) tx ++ (cIs g (ad 2) is ++ (cWa g (ad 3) wa ++ (cSt g (ad 4) st ++ (cHi g (ad 5) (ad 6) hi)))))) H := hP
      have hD : va_D A (cRt ad ++ (cTx g (ad 1) tx ++ (cIs g (ad 2) is ++ (cWa g (ad 3) wa ++ (cSt g (ad 4) st ++ (cHi g (ad 5) (ad 6) hi)))))) := hD
      cases h
    · have h := if_f c3 h
      exact hthrow _ _ _ _ 66 68 70 "no such setting" hP hD hS hl.1 (by decide +kernel) (hts (.classLink RX5 66 "java/lang/IndexOutOfBoundsException") (List.mem_of_getElem? (i := 1) rfl)) (hts (.initialized "java/lang/IndexOutOfBoundsException") (List.mem_of_getElem? (i := 2) rfl)) (fun w h9 => hts w (List.mem_cons_of_mem _ (List.mem_append_right _ h9))) (by decide +kernel) (by decide +kernel) dX5_setting_9 dX5_setting_12 dX5_setting_13 dX5_setting_15 dX5_setting_18
abbrev rtX5_undo : Room := { frames := 6, cells := 1, slots := 6, locals := 102 }
set_option maxRecDepth 100000 in
set_option maxHeartbeats 8000000 in
theorem tX5_undo_3 (l : Launch) (hst : l.stackTraces = false) (g : GG) (ad : Nat → Nat → Nat) {tx : Tx} {is : Is} {wa : Wa} {st : St} {hi : Hi} (h : fX5_undo tx is wa st hi = some (.inl 3)) : CT l g yX5_undo wsX5_undo rtX5_undo [.ref ((ad 0) 0)] (cRt ad ++ (cTx g (ad 1) tx ++ (cIs g (ad 2) is ++ (cWa g (ad 3) wa ++ (cSt g (ad 4) st ++ (cHi g (ad 5) (ad 6) hi)))))) "java/lang/IllegalStateException" := by
  refine CT_of hst (cc := cX5_undo) (maxL := 1) (ret := (some .int)) (by decide +kernel) (by decide) (by decide) rfl rfl rfl (by decide +kernel) rfl (Nat.le_of_ble_eq_true rfl) ?_
  intro p e su m args below meth c A Q ls hx hb hml hown hts hK hN hA hnm hP hD hS hl hthrow
  have hinX5 : ∀ w ∈ u_ws RX5 TX5 5, w ∈ wsX5_undo := fun _ h9 => List.mem_cons_of_mem _ (List.mem_append_left _ (List.mem_append_left _ (List.mem_append_left _ (List.mem_append_right _ h9))))
  have hinX0 : ∀ w ∈ u_ws RX0 TX0 4, w ∈ wsX5_undo := fun _ h9 => List.mem_cons_of_mem _ (List.mem_append_left _ (List.mem_append_left _ (List.mem_append_right _ h9)))
  have hinX2 : ∀ w ∈ u_ws RX2 TX2 17, w ∈ wsX5_undo := fun _ h9 => List.mem_cons_of_mem _ (List.mem_append_left _ (List.mem_append_right _ h9))
  unfold fX5_undo at h
  have hl : lv_has ls 1 [(0, .ref ((ad 0) 0))] := hl
  refine lv_aload_n hx hb dX5_undo_0 rfl (lv_at hl 0 rfl) ?_
  refine va_get (D := g.1) (ci := 5) (v := .ref ((ad 5) 0)) (C := RX5) (T := TX5) (N := 5) hx hb hts hinX5 hown hK hP 0 rfl rfl 1 (by decide) (hts (.fieldLink RX5 19 "BarredRungs" "history" "LBarredRungs$History;") (List.mem_of_getElem? (i := 3) rfl)) (fun _ h9 => h9) rfl dX5_undo_1 ?_
  refine va_get (D := g.1) (ci := 0) (v := .int (Hi_size hi)) (C := RX0) (T := TX0) (N := 4) hx hb hts hinX0 hown hK hP 20 rfl rfl 2 (by decide) (hts (.fieldLink RX5 184 "BarredRungs$History" "size" "I") (List.mem_of_getElem? (i := 4) rfl)) (fun _ h9 => h9) rfl dX5_undo_4 ?_
  refine lv_if_ne (tgt := 20) hx hb dX5_undo_7 (by decide) (fun c1 => ?_) (fun c1 => ?_)
  · have h := if_f c1 h
    refine lv_aload_n hx hb dX5_undo_20 rfl (lv_at hl 0 rfl) ?_
    refine va_get (D := g.1) (ci := 5) (v := .ref ((ad 5) 0)) (C := RX5) (T := TX5) (N := 5) hx hb hts hinX5 hown hK hP 0 rfl rfl 1 (by decide) (hts (.fieldLink RX5 19 "BarredRungs" "history" "LBarredRungs$History;") (List.mem_of_getElem? (i := 3) rfl)) (fun _ h9 => h9) rfl dX5_undo_21 ?_
    refine lv_aload_n hx hb dX5_undo_24 rfl (lv_at hl 0 rfl) ?_
    refine va_get (D := g.1) (ci := 5) (v := .ref ((ad 4) 0)) (C := RX5) (T := TX5) (N := 5) hx hb hts hinX5 hown hK hP 0 rfl rfl 0 (by decide) (hts (.fieldLink RX5 12 "BarredRungs" "now" "LBarredRungs$State;") (List.mem_of_getElem? (i := 5) rfl)) (fun _ h9 => h9) rfl dX5_undo_25 ?_
    obtain ⟨st2, hi3, kst2, h⟩ := bd2_ex h
    have hP8 : va_P g.1 vwCl ((cRt ad ++ (cTx g (ad 1) tx ++ (cIs g (ad 2) is ++ (cWa g (ad 3) wa)))) ++ ((cSt g (ad 4) st ++ (cHi g (ad 5) (ad 6) hi)) ++ [])) _ := hP
    have hD8 : va_D A ((cRt ad ++ (cTx g (ad 1) tx ++ (cIs g (ad 2) is ++ (cWa g (ad 3) wa)))) ++ ((cSt g (ad 4) st ++ (cHi g (ad 5) (ad 6) hi)) ++ [])) := hD
    refine aft_f (st1 := []) rfl (cRt ad ++ (cTx g (ad 1) tx ++ (cIs g (ad 2) is ++ (cWa g (ad 3) wa)))) [] (runV (As := [.ref ((ad 4) 0)]) (rest := []) ⟨hx, hb, hml, hown, hts⟩ (kX0_restoreLatest l g (ad 4) (ad 5) (ad 6) kst2) (cwV 1 hts gX5_undo_X0_restoreLatest rfl rfl rfl hdX0_restoreLatest ⟨Nat.le_of_ble_eq_true rfl, Nat.le_of_ble_eq_true rfl⟩) hK hN hP8.right.left hD8.right.left (va_recv hK hP (ci := 0) (q0 := 20) rfl rfl) rfl hl.1 rfl (Nat.le_of_ble_eq_true rfl) dX5_undo_28 ⟨Nat.zero_le _, Nat.zero_le _⟩) hP8 hD8 hS hA (fun H locs hP hD hS => ?_)
    have hP : va_P g.1 vwCl (cRt ad ++ (cTx g (ad 1) tx ++ (cIs g (ad 2) is ++ (cWa g (ad 3) wa ++ (cSt g (ad 4) st2 ++ (cHi g (ad 5) (ad 6) hi3)))))) H := hP
    have hD : va_D A (cRt ad ++ (cTx g (ad 1) tx ++ (cIs g (ad 2) is ++ (cWa g (ad 3) wa ++ (cSt g (ad 4) st2 ++ (cHi g (ad 5) (ad 6) hi3)))))) := hD
    refine lv_aload_n hx hb dX5_undo_31 rfl (lv_at hl 0 rfl) ?_
    refine va_get (D := g.1) (ci := 5) (v := .ref ((ad 5) 0)) (C := RX5) (T := TX5) (N := 5) hx hb hts hinX5 hown hK hP 0 rfl rfl 1 (by decide) (hts (.fieldLink RX5 19 "BarredRungs" "history" "LBarredRungs$History;") (List.mem_of_getElem? (i := 3) rfl)) (fun _ h9 => h9) rfl dX5_undo_32 ?_
    refine va_get (D := g.1) (ci := 0) (v := .int (Hi_size hi3)) (C := RX0) (T := TX0) (N := 4) hx hb hts hinX0 hown hK hP 20 rfl rfl 2 (by decide) (hts (.fieldLink RX5 184 "BarredRungs$History" "size" "I") (List.mem_of_getElem? (i := 4) rfl)) (fun _ h9 => h9) rfl dX5_undo_35 ?_
    cases h
  · have h := if_t c1 h
    exact hthrow _ _ _ _ 112 187 116 "there is no saved state" hP hD hS hl.1 (by decide +kernel) (hts (.classLink RX5 112 "java/lang/IllegalStateException") (List.mem_of_getElem? (i := 1) rfl)) (hts (.initialized "java/lang/IllegalStateException") (List.mem_of_getElem? (i := 2) rfl)) (fun w h9 => hts w (List.mem_cons_of_mem _ (List.mem_append_right _ h9))) (by decide +kernel) (by decide +kernel) dX5_undo_10 dX5_undo_13 dX5_undo_14 dX5_undo_16 dX5_undo_19
abbrev rtX5_why : Room := { frames := 6, cells := 1, slots := 6, locals := 90 }
set_option maxRecDepth 100000 in
set_option maxHeartbeats 8000000 in
theorem tX5_why_1 (l : Launch) (hst : l.stackTraces = false) (g : GG) (ad : Nat → Nat → Nat) {tx : Tx} {is : Is} {wa : Wa} {st : St} {hi : Hi} {p1 : Int32} {p2 : Int32} (h : fX5_why tx is wa st hi p1 p2 = some (.inl 1)) : CT l g yX5_why wsX5_why rtX5_why [.ref ((ad 0) 0), .int p1, .int p2] (cRt ad ++ (cTx g (ad 1) tx ++ (cIs g (ad 2) is ++ (cWa g (ad 3) wa ++ (cSt g (ad 4) st ++ (cHi g (ad 5) (ad 6) hi)))))) "java/lang/IndexOutOfBoundsException" := by
  refine CT_of hst (cc := cX5_why) (maxL := 3) (ret := (some .int)) (by decide +kernel) (by decide) (by decide) rfl rfl rfl (by decide +kernel) rfl (Nat.le_of_ble_eq_true rfl) ?_
  intro p e su m args below meth c A Q ls hx hb hml hown hts hK hN hA hnm hP hD hS hl hthrow
  have hinX5 : ∀ w ∈ u_ws RX5 TX5 5, w ∈ wsX5_why := fun _ h9 => List.mem_cons_of_mem _ (List.mem_append_left _ (List.mem_append_left _ (List.mem_append_right _ h9)))
  have hinX2 : ∀ w ∈ u_ws RX2 TX2 17, w ∈ wsX5_why := fun _ h9 => List.mem_cons_of_mem _ (List.mem_append_left _ (List.mem_append_right _ h9))
  unfold fX5_why at h
  have hl : lv_has ls 3 [(0, .ref ((ad 0) 0)), (1, .int p1), (2, .int p2)] := hl
  refine lv_iload_n hx hb dX5_why_0 rfl (lv_at hl 1 rfl) ?_
  obtain ⟨r1, kr1, h⟩ := bd_ex h
  refine aft_e (st1 := [.int r1]) rfl (runS (As := [.int p1]) (rest := []) ⟨hx, hb, hml, hown, hts⟩ (kX5_isClimber l g kr1) (va_cwS 1 hts gX5_why_X5_isClimber rfl rfl rfl hdX5_isClimber.2 ⟨Nat.le_of_ble_eq_true rfl, Nat.le_of_ble_eq_true rfl⟩) hK hN nilP (nilD (A := A)) rfl hl.1 rfl (Nat.le_of_ble_eq_true rfl) dX5_why_1 ⟨Nat.zero_le _, Nat.zero_le _⟩) hP hS hA (fun H locs hP hS => ?_)
  refine lv_if_eq (tgt := 18) hx hb dX5_why_4 (by decide) (fun c2 => ?_) (fun c2 => ?_)
  · have h := if_t c2 h
    exact hthrow _ _ _ _ 66 98 70 "no such climber or word" hP hD hS hl.1 (by decide +kernel) (hts (.classLink RX5 66 "java/lang/IndexOutOfBoundsException") (List.mem_of_getElem? (i := 1) rfl)) (hts (.initialized "java/lang/IndexOutOfBoundsException") (List.mem_of_getElem? (i := 2) rfl)) (fun w h9 => hts w (List.mem_cons_of_mem _ (List.mem_append_right _ h9))) (by decide +kernel) (by decide +kernel) dX5_why_18 dX5_why_21 dX5_why_22 dX5_why_24 dX5_why_27
  · have h := if_f c2 h
    refine lv_aload_n hx hb dX5_why_7 rfl (lv_at hl 0 rfl) ?_
    refine va_get (D := g.1) (ci := 5) (v := .ref ((ad 4) 0)) (C := RX5) (T := TX5) (N := 5) hx hb hts hinX5 hown hK hP 0 rfl rfl 0 (by decide) (hts (.fieldLink RX5 12 "BarredRungs" "now" "LBarredRungs$State;") (List.mem_of_getElem? (i := 3) rfl)) (fun _ h9 => h9) rfl dX5_why_8 ?_
    refine lv_iload_n hx hb dX5_why_11 rfl (lv_at hl 2 rfl) ?_
    obtain ⟨r3, kr3, h⟩ := bd_ex h
    have hP8 : va_P g.1 vwCl ((cRt ad ++ (cTx g (ad 1) tx ++ (cIs g (ad 2) is ++ (cWa g (ad 3) wa)))) ++ ((cSt g (ad 4) st) ++ (cHi g (ad 5) (ad 6) hi))) _ := hP
    have hD8 : va_D A ((cRt ad ++ (cTx g (ad 1) tx ++ (cIs g (ad 2) is ++ (cWa g (ad 3) wa)))) ++ ((cSt g (ad 4) st) ++ (cHi g (ad 5) (ad 6) hi))) := hD
    refine aft_f (st1 := [.int r3]) rfl (cRt ad ++ (cTx g (ad 1) tx ++ (cIs g (ad 2) is ++ (cWa g (ad 3) wa)))) (cHi g (ad 5) (ad 6) hi) (runV (As := [.int p2]) (rest := []) ⟨hx, hb, hml, hown, hts⟩ (kX2_hasWord l g (ad 4) kr3) (cwV 1 hts gX5_why_X2_hasWord rfl rfl rfl hdX2_hasWord ⟨Nat.le_of_ble_eq_true rfl, Nat.le_of_ble_eq_true rfl⟩) hK hN hP8.right.left hD8.right.left (va_recv hK hP (ci := 2) (q0 := 10) rfl rfl) rfl hl.1 rfl (Nat.le_of_ble_eq_true rfl) dX5_why_12 ⟨Nat.zero_le _, Nat.zero_le _⟩) hP8 hD8 hS hA (fun H locs hP hD hS => ?_)
    have hP : va_P g.1 vwCl (cRt ad ++ (cTx g (ad 1) tx ++ (cIs g (ad 2) is ++ (cWa g (ad 3) wa ++ (cSt g (ad 4) st ++ (cHi g (ad 5) (ad 6) hi)))))) H := hP
    have hD : va_D A (cRt ad ++ (cTx g (ad 1) tx ++ (cIs g (ad 2) is ++ (cWa g (ad 3) wa ++ (cSt g (ad 4) st ++ (cHi g (ad 5) (ad 6) hi)))))) := hD
    refine lv_if_ne (tgt := 28) hx hb dX5_why_15 (by decide) (fun c4 => ?_) (fun c4 => ?_)
    · have h := if_f c4 h
      refine lv_aload_n hx hb dX5_why_28 rfl (lv_at hl 0 rfl) ?_
      refine va_get (D := g.1) (ci := 5) (v := .ref ((ad 4) 0)) (C := RX5) (T := TX5) (N := 5) hx hb hts hinX5 hown hK hP 0 rfl rfl 0 (by decide) (hts (.fieldLink RX5 12 "BarredRungs" "now" "LBarredRungs$State;") (List.mem_of_getElem? (i := 3) rfl)) (fun _ h9 => h9) rfl dX5_why_29 ?_
      refine lv_iload_n hx hb dX5_why_32 rfl (lv_at hl 1 rfl) ?_
      refine lv_iload_n hx hb dX5_why_33 rfl (lv_at hl 2 rfl) ?_
      obtain ⟨r5, kr5, h⟩ := bd_ex h
      have hP8 : va_P g.1 vwCl ((cRt ad ++ (cTx g (ad 1) tx ++ (cIs g (ad 2) is ++ (cWa g (ad 3) wa)))) ++ ((cSt g (ad 4) st) ++ (cHi g (ad 5) (ad 6) hi))) _ := hP
      have hD8 : va_D A ((cRt ad ++ (cTx g (ad 1) tx ++ (cIs g (ad 2) is ++ (cWa g (ad 3) wa)))) ++ ((cSt g (ad 4) st) ++ (cHi g (ad 5) (ad 6) hi))) := hD
      refine aft_f (st1 := [.int r5]) rfl (cRt ad ++ (cTx g (ad 1) tx ++ (cIs g (ad 2) is ++ (cWa g (ad 3) wa)))) (cHi g (ad 5) (ad 6) hi) (runV (As := [.int p1, .int p2]) (rest := []) ⟨hx, hb, hml, hown, hts⟩ (kX2_hindrance l g (ad 4) kr5) (cwV 2 hts gX5_why_X2_hindrance rfl rfl rfl hdX2_hindrance ⟨Nat.le_of_ble_eq_true rfl, Nat.le_of_ble_eq_true rfl⟩) hK hN hP8.right.left hD8.right.left (va_recv hK hP (ci := 2) (q0 := 10) rfl rfl) rfl hl.1 rfl (Nat.le_of_ble_eq_true rfl) dX5_why_34 ⟨Nat.zero_le _, Nat.zero_le _⟩) hP8 hD8 hS hA (fun H locs hP hD hS => ?_)
      have hP : va_P g.1 vwCl (cRt ad ++ (cTx g (ad 1) tx ++ (cIs g (ad 2) is ++ (cWa g (ad 3) wa ++ (cSt g (ad 4) st ++ (cHi g (ad 5) (ad 6) hi)))))) H := hP
      have hD : va_D A (cRt ad ++ (cTx g (ad 1) tx ++ (cIs g (ad 2) is ++ (cWa g (ad 3) wa ++ (cSt g (ad 4) st ++ (cHi g (ad 5) (ad 6) hi)))))) := hD
      cases h
    · have h := if_t c4 h
      exact hthrow _ _ _ _ 66 98 70 "no such climber or word" hP hD hS hl.1 (by decide +kernel) (hts (.classLink RX5 66 "java/lang/IndexOutOfBoundsException") (List.mem_of_getElem? (i := 1) rfl)) (hts (.initialized "java/lang/IndexOutOfBoundsException") (List.mem_of_getElem? (i := 2) rfl)) (fun w h9 => hts w (List.mem_cons_of_mem _ (List.mem_append_right _ h9))) (by decide +kernel) (by decide +kernel) dX5_why_18 dX5_why_21 dX5_why_22 dX5_why_24 dX5_why_27
abbrev rtX5_word : Room := { frames := 6, cells := 1, slots := 6, locals := 110 }
set_option maxRecDepth 100000 in
set_option maxHeartbeats 8000000 in
theorem tX5_word_1 (l : Launch) (hst : l.stackTraces = false) (g : GG) (ad : Nat → Nat → Nat) {tx : Tx} {is : Is} {wa : Wa} {st : St} {hi : Hi} {p1 : Int32} {p2 : Int32} (h : fX5_word tx is wa st hi p1 p2 = some (.inl 1)) : CT l g yX5_word wsX5_word rtX5_word [.ref ((ad 0) 0), .int p1, .int p2] (cRt ad ++ (cTx g (ad 1) tx ++ (cIs g (ad 2) is ++ (cWa g (ad 3) wa ++ (cSt g (ad 4) st ++ (cHi g (ad 5) (ad 6) hi)))))) "java/lang/IndexOutOfBoundsException" := by
  refine CT_of hst (cc := cX5_word) (maxL := 3) (ret := (some .int)) (by decide +kernel) (by decide) (by decide) rfl rfl rfl (by decide +kernel) rfl (Nat.le_of_ble_eq_true rfl) ?_
  intro p e su m args below meth c A Q ls hx hb hml hown hts hK hN hA hnm hP hD hS hl hthrow
  have hinX5 : ∀ w ∈ u_ws RX5 TX5 5, w ∈ wsX5_word := fun _ h9 => List.mem_cons_of_mem _ (List.mem_append_left _ (List.mem_append_left _ (List.mem_append_left _ (List.mem_append_right _ h9))))
  have hinX2 : ∀ w ∈ u_ws RX2 TX2 17, w ∈ wsX5_word := fun _ h9 => List.mem_cons_of_mem _ (List.mem_append_left _ (List.mem_append_left _ (List.mem_append_right _ h9)))
  unfold fX5_word at h
  have hl : lv_has ls 3 [(0, .ref ((ad 0) 0)), (1, .int p1), (2, .int p2)] := hl
  refine lv_aload_n hx hb dX5_word_0 rfl (lv_at hl 0 rfl) ?_
  refine va_get (D := g.1) (ci := 5) (v := .ref ((ad 4) 0)) (C := RX5) (T := TX5) (N := 5) hx hb hts hinX5 hown hK hP 0 rfl rfl 0 (by decide) (hts (.fieldLink RX5 12 "BarredRungs" "now" "LBarredRungs$State;") (List.mem_of_getElem? (i := 5) rfl)) (fun _ h9 => h9) rfl dX5_word_1 ?_
  refine lv_iload_n hx hb dX5_word_4 rfl (lv_at hl 1 rfl) ?_
  obtain ⟨r1, kr1, h⟩ := bd_ex h
  have hP8 : va_P g.1 vwCl ((cRt ad ++ (cTx g (ad 1) tx ++ (cIs g (ad 2) is ++ (cWa g (ad 3) wa)))) ++ ((cSt g (ad 4) st) ++ (cHi g (ad 5) (ad 6) hi))) _ := hP
  have hD8 : va_D A ((cRt ad ++ (cTx g (ad 1) tx ++ (cIs g (ad 2) is ++ (cWa g (ad 3) wa)))) ++ ((cSt g (ad 4) st) ++ (cHi g (ad 5) (ad 6) hi))) := hD
  refine aft_f (st1 := [.int r1]) rfl (cRt ad ++ (cTx g (ad 1) tx ++ (cIs g (ad 2) is ++ (cWa g (ad 3) wa)))) (cHi g (ad 5) (ad 6) hi) (runV (As := [.int p1]) (rest := []) ⟨hx, hb, hml, hown, hts⟩ (kX2_hasWord l g (ad 4) kr1) (cwV 1 hts gX5_word_X2_hasWord rfl rfl rfl hdX2_hasWord ⟨Nat.le_of_ble_eq_true rfl, Nat.le_of_ble_eq_true rfl⟩) hK hN hP8.right.left hD8.right.left (va_recv hK hP (ci := 2) (q0 := 10) rfl rfl) rfl hl.1 rfl (Nat.le_of_ble_eq_true rfl) dX5_word_5 ⟨Nat.zero_le _, Nat.zero_le _⟩) hP8 hD8 hS hA (fun H locs hP hD hS => ?_)
  have hP : va_P g.1 vwCl (cRt ad ++ (cTx g (ad 1) tx ++ (cIs g (ad 2) is ++ (cWa g (ad 3) wa ++ (cSt g (ad 4) st ++ (cHi g (ad 5) (ad 6) hi)))))) H := hP
  have hD : va_D A (cRt ad ++ (cTx g (ad 1) tx ++ (cIs g (ad 2) is ++ (cWa g (ad 3) wa ++ (cSt g (ad 4) st ++ (cHi g (ad 5) (ad 6) hi)))))) := hD
  refine lv_if_ne (tgt := 21) hx hb dX5_word_8 (by decide) (fun c2 => ?_) (fun c2 => ?_)
  · have h := if_f c2 h
    refine lv_iload_n hx hb dX5_word_21 rfl (lv_at hl 2 rfl) ?_
    refine lv_if_lt (tgt := 31) hx hb dX5_word_22 (by decide) (fun c3 => ?_) (fun c3 => ?_)
    · have h := if_t c3 h
      exact absurd (Sum.inl.inj (some_i h)) (by decide)
    · have h := if_f c3 h
      refine lv_iload_n hx hb dX5_word_25 rfl (lv_at hl 2 rfl) ?_
      refine lv_bipush (v := 9) hx hb dX5_word_26 (by decide) ?_
      refine lv_icmp_le (tgt := 41) hx hb dX5_word_28 (by decide) (fun c4 => ?_) (fun c4 => ?_)
      · have h := if_t c4 h
        refine lv_aload_n hx hb dX5_word_41 rfl (lv_at hl 0 rfl) ?_
        refine lv_iload_n hx hb dX5_word_42 rfl (lv_at hl 1 rfl) ?_
        refine lv_iload_n hx hb dX5_word_43 rfl (lv_at hl 2 rfl) ?_
        obtain ⟨r5, kr5, h⟩ := bd_ex h
        refine aft_w (st1 := [.int r5]) rfl (runV (As := [.int p1, .int p2]) (rest := []) ⟨hx, hb, hml, hown, hts⟩ (kX5_wordNumber l g ad kr5) (cwV 2 hts gX5_word_X5_wordNumber rfl rfl rfl hdX5_wordNumber ⟨Nat.le_of_ble_eq_true rfl, Nat.le_of_ble_eq_true rfl⟩) hK hN hP hD (va_recv hK hP (ci := 5) (q0 := 0) rfl rfl) rfl hl.1 rfl (Nat.le_of_ble_eq_true rfl) dX5_word_44 ⟨Nat.zero_le _, Nat.zero_le _⟩) hD hS hA (fun H locs hP hD hS => ?_)
        cases h
      · have h := if_f c4 h
        exact absurd (Sum.inl.inj (some_i h)) (by decide)
  · have h := if_t c2 h
    exact hthrow _ _ _ _ 66 192 70 "no such word" hP hD hS hl.1 (by decide +kernel) (hts (.classLink RX5 66 "java/lang/IndexOutOfBoundsException") (List.mem_of_getElem? (i := 1) rfl)) (hts (.initialized "java/lang/IndexOutOfBoundsException") (List.mem_of_getElem? (i := 2) rfl)) (fun w h9 => hts w (List.mem_cons_of_mem _ (List.mem_append_left _ (List.mem_append_right _ h9)))) (by decide +kernel) (by decide +kernel) dX5_word_11 dX5_word_14 dX5_word_15 dX5_word_17 dX5_word_20
set_option maxRecDepth 100000 in
set_option maxHeartbeats 8000000 in
theorem tX5_word_2 (l : Launch) (hst : l.stackTraces = false) (g : GG) (ad : Nat → Nat → Nat) {tx : Tx} {is : Is} {wa : Wa} {st : St} {hi : Hi} {p1 : Int32} {p2 : Int32} (h : fX5_word tx is wa st hi p1 p2 = some (.inl 2)) : CT l g yX5_word wsX5_word rtX5_word [.ref ((ad 0) 0), .int p1, .int p2] (cRt ad ++ (cTx g (ad 1) tx ++ (cIs g (ad 2) is ++ (cWa g (ad 3) wa ++ (cSt g (ad 4) st ++ (cHi g (ad 5) (ad 6) hi)))))) "java/lang/IllegalArgumentException" := by
  refine CT_of hst (cc := cX5_word) (maxL := 3) (ret := (some .int)) (by decide +kernel) (by decide) (by decide) rfl rfl rfl (by decide +kernel) rfl (Nat.le_of_ble_eq_true rfl) ?_
  intro p e su m args below meth c A Q ls hx hb hml hown hts hK hN hA hnm hP hD hS hl hthrow
  have hinX5 : ∀ w ∈ u_ws RX5 TX5 5, w ∈ wsX5_word := fun _ h9 => List.mem_cons_of_mem _ (List.mem_append_left _ (List.mem_append_left _ (List.mem_append_left _ (List.mem_append_right _ h9))))
  have hinX2 : ∀ w ∈ u_ws RX2 TX2 17, w ∈ wsX5_word := fun _ h9 => List.mem_cons_of_mem _ (List.mem_append_left _ (List.mem_append_left _ (List.mem_append_right _ h9)))
  unfold fX5_word at h
  have hl : lv_has ls 3 [(0, .ref ((ad 0) 0)), (1, .int p1), (2, .int p2)] := hl
  refine lv_aload_n hx hb dX5_word_0 rfl (lv_at hl 0 rfl) ?_
  refine va_get (D := g.1) (ci := 5) (v := .ref ((ad 4) 0)) (C := RX5) (T := TX5) (N := 5) hx hb hts hinX5 hown hK hP 0 rfl rfl 0 (by decide) (hts (.fieldLink RX5 12 "BarredRungs" "now" "LBarredRungs$State;") (List.mem_of_getElem? (i := 5) rfl)) (fun _ h9 => h9) rfl dX5_word_1 ?_
  refine lv_iload_n hx hb dX5_word_4 rfl (lv_at hl 1 rfl) ?_
  obtain ⟨r1, kr1, h⟩ := bd_ex h
  have hP8 : va_P g.1 vwCl ((cRt ad ++ (cTx g (ad 1) tx ++ (cIs g (ad 2) is ++ (cWa g (ad 3) wa)))) ++ ((cSt g (ad 4) st) ++ (cHi g (ad 5) (ad 6) hi))) _ := hP
  have hD8 : va_D A ((cRt ad ++ (cTx g (ad 1) tx ++ (cIs g (ad 2) is ++ (cWa g (ad 3) wa)))) ++ ((cSt g (ad 4) st) ++ (cHi g (ad 5) (ad 6) hi))) := hD
  refine aft_f (st1 := [.int r1]) rfl (cRt ad ++ (cTx g (ad 1) tx ++ (cIs g (ad 2) is ++ (cWa g (ad 3) wa)))) (cHi g (ad 5) (ad 6) hi) (runV (As := [.int p1]) (rest := []) ⟨hx, hb, hml, hown, hts⟩ (kX2_hasWord l g (ad 4) kr1) (cwV 1 hts gX5_word_X2_hasWord rfl rfl rfl hdX2_hasWord ⟨Nat.le_of_ble_eq_true rfl, Nat.le_of_ble_eq_true rfl⟩) hK hN hP8.right.left hD8.right.left (va_recv hK hP (ci := 2) (q0 := 10) rfl rfl) rfl hl.1 rfl (Nat.le_of_ble_eq_true rfl) dX5_word_5 ⟨Nat.zero_le _, Nat.zero_le _⟩) hP8 hD8 hS hA (fun H locs hP hD hS => ?_)
  have hP : va_P g.1 vwCl (cRt ad ++ (cTx g (ad 1) tx ++ (cIs g (ad 2) is ++ (cWa g (ad 3) wa ++ (cSt g (ad 4) st ++ (cHi g (ad 5) (ad 6) hi)))))) H := hP
  have hD : va_D A (cRt ad ++ (cTx g (ad 1) tx ++ (cIs g (ad 2) is ++ (cWa g (ad 3) wa ++ (cSt g (ad 4) st ++ (cHi g (ad 5) (ad 6) hi)))))) := hD
  refine lv_if_ne (tgt := 21) hx hb dX5_word_8 (by decide) (fun c2 => ?_) (fun c2 => ?_)
  · have h := if_f c2 h
    refine lv_iload_n hx hb dX5_word_21 rfl (lv_at hl 2 rfl) ?_
    refine lv_if_lt (tgt := 31) hx hb dX5_word_22 (by decide) (fun c3 => ?_) (fun c3 => ?_)
    · have h := if_t c3 h
      exact hthrow _ _ _ _ 48 194 52 "what is not 0 to 9" hP hD hS hl.1 (by decide +kernel) (hts (.classLink RX5 48 "java/lang/IllegalArgumentException") (List.mem_of_getElem? (i := 3) rfl)) (hts (.initialized "java/lang/IllegalArgumentException") (List.mem_of_getElem? (i := 4) rfl)) (fun w h9 => hts w (List.mem_cons_of_mem _ (List.mem_append_right _ h9))) (by decide +kernel) (by decide +kernel) dX5_word_31 dX5_word_34 dX5_word_35 dX5_word_37 dX5_word_40
    · have h := if_f c3 h
      refine lv_iload_n hx hb dX5_word_25 rfl (lv_at hl 2 rfl) ?_
      refine lv_bipush (v := 9) hx hb dX5_word_26 (by decide) ?_
      refine lv_icmp_le (tgt := 41) hx hb dX5_word_28 (by decide) (fun c4 => ?_) (fun c4 => ?_)
      · have h := if_t c4 h
        refine lv_aload_n hx hb dX5_word_41 rfl (lv_at hl 0 rfl) ?_
        refine lv_iload_n hx hb dX5_word_42 rfl (lv_at hl 1 rfl) ?_
        refine lv_iload_n hx hb dX5_word_43 rfl (lv_at hl 2 rfl) ?_
        obtain ⟨r5, kr5, h⟩ := bd_ex h
        refine aft_w (st1 := [.int r5]) rfl (runV (As := [.int p1, .int p2]) (rest := []) ⟨hx, hb, hml, hown, hts⟩ (kX5_wordNumber l g ad kr5) (cwV 2 hts gX5_word_X5_wordNumber rfl rfl rfl hdX5_wordNumber ⟨Nat.le_of_ble_eq_true rfl, Nat.le_of_ble_eq_true rfl⟩) hK hN hP hD (va_recv hK hP (ci := 5) (q0 := 0) rfl rfl) rfl hl.1 rfl (Nat.le_of_ble_eq_true rfl) dX5_word_44 ⟨Nat.zero_le _, Nat.zero_le _⟩) hD hS hA (fun H locs hP hD hS => ?_)
        cases h
      · have h := if_f c4 h
        exact hthrow _ _ _ _ 48 194 52 "what is not 0 to 9" hP hD hS hl.1 (by decide +kernel) (hts (.classLink RX5 48 "java/lang/IllegalArgumentException") (List.mem_of_getElem? (i := 3) rfl)) (hts (.initialized "java/lang/IllegalArgumentException") (List.mem_of_getElem? (i := 4) rfl)) (fun w h9 => hts w (List.mem_cons_of_mem _ (List.mem_append_right _ h9))) (by decide +kernel) (by decide +kernel) dX5_word_31 dX5_word_34 dX5_word_35 dX5_word_37 dX5_word_40
  · have h := if_t c2 h
    exact absurd (Sum.inl.inj (some_i h)) (by decide)
