section WRP
abbrev wBR (g : GG) (ad : Nat → Nat → Nat) (tx : Tx) (is : Is) (wa : Wa) (st : St) (hi : Hi) : va_W := cRt ad ++ (cTx g (ad 1) tx ++ (cIs g (ad 2) is ++ (cWa g (ad 3) wa ++ (cSt g (ad 4) st ++ cHi g (ad 5) (ad 6) hi))))
abbrev cAr (g : GG) (a n : Nat) (f : AI) : va_W := [(a, .inl (g.2.1, n, .inl f))]
def nz (x : Int32) : Bool := decide (¬ x = 0)
theorem nz_ne {x : Int32} (h : nz x = true) : ¬ x = 0 := of_decide_eq_true (p := ¬ x = 0) h
def ri {α : Type} (o : Option (Nat ⊕ α)) : Option α := match o with
  | some (.inr a) => some a
  | _ => none
theorem ri_ex {α : Type} {o : Option (Nat ⊕ α)} {a : α} (h : ri o = some a) : o = some (.inr a) := by
  rcases o with _ | k | b
  · cases h
  · cases h
  · cases (some_i h : b = a); rfl
def wrx {α : Type} (o : Option (Nat ⊕ α)) (f : Nat → Option α) : Option α := match o with
  | some (.inr a) => some a
  | some (.inl k) => f k
  | none => none
theorem wrx_ex {α : Type} {o : Option (Nat ⊕ α)} {f : Nat → Option α} {a : α} (h : wrx o f = some a) : o = some (.inr a) ∨ ∃ k, o = some (.inl k) ∧ f k = some a := by
  rcases o with _ | k | b
  · cases h
  · exact Or.inr ⟨k, rfl, h⟩
  · cases (some_i h : b = a); exact Or.inl rfl
def bd6 {α1 α2 α3 α4 α5 α6 β : Type} (o : Option (α1 × α2 × α3 × α4 × α5 × α6)) (f : α1 → α2 → α3 → α4 → α5 → α6 → Option β) : Option β := match o with
  | none => none
  | some (a, b, c, d, e, f1) => f a b c d e f1
theorem bd6_ex {α1 α2 α3 α4 α5 α6 β : Type} {o : Option (α1 × α2 × α3 × α4 × α5 × α6)} {f : α1 → α2 → α3 → α4 → α5 → α6 → Option β} {r : β} (h : bd6 o f = some r) : ∃ a b c d e f1, o = some (a, b, c, d, e, f1) ∧ f a b c d e f1 = some r := by
  rcases o with _ | ⟨a, b, c, d, e, f1⟩
  · cases h
  · exact ⟨a, b, c, d, e, f1, rfl, h⟩
def bd7 {α1 α2 α3 α4 α5 α6 α7 β : Type} (o : Option (α1 × α2 × α3 × α4 × α5 × α6 × α7)) (f : α1 → α2 → α3 → α4 → α5 → α6 → α7 → Option β) : Option β := match o with
  | none => none
  | some (a, b, c, d, e, f1, g1) => f a b c d e f1 g1
theorem bd7_ex {α1 α2 α3 α4 α5 α6 α7 β : Type} {o : Option (α1 × α2 × α3 × α4 × α5 × α6 × α7)} {f : α1 → α2 → α3 → α4 → α5 → α6 → α7 → Option β} {r : β} (h : bd7 o f = some r) : ∃ a b c d e f1 g1, o = some (a, b, c, d, e, f1, g1) ∧ f a b c d e f1 g1 = some r := by
  rcases o with _ | ⟨a, b, c, d, e, f1, g1⟩
  · cases h
  · exact ⟨a, b, c, d, e, f1, g1, rfl, h⟩
def bd8 {α1 α2 α3 α4 α5 α6 α7 α8 β : Type} (o : Option (α1 × α2 × α3 × α4 × α5 × α6 × α7 × α8)) (f : α1 → α2 → α3 → α4 → α5 → α6 → α7 → α8 → Option β) : Option β := match o with
  | none => none
  | some (a, b, c, d, e, f1, g1, h1) => f a b c d e f1 g1 h1
theorem bd8_ex {α1 α2 α3 α4 α5 α6 α7 α8 β : Type} {o : Option (α1 × α2 × α3 × α4 × α5 × α6 × α7 × α8)} {f : α1 → α2 → α3 → α4 → α5 → α6 → α7 → α8 → Option β} {r : β} (h : bd8 o f = some r) : ∃ a b c d e f1 g1 h1, o = some (a, b, c, d, e, f1, g1, h1) ∧ f a b c d e f1 g1 h1 = some r := by
  rcases o with _ | ⟨a, b, c, d, e, f1, g1, h1⟩
  · cases h
  · exact ⟨a, b, c, d, e, f1, g1, h1, rfl, h⟩
/-! worlds by their blocks: a choice of them put ahead -/
def catl : List va_W → va_W
  | [] => []
  | [x] => x
  | x :: y :: t => x ++ catl (y :: t)
theorem catl_cons (x : va_W) (t : List va_W) : catl (x :: t) = x ++ catl t := by
  cases t with
  | nil => exact (List.append_nil x).symm
  | cons y t => rfl
theorem catl_app (a b : List va_W) : catl (a ++ b) = catl a ++ catl b := by
  induction a with
  | nil => rfl
  | cons x t ih => rw [List.cons_append, catl_cons, ih, catl_cons, List.append_assoc]
theorem catl_perm {a b : List va_W} (h : a.Perm b) : (catl a).Perm (catl b) := by
  induction h with
  | nil => exact List.Perm.refl _
  | cons x _ ih => rw [catl_cons, catl_cons]; exact List.Perm.append_left x ih
  | swap x y t =>
    rw [catl_cons, catl_cons, catl_cons, catl_cons, ← List.append_assoc, ← List.append_assoc]
    exact List.Perm.append_right _ List.perm_append_comm
  | trans _ _ ih1 ih2 => exact ih1.trans ih2
def pick (bs : List va_W) (k : Nat) : va_W := bs.getD k []
theorem pmS (bs : List va_W) (all sel rest : List Nat) (h : all.Perm (sel ++ rest)) : (catl (all.map (pick bs))).Perm (catl (sel.map (pick bs)) ++ catl (rest.map (pick bs))) := by
  rw [← catl_app, ← List.map_append]
  exact catl_perm (h.map _)
/-- as Cg, of a method that may make one exception on its way -/
def CL (l : Launch) (g : GG) (y : MethodName) (ws : List Cond) (rm : Room) (av : List Value) (w : va_W) (rv : Option Value) (w' : va_W) : Prop :=
  ∀ sz : Nat, Met l y ws rm (PgX g av w sz) (Qg rv (Bg g w w' sz) (va_A w sz)) 1 6 (va_A w sz)
theorem CL_of {l : Launch} {g : GG} {y : MethodName} {ws ws' : List Cond} {rm : Room} {av : List Value} {w : va_W} {rv : Option Value} {w' : va_W} {cc : ByteArray} {maxL : Nat} {ret : Option FieldType} {hh : List (Nat × Nat × Nat × Nat)}
    (hy : plainName y.cls = true) (hw : ws = Cond.codeWith y cc maxL ret hh :: ws') (hn : (lg_sl av).length ≤ maxL)
    (body : ∀ (p : Program) (e : Env) (s : State) (m : MethodId) (args : Array Value) (below : List Frame) (meth : Method) (c : Code) (A : Nat → Prop) (Q : State → Prop) (ls : Array Slot),
      p.tables.exec = Jvm.exec → c.code = cc → c.maxLocals = maxL → s.vm.findClass y.cls = some m.cls → (∀ w ∈ ws, w.before args s = true) → va_K g.1 vwCl (tyL g) s → Nst s → (∀ q : Nat, s.heap.size ≤ q → A q) → Xt s → Zs A s s.heap → c.exceptionTable.toList = tableOf hh →
      va_P g.1 vwCl w s.heap → va_D A w → va_S A s.heap s.heap [] → lv_has ls maxL (lv_args 0 av) →
      (∀ (H : Heap) (locs : List Loc) (pc : Nat) (ls1 : Array Slot) (st : List Value), va_P g.1 vwCl w' H → va_D A w' → va_S A s.heap H locs → RetOK cc pc st rv ret → W p l e rm s m args below meth c H locs 1 6 Q (F0 m pc ls1 st)) →
      W p l e rm s m args below meth c s.heap [] 0 0 Q (F0 m 0 ls [])) : CL l g y ws rm av w rv w' := by
  intro sz
  refine va_MetW (cc := cc) (maxL := maxL) (ret := ret) (hh := hh) hy hw ?_
  intro p e s m args below meth c s₁ B hml hv
  obtain ⟨rfl, ⟨hsz, hP, hK, hD0, hN⟩, hX, hZ⟩ := hv
  have hx := B.exec
  have hb := B.bytes
  have hr := B.returns
  have hts := atoms_spec (ws := ws) B.pre
  have hown : s.vm.findClass y.cls = some m.cls := findClass_of_methodNamed B.named
  have hlocks := B.notSynchronized
  have ht : c.exceptionTable.toList = tableOf hh := vx_table (x := y) B (hts _ (by rw [hw]; exact List.mem_cons_self))
  subst hsz
  have hD := hD0.self (sz := s.heap.size)
  have hl := lv_entry av (n := maxL) hn
  rw [lg_entry_eq]
  exact body p e s m _ below meth c (va_A w s.heap.size) _ _ hx hb hml hown hts hK hN (fun q h => Or.inr h) hX hZ ht hP hD va_S.rf hl
    (fun H locs pc ls1 st hP hD hS hR => ret_end hx hb hr hlocks (fun t ht hW => ⟨⟨rfl, by rw [ht]; exact hP, hD⟩, hS.F ht⟩) hS.2.2 hR)
section AX
variable {p : Program} {l : Launch} {e : Env} {R : Room} {s : State} {m : MethodId} {args : Array Value} {below : List Frame} {meth : Method} {c : Code} {H : Heap} {locs : List Loc} {cells slots : Nat} {Q : State → Prop}
variable {g : GG} {A : Nat → Prop} {pc : Nat} {ls : Array Slot} {rest st0 : List Value} {a : Array Value}
theorem aftX {wc wr ws : va_W} {E : String} (hp : ws.Perm (wc ++ wr)) (hr : vx_Run p l e R s m args below meth c H locs cells slots 1 6 (F0 m pc ls st0) rest (fun _ _ _ => False) (QT E g wc H.size) (va_A wc H.size)) (hP : va_P g.1 vwCl ws H) (hD : va_D A ws) (hS : va_S A s.heap H locs) (hA : ∀ q : Nat, s.heap.size ≤ q → A q)
    (kx : ∀ (ce : Cell) (q9 : Addr) (H1 : Heap) (locs1 : List Loc), va_P g.1 vwCl ws H1 → va_S A s.heap H1 locs1 → H1[q9]? = some ce → ce.vm = .none → s.vm.findClass E = some ce.cls → vx_W p l e R s m args below meth c H1 locs1 (cells + 1) (slots + 6) Q (F0 m pc ls rest) q9) : W p l e R s m args below meth c H locs cells slots Q (F0 m pc ls st0) := by
  have hD2 := hD.perm hp
  have hf := fr_free hD2.left hS hA
  intro T hT X
  rcases hr T hT X with ⟨v, st₀, t, T', L, h0, X', hL, e1, e2, hq, st⟩ | ⟨q, st₀, t, T', L, E1, ce, h0, X', hL, e1, e2, ⟨rfl, hp1, hd1, hF⟩, hce, hcv, hcl, st⟩
  · exact hq.elim
  · obtain ⟨k1, k2, k3⟩ := vx_keep (A0 := A) (A1 := va_A wc H.size) h0 e1 hS (fun q _ h => hf q h) hf hL (by rw [← h0]; rw [h0]; exact hF)
    obtain ⟨hP3, -⟩ := fr_join (hP.perm hp) hD2 k2 hf (by rw [e1]; exact hp1) hd1
    obtain ⟨t2, a1, b1⟩ := kx ce q T'.heap (locs ++ L) (hP3.perm hp.symm) k3 (by rw [e1]; exact hce) hcv hcl T' rfl X'
    exact ⟨t2, st.trans a1, b1⟩
end AX
theorem CLc_of {l : Launch} {g : GG} {y : MethodName} {ws ws' : List Cond} {rm : Room} {av : List Value} {w : va_W} {rv : Option Value} {w' : va_W} {cc : ByteArray} {maxL : Nat} {ret : Option FieldType}
    (hy : plainFor y = true) (hw : ws = Cond.code y cc maxL ret :: ws') (hn : (lg_sl av).length ≤ maxL)
    (body : ∀ (p : Program) (e : Env) (s : State) (m : MethodId) (args : Array Value) (below : List Frame) (meth : Method) (c : Code) (A : Nat → Prop) (Q : State → Prop) (ls : Array Slot),
      p.tables.exec = Jvm.exec → c.code = cc → c.maxLocals = maxL → s.vm.findClass y.cls = some m.cls → (∀ w ∈ ws, w.before args s = true) → va_K g.1 vwCl (tyL g) s → Nst s → (∀ q : Nat, s.heap.size ≤ q → A q) → Xt s → Zs A s s.heap →
      va_P g.1 vwCl w s.heap → va_D A w → va_S A s.heap s.heap [] → lv_has ls maxL (lv_args 0 av) →
      (∀ (H : Heap) (locs : List Loc) (pc : Nat) (ls1 : Array Slot) (st : List Value), va_P g.1 vwCl w' H → va_D A w' → va_S A s.heap H locs → RetOK cc pc st rv ret → W p l e rm s m args below meth c H locs (0 + 1) (0 + 6) Q (F0 m pc ls1 st)) →
      W p l e rm s m args below meth c s.heap [] 0 0 Q (F0 m 0 ls [])) : CL l g y ws rm av w rv w' := by
  intro sz
  refine Met.ofWF (cc := cc) (maxL := maxL) (ret := ret) hy hw ?_
  intro p e s m args below meth c s₁ B hml hv
  obtain ⟨rfl, ⟨hsz, hP, hK, hD0, hN⟩, hX, hZ⟩ := hv
  have hx := B.exec
  have hb := B.bytes
  have hr := B.returns
  have hts := atoms_spec (ws := ws) B.pre
  have hown : s.vm.findClass y.cls = some m.cls := findClass_of_methodNamed B.named
  have hlocks := B.notSynchronized
  subst hsz
  have hD := hD0.self (sz := s.heap.size)
  have hl := lv_entry av (n := maxL) hn
  rw [lg_entry_eq]
  exact body p e s m _ below meth c (va_A w s.heap.size) _ _ hx hb hml hown hts hK hN (fun q h => Or.inr h) hX hZ hP hD va_S.rf hl
    (fun H locs pc ls1 st hP hD hS hR => ret_end hx hb hr hlocks (fun t ht hW => ⟨⟨rfl, by rw [ht]; exact hP, hD⟩, hS.F ht⟩) hS.2.2 hR)
theorem Cgw_of {l : Launch} {g : GG} {y : MethodName} {ws ws' : List Cond} {rm : Room} {av : List Value} {w : va_W} {rv : Option Value} {w' : va_W} {cc : ByteArray} {maxL : Nat} {ret : Option FieldType} {hh : List (Nat × Nat × Nat × Nat)}
    (hy : plainName y.cls = true) (hw : ws = Cond.codeWith y cc maxL ret hh :: ws') (hn : (lg_sl av).length ≤ maxL)
    (body : ∀ (p : Program) (e : Env) (s : State) (m : MethodId) (args : Array Value) (below : List Frame) (meth : Method) (c : Code) (A : Nat → Prop) (Q : State → Prop) (ls : Array Slot),
      p.tables.exec = Jvm.exec → c.code = cc → c.maxLocals = maxL → s.vm.findClass y.cls = some m.cls → (∀ w ∈ ws, w.before args s = true) → va_K g.1 vwCl (tyL g) s → Nst s → (∀ q : Nat, s.heap.size ≤ q → A q) →
      va_P g.1 vwCl w s.heap → va_D A w → va_S A s.heap s.heap [] → lv_has ls maxL (lv_args 0 av) →
      (∀ (H : Heap) (locs : List Loc) (pc : Nat) (ls1 : Array Slot) (st : List Value), va_P g.1 vwCl w' H → va_D A w' → va_S A s.heap H locs → RetOK cc pc st rv ret → W p l e rm s m args below meth c H locs 0 0 Q (F0 m pc ls1 st)) →
      W p l e rm s m args below meth c s.heap [] 0 0 Q (F0 m 0 ls [])) : Cg l g y ws rm av w rv w' := by
  intro sz
  refine va_MetW (cc := cc) (maxL := maxL) (ret := ret) (hh := hh) hy hw ?_
  intro p e s m args below meth c s₁ B hml hv
  obtain ⟨rfl, hsz, hP, hK, hD0, hN⟩ := hv
  have hx := B.exec
  have hb := B.bytes
  have hr := B.returns
  have hts := atoms_spec (ws := ws) B.pre
  have hown : s.vm.findClass y.cls = some m.cls := findClass_of_methodNamed B.named
  have hlocks := B.notSynchronized
  subst hsz
  have hD := hD0.self (sz := s.heap.size)
  have hl := lv_entry av (n := maxL) hn
  rw [lg_entry_eq]
  exact body p e s m _ below meth c (va_A w s.heap.size) _ _ hx hb hml hown hts hK hN (fun q h => Or.inr h) hP hD va_S.rf hl
    (fun H locs pc ls1 st hP hD hS hR => ret_end hx hb hr hlocks (fun t ht hW => ⟨⟨rfl, by rw [ht]; exact hP, hD⟩, hS.F ht⟩) hS.2.2 hR)
section LA
variable {p : Program} {l : Launch} {e : Env} {R : Room} {s : State} {m : MethodId} {args : Array Value} {below : List Frame} {meth : Method} {c : Code} {H : Heap} {locs : List Loc} {cells slots : Nat} {Q : State → Prop}
variable {g : GG} {A : Nat → Prop} {pc : Nat} {ls : Array Slot} {rest st0 st1 : List Value} {rv : Option Value} {av : List Value}
theorem aftm_p {mc ms : Nat} (hs1 : rv.toList ++ rest = st1) {wc wc' wr ws ws' : va_W} (hp : ws.Perm (wc ++ wr)) (hp' : (wc' ++ wr).Perm ws') (hr : va_Run p l e R s m args below meth c H locs cells slots mc ms (F0 m pc ls st0) rest (Qg rv (Bg g wc wc' H.size) (va_A wc H.size) av.toArray) (va_A wc H.size)) (hP : va_P g.1 vwCl ws H) (hD : va_D A ws) (hS : va_S A s.heap H locs) (hA : ∀ q : Nat, s.heap.size ≤ q → A q)
    (kk : ∀ (H1 : Heap) (locs1 : List Loc), va_P g.1 vwCl ws' H1 → va_D A ws' → va_S A s.heap H1 locs1 → W p l e R s m args below meth c H1 locs1 (cells + mc) (slots + ms) Q (F0 m (pc + 3) ls st1)) : W p l e R s m args below meth c H locs cells slots Q (F0 m pc ls st0) := by
  have hD2 := hD.perm hp
  have hf := fr_free hD2.left hS hA
  intro T hT X
  obtain ⟨v, st₀, t, T', L, h0, X', hL, e1, e2, ⟨⟨hv, hp1, hd9⟩, hz, hk⟩, st⟩ := hr T hT X
  cases hv
  rw [h0] at hz hk
  obtain ⟨a9, b9⟩ := fr_join (H1 := T'.heap) (hP.perm hp) hD2 (fun q h1 h2 => by rw [e1]; exact hk q h1 h2) hf (by rw [e1]; exact hp1) hd9
  obtain ⟨t2, a1, b1⟩ := kk T'.heap (locs ++ L) (a9.perm hp') (b9.perm hp')
    ⟨Nat.le_trans hS.1 (by rw [e1]; exact hz), fun q h1 h2 => by rw [e1, hk q (Nat.lt_of_lt_of_le h1 hS.1) (fun z => h2 (hf q z))]; exact hS.2.1 q h1 h2, fun q hq => by
      rcases List.mem_append.mp hq with h | h
      · exact hS.2.2 q h
      · exact hf _ (hL q h)⟩ T' rfl X'
  subst hs1
  exact ⟨t2, st t2 a1, b1⟩
theorem aftm_w {mc ms : Nat} (hs1 : rv.toList ++ rest = st1) {wc wc' : va_W} (hr : va_Run p l e R s m args below meth c H locs cells slots mc ms (F0 m pc ls st0) rest (Qg rv (Bg g wc wc' H.size) (va_A wc H.size) av.toArray) (va_A wc H.size)) (hP : va_P g.1 vwCl wc H) (hD : va_D A wc) (hS : va_S A s.heap H locs) (hA : ∀ q : Nat, s.heap.size ≤ q → A q)
    (kk : ∀ (H1 : Heap) (locs1 : List Loc), va_P g.1 vwCl wc' H1 → va_D A wc' → va_S A s.heap H1 locs1 → W p l e R s m args below meth c H1 locs1 (cells + mc) (slots + ms) Q (F0 m (pc + 3) ls st1)) : W p l e R s m args below meth c H locs cells slots Q (F0 m pc ls st0) :=
  aftm_p (wr := []) hs1 (by rw [List.append_nil]) (by rw [List.append_nil]) hr hP hD hS hA kk
theorem runLW {y : MethodName} {bytes cc : ByteArray} {maxL nL n index : Nat} {ret : Option FieldType} {hh : List (Nat × Nat × Nat × Nat)} {ws : List Cond} {rm : Room} {Ts : List Cond} {own : String} {As : List Value} {wc wc' : va_W} (S : CallFix p m c cc nL s args Ts own) (hM : CL l g y ws rm As wc rv wc') (cw : vx_CSW R s args own index y bytes maxL ret hh ws rm 1 6 n) (hK : va_K g.1 vwCl (tyL g) s) (hN : Nst s) (hX : Xt s) (hZ : Zs A s s.heap) (hP : va_P g.1 vwCl wc H) (hD : va_D A wc) (hS : va_S A s.heap H locs) (hA : ∀ q : Nat, s.heap.size ≤ q → A q)
    (hn : As.length = n) (hsize : ls.size = nL) (hst : st0 = As.reverse ++ rest) (hW : (rest.map fun v => v.category).sum ≤ 8) (hdg : decode cc pc = .ok (.invokestatic index, 3)) (hf : cells + 1 ≤ R.cells ∧ slots + 6 ≤ R.slots) : va_Run p l e R s m args below meth c H locs cells slots 1 6 (F0 m pc ls st0) rest (Qg rv (Bg g wc wc' H.size) (va_A wc H.size) As.toArray) (va_A wc H.size) :=
  vx_runSW (As := As) (rest := rest) S (hM H.size) cw ⟨PgX_blind _ _ _ _, fun U hU hW => ⟨rfl, ⟨by rw [hU], by rw [hU]; exact hP, va_K.moved hW.alike hK, hD.weaken (fun _ _ _ _ => trivial), hN.warm hW⟩, hX.warm hW, by rw [hU]; exact Zs.moved hW.alike ((hZ.kept (fun q h1 h2 => hS.2.1 q h1 h2)).narrow (fr_free hD hS hA))⟩⟩ rfl hn hsize hst (lv_room hW) hdg hf
theorem runLC {y : MethodName} {bytes cc : ByteArray} {maxL nL n index : Nat} {ret : Option FieldType} {ws : List Cond} {rm : Room} {Ts : List Cond} {own : String} {As : List Value} {wc wc' : va_W} (S : CallFix p m c cc nL s args Ts own) (hM : CL l g y ws rm As wc rv wc') (cw : CallB R s args own index y bytes maxL ret ws rm 1 6 n ∧ (Cond.static y).before args s = true) (hK : va_K g.1 vwCl (tyL g) s) (hN : Nst s) (hX : Xt s) (hZ : Zs A s s.heap) (hP : va_P g.1 vwCl wc H) (hD : va_D A wc) (hS : va_S A s.heap H locs) (hA : ∀ q : Nat, s.heap.size ≤ q → A q)
    (hn : As.length = n) (hsize : ls.size = nL) (hst : st0 = As.reverse ++ rest) (hW : (rest.map fun v => v.category).sum ≤ 8) (hdg : decode cc pc = .ok (.invokestatic index, 3)) (hf : cells + 1 ≤ R.cells ∧ slots + 6 ≤ R.slots) : va_Run p l e R s m args below meth c H locs cells slots 1 6 (F0 m pc ls st0) rest (Qg rv (Bg g wc wc' H.size) (va_A wc H.size) As.toArray) (va_A wc H.size) :=
  va_runS (As := As) (rest := rest) S (hM H.size) cw ⟨PgX_blind _ _ _ _, fun U hU hW => ⟨rfl, ⟨by rw [hU], by rw [hU]; exact hP, va_K.moved hW.alike hK, hD.weaken (fun _ _ _ _ => trivial), hN.warm hW⟩, hX.warm hW, by rw [hU]; exact Zs.moved hW.alike ((hZ.kept (fun q h1 h2 => hS.2.1 q h1 h2)).narrow (fr_free hD hS hA))⟩⟩ rfl hn hsize hst (lv_room hW) hdg hf
theorem runW {y : MethodName} {bytes cc : ByteArray} {maxL nL n index : Nat} {ret : Option FieldType} {hh : List (Nat × Nat × Nat × Nat)} {ws : List Cond} {rm : Room} {Ts : List Cond} {own : String} {As : List Value} {wc wc' : va_W} (S : CallFix p m c cc nL s args Ts own) (hC : Cg l g y ws rm As wc rv wc') (cw : vx_CSW R s args own index y bytes maxL ret hh ws rm 0 0 n) (hK : va_K g.1 vwCl (tyL g) s) (hN : Nst s) (hP : va_P g.1 vwCl wc H) (hD : va_D A wc)
    (hn : As.length = n) (hsize : ls.size = nL) (hst : st0 = As.reverse ++ rest) (hW : (rest.map fun v => v.category).sum ≤ 8) (hdg : decode cc pc = .ok (.invokestatic index, 3)) (hf : cells ≤ R.cells ∧ slots ≤ R.slots) : Rung p l e R s m args below meth c H locs cells slots (F0 m pc ls st0) rest g As wc rv wc' :=
  vx_runSW (As := As) (rest := rest) S (hC H.size) cw ⟨Pg_blind _ _ _ _, fun U hU hW => Pg_pre hK hN hP hD U hU hW⟩ rfl hn hsize hst (lv_room hW) hdg hf
end LA
abbrev rL_add : Room := { frames := 7, cells := 0, slots := 0, locals := 154 }
theorem hdL_add : yL_add.cls ≠ "java/lang/invoke/MethodHandle" ∧ yL_add.cls ≠ "java/lang/invoke/VarHandle" ∧ (parseMethodDescriptor yL_add.desc).map (fun d => d.parameters.length) = some 1 := by decide +kernel
def fL_add (tx : Tx) (is : Is) (wa : Wa) (st : St) (hi : Hi) : Option (Int32 × Tx × St × Hi) := ri (fX5_add tx is wa st hi)
set_option maxRecDepth 100000 in
set_option maxHeartbeats 8000000 in
theorem kL_add (l : Launch) (g : GG) (ad : Nat → Nat → Nat) {tx : Tx} {is : Is} {wa : Wa} {st : St} {hi : Hi} {res : Int32} {tx' : Tx} {st' : St} {hi' : Hi} (h : fL_add tx is wa st hi = some (res, tx', st', hi')) : Cg l g yL_add wsL_add rL_add [.ref (ad 0 0)] (wBR g ad tx is wa st hi) (some (.int res)) (wBR g ad tx' is wa st' hi') := by
  refine Cgw_of (cc := cL_add) (maxL := 2) (ret := some .int) (hh := [(0, 4, 5, 16)]) (by decide +kernel) rfl (Nat.le_of_ble_eq_true rfl) ?_
  intro p e su m args below meth c A Q ls hx hb hml hown hts hK hN hA hP hD hS hl hend
  have hl : lv_has ls 2 [(0, .ref (ad 0 0))] := hl
  refine lv_aload_n hx hb dL_add_0 rfl (lv_at hl 0 rfl) ?_
  refine aft_w (st1 := [.int res]) rfl (runV (As := []) (rest := []) ⟨hx, hb, hml, hown, hts⟩ (kX5_add l g ad (ri_ex h)) (cwV 0 hts gL_add_X5_add rfl rfl rfl hdX5_add ⟨Nat.le_of_ble_eq_true rfl, Nat.le_of_ble_eq_true rfl⟩) hK hN hP hD (va_recv hK hP (ci := 5) (q0 := 0) rfl rfl) rfl hl.1 rfl (Nat.le_of_ble_eq_true rfl) dL_add_1 ⟨Nat.zero_le _, Nat.zero_le _⟩) hD hS hA (fun H locs hP hD hS => ?_)
  exact hend _ _ _ _ _ hP hD hS (RetOK.i dL_add_4)
abbrev rL_set : Room := { frames := 7, cells := 0, slots := 0, locals := 156 }
theorem hdL_set : yL_set.cls ≠ "java/lang/invoke/MethodHandle" ∧ yL_set.cls ≠ "java/lang/invoke/VarHandle" ∧ (parseMethodDescriptor yL_set.desc).map (fun d => d.parameters.length) = some 3 := by decide +kernel
def fL_set (tx : Tx) (is : Is) (wa : Wa) (st : St) (hi : Hi) (p1 : Int32) (p2 : Int32) : Option (Int32 × St × Hi) := ri (fX5_set tx is wa st hi p1 p2)
set_option maxRecDepth 100000 in
set_option maxHeartbeats 8000000 in
theorem kL_set (l : Launch) (g : GG) (ad : Nat → Nat → Nat) {tx : Tx} {is : Is} {wa : Wa} {st : St} {hi : Hi} {p1 : Int32} {p2 : Int32} {res : Int32} {st' : St} {hi' : Hi} (h : fL_set tx is wa st hi p1 p2 = some (res, st', hi')) : Cg l g yL_set wsL_set rL_set [.ref (ad 0 0), .int p1, .int p2] (wBR g ad tx is wa st hi) (some (.int res)) (wBR g ad tx is wa st' hi') := by
  refine Cgw_of (cc := cL_set) (maxL := 4) (ret := some .int) (hh := [(0, 6, 7, 22), (0, 6, 11, 16)]) (by decide +kernel) rfl (Nat.le_of_ble_eq_true rfl) ?_
  intro p e su m args below meth c A Q ls hx hb hml hown hts hK hN hA hP hD hS hl hend
  have hl : lv_has ls 4 [(0, .ref (ad 0 0)), (1, .int p1), (2, .int p2)] := hl
  refine lv_aload_n hx hb dL_set_0 rfl (lv_at hl 0 rfl) ?_
  refine lv_iload_n hx hb dL_set_1 rfl (lv_at hl 1 rfl) ?_
  refine lv_iload_n hx hb dL_set_2 rfl (lv_at hl 2 rfl) ?_
  refine aft_w (st1 := [.int res]) rfl (runV (As := [.int p1, .int p2]) (rest := []) ⟨hx, hb, hml, hown, hts⟩ (kX5_set l g ad (ri_ex h)) (cwV 2 hts gL_set_X5_set rfl rfl rfl hdX5_set ⟨Nat.le_of_ble_eq_true rfl, Nat.le_of_ble_eq_true rfl⟩) hK hN hP hD (va_recv hK hP (ci := 5) (q0 := 0) rfl rfl) rfl hl.1 rfl (Nat.le_of_ble_eq_true rfl) dL_set_3 ⟨Nat.zero_le _, Nat.zero_le _⟩) hD hS hA (fun H locs hP hD hS => ?_)
  exact hend _ _ _ _ _ hP hD hS (RetOK.i dL_set_6)
abbrev rL_bar : Room := { frames := 7, cells := 0, slots := 0, locals := 125 }
theorem hdL_bar : yL_bar.cls ≠ "java/lang/invoke/MethodHandle" ∧ yL_bar.cls ≠ "java/lang/invoke/VarHandle" ∧ (parseMethodDescriptor yL_bar.desc).map (fun d => d.parameters.length) = some 3 := by decide +kernel
def fL_bar (tx : Tx) (is : Is) (wa : Wa) (st : St) (hi : Hi) (p1 : Int32) (p2 : Int32) : Option (Int32 × St × Hi) := ri (fX5_bar tx is wa st hi p1 p2)
set_option maxRecDepth 100000 in
set_option maxHeartbeats 8000000 in
theorem kL_bar (l : Launch) (g : GG) (ad : Nat → Nat → Nat) {tx : Tx} {is : Is} {wa : Wa} {st : St} {hi : Hi} {p1 : Int32} {p2 : Int32} {res : Int32} {st' : St} {hi' : Hi} (h : fL_bar tx is wa st hi p1 p2 = some (res, st', hi')) : Cg l g yL_bar wsL_bar rL_bar [.ref (ad 0 0), .int p1, .int p2] (wBR g ad tx is wa st hi) (some (.int res)) (wBR g ad tx is wa st' hi') := by
  refine Cgw_of (cc := cL_bar) (maxL := 4) (ret := some .int) (hh := [(0, 6, 7, 22), (0, 6, 11, 16)]) (by decide +kernel) rfl (Nat.le_of_ble_eq_true rfl) ?_
  intro p e su m args below meth c A Q ls hx hb hml hown hts hK hN hA hP hD hS hl hend
  have hl : lv_has ls 4 [(0, .ref (ad 0 0)), (1, .int p1), (2, .int p2)] := hl
  refine lv_aload_n hx hb dL_bar_0 rfl (lv_at hl 0 rfl) ?_
  refine lv_iload_n hx hb dL_bar_1 rfl (lv_at hl 1 rfl) ?_
  refine lv_iload_n hx hb dL_bar_2 rfl (lv_at hl 2 rfl) ?_
  refine aft_w (st1 := [.int res]) rfl (runV (As := [.int p1, .int p2]) (rest := []) ⟨hx, hb, hml, hown, hts⟩ (kX5_bar l g ad (ri_ex h)) (cwV 2 hts gL_bar_X5_bar rfl rfl rfl hdX5_bar ⟨Nat.le_of_ble_eq_true rfl, Nat.le_of_ble_eq_true rfl⟩) hK hN hP hD (va_recv hK hP (ci := 5) (q0 := 0) rfl rfl) rfl hl.1 rfl (Nat.le_of_ble_eq_true rfl) dL_bar_3 ⟨Nat.zero_le _, Nat.zero_le _⟩) hD hS hA (fun H locs hP hD hS => ?_)
  exact hend _ _ _ _ _ hP hD hS (RetOK.i dL_bar_6)
abbrev rL_put : Room := { frames := 7, cells := 1, slots := 6, locals := 125 }
theorem hdL_put : yL_put.cls ≠ "java/lang/invoke/MethodHandle" ∧ yL_put.cls ≠ "java/lang/invoke/VarHandle" ∧ (parseMethodDescriptor yL_put.desc).map (fun d => d.parameters.length) = some 4 := by decide +kernel
def fL_put (tx : Tx) (is : Is) (wa : Wa) (st : St) (hi : Hi) (p1 : Int32) (p2 : Int32) (p3 : Int32) : Option (Int32 × Wa × St × Hi) := wrx (fX5_put tx is wa st hi p1 p2 p3) (fun k => if k = 1 then some ((-101 : Int32), wa, st, hi) else if k = 2 then some ((-102 : Int32), wa, st, hi) else if k = 3 then some ((-103 : Int32), wa, st, hi) else none)
set_option maxRecDepth 100000 in
set_option maxHeartbeats 8000000 in
theorem wL_put (l : Launch) (hst : l.stackTraces = false) (g : GG) (ad : Nat → Nat → Nat) {tx : Tx} {is : Is} {wa : Wa} {st : St} {hi : Hi} {p1 : Int32} {p2 : Int32} {p3 : Int32} {res : Int32} {wa' : Wa} {st' : St} {hi' : Hi} (h : fL_put tx is wa st hi p1 p2 p3 = some (res, wa', st', hi')) : CL l g yL_put wsL_put rL_put [.ref (ad 0 0), .int p1, .int p2, .int p3] (wBR g ad tx is wa st hi) (some (.int res)) (wBR g ad tx is wa' st' hi') := by
  refine CL_of (cc := cL_put) (maxL := 5) (ret := some .int) (hh := [(0, 7, 8, 22), (0, 7, 13, 16), (0, 7, 18, 31)]) (by decide +kernel) rfl (Nat.le_of_ble_eq_true rfl) ?_
  intro p e su m args below meth c A Q ls hx hb hml hown hts hK hN hA hX hZ ht hP hD hS hl hend
  have hl : lv_has ls 5 [(0, .ref (ad 0 0)), (1, .int p1), (2, .int p2), (3, .int p3)] := hl
  refine lv_aload_n hx hb dL_put_0 rfl (lv_at hl 0 rfl) ?_
  refine lv_iload_n hx hb dL_put_1 rfl (lv_at hl 1 rfl) ?_
  refine lv_iload_n hx hb dL_put_2 rfl (lv_at hl 2 rfl) ?_
  refine lv_iload_n hx hb dL_put_3 rfl (lv_at hl 3 rfl) ?_
  rcases wrx_ex h with h | ⟨k9, h, h9⟩
  · skip
    refine aft_w (st1 := [.int res]) rfl (runV (As := [.int p1, .int p2, .int p3]) (rest := []) ⟨hx, hb, hml, hown, hts⟩ (kX5_put l g ad h) (cwV 3 hts gL_put_X5_put rfl rfl rfl hdX5_put ⟨Nat.le_of_ble_eq_true rfl, Nat.le_of_ble_eq_true rfl⟩) hK hN hP hD (va_recv hK hP (ci := 5) (q0 := 0) rfl rfl) rfl hl.1 rfl (Nat.le_of_ble_eq_true rfl) dL_put_4 ⟨Nat.zero_le _, Nat.zero_le _⟩) hD hS hA (fun H locs hP hD hS => ?_)
    refine W.widen (k := 1) (n := 6) (Nat.zero_le _) (Nat.zero_le _) ?_
    exact hend _ _ _ _ _ hP hD hS (RetOK.i dL_put_7)
  · skip
    by_cases c1 : k9 = 1
    · rw [if_pos c1] at h9
      cases some_i h9
      subst c1
      have q0 : (wBR g ad tx is wa st hi).Perm ((wBR g ad tx is wa st hi) ++ []) := by rw [List.append_nil]
      refine aftX (E := "java/lang/IndexOutOfBoundsException") q0 (vx_runV (As := [.int p1, .int p2, .int p3]) (rest := []) ⟨hx, hb, hml, hown, hts⟩ (tX5_put_1 l hst g ad h su.heap.size) (cwV 3 hts gL_put_X5_put rfl rfl rfl hdX5_put ⟨Nat.le_of_ble_eq_true rfl, Nat.le_of_ble_eq_true rfl⟩) ⟨PgX_blind _ _ _ _, (va_recv hK hP (ci := 5) (q0 := 0) rfl rfl), fun U hU hW => ⟨rfl, ⟨by rw [hU], by rw [hU]; exact hP, va_K.moved hW.alike hK, hD.weaken (fun _ _ _ _ => trivial), hN.warm hW⟩, hX.warm hW, by rw [hU]; exact Zs.moved hW.alike (hZ.narrow (fr_free hD hS hA))⟩⟩ rfl rfl hl.1 rfl (lv_room (Nat.le_of_ble_eq_true rfl)) dL_put_4 ⟨Nat.le_of_ble_eq_true rfl, Nat.le_of_ble_eq_true rfl⟩) hP hD hS hA (fun ce q9 H locs hP hS hce hcv hcl => ?_)
      refine vx_catch (own := RL) (name := "java/lang/IndexOutOfBoundsException") (E := "java/lang/IndexOutOfBoundsException") hown [] ⟨0, 7, 8, 22⟩ [⟨0, 7, 13, 16⟩, ⟨0, 7, 18, 31⟩] (by rw [ht]; rfl) (fun z hz => by simp at hz) (by decide) (by decide) (hts (.classLink RL 22 "java/lang/IndexOutOfBoundsException") (List.mem_of_getElem? (i := 1) rfl)) (va_Nw.use rfl (hX.1.1 "java/lang/IndexOutOfBoundsException" (by decide +kernel))) hce hcv hcl ?_
      refine lv_astore (lv' := [(4, .ref q9), (0, .ref (ad 0 0)), (1, .int p1), (2, .int p2), (3, .int p3)]) hx hb dL_put_8 hl (by decide) rfl (fun ls hl => ?_)
      refine lv_bipush (v := -101) hx hb dL_put_10 (by decide) ?_
      exact hend _ _ _ _ _ hP hD hS (RetOK.i dL_put_12)
    · rw [if_neg c1] at h9
      by_cases c2 : k9 = 2
      · rw [if_pos c2] at h9
        cases some_i h9
        subst c2
        have q0 : (wBR g ad tx is wa st hi).Perm ((wBR g ad tx is wa st hi) ++ []) := by rw [List.append_nil]
        refine aftX (E := "java/lang/IllegalArgumentException") q0 (vx_runV (As := [.int p1, .int p2, .int p3]) (rest := []) ⟨hx, hb, hml, hown, hts⟩ (tX5_put_2 l hst g ad h su.heap.size) (cwV 3 hts gL_put_X5_put rfl rfl rfl hdX5_put ⟨Nat.le_of_ble_eq_true rfl, Nat.le_of_ble_eq_true rfl⟩) ⟨PgX_blind _ _ _ _, (va_recv hK hP (ci := 5) (q0 := 0) rfl rfl), fun U hU hW => ⟨rfl, ⟨by rw [hU], by rw [hU]; exact hP, va_K.moved hW.alike hK, hD.weaken (fun _ _ _ _ => trivial), hN.warm hW⟩, hX.warm hW, by rw [hU]; exact Zs.moved hW.alike (hZ.narrow (fr_free hD hS hA))⟩⟩ rfl rfl hl.1 rfl (lv_room (Nat.le_of_ble_eq_true rfl)) dL_put_4 ⟨Nat.le_of_ble_eq_true rfl, Nat.le_of_ble_eq_true rfl⟩) hP hD hS hA (fun ce q9 H locs hP hS hce hcv hcl => ?_)
        refine vx_catch (own := RL) (name := "java/lang/IllegalArgumentException") (E := "java/lang/IllegalArgumentException") hown [⟨0, 7, 8, 22⟩] ⟨0, 7, 13, 16⟩ [⟨0, 7, 18, 31⟩] (by rw [ht]; rfl) (fun z hz => by
          simp only [List.mem_cons, List.not_mem_nil, or_false] at hz
          rcases hz with rfl
          · exact Or.inr ⟨by decide, "java/lang/IndexOutOfBoundsException", (hts (.classLink RL 22 "java/lang/IndexOutOfBoundsException") (List.mem_of_getElem? (i := 1) rfl)), hX.2.1 ("java/lang/IllegalArgumentException", "java/lang/IndexOutOfBoundsException") (by decide +kernel)⟩) (by decide) (by decide) (hts (.classLink RL 16 "java/lang/IllegalArgumentException") (List.mem_of_getElem? (i := 2) rfl)) (va_Nw.use rfl (hX.1.1 "java/lang/IllegalArgumentException" (by decide +kernel))) hce hcv hcl ?_
        refine lv_astore (lv' := [(4, .ref q9), (0, .ref (ad 0 0)), (1, .int p1), (2, .int p2), (3, .int p3)]) hx hb dL_put_13 hl (by decide) rfl (fun ls hl => ?_)
        refine lv_bipush (v := -102) hx hb dL_put_15 (by decide) ?_
        exact hend _ _ _ _ _ hP hD hS (RetOK.i dL_put_17)
      · rw [if_neg c2] at h9
        by_cases c3 : k9 = 3
        · rw [if_pos c3] at h9
          cases some_i h9
          subst c3
          have q0 : (wBR g ad tx is wa st hi).Perm ((wBR g ad tx is wa st hi) ++ []) := by rw [List.append_nil]
          refine aftX (E := "java/lang/IllegalStateException") q0 (vx_runV (As := [.int p1, .int p2, .int p3]) (rest := []) ⟨hx, hb, hml, hown, hts⟩ (tX5_put_3 l hst g ad h su.heap.size) (cwV 3 hts gL_put_X5_put rfl rfl rfl hdX5_put ⟨Nat.le_of_ble_eq_true rfl, Nat.le_of_ble_eq_true rfl⟩) ⟨PgX_blind _ _ _ _, (va_recv hK hP (ci := 5) (q0 := 0) rfl rfl), fun U hU hW => ⟨rfl, ⟨by rw [hU], by rw [hU]; exact hP, va_K.moved hW.alike hK, hD.weaken (fun _ _ _ _ => trivial), hN.warm hW⟩, hX.warm hW, by rw [hU]; exact Zs.moved hW.alike (hZ.narrow (fr_free hD hS hA))⟩⟩ rfl rfl hl.1 rfl (lv_room (Nat.le_of_ble_eq_true rfl)) dL_put_4 ⟨Nat.le_of_ble_eq_true rfl, Nat.le_of_ble_eq_true rfl⟩) hP hD hS hA (fun ce q9 H locs hP hS hce hcv hcl => ?_)
          refine vx_catch (own := RL) (name := "java/lang/IllegalStateException") (E := "java/lang/IllegalStateException") hown [⟨0, 7, 8, 22⟩, ⟨0, 7, 13, 16⟩] ⟨0, 7, 18, 31⟩ [] (by rw [ht]; rfl) (fun z hz => by
            simp only [List.mem_cons, List.not_mem_nil, or_false] at hz
            rcases hz with rfl | rfl
            · exact Or.inr ⟨by decide, "java/lang/IndexOutOfBoundsException", (hts (.classLink RL 22 "java/lang/IndexOutOfBoundsException") (List.mem_of_getElem? (i := 1) rfl)), hX.2.1 ("java/lang/IllegalStateException", "java/lang/IndexOutOfBoundsException") (by decide +kernel)⟩
            · exact Or.inr ⟨by decide, "java/lang/IllegalArgumentException", (hts (.classLink RL 16 "java/lang/IllegalArgumentException") (List.mem_of_getElem? (i := 2) rfl)), hX.2.1 ("java/lang/IllegalStateException", "java/lang/IllegalArgumentException") (by decide +kernel)⟩) (by decide) (by decide) (hts (.classLink RL 31 "java/lang/IllegalStateException") (List.mem_of_getElem? (i := 3) rfl)) (va_Nw.use rfl (hX.1.1 "java/lang/IllegalStateException" (by decide +kernel))) hce hcv hcl ?_
          refine lv_astore (lv' := [(4, .ref q9), (0, .ref (ad 0 0)), (1, .int p1), (2, .int p2), (3, .int p3)]) hx hb dL_put_18 hl (by decide) rfl (fun ls hl => ?_)
          refine lv_bipush (v := -103) hx hb dL_put_20 (by decide) ?_
          exact hend _ _ _ _ _ hP hD hS (RetOK.i dL_put_22)
        · rw [if_neg c3] at h9
          cases h9
abbrev rL_climb : Room := { frames := 7, cells := 1, slots := 6, locals := 124 }
theorem hdL_climb : yL_climb.cls ≠ "java/lang/invoke/MethodHandle" ∧ yL_climb.cls ≠ "java/lang/invoke/VarHandle" ∧ (parseMethodDescriptor yL_climb.desc).map (fun d => d.parameters.length) = some 3 := by decide +kernel
def fL_climb (tx : Tx) (is : Is) (wa : Wa) (st : St) (hi : Hi) (p1 : Int32) (p2 : Int32) : Option (Int32 × St × Hi) := wrx (fX5_climb tx is wa st hi p1 p2) (fun k => if k = 1 then some ((-101 : Int32), st, hi) else if k = 3 then some ((-103 : Int32), st, hi) else none)
set_option maxRecDepth 100000 in
set_option maxHeartbeats 8000000 in
theorem wL_climb (l : Launch) (hst : l.stackTraces = false) (g : GG) (ad : Nat → Nat → Nat) {tx : Tx} {is : Is} {wa : Wa} {st : St} {hi : Hi} {p1 : Int32} {p2 : Int32} {res : Int32} {st' : St} {hi' : Hi} (h : fL_climb tx is wa st hi p1 p2 = some (res, st', hi')) : CL l g yL_climb wsL_climb rL_climb [.ref (ad 0 0), .int p1, .int p2] (wBR g ad tx is wa st hi) (some (.int res)) (wBR g ad tx is wa st' hi') := by
  refine CL_of (cc := cL_climb) (maxL := 4) (ret := some .int) (hh := [(0, 6, 7, 22), (0, 6, 11, 31)]) (by decide +kernel) rfl (Nat.le_of_ble_eq_true rfl) ?_
  intro p e su m args below meth c A Q ls hx hb hml hown hts hK hN hA hX hZ ht hP hD hS hl hend
  have hl : lv_has ls 4 [(0, .ref (ad 0 0)), (1, .int p1), (2, .int p2)] := hl
  refine lv_aload_n hx hb dL_climb_0 rfl (lv_at hl 0 rfl) ?_
  refine lv_iload_n hx hb dL_climb_1 rfl (lv_at hl 1 rfl) ?_
  refine lv_iload_n hx hb dL_climb_2 rfl (lv_at hl 2 rfl) ?_
  rcases wrx_ex h with h | ⟨k9, h, h9⟩
  · skip
    refine aft_w (st1 := [.int res]) rfl (runV (As := [.int p1, .int p2]) (rest := []) ⟨hx, hb, hml, hown, hts⟩ (kX5_climb l g ad h) (cwV 2 hts gL_climb_X5_climb rfl rfl rfl hdX5_climb ⟨Nat.le_of_ble_eq_true rfl, Nat.le_of_ble_eq_true rfl⟩) hK hN hP hD (va_recv hK hP (ci := 5) (q0 := 0) rfl rfl) rfl hl.1 rfl (Nat.le_of_ble_eq_true rfl) dL_climb_3 ⟨Nat.zero_le _, Nat.zero_le _⟩) hD hS hA (fun H locs hP hD hS => ?_)
    refine W.widen (k := 1) (n := 6) (Nat.zero_le _) (Nat.zero_le _) ?_
    exact hend _ _ _ _ _ hP hD hS (RetOK.i dL_climb_6)
  · skip
    by_cases c1 : k9 = 1
    · rw [if_pos c1] at h9
      cases some_i h9
      subst c1
      have q0 : (wBR g ad tx is wa st hi).Perm ((wBR g ad tx is wa st hi) ++ []) := by rw [List.append_nil]
      refine aftX (E := "java/lang/IndexOutOfBoundsException") q0 (vx_runV (As := [.int p1, .int p2]) (rest := []) ⟨hx, hb, hml, hown, hts⟩ (tX5_climb_1 l hst g ad h su.heap.size) (cwV 2 hts gL_climb_X5_climb rfl rfl rfl hdX5_climb ⟨Nat.le_of_ble_eq_true rfl, Nat.le_of_ble_eq_true rfl⟩) ⟨PgX_blind _ _ _ _, (va_recv hK hP (ci := 5) (q0 := 0) rfl rfl), fun U hU hW => ⟨rfl, ⟨by rw [hU], by rw [hU]; exact hP, va_K.moved hW.alike hK, hD.weaken (fun _ _ _ _ => trivial), hN.warm hW⟩, hX.warm hW, by rw [hU]; exact Zs.moved hW.alike (hZ.narrow (fr_free hD hS hA))⟩⟩ rfl rfl hl.1 rfl (lv_room (Nat.le_of_ble_eq_true rfl)) dL_climb_3 ⟨Nat.le_of_ble_eq_true rfl, Nat.le_of_ble_eq_true rfl⟩) hP hD hS hA (fun ce q9 H locs hP hS hce hcv hcl => ?_)
      refine vx_catch (own := RL) (name := "java/lang/IndexOutOfBoundsException") (E := "java/lang/IndexOutOfBoundsException") hown [] ⟨0, 6, 7, 22⟩ [⟨0, 6, 11, 31⟩] (by rw [ht]; rfl) (fun z hz => by simp at hz) (by decide) (by decide) (hts (.classLink RL 22 "java/lang/IndexOutOfBoundsException") (List.mem_of_getElem? (i := 1) rfl)) (va_Nw.use rfl (hX.1.1 "java/lang/IndexOutOfBoundsException" (by decide +kernel))) hce hcv hcl ?_
      refine lv_astore_n (lv' := [(3, .ref q9), (0, .ref (ad 0 0)), (1, .int p1), (2, .int p2)]) hx hb dL_climb_7 rfl hl (by decide) rfl (fun ls hl => ?_)
      refine lv_bipush (v := -101) hx hb dL_climb_8 (by decide) ?_
      exact hend _ _ _ _ _ hP hD hS (RetOK.i dL_climb_10)
    · rw [if_neg c1] at h9
      by_cases c3 : k9 = 3
      · rw [if_pos c3] at h9
        cases some_i h9
        subst c3
        have q0 : (wBR g ad tx is wa st hi).Perm ((wBR g ad tx is wa st hi) ++ []) := by rw [List.append_nil]
        refine aftX (E := "java/lang/IllegalStateException") q0 (vx_runV (As := [.int p1, .int p2]) (rest := []) ⟨hx, hb, hml, hown, hts⟩ (tX5_climb_3 l hst g ad h su.heap.size) (cwV 2 hts gL_climb_X5_climb rfl rfl rfl hdX5_climb ⟨Nat.le_of_ble_eq_true rfl, Nat.le_of_ble_eq_true rfl⟩) ⟨PgX_blind _ _ _ _, (va_recv hK hP (ci := 5) (q0 := 0) rfl rfl), fun U hU hW => ⟨rfl, ⟨by rw [hU], by rw [hU]; exact hP, va_K.moved hW.alike hK, hD.weaken (fun _ _ _ _ => trivial), hN.warm hW⟩, hX.warm hW, by rw [hU]; exact Zs.moved hW.alike (hZ.narrow (fr_free hD hS hA))⟩⟩ rfl rfl hl.1 rfl (lv_room (Nat.le_of_ble_eq_true rfl)) dL_climb_3 ⟨Nat.le_of_ble_eq_true rfl, Nat.le_of_ble_eq_true rfl⟩) hP hD hS hA (fun ce q9 H locs hP hS hce hcv hcl => ?_)
        refine vx_catch (own := RL) (name := "java/lang/IllegalStateException") (E := "java/lang/IllegalStateException") hown [⟨0, 6, 7, 22⟩] ⟨0, 6, 11, 31⟩ [] (by rw [ht]; rfl) (fun z hz => by
          simp only [List.mem_cons, List.not_mem_nil, or_false] at hz
          rcases hz with rfl
          · exact Or.inr ⟨by decide, "java/lang/IndexOutOfBoundsException", (hts (.classLink RL 22 "java/lang/IndexOutOfBoundsException") (List.mem_of_getElem? (i := 1) rfl)), hX.2.1 ("java/lang/IllegalStateException", "java/lang/IndexOutOfBoundsException") (by decide +kernel)⟩) (by decide) (by decide) (hts (.classLink RL 31 "java/lang/IllegalStateException") (List.mem_of_getElem? (i := 2) rfl)) (va_Nw.use rfl (hX.1.1 "java/lang/IllegalStateException" (by decide +kernel))) hce hcv hcl ?_
        refine lv_astore_n (lv' := [(3, .ref q9), (0, .ref (ad 0 0)), (1, .int p1), (2, .int p2)]) hx hb dL_climb_11 rfl hl (by decide) rfl (fun ls hl => ?_)
        refine lv_bipush (v := -103) hx hb dL_climb_12 (by decide) ?_
        exact hend _ _ _ _ _ hP hD hS (RetOK.i dL_climb_14)
      · rw [if_neg c3] at h9
        cases h9
abbrev rL_leave : Room := { frames := 7, cells := 1, slots := 6, locals := 124 }
theorem hdL_leave : yL_leave.cls ≠ "java/lang/invoke/MethodHandle" ∧ yL_leave.cls ≠ "java/lang/invoke/VarHandle" ∧ (parseMethodDescriptor yL_leave.desc).map (fun d => d.parameters.length) = some 2 := by decide +kernel
def fL_leave (tx : Tx) (is : Is) (wa : Wa) (st : St) (hi : Hi) (p1 : Int32) : Option (Int32 × St × Hi) := wrx (fX5_leave tx is wa st hi p1) (fun k => if k = 1 then some ((-101 : Int32), st, hi) else if k = 3 then some ((-103 : Int32), st, hi) else none)
set_option maxRecDepth 100000 in
set_option maxHeartbeats 8000000 in
theorem wL_leave (l : Launch) (hst : l.stackTraces = false) (g : GG) (ad : Nat → Nat → Nat) {tx : Tx} {is : Is} {wa : Wa} {st : St} {hi : Hi} {p1 : Int32} {res : Int32} {st' : St} {hi' : Hi} (h : fL_leave tx is wa st hi p1 = some (res, st', hi')) : CL l g yL_leave wsL_leave rL_leave [.ref (ad 0 0), .int p1] (wBR g ad tx is wa st hi) (some (.int res)) (wBR g ad tx is wa st' hi') := by
  refine CL_of (cc := cL_leave) (maxL := 3) (ret := some .int) (hh := [(0, 5, 6, 22), (0, 5, 10, 31)]) (by decide +kernel) rfl (Nat.le_of_ble_eq_true rfl) ?_
  intro p e su m args below meth c A Q ls hx hb hml hown hts hK hN hA hX hZ ht hP hD hS hl hend
  have hl : lv_has ls 3 [(0, .ref (ad 0 0)), (1, .int p1)] := hl
  refine lv_aload_n hx hb dL_leave_0 rfl (lv_at hl 0 rfl) ?_
  refine lv_iload_n hx hb dL_leave_1 rfl (lv_at hl 1 rfl) ?_
  rcases wrx_ex h with h | ⟨k9, h, h9⟩
  · skip
    refine aft_w (st1 := [.int res]) rfl (runV (As := [.int p1]) (rest := []) ⟨hx, hb, hml, hown, hts⟩ (kX5_leave l g ad h) (cwV 1 hts gL_leave_X5_leave rfl rfl rfl hdX5_leave ⟨Nat.le_of_ble_eq_true rfl, Nat.le_of_ble_eq_true rfl⟩) hK hN hP hD (va_recv hK hP (ci := 5) (q0 := 0) rfl rfl) rfl hl.1 rfl (Nat.le_of_ble_eq_true rfl) dL_leave_2 ⟨Nat.zero_le _, Nat.zero_le _⟩) hD hS hA (fun H locs hP hD hS => ?_)
    refine W.widen (k := 1) (n := 6) (Nat.zero_le _) (Nat.zero_le _) ?_
    exact hend _ _ _ _ _ hP hD hS (RetOK.i dL_leave_5)
  · skip
    by_cases c1 : k9 = 1
    · rw [if_pos c1] at h9
      cases some_i h9
      subst c1
      have q0 : (wBR g ad tx is wa st hi).Perm ((wBR g ad tx is wa st hi) ++ []) := by rw [List.append_nil]
      refine aftX (E := "java/lang/IndexOutOfBoundsException") q0 (vx_runV (As := [.int p1]) (rest := []) ⟨hx, hb, hml, hown, hts⟩ (tX5_leave_1 l hst g ad h su.heap.size) (cwV 1 hts gL_leave_X5_leave rfl rfl rfl hdX5_leave ⟨Nat.le_of_ble_eq_true rfl, Nat.le_of_ble_eq_true rfl⟩) ⟨PgX_blind _ _ _ _, (va_recv hK hP (ci := 5) (q0 := 0) rfl rfl), fun U hU hW => ⟨rfl, ⟨by rw [hU], by rw [hU]; exact hP, va_K.moved hW.alike hK, hD.weaken (fun _ _ _ _ => trivial), hN.warm hW⟩, hX.warm hW, by rw [hU]; exact Zs.moved hW.alike (hZ.narrow (fr_free hD hS hA))⟩⟩ rfl rfl hl.1 rfl (lv_room (Nat.le_of_ble_eq_true rfl)) dL_leave_2 ⟨Nat.le_of_ble_eq_true rfl, Nat.le_of_ble_eq_true rfl⟩) hP hD hS hA (fun ce q9 H locs hP hS hce hcv hcl => ?_)
      refine vx_catch (own := RL) (name := "java/lang/IndexOutOfBoundsException") (E := "java/lang/IndexOutOfBoundsException") hown [] ⟨0, 5, 6, 22⟩ [⟨0, 5, 10, 31⟩] (by rw [ht]; rfl) (fun z hz => by simp at hz) (by decide) (by decide) (hts (.classLink RL 22 "java/lang/IndexOutOfBoundsException") (List.mem_of_getElem? (i := 1) rfl)) (va_Nw.use rfl (hX.1.1 "java/lang/IndexOutOfBoundsException" (by decide +kernel))) hce hcv hcl ?_
      refine lv_astore_n (lv' := [(2, .ref q9), (0, .ref (ad 0 0)), (1, .int p1)]) hx hb dL_leave_6 rfl hl (by decide) rfl (fun ls hl => ?_)
      refine lv_bipush (v := -101) hx hb dL_leave_7 (by decide) ?_
      exact hend _ _ _ _ _ hP hD hS (RetOK.i dL_leave_9)
    · rw [if_neg c1] at h9
      by_cases c3 : k9 = 3
      · rw [if_pos c3] at h9
        cases some_i h9
        subst c3
        have q0 : (wBR g ad tx is wa st hi).Perm ((wBR g ad tx is wa st hi) ++ []) := by rw [List.append_nil]
        refine aftX (E := "java/lang/IllegalStateException") q0 (vx_runV (As := [.int p1]) (rest := []) ⟨hx, hb, hml, hown, hts⟩ (tX5_leave_3 l hst g ad h su.heap.size) (cwV 1 hts gL_leave_X5_leave rfl rfl rfl hdX5_leave ⟨Nat.le_of_ble_eq_true rfl, Nat.le_of_ble_eq_true rfl⟩) ⟨PgX_blind _ _ _ _, (va_recv hK hP (ci := 5) (q0 := 0) rfl rfl), fun U hU hW => ⟨rfl, ⟨by rw [hU], by rw [hU]; exact hP, va_K.moved hW.alike hK, hD.weaken (fun _ _ _ _ => trivial), hN.warm hW⟩, hX.warm hW, by rw [hU]; exact Zs.moved hW.alike (hZ.narrow (fr_free hD hS hA))⟩⟩ rfl rfl hl.1 rfl (lv_room (Nat.le_of_ble_eq_true rfl)) dL_leave_2 ⟨Nat.le_of_ble_eq_true rfl, Nat.le_of_ble_eq_true rfl⟩) hP hD hS hA (fun ce q9 H locs hP hS hce hcv hcl => ?_)
        refine vx_catch (own := RL) (name := "java/lang/IllegalStateException") (E := "java/lang/IllegalStateException") hown [⟨0, 5, 6, 22⟩] ⟨0, 5, 10, 31⟩ [] (by rw [ht]; rfl) (fun z hz => by
          simp only [List.mem_cons, List.not_mem_nil, or_false] at hz
          rcases hz with rfl
          · exact Or.inr ⟨by decide, "java/lang/IndexOutOfBoundsException", (hts (.classLink RL 22 "java/lang/IndexOutOfBoundsException") (List.mem_of_getElem? (i := 1) rfl)), hX.2.1 ("java/lang/IllegalStateException", "java/lang/IndexOutOfBoundsException") (by decide +kernel)⟩) (by decide) (by decide) (hts (.classLink RL 31 "java/lang/IllegalStateException") (List.mem_of_getElem? (i := 2) rfl)) (va_Nw.use rfl (hX.1.1 "java/lang/IllegalStateException" (by decide +kernel))) hce hcv hcl ?_
        refine lv_astore_n (lv' := [(2, .ref q9), (0, .ref (ad 0 0)), (1, .int p1)]) hx hb dL_leave_10 rfl hl (by decide) rfl (fun ls hl => ?_)
        refine lv_bipush (v := -103) hx hb dL_leave_11 (by decide) ?_
        exact hend _ _ _ _ _ hP hD hS (RetOK.i dL_leave_13)
      · rw [if_neg c3] at h9
        cases h9
abbrev rL_append : Room := { frames := 7, cells := 0, slots := 0, locals := 111 }
theorem hdL_append : yL_append.cls ≠ "java/lang/invoke/MethodHandle" ∧ yL_append.cls ≠ "java/lang/invoke/VarHandle" ∧ (parseMethodDescriptor yL_append.desc).map (fun d => d.parameters.length) = some 2 := by decide +kernel
def fL_append (tx : Tx) (is : Is) (wa : Wa) (st : St) (hi : Hi) (p1 : Int32) : Option (Int32 × Tx) := ri (fX5_append tx is wa st hi p1)
set_option maxRecDepth 100000 in
set_option maxHeartbeats 8000000 in
theorem kL_append (l : Launch) (g : GG) (ad : Nat → Nat → Nat) {tx : Tx} {is : Is} {wa : Wa} {st : St} {hi : Hi} {p1 : Int32} {res : Int32} {tx' : Tx} (h : fL_append tx is wa st hi p1 = some (res, tx')) : Cg l g yL_append wsL_append rL_append [.ref (ad 0 0), .int p1] (wBR g ad tx is wa st hi) (some (.int res)) (wBR g ad tx' is wa st hi) := by
  refine Cgw_of (cc := cL_append) (maxL := 3) (ret := some .int) (hh := [(0, 5, 6, 16), (0, 5, 10, 31)]) (by decide +kernel) rfl (Nat.le_of_ble_eq_true rfl) ?_
  intro p e su m args below meth c A Q ls hx hb hml hown hts hK hN hA hP hD hS hl hend
  have hl : lv_has ls 3 [(0, .ref (ad 0 0)), (1, .int p1)] := hl
  refine lv_aload_n hx hb dL_append_0 rfl (lv_at hl 0 rfl) ?_
  refine lv_iload_n hx hb dL_append_1 rfl (lv_at hl 1 rfl) ?_
  refine aft_w (st1 := [.int res]) rfl (runV (As := [.int p1]) (rest := []) ⟨hx, hb, hml, hown, hts⟩ (kX5_append l g ad (ri_ex h)) (cwV 1 hts gL_append_X5_append rfl rfl rfl hdX5_append ⟨Nat.le_of_ble_eq_true rfl, Nat.le_of_ble_eq_true rfl⟩) hK hN hP hD (va_recv hK hP (ci := 5) (q0 := 0) rfl rfl) rfl hl.1 rfl (Nat.le_of_ble_eq_true rfl) dL_append_2 ⟨Nat.zero_le _, Nat.zero_le _⟩) hD hS hA (fun H locs hP hD hS => ?_)
  exact hend _ _ _ _ _ hP hD hS (RetOK.i dL_append_5)
abbrev rL_undo : Room := { frames := 7, cells := 0, slots := 0, locals := 122 }
theorem hdL_undo : yL_undo.cls ≠ "java/lang/invoke/MethodHandle" ∧ yL_undo.cls ≠ "java/lang/invoke/VarHandle" ∧ (parseMethodDescriptor yL_undo.desc).map (fun d => d.parameters.length) = some 1 := by decide +kernel
def fL_undo (tx : Tx) (is : Is) (wa : Wa) (st : St) (hi : Hi) : Option (Int32 × St × Hi) := ri (fX5_undo tx is wa st hi)
set_option maxRecDepth 100000 in
set_option maxHeartbeats 8000000 in
theorem kL_undo (l : Launch) (g : GG) (ad : Nat → Nat → Nat) {tx : Tx} {is : Is} {wa : Wa} {st : St} {hi : Hi} {res : Int32} {st' : St} {hi' : Hi} (h : fL_undo tx is wa st hi = some (res, st', hi')) : Cg l g yL_undo wsL_undo rL_undo [.ref (ad 0 0)] (wBR g ad tx is wa st hi) (some (.int res)) (wBR g ad tx is wa st' hi') := by
  refine Cgw_of (cc := cL_undo) (maxL := 2) (ret := some .int) (hh := [(0, 4, 5, 31)]) (by decide +kernel) rfl (Nat.le_of_ble_eq_true rfl) ?_
  intro p e su m args below meth c A Q ls hx hb hml hown hts hK hN hA hP hD hS hl hend
  have hl : lv_has ls 2 [(0, .ref (ad 0 0))] := hl
  refine lv_aload_n hx hb dL_undo_0 rfl (lv_at hl 0 rfl) ?_
  refine aft_w (st1 := [.int res]) rfl (runV (As := []) (rest := []) ⟨hx, hb, hml, hown, hts⟩ (kX5_undo l g ad (ri_ex h)) (cwV 0 hts gL_undo_X5_undo rfl rfl rfl hdX5_undo ⟨Nat.le_of_ble_eq_true rfl, Nat.le_of_ble_eq_true rfl⟩) hK hN hP hD (va_recv hK hP (ci := 5) (q0 := 0) rfl rfl) rfl hl.1 rfl (Nat.le_of_ble_eq_true rfl) dL_undo_1 ⟨Nat.zero_le _, Nat.zero_le _⟩) hD hS hA (fun H locs hP hD hS => ?_)
  exact hend _ _ _ _ _ hP hD hS (RetOK.i dL_undo_4)
abbrev rL_word : Room := { frames := 7, cells := 0, slots := 0, locals := 132 }
theorem hdL_word : yL_word.cls ≠ "java/lang/invoke/MethodHandle" ∧ yL_word.cls ≠ "java/lang/invoke/VarHandle" ∧ (parseMethodDescriptor yL_word.desc).map (fun d => d.parameters.length) = some 3 := by decide +kernel
def fL_word (tx : Tx) (is : Is) (wa : Wa) (st : St) (hi : Hi) (p1 : Int32) (p2 : Int32) : Option (Int32) := ri (fX5_word tx is wa st hi p1 p2)
set_option maxRecDepth 100000 in
set_option maxHeartbeats 8000000 in
theorem kL_word (l : Launch) (g : GG) (ad : Nat → Nat → Nat) {tx : Tx} {is : Is} {wa : Wa} {st : St} {hi : Hi} {p1 : Int32} {p2 : Int32} {res : Int32}  (h : fL_word tx is wa st hi p1 p2 = some res) : Cg l g yL_word wsL_word rL_word [.ref (ad 0 0), .int p1, .int p2] (wBR g ad tx is wa st hi) (some (.int res)) (wBR g ad tx is wa st hi) := by
  refine Cgw_of (cc := cL_word) (maxL := 4) (ret := some .int) (hh := [(0, 6, 7, 22), (0, 6, 11, 16)]) (by decide +kernel) rfl (Nat.le_of_ble_eq_true rfl) ?_
  intro p e su m args below meth c A Q ls hx hb hml hown hts hK hN hA hP hD hS hl hend
  have hl : lv_has ls 4 [(0, .ref (ad 0 0)), (1, .int p1), (2, .int p2)] := hl
  refine lv_aload_n hx hb dL_word_0 rfl (lv_at hl 0 rfl) ?_
  refine lv_iload_n hx hb dL_word_1 rfl (lv_at hl 1 rfl) ?_
  refine lv_iload_n hx hb dL_word_2 rfl (lv_at hl 2 rfl) ?_
  refine aft_w (st1 := [.int res]) rfl (runV (As := [.int p1, .int p2]) (rest := []) ⟨hx, hb, hml, hown, hts⟩ (kX5_word l g ad (ri_ex h)) (cwV 2 hts gL_word_X5_word rfl rfl rfl hdX5_word ⟨Nat.le_of_ble_eq_true rfl, Nat.le_of_ble_eq_true rfl⟩) hK hN hP hD (va_recv hK hP (ci := 5) (q0 := 0) rfl rfl) rfl hl.1 rfl (Nat.le_of_ble_eq_true rfl) dL_word_3 ⟨Nat.zero_le _, Nat.zero_le _⟩) hD hS hA (fun H locs hP hD hS => ?_)
  exact hend _ _ _ _ _ hP hD hS (RetOK.i dL_word_6)
abbrev rL_climber : Room := { frames := 7, cells := 0, slots := 0, locals := 170 }
theorem hdL_climber : yL_climber.cls ≠ "java/lang/invoke/MethodHandle" ∧ yL_climber.cls ≠ "java/lang/invoke/VarHandle" ∧ (parseMethodDescriptor yL_climber.desc).map (fun d => d.parameters.length) = some 3 := by decide +kernel
def fL_climber (tx : Tx) (is : Is) (wa : Wa) (st : St) (hi : Hi) (p1 : Int32) (p2 : Int32) : Option (Int32 × Wa) := ri (fX5_climber tx is wa st hi p1 p2)
set_option maxRecDepth 100000 in
set_option maxHeartbeats 8000000 in
theorem kL_climber (l : Launch) (g : GG) (ad : Nat → Nat → Nat) {tx : Tx} {is : Is} {wa : Wa} {st : St} {hi : Hi} {p1 : Int32} {p2 : Int32} {res : Int32} {wa' : Wa} (h : fL_climber tx is wa st hi p1 p2 = some (res, wa')) : Cg l g yL_climber wsL_climber rL_climber [.ref (ad 0 0), .int p1, .int p2] (wBR g ad tx is wa st hi) (some (.int res)) (wBR g ad tx is wa' st hi) := by
  refine Cgw_of (cc := cL_climber) (maxL := 4) (ret := some .int) (hh := [(0, 6, 7, 22), (0, 6, 11, 16)]) (by decide +kernel) rfl (Nat.le_of_ble_eq_true rfl) ?_
  intro p e su m args below meth c A Q ls hx hb hml hown hts hK hN hA hP hD hS hl hend
  have hl : lv_has ls 4 [(0, .ref (ad 0 0)), (1, .int p1), (2, .int p2)] := hl
  refine lv_aload_n hx hb dL_climber_0 rfl (lv_at hl 0 rfl) ?_
  refine lv_iload_n hx hb dL_climber_1 rfl (lv_at hl 1 rfl) ?_
  refine lv_iload_n hx hb dL_climber_2 rfl (lv_at hl 2 rfl) ?_
  refine aft_w (st1 := [.int res]) rfl (runV (As := [.int p1, .int p2]) (rest := []) ⟨hx, hb, hml, hown, hts⟩ (kX5_climber l g ad (ri_ex h)) (cwV 2 hts gL_climber_X5_climber rfl rfl rfl hdX5_climber ⟨Nat.le_of_ble_eq_true rfl, Nat.le_of_ble_eq_true rfl⟩) hK hN hP hD (va_recv hK hP (ci := 5) (q0 := 0) rfl rfl) rfl hl.1 rfl (Nat.le_of_ble_eq_true rfl) dL_climber_3 ⟨Nat.zero_le _, Nat.zero_le _⟩) hD hS hA (fun H locs hP hD hS => ?_)
  exact hend _ _ _ _ _ hP hD hS (RetOK.i dL_climber_6)
abbrev rL_count : Room := { frames := 7, cells := 0, slots := 0, locals := 135 }
theorem hdL_count : yL_count.cls ≠ "java/lang/invoke/MethodHandle" ∧ yL_count.cls ≠ "java/lang/invoke/VarHandle" ∧ (parseMethodDescriptor yL_count.desc).map (fun d => d.parameters.length) = some 2 := by decide +kernel
def fL_count (tx : Tx) (is : Is) (wa : Wa) (st : St) (hi : Hi) (p1 : Int32) : Option (Int32 × Is) := ri (fX5_count tx is wa st hi p1)
set_option maxRecDepth 100000 in
set_option maxHeartbeats 8000000 in
theorem kL_count (l : Launch) (g : GG) (ad : Nat → Nat → Nat) {tx : Tx} {is : Is} {wa : Wa} {st : St} {hi : Hi} {p1 : Int32} {res : Int32} {is' : Is} (h : fL_count tx is wa st hi p1 = some (res, is')) : Cg l g yL_count wsL_count rL_count [.ref (ad 0 0), .int p1] (wBR g ad tx is wa st hi) (some (.int res)) (wBR g ad tx is' wa st hi) := by
  refine Cgw_of (cc := cL_count) (maxL := 3) (ret := some .int) (hh := [(0, 5, 6, 16)]) (by decide +kernel) rfl (Nat.le_of_ble_eq_true rfl) ?_
  intro p e su m args below meth c A Q ls hx hb hml hown hts hK hN hA hP hD hS hl hend
  have hl : lv_has ls 3 [(0, .ref (ad 0 0)), (1, .int p1)] := hl
  refine lv_aload_n hx hb dL_count_0 rfl (lv_at hl 0 rfl) ?_
  refine lv_iload_n hx hb dL_count_1 rfl (lv_at hl 1 rfl) ?_
  refine aft_w (st1 := [.int res]) rfl (runV (As := [.int p1]) (rest := []) ⟨hx, hb, hml, hown, hts⟩ (kX5_count l g ad (ri_ex h)) (cwV 1 hts gL_count_X5_count rfl rfl rfl hdX5_count ⟨Nat.le_of_ble_eq_true rfl, Nat.le_of_ble_eq_true rfl⟩) hK hN hP hD (va_recv hK hP (ci := 5) (q0 := 0) rfl rfl) rfl hl.1 rfl (Nat.le_of_ble_eq_true rfl) dL_count_2 ⟨Nat.zero_le _, Nat.zero_le _⟩) hD hS hA (fun H locs hP hD hS => ?_)
  exact hend _ _ _ _ _ hP hD hS (RetOK.i dL_count_5)
abbrev rL_setting : Room := { frames := 7, cells := 0, slots := 0, locals := 111 }
theorem hdL_setting : yL_setting.cls ≠ "java/lang/invoke/MethodHandle" ∧ yL_setting.cls ≠ "java/lang/invoke/VarHandle" ∧ (parseMethodDescriptor yL_setting.desc).map (fun d => d.parameters.length) = some 2 := by decide +kernel
def fL_setting (tx : Tx) (is : Is) (wa : Wa) (st : St) (hi : Hi) (p1 : Int32) : Option (Int32) := ri (fX5_setting tx is wa st hi p1)
set_option maxRecDepth 100000 in
set_option maxHeartbeats 8000000 in
theorem kL_setting (l : Launch) (g : GG) (ad : Nat → Nat → Nat) {tx : Tx} {is : Is} {wa : Wa} {st : St} {hi : Hi} {p1 : Int32} {res : Int32}  (h : fL_setting tx is wa st hi p1 = some res) : Cg l g yL_setting wsL_setting rL_setting [.ref (ad 0 0), .int p1] (wBR g ad tx is wa st hi) (some (.int res)) (wBR g ad tx is wa st hi) := by
  refine Cgw_of (cc := cL_setting) (maxL := 3) (ret := some .int) (hh := [(0, 5, 6, 22)]) (by decide +kernel) rfl (Nat.le_of_ble_eq_true rfl) ?_
  intro p e su m args below meth c A Q ls hx hb hml hown hts hK hN hA hP hD hS hl hend
  have hl : lv_has ls 3 [(0, .ref (ad 0 0)), (1, .int p1)] := hl
  refine lv_aload_n hx hb dL_setting_0 rfl (lv_at hl 0 rfl) ?_
  refine lv_iload_n hx hb dL_setting_1 rfl (lv_at hl 1 rfl) ?_
  refine aft_w (st1 := [.int res]) rfl (runV (As := [.int p1]) (rest := []) ⟨hx, hb, hml, hown, hts⟩ (kX5_setting l g ad (ri_ex h)) (cwV 1 hts gL_setting_X5_setting rfl rfl rfl hdX5_setting ⟨Nat.le_of_ble_eq_true rfl, Nat.le_of_ble_eq_true rfl⟩) hK hN hP hD (va_recv hK hP (ci := 5) (q0 := 0) rfl rfl) rfl hl.1 rfl (Nat.le_of_ble_eq_true rfl) dL_setting_2 ⟨Nat.zero_le _, Nat.zero_le _⟩) hD hS hA (fun H locs hP hD hS => ?_)
  exact hend _ _ _ _ _ hP hD hS (RetOK.i dL_setting_5)
abbrev rL_why : Room := { frames := 7, cells := 0, slots := 0, locals := 112 }
theorem hdL_why : yL_why.cls ≠ "java/lang/invoke/MethodHandle" ∧ yL_why.cls ≠ "java/lang/invoke/VarHandle" ∧ (parseMethodDescriptor yL_why.desc).map (fun d => d.parameters.length) = some 3 := by decide +kernel
def fL_why (tx : Tx) (is : Is) (wa : Wa) (st : St) (hi : Hi) (p1 : Int32) (p2 : Int32) : Option (Int32) := ri (fX5_why tx is wa st hi p1 p2)
set_option maxRecDepth 100000 in
set_option maxHeartbeats 8000000 in
theorem kL_why (l : Launch) (g : GG) (ad : Nat → Nat → Nat) {tx : Tx} {is : Is} {wa : Wa} {st : St} {hi : Hi} {p1 : Int32} {p2 : Int32} {res : Int32}  (h : fL_why tx is wa st hi p1 p2 = some res) : Cg l g yL_why wsL_why rL_why [.ref (ad 0 0), .int p1, .int p2] (wBR g ad tx is wa st hi) (some (.int res)) (wBR g ad tx is wa st hi) := by
  refine Cgw_of (cc := cL_why) (maxL := 4) (ret := some .int) (hh := [(0, 6, 7, 22)]) (by decide +kernel) rfl (Nat.le_of_ble_eq_true rfl) ?_
  intro p e su m args below meth c A Q ls hx hb hml hown hts hK hN hA hP hD hS hl hend
  have hl : lv_has ls 4 [(0, .ref (ad 0 0)), (1, .int p1), (2, .int p2)] := hl
  refine lv_aload_n hx hb dL_why_0 rfl (lv_at hl 0 rfl) ?_
  refine lv_iload_n hx hb dL_why_1 rfl (lv_at hl 1 rfl) ?_
  refine lv_iload_n hx hb dL_why_2 rfl (lv_at hl 2 rfl) ?_
  refine aft_w (st1 := [.int res]) rfl (runV (As := [.int p1, .int p2]) (rest := []) ⟨hx, hb, hml, hown, hts⟩ (kX5_why l g ad (ri_ex h)) (cwV 2 hts gL_why_X5_why rfl rfl rfl hdX5_why ⟨Nat.le_of_ble_eq_true rfl, Nat.le_of_ble_eq_true rfl⟩) hK hN hP hD (va_recv hK hP (ci := 5) (q0 := 0) rfl rfl) rfl hl.1 rfl (Nat.le_of_ble_eq_true rfl) dL_why_3 ⟨Nat.zero_le _, Nat.zero_le _⟩) hD hS hA (fun H locs hP hD hS => ?_)
  exact hend _ _ _ _ _ hP hD hS (RetOK.i dL_why_6)
abbrev rL_plain : Room := { frames := 7, cells := 0, slots := 0, locals := 112 }
theorem hdL_plain : yL_plain.cls ≠ "java/lang/invoke/MethodHandle" ∧ yL_plain.cls ≠ "java/lang/invoke/VarHandle" ∧ (parseMethodDescriptor yL_plain.desc).map (fun d => d.parameters.length) = some 3 := by decide +kernel
def fL_plain (tx : Tx) (is : Is) (wa : Wa) (st : St) (hi : Hi) (p1 : Int32) (p2 : Int32) : Option (Int32) := ri (fX5_plain tx is wa st hi p1 p2)
set_option maxRecDepth 100000 in
set_option maxHeartbeats 8000000 in
theorem kL_plain (l : Launch) (g : GG) (ad : Nat → Nat → Nat) {tx : Tx} {is : Is} {wa : Wa} {st : St} {hi : Hi} {p1 : Int32} {p2 : Int32} {res : Int32}  (h : fL_plain tx is wa st hi p1 p2 = some res) : Cg l g yL_plain wsL_plain rL_plain [.ref (ad 0 0), .int p1, .int p2] (wBR g ad tx is wa st hi) (some (.int res)) (wBR g ad tx is wa st hi) := by
  refine Cgw_of (cc := cL_plain) (maxL := 4) (ret := some .int) (hh := [(0, 6, 7, 22)]) (by decide +kernel) rfl (Nat.le_of_ble_eq_true rfl) ?_
  intro p e su m args below meth c A Q ls hx hb hml hown hts hK hN hA hP hD hS hl hend
  have hl : lv_has ls 4 [(0, .ref (ad 0 0)), (1, .int p1), (2, .int p2)] := hl
  refine lv_aload_n hx hb dL_plain_0 rfl (lv_at hl 0 rfl) ?_
  refine lv_iload_n hx hb dL_plain_1 rfl (lv_at hl 1 rfl) ?_
  refine lv_iload_n hx hb dL_plain_2 rfl (lv_at hl 2 rfl) ?_
  refine aft_w (st1 := [.int res]) rfl (runV (As := [.int p1, .int p2]) (rest := []) ⟨hx, hb, hml, hown, hts⟩ (kX5_plain l g ad (ri_ex h)) (cwV 2 hts gL_plain_X5_plain rfl rfl rfl hdX5_plain ⟨Nat.le_of_ble_eq_true rfl, Nat.le_of_ble_eq_true rfl⟩) hK hN hP hD (va_recv hK hP (ci := 5) (q0 := 0) rfl rfl) rfl hl.1 rfl (Nat.le_of_ble_eq_true rfl) dL_plain_3 ⟨Nat.zero_le _, Nat.zero_le _⟩) hD hS hA (fun H locs hP hD hS => ?_)
  exact hend _ _ _ _ _ hP hD hS (RetOK.i dL_plain_6)
abbrev rL_ifPut : Room := { frames := 7, cells := 1, slots := 6, locals := 119 }
theorem hdL_ifPut : yL_ifPut.cls ≠ "java/lang/invoke/MethodHandle" ∧ yL_ifPut.cls ≠ "java/lang/invoke/VarHandle" ∧ (parseMethodDescriptor yL_ifPut.desc).map (fun d => d.parameters.length) = some 3 := by decide +kernel
def fL_ifPut (tx : Tx) (is : Is) (wa : Wa) (st : St) (hi : Hi) (p1 : Int32) (p2 : Int32) : Option (Int32 × Wa) := wrx (fX5_ifPut tx is wa st hi p1 p2) (fun k => if k = 1 then some ((-101 : Int32), wa) else if k = 2 then some ((-102 : Int32), wa) else none)
set_option maxRecDepth 100000 in
set_option maxHeartbeats 8000000 in
theorem wL_ifPut (l : Launch) (hst : l.stackTraces = false) (g : GG) (ad : Nat → Nat → Nat) {tx : Tx} {is : Is} {wa : Wa} {st : St} {hi : Hi} {p1 : Int32} {p2 : Int32} {res : Int32} {wa' : Wa} (h : fL_ifPut tx is wa st hi p1 p2 = some (res, wa')) : CL l g yL_ifPut wsL_ifPut rL_ifPut [.ref (ad 0 0), .int p1, .int p2] (wBR g ad tx is wa st hi) (some (.int res)) (wBR g ad tx is wa' st hi) := by
  refine CL_of (cc := cL_ifPut) (maxL := 4) (ret := some .int) (hh := [(0, 6, 7, 22), (0, 6, 11, 16)]) (by decide +kernel) rfl (Nat.le_of_ble_eq_true rfl) ?_
  intro p e su m args below meth c A Q ls hx hb hml hown hts hK hN hA hX hZ ht hP hD hS hl hend
  have hl : lv_has ls 4 [(0, .ref (ad 0 0)), (1, .int p1), (2, .int p2)] := hl
  refine lv_aload_n hx hb dL_ifPut_0 rfl (lv_at hl 0 rfl) ?_
  refine lv_iload_n hx hb dL_ifPut_1 rfl (lv_at hl 1 rfl) ?_
  refine lv_iload_n hx hb dL_ifPut_2 rfl (lv_at hl 2 rfl) ?_
  rcases wrx_ex h with h | ⟨k9, h, h9⟩
  · skip
    refine aft_w (st1 := [.int res]) rfl (runV (As := [.int p1, .int p2]) (rest := []) ⟨hx, hb, hml, hown, hts⟩ (kX5_ifPut l g ad h) (cwV 2 hts gL_ifPut_X5_ifPut rfl rfl rfl hdX5_ifPut ⟨Nat.le_of_ble_eq_true rfl, Nat.le_of_ble_eq_true rfl⟩) hK hN hP hD (va_recv hK hP (ci := 5) (q0 := 0) rfl rfl) rfl hl.1 rfl (Nat.le_of_ble_eq_true rfl) dL_ifPut_3 ⟨Nat.zero_le _, Nat.zero_le _⟩) hD hS hA (fun H locs hP hD hS => ?_)
    refine W.widen (k := 1) (n := 6) (Nat.zero_le _) (Nat.zero_le _) ?_
    exact hend _ _ _ _ _ hP hD hS (RetOK.i dL_ifPut_6)
  · skip
    by_cases c1 : k9 = 1
    · rw [if_pos c1] at h9
      cases some_i h9
      subst c1
      have q0 : (wBR g ad tx is wa st hi).Perm ((wBR g ad tx is wa st hi) ++ []) := by rw [List.append_nil]
      refine aftX (E := "java/lang/IndexOutOfBoundsException") q0 (vx_runV (As := [.int p1, .int p2]) (rest := []) ⟨hx, hb, hml, hown, hts⟩ (tX5_ifPut_1 l hst g ad h su.heap.size) (cwV 2 hts gL_ifPut_X5_ifPut rfl rfl rfl hdX5_ifPut ⟨Nat.le_of_ble_eq_true rfl, Nat.le_of_ble_eq_true rfl⟩) ⟨PgX_blind _ _ _ _, (va_recv hK hP (ci := 5) (q0 := 0) rfl rfl), fun U hU hW => ⟨rfl, ⟨by rw [hU], by rw [hU]; exact hP, va_K.moved hW.alike hK, hD.weaken (fun _ _ _ _ => trivial), hN.warm hW⟩, hX.warm hW, by rw [hU]; exact Zs.moved hW.alike (hZ.narrow (fr_free hD hS hA))⟩⟩ rfl rfl hl.1 rfl (lv_room (Nat.le_of_ble_eq_true rfl)) dL_ifPut_3 ⟨Nat.le_of_ble_eq_true rfl, Nat.le_of_ble_eq_true rfl⟩) hP hD hS hA (fun ce q9 H locs hP hS hce hcv hcl => ?_)
      refine vx_catch (own := RL) (name := "java/lang/IndexOutOfBoundsException") (E := "java/lang/IndexOutOfBoundsException") hown [] ⟨0, 6, 7, 22⟩ [⟨0, 6, 11, 16⟩] (by rw [ht]; rfl) (fun z hz => by simp at hz) (by decide) (by decide) (hts (.classLink RL 22 "java/lang/IndexOutOfBoundsException") (List.mem_of_getElem? (i := 1) rfl)) (va_Nw.use rfl (hX.1.1 "java/lang/IndexOutOfBoundsException" (by decide +kernel))) hce hcv hcl ?_
      refine lv_astore_n (lv' := [(3, .ref q9), (0, .ref (ad 0 0)), (1, .int p1), (2, .int p2)]) hx hb dL_ifPut_7 rfl hl (by decide) rfl (fun ls hl => ?_)
      refine lv_bipush (v := -101) hx hb dL_ifPut_8 (by decide) ?_
      exact hend _ _ _ _ _ hP hD hS (RetOK.i dL_ifPut_10)
    · rw [if_neg c1] at h9
      by_cases c2 : k9 = 2
      · rw [if_pos c2] at h9
        cases some_i h9
        subst c2
        have q0 : (wBR g ad tx is wa st hi).Perm ((wBR g ad tx is wa st hi) ++ []) := by rw [List.append_nil]
        refine aftX (E := "java/lang/IllegalArgumentException") q0 (vx_runV (As := [.int p1, .int p2]) (rest := []) ⟨hx, hb, hml, hown, hts⟩ (tX5_ifPut_2 l hst g ad h su.heap.size) (cwV 2 hts gL_ifPut_X5_ifPut rfl rfl rfl hdX5_ifPut ⟨Nat.le_of_ble_eq_true rfl, Nat.le_of_ble_eq_true rfl⟩) ⟨PgX_blind _ _ _ _, (va_recv hK hP (ci := 5) (q0 := 0) rfl rfl), fun U hU hW => ⟨rfl, ⟨by rw [hU], by rw [hU]; exact hP, va_K.moved hW.alike hK, hD.weaken (fun _ _ _ _ => trivial), hN.warm hW⟩, hX.warm hW, by rw [hU]; exact Zs.moved hW.alike (hZ.narrow (fr_free hD hS hA))⟩⟩ rfl rfl hl.1 rfl (lv_room (Nat.le_of_ble_eq_true rfl)) dL_ifPut_3 ⟨Nat.le_of_ble_eq_true rfl, Nat.le_of_ble_eq_true rfl⟩) hP hD hS hA (fun ce q9 H locs hP hS hce hcv hcl => ?_)
        refine vx_catch (own := RL) (name := "java/lang/IllegalArgumentException") (E := "java/lang/IllegalArgumentException") hown [⟨0, 6, 7, 22⟩] ⟨0, 6, 11, 16⟩ [] (by rw [ht]; rfl) (fun z hz => by
          simp only [List.mem_cons, List.not_mem_nil, or_false] at hz
          rcases hz with rfl
          · exact Or.inr ⟨by decide, "java/lang/IndexOutOfBoundsException", (hts (.classLink RL 22 "java/lang/IndexOutOfBoundsException") (List.mem_of_getElem? (i := 1) rfl)), hX.2.1 ("java/lang/IllegalArgumentException", "java/lang/IndexOutOfBoundsException") (by decide +kernel)⟩) (by decide) (by decide) (hts (.classLink RL 16 "java/lang/IllegalArgumentException") (List.mem_of_getElem? (i := 2) rfl)) (va_Nw.use rfl (hX.1.1 "java/lang/IllegalArgumentException" (by decide +kernel))) hce hcv hcl ?_
        refine lv_astore_n (lv' := [(3, .ref q9), (0, .ref (ad 0 0)), (1, .int p1), (2, .int p2)]) hx hb dL_ifPut_11 rfl hl (by decide) rfl (fun ls hl => ?_)
        refine lv_bipush (v := -102) hx hb dL_ifPut_12 (by decide) ?_
        exact hend _ _ _ _ _ hP hD hS (RetOK.i dL_ifPut_14)
      · rw [if_neg c2] at h9
        cases h9
end WRP
