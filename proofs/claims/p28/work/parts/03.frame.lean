section FRA
/-! partial functions: none stands for a throw of the machine, or for a count that is used up -/
def pl {α β : Type} (x : α) (f : α → Option β) : Option β := f x
def bd {α β : Type} (o : Option α) (f : α → Option β) : Option β := match o with
  | none => none
  | some a => f a
def ck {β : Type} (b : Bool) (x : Option β) : Option β := match b with
  | true => x
  | false => none
def inb (i : Int32) (n : Nat) : Bool := decide (0 ≤ i.toInt ∧ i.toInt < n)
theorem pl_ex {α β : Type} {x : α} {f : α → Option β} {r : β} (h : pl x f = some r) : ∃ y, x = y ∧ f y = some r := ⟨x, rfl, h⟩
theorem bd_ex {α β : Type} {o : Option α} {f : α → Option β} {r : β} (h : bd o f = some r) : ∃ a, o = some a ∧ f a = some r := by
  cases o with
  | none => cases h
  | some a => exact ⟨a, rfl, h⟩
theorem ck_ex {β : Type} {b : Bool} {x : Option β} {r : β} (h : ck b x = some r) : b = true ∧ x = some r := by
  cases b with
  | false => cases h
  | true => exact ⟨rfl, h⟩
def bd2 {α1 α2 β : Type} (o : Option (α1 × α2)) (f : α1 → α2 → Option β) : Option β := match o with
  | none => none
  | some (a, b) => f a b
def bd3 {α1 α2 α3 β : Type} (o : Option (α1 × α2 × α3)) (f : α1 → α2 → α3 → Option β) : Option β := match o with
  | none => none
  | some (a, b, c) => f a b c
def bd4 {α1 α2 α3 α4 β : Type} (o : Option (α1 × α2 × α3 × α4)) (f : α1 → α2 → α3 → α4 → Option β) : Option β := match o with
  | none => none
  | some (a, b, c, d) => f a b c d
def bd5 {α1 α2 α3 α4 α5 β : Type} (o : Option (α1 × α2 × α3 × α4 × α5)) (f : α1 → α2 → α3 → α4 → α5 → Option β) : Option β := match o with
  | none => none
  | some (a, b, c, d, e) => f a b c d e
theorem bd2_ex {α1 α2 β : Type} {o : Option (α1 × α2)} {f : α1 → α2 → Option β} {r : β} (h : bd2 o f = some r) : ∃ a b, o = some (a, b) ∧ f a b = some r := by
  rcases o with _ | ⟨a, b⟩
  · cases h
  · exact ⟨a, b, rfl, h⟩
theorem bd3_ex {α1 α2 α3 β : Type} {o : Option (α1 × α2 × α3)} {f : α1 → α2 → α3 → Option β} {r : β} (h : bd3 o f = some r) : ∃ a b c, o = some (a, b, c) ∧ f a b c = some r := by
  rcases o with _ | ⟨a, b, c⟩
  · cases h
  · exact ⟨a, b, c, rfl, h⟩
theorem bd4_ex {α1 α2 α3 α4 β : Type} {o : Option (α1 × α2 × α3 × α4)} {f : α1 → α2 → α3 → α4 → Option β} {r : β} (h : bd4 o f = some r) : ∃ a b c d, o = some (a, b, c, d) ∧ f a b c d = some r := by
  rcases o with _ | ⟨a, b, c, d⟩
  · cases h
  · exact ⟨a, b, c, d, rfl, h⟩
theorem bd5_ex {α1 α2 α3 α4 α5 β : Type} {o : Option (α1 × α2 × α3 × α4 × α5)} {f : α1 → α2 → α3 → α4 → α5 → Option β} {r : β} (h : bd5 o f = some r) : ∃ a b c d e, o = some (a, b, c, d, e) ∧ f a b c d e = some r := by
  rcases o with _ | ⟨a, b, c, d, e⟩
  · cases h
  · exact ⟨a, b, c, d, e, rfl, h⟩
def zb (x : Int32) : Bool := decide (x = 0 ∨ x = 1)
def nnf (r : UInt32) : Bool := decide (r &&& 0x7fffffff ≤ 0x7f800000)
def nnd (r : UInt64) : Bool := decide (r &&& 0x7fffffffffffffff ≤ 0x7ff0000000000000)
theorem nnf_ok {r : UInt32} (h : nnf r = true) : vf_n32 r := of_decide_eq_true (p := r &&& 0x7fffffff ≤ 0x7f800000) h
theorem nnd_ok {r : UInt64} (h : nnd r = true) : vf_n64 r := of_decide_eq_true (p := r &&& 0x7fffffffffffffff ≤ 0x7ff0000000000000) h
theorem bd_some {α β : Type} (a : α) (f : α → Option β) : bd (some a) f = f a := rfl
theorem ck_true {β : Type} (x : Option β) : ck true x = x := rfl
theorem inb_in {i : Int32} {n : Nat} (h : inb i n = true) : vp_in i n := vp_in_iff.mpr (of_decide_eq_true h)
theorem some_i {α : Type} {a b : α} (h : some a = some b) : a = b := Option.some.inj h
theorem if_t {α : Type} {c : Prop} [Decidable c] {a b : α} {r : α} (hc : c) (h : (if c then a else b) = r) : a = r := by rw [if_pos hc] at h; exact h
theorem if_f {α : Type} {c : Prop} [Decidable c] {a b : α} {r : α} (hc : ¬ c) (h : (if c then a else b) = r) : b = r := by rw [if_neg hc] at h; exact h
/-! worlds as lists: order does not matter -/
theorem va_P_mem {D : va_G} {cl : List vw_C} {ws : va_W} {H : Heap} : va_P D cl ws H ↔ ∀ q ∈ ws, va_at D cl q H := by
  refine ⟨fun h q hq => ?_, fun h k q hk => h q (List.mem_of_getElem? hk)⟩
  obtain ⟨k, hk⟩ := List.getElem?_of_mem hq
  exact h k q hk
theorem va_D_mem {A : Nat → Prop} {ws : va_W} : va_D A ws ↔ (ws.map Prod.fst).Nodup ∧ ∀ q ∈ ws, A q.1 := by
  constructor
  · intro h
    refine ⟨List.pairwise_iff_getElem.mpr fun i j hi hj hij e => ?_, fun q hq => ?_⟩
    · rw [List.length_map] at hi hj
      rw [List.getElem_map, List.getElem_map] at e
      have := h.1 i j _ _ (List.getElem?_eq_getElem hi) (List.getElem?_eq_getElem hj) e
      omega
    · obtain ⟨k, hk⟩ := List.getElem?_of_mem hq
      exact h.2 k q hk
  · intro h
    refine ⟨fun i j x y hi hj e => ?_, fun k q hk => h.2 q (List.mem_of_getElem? hk)⟩
    have hl := (List.getElem?_eq_some_iff.mp hi).1
    refine (List.getElem?_inj (by rw [List.length_map]; exact hl) h.1).mp ?_
    rw [List.getElem?_map, List.getElem?_map, hi, hj]
    show some x.1 = some y.1
    rw [e]
theorem va_P.perm {D : va_G} {cl : List vw_C} {ws ws' : va_W} {H : Heap} (hp : ws.Perm ws') (h : va_P D cl ws H) : va_P D cl ws' H := va_P_mem.mpr fun q hq => va_P_mem.mp h q (hp.mem_iff.mpr hq)
theorem va_D.perm {A : Nat → Prop} {ws ws' : va_W} (hp : ws.Perm ws') (h : va_D A ws) : va_D A ws' := by
  obtain ⟨h1, h2⟩ := va_D_mem.mp h
  exact va_D_mem.mpr ⟨(hp.map Prod.fst).nodup h1, fun q hq => h2 q (hp.mem_iff.mpr hq)⟩
theorem va_P.left {D : va_G} {cl : List vw_C} {a b : va_W} {H : Heap} (h : va_P D cl (a ++ b) H) : va_P D cl a H := va_P_mem.mpr fun q hq => va_P_mem.mp h q (List.mem_append_left _ hq)
theorem va_P.right {D : va_G} {cl : List vw_C} {a b : va_W} {H : Heap} (h : va_P D cl (a ++ b) H) : va_P D cl b H := va_P_mem.mpr fun q hq => va_P_mem.mp h q (List.mem_append_right _ hq)
theorem va_D.left {A : Nat → Prop} {a b : va_W} (h : va_D A (a ++ b)) : va_D A a := by
  obtain ⟨h1, h2⟩ := va_D_mem.mp h
  rw [List.map_append] at h1
  exact va_D_mem.mpr ⟨(List.nodup_append.mp h1).1, fun q hq => h2 q (List.mem_append_left _ hq)⟩
theorem va_D.right {A : Nat → Prop} {a b : va_W} (h : va_D A (a ++ b)) : va_D A b := by
  obtain ⟨h1, h2⟩ := va_D_mem.mp h
  rw [List.map_append] at h1
  exact va_D_mem.mpr ⟨(List.nodup_append.mp h1).2.1, fun q hq => h2 q (List.mem_append_right _ hq)⟩
/-- a part's cells are the caller's to change -/
theorem fr_free {A0 : Nat → Prop} {wc : va_W} {H0 H : Heap} {locs : List Loc} (hD : va_D A0 wc) (hS : va_S A0 H0 H locs) (hA : ∀ q : Nat, H0.size ≤ q → A0 q) : ∀ q, va_A wc H.size q → A0 q := by
  rintro q (⟨k, e, h⟩ | h)
  · exact hD.2 k (q, e) h
  · exact hA q (Nat.le_trans hS.1 h)
/-- the frame rule: the callee's part, and the rest -/
theorem fr_join {A0 : Nat → Prop} {D : va_G} {cl : List vw_C} {wc wr wc' : va_W} {H H1 : Heap} (hP : va_P D cl (wc ++ wr) H) (hD : va_D A0 (wc ++ wr)) (hk : ∀ q : Nat, q < H.size → ¬ va_A wc H.size q → H1[q]? = H[q]?) (hF : ∀ q, va_A wc H.size q → A0 q) (hP1 : va_P D cl wc' H1) (hD1 : va_D (va_A wc H.size) wc') : va_P D cl (wc' ++ wr) H1 ∧ va_D A0 (wc' ++ wr) := by
  have apart : ∀ q ∈ wr, q.1 < H.size ∧ ¬ va_A wc H.size q.1 := by
    intro q hq
    have hl := (va_P_mem.mp hP q (List.mem_append_right _ hq)).lt
    refine ⟨hl, ?_⟩
    rintro (⟨k, e, h⟩ | h)
    · have h1 := (va_D_mem.mp hD).1
      rw [List.map_append] at h1
      exact (List.nodup_append.mp h1).2.2 q.1 (List.mem_map.mpr ⟨(q.1, e), List.mem_of_getElem? h, rfl⟩) q.1 (List.mem_map.mpr ⟨q, hq, rfl⟩) rfl
    · omega
  refine ⟨va_P_mem.mpr fun q hq => ?_, va_D_mem.mpr ⟨?_, fun q hq => ?_⟩⟩
  · rcases List.mem_append.mp hq with h | h
    · exact va_P_mem.mp hP1 q h
    · exact (va_P_mem.mp hP q (List.mem_append_right _ h)).kept (hk q.1 (apart q h).1 (apart q h).2)
  · rw [List.map_append]
    refine List.nodup_append.mpr ⟨(va_D_mem.mp hD1).1, (va_D_mem.mp hD.right).1, fun x hx y hy e => ?_⟩
    obtain ⟨q1, h1, rfl⟩ := List.mem_map.mp hx
    obtain ⟨q2, h2, rfl⟩ := List.mem_map.mp hy
    exact (apart q2 h2).2 (e ▸ (va_D_mem.mp hD1).2 q1 h1)
  · rcases List.mem_append.mp hq with h | h
    · exact hF _ ((va_D_mem.mp hD1).2 q h)
    · exact (va_D_mem.mp hD).2 q (List.mem_append_right _ h)
end FRA
section FRB
/-! contracts with a determined answer -/
abbrev GG : Type := va_G × (ClassId × (ClassId × ClassId))
abbrev tyL (g : GG) : List (ClassId × FieldType) := [(g.2.1, .int), (g.2.2.1, .object "BarredRungs$State")]
def nstW : List Cond := [.methodLinkNest RX5 25 yX3_init "BarredRungs", .methodLinkNest RX5 32 yX4_init "BarredRungs", .methodLinkNest RX5 39 yX1_init "BarredRungs", .methodLinkNest RX2 98 yX5_has "BarredRungs", .methodLinkNest RX1 25 yX5_has "BarredRungs", .methodLinkNest RX2 115 yX5_isClimber "BarredRungs", .methodLinkNest RX4 34 yX5_has "BarredRungs", .methodLinkNest RX4 53 yX5_lowest "BarredRungs"]
def Nst (U : State) : Prop := ∀ w ∈ nstW, va_Nw w U
theorem nst_tab : ∀ w ∈ nstW, w.onTables = true := by decide +kernel
theorem Nst.same {u U : State} (h : u.vm = U.vm) (hN : Nst u) : Nst U := fun w hw => va_Nw.same (nst_tab w hw) h (hN w hw)
theorem Nst.warm {s U : State} (hW : s.WarmedH U.vm) (hN : Nst s) : Nst U := by
  intro w hw
  have h := hN w hw
  simp only [nstW, List.mem_cons, List.not_mem_nil, or_false] at hw
  rcases hw with rfl | rfl | rfl | rfl | rfl | rfl | rfl | rfl <;> exact va_Nw.warmM hW h
def Pg (g : GG) (av : List Value) (w : va_W) (sz : Nat) : Array Value → State → Prop := va_Pc av (fun U => U.heap.size = sz ∧ va_P g.1 vwCl w U.heap ∧ va_K g.1 vwCl (tyL g) U ∧ va_D (fun _ => True) w ∧ Nst U)
def Bg (g : GG) (w w' : va_W) (sz : Nat) : State → Prop := fun t => va_P g.1 vwCl w' t.heap ∧ va_D (va_A w sz) w'
def Qg (rv : Option Value) (B : State → Prop) (A : Nat → Prop) : Array Value → State → Outcome → State → Prop := fun _ st oc t => (oc = .returned rv ∧ B t) ∧ va_F A st t
/-- called with av over the world w, the method returns rv and leaves the world w'; no cell is new -/
def Cg (l : Launch) (g : GG) (y : MethodName) (ws : List Cond) (rm : Room) (av : List Value) (w : va_W) (rv : Option Value) (w' : va_W) : Prop :=
  ∀ sz : Nat, Met l y ws rm (Pg g av w sz) (Qg rv (Bg g w w' sz) (va_A w sz)) 0 0 (va_A w sz)
theorem Pg_blind (g : GG) (av : List Value) (w : va_W) (sz : Nat) : FrameBlind (Pg g av w sz) := fun a U gg mk q => by
  obtain ⟨q0, q1, qP, qK, qD, qN⟩ := q
  exact ⟨q0, q1, qP, va_K.moved (u := U) (U := U.calling gg mk a) (Vm.Alike.refl U.vm) qK, qD, Nst.same (u := U) (U := U.calling gg mk a) rfl qN⟩
def RetOK (cc : ByteArray) (pc : Nat) (st : List Value) (rv : Option Value) (ret : Option FieldType) : Prop :=
  (∃ (v : Int32) (ty : FieldType), st = [.int v] ∧ rv = some (.int v) ∧ decode cc pc = .ok (.ireturn, 1) ∧ ret = some ty ∧ narrow ty (.int v) = .int v) ∨
  (∃ v : Int64, st = [.long v] ∧ rv = some (.long v) ∧ decode cc pc = .ok (.lreturn, 1) ∧ ret = some .long) ∨
  (∃ v : UInt32, st = [.float v] ∧ rv = some (.float v) ∧ decode cc pc = .ok (.freturn, 1) ∧ ret = some .float) ∨
  (∃ v : UInt64, st = [.double v] ∧ rv = some (.double v) ∧ decode cc pc = .ok (.dreturn, 1) ∧ ret = some .double) ∨
  (st = [] ∧ rv = none ∧ decode cc pc = .ok (.return_, 1) ∧ ret = none)
theorem RetOK.i {cc : ByteArray} {pc : Nat} {v : Int32} (h : decode cc pc = .ok (.ireturn, 1)) : RetOK cc pc [.int v] (some (.int v)) (some .int) := Or.inl ⟨v, .int, rfl, rfl, h, rfl, rfl⟩
theorem RetOK.z {cc : ByteArray} {pc : Nat} {v : Int32} (h : decode cc pc = .ok (.ireturn, 1)) (hv : v = 0 ∨ v = 1) : RetOK cc pc [.int v] (some (.int v)) (some .boolean) := Or.inl ⟨v, .boolean, rfl, rfl, h, rfl, by rcases hv with rfl | rfl <;> decide⟩
theorem RetOK.l {cc : ByteArray} {pc : Nat} {v : Int64} (h : decode cc pc = .ok (.lreturn, 1)) : RetOK cc pc [.long v] (some (.long v)) (some .long) := Or.inr (Or.inl ⟨v, rfl, rfl, h, rfl⟩)
theorem RetOK.f {cc : ByteArray} {pc : Nat} {v : UInt32} (h : decode cc pc = .ok (.freturn, 1)) : RetOK cc pc [.float v] (some (.float v)) (some .float) := Or.inr (Or.inr (Or.inl ⟨v, rfl, rfl, h, rfl⟩))
theorem RetOK.d {cc : ByteArray} {pc : Nat} {v : UInt64} (h : decode cc pc = .ok (.dreturn, 1)) : RetOK cc pc [.double v] (some (.double v)) (some .double) := Or.inr (Or.inr (Or.inr (Or.inl ⟨v, rfl, rfl, h, rfl⟩)))
theorem RetOK.v {cc : ByteArray} {pc : Nat} (h : decode cc pc = .ok (.return_, 1)) : RetOK cc pc [] none none := Or.inr (Or.inr (Or.inr (Or.inr ⟨rfl, rfl, h, rfl⟩)))
theorem ret_end {p : Program} {l : Launch} {e : Env} {R : Room} {s : State} {m : MethodId} {args : Array Value} {below : List Frame} {meth : Method} {c : Code} {H : Heap} {locs : List Loc} {cells slots : Nat} {cc : ByteArray} {pc : Nat} {ls : Array Slot} {st : List Value} {rv : Option Value} {ret : Option FieldType} {Qc : Array Value → State → Outcome → State → Prop} {free : Addr → Prop} (hx : p.tables.exec = Jvm.exec) (hb : c.code = cc) (hr : meth.sig.returnType = ret) (hlocks : meth.locks = false)
    (hq : ∀ t : State, t.heap = H → s.WarmedH t.vm → Qc args s (.returned rv) t) (hf : ∀ q ∈ locs, free q.base) (hR : RetOK cc pc st rv ret) : W p l e R s m args below meth c H locs cells slots (MQ below Qc args s cells slots free) (F0 m pc ls st) := by
  rcases hR with ⟨v, ty, rfl, rfl, hd, hret, hn⟩ | ⟨v, rfl, rfl, hd, hret⟩ | ⟨v, rfl, rfl, hd, hret⟩ | ⟨v, rfl, rfl, hd, hret⟩ | ⟨rfl, rfl, hd, hret⟩
  · exact W.zret hx hb (hr.trans hret) hn hq hf hd
  · exact W.lret hx hb (hr.trans hret) hq hf hd
  · exact W.fret hx hb (hr.trans hret) hq hf hd
  · exact W.dret hx hb (hr.trans hret) hq hf hd
  · exact W.vret hx hb (hr.trans hret) hq hf hd
theorem Met.ofWF {l : Launch} {y : MethodName} {ws ws' : List Cond} {rm : Room} {Pc : Array Value → State → Prop} {Qc : Array Value → State → Outcome → State → Prop} {mc ms : Nat} {free : Addr → Prop} {cc : ByteArray} {maxL : Nat} {ret : Option FieldType}
    (hy : plainFor y = true) (hw : ws = Cond.code y cc maxL ret :: ws')
    (body : ∀ p e s m args below meth c s₁, BodyLoose p l y (headSpec ws rm) cc maxL ret e s m args below meth c s₁ → c.maxLocals = maxL → Pc args s →
      W p l e (headSpec ws rm).room s m args below meth c s.heap [] 0 0 (MQ below Qc args s mc ms free) (entryFrame m args maxL)) : Met l y ws rm Pc Qc mc ms free := by
  refine MetFree.of_bodySF (code := cc) (maxLocals := maxL) (ret := ret) hy ?_ ?_
  · intro args s m h hn
    obtain ⟨meth, c, h1, h2, h3, h4, h5, h6, -, -⟩ := Cond.code_spec hn (atoms_spec (ws := ws) h _ (by rw [hw]; exact List.mem_cons_self))
    exact ⟨meth, c, h1, h2, h3, h4, h5, h6⟩
  · intro p e s m args below meth c s₁ B hml hP _
    have hh0 : s₁.heap = s.heap := by rw [B.state]; rfl
    obtain ⟨t, a1, o, b1, b2, b3⟩ := body p e s m args below meth c s₁ B hml hP s₁ hh0 (Stand.of_body B)
    exact ⟨t, o, a1, b1, b2, ⟨b3.1, b3.2⟩⟩
/-- a method's body, walked from its first instruction with any end Q -/
theorem Cg_of {l : Launch} {g : GG} {y : MethodName} {ws ws' : List Cond} {rm : Room} {av : List Value} {w : va_W} {rv : Option Value} {w' : va_W} {cc : ByteArray} {maxL : Nat} {ret : Option FieldType}
    (hy : plainFor y = true) (hw : ws = Cond.code y cc maxL ret :: ws') (hn : (lg_sl av).length ≤ maxL)
    (body : ∀ (p : Program) (e : Env) (s : State) (m : MethodId) (args : Array Value) (below : List Frame) (meth : Method) (c : Code) (A : Nat → Prop) (Q : State → Prop) (ls : Array Slot),
      p.tables.exec = Jvm.exec → c.code = cc → c.maxLocals = maxL → s.vm.findClass y.cls = some m.cls → (∀ w ∈ ws, w.before args s = true) → va_K g.1 vwCl (tyL g) s → Nst s → (∀ q : Nat, s.heap.size ≤ q → A q) → meth.name = y.name →
      va_P g.1 vwCl w s.heap → va_D A w → va_S A s.heap s.heap [] → lv_has ls maxL (lv_args 0 av) →
      (∀ (H : Heap) (locs : List Loc) (pc : Nat) (ls1 : Array Slot) (st : List Value), va_P g.1 vwCl w' H → va_D A w' → va_S A s.heap H locs → RetOK cc pc st rv ret → W p l e rm s m args below meth c H locs 0 0 Q (F0 m pc ls1 st)) →
      W p l e rm s m args below meth c s.heap [] 0 0 Q (F0 m 0 ls [])) : Cg l g y ws rm av w rv w' := by
  intro sz
  refine Met.ofWF (cc := cc) (maxL := maxL) (ret := ret) hy hw ?_
  intro p e s m args below meth c s₁ B hml hv
  obtain ⟨rfl, hsz, hP, hK, hD0, hN⟩ := hv
  have hx := B.exec
  have hb := B.bytes
  have hr := B.returns
  have hts := atoms_spec (ws := ws) B.pre
  have hown : s.vm.findClass y.cls = some m.cls := findClass_of_methodNamed B.named
  have hlocks := B.notSynchronized
  have hnm : meth.name = y.name := (name_of_methodNamed B.named B.method).1
  subst hsz
  have hD := hD0.self (sz := s.heap.size)
  have hl := lv_entry av (n := maxL) hn
  rw [lg_entry_eq]
  exact body p e s m _ below meth c (va_A w s.heap.size) _ _ hx hb hml hown hts hK hN (fun q h => Or.inr h) hnm hP hD va_S.rf hl
    (fun H locs pc ls1 st hP hD hS hR => ret_end hx hb hr hlocks (fun t ht hW => ⟨⟨rfl, by rw [ht]; exact hP, hD⟩, hS.F ht⟩) hS.2.2 hR)
section CALL
variable {p : Program} {l : Launch} {e : Env} {R : Room} {s : State} {m : MethodId} {args : Array Value} {below : List Frame} {meth : Method} {c : Code} {H : Heap} {locs : List Loc} {cells slots : Nat} {Q : State → Prop}
variable {g : GG} {A : Nat → Prop} {pc : Nat} {ls : Array Slot} {rest st0 st1 : List Value} {rv : Option Value} {av : List Value}
abbrev Rung (p : Program) (l : Launch) (e : Env) (R : Room) (s : State) (m : MethodId) (args : Array Value) (below : List Frame) (meth : Method) (c : Code) (H : Heap) (locs : List Loc) (cells slots : Nat) (fr : JFrame) (rest : List Value) (g : GG) (av : List Value) (wc : va_W) (rv : Option Value) (wc' : va_W) : Prop :=
  va_Run p l e R s m args below meth c H locs cells slots 0 0 fr rest (Qg rv (Bg g wc wc' H.size) (va_A wc H.size) av.toArray) (va_A wc H.size)
theorem aft (hs1 : rv.toList ++ rest = st1) {wc wc' : va_W} (hr : Rung p l e R s m args below meth c H locs cells slots (F0 m pc ls st0) rest g av wc rv wc') (hS : va_S A s.heap H locs) (hf : ∀ q, va_A wc H.size q → A q)
    (kk : ∀ (H1 : Heap) (locs1 : List Loc), va_P g.1 vwCl wc' H1 → va_D (va_A wc H.size) wc' → (∀ q : Nat, q < H.size → ¬ va_A wc H.size q → H1[q]? = H[q]?) → va_S A s.heap H1 locs1 → W p l e R s m args below meth c H1 locs1 cells slots Q (F0 m (pc + 3) ls st1)) : W p l e R s m args below meth c H locs cells slots Q (F0 m pc ls st0) := by
  intro T hT X
  obtain ⟨v, st₀, t, T', L, h0, X', hL, e1, e2, ⟨⟨hv, hp, hd9⟩, hz, hk⟩, st⟩ := hr T hT X
  cases hv
  rw [h0] at hz hk
  obtain ⟨t2, a1, b1⟩ := kk T'.heap (locs ++ L) (by rw [e1]; exact hp) hd9 (fun q h1 h2 => by rw [e1]; exact hk q h1 h2)
    ⟨Nat.le_trans hS.1 (by rw [e1]; exact hz), fun q h1 h2 => by rw [e1, hk q (Nat.lt_of_lt_of_le h1 hS.1) (fun z => h2 (hf q z))]; exact hS.2.1 q h1 h2, fun q hq => by
      rcases List.mem_append.mp hq with h | h
      · exact hS.2.2 q h
      · exact hf _ (hL q h)⟩ T' rfl X'
  subst hs1
  exact ⟨t2, st t2 a1, b1⟩
/-- the callee's world is the whole of it -/
theorem aft_w (hs1 : rv.toList ++ rest = st1) {wc wc' : va_W} (hr : Rung p l e R s m args below meth c H locs cells slots (F0 m pc ls st0) rest g av wc rv wc') (hD : va_D A wc) (hS : va_S A s.heap H locs) (hA : ∀ q : Nat, s.heap.size ≤ q → A q)
    (kk : ∀ (H1 : Heap) (locs1 : List Loc), va_P g.1 vwCl wc' H1 → va_D A wc' → va_S A s.heap H1 locs1 → W p l e R s m args below meth c H1 locs1 cells slots Q (F0 m (pc + 3) ls st1)) : W p l e R s m args below meth c H locs cells slots Q (F0 m pc ls st0) :=
  aft hs1 hr hS (fr_free hD hS hA) fun H1 locs1 hP1 hD1 _ hS1 => kk H1 locs1 hP1 (hD1.weaken fun _ q _ h => fr_free hD hS hA q.1 h) hS1
/-- the callee has no world -/
theorem aft_e (hs1 : rv.toList ++ rest = st1) {ws : va_W} (hr : Rung p l e R s m args below meth c H locs cells slots (F0 m pc ls st0) rest g av [] rv []) (hP : va_P g.1 vwCl ws H) (hS : va_S A s.heap H locs) (hA : ∀ q : Nat, s.heap.size ≤ q → A q)
    (kk : ∀ (H1 : Heap) (locs1 : List Loc), va_P g.1 vwCl ws H1 → va_S A s.heap H1 locs1 → W p l e R s m args below meth c H1 locs1 cells slots Q (F0 m (pc + 3) ls st1)) : W p l e R s m args below meth c H locs cells slots Q (F0 m pc ls st0) := by
  have hD0 : va_D A [] := ⟨fun i j x y h => by simp at h, fun k q h => by simp at h⟩
  refine aft hs1 hr hS (fr_free hD0 hS hA) fun H1 locs1 _ _ hk hS1 => kk H1 locs1 (hP.kept fun k q hq => hk q.1 (hP k q hq).lt ?_) hS1
  rintro (⟨k2, e2, h⟩ | h)
  · simp at h
  · have := (hP k q hq).lt; omega
/-- the callee's world is a part of it, the rest stays -/
theorem aft_p (hs1 : rv.toList ++ rest = st1) {wc wc' wr ws ws' : va_W} (hp : ws.Perm (wc ++ wr)) (hp' : (wc' ++ wr).Perm ws') (hr : Rung p l e R s m args below meth c H locs cells slots (F0 m pc ls st0) rest g av wc rv wc') (hP : va_P g.1 vwCl ws H) (hD : va_D A ws) (hS : va_S A s.heap H locs) (hA : ∀ q : Nat, s.heap.size ≤ q → A q)
    (kk : ∀ (H1 : Heap) (locs1 : List Loc), va_P g.1 vwCl ws' H1 → va_D A ws' → va_S A s.heap H1 locs1 → W p l e R s m args below meth c H1 locs1 cells slots Q (F0 m (pc + 3) ls st1)) : W p l e R s m args below meth c H locs cells slots Q (F0 m pc ls st0) := by
  have hD2 := hD.perm hp
  have hf := fr_free hD2.left hS hA
  refine aft hs1 hr hS hf fun H1 locs1 hP1 hD1 hk hS1 => ?_
  obtain ⟨a, b⟩ := fr_join (hP.perm hp) hD2 hk hf hP1 hD1
  exact kk H1 locs1 (a.perm hp') (b.perm hp') hS1
/-- .. as it lies between two others -/
theorem aft_f (hs1 : rv.toList ++ rest = st1) (w1 w2 : va_W) {wc wc' : va_W} (hr : Rung p l e R s m args below meth c H locs cells slots (F0 m pc ls st0) rest g av wc rv wc') (hP : va_P g.1 vwCl (w1 ++ (wc ++ w2)) H) (hD : va_D A (w1 ++ (wc ++ w2))) (hS : va_S A s.heap H locs) (hA : ∀ q : Nat, s.heap.size ≤ q → A q)
    (kk : ∀ (H1 : Heap) (locs1 : List Loc), va_P g.1 vwCl (w1 ++ (wc' ++ w2)) H1 → va_D A (w1 ++ (wc' ++ w2)) → va_S A s.heap H1 locs1 → W p l e R s m args below meth c H1 locs1 cells slots Q (F0 m (pc + 3) ls st1)) : W p l e R s m args below meth c H locs cells slots Q (F0 m pc ls st0) := by
  have key : ∀ x : va_W, (w1 ++ (x ++ w2)).Perm (x ++ (w2 ++ w1)) := fun x => by
    rw [← List.append_assoc x w2 w1]
    exact List.perm_append_comm
  exact aft_p hs1 (key wc) (key wc').symm hr hP hD hS hA kk
/-- the callee's world is two parts of it -/
theorem aft_2 (hs1 : rv.toList ++ rest = st1) (w1 w2 w3 : va_W) {wa wb wa' wb' : va_W} (hr : Rung p l e R s m args below meth c H locs cells slots (F0 m pc ls st0) rest g av (wa ++ wb) rv (wa' ++ wb')) (hP : va_P g.1 vwCl (w1 ++ (wa ++ (w2 ++ (wb ++ w3)))) H) (hD : va_D A (w1 ++ (wa ++ (w2 ++ (wb ++ w3))))) (hS : va_S A s.heap H locs) (hA : ∀ q : Nat, s.heap.size ≤ q → A q)
    (kk : ∀ (H1 : Heap) (locs1 : List Loc), va_P g.1 vwCl (w1 ++ (wa' ++ (w2 ++ (wb' ++ w3)))) H1 → va_D A (w1 ++ (wa' ++ (w2 ++ (wb' ++ w3)))) → va_S A s.heap H1 locs1 → W p l e R s m args below meth c H1 locs1 cells slots Q (F0 m (pc + 3) ls st1)) : W p l e R s m args below meth c H locs cells slots Q (F0 m pc ls st0) := by
  have key : ∀ x y : va_W, (w1 ++ (x ++ (w2 ++ (y ++ w3)))).Perm ((x ++ y) ++ (w2 ++ (w3 ++ w1))) := fun x y => by
    have h1 : (w1 ++ (x ++ (w2 ++ (y ++ w3)))).Perm ((x ++ (w2 ++ (y ++ w3))) ++ w1) := List.perm_append_comm
    refine h1.trans ?_
    rw [List.append_assoc, List.append_assoc, List.append_assoc, List.append_assoc]
    refine List.Perm.append_left x ?_
    have h2 : (w2 ++ (y ++ (w3 ++ w1))).Perm ((y ++ (w3 ++ w1)) ++ w2) := List.perm_append_comm
    refine h2.trans ?_
    rw [List.append_assoc]
    exact List.Perm.append_left y List.perm_append_comm
  exact aft_p hs1 (key wa wb) (key wa' wb').symm hr hP hD hS hA kk
variable {y : MethodName} {bytes cc : ByteArray} {maxL nL n index : Nat} {ret : Option FieldType} {ws : List Cond} {rm : Room} {Ts : List Cond} {own C host : String} {b : Addr} {As : List Value} {wc wc' : va_W}
theorem Pg_pre (hK : va_K g.1 vwCl (tyL g) s) (hN : Nst s) (hP : va_P g.1 vwCl wc H) (hD : va_D A wc) (U : State) (hU : U.heap = H) (hW : s.WarmedH U.vm) : Pg g av wc H.size av.toArray U :=
  ⟨rfl, by rw [hU], by rw [hU]; exact hP, va_K.moved hW.alike hK, hD.weaken (fun _ _ _ _ => trivial), hN.warm hW⟩
theorem runV (S : CallFix p m c cc nL s args Ts own) (hC : Cg l g y ws rm (.ref b :: As) wc rv wc') (cw : CallW R s args own C index y bytes maxL ret ws rm 0 0 n) (hK : va_K g.1 vwCl (tyL g) s) (hN : Nst s) (hP : va_P g.1 vwCl wc H) (hD : va_D A wc)
    (hrec : ∃ cell : Cell, H[b]? = some cell ∧ cell.vm.isStatics = false ∧ s.vm.findClass C = some cell.cls) (hn : As.length = n) (hsize : ls.size = nL) (hst : st0 = As.reverse ++ .ref b :: rest) (hW : (rest.map fun v => v.category).sum ≤ 8) (hdg : decode cc pc = .ok (.invokevirtual index, 3)) (hf : cells ≤ R.cells ∧ slots ≤ R.slots) : Rung p l e R s m args below meth c H locs cells slots (F0 m pc ls st0) rest g (.ref b :: As) wc rv wc' :=
  va_runV (As := As) (rest := rest) S (hC H.size) cw ⟨Pg_blind _ _ _ _, hrec, fun U hU hW => Pg_pre hK hN hP hD U hU hW⟩ rfl hn hsize hst (lv_room hW) hdg hf
theorem runS (S : CallFix p m c cc nL s args Ts own) (hC : Cg l g y ws rm As wc rv wc') (cw : CallB R s args own index y bytes maxL ret ws rm 0 0 n ∧ (Cond.static y).before args s = true) (hK : va_K g.1 vwCl (tyL g) s) (hN : Nst s) (hP : va_P g.1 vwCl wc H) (hD : va_D A wc)
    (hn : As.length = n) (hsize : ls.size = nL) (hst : st0 = As.reverse ++ rest) (hW : (rest.map fun v => v.category).sum ≤ 8) (hdg : decode cc pc = .ok (.invokestatic index, 3)) (hf : cells ≤ R.cells ∧ slots ≤ R.slots) : Rung p l e R s m args below meth c H locs cells slots (F0 m pc ls st0) rest g As wc rv wc' :=
  va_runS (As := As) (rest := rest) S (hC H.size) cw ⟨Pg_blind _ _ _ _, fun U hU hW => Pg_pre hK hN hP hD U hU hW⟩ rfl hn hsize hst (lv_room hW) hdg hf
theorem runSN (S : CallFix p m c cc nL s args Ts own) (hC : Cg l g y ws rm As wc rv wc') (cw : va_CN R s args own index y host bytes maxL ret ws rm 0 0 n ∧ (Cond.static y).before args s = true ∧ True) (hK : va_K g.1 vwCl (tyL g) s) (hN : Nst s) (hP : va_P g.1 vwCl wc H) (hD : va_D A wc)
    (hn : As.length = n) (hsize : ls.size = nL) (hst : st0 = As.reverse ++ rest) (hW : (rest.map fun v => v.category).sum ≤ 8) (hdg : decode cc pc = .ok (.invokestatic index, 3)) (hf : cells ≤ R.cells ∧ slots ≤ R.slots) : Rung p l e R s m args below meth c H locs cells slots (F0 m pc ls st0) rest g As wc rv wc' :=
  va_runSN (As := As) (rest := rest) S (hC H.size) cw ⟨Pg_blind _ _ _ _, fun U hU hW => Pg_pre hK hN hP hD U hU hW⟩ rfl hn hsize hst (lv_room hW) hdg hf
theorem nilP {D : va_G} {cl : List vw_C} : va_P D cl [] H := fun k q h => by simp at h
theorem nilD : va_D A [] := ⟨fun i j x y h => by simp at h, fun k q h => by simp at h⟩
theorem lv_eqi {x z : Int32} (h : x = z) (k : W p l e R s m args below meth c H locs cells slots Q (F0 m pc ls (.int z :: rest))) : W p l e R s m args below meth c H locs cells slots Q (F0 m pc ls (.int x :: rest)) := h ▸ k
theorem lv_eql {x z : Int64} (h : x = z) (k : W p l e R s m args below meth c H locs cells slots Q (F0 m pc ls (.long z :: rest))) : W p l e R s m args below meth c H locs cells slots Q (F0 m pc ls (.long x :: rest)) := h ▸ k
theorem lv_eqf {x z : UInt32} (h : x = z) (k : W p l e R s m args below meth c H locs cells slots Q (F0 m pc ls (.float z :: rest))) : W p l e R s m args below meth c H locs cells slots Q (F0 m pc ls (.float x :: rest)) := h ▸ k
theorem lv_eqd {x z : UInt64} (h : x = z) (k : W p l e R s m args below meth c H locs cells slots Q (F0 m pc ls (.double z :: rest))) : W p l e R s m args below meth c H locs cells slots Q (F0 m pc ls (.double x :: rest)) := h ▸ k
theorem va_D.two {w1 wa w2 wb w3 : va_W} (h : va_D A (w1 ++ (wa ++ (w2 ++ (wb ++ w3))))) : va_D A (wa ++ wb) := by
  have h1 := h.right
  have h2 : va_D A ((wa ++ wb) ++ (w2 ++ w3)) := h1.perm (by
    rw [List.append_assoc]
    refine List.Perm.append_left wa ?_
    have h3 : (w2 ++ (wb ++ w3)).Perm ((wb ++ w3) ++ w2) := List.perm_append_comm
    refine h3.trans ?_
    rw [List.append_assoc]
    exact List.Perm.append_left wb List.perm_append_comm)
  exact h2.left
end CALL
section CELLS
variable {p : Program} {l : Launch} {e : Env} {R : Room} {s : State} {m : MethodId} {args : Array Value} {below : List Frame} {meth : Method} {c : Code} {H : Heap} {locs : List Loc} {cells slots : Nat} {Q : State → Prop}
variable {A : Nat → Prop} {pc : Nat} {ls : Array Slot} {rest : List Value} {cc : ByteArray}
theorem va_P.cell {D : va_G} {cl : List vw_C} {ws : va_W} {k a n : Nat} {ci : ClassId} {f1 f2 : Nat → Int32} (h : va_P D cl (ws.set k (a, .inl (ci, n, .inl f1))) H) (e : ∀ i, i < n → f1 i = f2 i) : va_P D cl (ws.set k (a, .inl (ci, n, .inl f2))) H := by
  have hc : vp_cell ci (n, .inl f1) = vp_cell ci (n, .inl f2) := by
    have : (fun j : Fin n => Value.int (f1 j.val)) = fun j : Fin n => Value.int (f2 j.val) := funext fun j => by rw [e j.val j.isLt]
    simp only [vp_cell, arrV, this]
  intro j q hq
  by_cases hj : j = k
  · subst hj
    have hl : j < ws.length := by
      have := (List.getElem?_eq_some_iff.mp hq).1
      rwa [List.length_set] at this
    rw [List.getElem?_set_self hl] at hq
    cases hq
    have h1 := h j _ (List.getElem?_set_self hl)
    show H[a]? = some (vp_cell ci (n, .inl f2))
    rw [← hc]
    exact h1
  · rw [List.getElem?_set_ne (Ne.symm hj)] at hq
    exact h j q (by rw [List.getElem?_set_ne (Ne.symm hj)]; exact hq)
theorem va_D.cell {ws : va_W} {k a : Nat} {e1 e2 : va_E} (h : va_D A (ws.set k (a, e1))) : va_D A (ws.set k (a, e2)) := by
  have key : (ws.set k (a, e2)).map Prod.fst = (ws.set k (a, e1)).map Prod.fst := by rw [List.map_set, List.map_set]
  obtain ⟨h1, h2⟩ := va_D_mem.mp h
  refine va_D_mem.mpr ⟨by rw [key]; exact h1, fun q hq => ?_⟩
  have h3 : q.1 ∈ (ws.set k (a, e1)).map Prod.fst := by rw [← key]; exact List.mem_map.mpr ⟨q, hq, rfl⟩
  obtain ⟨q2, h4, h5⟩ := List.mem_map.mp h3
  rw [← h5]
  exact h2 q2 h4
theorem va_copyAll (hexec : p.tables.exec = Jvm.exec) (hb : c.code = cc) (hml : c.maxLocals = ls.size) {own : String} {index : Nat} (hown : s.vm.findClass own = some m.cls) (hlink : (Cond.methodLink own index arraycopyName).before args s = true) (hnat : (Cond.native arraycopyName).before args s = true) (hstat : (Cond.static arraycopyName).before args s = true) (hini : (Cond.initialized "java/lang/System").before args s = true)
    {D : va_G} {cl : List vw_C} {tys : List (ClassId × FieldType)} {ws : va_W} {H0 : Heap} (hK : va_K D cl tys s) (hP : va_P D cl ws H) (hD : va_D A ws) (hS : va_S A H0 H locs) (q0 q1 t0 : Nat) {a a0 : Nat} {c0 c1 : ClassId} {N : Nat} {f gg : Nat → Int32} (ha0 : ws[q0]? = some (a0, .inl (c0, N, .inl f))) (ha1 : ws[q1]? = some (a, .inl (c1, N, .inl gg))) (ht0 : tys[t0]? = some (c0, .int)) (ht1 : tys[t0]? = some (c1, .int))
    {n : Int32} (h3 : ¬ n < 0) (hn : n.toNatClampNeg = N) (hframes : 1 ≤ R.frames) (hlocals : (rest.map fun v => v.category).sum + (nativeFrameWords "java/lang/System" "arraycopy" 5 + 11) ≤ R.locals) (hdg : decode cc pc = .ok (.invokestatic index, 3))
    (kk : ∀ (H1 : Heap) (locs1 : List Loc), va_P D cl (ws.set q1 (a, .inl (c1, N, .inl f))) H1 → va_D A (ws.set q1 (a, .inl (c1, N, .inl f))) → va_S A H0 H1 locs1 → W p l e R s m args below meth c H1 locs1 cells slots Q (F0 m (pc + 3) ls rest)) : W p l e R s m args below meth c H locs cells slots Q (F0 m pc ls (.int n :: .int 0 :: .ref a :: .int 0 :: .ref a0 :: rest)) := by
  have z0 : (0 : Int32).toNatClampNeg = 0 := rfl
  refine va_copyi hexec hb hml hown hlink hnat hstat hini hK hP hD hS q0 q1 t0 t0 ha0 ha1 ht0 ht1 rfl (by decide) (by decide) h3 (by rw [z0, hn]; omega) (by rw [z0, hn]; omega) (fun i _ => rfl) hframes hlocals hdg (fun H1 locs1 hP1 hD1 hS1 => kk H1 locs1 (hP1.cell fun i hi => ?_) hD1.cell hS1)
  rw [z0, hn, va_cpy, if_pos ⟨Nat.zero_le _, by omega⟩, Nat.zero_add, Nat.sub_zero]
theorem va_ldcwF {T : State} (X : Stand p l e R s m args below meth c T locs cells slots) (hexec : p.tables.exec = Jvm.exec) {own : String} {index : Nat} {v : UInt32} (hown : s.vm.findClass own = some m.cls)
    (hconst : (Cond.constantFloat own index v).before args s = true) {g : JFrame} (hg : g.method = m) (hdg : decode c.code g.pc = .ok (.ldc_w index, 3)) :
    ∀ target, Steps p.tables e below (T.setTop { g with pc := g.pc + 3, stack := .float v :: g.stack }) target → Steps p.tables e below (T.setTop g) target := by
  obtain ⟨k, cf, hk, hcf, hcp⟩ := Cond.constantFloat_spec hown hconst
  obtain ⟨k', hk', he⟩ := X.warmed.alike.2.2 _ _ hk
  intro target hrest
  subst hg
  jvm_step X.here [hexec, hdg, ldc_w.wp_float (s := T) (f := g) X.here.top hk' (by rw [he]; exact hcf) hcp]
  exact hrest
theorem lv_ldcwf (hexec : p.tables.exec = Jvm.exec) (hb : c.code = cc) {own : String} {index : Nat} {v : UInt32} (hown : s.vm.findClass own = some m.cls) (hconst : (Cond.constantFloat own index v).before args s = true) (hdg : decode cc pc = .ok (.ldc_w index, 3)) (k : W p l e R s m args below meth c H locs cells slots Q (F0 m (pc + 3) ls (.float v :: rest))) : W p l e R s m args below meth c H locs cells slots Q (F0 m pc ls rest) := by
  intro T hT X
  obtain ⟨t, a, b⟩ := k T hT X
  exact ⟨t, va_ldcwF X hexec hown hconst (g := F0 m pc ls rest) rfl (by rw [hb]; exact hdg) t a, b⟩
end CELLS
end FRB
