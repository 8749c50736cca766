section HI
def updS (sv : Nat → (Nat → Nat) × St) (k : Nat) (x : (Nat → Nat) × St) : Nat → (Nat → Nat) × St := fun i => if i = k then x else sv i
def rotS (sv : Nat → (Nat → Nat) × St) : Nat → (Nat → Nat) × St := fun i => if i = 5 then sv 0 else sv (i + 1)
theorem pmid {α : Type} (a x b : List α) : (a ++ (x ++ b)).Perm (x ++ (a ++ b)) := by
  rw [← List.append_assoc, ← List.append_assoc]
  exact List.Perm.append_right b List.perm_append_comm
theorem pmid2 {α : Type} (x y : α) (a b : List α) : (x :: y :: (a ++ b)).Perm (a ++ (x :: y :: b)) := pmid [x, y] a b
theorem pool_split (g : GG) (sv : Nat → (Nat → Nat) × St) {k : Nat} (hk : k < 6) : ∃ wr : va_W, ∀ x : (Nat → Nat) × St, (poolS g (updS sv k x)).Perm (cSt g x.1 x.2 ++ wr) := by
  have c : k = 0 ∨ k = 1 ∨ k = 2 ∨ k = 3 ∨ k = 4 ∨ k = 5 := by omega
  rcases c with rfl | rfl | rfl | rfl | rfl | rfl
  · refine ⟨(cSt g (sv 1).1 (sv 1).2 ++ (cSt g (sv 2).1 (sv 2).2 ++ (cSt g (sv 3).1 (sv 3).2 ++ (cSt g (sv 4).1 (sv 4).2 ++ cSt g (sv 5).1 (sv 5).2)))), fun x => ?_⟩
    show ((cSt g x.1 x.2 ++ (cSt g (sv 1).1 (sv 1).2 ++ (cSt g (sv 2).1 (sv 2).2 ++ (cSt g (sv 3).1 (sv 3).2 ++ (cSt g (sv 4).1 (sv 4).2 ++ cSt g (sv 5).1 (sv 5).2)))))).Perm (cSt g x.1 x.2 ++ (cSt g (sv 1).1 (sv 1).2 ++ (cSt g (sv 2).1 (sv 2).2 ++ (cSt g (sv 3).1 (sv 3).2 ++ (cSt g (sv 4).1 (sv 4).2 ++ cSt g (sv 5).1 (sv 5).2)))))
    exact List.Perm.refl _
  · refine ⟨(cSt g (sv 0).1 (sv 0).2 ++ (cSt g (sv 2).1 (sv 2).2 ++ (cSt g (sv 3).1 (sv 3).2 ++ (cSt g (sv 4).1 (sv 4).2 ++ cSt g (sv 5).1 (sv 5).2)))), fun x => ?_⟩
    show ((cSt g (sv 0).1 (sv 0).2 ++ (cSt g x.1 x.2 ++ (cSt g (sv 2).1 (sv 2).2 ++ (cSt g (sv 3).1 (sv 3).2 ++ (cSt g (sv 4).1 (sv 4).2 ++ cSt g (sv 5).1 (sv 5).2)))))).Perm (cSt g x.1 x.2 ++ (cSt g (sv 0).1 (sv 0).2 ++ (cSt g (sv 2).1 (sv 2).2 ++ (cSt g (sv 3).1 (sv 3).2 ++ (cSt g (sv 4).1 (sv 4).2 ++ cSt g (sv 5).1 (sv 5).2)))))
    exact pmid _ _ _
  · refine ⟨(cSt g (sv 0).1 (sv 0).2 ++ (cSt g (sv 1).1 (sv 1).2 ++ (cSt g (sv 3).1 (sv 3).2 ++ (cSt g (sv 4).1 (sv 4).2 ++ cSt g (sv 5).1 (sv 5).2)))), fun x => ?_⟩
    show ((cSt g (sv 0).1 (sv 0).2 ++ (cSt g (sv 1).1 (sv 1).2 ++ (cSt g x.1 x.2 ++ (cSt g (sv 3).1 (sv 3).2 ++ (cSt g (sv 4).1 (sv 4).2 ++ cSt g (sv 5).1 (sv 5).2)))))).Perm (cSt g x.1 x.2 ++ (cSt g (sv 0).1 (sv 0).2 ++ (cSt g (sv 1).1 (sv 1).2 ++ (cSt g (sv 3).1 (sv 3).2 ++ (cSt g (sv 4).1 (sv 4).2 ++ cSt g (sv 5).1 (sv 5).2)))))
    exact (List.Perm.append_left _ (pmid _ _ _)).trans (pmid _ _ _)
  · refine ⟨(cSt g (sv 0).1 (sv 0).2 ++ (cSt g (sv 1).1 (sv 1).2 ++ (cSt g (sv 2).1 (sv 2).2 ++ (cSt g (sv 4).1 (sv 4).2 ++ cSt g (sv 5).1 (sv 5).2)))), fun x => ?_⟩
    show ((cSt g (sv 0).1 (sv 0).2 ++ (cSt g (sv 1).1 (sv 1).2 ++ (cSt g (sv 2).1 (sv 2).2 ++ (cSt g x.1 x.2 ++ (cSt g (sv 4).1 (sv 4).2 ++ cSt g (sv 5).1 (sv 5).2)))))).Perm (cSt g x.1 x.2 ++ (cSt g (sv 0).1 (sv 0).2 ++ (cSt g (sv 1).1 (sv 1).2 ++ (cSt g (sv 2).1 (sv 2).2 ++ (cSt g (sv 4).1 (sv 4).2 ++ cSt g (sv 5).1 (sv 5).2)))))
    exact (List.Perm.append_left _ ((List.Perm.append_left _ (pmid _ _ _)).trans (pmid _ _ _))).trans (pmid _ _ _)
  · refine ⟨(cSt g (sv 0).1 (sv 0).2 ++ (cSt g (sv 1).1 (sv 1).2 ++ (cSt g (sv 2).1 (sv 2).2 ++ (cSt g (sv 3).1 (sv 3).2 ++ cSt g (sv 5).1 (sv 5).2)))), fun x => ?_⟩
    show ((cSt g (sv 0).1 (sv 0).2 ++ (cSt g (sv 1).1 (sv 1).2 ++ (cSt g (sv 2).1 (sv 2).2 ++ (cSt g (sv 3).1 (sv 3).2 ++ (cSt g x.1 x.2 ++ cSt g (sv 5).1 (sv 5).2)))))).Perm (cSt g x.1 x.2 ++ (cSt g (sv 0).1 (sv 0).2 ++ (cSt g (sv 1).1 (sv 1).2 ++ (cSt g (sv 2).1 (sv 2).2 ++ (cSt g (sv 3).1 (sv 3).2 ++ cSt g (sv 5).1 (sv 5).2)))))
    exact (List.Perm.append_left _ ((List.Perm.append_left _ ((List.Perm.append_left _ (pmid _ _ _)).trans (pmid _ _ _))).trans (pmid _ _ _))).trans (pmid _ _ _)
  · refine ⟨(cSt g (sv 0).1 (sv 0).2 ++ (cSt g (sv 1).1 (sv 1).2 ++ (cSt g (sv 2).1 (sv 2).2 ++ (cSt g (sv 3).1 (sv 3).2 ++ cSt g (sv 4).1 (sv 4).2)))), fun x => ?_⟩
    show ((cSt g (sv 0).1 (sv 0).2 ++ (cSt g (sv 1).1 (sv 1).2 ++ (cSt g (sv 2).1 (sv 2).2 ++ (cSt g (sv 3).1 (sv 3).2 ++ (cSt g (sv 4).1 (sv 4).2 ++ cSt g x.1 x.2)))))).Perm (cSt g x.1 x.2 ++ (cSt g (sv 0).1 (sv 0).2 ++ (cSt g (sv 1).1 (sv 1).2 ++ (cSt g (sv 2).1 (sv 2).2 ++ (cSt g (sv 3).1 (sv 3).2 ++ cSt g (sv 4).1 (sv 4).2)))))
    exact (List.Perm.append_left _ ((List.Perm.append_left _ ((List.Perm.append_left _ ((List.Perm.append_left _ (List.perm_append_comm)).trans (pmid _ _ _))).trans (pmid _ _ _))).trans (pmid _ _ _))).trans (pmid _ _ _)
theorem updS_self (sv : Nat → (Nat → Nat) × St) (k : Nat) : updS sv k (sv k) = sv := funext fun i => by
  by_cases h : i = k
  · subst h; simp [updS]
  · simp [updS, h]
theorem cHi_split (g : GG) (b d : Nat → Nat) (hi : Hi) {k : Nat} (hk : k < 6) : ∃ R0 : va_W, (cHi g b d hi).Perm (cSt g (Hi_sv hi k).1 (Hi_sv hi k).2 ++ R0) ∧ ∀ s' : St, (cSt g (Hi_sv hi k).1 s' ++ R0).Perm (cHi g b d (Hi_set_sv hi (updS (Hi_sv hi) k ((Hi_sv hi k).1, s')))) := by
  obtain ⟨wr, hw⟩ := pool_split g (Hi_sv hi) hk
  have key : ∀ s' : St, (cHi g b d (Hi_set_sv hi (updS (Hi_sv hi) k ((Hi_sv hi k).1, s')))).Perm (cSt g (Hi_sv hi k).1 s' ++ ((b 0, .inr (0, [.ref (b 1), .ref (d 0), .int (Hi_size hi), .int (Hi_hasSnapshot hi)])) :: (b 1, .inl (g.2.2.1, 6, .inr (.inr (.inr (.inr (fun i => some ((Hi_sv hi i).1 0))))))) :: (cSt g d (Hi_sn hi) ++ wr))) := by
    intro s'
    have e1 : (fun i => some ((updS (Hi_sv hi) k ((Hi_sv hi k).1, s') i).1 0)) = fun i => some ((Hi_sv hi i).1 0) := funext fun i => by
      by_cases h : i = k
      · subst h; simp [updS]
      · simp [updS, h]
    show (((b 0, .inr (0, [.ref (b 1), .ref (d 0), .int (Hi_size hi), .int (Hi_hasSnapshot hi)])) :: (b 1, .inl (g.2.2.1, 6, .inr (.inr (.inr (.inr (fun i => some ((updS (Hi_sv hi) k ((Hi_sv hi k).1, s') i).1 0))))))) :: (cSt g d (Hi_sn hi) ++ poolS g (updS (Hi_sv hi) k ((Hi_sv hi k).1, s')))) : va_W).Perm _
    rw [e1]
    have h1 := (List.Perm.append_left (cSt g d (Hi_sn hi)) (hw ((Hi_sv hi k).1, s'))).trans (pmid _ _ _)
    exact ((h1.cons _).cons _).trans (pmid2 _ _ _ _)
  refine ⟨_, ?_, fun s' => (key s').symm⟩
  have h2 := key (Hi_sv hi k).2
  rw [show ((Hi_sv hi k).1, (Hi_sv hi k).2) = Hi_sv hi k from rfl, updS_self] at h2
  exact h2
section HJ
variable {p : Program} {l : Launch} {e : Env} {R : Room} {s : State} {m : MethodId} {args : Array Value} {below : List Frame} {meth : Method} {c : Code} {H : Heap} {locs : List Loc} {cells slots : Nat} {Q : State → Prop} {pc : Nat} {ls : Array Slot} {rest : List Value}
theorem lv_eqv {v v2 : Value} (h : v = v2) (k : W p l e R s m args below meth c H locs cells slots Q (F0 m pc ls (v2 :: rest))) : W p l e R s m args below meth c H locs cells slots Q (F0 m pc ls (v :: rest)) := h ▸ k
theorem va_P.cellR {D : va_G} {cl : List vw_C} {x : Nat × va_E} {w : va_W} {q n : Nat} {ci : ClassId} {f1 f2 : Nat → Option Nat} (h : va_P D cl (x :: (q, .inl (ci, n, .inr (.inr (.inr (.inr f1))))) :: w) H) (e : ∀ i, i < n → f1 i = f2 i) : va_P D cl (x :: (q, .inl (ci, n, .inr (.inr (.inr (.inr f2))))) :: w) H := by
  have hc : vp_cell ci (n, .inr (.inr (.inr (.inr f1)))) = vp_cell ci (n, .inr (.inr (.inr (.inr f2)))) := by
    have : (fun j : Fin n => va_rf (f1 j.val)) = fun j : Fin n => va_rf (f2 j.val) := funext fun j => by rw [e j.val j.isLt]
    simp only [vp_cell, arrV, this]
  refine va_P_mem.mpr fun y hy => ?_
  rcases List.mem_cons.mp hy with rfl | hy
  · exact va_P_mem.mp h _ List.mem_cons_self
  · rcases List.mem_cons.mp hy with rfl | hy
    · have h1 := va_P_mem.mp h _ (List.mem_cons_of_mem _ List.mem_cons_self)
      show H[q]? = some (vp_cell ci (n, .inr (.inr (.inr (.inr f2)))))
      rw [← hc]
      exact h1
    · exact va_P_mem.mp h _ (List.mem_cons_of_mem _ (List.mem_cons_of_mem _ hy))
theorem va_D.addr {A : Nat → Prop} {w w' : va_W} (e : w.map Prod.fst = w'.map Prod.fst) (h : va_D A w) : va_D A w' := by
  obtain ⟨h1, h2⟩ := va_D_mem.mp h
  refine va_D_mem.mpr ⟨e ▸ h1, fun q hq => ?_⟩
  have h3 : q.1 ∈ w.map Prod.fst := by rw [e]; exact List.mem_map.mpr ⟨q, hq, rfl⟩
  obtain ⟨q2, h4, h5⟩ := List.mem_map.mp h3
  rw [← h5]
  exact h2 q2 h4
end HJ
def fX0_dropOldest (hi : Hi) : Option Hi := some (Hi_set_size (Hi_set_sv hi (rotS (Hi_sv hi))) 5)
def hi_full (hi : Hi) : Hi := if (6 : Int32) ≤ Hi_size hi then Hi_set_size (Hi_set_sv hi (rotS (Hi_sv hi))) 5 else hi
def hi_push (st : St) (hi : Hi) : Hi := if Hi_size hi < 0 then hi else if (6 : Int32) ≤ Hi_size hi then hi else Hi_set_size (Hi_set_sv hi (updS (Hi_sv hi) (Hi_size hi).toNatClampNeg ((Hi_sv hi (Hi_size hi).toNatClampNeg).1, st))) (Hi_size hi + 1)
def fX0_save (st : St) (hi : Hi) : Option Hi := some (hi_push st (hi_full hi))
def fX0_restoreLatest (st : St) (hi : Hi) : Option (St × Hi) := some (if Hi_size hi ≤ 0 then (st, hi) else if (6 : Int32) < Hi_size hi then (st, hi) else ((Hi_sv hi (Hi_size hi - 1).toNatClampNeg).2, Hi_set_size hi (Hi_size hi - 1)))
theorem copyFrom_all (st so : St) : fX2_copyFrom st so = some so := by
  obtain ⟨a0, a1, a2, a3, a4, a5, a6, a7, a8, a9, a10, a11, a12, a13, a14, a15, a16⟩ := so
  obtain ⟨b0, b1, b2, b3, b4, b5, b6, b7, b8, b9, b10, b11, b12, b13, b14, b15, b16⟩ := st
  simp only [fX2_copyFrom, pl, St_codes, St_set_codes, St_links, St_set_links, St_under, St_set_under, St_beginnings, St_set_beginnings, St_ends, St_set_ends, St_went, St_set_went, St_steps, St_set_steps, St_ladders, St_set_ladders, St_falls, St_set_falls, St_words, St_set_words, St_place, St_set_place, St_letter, St_set_letter, St_letterStep, St_set_letterStep, St_nearness, St_set_nearness, St_turns, St_set_turns, St_climbs, St_set_climbs, St_ladderClimbs, St_set_ladderClimbs]
abbrev rX0_dropOldest : Room := { frames := 0, cells := 0, slots := 0, locals := 0 }
theorem hdX0_dropOldest : yX0_dropOldest.cls = RX0 ∧ yX0_dropOldest.cls ≠ "java/lang/invoke/MethodHandle" ∧ yX0_dropOldest.cls ≠ "java/lang/invoke/VarHandle" ∧ (parseMethodDescriptor yX0_dropOldest.desc).map (fun d => d.parameters.length) = some 0 := by decide +kernel
abbrev rX0_save : Room := { frames := 2, cells := 0, slots := 0, locals := 81 }
theorem hdX0_save : yX0_save.cls = RX0 ∧ yX0_save.cls ≠ "java/lang/invoke/MethodHandle" ∧ yX0_save.cls ≠ "java/lang/invoke/VarHandle" ∧ (parseMethodDescriptor yX0_save.desc).map (fun d => d.parameters.length) = some 1 := by decide +kernel
abbrev rX0_restoreLatest : Room := { frames := 2, cells := 0, slots := 0, locals := 81 }
theorem hdX0_restoreLatest : yX0_restoreLatest.cls = RX0 ∧ yX0_restoreLatest.cls ≠ "java/lang/invoke/MethodHandle" ∧ yX0_restoreLatest.cls ≠ "java/lang/invoke/VarHandle" ∧ (parseMethodDescriptor yX0_restoreLatest.desc).map (fun d => d.parameters.length) = some 1 := by decide +kernel
set_option maxRecDepth 100000 in
set_option maxHeartbeats 8000000 in
theorem kX0_dropOldest (l : Launch) (g : GG) (b d : Nat → Nat) {hi hi' : Hi} (h : fX0_dropOldest hi = some hi') : Cg l g yX0_dropOldest wsX0_dropOldest rX0_dropOldest [.ref (b 0)] (cHi g b d hi) none (cHi g b d hi') := by
  cases some_i (show some (Hi_set_size (Hi_set_sv hi (rotS (Hi_sv hi))) 5) = some hi' from h)
  refine Cg_of (cc := cX0_dropOldest) (maxL := 3) (ret := none) (by decide +kernel) rfl (Nat.le_of_ble_eq_true rfl) ?_
  intro p e su m args below meth c A Q ls hx hb hml hown hts hK hN hA hnm hP hD hS hl hend
  have hinX0 : ∀ w ∈ u_ws RX0 TX0 4, w ∈ wsX0_dropOldest := fun _ h9 => List.mem_cons_of_mem _ (List.mem_append_right _ h9)
  have hl : lv_has ls 3 [(0, .ref (b 0))] := hl
  have hP : va_P g.1 vwCl ((b 0, .inr (0, [.ref (b 1), .ref (d 0), .int (Hi_size hi), .int (Hi_hasSnapshot hi)])) :: (b 1, .inl (g.2.2.1, 6, .inr (.inr (.inr (.inr (fun i => some ((Hi_sv hi i).1 0))))))) :: (cSt g d (Hi_sn hi) ++ poolS g (Hi_sv hi))) su.heap := hP
  have hD : va_D A ((b 0, .inr (0, [.ref (b 1), .ref (d 0), .int (Hi_size hi), .int (Hi_hasSnapshot hi)])) :: (b 1, .inl (g.2.2.1, 6, .inr (.inr (.inr (.inr (fun i => some ((Hi_sv hi i).1 0))))))) :: (cSt g d (Hi_sn hi) ++ poolS g (Hi_sv hi))) := hD
  refine lv_aload_n hx hb dX0_dropOldest_0 rfl (lv_at hl 0 rfl) ?_
  refine va_get (D := g.1) (ci := 0) (v := .ref (b 1)) (C := RX0) (T := TX0) (N := 4) hx hb hts hinX0 hown hK hP 0 rfl rfl 0 (by decide) (hts (.fieldLink RX0 11 "BarredRungs$History" "saved" "[LBarredRungs$State;") (List.mem_of_getElem? (i := 1) rfl)) (fun _ h9 => h9) rfl dX0_dropOldest_1 ?_
  refine lv_iconst (v := 0) hx hb dX0_dropOldest_4 (by decide) ?_
  refine va_aldq hx hb hK hP 1 1 rfl rfl (inb_in (i := 0) (n := 6) (by decide)) dX0_dropOldest_5 ?_
  refine lv_eqv (v2 := .ref ((Hi_sv hi 0).1 0)) rfl ?_
  refine lv_astore_n (lv' := [(1, .ref ((Hi_sv hi 0).1 0)), (0, .ref (b 0))]) hx hb dX0_dropOldest_6 rfl hl (by decide) rfl (fun ls hl => ?_)
  refine lv_iconst (v := 1) hx hb dX0_dropOldest_7 (by decide) ?_
  refine lv_istore_n (lv' := [(2, .int 1), (1, .ref ((Hi_sv hi 0).1 0)), (0, .ref (b 0))]) hx hb dX0_dropOldest_8 rfl hl (by decide) rfl (fun ls hl => ?_)
  refine lv_iload_n hx hb dX0_dropOldest_9 rfl (lv_at hl 0 rfl) ?_
  refine lv_bipush (v := 6) hx hb dX0_dropOldest_10 (by decide) ?_
  refine lv_icmp_ge (tgt := 35) hx hb dX0_dropOldest_12 (by decide) (fun c9 => absurd c9 (by decide)) (fun _ => ?_)
  refine lv_aload_n hx hb dX0_dropOldest_15 rfl (lv_at hl 2 rfl) ?_
  refine va_get (D := g.1) (ci := 0) (v := .ref (b 1)) (C := RX0) (T := TX0) (N := 4) hx hb hts hinX0 hown hK hP 0 rfl rfl 0 (by decide) (hts (.fieldLink RX0 11 "BarredRungs$History" "saved" "[LBarredRungs$State;") (List.mem_of_getElem? (i := 1) rfl)) (fun _ h9 => h9) rfl dX0_dropOldest_16 ?_
  refine lv_iload_n hx hb dX0_dropOldest_19 rfl (lv_at hl 0 rfl) ?_
  refine lv_iconst (v := 1) hx hb dX0_dropOldest_20 (by decide) ?_
  refine lv_isub hx hb dX0_dropOldest_21 ?_
  refine lv_eqi (z := 0) (by decide) ?_
  refine lv_aload_n hx hb dX0_dropOldest_22 rfl (lv_at hl 2 rfl) ?_
  refine va_get (D := g.1) (ci := 0) (v := .ref (b 1)) (C := RX0) (T := TX0) (N := 4) hx hb hts hinX0 hown hK hP 0 rfl rfl 0 (by decide) (hts (.fieldLink RX0 11 "BarredRungs$History" "saved" "[LBarredRungs$State;") (List.mem_of_getElem? (i := 1) rfl)) (fun _ h9 => h9) rfl dX0_dropOldest_23 ?_
  refine lv_iload_n hx hb dX0_dropOldest_26 rfl (lv_at hl 0 rfl) ?_
  refine va_aldq hx hb hK hP 1 1 rfl rfl (inb_in (i := 1) (n := 6) (by decide)) dX0_dropOldest_27 ?_
  refine lv_eqv (v2 := .ref ((Hi_sv hi 1).1 0)) rfl ?_
  refine va_astq hx hb hK hP hD hS 1 1 22 2 rfl rfl rfl rfl (inb_in (i := 0) (n := 6) (by decide)) dX0_dropOldest_28 (fun H locs hP hD hS => ?_)
  have hP : va_P g.1 vwCl ((b 0, .inr (0, [.ref (b 1), .ref (d 0), .int (Hi_size hi), .int (Hi_hasSnapshot hi)])) :: (b 1, .inl (g.2.2.1, 6, .inr (.inr (.inr (.inr (va_up (fun i => some ((Hi_sv hi i).1 0)) 0 (some ((Hi_sv hi 1).1 0)))))))) :: (cSt g d (Hi_sn hi) ++ poolS g (Hi_sv hi))) H := hP
  have hD : va_D A ((b 0, .inr (0, [.ref (b 1), .ref (d 0), .int (Hi_size hi), .int (Hi_hasSnapshot hi)])) :: (b 1, .inl (g.2.2.1, 6, .inr (.inr (.inr (.inr (va_up (fun i => some ((Hi_sv hi i).1 0)) 0 (some ((Hi_sv hi 1).1 0)))))))) :: (cSt g d (Hi_sn hi) ++ poolS g (Hi_sv hi))) := hD
  refine lv_iinc (v := 2) (lv' := [(2, .int 2), (1, .ref ((Hi_sv hi 0).1 0)), (0, .ref (b 0))]) hx hb dX0_dropOldest_29 hl (k := 0) rfl (by decide) (by decide) rfl (fun ls hl => ?_)
  refine lv_goto (tgt := 9) hx hb dX0_dropOldest_32 (by decide) ?_
  refine lv_iload_n hx hb dX0_dropOldest_9 rfl (lv_at hl 0 rfl) ?_
  refine lv_bipush (v := 6) hx hb dX0_dropOldest_10 (by decide) ?_
  refine lv_icmp_ge (tgt := 35) hx hb dX0_dropOldest_12 (by decide) (fun c9 => absurd c9 (by decide)) (fun _ => ?_)
  refine lv_aload_n hx hb dX0_dropOldest_15 rfl (lv_at hl 2 rfl) ?_
  refine va_get (D := g.1) (ci := 0) (v := .ref (b 1)) (C := RX0) (T := TX0) (N := 4) hx hb hts hinX0 hown hK hP 0 rfl rfl 0 (by decide) (hts (.fieldLink RX0 11 "BarredRungs$History" "saved" "[LBarredRungs$State;") (List.mem_of_getElem? (i := 1) rfl)) (fun _ h9 => h9) rfl dX0_dropOldest_16 ?_
  refine lv_iload_n hx hb dX0_dropOldest_19 rfl (lv_at hl 0 rfl) ?_
  refine lv_iconst (v := 1) hx hb dX0_dropOldest_20 (by decide) ?_
  refine lv_isub hx hb dX0_dropOldest_21 ?_
  refine lv_eqi (z := 1) (by decide) ?_
  refine lv_aload_n hx hb dX0_dropOldest_22 rfl (lv_at hl 2 rfl) ?_
  refine va_get (D := g.1) (ci := 0) (v := .ref (b 1)) (C := RX0) (T := TX0) (N := 4) hx hb hts hinX0 hown hK hP 0 rfl rfl 0 (by decide) (hts (.fieldLink RX0 11 "BarredRungs$History" "saved" "[LBarredRungs$State;") (List.mem_of_getElem? (i := 1) rfl)) (fun _ h9 => h9) rfl dX0_dropOldest_23 ?_
  refine lv_iload_n hx hb dX0_dropOldest_26 rfl (lv_at hl 0 rfl) ?_
  refine va_aldq hx hb hK hP 1 1 rfl rfl (inb_in (i := 2) (n := 6) (by decide)) dX0_dropOldest_27 ?_
  refine lv_eqv (v2 := .ref ((Hi_sv hi 2).1 0)) rfl ?_
  refine va_astq hx hb hK hP hD hS 1 1 32 2 rfl rfl rfl rfl (inb_in (i := 1) (n := 6) (by decide)) dX0_dropOldest_28 (fun H locs hP hD hS => ?_)
  have hP : va_P g.1 vwCl ((b 0, .inr (0, [.ref (b 1), .ref (d 0), .int (Hi_size hi), .int (Hi_hasSnapshot hi)])) :: (b 1, .inl (g.2.2.1, 6, .inr (.inr (.inr (.inr (va_up (va_up (fun i => some ((Hi_sv hi i).1 0)) 0 (some ((Hi_sv hi 1).1 0))) 1 (some ((Hi_sv hi 2).1 0)))))))) :: (cSt g d (Hi_sn hi) ++ poolS g (Hi_sv hi))) H := hP
  have hD : va_D A ((b 0, .inr (0, [.ref (b 1), .ref (d 0), .int (Hi_size hi), .int (Hi_hasSnapshot hi)])) :: (b 1, .inl (g.2.2.1, 6, .inr (.inr (.inr (.inr (va_up (va_up (fun i => some ((Hi_sv hi i).1 0)) 0 (some ((Hi_sv hi 1).1 0))) 1 (some ((Hi_sv hi 2).1 0)))))))) :: (cSt g d (Hi_sn hi) ++ poolS g (Hi_sv hi))) := hD
  refine lv_iinc (v := 3) (lv' := [(2, .int 3), (1, .ref ((Hi_sv hi 0).1 0)), (0, .ref (b 0))]) hx hb dX0_dropOldest_29 hl (k := 0) rfl (by decide) (by decide) rfl (fun ls hl => ?_)
  refine lv_goto (tgt := 9) hx hb dX0_dropOldest_32 (by decide) ?_
  refine lv_iload_n hx hb dX0_dropOldest_9 rfl (lv_at hl 0 rfl) ?_
  refine lv_bipush (v := 6) hx hb dX0_dropOldest_10 (by decide) ?_
  refine lv_icmp_ge (tgt := 35) hx hb dX0_dropOldest_12 (by decide) (fun c9 => absurd c9 (by decide)) (fun _ => ?_)
  refine lv_aload_n hx hb dX0_dropOldest_15 rfl (lv_at hl 2 rfl) ?_
  refine va_get (D := g.1) (ci := 0) (v := .ref (b 1)) (C := RX0) (T := TX0) (N := 4) hx hb hts hinX0 hown hK hP 0 rfl rfl 0 (by decide) (hts (.fieldLink RX0 11 "BarredRungs$History" "saved" "[LBarredRungs$State;") (List.mem_of_getElem? (i := 1) rfl)) (fun _ h9 => h9) rfl dX0_dropOldest_16 ?_
  refine lv_iload_n hx hb dX0_dropOldest_19 rfl (lv_at hl 0 rfl) ?_
  refine lv_iconst (v := 1) hx hb dX0_dropOldest_20 (by decide) ?_
  refine lv_isub hx hb dX0_dropOldest_21 ?_
  refine lv_eqi (z := 2) (by decide) ?_
  refine lv_aload_n hx hb dX0_dropOldest_22 rfl (lv_at hl 2 rfl) ?_
  refine va_get (D := g.1) (ci := 0) (v := .ref (b 1)) (C := RX0) (T := TX0) (N := 4) hx hb hts hinX0 hown hK hP 0 rfl rfl 0 (by decide) (hts (.fieldLink RX0 11 "BarredRungs$History" "saved" "[LBarredRungs$State;") (List.mem_of_getElem? (i := 1) rfl)) (fun _ h9 => h9) rfl dX0_dropOldest_23 ?_
  refine lv_iload_n hx hb dX0_dropOldest_26 rfl (lv_at hl 0 rfl) ?_
  refine va_aldq hx hb hK hP 1 1 rfl rfl (inb_in (i := 3) (n := 6) (by decide)) dX0_dropOldest_27 ?_
  refine lv_eqv (v2 := .ref ((Hi_sv hi 3).1 0)) rfl ?_
  refine va_astq hx hb hK hP hD hS 1 1 42 2 rfl rfl rfl rfl (inb_in (i := 2) (n := 6) (by decide)) dX0_dropOldest_28 (fun H locs hP hD hS => ?_)
  have hP : va_P g.1 vwCl ((b 0, .inr (0, [.ref (b 1), .ref (d 0), .int (Hi_size hi), .int (Hi_hasSnapshot hi)])) :: (b 1, .inl (g.2.2.1, 6, .inr (.inr (.inr (.inr (va_up (va_up (va_up (fun i => some ((Hi_sv hi i).1 0)) 0 (some ((Hi_sv hi 1).1 0))) 1 (some ((Hi_sv hi 2).1 0))) 2 (some ((Hi_sv hi 3).1 0)))))))) :: (cSt g d (Hi_sn hi) ++ poolS g (Hi_sv hi))) H := hP
  have hD : va_D A ((b 0, .inr (0, [.ref (b 1), .ref (d 0), .int (Hi_size hi), .int (Hi_hasSnapshot hi)])) :: (b 1, .inl (g.2.2.1, 6, .inr (.inr (.inr (.inr (va_up (va_up (va_up (fun i => some ((Hi_sv hi i).1 0)) 0 (some ((Hi_sv hi 1).1 0))) 1 (some ((Hi_sv hi 2).1 0))) 2 (some ((Hi_sv hi 3).1 0)))))))) :: (cSt g d (Hi_sn hi) ++ poolS g (Hi_sv hi))) := hD
  refine lv_iinc (v := 4) (lv' := [(2, .int 4), (1, .ref ((Hi_sv hi 0).1 0)), (0, .ref (b 0))]) hx hb dX0_dropOldest_29 hl (k := 0) rfl (by decide) (by decide) rfl (fun ls hl => ?_)
  refine lv_goto (tgt := 9) hx hb dX0_dropOldest_32 (by decide) ?_
  refine lv_iload_n hx hb dX0_dropOldest_9 rfl (lv_at hl 0 rfl) ?_
  refine lv_bipush (v := 6) hx hb dX0_dropOldest_10 (by decide) ?_
  refine lv_icmp_ge (tgt := 35) hx hb dX0_dropOldest_12 (by decide) (fun c9 => absurd c9 (by decide)) (fun _ => ?_)
  refine lv_aload_n hx hb dX0_dropOldest_15 rfl (lv_at hl 2 rfl) ?_
  refine va_get (D := g.1) (ci := 0) (v := .ref (b 1)) (C := RX0) (T := TX0) (N := 4) hx hb hts hinX0 hown hK hP 0 rfl rfl 0 (by decide) (hts (.fieldLink RX0 11 "BarredRungs$History" "saved" "[LBarredRungs$State;") (List.mem_of_getElem? (i := 1) rfl)) (fun _ h9 => h9) rfl dX0_dropOldest_16 ?_
  refine lv_iload_n hx hb dX0_dropOldest_19 rfl (lv_at hl 0 rfl) ?_
  refine lv_iconst (v := 1) hx hb dX0_dropOldest_20 (by decide) ?_
  refine lv_isub hx hb dX0_dropOldest_21 ?_
  refine lv_eqi (z := 3) (by decide) ?_
  refine lv_aload_n hx hb dX0_dropOldest_22 rfl (lv_at hl 2 rfl) ?_
  refine va_get (D := g.1) (ci := 0) (v := .ref (b 1)) (C := RX0) (T := TX0) (N := 4) hx hb hts hinX0 hown hK hP 0 rfl rfl 0 (by decide) (hts (.fieldLink RX0 11 "BarredRungs$History" "saved" "[LBarredRungs$State;") (List.mem_of_getElem? (i := 1) rfl)) (fun _ h9 => h9) rfl dX0_dropOldest_23 ?_
  refine lv_iload_n hx hb dX0_dropOldest_26 rfl (lv_at hl 0 rfl) ?_
  refine va_aldq hx hb hK hP 1 1 rfl rfl (inb_in (i := 4) (n := 6) (by decide)) dX0_dropOldest_27 ?_
  refine lv_eqv (v2 := .ref ((Hi_sv hi 4).1 0)) rfl ?_
  refine va_astq hx hb hK hP hD hS 1 1 52 2 rfl rfl rfl rfl (inb_in (i := 3) (n := 6) (by decide)) dX0_dropOldest_28 (fun H locs hP hD hS => ?_)
  have hP : va_P g.1 vwCl ((b 0, .inr (0, [.ref (b 1), .ref (d 0), .int (Hi_size hi), .int (Hi_hasSnapshot hi)])) :: (b 1, .inl (g.2.2.1, 6, .inr (.inr (.inr (.inr (va_up (va_up (va_up (va_up (fun i => some ((Hi_sv hi i).1 0)) 0 (some ((Hi_sv hi 1).1 0))) 1 (some ((Hi_sv hi 2).1 0))) 2 (some ((Hi_sv hi 3).1 0))) 3 (some ((Hi_sv hi 4).1 0)))))))) :: (cSt g d (Hi_sn hi) ++ poolS g (Hi_sv hi))) H := hP
  have hD : va_D A ((b 0, .inr (0, [.ref (b 1), .ref (d 0), .int (Hi_size hi), .int (Hi_hasSnapshot hi)])) :: (b 1, .inl (g.2.2.1, 6, .inr (.inr (.inr (.inr (va_up (va_up (va_up (va_up (fun i => some ((Hi_sv hi i).1 0)) 0 (some ((Hi_sv hi 1).1 0))) 1 (some ((Hi_sv hi 2).1 0))) 2 (some ((Hi_sv hi 3).1 0))) 3 (some ((Hi_sv hi 4).1 0)))))))) :: (cSt g d (Hi_sn hi) ++ poolS g (Hi_sv hi))) := hD
  refine lv_iinc (v := 5) (lv' := [(2, .int 5), (1, .ref ((Hi_sv hi 0).1 0)), (0, .ref (b 0))]) hx hb dX0_dropOldest_29 hl (k := 0) rfl (by decide) (by decide) rfl (fun ls hl => ?_)
  refine lv_goto (tgt := 9) hx hb dX0_dropOldest_32 (by decide) ?_
  refine lv_iload_n hx hb dX0_dropOldest_9 rfl (lv_at hl 0 rfl) ?_
  refine lv_bipush (v := 6) hx hb dX0_dropOldest_10 (by decide) ?_
  refine lv_icmp_ge (tgt := 35) hx hb dX0_dropOldest_12 (by decide) (fun c9 => absurd c9 (by decide)) (fun _ => ?_)
  refine lv_aload_n hx hb dX0_dropOldest_15 rfl (lv_at hl 2 rfl) ?_
  refine va_get (D := g.1) (ci := 0) (v := .ref (b 1)) (C := RX0) (T := TX0) (N := 4) hx hb hts hinX0 hown hK hP 0 rfl rfl 0 (by decide) (hts (.fieldLink RX0 11 "BarredRungs$History" "saved" "[LBarredRungs$State;") (List.mem_of_getElem? (i := 1) rfl)) (fun _ h9 => h9) rfl dX0_dropOldest_16 ?_
  refine lv_iload_n hx hb dX0_dropOldest_19 rfl (lv_at hl 0 rfl) ?_
  refine lv_iconst (v := 1) hx hb dX0_dropOldest_20 (by decide) ?_
  refine lv_isub hx hb dX0_dropOldest_21 ?_
  refine lv_eqi (z := 4) (by decide) ?_
  refine lv_aload_n hx hb dX0_dropOldest_22 rfl (lv_at hl 2 rfl) ?_
  refine va_get (D := g.1) (ci := 0) (v := .ref (b 1)) (C := RX0) (T := TX0) (N := 4) hx hb hts hinX0 hown hK hP 0 rfl rfl 0 (by decide) (hts (.fieldLink RX0 11 "BarredRungs$History" "saved" "[LBarredRungs$State;") (List.mem_of_getElem? (i := 1) rfl)) (fun _ h9 => h9) rfl dX0_dropOldest_23 ?_
  refine lv_iload_n hx hb dX0_dropOldest_26 rfl (lv_at hl 0 rfl) ?_
  refine va_aldq hx hb hK hP 1 1 rfl rfl (inb_in (i := 5) (n := 6) (by decide)) dX0_dropOldest_27 ?_
  refine lv_eqv (v2 := .ref ((Hi_sv hi 5).1 0)) rfl ?_
  refine va_astq hx hb hK hP hD hS 1 1 62 2 rfl rfl rfl rfl (inb_in (i := 4) (n := 6) (by decide)) dX0_dropOldest_28 (fun H locs hP hD hS => ?_)
  have hP : va_P g.1 vwCl ((b 0, .inr (0, [.ref (b 1), .ref (d 0), .int (Hi_size hi), .int (Hi_hasSnapshot hi)])) :: (b 1, .inl (g.2.2.1, 6, .inr (.inr (.inr (.inr (va_up (va_up (va_up (va_up (va_up (fun i => some ((Hi_sv hi i).1 0)) 0 (some ((Hi_sv hi 1).1 0))) 1 (some ((Hi_sv hi 2).1 0))) 2 (some ((Hi_sv hi 3).1 0))) 3 (some ((Hi_sv hi 4).1 0))) 4 (some ((Hi_sv hi 5).1 0)))))))) :: (cSt g d (Hi_sn hi) ++ poolS g (Hi_sv hi))) H := hP
  have hD : va_D A ((b 0, .inr (0, [.ref (b 1), .ref (d 0), .int (Hi_size hi), .int (Hi_hasSnapshot hi)])) :: (b 1, .inl (g.2.2.1, 6, .inr (.inr (.inr (.inr (va_up (va_up (va_up (va_up (va_up (fun i => some ((Hi_sv hi i).1 0)) 0 (some ((Hi_sv hi 1).1 0))) 1 (some ((Hi_sv hi 2).1 0))) 2 (some ((Hi_sv hi 3).1 0))) 3 (some ((Hi_sv hi 4).1 0))) 4 (some ((Hi_sv hi 5).1 0)))))))) :: (cSt g d (Hi_sn hi) ++ poolS g (Hi_sv hi))) := hD
  refine lv_iinc (v := 6) (lv' := [(2, .int 6), (1, .ref ((Hi_sv hi 0).1 0)), (0, .ref (b 0))]) hx hb dX0_dropOldest_29 hl (k := 0) rfl (by decide) (by decide) rfl (fun ls hl => ?_)
  refine lv_goto (tgt := 9) hx hb dX0_dropOldest_32 (by decide) ?_
  refine lv_iload_n hx hb dX0_dropOldest_9 rfl (lv_at hl 0 rfl) ?_
  refine lv_bipush (v := 6) hx hb dX0_dropOldest_10 (by decide) ?_
  refine lv_icmp_ge (tgt := 35) hx hb dX0_dropOldest_12 (by decide) (fun _ => ?_) (fun c9 => absurd (by decide) c9)
  refine lv_aload_n hx hb dX0_dropOldest_35 rfl (lv_at hl 2 rfl) ?_
  refine va_get (D := g.1) (ci := 0) (v := .ref (b 1)) (C := RX0) (T := TX0) (N := 4) hx hb hts hinX0 hown hK hP 0 rfl rfl 0 (by decide) (hts (.fieldLink RX0 11 "BarredRungs$History" "saved" "[LBarredRungs$State;") (List.mem_of_getElem? (i := 1) rfl)) (fun _ h9 => h9) rfl dX0_dropOldest_36 ?_
  refine lv_iconst (v := 5) hx hb dX0_dropOldest_39 (by decide) ?_
  refine lv_aload_n hx hb dX0_dropOldest_40 rfl (lv_at hl 1 rfl) ?_
  refine va_astq hx hb hK hP hD hS 1 1 12 2 rfl rfl rfl rfl (inb_in (i := 5) (n := 6) (by decide)) dX0_dropOldest_41 (fun H locs hP hD hS => ?_)
  have hP : va_P g.1 vwCl ((b 0, .inr (0, [.ref (b 1), .ref (d 0), .int (Hi_size hi), .int (Hi_hasSnapshot hi)])) :: (b 1, .inl (g.2.2.1, 6, .inr (.inr (.inr (.inr (va_up (va_up (va_up (va_up (va_up (va_up (fun i => some ((Hi_sv hi i).1 0)) 0 (some ((Hi_sv hi 1).1 0))) 1 (some ((Hi_sv hi 2).1 0))) 2 (some ((Hi_sv hi 3).1 0))) 3 (some ((Hi_sv hi 4).1 0))) 4 (some ((Hi_sv hi 5).1 0))) 5 (some ((Hi_sv hi 0).1 0)))))))) :: (cSt g d (Hi_sn hi) ++ poolS g (Hi_sv hi))) H := hP
  have hD : va_D A ((b 0, .inr (0, [.ref (b 1), .ref (d 0), .int (Hi_size hi), .int (Hi_hasSnapshot hi)])) :: (b 1, .inl (g.2.2.1, 6, .inr (.inr (.inr (.inr (va_up (va_up (va_up (va_up (va_up (va_up (fun i => some ((Hi_sv hi i).1 0)) 0 (some ((Hi_sv hi 1).1 0))) 1 (some ((Hi_sv hi 2).1 0))) 2 (some ((Hi_sv hi 3).1 0))) 3 (some ((Hi_sv hi 4).1 0))) 4 (some ((Hi_sv hi 5).1 0))) 5 (some ((Hi_sv hi 0).1 0)))))))) :: (cSt g d (Hi_sn hi) ++ poolS g (Hi_sv hi))) := hD
  refine lv_aload_n hx hb dX0_dropOldest_42 rfl (lv_at hl 2 rfl) ?_
  refine lv_iconst (v := 5) hx hb dX0_dropOldest_43 (by decide) ?_
  refine va_put (D := g.1) (ci := 0) (v := .int 5) (ty := .int) (C := RX0) (T := TX0) (N := 4) hx hb hts hinX0 tyX0 tyX0_ok nmX0 hown hK hP hD hS 0 rfl rfl 2 (by decide) (hts (.fieldLink RX0 22 "BarredRungs$History" "size" "I") (List.mem_of_getElem? (i := 2) rfl)) (fun _ h9 => h9) rfl (by decide +kernel) rfl rfl (Nat.le_of_ble_eq_true rfl) dX0_dropOldest_44 (fun H locs hP hD hS => ?_)
  have hP : va_P g.1 vwCl ((b 0, .inr (0, [.ref (b 1), .ref (d 0), .int 5, .int (Hi_hasSnapshot hi)])) :: (b 1, .inl (g.2.2.1, 6, .inr (.inr (.inr (.inr (va_up (va_up (va_up (va_up (va_up (va_up (fun i => some ((Hi_sv hi i).1 0)) 0 (some ((Hi_sv hi 1).1 0))) 1 (some ((Hi_sv hi 2).1 0))) 2 (some ((Hi_sv hi 3).1 0))) 3 (some ((Hi_sv hi 4).1 0))) 4 (some ((Hi_sv hi 5).1 0))) 5 (some ((Hi_sv hi 0).1 0)))))))) :: (cSt g d (Hi_sn hi) ++ poolS g (Hi_sv hi))) H := hP
  have hD : va_D A ((b 0, .inr (0, [.ref (b 1), .ref (d 0), .int 5, .int (Hi_hasSnapshot hi)])) :: (b 1, .inl (g.2.2.1, 6, .inr (.inr (.inr (.inr (va_up (va_up (va_up (va_up (va_up (va_up (fun i => some ((Hi_sv hi i).1 0)) 0 (some ((Hi_sv hi 1).1 0))) 1 (some ((Hi_sv hi 2).1 0))) 2 (some ((Hi_sv hi 3).1 0))) 3 (some ((Hi_sv hi 4).1 0))) 4 (some ((Hi_sv hi 5).1 0))) 5 (some ((Hi_sv hi 0).1 0)))))))) :: (cSt g d (Hi_sn hi) ++ poolS g (Hi_sv hi))) := hD
  have hF : ∀ i, i < 6 → (va_up (va_up (va_up (va_up (va_up (va_up (fun i => some ((Hi_sv hi i).1 0)) 0 (some ((Hi_sv hi 1).1 0))) 1 (some ((Hi_sv hi 2).1 0))) 2 (some ((Hi_sv hi 3).1 0))) 3 (some ((Hi_sv hi 4).1 0))) 4 (some ((Hi_sv hi 5).1 0))) 5 (some ((Hi_sv hi 0).1 0))) i = (fun i => some ((rotS (Hi_sv hi) i).1 0)) i := by
    intro i hi6
    have c : i = 0 ∨ i = 1 ∨ i = 2 ∨ i = 3 ∨ i = 4 ∨ i = 5 := by omega
    rcases c with rfl | rfl | rfl | rfl | rfl | rfl <;> rfl
  have hP := hP.cellR hF
  have hp : ((b 0, .inr (0, [.ref (b 1), .ref (d 0), .int 5, .int (Hi_hasSnapshot hi)])) :: (b 1, .inl (g.2.2.1, 6, .inr (.inr (.inr (.inr (fun i => some ((rotS (Hi_sv hi) i).1 0))))))) :: (cSt g d (Hi_sn hi) ++ poolS g (Hi_sv hi))).Perm (cHi g b d (Hi_set_size (Hi_set_sv hi (rotS (Hi_sv hi))) 5)) := by
    refine List.Perm.cons _ (List.Perm.cons _ (List.Perm.append_left _ ?_))
    refine List.perm_append_comm.trans ?_
    show ((cSt g (Hi_sv hi 1).1 (Hi_sv hi 1).2 ++ (cSt g (Hi_sv hi 2).1 (Hi_sv hi 2).2 ++ (cSt g (Hi_sv hi 3).1 (Hi_sv hi 3).2 ++ (cSt g (Hi_sv hi 4).1 (Hi_sv hi 4).2 ++ cSt g (Hi_sv hi 5).1 (Hi_sv hi 5).2)))) ++ cSt g (Hi_sv hi 0).1 (Hi_sv hi 0).2).Perm (cSt g (Hi_sv hi 1).1 (Hi_sv hi 1).2 ++ (cSt g (Hi_sv hi 2).1 (Hi_sv hi 2).2 ++ (cSt g (Hi_sv hi 3).1 (Hi_sv hi 3).2 ++ (cSt g (Hi_sv hi 4).1 (Hi_sv hi 4).2 ++ (cSt g (Hi_sv hi 5).1 (Hi_sv hi 5).2 ++ cSt g (Hi_sv hi 0).1 (Hi_sv hi 0).2)))))
    rw [List.append_assoc, List.append_assoc, List.append_assoc, List.append_assoc]
  have hD : va_D A ((b 0, .inr (0, [.ref (b 1), .ref (d 0), .int 5, .int (Hi_hasSnapshot hi)])) :: (b 1, .inl (g.2.2.1, 6, .inr (.inr (.inr (.inr (fun i => some ((rotS (Hi_sv hi) i).1 0))))))) :: (cSt g d (Hi_sn hi) ++ poolS g (Hi_sv hi))) := va_D.addr (by rfl) hD
  exact hend _ _ _ _ _ (hP.perm hp) (hD.perm hp) hS (RetOK.v dX0_dropOldest_47)
theorem cl_lt {x : Int32} {n : Nat} (h0 : ¬ x < 0) (h : x.toInt < n) : x.toNatClampNeg < n := by
  have h1 : (0 : Int) ≤ x.toInt := by
    have h2 := Int32.not_lt.mp h0
    rw [Int32.le_iff_toInt_le] at h2
    simpa using h2
  have : x.toNatClampNeg = x.toInt.toNat := rfl
  omega
set_option maxRecDepth 100000 in
set_option maxHeartbeats 8000000 in
theorem kX0_save (l : Launch) (g : GG) (a b d : Nat → Nat) {st : St} {hi : Hi} {hi' : Hi} (h : fX0_save st hi = some hi') : Cg l g yX0_save wsX0_save rX0_save [.ref (b 0), .ref (a 0)] (cSt g a st ++ cHi g b d hi) none (cSt g a st ++ cHi g b d hi') := by
  cases some_i (show some (hi_push st (hi_full hi)) = some hi' from h)
  refine Cg_of (cc := cX0_save) (maxL := 2) (ret := none) (by decide +kernel) rfl (Nat.le_of_ble_eq_true rfl) ?_
  intro p e su m args below meth c A Q ls hx hb hml hown hts hK hN hA hnm hP hD hS hl hend
  have hinX0 : ∀ w ∈ u_ws RX0 TX0 4, w ∈ wsX0_save := fun _ h9 => List.mem_cons_of_mem _ (List.mem_append_left _ (List.mem_append_right _ h9))
  have hl : lv_has ls 2 [(0, .ref (b 0)), (1, .ref (a 0))] := hl
  have rest : ∀ (h1 : Hi) (H : Heap) (locs : List Loc) (ls : Array Slot), hi_push st (hi_full hi) = hi_push st h1 → va_P g.1 vwCl (cSt g a st ++ cHi g b d h1) H → va_D A (cSt g a st ++ cHi g b d h1) → va_S A su.heap H locs → lv_has ls 2 [(0, .ref (b 0)), (1, .ref (a 0))] → W p l e rX0_save su m args below meth c H locs 0 0 Q (F0 m 13 ls []) := by
    intro h1 H locs ls e9 hP hD hS hl
    rw [e9] at hend
    have stay : hi_push st h1 = h1 → W p l e rX0_save su m args below meth c H locs 0 0 Q (F0 m 64 ls []) := fun e8 => by
      rw [e8] at hend
      exact hend _ _ _ _ _ hP hD hS (RetOK.v dX0_save_64)
    refine lv_aload_n hx hb dX0_save_13 rfl (lv_at hl 0 rfl) ?_
    refine va_get (D := g.1) (ci := 0) (v := .int (Hi_size h1)) (C := RX0) (T := TX0) (N := 4) hx hb hts hinX0 hown hK hP 10 rfl rfl 2 (by decide) (hts (.fieldLink RX0 22 "BarredRungs$History" "size" "I") (List.mem_of_getElem? (i := 1) rfl)) (fun _ h9 => h9) rfl dX0_save_14 ?_
    refine lv_if_lt (tgt := 64) hx hb dX0_save_17 (by decide) (fun c1 => stay (if_pos c1)) (fun c1 => ?_)
    refine lv_aload_n hx hb dX0_save_20 rfl (lv_at hl 0 rfl) ?_
    refine va_get (D := g.1) (ci := 0) (v := .int (Hi_size h1)) (C := RX0) (T := TX0) (N := 4) hx hb hts hinX0 hown hK hP 10 rfl rfl 2 (by decide) (hts (.fieldLink RX0 22 "BarredRungs$History" "size" "I") (List.mem_of_getElem? (i := 1) rfl)) (fun _ h9 => h9) rfl dX0_save_21 ?_
    refine lv_bipush (v := 6) hx hb dX0_save_24 (by decide) ?_
    refine lv_icmp_ge (tgt := 64) hx hb dX0_save_26 (by decide) (fun c2 => stay (by unfold hi_push; rw [if_neg c1, if_pos c2])) (fun c2 => ?_)
    have e7 : hi_push st h1 = Hi_set_size (Hi_set_sv h1 (updS (Hi_sv h1) (Hi_size h1).toNatClampNeg ((Hi_sv h1 (Hi_size h1).toNatClampNeg).1, st))) (Hi_size h1 + 1) := by unfold hi_push; rw [if_neg c1, if_neg c2]
    rw [e7] at hend
    have h6 : (Hi_size h1).toInt < 6 := by
      have := Int32.not_le.mp c2
      rw [Int32.lt_iff_toInt_lt] at this
      simpa using this
    have hk : (Hi_size h1).toNatClampNeg < 6 := cl_lt c1 h6
    have hin : vp_in (Hi_size h1) 6 := fun q => q.elim c1 (fun q => absurd hk (Nat.not_lt.mpr q))
    generalize hkk : (Hi_size h1).toNatClampNeg = k at hend hk
    obtain ⟨R0, p1, p2⟩ := cHi_split g b d h1 hk
    refine lv_aload_n hx hb dX0_save_29 rfl (lv_at hl 0 rfl) ?_
    refine va_get (D := g.1) (ci := 0) (v := .ref (b 1)) (C := RX0) (T := TX0) (N := 4) hx hb hts hinX0 hown hK hP 10 rfl rfl 0 (by decide) (hts (.fieldLink RX0 11 "BarredRungs$History" "saved" "[LBarredRungs$State;") (List.mem_of_getElem? (i := 2) rfl)) (fun _ h9 => h9) rfl dX0_save_30 ?_
    refine lv_aload_n hx hb dX0_save_33 rfl (lv_at hl 0 rfl) ?_
    refine va_get (D := g.1) (ci := 0) (v := .int (Hi_size h1)) (C := RX0) (T := TX0) (N := 4) hx hb hts hinX0 hown hK hP 10 rfl rfl 2 (by decide) (hts (.fieldLink RX0 22 "BarredRungs$History" "size" "I") (List.mem_of_getElem? (i := 1) rfl)) (fun _ h9 => h9) rfl dX0_save_34 ?_
    refine va_aldq hx hb hK hP 11 1 rfl rfl hin dX0_save_37 ?_
    refine lv_eqv (v2 := .ref ((Hi_sv h1 k).1 0)) (by rw [hkk]; rfl) ?_
    refine lv_ifnull hx hb dX0_save_38 ?_
    refine lv_aload_n hx hb dX0_save_41 rfl (lv_at hl 0 rfl) ?_
    refine va_get (D := g.1) (ci := 0) (v := .ref (b 1)) (C := RX0) (T := TX0) (N := 4) hx hb hts hinX0 hown hK hP 10 rfl rfl 0 (by decide) (hts (.fieldLink RX0 11 "BarredRungs$History" "saved" "[LBarredRungs$State;") (List.mem_of_getElem? (i := 2) rfl)) (fun _ h9 => h9) rfl dX0_save_42 ?_
    refine lv_aload_n hx hb dX0_save_45 rfl (lv_at hl 0 rfl) ?_
    refine va_get (D := g.1) (ci := 0) (v := .int (Hi_size h1)) (C := RX0) (T := TX0) (N := 4) hx hb hts hinX0 hown hK hP 10 rfl rfl 2 (by decide) (hts (.fieldLink RX0 22 "BarredRungs$History" "size" "I") (List.mem_of_getElem? (i := 1) rfl)) (fun _ h9 => h9) rfl dX0_save_46 ?_
    refine va_aldq hx hb hK hP 11 1 rfl rfl hin dX0_save_49 ?_
    refine lv_eqv (v2 := .ref ((Hi_sv h1 k).1 0)) (by rw [hkk]; rfl) ?_
    refine lv_aload_n hx hb dX0_save_50 rfl (lv_at hl 1 rfl) ?_
    have q1 : (cSt g a st ++ cHi g b d h1).Perm ((cSt g (Hi_sv h1 k).1 (Hi_sv h1 k).2 ++ cSt g a st) ++ R0) := by
      refine (List.Perm.append_left _ p1).trans ?_
      refine (pmid _ _ _).trans ?_
      rw [List.append_assoc]
    have q2 : ((cSt g (Hi_sv h1 k).1 st ++ cSt g a st) ++ R0).Perm (cSt g a st ++ cHi g b d (Hi_set_sv h1 (updS (Hi_sv h1) k ((Hi_sv h1 k).1, st)))) := by
      rw [List.append_assoc]
      refine (pmid _ _ _).trans ?_
      exact List.Perm.append_left _ (p2 st)
    have hPc := (hP.perm q1).left
    refine aft_p (st1 := []) rfl q1 q2 (runV (As := [.ref (a 0)]) (rest := []) ⟨hx, hb, hml, hown, hts⟩ (kX2_copyFrom l g (Hi_sv h1 k).1 a (copyFrom_all (Hi_sv h1 k).2 st)) (cwV 1 hts gX0_save_X2_copyFrom rfl rfl rfl hdX2_copyFrom ⟨Nat.le_of_ble_eq_true rfl, Nat.le_of_ble_eq_true rfl⟩) hK hN hPc (hD.perm q1).left (va_recv hK hPc (ci := 2) (q0 := 0) rfl rfl) rfl hl.1 rfl (Nat.le_of_ble_eq_true rfl) dX0_save_51 ⟨Nat.zero_le _, Nat.zero_le _⟩) hP hD hS hA (fun H locs hP hD hS => ?_)
    refine lv_aload_n hx hb dX0_save_54 rfl (lv_at hl 0 rfl) ?_
    refine lv_dup hx hb dX0_save_55 rfl ?_
    refine va_get (D := g.1) (ci := 0) (v := .int (Hi_size h1)) (C := RX0) (T := TX0) (N := 4) hx hb hts hinX0 hown hK hP 10 rfl rfl 2 (by decide) (hts (.fieldLink RX0 22 "BarredRungs$History" "size" "I") (List.mem_of_getElem? (i := 1) rfl)) (fun _ h9 => h9) rfl dX0_save_56 ?_
    refine lv_iconst (v := 1) hx hb dX0_save_59 (by decide) ?_
    refine lv_iadd hx hb dX0_save_60 ?_
    refine va_put (D := g.1) (ci := 0) (v := .int (Hi_size h1 + 1)) (ty := .int) (C := RX0) (T := TX0) (N := 4) hx hb hts hinX0 tyX0 tyX0_ok nmX0 hown hK hP hD hS 10 rfl rfl 2 (by decide) (hts (.fieldLink RX0 22 "BarredRungs$History" "size" "I") (List.mem_of_getElem? (i := 1) rfl)) (fun _ h9 => h9) rfl (by decide +kernel) rfl rfl (Nat.le_of_ble_eq_true rfl) dX0_save_61 (fun H locs hP hD hS => ?_)
    have hP : va_P g.1 vwCl (cSt g a st ++ cHi g b d (Hi_set_size (Hi_set_sv h1 (updS (Hi_sv h1) k ((Hi_sv h1 k).1, st))) (Hi_size h1 + 1))) H := hP
    have hD : va_D A (cSt g a st ++ cHi g b d (Hi_set_size (Hi_set_sv h1 (updS (Hi_sv h1) k ((Hi_sv h1 k).1, st))) (Hi_size h1 + 1))) := hD
    exact hend _ _ _ _ _ hP hD hS (RetOK.v dX0_save_64)
  refine lv_aload_n hx hb dX0_save_0 rfl (lv_at hl 0 rfl) ?_
  refine va_get (D := g.1) (ci := 0) (v := .int (Hi_size hi)) (C := RX0) (T := TX0) (N := 4) hx hb hts hinX0 hown hK hP 10 rfl rfl 2 (by decide) (hts (.fieldLink RX0 22 "BarredRungs$History" "size" "I") (List.mem_of_getElem? (i := 1) rfl)) (fun _ h9 => h9) rfl dX0_save_1 ?_
  refine lv_bipush (v := 6) hx hb dX0_save_4 (by decide) ?_
  refine lv_icmp_lt (tgt := 13) hx hb dX0_save_6 (by decide) (fun c1 => ?_) (fun c1 => ?_)
  · exact rest hi _ _ _ (by unfold hi_full; rw [if_neg (Int32.not_le.mpr c1)]) hP hD hS hl
  · refine lv_aload_n hx hb dX0_save_9 rfl (lv_at hl 0 rfl) ?_
    refine aft_p (st1 := []) rfl List.perm_append_comm List.perm_append_comm (runV (As := []) (rest := []) ⟨hx, hb, hml, hown, hts⟩ (kX0_dropOldest l g b d (hi := hi) rfl) (cwV 0 hts gX0_save_X0_dropOldest rfl rfl rfl hdX0_dropOldest ⟨Nat.le_of_ble_eq_true rfl, Nat.le_of_ble_eq_true rfl⟩) hK hN hP.right hD.right (va_recv hK hP (ci := 0) (q0 := 10) rfl rfl) rfl hl.1 rfl (Nat.le_of_ble_eq_true rfl) dX0_save_10 ⟨Nat.zero_le _, Nat.zero_le _⟩) hP hD hS hA (fun H locs hP hD hS => ?_)
    exact rest (Hi_set_size (Hi_set_sv hi (rotS (Hi_sv hi))) 5) _ _ _ (by unfold hi_full; rw [if_pos (Int32.not_lt.mp c1)]) hP hD hS hl
set_option maxRecDepth 100000 in
set_option maxHeartbeats 8000000 in
theorem kX0_restoreLatest (l : Launch) (g : GG) (a b d : Nat → Nat) {st : St} {hi : Hi} {st' : St} {hi' : Hi} (h : fX0_restoreLatest st hi = some (st', hi')) : Cg l g yX0_restoreLatest wsX0_restoreLatest rX0_restoreLatest [.ref (b 0), .ref (a 0)] (cSt g a st ++ cHi g b d hi) none (cSt g a st' ++ cHi g b d hi') := by
  refine Cg_of (cc := cX0_restoreLatest) (maxL := 2) (ret := none) (by decide +kernel) rfl (Nat.le_of_ble_eq_true rfl) ?_
  intro p e su m args below meth c A Q ls hx hb hml hown hts hK hN hA hnm hP hD hS hl hend
  have hinX0 : ∀ w ∈ u_ws RX0 TX0 4, w ∈ wsX0_restoreLatest := fun _ h9 => List.mem_cons_of_mem _ (List.mem_append_left _ (List.mem_append_right _ h9))
  have hl : lv_has ls 2 [(0, .ref (b 0)), (1, .ref (a 0))] := hl
  have h := some_i h
  refine lv_aload_n hx hb dX0_restoreLatest_0 rfl (lv_at hl 0 rfl) ?_
  refine va_get (D := g.1) (ci := 0) (v := .int (Hi_size hi)) (C := RX0) (T := TX0) (N := 4) hx hb hts hinX0 hown hK hP 10 rfl rfl 2 (by decide) (hts (.fieldLink RX0 22 "BarredRungs$History" "size" "I") (List.mem_of_getElem? (i := 1) rfl)) (fun _ h9 => h9) rfl dX0_restoreLatest_1 ?_
  refine lv_if_le (tgt := 53) hx hb dX0_restoreLatest_4 (by decide) (fun c1 => ?_) (fun c1 => ?_)
  · cases if_t c1 h
    exact hend _ _ _ _ _ hP hD hS (RetOK.v dX0_restoreLatest_53)
  have h := if_f c1 h
  refine lv_aload_n hx hb dX0_restoreLatest_7 rfl (lv_at hl 0 rfl) ?_
  refine va_get (D := g.1) (ci := 0) (v := .int (Hi_size hi)) (C := RX0) (T := TX0) (N := 4) hx hb hts hinX0 hown hK hP 10 rfl rfl 2 (by decide) (hts (.fieldLink RX0 22 "BarredRungs$History" "size" "I") (List.mem_of_getElem? (i := 1) rfl)) (fun _ h9 => h9) rfl dX0_restoreLatest_8 ?_
  refine lv_bipush (v := 6) hx hb dX0_restoreLatest_11 (by decide) ?_
  refine lv_icmp_gt (tgt := 53) hx hb dX0_restoreLatest_13 (by decide) (fun c2 => ?_) (fun c2 => ?_)
  · cases if_t c2 h
    exact hend _ _ _ _ _ hP hD hS (RetOK.v dX0_restoreLatest_53)
  have h := if_f c2 h
  have h7 : (Hi_size hi - 1).toInt = (Hi_size hi).toInt - 1 ∧ (0 : Int) < (Hi_size hi).toInt ∧ (Hi_size hi).toInt ≤ 6 := by
    have e1 := Int32.not_le.mp c1
    have e2 := Int32.not_lt.mp c2
    rw [Int32.lt_iff_toInt_lt] at e1
    rw [Int32.le_iff_toInt_le] at e2
    have e3 : (0 : Int32).toInt = 0 := rfl
    have e4 : (6 : Int32).toInt = 6 := rfl
    have e5 : (1 : Int32).toInt = 1 := rfl
    rw [e3] at e1
    rw [e4] at e2
    refine ⟨?_, e1, e2⟩
    rw [Int32.toInt_sub, e5]
    exact Int.bmod_eq_of_le (by omega) (by omega)
  have hn : ¬ (Hi_size hi - 1) < 0 := by
    rw [Int32.lt_iff_toInt_lt, h7.1]
    have e3 : (0 : Int32).toInt = 0 := rfl
    rw [e3]; omega
  have hk : (Hi_size hi - 1).toNatClampNeg < 6 := cl_lt hn (by rw [h7.1]; omega)
  have hin : vp_in (Hi_size hi - 1) 6 := fun q => q.elim hn (fun q => absurd hk (Nat.not_lt.mpr q))
  generalize hkk : (Hi_size hi - 1).toNatClampNeg = k at h hk
  cases h
  obtain ⟨R0, p1, p2⟩ := cHi_split g b d hi hk
  refine lv_aload_n hx hb dX0_restoreLatest_16 rfl (lv_at hl 0 rfl) ?_
  refine va_get (D := g.1) (ci := 0) (v := .ref (b 1)) (C := RX0) (T := TX0) (N := 4) hx hb hts hinX0 hown hK hP 10 rfl rfl 0 (by decide) (hts (.fieldLink RX0 11 "BarredRungs$History" "saved" "[LBarredRungs$State;") (List.mem_of_getElem? (i := 2) rfl)) (fun _ h9 => h9) rfl dX0_restoreLatest_17 ?_
  refine lv_aload_n hx hb dX0_restoreLatest_20 rfl (lv_at hl 0 rfl) ?_
  refine va_get (D := g.1) (ci := 0) (v := .int (Hi_size hi)) (C := RX0) (T := TX0) (N := 4) hx hb hts hinX0 hown hK hP 10 rfl rfl 2 (by decide) (hts (.fieldLink RX0 22 "BarredRungs$History" "size" "I") (List.mem_of_getElem? (i := 1) rfl)) (fun _ h9 => h9) rfl dX0_restoreLatest_21 ?_
  refine lv_iconst (v := 1) hx hb dX0_restoreLatest_24 (by decide) ?_
  refine lv_isub hx hb dX0_restoreLatest_25 ?_
  refine va_aldq hx hb hK hP 11 1 rfl rfl hin dX0_restoreLatest_26 ?_
  refine lv_eqv (v2 := .ref ((Hi_sv hi k).1 0)) (by rw [hkk]; rfl) ?_
  refine lv_ifnull hx hb dX0_restoreLatest_27 ?_
  refine lv_aload_n hx hb dX0_restoreLatest_30 rfl (lv_at hl 0 rfl) ?_
  refine lv_dup hx hb dX0_restoreLatest_31 rfl ?_
  refine va_get (D := g.1) (ci := 0) (v := .int (Hi_size hi)) (C := RX0) (T := TX0) (N := 4) hx hb hts hinX0 hown hK hP 10 rfl rfl 2 (by decide) (hts (.fieldLink RX0 22 "BarredRungs$History" "size" "I") (List.mem_of_getElem? (i := 1) rfl)) (fun _ h9 => h9) rfl dX0_restoreLatest_32 ?_
  refine lv_iconst (v := 1) hx hb dX0_restoreLatest_35 (by decide) ?_
  refine lv_isub hx hb dX0_restoreLatest_36 ?_
  refine va_put (D := g.1) (ci := 0) (v := .int (Hi_size hi - 1)) (ty := .int) (C := RX0) (T := TX0) (N := 4) hx hb hts hinX0 tyX0 tyX0_ok nmX0 hown hK hP hD hS 10 rfl rfl 2 (by decide) (hts (.fieldLink RX0 22 "BarredRungs$History" "size" "I") (List.mem_of_getElem? (i := 1) rfl)) (fun _ h9 => h9) rfl (by decide +kernel) rfl rfl (Nat.le_of_ble_eq_true rfl) dX0_restoreLatest_37 (fun H locs hP hD hS => ?_)
  have hP : va_P g.1 vwCl (cSt g a st ++ cHi g b d (Hi_set_size hi (Hi_size hi - 1))) H := hP
  have hD : va_D A (cSt g a st ++ cHi g b d (Hi_set_size hi (Hi_size hi - 1))) := hD
  refine lv_aload_n hx hb dX0_restoreLatest_40 rfl (lv_at hl 1 rfl) ?_
  refine lv_aload_n hx hb dX0_restoreLatest_41 rfl (lv_at hl 0 rfl) ?_
  refine va_get (D := g.1) (ci := 0) (v := .ref (b 1)) (C := RX0) (T := TX0) (N := 4) hx hb hts hinX0 hown hK hP 10 rfl rfl 0 (by decide) (hts (.fieldLink RX0 11 "BarredRungs$History" "saved" "[LBarredRungs$State;") (List.mem_of_getElem? (i := 2) rfl)) (fun _ h9 => h9) rfl dX0_restoreLatest_42 ?_
  refine lv_aload_n hx hb dX0_restoreLatest_45 rfl (lv_at hl 0 rfl) ?_
  refine va_get (D := g.1) (ci := 0) (v := .int (Hi_size hi - 1)) (C := RX0) (T := TX0) (N := 4) hx hb hts hinX0 hown hK hP 10 rfl rfl 2 (by decide) (hts (.fieldLink RX0 22 "BarredRungs$History" "size" "I") (List.mem_of_getElem? (i := 1) rfl)) (fun _ h9 => h9) rfl dX0_restoreLatest_46 ?_
  refine va_aldq hx hb hK hP 11 1 rfl rfl hin dX0_restoreLatest_49 ?_
  refine lv_eqv (v2 := .ref ((Hi_sv hi k).1 0)) (by rw [hkk]; rfl) ?_
  obtain ⟨R0, p1, p2⟩ := cHi_split g b d (Hi_set_size hi (Hi_size hi - 1)) hk
  have q : ∀ x : St, (cSt g a x ++ cHi g b d (Hi_set_size hi (Hi_size hi - 1))).Perm ((cSt g a x ++ cSt g (Hi_sv hi k).1 (Hi_sv hi k).2) ++ R0) := fun x => by
    rw [List.append_assoc]
    exact List.Perm.append_left _ p1
  have hPc := (hP.perm (q st)).left
  refine aft_p (st1 := []) rfl (q st) (q (Hi_sv hi k).2).symm (runV (As := [.ref ((Hi_sv hi k).1 0)]) (rest := []) ⟨hx, hb, hml, hown, hts⟩ (kX2_copyFrom l g a (Hi_sv hi k).1 (copyFrom_all st (Hi_sv hi k).2)) (cwV 1 hts gX0_restoreLatest_X2_copyFrom rfl rfl rfl hdX2_copyFrom ⟨Nat.le_of_ble_eq_true rfl, Nat.le_of_ble_eq_true rfl⟩) hK hN hPc (hD.perm (q st)).left (va_recv hK hPc (ci := 2) (q0 := 0) rfl rfl) rfl hl.1 rfl (Nat.le_of_ble_eq_true rfl) dX0_restoreLatest_50 ⟨Nat.zero_le _, Nat.zero_le _⟩) hP hD hS hA (fun H locs hP hD hS => ?_)
  exact hend _ _ _ _ _ hP hD hS (RetOK.v dX0_restoreLatest_53)
end HI
