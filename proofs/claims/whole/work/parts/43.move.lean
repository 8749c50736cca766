section MOV
def S3 (f : Nat → Nat) : Nat := f 0 + f 1 + f 2
theorem S3_upd (f : Nat → Nat) {c : Nat} (hc : c < 3) (v : Nat) : S3 (fun e => if e = c then v else f e) + f c = S3 f + v := by
  unfold S3
  rcases pu_c3 hc with rfl | rfl | rfl
  · simp; omega
  · simp; omega
  · simp; omega
theorem S3_cong {f g : Nat → Nat} (h : ∀ e, e < 3 → f e = g e) : S3 f = S3 g := by
  unfold S3
  rw [h 0 (by decide), h 1 (by decide), h 2 (by decide)]
theorem S3_part (f : Nat → Nat) {c : Nat} (hc : c < 3) : f c ≤ S3 f := by
  unfold S3
  rcases pu_c3 hc with rfl | rfl | rfl <;> omega
def Oth (st st' : St) (c : Nat) : Prop := ∀ e, e ≠ c → St_under st' e = St_under st e ∧ St_beginnings st' e = St_beginnings st e ∧ St_ends st' e = St_ends st e ∧ St_went st' e = St_went st e ∧ St_steps st' e = St_steps st e ∧ St_ladders st' e = St_ladders st e ∧ St_falls st' e = St_falls st e
def Otha (A A' : AI) (c : Nat) : Prop := ∀ k, (k < 5 ∨ 10 ≤ k) → (k < 10 + 7 * c ∨ 10 + 7 * c + 7 ≤ k) → A' k = A k
theorem Cl1.oth {st st' : St} {A A' : AI} {n c e : Nat} (h : Cl1 st A n e) (h1 : Oth st st' c) (h2 : Otha A A' c) (hec : e ≠ c) (he : e < 3) (hc : c < 3) : Cl1 st' A' n e := by
  obtain ⟨a1, a2, a3, a4, a5, a6, a7⟩ := h1 e hec
  unfold Cl1
  rw [a1, a2, a3, a4, a5, a6, a7, h2 (10 + 7 * e + 0) (by omega) (by omega), h2 (10 + 7 * e + 1) (by omega) (by omega), h2 (10 + 7 * e + 2) (by omega) (by omega), h2 (10 + 7 * e + 3) (by omega) (by omega), h2 (10 + 7 * e + 4) (by omega) (by omega), h2 (10 + 7 * e + 5) (by omega) (by omega), h2 (10 + 7 * e + 6) (by omega) (by omega)]
  exact h
theorem MB.cong {A B : AI} {n p l s r : Nat} {cd : Nat → Nat} (h : MB A n p l s r cd) (hAB : ∀ k, (k < 5 ∨ 31 ≤ k) → B k = A k) : MB B n p l s r cd := by
  unfold MB
  rw [hAB 0 (by omega), hAB 1 (by omega), hAB 2 (by omega), hAB 3 (by omega), hAB 4 (by omega)]
  obtain ⟨a1, a2, a3, a4, a5, a6, a7, a8, a9, a10, a11⟩ := h
  exact ⟨a1, a2, a3, a4, a5, a6, a7, a8, a9, a10, fun w hw => by rw [hAB (31 + w) (by omega)]; exact a11 w hw⟩
theorem CSx.put {st st' : St} {A A' : AI} {m m' n p l s r c : Nat} {cd : Nat → Nat} (h : CSx st A m n p l s r cd) (hc : c < 3) (hB : Base st' n p l s r cd) (hL : Lks (St_links st') n r cd) (h1 : Oth st st' c) (h2 : Otha A A' c) (h3 : Cl1 st' A' n c) (h4 : Cnt st' A' m') : CSx st' A' m' n p l s r cd :=
  ⟨hB, hL, h.2.2.1.cong (fun k hk => h2 k (by omega) (by omega)), fun e he => by
    by_cases q : e = c
    · subst q; exact h3
    · exact (h.2.2.2.1 e he).oth h1 h2 q he hc, h4⟩
/-- the reference's going, told by its numbers -/
theorem pm_goes {mo : Mo} {A : AI} {c : Nat} {x : Int32} (hc : c < 3) : (x ≠ A (10 + 7 * c + 2) → ∃ A', fX6_goes (Mo_set_state mo A) (nI c) x = some (0, Mo_set_state mo A') ∧ Otha A A' c ∧ A' 5 = A 5 ∧ A' 6 = A 6 + 1 ∧ A' 7 = A 7 ∧ A' 8 = A 8 ∧ A' 9 = A 9 ∧ A' (10 + 7 * c + 0) = x ∧ A' (10 + 7 * c + 1) = A (10 + 7 * c + 1) ∧ A' (10 + 7 * c + 2) = A (10 + 7 * c + 2) ∧ A' (10 + 7 * c + 3) = 1 ∧ A' (10 + 7 * c + 4) = A (10 + 7 * c + 4) + 1 ∧ A' (10 + 7 * c + 5) = A (10 + 7 * c + 5) ∧ A' (10 + 7 * c + 6) = A (10 + 7 * c + 6)) ∧ (x = A (10 + 7 * c + 2) → ∃ A', fX6_goes (Mo_set_state mo A) (nI c) x = some (1, Mo_set_state mo A') ∧ Otha A A' c ∧ A' 5 = A 5 ∧ A' 6 = A 6 + 1 ∧ A' 7 = A 7 + 1 ∧ A' 8 = A 8 ∧ A' 9 = A 9 + (A (10 + 7 * c + 4) + 1) ∧ A' (10 + 7 * c + 0) = -1 ∧ A' (10 + 7 * c + 1) = A (10 + 7 * c + 1) ∧ A' (10 + 7 * c + 2) = A (10 + 7 * c + 2) ∧ A' (10 + 7 * c + 3) = 0 ∧ A' (10 + 7 * c + 4) = A (10 + 7 * c + 4) + 1 ∧ A' (10 + 7 * c + 5) = A (10 + 7 * c + 5) + 1 ∧ A' (10 + 7 * c + 6) = A (10 + 7 * c + 6)) := by
  have e1 : Mo_set_state (Mo_set_state mo A) (upd (Mo_state (Mo_set_state mo A)) 6 (Mo_state (Mo_set_state mo A) 6 + (1 : Int32))) = Mo_set_state mo (upd A 6 (A 6 + 1)) := rfl
  unfold fX6_goes
  rw [i55_6, c55_6, pu_ck, pu_ck, pu_pl, e1, pm_s0 hc, pu_bd, pm_s3 hc, pu_bd, pm_o4 hc, pu_bd, pm_s4 hc, pu_bd, pm_o2 hc, pu_bd]
  generalize hM : upd (upd (upd (upd A 6 (A 6 + 1)) (10 + 7 * c + 0) x) (10 + 7 * c + 3) 1) (10 + 7 * c + 4) (upd (upd (upd A 6 (A 6 + 1)) (10 + 7 * c + 0) x) (10 + 7 * c + 3) 1 (10 + 7 * c + 4) + 1) = M
  have m0 : ∀ k, k ≠ 6 → k ≠ 10 + 7 * c + 0 → k ≠ 10 + 7 * c + 3 → k ≠ 10 + 7 * c + 4 → M k = A k := fun k h1 h2 h3 h4 => by
    rw [← hM, pk_un h4, pk_un h3, pk_un h2, pk_un h1]
  have m6 : M 6 = A 6 + 1 := by rw [← hM, pk_un (by omega), pk_un (by omega), pk_un (by omega), pk_us]
  have ma : M (10 + 7 * c + 0) = x := by rw [← hM, pk_un (by omega), pk_un (by omega), pk_us]
  have mb : M (10 + 7 * c + 3) = 1 := by rw [← hM, pk_un (by omega), pk_us]
  have mc : M (10 + 7 * c + 4) = A (10 + 7 * c + 4) + 1 := by rw [← hM, pk_us, pk_un (by omega), pk_un (by omega), pk_un (by omega)]
  have o1 : Otha A M c := fun k h1 h2 => m0 k (by omega) (by omega) (by omega) (by omega)
  rw [m0 (10 + 7 * c + 2) (by omega) (by omega) (by omega) (by omega)]
  constructor
  · intro hx
    rw [if_neg hx]
    exact ⟨M, rfl, o1, m0 5 (by omega) (by omega) (by omega) (by omega), m6, m0 7 (by omega) (by omega) (by omega) (by omega), m0 8 (by omega) (by omega) (by omega) (by omega), m0 9 (by omega) (by omega) (by omega) (by omega), ma, m0 _ (by omega) (by omega) (by omega) (by omega), m0 _ (by omega) (by omega) (by omega) (by omega), mb, mc, m0 _ (by omega) (by omega) (by omega) (by omega), m0 _ (by omega) (by omega) (by omega) (by omega)⟩
  · intro hx
    have e2 : Mo_set_state (Mo_set_state mo M) (upd (Mo_state (Mo_set_state mo M)) 7 (Mo_state (Mo_set_state mo M) 7 + (1 : Int32))) = Mo_set_state mo (upd M 7 (M 7 + 1)) := rfl
    rw [if_pos hx, i55_7, c55_7, pu_ck, pu_ck, pu_pl, e2, i55_9, c55_9, pu_ck, pm_o4 hc, pu_bd, pu_ck, pu_pl]
    generalize hM1 : upd M 7 (M 7 + 1) = M1
    have e3 : Mo_set_state (Mo_set_state mo M1) (upd (Mo_state (Mo_set_state mo M1)) 9 (Mo_state (Mo_set_state mo M1) 9 + M1 (10 + 7 * c + 4))) = Mo_set_state mo (upd M1 9 (M1 9 + M1 (10 + 7 * c + 4))) := rfl
    rw [e3, pm_o5 hc, pu_bd, pm_s5 hc, pu_bd]
    unfold fX6_takeOff
    rw [pm_s0 hc, pu_bd, pm_s3 hc, pu_bd, pu_bd]
    have n0 : ∀ k, k ≠ 7 → M1 k = M k := fun k h => by rw [← hM1, pk_un h]
    have n7 : M1 7 = M 7 + 1 := by rw [← hM1, pk_us]
    generalize hM2 : upd (upd (upd (upd M1 9 (M1 9 + M1 (10 + 7 * c + 4))) (10 + 7 * c + 5) (upd M1 9 (M1 9 + M1 (10 + 7 * c + 4)) (10 + 7 * c + 5) + 1)) (10 + 7 * c + 0) (-1)) (10 + 7 * c + 3) 0 = M2
    have q0 : ∀ k, k ≠ 9 → k ≠ 10 + 7 * c + 5 → k ≠ 10 + 7 * c + 0 → k ≠ 10 + 7 * c + 3 → M2 k = M1 k := fun k h1 h2 h3 h4 => by
      rw [← hM2, pk_un h4, pk_un h3, pk_un h2, pk_un h1]
    have q9 : M2 9 = M1 9 + M1 (10 + 7 * c + 4) := by rw [← hM2, pk_un (by omega), pk_un (by omega), pk_un (by omega), pk_us]
    have qa : M2 (10 + 7 * c + 0) = -1 := by rw [← hM2, pk_un (by omega), pk_us]
    have qb : M2 (10 + 7 * c + 3) = 0 := by rw [← hM2, pk_us]
    have qc : M2 (10 + 7 * c + 5) = M1 (10 + 7 * c + 5) + 1 := by rw [← hM2, pk_un (by omega), pk_un (by omega), pk_us, pk_un (by omega)]
    refine ⟨M2, rfl, fun k h1 h2 => ?_, ?_, ?_, ?_, ?_, ?_, qa, ?_, ?_, qb, ?_, ?_, ?_⟩
    · rw [q0 k (by omega) (by omega) (by omega) (by omega), n0 k (by omega), o1 k h1 h2]
    · rw [q0 5 (by omega) (by omega) (by omega) (by omega), n0 5 (by omega), m0 5 (by omega) (by omega) (by omega) (by omega)]
    · rw [q0 6 (by omega) (by omega) (by omega) (by omega), n0 6 (by omega), m6]
    · rw [q0 7 (by omega) (by omega) (by omega) (by omega), n7, m0 7 (by omega) (by omega) (by omega) (by omega)]
    · rw [q0 8 (by omega) (by omega) (by omega) (by omega), n0 8 (by omega), m0 8 (by omega) (by omega) (by omega) (by omega)]
    · rw [q9, n0 9 (by omega), n0 _ (by omega), m0 9 (by omega) (by omega) (by omega) (by omega), mc]
    · rw [q0 _ (by omega) (by omega) (by omega) (by omega), n0 _ (by omega), m0 _ (by omega) (by omega) (by omega) (by omega)]
    · rw [q0 _ (by omega) (by omega) (by omega) (by omega), n0 _ (by omega), m0 _ (by omega) (by omega) (by omega) (by omega)]
    · rw [q0 _ (by omega) (by omega) (by omega) (by omega), n0 _ (by omega), mc]
    · rw [qc, n0 _ (by omega), m0 _ (by omega) (by omega) (by omega) (by omega)]
    · rw [q0 _ (by omega) (by omega) (by omega) (by omega), n0 _ (by omega), m0 _ (by omega) (by omega) (by omega) (by omega)]
theorem onk_on {st : St} {c k : Nat} (h : St_under st c ≠ -1) : onk st c k = k := if_neg h
theorem onk_off {st : St} {c k : Nat} (h : St_under st c = -1) : onk st c k = 0 := if_pos h
theorem onk_cong {st st' : St} {c k : Nat} (h : St_under st' c = St_under st c) : onk st' c k = onk st c k := by unfold onk; rw [h]
theorem mv_ends (st : St) (x y z : AI) (u : Int32) : St_ends (St_set_climbs (St_set_steps (St_set_went (St_set_under st x) y) z) u) = St_ends st := rfl
/-- going, on both sides -/
theorem cs_move {st : St} {mo : Mo} {A : AI} {m n p l s r c w : Nat} {cd : Nat → Nat} (h : CSx st A m n p l s r cd) (hc : c < 3) (hw : w < n) (hu : St_under st c ≠ -1) : ∃ y st' A', fX2_move st (nI c) (nI w) = some (y, st') ∧ fX6_goes (Mo_set_state mo A) (nI c) (nI w) = some (y, Mo_set_state mo A') ∧ CSx st' A' (m + 1) n p l s r cd ∧ (y = 0 ∨ y = 1) := by
  have h0 := h
  obtain ⟨hB, hL, hM, hC, h5, h6, la, sp, fa, dn, k1, k2, k3, k4, k5, k6, k7⟩ := h
  have hn := hB.2.2.2.2.2.1
  obtain ⟨c0, c1, c2, c3, c4, c5, c6, c7, c8⟩ := hC c hc
  obtain ⟨a, z, a1, a2, a3, a4, a5⟩ := c8.resolve_left hu
  obtain ⟨kl, ks, kf⟩ := k1 c hc
  have hsum : S3 (fun e => onk st e (sp e)) = onk st 0 (sp 0) + onk st 1 (sp 1) + onk st 2 (sp 2) := rfl
  have hla : S3 la = la 0 + la 1 + la 2 := rfl
  have hoc : onk st c (sp c) = sp c := onk_on hu
  obtain ⟨g1, g2⟩ := pm_goes (mo := mo) (A := A) (c := c) (x := nI w) hc
  have hw1 : ¬ nI w = -1 := pu_m1_ne (by omega)
  unfold fX2_move
  rw [pu_clm hc, pu_bd, if_neg (by decide), pu_inb hc (by decide), pu_cl (by omega), pu_ck, pu_pl, pu_ck, pu_pl, pu_ck, pu_ck, pu_pl, pu_pl, pu_ck, mv_ends]
  by_cases e : w = z
  · -- at the end
    obtain ⟨A', f1, f2, f3, f4, f5, f6, f7, f8, f9, f10, f11, f12, f13, f14⟩ := g2 (by rw [c2, a5, e])
    rw [if_pos (show nI w = St_ends st c by rw [a5, e])]
    unfold fX2_takeOff
    rw [pu_clm hc, pu_bd, if_neg (by decide), pu_inb hc (by decide), pu_cl (by omega), pu_ck, pu_pl, pu_bd, pu_ck, pu_ck, pu_pl, pu_ck, pu_pl]
    refine ⟨1, _, A', rfl, f1, h0.put hc hB hL (fun e he => ⟨?_, rfl, rfl, pk_un he, pk_un he, pk_un he, rfl⟩) f2 ?_ ?_, Or.inr rfl⟩
    · show upd (upd (St_under st) c (nI w)) c (-1) e = _
      rw [pk_un he, pk_un he]
    · refine ⟨?_, ?_, ?_, ?_, ?_, ?_, ?_, Or.inr ?_, Or.inl ?_⟩
      · rw [f8]; exact pk_us.symm
      · rw [f9]; exact c1
      · rw [f10]; exact c2
      · rw [f11]; exact (if_pos (pk_us (f := upd (St_under st) c (nI w)))).symm
      · rw [f12, c4]; exact pk_us.symm
      · rw [f13, c5]; exact pk_us.symm
      · rw [f14]; exact c6
      · exact pk_us
      · exact pk_us
    · refine ⟨?_, ?_, (fun e => if e = c then la c + 1 else la e), (fun e => if e = c then sp c + 1 else sp e), fa, dn + (sp c + 1), fun e he => ?_, ?_, ?_, ?_, ?_, ?_, ?_⟩
      · rw [f3]; exact h5
      · rw [f4, h6]; rfl
      · dsimp only
        by_cases q : e = c
        · subst q
          rw [if_pos rfl, if_pos rfl]
          exact ⟨by rw [← nI_1, ← kl]; exact pk_us, by rw [← nI_1, ← ks]; exact pk_us, kf⟩
        · rw [if_neg q, if_neg q]
          obtain ⟨j1, j2, j3⟩ := k1 e he
          exact ⟨(pk_un q).trans j1, (pk_un q).trans j2, j3⟩
      · rw [f5, k2, nI_1]
        have := S3_upd la hc (la c + 1)
        refine congrArg nI ?_
        show _ = S3 (fun e => if e = c then la c + 1 else la e)
        omega
      · rw [f6, k3]
      · show St_ladderClimbs st + upd (St_steps st) c (St_steps st c + 1) c = _
        rw [pk_us, k4, ks, nI_1, nI_add]
      · rw [f7, k5, c4, ks, nI_1, nI_add]
      · have := S3_upd la hc (la c + 1)
        show S3 (fun e => if e = c then la c + 1 else la e) ≤ _
        omega
      · have h8 := S3_upd (fun e => onk st e (sp e)) hc 0
        show dn + (sp c + 1) + S3 (fun e => onk _ e (if e = c then sp c + 1 else sp e)) ≤ m + 1
        rw [S3_cong (g := fun e => if e = c then 0 else onk st e (sp e)) (fun e he => by
          by_cases q : e = c
          · subst q
            rw [if_pos rfl, if_pos rfl]
            refine onk_off ?_
            exact pk_us
          · rw [if_neg q, if_neg q]
            exact onk_cong (by
              show upd (upd (St_under st) c (nI w)) c (-1) e = _
              rw [pk_un q, pk_un q]))]
        omega
  · obtain ⟨A', f1, f2, f3, f4, f5, f6, f7, f8, f9, f10, f11, f12, f13, f14⟩ := g1 (by rw [c2, a5, Ne, nI_eq (by omega) (by omega)]; exact e)
    rw [if_neg (show ¬ nI w = St_ends st c by rw [a5, nI_eq (by omega) (by omega)]; exact e)]
    refine ⟨0, _, A', rfl, f1, h0.put hc hB hL (fun e he => ⟨pk_un he, rfl, rfl, pk_un he, pk_un he, rfl, rfl⟩) f2 ?_ ?_, Or.inl rfl⟩
    · refine ⟨?_, ?_, ?_, ?_, ?_, ?_, ?_, Or.inr ?_, Or.inr ⟨w, z, hw, a2, e, pk_us, a5⟩⟩
      · rw [f8]; exact pk_us.symm
      · rw [f9]; exact c1
      · rw [f10]; exact c2
      · rw [f11]
        refine (if_neg (fun q => hw1 ?_)).trans pk_us |>.symm
        exact (pk_us (f := St_under st)).symm.trans q
      · rw [f12, c4]; exact pk_us.symm
      · rw [f13]; exact c5
      · rw [f14]; exact c6
      · exact pk_us
    · refine ⟨?_, ?_, la, (fun e => if e = c then sp c + 1 else sp e), fa, dn, fun e he => ?_, ?_, ?_, ?_, ?_, k6, ?_⟩
      · rw [f3]; exact h5
      · rw [f4, h6]; rfl
      · dsimp only
        by_cases q : e = c
        · subst q
          rw [if_pos rfl]
          exact ⟨kl, by rw [← nI_1, ← ks]; exact pk_us, kf⟩
        · rw [if_neg q]
          obtain ⟨j1, j2, j3⟩ := k1 e he
          exact ⟨j1, (pk_un q).trans j2, j3⟩
      · rw [f5, k2]
      · rw [f6, k3]
      · exact k4
      · rw [f7, k5]
      · have h8 := S3_upd (fun e => onk st e (sp e)) hc (sp c + 1)
        show dn + S3 (fun e => onk _ e (if e = c then sp c + 1 else sp e)) ≤ m + 1
        rw [S3_cong (g := fun e => if e = c then sp c + 1 else onk st e (sp e)) (fun e he => by
          by_cases q : e = c
          · subst q
            rw [if_pos rfl, if_pos rfl]
            exact onk_on (fun q => hw1 ((pk_us (f := St_under st)).symm.trans q))
          · rw [if_neg q, if_neg q]
            exact onk_cong (pk_un q))]
        omega
end MOV
