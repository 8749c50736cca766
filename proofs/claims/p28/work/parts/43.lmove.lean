section MVL
theorem i10_0 : inb (0 : Int32) 10 = true := by decide
theorem i10_1 : inb (1 : Int32) 10 = true := by decide
theorem i10_2 : inb (2 : Int32) 10 = true := by decide
theorem i10_3 : inb (3 : Int32) 10 = true := by decide
theorem i10_4 : inb (4 : Int32) 10 = true := by decide
theorem i10_5 : inb (5 : Int32) 10 = true := by decide
theorem i10_6 : inb (6 : Int32) 10 = true := by decide
theorem i10_7 : inb (7 : Int32) 10 = true := by decide
theorem i10_8 : inb (8 : Int32) 10 = true := by decide
theorem i10_9 : inb (9 : Int32) 10 = true := by decide
theorem L21_0 {c : Nat} (hc : c < 3) : inb ((7 : Int32) * nI c) 21 = true := (i21_0 hc).1
theorem C21_0 {c : Nat} (hc : c < 3) : ((7 : Int32) * nI c).toNatClampNeg = 7 * c + 0 := (i21_0 hc).2
theorem L21_1 {c : Nat} (hc : c < 3) : inb (((7 : Int32) * nI c) + (1 : Int32)) 21 = true := (i21 (k := 1) hc (by decide)).1
theorem C21_1 {c : Nat} (hc : c < 3) : (((7 : Int32) * nI c) + (1 : Int32)).toNatClampNeg = 7 * c + 1 := (i21 (k := 1) hc (by decide)).2
theorem L21_2 {c : Nat} (hc : c < 3) : inb (((7 : Int32) * nI c) + (2 : Int32)) 21 = true := (i21 (k := 2) hc (by decide)).1
theorem C21_2 {c : Nat} (hc : c < 3) : (((7 : Int32) * nI c) + (2 : Int32)).toNatClampNeg = 7 * c + 2 := (i21 (k := 2) hc (by decide)).2
theorem L21_3 {c : Nat} (hc : c < 3) : inb (((7 : Int32) * nI c) + (3 : Int32)) 21 = true := (i21 (k := 3) hc (by decide)).1
theorem C21_3 {c : Nat} (hc : c < 3) : (((7 : Int32) * nI c) + (3 : Int32)).toNatClampNeg = 7 * c + 3 := (i21 (k := 3) hc (by decide)).2
theorem L21_4 {c : Nat} (hc : c < 3) : inb (((7 : Int32) * nI c) + (4 : Int32)) 21 = true := (i21 (k := 4) hc (by decide)).1
theorem C21_4 {c : Nat} (hc : c < 3) : (((7 : Int32) * nI c) + (4 : Int32)).toNatClampNeg = 7 * c + 4 := (i21 (k := 4) hc (by decide)).2
theorem L21_5 {c : Nat} (hc : c < 3) : inb (((7 : Int32) * nI c) + (5 : Int32)) 21 = true := (i21 (k := 5) hc (by decide)).1
theorem C21_5 {c : Nat} (hc : c < 3) : (((7 : Int32) * nI c) + (5 : Int32)).toNatClampNeg = 7 * c + 5 := (i21 (k := 5) hc (by decide)).2
theorem L21_6 {c : Nat} (hc : c < 3) : inb (((7 : Int32) * nI c) + (6 : Int32)) 21 = true := (i21 (k := 6) hc (by decide)).1
theorem C21_6 {c : Nat} (hc : c < 3) : (((7 : Int32) * nI c) + (6 : Int32)).toNatClampNeg = 7 * c + 6 := (i21 (k := 6) hc (by decide)).2
theorem lw_climbs {vq vw vc A : AI} {c : Nat} {x : Int32} (hA : A = AA vq vw vc) (hc : c < 3) : (x ≠ A (10 + 7 * c + 2) → ∃ vq' vc' A', fL_climbs vq vc (nI c) x = some (0, vq', vc') ∧ A' = AA vq' vw vc' ∧ Otha A A' c ∧ A' 5 = A 5 ∧ A' 6 = A 6 + 1 ∧ A' 7 = A 7 ∧ A' 8 = A 8 ∧ A' 9 = A 9 ∧ A' (10 + 7 * c + 0) = x ∧ A' (10 + 7 * c + 1) = A (10 + 7 * c + 1) ∧ A' (10 + 7 * c + 2) = A (10 + 7 * c + 2) ∧ A' (10 + 7 * c + 3) = 1 ∧ A' (10 + 7 * c + 4) = A (10 + 7 * c + 4) + 1 ∧ A' (10 + 7 * c + 5) = A (10 + 7 * c + 5) ∧ A' (10 + 7 * c + 6) = A (10 + 7 * c + 6)) ∧ (x = A (10 + 7 * c + 2) → ∃ vq' vc' A', fL_climbs vq vc (nI c) x = some (1, vq', vc') ∧ A' = AA vq' vw vc' ∧ Otha A A' c ∧ A' 5 = A 5 ∧ A' 6 = A 6 + 1 ∧ A' 7 = A 7 + 1 ∧ A' 8 = A 8 ∧ A' 9 = A 9 + (A (10 + 7 * c + 4) + 1) ∧ A' (10 + 7 * c + 0) = -1 ∧ A' (10 + 7 * c + 1) = A (10 + 7 * c + 1) ∧ A' (10 + 7 * c + 2) = A (10 + 7 * c + 2) ∧ A' (10 + 7 * c + 3) = 0 ∧ A' (10 + 7 * c + 4) = A (10 + 7 * c + 4) + 1 ∧ A' (10 + 7 * c + 5) = A (10 + 7 * c + 5) + 1 ∧ A' (10 + 7 * c + 6) = A (10 + 7 * c + 6)) := by
  have a2 : vc (7 * c + 2) = A (10 + 7 * c + 2) := by rw [hA, AA_c7 hc (by decide)]
  have a4 : vc (7 * c + 4) = A (10 + 7 * c + 4) := by rw [hA, AA_c7 hc (by decide)]
  have a5 : vc (7 * c + 5) = A (10 + 7 * c + 5) := by rw [hA, AA_c7 hc (by decide)]
  have b6 : vq 6 = A 6 := by rw [hA, AA_q (by decide)]
  have b7 : vq 7 = A 7 := by rw [hA, AA_q (by decide)]
  have b9 : vq 9 = A 9 := by rw [hA, AA_q (by decide)]
  unfold fL_climbs
  rw [i10_6, z10_6, pu_ck, pu_pl, L21_0 hc, C21_0 hc, pu_ck, pu_pl, L21_3 hc, C21_3 hc, pu_ck, pu_pl, L21_4 hc, C21_4 hc, pu_ck, pu_ck, pu_pl, L21_2 hc, C21_2 hc, pu_ck, pk_un (show 7 * c + 4 ≠ 7 * c + 3 by omega), pk_un (show 7 * c + 4 ≠ 7 * c + 0 by omega), a4, b6]
  have hM : AA (upd vq 6 (A 6 + 1)) vw (upd (upd (upd vc (7 * c + 0) x) (7 * c + 3) 1) (7 * c + 4) (A (10 + 7 * c + 4) + 1)) = upd (upd (upd (upd A 6 (A 6 + 1)) (10 + 7 * c + 0) x) (10 + 7 * c + 3) 1) (10 + 7 * c + 4) (A (10 + 7 * c + 4) + 1) := by
    rw [AA_uc7 hc (by decide), AA_uc7 hc (by decide), AA_uc7 hc (by decide), AA_uq (by decide), ← hA]
  have v2 : upd (upd (upd vc (7 * c + 0) x) (7 * c + 3) 1) (7 * c + 4) (A (10 + 7 * c + 4) + 1) (7 * c + 2) = A (10 + 7 * c + 2) := by rw [pk_un (by omega), pk_un (by omega), pk_un (by omega), a2]
  have v4 : upd (upd (upd vc (7 * c + 0) x) (7 * c + 3) 1) (7 * c + 4) (A (10 + 7 * c + 4) + 1) (7 * c + 4) = A (10 + 7 * c + 4) + 1 := pk_us
  have v5 : upd (upd (upd vc (7 * c + 0) x) (7 * c + 3) 1) (7 * c + 4) (A (10 + 7 * c + 4) + 1) (7 * c + 5) = A (10 + 7 * c + 5) := by rw [pk_un (by omega), pk_un (by omega), pk_un (by omega), a5]
  have w7 : upd vq 6 (A 6 + 1) 7 = A 7 := by rw [pk_un (by decide), b7]
  have w9 : upd vq 6 (A 6 + 1) 9 = A 9 := by rw [pk_un (by decide), b9]
  rw [v2]
  generalize upd (upd (upd vc (7 * c + 0) x) (7 * c + 3) 1) (7 * c + 4) (A (10 + 7 * c + 4) + 1) = V at *
  generalize upd vq 6 (A 6 + 1) = Q at *
  generalize hM2 : upd (upd (upd (upd A 6 (A 6 + 1)) (10 + 7 * c + 0) x) (10 + 7 * c + 3) 1) (10 + 7 * c + 4) (A (10 + 7 * c + 4) + 1) = M at *
  have m0 : ∀ k, k ≠ 6 → k ≠ 10 + 7 * c + 0 → k ≠ 10 + 7 * c + 3 → k ≠ 10 + 7 * c + 4 → M k = A k := fun k h1 h2 h3 h4 => by
    rw [← hM2, pk_un h4, pk_un h3, pk_un h2, pk_un h1]
  have m6 : M 6 = A 6 + 1 := by rw [← hM2, pk_un (by omega), pk_un (by omega), pk_un (by omega), pk_us]
  have ma : M (10 + 7 * c + 0) = x := by rw [← hM2, pk_un (by omega), pk_un (by omega), pk_us]
  have mb : M (10 + 7 * c + 3) = 1 := by rw [← hM2, pk_un (by omega), pk_us]
  have mc : M (10 + 7 * c + 4) = A (10 + 7 * c + 4) + 1 := by rw [← hM2, pk_us]
  have o1 : Otha A M c := fun k h1 h2 => m0 k (by omega) (by omega) (by omega) (by omega)
  constructor
  · intro hx
    rw [if_neg hx]
    exact ⟨Q, V, M, rfl, hM.symm, o1, m0 5 (by omega) (by omega) (by omega) (by omega), m6, m0 7 (by omega) (by omega) (by omega) (by omega), m0 8 (by omega) (by omega) (by omega) (by omega), m0 9 (by omega) (by omega) (by omega) (by omega), ma, m0 _ (by omega) (by omega) (by omega) (by omega), m0 _ (by omega) (by omega) (by omega) (by omega), mb, mc, m0 _ (by omega) (by omega) (by omega) (by omega), m0 _ (by omega) (by omega) (by omega) (by omega)⟩
  · intro hx
    rw [if_pos hx, i10_7, z10_7, pu_ck, pu_pl, w7, pu_ck, i10_9, z10_9, pu_ck, pu_pl, pk_un (show (9 : Nat) ≠ 7 by decide), w9, v4, L21_5 hc, C21_5 hc, pu_ck, pu_ck, pu_pl, v5, pu_ck, pu_pl, pu_ck, pu_pl]
    have hN : AA (upd (upd Q 7 (A 7 + 1)) 9 (A 9 + (A (10 + 7 * c + 4) + 1))) vw (upd (upd (upd V (7 * c + 5) (A (10 + 7 * c + 5) + 1)) (7 * c + 0) (-1)) (7 * c + 3) 0) = upd (upd (upd (upd (upd M 7 (A 7 + 1)) 9 (A 9 + (A (10 + 7 * c + 4) + 1))) (10 + 7 * c + 5) (A (10 + 7 * c + 5) + 1)) (10 + 7 * c + 0) (-1)) (10 + 7 * c + 3) 0 := by
      rw [AA_uc7 hc (by decide), AA_uc7 hc (by decide), AA_uc7 hc (by decide), AA_uq (by decide), AA_uq (by decide), hM]
    refine ⟨_, _, _, rfl, hN.symm, ?_⟩
    generalize hM3 : upd (upd (upd (upd (upd M 7 (A 7 + 1)) 9 (A 9 + (A (10 + 7 * c + 4) + 1))) (10 + 7 * c + 5) (A (10 + 7 * c + 5) + 1)) (10 + 7 * c + 0) (-1)) (10 + 7 * c + 3) 0 = M2 at *
    have q0 : ∀ k, k ≠ 7 → k ≠ 9 → k ≠ 10 + 7 * c + 5 → k ≠ 10 + 7 * c + 0 → k ≠ 10 + 7 * c + 3 → M2 k = M k := fun k h0 h1 h2 h3 h4 => by
      rw [← hM3, pk_un h4, pk_un h3, pk_un h2, pk_un h1, pk_un h0]
    have q9 : M2 9 = A 9 + (A (10 + 7 * c + 4) + 1) := by rw [← hM3, pk_un (by omega), pk_un (by omega), pk_un (by omega), pk_us]
    have q7 : M2 7 = A 7 + 1 := by rw [← hM3, pk_un (by omega), pk_un (by omega), pk_un (by omega), pk_un (by omega), pk_us]
    have qa : M2 (10 + 7 * c + 0) = -1 := by rw [← hM3, pk_un (by omega), pk_us]
    have qb : M2 (10 + 7 * c + 3) = 0 := by rw [← hM3, pk_us]
    have qc : M2 (10 + 7 * c + 5) = A (10 + 7 * c + 5) + 1 := by rw [← hM3, pk_un (by omega), pk_un (by omega), pk_us]
    refine ⟨fun k h1 h2 => ?_, ?_, ?_, q7, ?_, q9, qa, ?_, ?_, qb, ?_, qc, ?_⟩
    · rw [q0 k (by omega) (by omega) (by omega) (by omega) (by omega), o1 k h1 h2]
    · rw [q0 5 (by omega) (by omega) (by omega) (by omega) (by omega), m0 5 (by omega) (by omega) (by omega) (by omega)]
    · rw [q0 6 (by omega) (by omega) (by omega) (by omega) (by omega), m6]
    · rw [q0 8 (by omega) (by omega) (by omega) (by omega) (by omega), m0 8 (by omega) (by omega) (by omega) (by omega)]
    · rw [q0 _ (by omega) (by omega) (by omega) (by omega) (by omega), m0 _ (by omega) (by omega) (by omega) (by omega)]
    · rw [q0 _ (by omega) (by omega) (by omega) (by omega) (by omega), m0 _ (by omega) (by omega) (by omega) (by omega)]
    · rw [q0 _ (by omega) (by omega) (by omega) (by omega) (by omega), mc]
    · rw [q0 _ (by omega) (by omega) (by omega) (by omega) (by omega), m0 _ (by omega) (by omega) (by omega) (by omega)]
theorem cs_move {st : St} {vq vw vc A : AI} {m n p l s r c w : Nat} {cd : Nat → Nat} (hA : A = AA vq vw vc) (h : CSx st A m n p l s r cd) (hc : c < 3) (hw : w < n) (hu : St_under st c ≠ -1) : ∃ y st' vq' vc' A', fX2_move st (nI c) (nI w) = some (y, st') ∧ fL_climbs vq vc (nI c) (nI w) = some (y, vq', vc') ∧ A' = AA vq' vw vc' ∧ CSx st' A' (m + 1) n p l s r cd ∧ (y = 0 ∨ y = 1) := by
  have h0 := h
  obtain ⟨hB, hL, hM, hC, h5, h6, la, sp, fa, dn, k1, k2, k3, k4, k5, k6, k7⟩ := h
  have hn := hB.2.2.2.2.2.1
  obtain ⟨c0, c1, c2, c3, c4, c5, c6, c7, c8⟩ := hC c hc
  obtain ⟨a, z, a1, a2, a3, a4, a5⟩ := c8.resolve_left hu
  obtain ⟨kl, ks, kf⟩ := k1 c hc
  have hsum : S3 (fun e => onk st e (sp e)) = onk st 0 (sp 0) + onk st 1 (sp 1) + onk st 2 (sp 2) := rfl
  have hla : S3 la = la 0 + la 1 + la 2 := rfl
  have hoc : onk st c (sp c) = sp c := onk_on hu
  obtain ⟨g1, g2⟩ := lw_climbs hA (x := nI w) hc
  have hw1 : ¬ nI w = -1 := pu_m1_ne (by omega)
  unfold fX2_move
  rw [pu_clm hc, pu_bd, if_neg (by decide), pu_inb hc (by decide), pu_cl (by omega), pu_ck, pu_pl, pu_ck, pu_pl, pu_ck, pu_ck, pu_pl, pu_pl, pu_ck, mv_ends]
  by_cases e : w = z
  · -- at the end
    obtain ⟨vq', vc', A', f1, fA, f2, f3, f4, f5, f6, f7, f8, f9, f10, f11, f12, f13, f14⟩ := g2 (by rw [c2, a5, e])
    rw [if_pos (show nI w = St_ends st c by rw [a5, e])]
    unfold fX2_takeOff
    rw [pu_clm hc, pu_bd, if_neg (by decide), pu_inb hc (by decide), pu_cl (by omega), pu_ck, pu_pl, pu_bd, pu_ck, pu_ck, pu_pl, pu_ck, pu_pl]
    refine ⟨1, _, vq', vc', A', rfl, f1, fA, h0.put hc hB hL (fun e he => ⟨?_, rfl, rfl, pk_un he, pk_un he, pk_un he, rfl⟩) f2 ?_ ?_, Or.inr rfl⟩
    · show upd (upd (St_under st) c (nI w)) c (-1) e = _
      rw [pk_un he, pk_un he]
    · refine ⟨?_, ?_, ?_, ?_, ?_, ?_, ?_, Or.inr ?_, Or.inl ?_⟩
      · rw [f8]; exact pk_us.symm
      · rw [f9]; exact c1
      · rw [f10]; exact c2
      · rw [f11]; exact (if_pos (pk_us (f := upd (St_under st) c (nI w)))).symm
      · rw [f12, c4]; exact pk_us.symm
      · rw [f13, c5]; exact pk_us.symm
      · rw [f14]; exact c6
      · exact pk_us
      · exact pk_us
    · refine ⟨?_, ?_, (fun e => if e = c then la c + 1 else la e), (fun e => if e = c then sp c + 1 else sp e), fa, dn + (sp c + 1), fun e he => ?_, ?_, ?_, ?_, ?_, ?_, ?_⟩
      · rw [f3]; exact h5
      · rw [f4, h6]; rfl
      · dsimp only
        by_cases q : e = c
        · subst q
          rw [if_pos rfl, if_pos rfl]
          exact ⟨by rw [← nI_1, ← kl]; exact pk_us, by rw [← nI_1, ← ks]; exact pk_us, kf⟩
        · rw [if_neg q, if_neg q]
          obtain ⟨j1, j2, j3⟩ := k1 e he
          exact ⟨(pk_un q).trans j1, (pk_un q).trans j2, j3⟩
      · rw [f5, k2, nI_1]
        have := S3_upd la hc (la c + 1)
        refine congrArg nI ?_
        show _ = S3 (fun e => if e = c then la c + 1 else la e)
        omega
      · rw [f6, k3]
      · show St_ladderClimbs st + upd (St_steps st) c (St_steps st c + 1) c = _
        rw [pk_us, k4, ks, nI_1, nI_add]
      · rw [f7, k5, c4, ks, nI_1, nI_add]
      · have := S3_upd la hc (la c + 1)
        show S3 (fun e => if e = c then la c + 1 else la e) ≤ _
        omega
      · have h8 := S3_upd (fun e => onk st e (sp e)) hc 0
        show dn + (sp c + 1) + S3 (fun e => onk _ e (if e = c then sp c + 1 else sp e)) ≤ m + 1
        rw [S3_cong (g := fun e => if e = c then 0 else onk st e (sp e)) (fun e he => by
          by_cases q : e = c
          · subst q
            rw [if_pos rfl, if_pos rfl]
            refine onk_off ?_
            exact pk_us
          · rw [if_neg q, if_neg q]
            exact onk_cong (by
              show upd (upd (St_under st) c (nI w)) c (-1) e = _
              rw [pk_un q, pk_un q]))]
        omega
  · obtain ⟨vq', vc', A', f1, fA, f2, f3, f4, f5, f6, f7, f8, f9, f10, f11, f12, f13, f14⟩ := g1 (by rw [c2, a5, Ne, nI_eq (by omega) (by omega)]; exact e)
    rw [if_neg (show ¬ nI w = St_ends st c by rw [a5, nI_eq (by omega) (by omega)]; exact e)]
    refine ⟨0, _, vq', vc', A', rfl, f1, fA, h0.put hc hB hL (fun e he => ⟨pk_un he, rfl, rfl, pk_un he, pk_un he, rfl, rfl⟩) f2 ?_ ?_, Or.inl rfl⟩
    · refine ⟨?_, ?_, ?_, ?_, ?_, ?_, ?_, Or.inr ?_, Or.inr ⟨w, z, hw, a2, e, pk_us, a5⟩⟩
      · rw [f8]; exact pk_us.symm
      · rw [f9]; exact c1
      · rw [f10]; exact c2
      · rw [f11]
        refine (if_neg (fun q => hw1 ?_)).trans pk_us |>.symm
        exact (pk_us (f := St_under st)).symm.trans q
      · rw [f12, c4]; exact pk_us.symm
      · rw [f13]; exact c5
      · rw [f14]; exact c6
      · exact pk_us
    · refine ⟨?_, ?_, la, (fun e => if e = c then sp c + 1 else sp e), fa, dn, fun e he => ?_, ?_, ?_, ?_, ?_, k6, ?_⟩
      · rw [f3]; exact h5
      · rw [f4, h6]; rfl
      · dsimp only
        by_cases q : e = c
        · subst q
          rw [if_pos rfl]
          exact ⟨kl, by rw [← nI_1, ← ks]; exact pk_us, kf⟩
        · rw [if_neg q]
          obtain ⟨j1, j2, j3⟩ := k1 e he
          exact ⟨j1, (pk_un q).trans j2, j3⟩
      · rw [f5, k2]
      · rw [f6, k3]
      · exact k4
      · rw [f7, k5]
      · have h8 := S3_upd (fun e => onk st e (sp e)) hc (sp c + 1)
        show dn + S3 (fun e => onk _ e (if e = c then sp c + 1 else sp e)) ≤ m + 1
        rw [S3_cong (g := fun e => if e = c then sp c + 1 else onk st e (sp e)) (fun e he => by
          by_cases q : e = c
          · subst q
            rw [if_pos rfl, if_pos rfl]
            exact onk_on (fun q => hw1 ((pk_us (f := St_under st)).symm.trans q))
          · rw [if_neg q, if_neg q]
            exact onk_cong (pk_un q))]
        omega
theorem cs_off {st : St} {A : AI} {m n p l s r c : Nat} {cd : Nat → Nat} (h : CSx st A m n p l s r cd) (hc : c < 3) : ∃ st', fX2_takeOff st (nI c) = some st' ∧ CSx st' (upd (upd A (10 + 7 * c + 0) (-1)) (10 + 7 * c + 3) 0) m n p l s r cd := by
  have h0 := h
  obtain ⟨hB, hL, hM, hC, h5, h6, la, sp, fa, dn, k1, k2, k3, k4, k5, k6, k7⟩ := h
  obtain ⟨c0, c1, c2, c3, c4, c5, c6, c7, c8⟩ := hC c hc
  have hsum : S3 (fun e => onk st e (sp e)) = onk st 0 (sp 0) + onk st 1 (sp 1) + onk st 2 (sp 2) := rfl
  unfold fX2_takeOff
  rw [pu_clm hc, pu_bd, if_neg (by decide), pu_inb hc (by decide), pu_cl (by omega), pu_ck, pu_pl]
  have m0 : ∀ k, k ≠ 10 + 7 * c + 0 → k ≠ 10 + 7 * c + 3 → upd (upd A (10 + 7 * c + 0) (-1)) (10 + 7 * c + 3) 0 k = A k := fun k h1 h2 => by rw [pk_un h2, pk_un h1]
  refine ⟨_, rfl, h0.put hc hB hL (fun e he => ⟨pk_un he, rfl, rfl, rfl, rfl, rfl, rfl⟩) (fun k h1 h2 => m0 k (by omega) (by omega)) ?_ ?_⟩
  · refine ⟨?_, ?_, ?_, ?_, ?_, ?_, ?_, c7, Or.inl pk_us⟩
    · rw [pk_un (by omega), pk_us]; exact pk_us.symm
    · rw [m0 _ (by omega) (by omega)]; exact c1
    · rw [m0 _ (by omega) (by omega)]; exact c2
    · rw [pk_us]; exact (if_pos (pk_us (f := St_under st))).symm
    · rw [m0 _ (by omega) (by omega)]; exact c4
    · rw [m0 _ (by omega) (by omega)]; exact c5
    · rw [m0 _ (by omega) (by omega)]; exact c6
  · refine ⟨?_, ?_, la, sp, fa, dn, k1, ?_, ?_, k4, ?_, k6, ?_⟩
    · rw [m0 _ (by omega) (by omega)]; exact h5
    · rw [m0 _ (by omega) (by omega)]; exact h6
    · rw [m0 _ (by omega) (by omega)]; exact k2
    · rw [m0 _ (by omega) (by omega)]; exact k3
    · rw [m0 _ (by omega) (by omega)]; exact k5
    · have h8 := S3_upd (fun e => onk st e (sp e)) hc 0
      show dn + S3 (fun e => onk _ e (sp e)) ≤ m
      rw [S3_cong (g := fun e => if e = c then 0 else onk st e (sp e)) (fun e he => by
        by_cases q : e = c
        · subst q
          rw [if_pos rfl]
          refine onk_off ?_
          exact pk_us
        · rw [if_neg q]
          exact onk_cong (pk_un q))]
      have := S3_part (fun e => onk st e (sp e)) hc
      omega
theorem cs_put {st : St} {A : AI} {m n p l s r c a z : Nat} {cd : Nat → Nat} (h : CSx st A m n p l s r cd) (hc : c < 3) (ha : a < n) (hz : z < n) (haz : a ≠ z) : ∃ st', fX2_putOn st (nI c) (nI a) (nI z) = some st' ∧ CSx st' (upd (upd (upd (upd (upd A (10 + 7 * c + 0) (nI a)) (10 + 7 * c + 1) (nI a)) (10 + 7 * c + 2) (nI z)) (10 + 7 * c + 3) 0) (10 + 7 * c + 4) 0) m n p l s r cd := by
  have h0 := h
  obtain ⟨hB, hL, hM, hC, h5, h6, la, sp, fa, dn, k1, k2, k3, k4, k5, k6, k7⟩ := h
  have hn := hB.2.2.2.2.2.1
  obtain ⟨c0, c1, c2, c3, c4, c5, c6, c7, c8⟩ := hC c hc
  have hsum : S3 (fun e => onk st e (sp e)) = onk st 0 (sp 0) + onk st 1 (sp 1) + onk st 2 (sp 2) := rfl
  have ha1 : ¬ nI a = -1 := pu_m1_ne (by omega)
  unfold fX2_putOn
  rw [pu_clm hc, pu_bd, if_neg (by decide), pu_inb hc (by decide), pu_cl (by omega), pu_ck, pu_pl, pu_ck, pu_pl, pu_ck, pu_pl, pu_ck, pu_pl, pu_ck, pu_pl]
  generalize hM2 : upd (upd (upd (upd (upd A (10 + 7 * c + 0) (nI a)) (10 + 7 * c + 1) (nI a)) (10 + 7 * c + 2) (nI z)) (10 + 7 * c + 3) 0) (10 + 7 * c + 4) 0 = M
  have m0 : ∀ k, k ≠ 10 + 7 * c + 0 → k ≠ 10 + 7 * c + 1 → k ≠ 10 + 7 * c + 2 → k ≠ 10 + 7 * c + 3 → k ≠ 10 + 7 * c + 4 → M k = A k := fun k q1 q2 q3 q4 q5 => by rw [← hM2, pk_un q5, pk_un q4, pk_un q3, pk_un q2, pk_un q1]
  have p0 : M (10 + 7 * c + 0) = nI a := by rw [← hM2, pk_un (by omega), pk_un (by omega), pk_un (by omega), pk_un (by omega), pk_us]
  have p1 : M (10 + 7 * c + 1) = nI a := by rw [← hM2, pk_un (by omega), pk_un (by omega), pk_un (by omega), pk_us]
  have p2 : M (10 + 7 * c + 2) = nI z := by rw [← hM2, pk_un (by omega), pk_un (by omega), pk_us]
  have p3 : M (10 + 7 * c + 3) = 0 := by rw [← hM2, pk_un (by omega), pk_us]
  have p4 : M (10 + 7 * c + 4) = 0 := by rw [← hM2, pk_us]
  refine ⟨_, rfl, h0.put hc hB hL (fun e he => ⟨pk_un he, pk_un he, pk_un he, pk_un he, pk_un he, rfl, rfl⟩) (fun k h1 h2 => m0 k (by omega) (by omega) (by omega) (by omega) (by omega)) ?_ ?_⟩
  · refine ⟨?_, ?_, ?_, ?_, ?_, ?_, ?_, Or.inl pk_us, Or.inr ⟨a, z, ha, hz, haz, pk_us, pk_us⟩⟩
    · rw [p0]; exact pk_us.symm
    · rw [p1]; exact pk_us.symm
    · rw [p2]; exact pk_us.symm
    · rw [p3]
      refine (if_neg (fun q => ha1 ?_)).trans pk_us |>.symm
      exact (pk_us (f := St_under st)).symm.trans q
    · rw [p4]; exact pk_us.symm
    · rw [m0 _ (by omega) (by omega) (by omega) (by omega) (by omega)]; exact c5
    · rw [m0 _ (by omega) (by omega) (by omega) (by omega) (by omega)]; exact c6
  · refine ⟨?_, ?_, la, (fun e => if e = c then 0 else sp e), fa, dn, fun e he => ?_, ?_, ?_, k4, ?_, k6, ?_⟩
    · rw [m0 _ (by omega) (by omega) (by omega) (by omega) (by omega)]; exact h5
    · rw [m0 _ (by omega) (by omega) (by omega) (by omega) (by omega)]; exact h6
    · dsimp only
      obtain ⟨j1, j2, j3⟩ := k1 e he
      by_cases q : e = c
      · subst q
        rw [if_pos rfl]
        exact ⟨j1, pk_us, j3⟩
      · rw [if_neg q]
        exact ⟨j1, (pk_un q).trans j2, j3⟩
    · rw [m0 _ (by omega) (by omega) (by omega) (by omega) (by omega)]; exact k2
    · rw [m0 _ (by omega) (by omega) (by omega) (by omega) (by omega)]; exact k3
    · rw [m0 _ (by omega) (by omega) (by omega) (by omega) (by omega)]; exact k5
    · have h8 := S3_upd (fun e => onk st e (sp e)) hc 0
      show dn + S3 (fun e => onk _ e (if e = c then 0 else sp e)) ≤ m
      rw [S3_cong (g := fun e => if e = c then 0 else onk st e (sp e)) (fun e he => by
        by_cases q : e = c
        · subst q
          rw [if_pos rfl, if_pos rfl]
          exact onk_on (fun q => ha1 ((pk_us (f := St_under st)).symm.trans q))
        · rw [if_neg q, if_neg q]
          exact onk_cong (pk_un q))]
      have := S3_part (fun e => onk st e (sp e)) hc
      omega
end MVL
