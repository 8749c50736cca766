section WRD
noncomputable def clb (K : Nat → Nat → Prop) (a w : Nat) : Bool := @decide (Cl K a w) (Classical.propDecidable _)
theorem clb_iff {K : Nat → Nat → Prop} {a w : Nat} : clb K a w = true ↔ Cl K a w := by
  unfold clb
  exact @decide_eq_true_iff _ (Classical.propDecidable _)
section WV
variable {st : St} {A : AI} {m n p l s r w : Nat} {cd : Nat → Nat}
theorem wd_k (h : CSx st A m n p l s r cd) (hw : w < n) {k : Nat} (hk : k ≤ 9) (tx : Tx) (is : Is) (wa : Wa) (hi : Hi) : fL_word tx is wa st hi (nI w) (nI k) = fX5_wordNumber tx is wa st hi (nI w) (nI k) := by
  unfold fL_word fX5_word
  rw [pu_hasWord h.1 hw, pu_bd, if_neg (by decide), if_neg (nI_pos (by omega)), if_pos (show nI k ≤ (9 : Int32) from nI_le (b := 9) (by omega) (by omega))]
  cases fX5_wordNumber tx is wa st hi (nI w) (nI k) with
  | none => rfl
  | some a => rfl
theorem wd_let (h : CSx st A m n p l s r cd) (hw : w < n) {k : Nat} (hk : k < 4) (tx : Tx) (is : Is) (wa : Wa) (hi : Hi) : fL_word tx is wa st hi (nI w) (nI k) = some (nI (pu_l (cd w) k)) := by
  rw [wd_k h hw (by omega)]
  unfold fX5_wordNumber
  have ne : ∀ j, j < 2 ^ 31 → k ≠ j → ¬ nI k = nI j := fun j hj q => by rw [nI_eq (by omega) hj]; exact q
  rw [if_neg (show ¬ nI k = (4 : Int32) from ne 4 (by decide) (by omega)), if_neg (show ¬ nI k = (5 : Int32) from ne 5 (by decide) (by omega)), if_neg (show ¬ nI k = (6 : Int32) from ne 6 (by decide) (by omega)), if_neg (show ¬ nI k = (7 : Int32) from ne 7 (by decide) (by omega)), if_neg (show ¬ nI k = (8 : Int32) from ne 8 (by decide) (by omega)), if_neg (show ¬ nI k = (9 : Int32) from ne 9 (by decide) (by omega)), pu_letterAt h.1 hw hk, pu_bd]
theorem wd_4 (h : CSx st A m n p l s r cd) (hw : w < n) (tx : Tx) (is : Is) (wa : Wa) (hi : Hi) : ∃ y, fL_word tx is wa st hi (nI w) (4 : Int32) = some y ∧ ((y = 1 ∧ Bar n p l s cd 0 w) ∨ (y = 0 ∧ ¬ Bar n p l s cd 0 w)) := by
  have e := wd_k h hw (k := 4) (by decide) tx is wa hi
  have e' : fL_word tx is wa st hi (nI w) (4 : Int32) = fX5_wordNumber tx is wa st hi (nI w) (nI 4) := e
  rw [e']
  unfold fX5_wordNumber
  obtain ⟨v, g1, g2⟩ := pu_isBarred h.1 (t := 0) (by decide) hw
  have g1' : fX2_isBarredAfter st (nI w) (0 : Int32) = some v := g1
  rw [if_pos (show nI 4 = (4 : Int32) from rfl), g1', pu_bd]
  rcases g2 with ⟨rfl, x1⟩ | ⟨rfl, x1⟩
  · rw [if_neg (by decide)]
    exact ⟨1, rfl, Or.inl ⟨rfl, x1⟩⟩
  · rw [if_pos rfl]
    exact ⟨0, rfl, Or.inr ⟨rfl, x1⟩⟩
theorem wd_5 (h : CSx st A m n p l s r cd) (hw : w < n) (tx : Tx) (is : Is) (wa : Wa) (hi : Hi) : fL_word tx is wa st hi (nI w) (5 : Int32) = some (nI (fb_ct (fun b => lkb r (cd w) (cd b)) n)) := by
  have hn := h.1.2.2.2.2.2.1
  have e' : fL_word tx is wa st hi (nI w) (5 : Int32) = fX5_wordNumber tx is wa st hi (nI w) (nI 5) := wd_k h hw (k := 5) (by decide) tx is wa hi
  rw [e']
  unfold fX5_wordNumber
  rw [if_neg (show ¬ nI 5 = (4 : Int32) by decide), if_pos (show nI 5 = (5 : Int32) from rfl), pu_linksOf h.1 hw, pu_bd, pu_bc (Lks_hi hn (by omega) h.2.1), pu_bd, ct_n (n := n) (f := fun b => lkb r (cd w) (cd b)) hn (fun j hj => by
    rw [h.2.1 w j (by omega) hj, lkb_iff]
    exact ⟨fun q => q.2, fun q => ⟨hw, q⟩⟩)]
theorem wd_6 (h : CSx st A m n p l s r cd) (hw : w < n) (tx : Tx) (is : Is) (wa : Wa) (hi : Hi) : ∃ y, fL_word tx is wa st hi (nI w) (6 : Int32) = some y ∧ fX2_climberOn st (nI w) = some y := by
  have e' : fL_word tx is wa st hi (nI w) (6 : Int32) = fX5_wordNumber tx is wa st hi (nI w) (nI 6) := wd_k h hw (k := 6) (by decide) tx is wa hi
  rw [e']
  obtain ⟨y, f1, -⟩ := pu_con st (nI w)
  unfold fX5_wordNumber
  rw [if_neg (show ¬ nI 6 = (4 : Int32) by decide), if_neg (show ¬ nI 6 = (5 : Int32) by decide), if_pos (show nI 6 = (6 : Int32) from rfl), f1, pu_bd]
  exact ⟨y, rfl, rfl⟩
theorem wd_7 (h : CSx st A m n p l s r cd) (hw : w < n) (tx : Tx) (is : Is) (wa : Wa) (hi : Hi) : ∃ y, fL_word tx is wa st hi (nI w) (7 : Int32) = some y ∧ Lst 24 (fun j => Cl (Kw n r cd) w j) y := by
  have hn := h.1.2.2.2.2.2.1
  have e' : fL_word tx is wa st hi (nI w) (7 : Int32) = fX5_wordNumber tx is wa st hi (nI w) (nI 7) := wd_k h hw (k := 7) (by decide) tx is wa hi
  rw [e']
  obtain ⟨v, f1, f2⟩ := pu_around h.1 h.2.1 hw is
  obtain ⟨y, g1, g2⟩ := pu_low5L (P := fun j => Cl (Kw n r cd) w j) f2 (fun j q => by
    have := Cl_lt hw (fun v w q => q.2.1) q
    omega)
  unfold fX5_wordNumber
  rw [if_neg (show ¬ nI 7 = (4 : Int32) by decide), if_neg (show ¬ nI 7 = (5 : Int32) by decide), if_neg (show ¬ nI 7 = (6 : Int32) by decide), if_pos (show nI 7 = (7 : Int32) from rfl), f1, pu_bd, g1, pu_bd]
  exact ⟨y, rfl, g2⟩
theorem wd_8 (h : CSx st A m n p l s r cd) (hw : w < n) (tx : Tx) (is : Is) (wa : Wa) (hi : Hi) : fL_word tx is wa st hi (nI w) (8 : Int32) = some (nI (fb_ct (clb (Kw n r cd) w) n)) := by
  have hn := h.1.2.2.2.2.2.1
  have e' : fL_word tx is wa st hi (nI w) (8 : Int32) = fX5_wordNumber tx is wa st hi (nI w) (nI 8) := wd_k h hw (k := 8) (by decide) tx is wa hi
  rw [e']
  obtain ⟨v, f1, f2⟩ := pu_around h.1 h.2.1 hw is
  have hv : ∀ j, 24 ≤ j → j < 32 → bt v j = false := fun j h1 h2 => by
    cases hb : bt v j
    · rfl
    · have := Cl_lt hw (fun v w q => q.2.1) ((f2 j h2).mp hb); omega
  unfold fX5_wordNumber
  rw [if_neg (show ¬ nI 8 = (4 : Int32) by decide), if_neg (show ¬ nI 8 = (5 : Int32) by decide), if_neg (show ¬ nI 8 = (6 : Int32) by decide), if_neg (show ¬ nI 8 = (7 : Int32) by decide), if_pos (show nI 8 = (8 : Int32) from rfl), f1, pu_bd, pu_bc hv, pu_bd, ct_n (n := n) (f := clb (Kw n r cd) w) hn (fun j hj => by
    rw [f2 j hj, clb_iff]
    exact ⟨fun q => ⟨Cl_lt hw (fun v w q => q.2.1) q, q⟩, fun q => q.2⟩)]
theorem wd_9 (h : CSx st A m n p l s r cd) (hw : w < n) (tx : Tx) (is : Is) (wa : Wa) (hi : Hi) : ∃ y, fL_word tx is wa st hi (nI w) (9 : Int32) = some y ∧ Lst 32 (fun t => Bar n p l s cd t w) y := by
  have e' : fL_word tx is wa st hi (nI w) (9 : Int32) = fX5_wordNumber tx is wa st hi (nI w) (nI 9) := wd_k h hw (k := 9) (by decide) tx is wa hi
  rw [e']
  obtain ⟨y, f1, f2⟩ := pu_tub h.1 hw
  unfold fX5_wordNumber
  rw [if_neg (show ¬ nI 9 = (4 : Int32) by decide), if_neg (show ¬ nI 9 = (5 : Int32) by decide), if_neg (show ¬ nI 9 = (6 : Int32) by decide), if_neg (show ¬ nI 9 = (7 : Int32) by decide), if_neg (show ¬ nI 9 = (8 : Int32) by decide), if_pos (show nI 9 = (9 : Int32) from rfl), f1, pu_bd]
  exact ⟨y, rfl, f2⟩
end WV
/-! the law's own words -/
theorem iw_L12 {vq vw vl : AI} {n p l s r w : Nat} {cd : Nat → Nat} (h : LQ vq vw n p l s r cd) (hl : LL vl n r cd) (hw : w < n) : ∀ (d a f : Nat) (y : Int32), a + d = n → d < f → Lst a (fun j => Cl (Kw n r cd) w j) y → ∃ y', fL_isWord_L12 vq vw vl (nI w) f (nI (fb_ct (fun b => lkb r (cd w) (cd b)) a)) (nI (fb_ct (clb (Kw n r cd) w) a)) y (nI a) = some (nI (fb_ct (fun b => lkb r (cd w) (cd b)) n), nI (fb_ct (clb (Kw n r cd) w) n), y') ∧ Lst n (fun j => Cl (Kw n r cd) w j) y' := by
  have hn := h.2.2.2.2.2.1
  have hr := h.2.2.2.2.2.2.2.2.2.1
  have hcd := h.2.2.2.2.2.2.2.2.2.2
  have q0 := h.1
  have q4 := h.2.2.2.2.1
  intro d
  induction d with
  | zero =>
    intro a f y ha hf hy
    obtain ⟨f, rfl, -⟩ := pu_fuel hf
    have : a = n := ha
    subst this
    exact ⟨y, by rw [fL_isWord_L12, z10_0, q0, if_pos (nI_le (Nat.le_refl _) (by omega))], hy⟩
  | succ d ih =>
    intro a f y ha hf hy
    obtain ⟨f, rfl, hf⟩ := pu_fuel hf
    have han : a < n := by omega
    obtain ⟨z, z1, z2⟩ := lad_cl h hl hw han
    obtain ⟨x, x1, x2⟩ := lw_linked (hcd w hw).2 (hcd a han).2 hr
    have hx : (if x = (0 : Int32) then (some (0 : Int32)) else (some (1 : Int32))) = some (nI (if lkb r (cd w) (cd a) = true then 1 else 0)) := by
      rcases x2 with ⟨rfl, q⟩ | ⟨rfl, q⟩
      · rw [if_neg (by decide), if_pos (lkb_iff.mpr q)]; rfl
      · rw [if_pos rfl, if_neg (fun z => q (lkb_iff.mp z))]; rfl
    rw [fL_isWord_L12, z10_0, q0, if_neg (nI_ge han (by omega)), z1, pu_bd, pu_inb (k := w) (by omega) (by decide), pu_inb (k := a) (by omega) (by decide), pu_cl (k := w) (by omega), pu_cl (k := a) (by omega), (hcd w hw).1, (hcd a han).1, z10_4, q4, x1]
    by_cases e : (0 : Int32) ≤ z
    · have hc := z2.mp e
      have eb : clb (Kw n r cd) w a = true := clb_iff.mpr hc
      rw [if_neg (show ¬ z < 0 from fun q => (fa_of_lt q).2.1 e), pu_bd, pu_ck, pu_ck, pu_bd, hx, pu_bd, nI_add, ← fb_ct_succ, pu_pl, if_neg (by decide), pu_bd, pu_pl, if_neg (by decide), show nI (fb_ct (clb (Kw n r cd) w) a) + (1 : Int32) = nI (fb_ct (clb (Kw n r cd) w) (a + 1)) by rw [fb_ct_succ, if_pos eb, nI_1]]
      rcases hy with ⟨k, k1, k2, k3, rfl⟩ | ⟨k1, rfl⟩
      · rw [if_pos (nI_pos' (by omega)), pu_bd, pu_pl, nI_1]
        exact ih (a + 1) f _ (by omega) (by omega) (Or.inl ⟨k, by omega, k2, k3, rfl⟩)
      · rw [if_neg m1_neg, pu_bd, pu_pl, nI_1]
        exact ih (a + 1) f _ (by omega) (by omega) (Or.inl ⟨a, by omega, hc, k1, rfl⟩)
    · have hc : ¬ Cl (Kw n r cd) w a := fun q => e (z2.mpr q)
      have eb : clb (Kw n r cd) w a = false := by
        cases hb : clb (Kw n r cd) w a
        · rfl
        · exact absurd (clb_iff.mp hb) hc
      rw [if_pos (fa_of_nle e), pu_bd, pu_ck, pu_ck, pu_bd, hx, pu_bd, nI_add, ← fb_ct_succ, pu_pl, if_pos rfl, pu_bd, pu_pl, if_pos rfl, pu_bd, show nI (fb_ct (clb (Kw n r cd) w) a) + (0 : Int32) = nI (fb_ct (clb (Kw n r cd) w) (a + 1)) by rw [fb_ct_succ, eb, show (0 : Int32) = nI 0 from rfl, nI_add]; rfl, pu_pl, nI_1]
      refine ih (a + 1) f _ (by omega) (by omega) ?_
      rcases hy with ⟨k, k1, k2, k3, rfl⟩ | ⟨k1, rfl⟩
      · exact Or.inl ⟨k, by omega, k2, k3, rfl⟩
      · exact Or.inr ⟨fun v hv q => by
          by_cases e2 : v = a
          · subst e2; exact hc q
          · exact k1 v (by omega) q, rfl⟩
def tdn (i : Nat) : Int32 := nI i - 1
theorem tdn_s (i : Nat) : tdn (i + 1) = nI i := nI_pred i
theorem iw_L112 {vq vw : AI} {n p l s r w : Nat} {cd : Nat → Nat} (h : LQ vq vw n p l s r cd) (hw : w < n) : ∀ (i f : Nat) (y : Int32), i ≤ 32 → i < f → ((∃ k, i ≤ k ∧ k < 32 ∧ Bar n p l s cd k w ∧ (∀ j, i ≤ j → j < k → ¬ Bar n p l s cd j w) ∧ y = nI k) ∨ ((∀ k, i ≤ k → k < 32 → ¬ Bar n p l s cd k w) ∧ y = -1)) → ∃ y', fL_isWord_L112 vq vw (nI w) f y (tdn i) = some y' ∧ Lst 32 (fun t => Bar n p l s cd t w) y' := by
  have hn := h.2.2.2.2.2.1
  have hcd := h.2.2.2.2.2.2.2.2.2.2
  intro i
  induction i with
  | zero =>
    intro f y hi hf hy
    obtain ⟨f, rfl, -⟩ := pu_fuel hf
    refine ⟨y, by rw [fL_isWord_L112, if_pos (show tdn 0 < (0 : Int32) by decide)], ?_⟩
    rcases hy with ⟨k, -, k2, k3, k4, rfl⟩ | ⟨k1, rfl⟩
    · exact Or.inl ⟨k, k2, k3, fun j hj => k4 j (Nat.zero_le j) hj, rfl⟩
    · exact Or.inr ⟨fun k hk => k1 k (Nat.zero_le k) hk, rfl⟩
  | succ i ih =>
    intro f y hi hf hy
    obtain ⟨f, rfl, hf⟩ := pu_fuel hf
    obtain ⟨x, x1, x2⟩ := lw_isBarred h hw (t := i) (by omega)
    have e1 : nI i + (-1 : Int32) = tdn i := by
      unfold tdn
      exact (Int32.sub_eq_add_neg _ _).symm
    rw [tdn_s, fL_isWord_L112, if_neg (nI_pos (by omega)), pu_inb (by omega) (by decide), pu_cl (by omega), pu_ck, (hcd w hw).1, x1, pu_bd]
    rcases x2 with ⟨rfl, q⟩ | ⟨rfl, q⟩
    · rw [if_neg (by decide), pu_bd, pu_pl, e1]
      exact ih f _ (by omega) (by omega) (Or.inl ⟨i, Nat.le_refl i, by omega, q, fun j h1 h2 => by omega, rfl⟩)
    · rw [if_pos rfl, pu_bd, pu_pl, e1]
      refine ih f _ (by omega) (by omega) ?_
      rcases hy with ⟨k, k1, k2, k3, k4, rfl⟩ | ⟨k1, rfl⟩
      · exact Or.inl ⟨k, by omega, k2, k3, fun j h1 h2 => by
          by_cases e2 : j = i
          · subst e2; exact q
          · exact k4 j (by omega) h2, rfl⟩
      · exact Or.inr ⟨fun k h1 h2 => by
          by_cases e2 : k = i
          · subst e2; exact q
          · exact k1 k (by omega) h2, rfl⟩
theorem iw_L236 {tx : Tx} {is : Is} {wa : Wa} {st : St} {hi : Hi} {vq vw vc : AI} {m n p l s r w : Nat} {cd : Nat → Nat} (h : CSx st (AA vq vw vc) m n p l s r cd) (hw : w < n) : ∀ (d j f : Nat), j + d = 4 → d < f → fL_isWord_L236 tx is wa st hi vw (nI w) f 1 (nI j) = some 1 := by
  have hn := h.1.2.2.2.2.2.1
  obtain ⟨c1, c2⟩ := h.2.2.1.lq.2.2.2.2.2.2.2.2.2.2 w hw
  intro d
  induction d with
  | zero =>
    intro j f hj hf
    obtain ⟨f, rfl, -⟩ := pu_fuel hf
    rw [fL_isWord_L236, if_pos (show (4 : Int32) ≤ nI j from nI_le (a := 4) (by omega) (by omega))]
  | succ d ih =>
    intro j f hj hf
    obtain ⟨f, rfl, hf⟩ := pu_fuel hf
    rw [fL_isWord_L236, if_neg (show ¬ (4 : Int32) ≤ nI j from nI_ge (b := 4) (by omega) (by omega)), if_neg (by decide), wd_let h hw (by omega), pu_bd, pu_inb (by omega) (by decide), pu_cl (by omega), pu_ck, c1, lw_letter c2 (by omega), pu_bd, if_pos rfl, pu_bd, pu_pl, nI_1]
    exact ih (j + 1) f (by omega) (by omega)
theorem is_word {st : St} {vq vw vc vl : AI} {m n p l s r w : Nat} {cd : Nat → Nat} (h : CSx st (AA vq vw vc) m n p l s r cd) (hl : LL vl n r cd) (hw : w < n) (tx : Tx) (is : Is) (wa : Wa) (hi : Hi) : fL_isWord tx is wa st hi vq vw vc vl (nI w) = some 1 := by
  have hQ := h.2.2.1.lq
  have hn := h.1.2.2.2.2.2.1
  obtain ⟨y7, a1, a2⟩ := iw_L12 hQ hl hw n 0 1000 (-1) (by omega) (by omega) (Or.inr ⟨fun v hv => by omega, rfl⟩)
  have a1' : fL_isWord_L12 vq vw vl (nI w) 1000 (0 : Int32) (0 : Int32) (-1 : Int32) (0 : Int32) = some (nI (fb_ct (fun b => lkb r (cd w) (cd b)) n), nI (fb_ct (clb (Kw n r cd) w) n), y7) := a1
  have a3 := Lst_cut hn a2 (fun k k1 k2 q => absurd (Cl_lt hw (fun v w q => q.2.1) q) (by omega))
  obtain ⟨y9, b1, b2⟩ := iw_L112 hQ hw 32 1000 (-1) (Nat.le_refl _) (by decide) (Or.inr ⟨fun k h1 h2 => by omega, rfl⟩)
  have b1' : fL_isWord_L112 vq vw (nI w) 1000 (-1 : Int32) (31 : Int32) = some y9 := b1
  obtain ⟨x4, d1, d2⟩ := wd_4 h hw tx is wa hi
  obtain ⟨x6, e1, e2⟩ := wd_6 h hw tx is wa hi
  obtain ⟨x7, f1, f2⟩ := wd_7 h hw tx is wa hi
  obtain ⟨x9, g1, g2⟩ := wd_9 h hw tx is wa hi
  have u7 := f2.uniq a3
  have u9 := g2.uniq b2
  subst u7 u9
  obtain ⟨z, m1, m2, -⟩ := cs_con (vc := vc) (st := st) (nI w) (fun c hc => (cl_row (h.2.2.2.1 c hc) hc).1)
  rw [m1] at e2
  cases some_i e2
  have k4 : (if x9 = (0 : Int32) then (some (1 : Int32)) else (some (0 : Int32))) = some x4 := by
    rcases g2 with ⟨k, k1, k2, k3, rfl⟩ | ⟨k1, rfl⟩
    · by_cases e : k = 0
      · subst e
        rcases d2 with ⟨rfl, q⟩ | ⟨rfl, q⟩
        · rw [if_pos (show nI 0 = (0 : Int32) from rfl)]
        · exact absurd k2 q
      · rcases d2 with ⟨rfl, q⟩ | ⟨rfl, q⟩
        · exact absurd q (k3 0 (by omega))
        · rw [if_neg (show ¬ nI k = (0 : Int32) by rw [show (0 : Int32) = nI 0 from rfl, nI_eq (by omega) (by decide)]; exact e)]
    · rcases d2 with ⟨rfl, q⟩ | ⟨rfl, q⟩
      · exact absurd q (k1 0 (by decide))
      · rw [if_neg (by decide)]
  have t236 : fL_isWord_L236 tx is wa st hi vw (nI w) 1000 (1 : Int32) (0 : Int32) = some 1 := iw_L236 h hw 4 0 1000 rfl (by decide)
  unfold fL_isWord
  rw [a1', pu_bd3, b1', pu_bd, d1, pu_bd, k4, pu_bd, if_pos rfl, wd_5 h hw, pu_bd, if_pos rfl, e1, pu_bd, m2, pu_bd, if_pos rfl, f1, pu_bd, if_pos rfl, wd_8 h hw, pu_bd, if_pos rfl, g1, pu_bd, if_pos rfl, pu_bd, t236, pu_bd, zb_1, pu_ck]
end WRD
