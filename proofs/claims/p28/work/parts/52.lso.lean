section ISO
section CQ
variable {st : St} {vq vw vc : AI} {m n p l s r : Nat} {cd : Nat → Nat}
theorem cq_0 (h : CSx st (AA vq vw vc) m n p l s r cd) (tx : Tx) (is : Is) (wa : Wa) (hi : Hi) : ∃ is', fL_count tx is wa st hi (0 : Int32) = some (vq 0, is') := by
  obtain ⟨i, e⟩ := cnt_v h (k := 0) (by decide) tx is wa hi
  refine ⟨i, e.trans ?_⟩
  unfold CVL
  rw [if_pos rfl, AA_q (by decide)]
theorem cq_1 (h : CSx st (AA vq vw vc) m n p l s r cd) (tx : Tx) (is : Is) (wa : Wa) (hi : Hi) : ∃ is', fL_count tx is wa st hi (1 : Int32) = some (nI (PR n r cd), is') := by
  obtain ⟨i, e⟩ := cnt_v h (k := 1) (by decide) tx is wa hi
  refine ⟨i, e.trans ?_⟩
  unfold CVL
  rw [if_neg (by decide), if_pos rfl]
theorem cq_2 (h : CSx st (AA vq vw vc) m n p l s r cd) (tx : Tx) (is : Is) (wa : Wa) (hi : Hi) : ∃ is', fL_count tx is wa st hi (2 : Int32) = some (nI (IS (Kw n r cd) n), is') := by
  obtain ⟨i, e⟩ := cnt_v h (k := 2) (by decide) tx is wa hi
  refine ⟨i, e.trans ?_⟩
  unfold CVL
  rw [if_neg (by decide), if_neg (by decide), if_pos rfl]
theorem cq_3 (h : CSx st (AA vq vw vc) m n p l s r cd) (tx : Tx) (is : Is) (wa : Wa) (hi : Hi) : ∃ is', fL_count tx is wa st hi (3 : Int32) = some (nI (IS (Kw n r cd) n), is') := by
  obtain ⟨i, e⟩ := cnt_v h (k := 3) (by decide) tx is wa hi
  refine ⟨i, e.trans ?_⟩
  unfold CVL
  rw [if_neg (by decide), if_neg (by decide), if_neg (by decide), if_pos rfl]
theorem cq_4 (h : CSx st (AA vq vw vc) m n p l s r cd) (tx : Tx) (is : Is) (wa : Wa) (hi : Hi) : ∃ is', fL_count tx is wa st hi (4 : Int32) = some (vq 1, is') := by
  obtain ⟨i, e⟩ := cnt_v h (k := 4) (by decide) tx is wa hi
  refine ⟨i, e.trans ?_⟩
  unfold CVL
  rw [if_neg (by decide), if_neg (by decide), if_neg (by decide), if_neg (by decide), if_pos rfl, AA_q (by decide)]
theorem cq_5 (h : CSx st (AA vq vw vc) m n p l s r cd) (tx : Tx) (is : Is) (wa : Wa) (hi : Hi) : ∃ is', fL_count tx is wa st hi (5 : Int32) = some (vq 2, is') := by
  obtain ⟨i, e⟩ := cnt_v h (k := 5) (by decide) tx is wa hi
  refine ⟨i, e.trans ?_⟩
  unfold CVL
  rw [if_neg (by decide), if_neg (by decide), if_neg (by decide), if_neg (by decide), if_neg (by decide), if_pos rfl, AA_q (by decide)]
theorem cq_6 (h : CSx st (AA vq vw vc) m n p l s r cd) (tx : Tx) (is : Is) (wa : Wa) (hi : Hi) : ∃ is', fL_count tx is wa st hi (6 : Int32) = some (vq 5, is') := by
  obtain ⟨i, e⟩ := cnt_v h (k := 6) (by decide) tx is wa hi
  refine ⟨i, e.trans ?_⟩
  unfold CVL
  rw [if_neg (by decide), if_neg (by decide), if_neg (by decide), if_neg (by decide), if_neg (by decide), if_neg (by decide), if_pos rfl, AA_q (by decide)]
theorem cq_7 (h : CSx st (AA vq vw vc) m n p l s r cd) (tx : Tx) (is : Is) (wa : Wa) (hi : Hi) : ∃ is', fL_count tx is wa st hi (7 : Int32) = some (nI (BM n p l s cd), is') := by
  obtain ⟨i, e⟩ := cnt_v h (k := 7) (by decide) tx is wa hi
  refine ⟨i, e.trans ?_⟩
  unfold CVL
  rw [if_neg (by decide), if_neg (by decide), if_neg (by decide), if_neg (by decide), if_neg (by decide), if_neg (by decide), if_neg (by decide), if_pos rfl]
theorem cq_8 (h : CSx st (AA vq vw vc) m n p l s r cd) (tx : Tx) (is : Is) (wa : Wa) (hi : Hi) : ∃ is', fL_count tx is wa st hi (8 : Int32) = some (nI (onW st), is') := by
  obtain ⟨i, e⟩ := cnt_v h (k := 8) (by decide) tx is wa hi
  refine ⟨i, e.trans ?_⟩
  unfold CVL
  rw [if_neg (by decide), if_neg (by decide), if_neg (by decide), if_neg (by decide), if_neg (by decide), if_neg (by decide), if_neg (by decide), if_neg (by decide), if_pos rfl]
theorem cq_9 (h : CSx st (AA vq vw vc) m n p l s r cd) (tx : Tx) (is : Is) (wa : Wa) (hi : Hi) : ∃ is', fL_count tx is wa st hi (9 : Int32) = some (vq 7, is') := by
  obtain ⟨i, e⟩ := cnt_v h (k := 9) (by decide) tx is wa hi
  refine ⟨i, e.trans ?_⟩
  unfold CVL
  rw [if_neg (by decide), if_neg (by decide), if_neg (by decide), if_neg (by decide), if_neg (by decide), if_neg (by decide), if_neg (by decide), if_neg (by decide), if_neg (by decide), if_pos rfl, AA_q (by decide)]
theorem cq_10 (h : CSx st (AA vq vw vc) m n p l s r cd) (tx : Tx) (is : Is) (wa : Wa) (hi : Hi) : ∃ is', fL_count tx is wa st hi (10 : Int32) = some (vq 8, is') := by
  obtain ⟨i, e⟩ := cnt_v h (k := 10) (by decide) tx is wa hi
  refine ⟨i, e.trans ?_⟩
  unfold CVL
  rw [if_neg (by decide), if_neg (by decide), if_neg (by decide), if_neg (by decide), if_neg (by decide), if_neg (by decide), if_neg (by decide), if_neg (by decide), if_neg (by decide), if_neg (by decide), if_pos rfl, AA_q (by decide)]
theorem cq_11 (h : CSx st (AA vq vw vc) m n p l s r cd) (tx : Tx) (is : Is) (wa : Wa) (hi : Hi) : ∃ is', fL_count tx is wa st hi (11 : Int32) = some (vq 6, is') := by
  obtain ⟨i, e⟩ := cnt_v h (k := 11) (by decide) tx is wa hi
  refine ⟨i, e.trans ?_⟩
  unfold CVL
  rw [if_neg (by decide), if_neg (by decide), if_neg (by decide), if_neg (by decide), if_neg (by decide), if_neg (by decide), if_neg (by decide), if_neg (by decide), if_neg (by decide), if_neg (by decide), if_neg (by decide), AA_q (by decide)]
theorem on_c (h : CSx st (AA vq vw vc) m n p l s r cd) {c : Nat} (hc : c < 3) : (if (0 : Int32) ≤ vc (7 * c + 0) then (some (1 : Int32)) else (some (0 : Int32))) = some (nI (if St_under st c = -1 then 0 else 1)) := by
  have hn := h.1.2.2.2.2.2.1
  rw [(cl_row (h.2.2.2.1 c hc) hc).1]
  by_cases u : St_under st c = -1
  · rw [if_pos u, if_neg (by rw [u]; decide)]
    rfl
  · obtain ⟨a, z, a1, a2, a3, a4, a5⟩ := (h.2.2.2.1 c hc).2.2.2.2.2.2.2.2.resolve_left u
    rw [if_neg u, if_pos (by rw [a4]; exact nI_pos' (by omega))]
    rfl
theorem bd2_some {α1 α2 β : Type} {o : Option (α1 × α2)} {a : α1} {b : α2} (h : o = some (a, b)) (f : α1 → α2 → Option β) : bd2 o f = f a b := by rw [h]; rfl
theorem is_so {vl : AI} (h : CSx st (AA vq vw vc) m n p l s r cd) (hl : LL vl n r cd) (hm : m < 1000000) (tx : Tx) (is : Is) (wa : Wa) (hi : Hi) (x : Int32) : ∃ is' wa', fL_isSo tx is wa st hi vq vw vc vl x = some (1, is', wa') := by
  have hQ := h.2.2.1.lq
  have hn := h.1.2.2.2.2.2.1
  have q0 := hQ.1
  have o0 := on_c h (c := 0) (by decide)
  have o1 := on_c h (c := 1) (by decide)
  have o2 := on_c h (c := 2) (by decide)
  have eon : nI (if St_under st 0 = -1 then 0 else 1) + nI (if St_under st 1 = -1 then 0 else 1) + nI (if St_under st 2 = -1 then 0 else 1) = nI (onW st) := by
    rw [nI_add, nI_add]
    unfold onW
    rw [fb_sm_succ, fb_sm_succ, fb_sm_succ, show fb_sm (fun c => if St_under st c = -1 then 0 else 1) 0 = 0 from rfl, Nat.zero_add]
  have o0' : (if (0 : Int32) ≤ vc 0 then (some (1 : Int32)) else (some (0 : Int32))) = some (nI (if St_under st 0 = -1 then 0 else 1)) := o0
  have o1' : (if (0 : Int32) ≤ vc 7 then (some (1 : Int32)) else (some (0 : Int32))) = some (nI (if St_under st 1 = -1 then 0 else 1)) := o1
  have o2' : (if (0 : Int32) ≤ vc 14 then (some (1 : Int32)) else (some (0 : Int32))) = some (nI (if St_under st 2 = -1 then 0 else 1)) := o2
  obtain ⟨is0, g0⟩ := cq_0 h tx is wa hi
  obtain ⟨is1, g1⟩ := cq_1 h tx is0 wa hi
  obtain ⟨is2, g2⟩ := cq_2 h tx is1 wa hi
  obtain ⟨is3, g3⟩ := cq_3 h tx is2 wa hi
  obtain ⟨is4, g4⟩ := cq_4 h tx is3 wa hi
  obtain ⟨is5, g5⟩ := cq_5 h tx is4 wa hi
  obtain ⟨is6, g6⟩ := cq_6 h tx is5 wa hi
  obtain ⟨is7, g7⟩ := cq_7 h tx is6 wa hi
  obtain ⟨is8, g8⟩ := cq_8 h tx is7 wa hi
  obtain ⟨is9, g9⟩ := cq_9 h tx is8 wa hi
  obtain ⟨is10, g10⟩ := cq_10 h tx is9 wa hi
  obtain ⟨is11, g11⟩ := cq_11 h tx is10 wa hi
  obtain ⟨s0, s1⟩ := set_v h tx is11 wa hi
  rw [AA_q (by decide)] at s0 s1
  obtain ⟨xm, m1, m2, m3⟩ := cs_mean h hm tx is11 wa hi
  obtain ⟨xs, d1, d2, d3⟩ := cs_share h tx is11 wa hi
  obtain ⟨c3, c31, c32⟩ := lw_low x (n := 3) (by decide) (by decide)
  have c32' : fL_low x (3 : Int32) = some (nI c3) := c32
  obtain ⟨wa1, ic⟩ := is_climber h hl c31 tx is11 wa hi
  unfold fL_isSo
  rw [so_12 hQ hl, pu_bd3, z10_0, z10_1, z10_2, z10_3, z10_4, z10_5, z10_6, z10_7, z10_8, z10_9, z10_14, o0', pu_bd, o1', pu_bd, o2', pu_bd, eon, pu_pl]
  rw [bd2_some (a := vq 0) (b := is0) g0, if_pos rfl, g1, pu_bd2, if_pos rfl, g2, pu_bd2, if_pos rfl, g3, pu_bd2, if_pos rfl, g4, pu_bd2, if_pos rfl, g5, pu_bd2, if_pos rfl, g6, pu_bd2, if_pos rfl, g7, pu_bd2, if_pos rfl, g8, pu_bd2, if_pos rfl, g9, pu_bd2, if_pos rfl, g10, pu_bd2, if_pos rfl, g11, pu_bd2, if_pos rfl, s0, pu_bd, if_pos rfl, s1, pu_bd, if_pos rfl, pu_bd2]
  rw [if_neg (by decide), m1, pu_bd, m2, pu_bd, if_pos m3, d1, pu_bd, d2, pu_bd, if_pos d3, c32', pu_bd, ic, pu_bd2, if_neg (by decide), pu_bd2, if_neg (by decide)]
  by_cases e0 : n = 0
  · have ez : vq 0 = (0 : Int32) := by rw [q0, e0]; rfl
    have sf : fX5_safest tx is11 wa1 st hi = some (-1) := by
      unfold fX5_safest
      have e1 : fX5_safest_L6 st 1000 (-1 : Int32) (-1 : Int32) (0 : Int32) = some (-1) := by
        rw [fX5_safest_L6, h.1.1, e0, if_pos (by decide)]
      rw [e1]
    rw [if_pos ez, if_neg (by decide), sf, pu_bd, if_pos rfl, pu_bd, zb_1, pu_ck]
    exact ⟨_, _, rfl⟩
  · have enz : ¬ vq 0 = (0 : Int32) := by rw [q0, show (0 : Int32) = nI 0 from rfl, nI_eq (by omega) (by decide)]; exact e0
    obtain ⟨a, a1, a2⟩ := lw_low (x >>> ((2 : Int32) &&& 31)) (n := n) (by omega) (by omega)
    obtain ⟨b, b1, b2⟩ := lw_low (x >>> ((8 : Int32) &&& 31)) (n := n) (by omega) (by omega)
    obtain ⟨k, k1, k2⟩ := lw_low (x >>> ((14 : Int32) &&& 31)) (n := 3) (by decide) (by decide)
    have k2' : fL_low (x >>> ((14 : Int32) &&& 31)) (3 : Int32) = some (nI k) := k2
    obtain ⟨y1, p1, p2⟩ := pu_bla h.1 h.2.1 a1 b1 wa1
    obtain ⟨y2, l1, l2⟩ := lw_ladder hQ hl a1 b1
    have ey := p2.uniq l2
    subst ey
    have pl1 : fL_plain tx is11 wa1 st hi (nI a) (nI b) = some y1 := by
      unfold fL_plain fX5_plain
      rw [pu_hasWord h.1 a1, pu_bd, if_neg (by decide), pu_hasWord h.1 b1, pu_bd, if_neg (by decide), p1, pu_bd]
      rfl
    obtain ⟨y3, w1, w2, -⟩ := cs_why h k1 a1
    have wy : fL_why tx is11 wa1 st hi (nI k) (nI a) = some y3 := by
      unfold fL_why fX5_why
      rw [pu_clm k1, pu_bd, if_neg (by decide), pu_hasWord h.1 a1, pu_bd, if_neg (by decide), w1, pu_bd]
      rfl
    have hv := hQ.2.2.2.2.2.2.2.2.2.2 a a1
    -- what would be, were one put there
    have ip : ∃ y wa', fL_ifPut tx is11 wa1 st hi (nI a) (nI b) = some (y, wa') ∧ (if nI a = nI b then (some (-102 : Int32)) else (ck (inb (nI a) 24) (bd (fL_isBarred vq (vw (nI a).toNatClampNeg) (0 : Int32)) fun (r71 : Int32) => (if r71 = (0 : Int32) then (bd (fL_fewest vq vw vl (nI a) (nI b) (0 : Int32)) fun (r73 : Int32) => (some r73)) else (some (-1 : Int32)))))) = some y := by
      unfold fL_ifPut fX5_ifPut
      rw [pu_hasWord h.1 a1, pu_bd, if_neg (by decide), pu_hasWord h.1 b1, pu_bd, if_neg (by decide)]
      by_cases e : a = b
      · rw [if_pos (show nI a = nI b by rw [e]), if_pos (show nI a = nI b by rw [e])]
        exact ⟨-102, wa1, rfl, rfl⟩
      · have e' : ¬ nI a = nI b := by rw [nI_eq (by omega) (by omega)]; exact e
        obtain ⟨v, g1, g2⟩ := pu_isBarred h.1 (t := 0) (by decide) a1
        obtain ⟨v6, x1, x2⟩ := lw_isBarred hQ a1 (t := 0) (by decide)
        have g1' : fX2_isBarredAfter st (nI a) (0 : Int32) = some v := g1
        have x1' : fL_isBarred vq (nI (cd a)) (0 : Int32) = some v6 := x1
        rw [if_neg e', if_neg e', g1', pu_bd, pu_inb (by omega) (by decide), pu_cl (by omega), pu_ck, hv.1, x1', pu_bd]
        have ev : v = v6 ∧ (v = 0 ∨ v = 1) := by
          rcases g2 with ⟨rfl, z1⟩ | ⟨rfl, z1⟩ <;> rcases x2 with ⟨rfl, z2⟩ | ⟨rfl, z2⟩
          · exact ⟨rfl, Or.inr rfl⟩
          · exact absurd z1 z2
          · exact absurd z2 z1
          · exact ⟨rfl, Or.inl rfl⟩
        obtain ⟨rfl, ev⟩ := ev
        rcases ev with rfl | rfl
        · obtain ⟨z1, wb, t1, t2⟩ := pu_onw (p4 := 0) (go := True) h.1 h.2.1 a1 b1 ⟨fun _ => trivial, fun _ => rfl⟩ wa1
          obtain ⟨z2, f1, f2⟩ := lw_fewest (p2 := 0) (go := True) hQ hl a1 b1 e ⟨fun _ => trivial, fun _ => rfl⟩
          have ez := t2.uniq f2
          subst ez
          rw [if_pos rfl, if_pos rfl, t1, pu_bd2, f1, pu_bd]
          exact ⟨z1, wb, rfl, rfl⟩
        · rw [if_neg (by decide), if_neg (by decide)]
          exact ⟨-1, wa1, rfl, rfl⟩
    obtain ⟨y4, wa2, i1, i2⟩ := ip
    rw [if_neg enz, q0, a2, pu_bd, b2, pu_bd, k2', pu_bd, is_word h hl a1, pu_bd, if_neg (by decide), pl1, pu_bd, l1, pu_bd, if_pos rfl, wy, pu_bd, w2, pu_bd, if_pos rfl, i1, pu_bd2, i2, pu_bd, if_pos rfl, pu_bd2, zb_1, pu_ck]
    exact ⟨_, _, rfl⟩
end CQ
/-! what is told of a state, as one number: of the state alone -/
theorem told_L6 {st : St} {A : AI} {m n p l s r : Nat} {cd : Nat → Nat} (h : CSx st A m n p l s r cd) : ∀ (d k f : Nat) (v : Int64), k + d = 12 → d < f → ∃ v', ∀ (tx : Tx) (wa : Wa) (hi : Hi) (is : Is), ∃ is', fL_told_L6 tx wa st hi f v (nI k) is = some (v', is') := by
  intro d
  induction d with
  | zero =>
    intro k f v hk hf
    obtain ⟨f, rfl, -⟩ := pu_fuel hf
    exact ⟨v, fun tx wa hi is => ⟨is, by rw [fL_told_L6, if_pos (show (12 : Int32) ≤ nI k from nI_le (a := 12) (by omega) (by omega))]⟩⟩
  | succ d ih =>
    intro k f v hk hf
    obtain ⟨f, rfl, hf⟩ := pu_fuel hf
    obtain ⟨v', hv⟩ := ih (k + 1) f (((31 : Int64) * v) + ((CVL st A n p l s r cd k).toInt64)) (by omega) (by omega)
    refine ⟨v', fun tx wa hi is => ?_⟩
    obtain ⟨is1, e⟩ := cnt_v h (k := k) (by omega) tx is wa hi
    obtain ⟨is2, e2⟩ := hv tx wa hi is1
    refine ⟨is2, ?_⟩
    rw [fL_told_L6, if_neg (show ¬ (12 : Int32) ≤ nI k from nI_ge (b := 12) (by omega) (by omega)), e, pu_bd2, pu_pl, pu_pl, nI_1]
    exact e2
theorem told_L33 {st : St} {vq vw vc : AI} {m n p l s r : Nat} {cd : Nat → Nat} (h : CSx st (AA vq vw vc) m n p l s r cd) : ∀ (d k f : Nat) (v : Int64), k + d = 21 → d < f → ∃ v', ∀ (tx : Tx) (hi : Hi) (is : Is) (wa : Wa), ∃ wa', fL_told_L33 tx st hi is f v (nI k) wa = some (v', wa') := by
  intro d
  induction d with
  | zero =>
    intro k f v hk hf
    obtain ⟨f, rfl, -⟩ := pu_fuel hf
    exact ⟨v, fun tx hi is wa => ⟨wa, by rw [fL_told_L33, if_pos (show (21 : Int32) ≤ nI k from nI_le (a := 21) (by omega) (by omega))]⟩⟩
  | succ d ih =>
    intro k f v hk hf
    obtain ⟨f, rfl, hf⟩ := pu_fuel hf
    obtain ⟨v', hv⟩ := ih (k + 1) f (((31 : Int64) * v) + ((vc (7 * (k / 7) + k % 7)).toInt64)) (by omega) (by omega)
    refine ⟨v', fun tx hi is wa => ?_⟩
    obtain ⟨wa2, e2⟩ := hv tx hi is wa
    refine ⟨wa2, ?_⟩
    have e7 : nI k / (7 : Int32) = nI (k / 7) := by rw [show (7 : Int32) = nI 7 from rfl, pk_div (by omega) (by decide) (by decide)]
    have e8 : nI k - nI k / (7 : Int32) * (7 : Int32) = nI (k % 7) := by rw [show (7 : Int32) = nI 7 from rfl, pk_rem (by omega) (by decide) (by decide)]
    rw [fL_told_L33, if_neg (show ¬ (21 : Int32) ≤ nI k from nI_ge (b := 21) (by omega) (by omega)), e8, e7, cl_v h (by omega) (by omega), pu_bd2, pu_pl, pu_pl, nI_1]
    exact e2
theorem told_v {st : St} {vq vw vc : AI} {m n p l s r : Nat} {cd : Nat → Nat} (h : CSx st (AA vq vw vc) m n p l s r cd) : ∃ v : Int64, ∀ (tx : Tx) (is : Is) (wa : Wa) (hi : Hi), ∃ is' wa', fL_told tx is wa st hi = some (v, is', wa') := by
  obtain ⟨v1, h1⟩ := told_L6 h 12 0 1000 139 rfl (by decide)
  obtain ⟨v2, h2⟩ := told_L33 h 21 0 1000 v1 rfl (by decide)
  refine ⟨(((31 : Int64) * (((31 : Int64) * v2) + ((AA vq vw vc 3).toInt64))) + ((AA vq vw vc 4).toInt64)), fun tx is wa hi => ?_⟩
  obtain ⟨is1, e1⟩ := h1 tx wa hi is
  obtain ⟨wa1, e2⟩ := h2 tx hi is1 wa
  obtain ⟨s0, s1⟩ := set_v h tx is1 wa1 hi
  have e1' : fL_told_L6 tx wa st hi 1000 (139 : Int64) (0 : Int32) is = some (v1, is1) := e1
  have e2' : fL_told_L33 tx st hi is1 1000 v1 (0 : Int32) wa = some (v2, wa1) := e2
  refine ⟨is1, wa1, ?_⟩
  unfold fL_told
  rw [e1', pu_bd2, e2', pu_bd2, s0, pu_bd, s1, pu_bd]
end ISO
