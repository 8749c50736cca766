section DIG
def Dk (a b : Mo) : Prop := Hsame a b ∧ Mo_state b = Mo_state a ∧ Mo_buffer b = Mo_buffer a ∧ Mo_length b = Mo_length a
theorem Dk.refl (a : Mo) : Dk a a := ⟨Hsame.refl a, rfl, rfl, rfl⟩
theorem Dk.trans {a b c : Mo} (h1 : Dk a b) (h2 : Dk b c) : Dk a c := ⟨h1.1.trans h2.1, h2.2.1.trans h1.2.1, h2.2.2.1.trans h1.2.2.1, h2.2.2.2.trans h1.2.2.2⟩
theorem Same.d {a b : Mo} (h : Same a b) : Dk a b := ⟨h.p.hs, h.state, h.p.rest.2.2.2.2.2.1, h.p.rest.2.2.2.2.2.2.1⟩
theorem Same.hash {a b : Mo} (h : Same a b) : Mo_hash b = Mo_hash a := h.p.rest.2.2.2.2.2.2.2
theorem Dk_h (a : Mo) (x : Int64) : Dk a (Mo_set_hash a x) := ⟨⟨rfl, rfl, rfl, rfl⟩, rfl, rfl, rfl⟩
theorem mix5 (h x : Int64) : fX5_mix h x = some ((31 : Int64) * h + x) := rfl
theorem mix6 {mo : Mo} {h : Int64} (x : Int64) (e : Mo_hash mo = h) : fX6_mix mo x = some (Mo_set_hash mo ((31 : Int64) * h + x)) := by
  unfold fX6_mix
  rw [pu_pl, e]
theorem dg_count {st : St} {m n p l s r : Nat} {cd : Nat → Nat} {tx : Tx} {wa : Wa} {hi : Hi} : ∀ (d k f g : Nat) (h : Int64) (is : Is) (mo : Mo), k + d = 13 → d < f → d < g → CSx st (Mo_state mo) m n p l s r cd → Hi_size hi = Mo_savedMany mo → Mo_hash mo = h → ∃ h' is' mo', fX5_digest_L6 tx wa st hi f h (nI k) is = some (h', is') ∧ fX6_digest_L14 g (nI k) mo = some mo' ∧ Mo_hash mo' = h' ∧ Dk mo mo' := by
  intro d
  induction d with
  | zero =>
    intro k f g h is mo hk hf hg hx hz hh
    obtain ⟨f, rfl, -⟩ := pu_fuel hf
    obtain ⟨g, rfl, -⟩ := pu_fuel hg
    refine ⟨h, is, mo, ?_, ?_, hh, Dk.refl mo⟩
    · rw [fX5_digest_L6, if_pos (show (12 : Int32) < nI k from nI_lt (a := 12) (by omega) (by omega))]
    · rw [fX6_digest_L14, if_pos (show (13 : Int32) ≤ nI k from nI_le (a := 13) (by omega) (by omega))]
  | succ d ih =>
    intro k f g h is mo hk hf hg hx hz hh
    obtain ⟨f, rfl, hf⟩ := pu_fuel hf
    obtain ⟨g, rfl, hg⟩ := pu_fuel hg
    obtain ⟨y, is1, mo1, e1, e2, e3⟩ := cs_count hx (show k ≤ 12 by omega) tx is wa hi hz
    have hh1 : Mo_hash mo1 = h := e3.hash.trans hh
    have D1 : Dk mo (Mo_set_hash mo1 ((31 : Int64) * h + y.toInt64)) := e3.d.trans (Dk_h _ _)
    obtain ⟨h', is', mo', k1, k2, k3, k4⟩ := ih (k + 1) f g ((31 : Int64) * h + y.toInt64) is1 (Mo_set_hash mo1 ((31 : Int64) * h + y.toInt64)) (by omega) (by omega) (by omega) (by rw [D1.2.1]; exact hx) (hz.trans D1.1.2.1.symm) rfl
    refine ⟨h', is', mo', ?_, ?_, k3, D1.trans k4⟩
    · rw [fX5_digest_L6, if_neg (show ¬ (12 : Int32) < nI k from nI_nlt (a := 12) (by omega) (by omega)), e1, pu_bd2, mix5, pu_bd, pu_pl, nI_1, k1]
    · rw [fX6_digest_L14, if_neg (show ¬ (13 : Int32) ≤ nI k from nI_ge (b := 13) (by omega) (by omega)), e2, pu_bd2, mix6 _ hh1, pu_bd, pu_pl, nI_1, k2]
theorem dg_div (w k : Nat) (hk : k < 10) (hw : w < 1000) : nI (10 * w + k) / (10 : Int32) = nI w ∧ nI (10 * w + k) - nI (10 * w + k) / (10 : Int32) * (10 : Int32) = nI k := by
  have e1 : nI (10 * w + k) / (10 : Int32) = nI ((10 * w + k) / 10) := pk_div (d := 10) (by omega) (by decide) (by decide)
  have e2 : nI (10 * w + k) - nI (10 * w + k) / (10 : Int32) * (10 : Int32) = nI ((10 * w + k) % 10) := pk_rem (d := 10) (by omega) (by decide) (by decide)
  rw [e2, e1]
  exact ⟨congrArg nI (by omega), congrArg nI (by omega)⟩
theorem dg_word_L {st : St} {m n p l s r w : Nat} {cd : Nat → Nat} {tx : Tx} {is : Is} {wa : Wa} {hi : Hi} (hw : w < n) : ∀ (d k f : Nat) (h : Int64) (mo : Mo), k + d = 10 → d < f → CSx st (Mo_state mo) m n p l s r cd → Mo_hash mo = h → ∃ h' mo', fX5_mixWords_L20 tx is wa st hi (nI w) f h (nI k) = some h' ∧ (∀ g, fX6_digest_L60 (g + d) (nI (10 * w + k)) mo = fX6_digest_L60 g (nI (10 * (w + 1))) mo') ∧ Mo_hash mo' = h' ∧ Dk mo mo' := by
  intro d
  induction d with
  | zero =>
    intro k f h mo hk hf hx hh
    obtain ⟨f, rfl, -⟩ := pu_fuel hf
    refine ⟨h, mo, ?_, fun g => ?_, hh, Dk.refl mo⟩
    · rw [fX5_mixWords_L20, if_pos (show (9 : Int32) < nI k from nI_lt (a := 9) (by omega) (by omega))]
    · rw [show 10 * w + k = 10 * (w + 1) by omega]; rfl
  | succ d ih =>
    intro k f h mo hk hf hx hh
    obtain ⟨f, rfl, hf⟩ := pu_fuel hf
    have hn := hx.1.2.2.2.2.2.1
    obtain ⟨y, mo1, e1, e2, e3⟩ := cs_word hx hw (show k ≤ 9 by omega) tx is wa hi
    have hh1 : Mo_hash mo1 = h := e3.hash.trans hh
    have D1 : Dk mo (Mo_set_hash mo1 ((31 : Int64) * h + y.toInt64)) := e3.d.trans (Dk_h _ _)
    obtain ⟨h', mo', k1, k2, k3, k4⟩ := ih (k + 1) f ((31 : Int64) * h + y.toInt64) (Mo_set_hash mo1 ((31 : Int64) * h + y.toInt64)) (by omega) (by omega) (by rw [D1.2.1]; exact hx) rfl
    refine ⟨h', mo', ?_, fun g => ?_, k3, D1.trans k4⟩
    · rw [fX5_mixWords_L20, if_neg (show ¬ (9 : Int32) < nI k from nI_nlt (a := 9) (by omega) (by omega)), e1, pu_bd, mix5, pu_bd, pu_pl, nI_1, k1]
    · obtain ⟨d1, d2⟩ := dg_div w k (by omega) (by omega)
      rw [show g + (d + 1) = g + d + 1 from rfl, fX6_digest_L60, i55_0, c55_0, hx.2.2.1.1, pu_ck, show (10 : Int32) * nI n = nI (10 * n) from pk_mul 10 n, if_neg (nI_ge (by omega) (by omega)), d2, d1, e2, pu_bd2, mix6 _ hh1, pu_bd, pu_pl, nI_1, ← k2 g]
      rfl
theorem dg_words {st : St} {m n p l s r : Nat} {cd : Nat → Nat} {tx : Tx} {is : Is} {wa : Wa} {hi : Hi} : ∀ (d w f g : Nat) (h : Int64) (mo : Mo), w + d = n → d < f → 10 * d < g → CSx st (Mo_state mo) m n p l s r cd → Mo_hash mo = h → ∃ h' mo', fX5_mixWords_L5 tx is wa st hi f h (nI w) = some h' ∧ fX6_digest_L60 g (nI (10 * w)) mo = some mo' ∧ Mo_hash mo' = h' ∧ Dk mo mo' := by
  intro d
  induction d with
  | zero =>
    intro w f g h mo hk hf hg hx hh
    obtain ⟨f, rfl, -⟩ := pu_fuel hf
    obtain ⟨g, rfl, -⟩ := pu_fuel hg
    have hn := hx.1.2.2.2.2.2.1
    refine ⟨h, mo, ?_, ?_, hh, Dk.refl mo⟩
    · rw [fX5_mixWords_L5, hx.1.1, if_pos (nI_le (by omega) (by omega))]
    · rw [fX6_digest_L60, i55_0, c55_0, hx.2.2.1.1, pu_ck, show (10 : Int32) * nI n = nI (10 * n) from pk_mul 10 n, if_pos (nI_le (by omega) (by omega))]
  | succ d ih =>
    intro w f g h mo hk hf hg hx hh
    obtain ⟨f, rfl, hf⟩ := pu_fuel hf
    have hn := hx.1.2.2.2.2.2.1
    obtain ⟨h1, mo1, e1, e2, e3, e4⟩ := dg_word_L (tx := tx) (is := is) (wa := wa) (hi := hi) (w := w) (by omega) 10 0 1000 h mo rfl (by decide) hx hh
    obtain ⟨h', mo', k1, k2, k3, k4⟩ := ih (w + 1) f (g - 10) h1 mo1 (by omega) (by omega) (by omega) (by rw [e4.2.1]; exact hx) e3
    have e1' : fX5_mixWords_L20 tx is wa st hi (nI w) 1000 h (0 : Int32) = some h1 := e1
    refine ⟨h', mo', ?_, ?_, k3, e4.trans k4⟩
    · rw [fX5_mixWords_L5, hx.1.1, if_neg (nI_ge (by omega) (by omega)), e1', pu_bd, pu_pl, nI_1, k1]
    · have := e2 (g - 10)
      rw [show g - 10 + 10 = g by omega, k2] at this
      exact this
theorem dg_cl_L {st : St} {m n p l s r c : Nat} {cd : Nat → Nat} {tx : Tx} {is : Is} {hi : Hi} (hc : c < 3) : ∀ (d k f : Nat) (h : Int64) (wa : Wa) (mo : Mo), k + d = 10 → d < f → CSx st (Mo_state mo) m n p l s r cd → Mo_hash mo = h → ∃ h' wa' mo', fX5_digest_L73 tx st hi is (nI c) f h (nI k) wa = some (h', wa') ∧ (∀ g, fX6_digest_L98 (g + d) (nI (10 * c + k)) mo = fX6_digest_L98 g (nI (10 * (c + 1))) mo') ∧ Mo_hash mo' = h' ∧ Dk mo mo' := by
  intro d
  induction d with
  | zero =>
    intro k f h wa mo hk hf hx hh
    obtain ⟨f, rfl, -⟩ := pu_fuel hf
    refine ⟨h, wa, mo, ?_, fun g => ?_, hh, Dk.refl mo⟩
    · rw [fX5_digest_L73, if_pos (show (9 : Int32) < nI k from nI_lt (a := 9) (by omega) (by omega))]
    · rw [show 10 * c + k = 10 * (c + 1) by omega]; rfl
  | succ d ih =>
    intro k f h wa mo hk hf hx hh
    obtain ⟨f, rfl, hf⟩ := pu_fuel hf
    obtain ⟨y, wa1, mo1, e1, e2, e3⟩ := cs_climber hx hc (show k ≤ 9 by omega) tx is wa hi
    have hh1 : Mo_hash mo1 = h := e3.hash.trans hh
    have D1 : Dk mo (Mo_set_hash mo1 ((31 : Int64) * h + y.toInt64)) := e3.d.trans (Dk_h _ _)
    obtain ⟨h', wa', mo', k1, k2, k3, k4⟩ := ih (k + 1) f ((31 : Int64) * h + y.toInt64) wa1 (Mo_set_hash mo1 ((31 : Int64) * h + y.toInt64)) (by omega) (by omega) (by rw [D1.2.1]; exact hx) rfl
    refine ⟨h', wa', mo', ?_, fun g => ?_, k3, D1.trans k4⟩
    · rw [fX5_digest_L73, if_neg (show ¬ (9 : Int32) < nI k from nI_nlt (a := 9) (by omega) (by omega)), e1, pu_bd2, mix5, pu_bd, pu_pl, nI_1, k1]
    · obtain ⟨d1, d2⟩ := dg_div c k (by omega) (by omega)
      rw [show g + (d + 1) = g + d + 1 from rfl, fX6_digest_L98, if_neg (show ¬ (30 : Int32) ≤ nI (10 * c + k) from nI_ge (b := 30) (by omega) (by omega)), d2, d1, e2, pu_bd2, mix6 _ hh1, pu_bd, pu_pl, nI_1, ← k2 g]
      rfl
theorem dg_cls {st : St} {m n p l s r : Nat} {cd : Nat → Nat} {tx : Tx} {is : Is} {hi : Hi} : ∀ (d c f g : Nat) (h : Int64) (wa : Wa) (mo : Mo), c + d = 3 → d < f → 10 * d < g → CSx st (Mo_state mo) m n p l s r cd → Mo_hash mo = h → ∃ h' wa' mo', fX5_digest_L65 tx st hi is f h (nI c) wa = some (h', wa') ∧ fX6_digest_L98 g (nI (10 * c)) mo = some mo' ∧ Mo_hash mo' = h' ∧ Dk mo mo' := by
  intro d
  induction d with
  | zero =>
    intro c f g h wa mo hk hf hg hx hh
    obtain ⟨f, rfl, -⟩ := pu_fuel hf
    obtain ⟨g, rfl, -⟩ := pu_fuel hg
    refine ⟨h, wa, mo, ?_, ?_, hh, Dk.refl mo⟩
    · rw [fX5_digest_L65, if_pos (show (3 : Int32) ≤ nI c from nI_le (a := 3) (by omega) (by omega))]
    · rw [fX6_digest_L98, if_pos (show (30 : Int32) ≤ nI (10 * c) from nI_le (a := 30) (by omega) (by omega))]
  | succ d ih =>
    intro c f g h wa mo hk hf hg hx hh
    obtain ⟨f, rfl, hf⟩ := pu_fuel hf
    obtain ⟨h1, wa1, mo1, e1, e2, e3, e4⟩ := dg_cl_L (tx := tx) (is := is) (hi := hi) (c := c) (by omega) 10 0 1000 h wa mo rfl (by decide) hx hh
    obtain ⟨h', wa', mo', k1, k2, k3, k4⟩ := ih (c + 1) f (g - 10) h1 wa1 mo1 (by omega) (by omega) (by omega) (by rw [e4.2.1]; exact hx) e3
    have e1' : fX5_digest_L73 tx st hi is (nI c) 1000 h (0 : Int32) wa = some (h1, wa1) := e1
    refine ⟨h', wa', mo', ?_, ?_, k3, e4.trans k4⟩
    · rw [fX5_digest_L65, if_neg (show ¬ (3 : Int32) ≤ nI c from nI_ge (b := 3) (by omega) (by omega)), e1', pu_bd2, pu_pl, nI_1, k1]
    · have := e2 (g - 10)
      rw [show g - 10 + 10 = g by omega, k2] at this
      exact this
theorem dg_plain {st : St} {m n p l s r : Nat} {cd : Nat → Nat} {wa : Wa} : ∀ (d w f g : Nat) (h : Int64) (mo : Mo), w + d = n → d < f → d < g → CSx st (Mo_state mo) m n p l s r cd → Mo_hash mo = h → ∃ h' mo', fX5_digest_L107 st wa f h (nI w) = some h' ∧ fX6_digest_L129 g (nI w) mo = some mo' ∧ Mo_hash mo' = h' ∧ Dk mo mo' := by
  intro d
  induction d with
  | zero =>
    intro w f g h mo hk hf hg hx hh
    obtain ⟨f, rfl, -⟩ := pu_fuel hf
    obtain ⟨g, rfl, -⟩ := pu_fuel hg
    have hn := hx.1.2.2.2.2.2.1
    refine ⟨h, mo, ?_, ?_, hh, Dk.refl mo⟩
    · rw [fX5_digest_L107, hx.1.1, if_pos (nI_le (by omega) (by omega))]
    · rw [fX6_digest_L129, i55_0, c55_0, hx.2.2.1.1, pu_ck, if_pos (nI_le (by omega) (by omega))]
  | succ d ih =>
    intro w f g h mo hk hf hg hx hh
    obtain ⟨f, rfl, hf⟩ := pu_fuel hf
    obtain ⟨g, rfl, hg⟩ := pu_fuel hg
    have hn := hx.1.2.2.2.2.2.1
    obtain ⟨y, e1, e2⟩ := pu_bla hx.1 hx.2.1 (a := 0) (z := w) (by omega) (by omega) wa
    obtain ⟨y6, mo1, f1, f2, f3⟩ := pm_plain hx.2.2.1 (a := 0) (z := w) (by omega) (by omega)
    have ey := e2.uniq f3
    subst ey
    have e1' : fX4_byLinksAlone wa st (0 : Int32) (nI w) = some y := e1
    have f1' : fX6_tellsPlain mo (0 : Int32) (nI w) = some (y, mo1) := f1
    have hh1 : Mo_hash mo1 = h := f2.hash.trans hh
    have D1 : Dk mo (Mo_set_hash mo1 ((31 : Int64) * h + y.toInt64)) := f2.d.trans (Dk_h _ _)
    obtain ⟨h', mo', k1, k2, k3, k4⟩ := ih (w + 1) f g ((31 : Int64) * h + y.toInt64) (Mo_set_hash mo1 ((31 : Int64) * h + y.toInt64)) (by omega) (by omega) (by omega) (by rw [D1.2.1]; exact hx) rfl
    refine ⟨h', mo', ?_, ?_, k3, D1.trans k4⟩
    · rw [fX5_digest_L107, hx.1.1, if_neg (nI_ge (by omega) (by omega)), e1', pu_bd, mix5, pu_bd, pu_pl, nI_1, k1]
    · rw [fX6_digest_L129, i55_0, c55_0, hx.2.2.1.1, pu_ck, if_neg (nI_ge (by omega) (by omega)), f1', pu_bd2, mix6 _ hh1, pu_bd, pu_pl, nI_1, k2]
theorem dg_text {tx : Tx} {len : Nat} {c : Nat → Nat} : ∀ (d i f g : Nat) (h : Int64) (mo : Mo), i + d = len → d < f → d < g → TB tx mo len c → Mo_hash mo = h → ∃ h' mo', fX5_mixText_L16 tx f h (nI i) = some h' ∧ fX6_digest_L215 g (nI i) mo = some mo' ∧ Mo_hash mo' = h' ∧ Dk mo mo' := by
  intro d
  induction d with
  | zero =>
    intro i f g h mo hk hf hg hT hh
    obtain ⟨f, rfl, -⟩ := pu_fuel hf
    obtain ⟨g, rfl, -⟩ := pu_fuel hg
    have hl := hT.1
    refine ⟨h, mo, ?_, ?_, hh, Dk.refl mo⟩
    · rw [fX5_mixText_L16, hT.2.1, if_pos (nI_le (by omega) (by omega))]
    · rw [fX6_digest_L215, hT.2.2.1, if_pos (nI_le (by omega) (by omega))]
  | succ d ih =>
    intro i f g h mo hk hf hg hT hh
    obtain ⟨f, rfl, hf⟩ := pu_fuel hf
    obtain ⟨g, rfl, hg⟩ := pu_fuel hg
    have hl := hT.1
    have hc := hT.2.2.2 i (by omega)
    obtain ⟨h', mo', k1, k2, k3, k4⟩ := ih (i + 1) f g ((31 : Int64) * h + (nI (c i)).toInt64) (Mo_set_hash mo ((31 : Int64) * h + (nI (c i)).toInt64)) (by omega) (by omega) (by omega) hT rfl
    refine ⟨h', mo', ?_, ?_, k3, (Dk_h _ _).trans k4⟩
    · rw [fX5_mixText_L16, hT.2.1, if_neg (nI_ge (by omega) (by omega)), tx_codeAt hT (by omega), pu_bd, mix5, pu_bd, pu_pl, nI_1, k1]
    · rw [fX6_digest_L215, hT.2.2.1, if_neg (nI_ge (by omega) (by omega)), pu_inb (by omega) (by decide), pu_cl (by omega), pu_ck, hc.2.1, mix6 _ hh, pu_bd, pu_pl, nI_1, k2]
theorem mix6_ex {tx : Tx} {mo : Mo} {h : Int64} {len : Nat} {c : Nat → Nat} (x : Int64) (e : Mo_hash mo = h) (hT : TB tx mo len c) : ∃ mo', fX6_mix mo x = some mo' ∧ Mo_hash mo' = (31 : Int64) * h + x ∧ TB tx mo' len c ∧ Dk mo mo' := ⟨_, mix6 x e, rfl, hT, Dk_h _ _⟩
theorem dg_tail {tx : Tx} {moF : Mo} {hf : Int64} {len : Nat} {c : Nat → Nat} (hT : TB tx moF len c) (hh : Mo_hash moF = hf) (is : Is) (wa : Wa) (st : St) (hi : Hi) (q : Int64) : ∃ h' mo', fX5_mixText tx is wa st hi ((31 : Int64) * hf + q) = some h' ∧ (bd (fX6_mix moF q) fun (mo52 : Mo) => bd (fX6_mix mo52 ((Mo_length mo52).toInt64)) fun (mo53 : Mo) => bd (fX6_digest_L215 1000 (0 : Int32) mo53) fun (mo60 : Mo) => some ((Mo_hash mo60), mo60)) = some (h', mo') ∧ Dk moF mo' := by
  have hl := hT.1
  obtain ⟨moG, g1, g2, g3, g4⟩ := mix6_ex q hh hT
  obtain ⟨moH, k1, k2, k3, k4⟩ := mix6_ex (nI len).toInt64 g2 g3
  obtain ⟨h', mo', t1, t2, t3, t4⟩ := dg_text len 0 1000 1000 _ moH (by omega) (by omega) (by omega) k3 k2
  have t1' : fX5_mixText_L16 tx 1000 ((31 : Int64) * ((31 : Int64) * hf + q) + (nI len).toInt64) (0 : Int32) = some h' := t1
  have t2' : fX6_digest_L215 1000 (0 : Int32) moH = some mo' := t2
  refine ⟨h', mo', ?_, ?_, (g4.trans k4).trans t4⟩
  · unfold fX5_mixText
    rw [hT.2.1, mix5, pu_bd, t1', pu_bd]
  · rw [g1, pu_bd, g3.2.2.1, k1, pu_bd, t2', pu_bd, t3]
theorem op_digest : Op_digest J := by
  intro n tx is wa st hi mo hn h
  have hz0 : Hi_size hi = Mo_savedMany mo := hz_of h
  obtain ⟨len, c, hT⟩ := h.2.1
  have hl := hT.1
  obtain ⟨hs1, hs2⟩ := h.2.2.2
  obtain ⟨n0, p, l, s, r, cd, hx⟩ := h.1
  have hn24 := hx.1.2.2.2.2.2.1
  have DA : Dk mo (Mo_set_hash (Mo_set_thrown mo 0) (3709 : Int64)) := ⟨⟨rfl, rfl, rfl, rfl⟩, rfl, rfl, rfl⟩
  generalize hA : Mo_set_hash (Mo_set_thrown mo 0) (3709 : Int64) = moA at DA
  have hhA : Mo_hash moA = 3709 := by rw [← hA]; rfl
  have hxA : CSx st (Mo_state moA) (100 * n) n0 p l s r cd := by rw [DA.2.1]; exact hx
  obtain ⟨h1, is1, mo1, a1, a2, a3, a4⟩ := dg_count (tx := tx) (wa := wa) (hi := hi) 13 0 1000 1000 3709 is moA rfl (by decide) (by decide) hxA (hz0.trans DA.1.2.1.symm) hhA
  have D1 := DA.trans a4
  have a1' : fX5_digest_L6 tx wa st hi 1000 (3709 : Int64) (0 : Int32) is = some (h1, is1) := a1
  have a2' : fX6_digest_L14 1000 (0 : Int32) moA = some mo1 := a2
  -- the settings
  have m3 : Mo_state mo1 3 = nI s := by rw [D1.2.1]; exact hx.2.2.1.2.2.2.1
  generalize hB : Mo_set_hash mo1 ((31 : Int64) * h1 + (nI s).toInt64) = moB
  have DB : Dk mo moB := by rw [← hB]; exact D1.trans (Dk_h _ _)
  have hhB : Mo_hash moB = (31 : Int64) * h1 + (nI s).toInt64 := by rw [← hB]; rfl
  have m4 : Mo_state moB 4 = nI r := by rw [DB.2.1]; exact hx.2.2.1.2.2.2.2.1
  generalize hhb : (31 : Int64) * h1 + (nI s).toInt64 = hb at hhB hB
  generalize hC : Mo_set_hash moB ((31 : Int64) * hb + (nI r).toInt64) = moC
  have DC : Dk mo moC := by rw [← hC]; exact DB.trans (Dk_h _ _)
  have hhC : Mo_hash moC = (31 : Int64) * hb + (nI r).toInt64 := by rw [← hC]; rfl
  generalize hhc : (31 : Int64) * hb + (nI r).toInt64 = hc at hhC hC
  -- words, climbers, links alone
  obtain ⟨h2, mo2, b1, b2, b3, b4⟩ := dg_words (n := n0) (tx := tx) (is := is1) (wa := wa) (hi := hi) n0 0 1000 1000 hc moC (by omega) (by omega) (by omega) (by rw [DC.2.1]; exact hx) hhC
  have D2 := DC.trans b4
  have b1' : fX5_mixWords_L5 tx is1 wa st hi 1000 hc (0 : Int32) = some h2 := b1
  have b2' : fX6_digest_L60 1000 (0 : Int32) moC = some mo2 := b2
  obtain ⟨h3, wa3, mo3, c1, c2, c3, c4⟩ := dg_cls (tx := tx) (is := is1) (hi := hi) 3 0 1000 1000 h2 wa mo2 (by omega) (by omega) (by omega) (by rw [D2.2.1]; exact hx) b3
  have D3 := D2.trans c4
  have c1' : fX5_digest_L65 tx st hi is1 1000 h2 (0 : Int32) wa = some (h3, wa3) := c1
  have c2' : fX6_digest_L98 1000 (0 : Int32) mo2 = some mo3 := c2
  obtain ⟨h4, mo4, d1, d2, d3, d4⟩ := dg_plain (n := n0) (wa := wa3) n0 0 1000 1000 h3 mo3 (by omega) (by omega) (by omega) (by rw [D3.2.1]; exact hx) c3
  have D4 := D3.trans d4
  have d1' : fX5_digest_L107 st wa3 1000 h3 (0 : Int32) = some h4 := d1
  have d2' : fX6_digest_L129 1000 (0 : Int32) mo3 = some mo4 := d2
  -- the safest, the share, the mean
  obtain ⟨y5, mo5, e1, e2, e3⟩ := cs_safest (mo := mo4) (by rw [D4.2.1]; exact hx) tx is1 wa3 hi
  have D5 := D4.trans e3.d
  have hh5 : Mo_hash mo5 = h4 := e3.hash.trans d3
  generalize hD : Mo_set_hash mo5 ((31 : Int64) * h4 + y5.toInt64) = moD
  have DD : Dk mo moD := by rw [← hD]; exact D5.trans (Dk_h _ _)
  have hhD : Mo_hash moD = (31 : Int64) * h4 + y5.toInt64 := by rw [← hD]; rfl
  generalize hhd : (31 : Int64) * h4 + y5.toInt64 = hd at hhD hD
  obtain ⟨x6, mo6, f1, f2, f3, f4, f5⟩ := cs_share (mo := moD) (by rw [DD.2.1]; exact hx) tx is1 wa3 hi
  have D6 := DD.trans f3.d
  have hh6 : Mo_hash mo6 = hd := f3.hash.trans hhD
  have f6 : fJxe99ae_doubleToLongBits_ccdee x6 = some x6.toInt64 := by
    unfold fJxe99ae_doubleToLongBits_ccdee fJxe99ae_isNaN_b9ae7
    rw [if_pos f5, pu_bd, if_pos rfl]
  generalize hE : Mo_set_hash mo6 ((31 : Int64) * hd + x6.toInt64) = moE
  have DE : Dk mo moE := by rw [← hE]; exact D6.trans (Dk_h _ _)
  have hhE : Mo_hash moE = (31 : Int64) * hd + x6.toInt64 := by rw [← hE]; rfl
  generalize hhe : (31 : Int64) * hd + x6.toInt64 = he at hhE hE
  obtain ⟨x7, b7, g1, g2, g3, g4, -, -⟩ := cs_mean (mo := moE) (by rw [DE.2.1]; exact hx) (by omega) tx is1 wa3 hi
  generalize hF : Mo_set_hash moE ((31 : Int64) * he + b7.toInt64) = moF
  have DF : Dk mo moF := by rw [← hF]; exact DE.trans (Dk_h _ _)
  have hhF : Mo_hash moF = (31 : Int64) * he + b7.toInt64 := by rw [← hF]; rfl
  generalize hhf : (31 : Int64) * he + b7.toInt64 = hf at hhF hF
  -- the text
  have tail := fun q : Int64 => dg_tail (TB.of hT DF.2.2.1 DF.2.2.2) hhF is1 wa3 st hi q
  have fin : ∀ mo', Dk mo mo' → J (n + 1) tx is1 wa3 st hi mo' := fun mo' D => J_look h D.1 D.2.1 D.2.2.1 D.2.2.2
  have hsF : Mo_hasSnapshot moF = Mo_hasSnapshot mo := DF.1.2.2.2
  unfold fX5_digest fX6_digest fX2_settingOf fX5_mixWords
  rw [a1', pu_bd2, if_pos rfl, pu_bd, hx.1.2.2.2.1, mix5, pu_bd, if_neg (show ¬ (1 : Int32) = 0 by decide), pu_bd, hx.1.2.2.2.2.1, mix5, pu_bd, hhb, hhc, b1', pu_bd, pu_bd, c1', pu_bd2, d1', pu_bd, e1, pu_bd, mix5, pu_bd, hhd, f1, pu_bd, f4, pu_bd, mix5, pu_bd, hhe, g1, pu_bd, g3, pu_bd, mix5, pu_bd, hhf]
  rw [pu_pl, pu_pl, hA, a2', pu_bd, i55_3, c55_3, pu_ck, m3, mix6 _ a3, pu_bd, hhb, hB, i55_4, c55_4, pu_ck, m4, mix6 _ hhB, pu_bd, hhc, hC, b2', pu_bd, c2', pu_bd, d2', pu_bd, e2, pu_bd2, mix6 _ hh5, pu_bd, hhd, hD, f2, pu_bd2, f6, pu_bd, mix6 _ hh6, pu_bd, hhe, hE, g2, pu_bd, g4, pu_bd, mix6 _ hhE, pu_bd, hhf, hF, hsF, hs1]
  by_cases q : Mo_hasSnapshot mo = 0
  · rw [if_pos q, if_pos q, mix5, pu_bd]
    obtain ⟨h', mo', t1, t2, t3⟩ := tail 0
    rw [t1, pu_bd]
    exact ⟨h', is1, wa3, mo', rfl, t2, fin mo' (DF.trans t3)⟩
  · rw [if_neg q, if_neg q, mix5, pu_bd]
    obtain ⟨h', mo', t1, t2, t3⟩ := tail 1
    rw [t1, pu_bd]
    exact ⟨h', is1, wa3, mo', rfl, t2, fin mo' (DF.trans t3)⟩
theorem ops_J : Ops J := ⟨op_add, op_set, op_bar, op_put, op_climb, op_turn, op_leave, op_append, op_clear, op_firstError, op_play, op_keep, op_goBack, op_undo, op_word, op_climber, op_count, op_setting, op_why, op_plain, op_ifPut, op_safest, op_linkShare, op_mean, op_digest, op_rest⟩
end DIG
