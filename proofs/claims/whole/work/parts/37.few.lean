section FEW
/-! the reference's search, with the same spec words -/
theorem pm_options {mo : Mo} {n p l s r t : Nat} {cd : Nat → Nat} {x g : Int32} {S : Nat → Prop} {go : Prop} (h : MB (Mo_state mo) n p l s r cd) (hl : Lk6 (Mo_links mo) n r cd) (ha : At mo p l s t) (hx : ∀ j, j < 32 → (bt x j = true ↔ S j)) (hg : ¬ g = 0 ↔ go) : ∃ y, fX6_options mo x g = some y ∧ ∀ j, j < 32 → (bt y j = true ↔ S j ∨ (go ∧ ¬ Bar n p l s cd t j ∧ ∃ v, S v ∧ Kw n r cd v j)) := by
  unfold fX6_options
  by_cases e : g = 0
  · have ng : ¬ go := fun q => hg.mpr q e
    rw [if_pos e]
    refine ⟨x, rfl, fun j hj => ?_⟩
    rw [hx j hj]
    simp [ng]
  · have gg := hg.mp e
    obtain ⟨y, e1, e2⟩ := pm_beside h hl hx
    obtain ⟨b, f1, f2⟩ := pm_barred h ha
    rw [if_neg e, e1]
    simp only [pu_bd]
    rw [f1]
    simp only [pu_bd]
    refine ⟨_, rfl, fun j hj => ?_⟩
    rw [b_or, b_and, pu_not _ hj, ← hx j hj, ← e2 j hj, ← f2 j hj]
    simp [gg, and_comm]
section
variable {K B : Nat → Nat → Prop} {a z : Nat} {go : Prop}
theorem Sr_none {t : Nat} (h : ∀ w, ¬ Sr K B a go t w) : ∀ d w, ¬ Sr K B a go (t + d) w
  | 0, w => h w
  | d + 1, w => fun q => by
    have q := (Sr_1 (t + d) w).mp q
    rcases q.1 with q | ⟨-, -, v, q, -⟩
    · exact Sr_none h d w q
    · exact Sr_none h d v q
theorem Sr_lt {n : Nat} (ha : a < n) (hK : ∀ v w, K v w → w < n) : ∀ {t w : Nat}, Sr K B a go t w → w < n
  | 0, w, h => by rw [show w = a from h]; exact ha
  | t + 1, w, h => by
    rcases ((Sr_1 t w).mp h).1 with h | ⟨-, -, v, -, h⟩
    · exact Sr_lt ha hK h
    · exact hK v w h
end
theorem pm_ff_L {n p l s r a z t0 : Nat} {cd : Nat → Nat} {go : Prop} (ha : a < n) (hz : z < n) : ∀ (d t f : Nat) (x g : Int32) (mo : Mo), t + d = 800 → d < f → MB (Mo_state mo) n p l s r cd → Lk6 (Mo_links mo) n r cd → At mo p l s (t0 + t) → (¬ g = 0 ↔ (0 < t ∨ go)) → (∀ j, j < 32 → (bt x j = true ↔ Sr (Kw n r cd) (Bs (Bar n p l s cd) t0) a go t j)) → ¬ Sr (Kw n r cd) (Bs (Bar n p l s cd) t0) a go t z → (∀ j, j < t → ¬ Hit (Kw n r cd) (Bs (Bar n p l s cd) t0) a go z j) → ∃ y mo', fX6_fewestFrom_L11 (nI z) f x g (nI t) mo = some (y, mo') ∧ Same mo mo' ∧ Mo_links mo' = Mo_links mo ∧ IsMin (Hit (Kw n r cd) (Bs (Bar n p l s cd) t0) a go z) y := by
  intro d
  induction d with
  | zero =>
    intro t f x g mo ht hf h hl hat hg hx hnz hno
    obtain ⟨f, rfl, -⟩ := pu_fuel hf
    refine ⟨-1, mo, ?_, Same.refl mo, rfl, Or.inr ⟨fun k hk => hno k (by omega), rfl⟩⟩
    rw [fX6_fewestFrom_L11, if_pos (show (800 : Int32) ≤ nI t from nI_le (a := 800) (by omega) (by omega))]
  | succ d ih =>
    intro t f x g mo ht hf h hl hat hg hx hnz hno
    obtain ⟨f, rfl, hf⟩ := pu_fuel hf
    have hn := h.2.2.2.2.2.1
    rw [fX6_fewestFrom_L11, if_neg (show ¬ (800 : Int32) ≤ nI t from nI_ge (b := 800) (by omega) (by omega))]
    by_cases hx0 : x = 0
    · rw [if_pos hx0]
      refine ⟨-1, mo, rfl, Same.refl mo, rfl, Or.inr ⟨fun k _ q => ?_, rfl⟩⟩
      by_cases e : k < t
      · exact hno k e q
      · obtain ⟨-, -, v, q, -⟩ := q
        refine Sr_none (t := t) (fun w q2 => ?_) (k - t) v (by rw [show t + (k - t) = k by omega]; exact q)
        have hw := Sr_lt ha (fun v w q => q.2.1) q2
        have := (hx w (by omega)).mpr q2
        rw [hx0, b_0] at this
        cases this
    · rw [if_neg hx0]
      obtain ⟨y, e1, e2⟩ := pm_options h hl hat hx hg
      rw [e1]
      simp only [pu_bd]
      rw [pu_sh (by omega)]
      have hyz := e2 z (by omega)
      have hB : ∀ u w, Bs (Bar n p l s cd) t0 u w = Bar n p l s cd (t0 + u) w := fun u w => rfl
      cases hb : bt y z
      · rw [hb] at hyz
        rw [if_neg (show ¬ (if false = true then (1 : Int32) else 0) = 1 by decide)]
        obtain ⟨mo1, f1, f2, f3, f4⟩ := pm_moveBar h hat
        have h1 : MB (Mo_state mo1) n p l s r cd := by rw [f2.state]; exact h
        obtain ⟨b, g1, g2⟩ := pm_barred h1 f4
        rw [f1]
        simp only [pu_bd]
        rw [g1]
        simp only [pu_bd, pu_pl, nI_1]
        have hx' : ∀ j, j < 32 → (bt (y &&& (b ^^^ (-1 : Int32))) j = true ↔ Sr (Kw n r cd) (Bs (Bar n p l s cd) t0) a go (t + 1) j) := fun j hj => by
          rw [Sr_1, hB, hB, b_and, pu_not _ hj, ← Nat.add_assoc, ← g2 j hj, ← e2 j hj]
          simp
        obtain ⟨z2, mo2, k1, k2, k3, k4⟩ := ih (t + 1) f (y &&& (b ^^^ (-1 : Int32))) (1 : Int32) mo1 (by omega) (by omega) h1 (by rw [f3]; exact hl) f4 ⟨fun _ => Or.inl (by omega), fun _ => by decide⟩ hx' (fun q => by
          have := (hx' z (by omega)).mpr q
          rw [b_and, hb] at this
          cases this) (fun j hj q => by
          by_cases e : j = t
          · subst e
            cases hyz.mpr (Or.inr q)
          · exact hno j (by omega) q)
        exact ⟨z2, mo2, k1, f2.trans k2, by rw [k3, f3], k4⟩
      · rw [if_pos (show (if true = true then (1 : Int32) else 0) = 1 by decide)]
        refine ⟨nI t, mo, rfl, Same.refl mo, rfl, Or.inl ⟨t, by omega, ?_, hno, rfl⟩⟩
        rcases hyz.mp hb with q | q
        · exact absurd q hnz
        · exact q
theorem pm_ff {n p l s r a z t0 : Nat} {cd : Nat → Nat} {go : Prop} {g : Int32} {mo : Mo} (ha : a < n) (hz : z < n) (haz : a ≠ z) (h : MB (Mo_state mo) n p l s r cd) (hl : Lk6 (Mo_links mo) n r cd) (hat : At mo p l s t0) (hg : ¬ g = 0 ↔ go) : ∃ y mo', fX6_fewestFrom mo (nI a) (nI z) g = some (y, mo') ∧ Same mo mo' ∧ Mo_links mo' = Mo_links mo ∧ IsMin (Hit (Kw n r cd) (Bs (Bar n p l s cd) t0) a go z) y := by
  have hn := h.2.2.2.2.2.1
  exact pm_ff_L ha hz 800 0 1000 _ g mo rfl (by decide) h hl hat (by rw [hg]; simp) (fun j hj => by
    rw [pu_one (by omega) hj, decide_eq_true_eq]
    exact Iff.rfl) (fun q => haz q.symm) (fun j hj => by omega)
theorem pm_fewest {n p l s r a z : Nat} {cd : Nat → Nat} {go : Prop} {g : Int32} {mo : Mo} (ha : a < n) (hz : z < n) (haz : a ≠ z) (h : MB (Mo_state mo) n p l s r cd) (hg : ¬ g = 0 ↔ go) : ∃ y mo', fX6_fewest mo (nI a) (nI z) g = some (y, mo') ∧ Same mo mo' ∧ Lk6 (Mo_links mo') n r cd ∧ IsMin (Hit (Kw n r cd) (Bar n p l s cd) a go z) y := by
  obtain ⟨A, e1, e2⟩ := pm_lay h
  have h1 : MB (Mo_state (Mo_set_links mo A)) n p l s r cd := h
  obtain ⟨mo2, f1, f2, f3, f4⟩ := pm_barNow h1
  have h2 : MB (Mo_state mo2) n p l s r cd := by rw [f2.state]; exact h1
  have h3 : Lk6 (Mo_links mo2) n r cd := by rw [f3]; exact e2
  obtain ⟨y, mo3, g1, g2, g3, g4⟩ := pm_ff (go := go) (g := g) ha hz haz h2 h3 f4 hg
  have h4 : Lk6 (Mo_links mo3) n r cd := by rw [g3]; exact h3
  have h5 : Same mo mo3 := (Same_links mo A).trans (f2.trans g2)
  rw [Bs_0] at g4
  refine ⟨y, mo3, ?_, h5, h4, g4⟩
  unfold fX6_fewest
  rw [e1, pu_bd, f1, pu_bd, g1]
  rfl
/-! what the reference's state says of the climbers: c is on a word, to an end, went -/
theorem pm_of {mo : Mo} {c k : Nat} (hc : c < 3) (hk : k < 7) : fX6_of mo (nI c) (nI k) = some (Mo_state mo (10 + 7 * c + k)) := by
  unfold fX6_of
  rw [show ((10 : Int32) + (7 : Int32) * nI c) + nI k = nI (10 + 7 * c + k) by rw [show (7 : Int32) = nI 7 from rfl, pk_mul, show (10 : Int32) = nI 10 from rfl, nI_add, nI_add], pu_inb (by omega) (by decide), pu_cl (by omega)]
  rfl
theorem pm_setOf {mo : Mo} {c k : Nat} {x : Int32} (hc : c < 3) (hk : k < 7) : fX6_setOf mo (nI c) (nI k) x = some (Mo_set_state mo (upd (Mo_state mo) (10 + 7 * c + k) x)) := by
  unfold fX6_setOf
  rw [show ((10 : Int32) + (7 : Int32) * nI c) + nI k = nI (10 + 7 * c + k) by rw [show (7 : Int32) = nI 7 from rfl, pk_mul, show (10 : Int32) = nI 10 from rfl, nI_add, nI_add], pu_inb (by omega) (by decide), pu_cl (by omega)]
  rfl
theorem pm_fewestOf {n p l s r a z c : Nat} {cd : Nat → Nat} {go : Prop} {mo : Mo} (hc : c < 3) (ha : a < n) (hz : z < n) (haz : a ≠ z) (h : MB (Mo_state mo) n p l s r cd) (h0 : Mo_state mo (10 + 7 * c + 0) = nI a) (h2 : Mo_state mo (10 + 7 * c + 2) = nI z) (hg : Mo_state mo (10 + 7 * c + 3) = 0 ↔ go) : ∃ y mo', fX6_fewestOf mo (nI c) = some (y, mo') ∧ Same mo mo' ∧ Lk6 (Mo_links mo') n r cd ∧ IsMin (Hit (Kw n r cd) (Bar n p l s cd) a go z) y := by
  have o0 : fX6_of mo (nI c) (0 : Int32) = some (nI a) := by rw [← h0]; exact pm_of (k := 0) hc (by decide)
  have o2 : fX6_of mo (nI c) (2 : Int32) = some (nI z) := by rw [← h2]; exact pm_of (k := 2) hc (by decide)
  have o3 : fX6_of mo (nI c) (3 : Int32) = some (Mo_state mo (10 + 7 * c + 3)) := pm_of (k := 3) hc (by decide)
  unfold fX6_fewestOf
  rw [o0, o2, o3]
  simp only [pu_bd]
  by_cases e : Mo_state mo (10 + 7 * c + 3) = 0
  · have gg := hg.mp e
    obtain ⟨y, mo', e1, e2, e3, e4⟩ := pm_fewest (go := go) (g := 1) ha hz haz h ⟨fun _ => gg, fun _ => by decide⟩
    rw [if_pos e, e1]
    exact ⟨y, mo', rfl, e2, e3, e4⟩
  · have gg : ¬ go := fun q => e (hg.mpr q)
    obtain ⟨y, mo', e1, e2, e3, e4⟩ := pm_fewest (go := go) (g := 0) ha hz haz h ⟨fun q => absurd rfl q, fun q => absurd q gg⟩
    rw [if_neg e, e1]
    exact ⟨y, mo', rfl, e2, e3, e4⟩
theorem pm_fs_L {n p l s r a z k : Nat} {cd : Nat → Nat} {go : Prop} {x : Int32} (ha : a < n) (hz : z < n) (hk : k < 799) (hno : ¬ Hit (Kw n r cd) (Bar n p l s cd) a go z 0) (haz : a ≠ z) (hx : ∀ j, j < 32 → (bt x j = true ↔ (j = a ∨ (go ∧ ¬ Bar n p l s cd 0 j ∧ Kw n r cd a j)))) : ∀ (d w f : Nat) (mo : Mo), w + d = n → d < f → MB (Mo_state mo) n p l s r cd → Lk6 (Mo_links mo) n r cd → (∀ v, v < w → ¬ Cd (Kw n r cd) (Bar n p l s cd) a go z k v) → ∃ y mo', fX6_firstStep_L63 (nI z) (nI (k + 1)) x f (nI w) mo = some (y, mo') ∧ Same mo mo' ∧ Lst 24 (Cd (Kw n r cd) (Bar n p l s cd) a go z k) y := by
  intro d
  induction d with
  | zero =>
    intro w f mo hw hf h hl g
    obtain ⟨f, rfl, -⟩ := pu_fuel hf
    have hn := h.2.2.2.2.2.1
    have : w = n := hw
    subst this
    refine ⟨-1, mo, ?_, Same.refl mo, Or.inr ⟨fun v _ q => ?_, rfl⟩⟩
    · rw [fX6_firstStep_L63, i55_0, c55_0, h.1]
      simp only [pu_ck]
      rw [if_pos (nI_le (Nat.le_refl w) (by omega))]
    · by_cases e : v < w
      · exact g v e q
      · rcases q.1 with q | q
        · omega
        · have := q.2.2.2.1; omega
  | succ d ih =>
    intro w f mo hw hf h hl g
    obtain ⟨f, rfl, hf⟩ := pu_fuel hf
    have hn := h.2.2.2.2.2.1
    have hwn : w < n := by omega
    obtain ⟨mo1, e1, e2, e3, e4⟩ := pm_barNow h
    have h1 : MB (Mo_state mo1) n p l s r cd := by rw [e2.state]; exact h
    obtain ⟨mo2, f1, f2, f3, f4⟩ := pm_moveBar h1 e4
    have h2 : MB (Mo_state mo2) n p l s r cd := by rw [f2.state]; exact h1
    have hl2 : Lk6 (Mo_links mo2) n r cd := by rw [f3, e3]; exact hl
    obtain ⟨b, b1, b2⟩ := pm_barred h2 f4
    rw [fX6_firstStep_L63, i55_0, c55_0, h.1]
    simp only [pu_ck]
    rw [if_neg (nI_ge hwn (by omega)), e1]
    simp only [pu_bd]
    rw [f1]
    simp only [pu_bd]
    rw [pu_sh (by omega)]
    have hxw := hx w (by omega)
    have on : ¬ Cd (Kw n r cd) (Bar n p l s cd) a go z k w → ∀ mo3, Same mo mo3 → Mo_links mo3 = Mo_links mo2 → ∃ y mo', fX6_firstStep_L63 (nI z) (nI (k + 1)) x f (nI (w + 1)) mo3 = some (y, mo') ∧ Same mo mo' ∧ Lst 24 (Cd (Kw n r cd) (Bar n p l s cd) a go z k) y := by
      intro q mo3 q1 q2
      obtain ⟨y, mo4, k1, k2, k3⟩ := ih (w + 1) f mo3 (by omega) (by omega) (by rw [q1.state]; exact h) (by rw [q2]; exact hl2) (fun v hv => by
        by_cases e : v = w
        · subst e; exact q
        · exact g v (by omega))
      exact ⟨y, mo4, k1, q1.trans k2, k3⟩
    cases hb : bt x w
    · rw [hb] at hxw
      rw [if_neg (show ¬ (if false = true then (1 : Int32) else 0) = 1 by decide)]
      simp only [pu_pl, nI_1]
      exact on (fun q => by cases hxw.mpr q.1) mo2 (e2.trans f2) rfl
    · rw [if_pos (show (if true = true then (1 : Int32) else 0) = 1 by decide), b1]
      simp only [pu_bd]
      rw [pu_sh (by omega)]
      have hbw := b2 w (by omega)
      cases hb2 : bt b w
      · rw [hb2] at hbw
        rw [if_pos (show (if false = true then (1 : Int32) else 0) = 0 by decide)]
        have hwz : w ≠ z := by
          rintro rfl
          rcases hxw.mp hb with q | q
          · exact haz q.symm
          · exact hno ⟨Or.inr q.1, q.2.1, a, rfl, q.2.2⟩
        obtain ⟨y, mo3, k1, k2, k3, k4⟩ := pm_ff (go := True) (g := 1) hwn hz hwz h2 hl2 f4 ⟨fun _ => trivial, fun _ => by decide⟩
        rw [k1]
        simp only [pu_bd2]
        rw [show nI (k + 1) - (1 : Int32) = nI k from nI_pred k]
        by_cases e : y = nI k
        · rw [if_pos e]
          refine ⟨nI w, mo3, rfl, (e2.trans f2).trans k2, Or.inl ⟨w, by omega, ⟨hxw.mp hb, (fun q => by cases hbw.mpr q), hwz, ?_⟩, g, rfl⟩⟩
          rcases k4 with ⟨i, i1, i2, i3, i4⟩ | ⟨i1, i2⟩
          · rw [e, nI_eq (by omega) (by omega)] at i4
            subst i4
            exact ⟨i2, i3⟩
          · rw [e] at i2
            exact absurd i2 (pu_m1_ne (by omega))
        · rw [if_neg e]
          simp only [pu_pl, nI_1]
          refine on (fun q => e ?_) mo3 ((e2.trans f2).trans k2) k3
          obtain ⟨-, -, -, q1, q2⟩ := q
          exact k4.uniq (Or.inl ⟨k, by omega, q1, q2, rfl⟩)
      · rw [if_neg (show ¬ (if true = true then (1 : Int32) else 0) = 0 by decide)]
        simp only [pu_pl, nI_1]
        exact on (fun q => q.2.1 (hbw.mp hb2)) mo2 (e2.trans f2) rfl
theorem pm_firstStep {n p l s r a z c : Nat} {cd : Nat → Nat} {go : Prop} {mo : Mo} (hc : c < 3) (ha : a < n) (hz : z < n) (haz : a ≠ z) (h : MB (Mo_state mo) n p l s r cd) (h0 : Mo_state mo (10 + 7 * c + 0) = nI a) (h2 : Mo_state mo (10 + 7 * c + 2) = nI z) (hg : Mo_state mo (10 + 7 * c + 3) = 0 ↔ go) : ∃ y mo', fX6_firstStep mo (nI c) = some (y, mo') ∧ Same mo mo' ∧ IsFst (Kw n r cd) (Bar n p l s cd) a go z y := by
  have hn := h.2.2.2.2.2.1
  have o2 : fX6_of mo (nI c) (2 : Int32) = some (nI z) := by rw [← h2]; exact pm_of (k := 2) hc (by decide)
  obtain ⟨m, mo1, e1, e2, e3, e4⟩ := pm_fewestOf hc ha hz haz h h0 h2 hg
  unfold fX6_firstStep
  rw [o2]
  simp only [pu_bd]
  rw [e1]
  simp only [pu_bd2]
  rcases e4 with ⟨k, k1, k2, k3, rfl⟩ | ⟨k1, rfl⟩
  · cases k with
    | zero =>
      rw [if_neg (show ¬ (1 : Int32) ≤ nI 0 by decide), if_pos (show nI 0 = (0 : Int32) from rfl)]
      exact ⟨_, _, rfl, e2, nI 0, Or.inl ⟨0, k1, k2, k3, rfl⟩, Or.inl ⟨rfl, rfl⟩⟩
    | succ k =>
      have h1 : MB (Mo_state mo1) n p l s r cd := by rw [e2.state]; exact h
      obtain ⟨mo2, f1, f2, f3, f4⟩ := pm_barNow h1
      have h3 : MB (Mo_state mo2) n p l s r cd := by rw [f2.state]; exact h1
      have hl3 : Lk6 (Mo_links mo2) n r cd := by rw [f3]; exact e3
      have es : Mo_state mo2 = Mo_state mo := by rw [f2.state, e2.state]
      have o0 : fX6_of mo2 (nI c) (0 : Int32) = some (nI a) := by rw [← h0, ← es]; exact pm_of (k := 0) hc (by decide)
      have o3 : fX6_of mo2 (nI c) (3 : Int32) = some (Mo_state mo (10 + 7 * c + 3)) := by rw [← es]; exact pm_of (k := 3) hc (by decide)
      rw [if_pos (show (1 : Int32) ≤ nI (k + 1) from nI_le (a := 1) (by omega) (by omega)), f1]
      simp only [pu_bd]
      rw [o0]
      simp only [pu_bd]
      rw [o3]
      simp only [pu_bd]
      have hx0 : ∀ j, j < 32 → (bt ((1 : Int32) <<< (nI a &&& 31)) j = true ↔ j = a) := fun j hj => by rw [pu_one (by omega) hj, decide_eq_true_eq]
      have fin : ∀ g : Int32, (¬ g = 0 ↔ go) → ∃ y mo', (bd (fX6_options mo2 ((1 : Int32) <<< (nI a &&& 31)) g) fun (r9 : Int32) => (fX6_firstStep_L63 (nI z) (nI (k + 1)) r9 1000 (0 : Int32) mo2)) = some (y, mo') ∧ Same mo mo' ∧ IsFst (Kw n r cd) (Bar n p l s cd) a go z y := by
        intro g hg2
        obtain ⟨x, g1, g2⟩ := pm_options h3 hl3 f4 hx0 hg2
        rw [g1]
        simp only [pu_bd]
        obtain ⟨y, mo3, q1, q2, q3⟩ := pm_fs_L (go := go) (x := x) ha hz (k := k) (by omega) (k3 0 (by omega)) haz (fun j hj => by
          rw [g2 j hj]
          constructor
          · rintro (q | ⟨q1, q2, v, rfl, q3⟩)
            · exact Or.inl q
            · exact Or.inr ⟨q1, q2, q3⟩
          · rintro (q | ⟨q1, q2, q3⟩)
            · exact Or.inl q
            · exact Or.inr ⟨q1, q2, a, rfl, q3⟩) n 0 1000 mo2 (by omega) (by omega) h3 hl3 (fun v hv => by omega)
        exact ⟨y, mo3, q1, (e2.trans f2).trans q2, nI (k + 1), Or.inl ⟨k + 1, k1, k2, k3, rfl⟩, Or.inr (Or.inr ⟨k, by omega, rfl, q3⟩)⟩
      by_cases e : Mo_state mo (10 + 7 * c + 3) = 0
      · rw [if_pos e]
        exact fin 1 ⟨fun _ => hg.mp e, fun _ => by decide⟩
      · rw [if_neg e]
        exact fin 0 ⟨fun q => absurd rfl q, fun q => absurd (hg.mpr q) e⟩
  · rw [if_neg (by decide), if_neg (by decide)]
    exact ⟨_, _, rfl, e2, -1, Or.inr ⟨k1, rfl⟩, Or.inr (Or.inl ⟨rfl, rfl⟩)⟩
end FEW
