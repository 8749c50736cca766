section ONW
theorem pu_look_L {st : St} {n p l s r : Nat} {cd : Nat → Nat} (h : Base st n p l s r cd) : ∀ (d i f : Nat) (wa : Wa), i + d = 32 → d < f → (∀ t, t < i → (∀ j, j < 32 → (bt (Wa_barred wa t) j = true ↔ Bar n p l s cd t j)) ∧ Wa_known wa t = 0) → ∃ wa', fX4_lookAhead_L2 st f (nI i) wa = some wa' ∧ ∀ t, t < 32 → (∀ j, j < 32 → (bt (Wa_barred wa' t) j = true ↔ Bar n p l s cd t j)) ∧ Wa_known wa' t = 0 := by
  intro d
  induction d with
  | zero =>
    intro i f wa hi hf g
    obtain ⟨f, rfl, -⟩ := pu_fuel hf
    refine ⟨wa, ?_, fun t ht => g t (by omega)⟩
    rw [fX4_lookAhead_L2, if_pos (show (32 : Int32) ≤ nI i from nI_le (a := 32) (by omega) (by omega))]
  | succ d ih =>
    intro i f wa hi hf g
    obtain ⟨f, rfl, hf⟩ := pu_fuel hf
    obtain ⟨y, e1, e2⟩ := pu_barred h (t := i) (by omega)
    rw [fX4_lookAhead_L2, if_neg (show ¬ (32 : Int32) ≤ nI i from nI_ge (b := 32) (by omega) (by omega)), e1, pu_inb (by omega) (by omega), pu_cl (by omega)]
    simp only [pu_bd, pu_ck, pu_pl, nI_1]
    refine ih (i + 1) f _ (by omega) (by omega) (fun t ht => ?_)
    show (∀ j, j < 32 → (bt (upd (Wa_barred wa) i y t) j = true ↔ Bar n p l s cd t j)) ∧ upd (Wa_known wa) i 0 t = 0
    by_cases e : t = i
    · subst e
      rw [pk_us, pk_us]
      exact ⟨e2, rfl⟩
    · rw [pk_un e, pk_un e]
      exact g t (by omega)
theorem pu_look {st : St} {n p l s r : Nat} {cd : Nat → Nat} (h : Base st n p l s r cd) (wa : Wa) : ∃ wa', fX4_lookAhead wa st = some wa' ∧ ∀ t, t < 32 → (∀ j, j < 32 → (bt (Wa_barred wa' t) j = true ↔ Bar n p l s cd t j)) ∧ Wa_known wa' t = 0 := by
  obtain ⟨wa', e1, e2⟩ := pu_look_L h 32 0 1000 wa rfl (by decide) (fun t ht => by omega)
  refine ⟨wa', ?_, e2⟩
  unfold fX4_lookAhead
  show bd (fX4_lookAhead_L2 st 1000 (nI 0) wa) (fun v => some v) = _
  rw [e1]
  rfl
def Kw (n r : Nat) (cd : Nat → Nat) (u j : Nat) : Prop := u < n ∧ j < n ∧ Lkc r (cd u) (cd j)
theorem pu_rem32 (m : Nat) (h : m < 2 ^ 20) : nI m - nI m / (32 : Int32) * (32 : Int32) = nI (m % 32) := pk_rem (d := 32) (by omega) (by decide) (by decide)
/-- all that are linked with a set: its words' links -/
theorem pu_loaK {st : St} {n r : Nat} {cd : Nat → Nat} (hn : n ≤ 24) (hl : Lks (St_links st) n r cd) {x : Int32} {S : Nat → Prop} (hx : ∀ j, j < 32 → (bt x j = true ↔ S j)) : ∃ y, fX2_linksOfAll st x = some y ∧ ∀ j, j < 32 → (bt y j = true ↔ ∃ v, S v ∧ Kw n r cd v j) := by
  obtain ⟨y, e1, e2⟩ := pu_loa st x
  refine ⟨y, e1, fun j hj => ?_⟩
  rw [e2]
  constructor
  · rintro ⟨w, h1, h2, h3⟩
    exact ⟨w, (hx w (by omega)).mp h2, (hl w j h1 hj).mp h3⟩
  · rintro ⟨w, h1, h2⟩
    exact ⟨w, by have := h2.1; omega, (hx w (by have := h2.1; omega)).mpr h1, (hl w j (by have := h2.1; omega) hj).mpr h2⟩
theorem pu_onw_L {st : St} {n p l s r a z : Nat} {cd : Nat → Nat} {p4 : Int32} {go : Prop} (h : Base st n p l s r cd) (hl : Lks (St_links st) n r cd) (ha : a < n) (hz : z < n) (hgo : p4 = 0 ↔ go) : ∀ (d t f : Nat) (v : Int32) (wa : Wa), t + d = 770 → d < f → (∀ j, j < 32 → (bt v j = true ↔ (Hk (Kw n r cd) (Bar n p l s cd) a go t).1 j)) → (∀ k, k < 32 → ∀ j, j < 32 → (bt (Wa_barred wa k) j = true ↔ Bar n p l s cd k j)) → (∀ k, k < 32 → ∀ j, j < 32 → (bt (Wa_known wa k) j = true ↔ (Hk (Kw n r cd) (Bar n p l s cd) a go t).2 k j)) → (∀ j, j < t → ¬ Cit (Kw n r cd) (Bar n p l s cd) a go z j) → ∃ y wa', fX4_onward_L26 st (nI z) p4 f v (nI t) wa = some (y, wa') ∧ ((∃ k, Cit (Kw n r cd) (Bar n p l s cd) a go z k ∧ (∀ j, j < k → ¬ Cit (Kw n r cd) (Bar n p l s cd) a go z j) ∧ y = nI k) ∨ ((∀ k, k ≤ 769 → ¬ Cit (Kw n r cd) (Bar n p l s cd) a go z k) ∧ y = -1)) := by
  have hn := h.2.2.2.2.2.1
  intro d
  induction d with
  | zero =>
    intro t f v wa ht hf _ _ _ g
    obtain ⟨f, rfl, -⟩ := pu_fuel hf
    refine ⟨-1, wa, ?_, Or.inr ⟨fun k hk => g k (by omega), rfl⟩⟩
    rw [fX4_onward_L26, if_pos (show (769 : Int32) < nI t from nI_lt (a := 769) (by omega) (by omega))]
  | succ d ih =>
    intro t f v wa ht hf hv hb hkn g
    obtain ⟨f, rfl, hf⟩ := pu_fuel hf
    rw [fX4_onward_L26, if_neg (show ¬ (769 : Int32) < nI t from nI_nlt (a := 769) (by omega) (by omega))]
    by_cases hv0 : v = 0
    · rw [if_pos hv0]
      refine ⟨-1, wa, rfl, Or.inr ⟨fun k _ q => ?_, rfl⟩⟩
      by_cases hk : k < t
      · exact g k hk q
      · obtain ⟨-, -, u, h3, h4⟩ := q
        obtain ⟨w, hw⟩ := Hk_nes (t := t) (k - t) (by rw [show t + (k - t) = k by omega]; exact ⟨u, h3⟩)
        have hw24 := Hk_lt (by omega) (fun v w q => by have := q.2.1; omega) _ _ hw
        have := (hv w (by omega)).mpr hw
        rw [hv0, b_0] at this
        cases this
    · rw [if_neg hv0, pu_rem32 t (by omega)]
      simp only [pu_pl]
      -- what follows the set of the reached
      have tail : ∀ x : Int32, (∀ j, j < 32 → (bt x j = true ↔ ((0 < t ∨ go) ∧ ¬ Bar n p l s cd t j ∧ ∃ u, (Hk (Kw n r cd) (Bar n p l s cd) a go t).1 u ∧ Kw n r cd u j))) →
          ∃ y wa', bd (fX5_has x (nI z)) (fun r13 : Int32 => if r13 = (0 : Int32) then pl ((nI (t % 32) + (1 : Int32)) - (nI (t % 32) + (1 : Int32)) / (32 : Int32) * (32 : Int32)) (fun x15 : Int32 => ck (inb x15 32) (ck (inb x15 32) (pl (((v ||| x) &&& ((Wa_barred wa x15.toNatClampNeg) ^^^ (-1 : Int32))) &&& ((Wa_known wa x15.toNatClampNeg) ^^^ (-1 : Int32))) (fun x16 : Int32 => ck (inb x15 32) (ck (inb x15 32) (pl (Wa_set_known wa (upd (Wa_known wa) x15.toNatClampNeg ((Wa_known wa x15.toNatClampNeg) ||| x16))) (fun wa17 : Wa => pl (nI t + (1 : Int32)) (fun x18 : Int32 => fX4_onward_L26 st (nI z) p4 f x16 x18 wa17)))))))) else some (nI t, wa)) = some (y, wa') ∧ ((∃ k, Cit (Kw n r cd) (Bar n p l s cd) a go z k ∧ (∀ j, j < k → ¬ Cit (Kw n r cd) (Bar n p l s cd) a go z j) ∧ y = nI k) ∨ ((∀ k, k ≤ 769 → ¬ Cit (Kw n r cd) (Bar n p l s cd) a go z k) ∧ y = -1)) := by
        intro x hx
        rw [pu_has (by omega)]
        simp only [pu_bd]
        cases hxz : bt x z
        · rw [if_pos (show (if false = true then (1 : Int32) else 0) = 0 by decide), nI_1, pu_rem32 _ (by omega), show (t % 32 + 1) % 32 = (t + 1) % 32 by omega]
          have hm : (t + 1) % 32 < 32 := Nat.mod_lt _ (by decide)
          simp only [pu_pl]
          rw [pu_inb hm (by decide), pu_cl (by omega)]
          simp only [pu_ck, nI_1]
          have hv' : ∀ j, j < 32 → (bt (((v ||| x) &&& ((Wa_barred wa ((t + 1) % 32)) ^^^ (-1 : Int32))) &&& ((Wa_known wa ((t + 1) % 32)) ^^^ (-1 : Int32))) j = true ↔ (Hk (Kw n r cd) (Bar n p l s cd) a go (t + 1)).1 j) := by
            intro j hj
            have b1 := hb _ hm j hj
            rw [Bar_mod] at b1
            have b2 := hkn _ hm j hj
            rw [Hk_1, b_and, b_and, b_or, pu_not _ hj, pu_not _ hj, ← hv j hj, ← hx j hj, ← b1, ← b2]
            simp [and_assoc]
          refine ih (t + 1) f _ _ (by omega) (by omega) hv' hb (fun k hk j hj => ?_) (fun j hj => ?_)
          · show bt (upd (Wa_known wa) ((t + 1) % 32) _ k) j = true ↔ _
            rw [Hk_2]
            by_cases e : k = (t + 1) % 32
            · subst e
              rw [pk_us, b_or, ← hv' j hj, ← hkn _ hm j hj]
              simp
            · rw [pk_un e, hkn k hk j hj]
              exact ⟨Or.inl, fun q => q.elim id (fun q => absurd q.1 e)⟩
          · by_cases e : j = t
            · subst e
              intro q
              have := (hx z (by omega)).mpr q
              rw [hxz] at this; cases this
            · exact g j (by omega)
        · rw [if_neg (show ¬ (if true = true then (1 : Int32) else 0) = 0 by decide)]
          exact ⟨_, wa, rfl, Or.inl ⟨t, (hx z (by omega)).mp hxz, g, rfl⟩⟩
      have hm : t % 32 < 32 := Nat.mod_lt _ (by decide)
      obtain ⟨y, e1, e2⟩ := pu_loaK hn hl hv
      have hx1 : (0 < t ∨ go) → ∀ j, j < 32 → (bt (y &&& ((Wa_barred wa (t % 32)) ^^^ (-1 : Int32))) j = true ↔ ((0 < t ∨ go) ∧ ¬ Bar n p l s cd t j ∧ ∃ u, (Hk (Kw n r cd) (Bar n p l s cd) a go t).1 u ∧ Kw n r cd u j)) := by
        intro h0 j hj
        have b1 := hb _ hm j hj
        rw [Bar_mod] at b1
        rw [b_and, pu_not _ hj, ← e2 j hj, ← b1]
        simp [h0, and_comm]
      by_cases ht0 : 0 < t
      · rw [if_pos (show (0 : Int32) < nI t from nI_lt (a := 0) ht0 (by omega)), e1]
        simp only [pu_bd]
        rw [pu_inb hm (by decide), pu_cl (by omega)]
        simp only [pu_ck]
        exact tail _ (hx1 (Or.inl ht0))
      · rw [if_neg (show ¬ (0 : Int32) < nI t from nI_nlt (a := 0) (by omega) (by omega))]
        by_cases hg : p4 = 0
        · rw [if_pos hg, e1]
          simp only [pu_bd]
          rw [pu_inb hm (by decide), pu_cl (by omega)]
          simp only [pu_ck]
          exact tail _ (hx1 (Or.inr (hgo.mp hg)))
        · rw [if_neg hg]
          refine tail 0 (fun j hj => ?_)
          rw [b_0]
          exact ⟨(fun q => by cases q), (fun q => absurd q.1 (by rintro (q | q); exact ht0 q; exact hg (hgo.mpr q)))⟩
theorem pu_onw {st : St} {n p l s r a z : Nat} {cd : Nat → Nat} {p4 : Int32} {go : Prop} (h : Base st n p l s r cd) (hl : Lks (St_links st) n r cd) (ha : a < n) (hz : z < n) (hgo : p4 = 0 ↔ go) (wa : Wa) : ∃ y wa', fX4_onward wa st (nI a) (nI z) p4 = some (y, wa') ∧ IsMin (Hit (Kw n r cd) (Bar n p l s cd) a go z) y := by
  have hn := h.2.2.2.2.2.1
  obtain ⟨wa1, e1, e2⟩ := pu_look h wa
  have h0 : ∀ j, j < 32 → (bt ((1 : Int32) <<< (nI a &&& 31)) j = true ↔ (Hk (Kw n r cd) (Bar n p l s cd) a go 0).1 j) := fun j hj => by
    rw [pu_one (by omega) hj, decide_eq_true_eq]
    exact Iff.rfl
  have fin : ∀ y, ((∃ k, Cit (Kw n r cd) (Bar n p l s cd) a go z k ∧ (∀ j, j < k → ¬ Cit (Kw n r cd) (Bar n p l s cd) a go z j) ∧ y = nI k) ∨ ((∀ k, k ≤ 769 → ¬ Cit (Kw n r cd) (Bar n p l s cd) a go z k) ∧ y = -1)) → IsMin (Hit (Kw n r cd) (Bar n p l s cd) a go z) y := fun y hy => IsMin_hit (fun t w => Bar_mod t w) (by omega) (fun v w q => by have := q.2.1; omega) hy
  unfold fX4_onward
  rw [e1]
  simp only [pu_bd, pu_pl]
  by_cases hg : p4 = 0
  · have g := hgo.mp hg
    rw [if_pos hg, show inb (0 : Int32) 32 = true from by decide]
    simp only [pu_ck]
    obtain ⟨y, wa', f1, f2⟩ := pu_onw_L h hl ha hz hgo 770 0 1000 ((1 : Int32) <<< (nI a &&& 31)) (Wa_set_known wa1 (upd (Wa_known wa1) 0 ((1 : Int32) <<< (nI a &&& 31)))) rfl (by decide) h0 (fun k hk => (e2 k hk).1) (fun k hk j hj => by
      show bt (upd (Wa_known wa1) 0 ((1 : Int32) <<< (nI a &&& 31)) k) j = true ↔ k = 0 ∧ go ∧ j = a
      by_cases e : k = 0
      · subst e
        rw [pk_us, pu_one (by omega) hj, decide_eq_true_eq]
        simp [g]
      · rw [pk_un e, (e2 k hk).2, b_0]
        simp [e]) (fun j hj => by omega)
    exact ⟨y, wa', f1, fin y f2⟩
  · rw [if_neg hg]
    obtain ⟨y, wa', f1, f2⟩ := pu_onw_L h hl ha hz hgo 770 0 1000 ((1 : Int32) <<< (nI a &&& 31)) wa1 rfl (by decide) h0 (fun k hk => (e2 k hk).1) (fun k hk j hj => by
      show _ ↔ k = 0 ∧ go ∧ j = a
      rw [(e2 k hk).2, b_0]
      have : ¬ go := fun q => hg (hgo.mpr q)
      simp [this]) (fun j hj => by omega)
    exact ⟨y, wa', f1, fin y f2⟩
end ONW
