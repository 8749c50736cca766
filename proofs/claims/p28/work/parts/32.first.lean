section FST
/-- the least below N with P, or -1 -/
def Lst (N : Nat) (P : Nat → Prop) (y : Int32) : Prop := (∃ w, w < N ∧ P w ∧ (∀ v, v < w → ¬ P v) ∧ y = nI w) ∨ ((∀ w, w < N → ¬ P w) ∧ y = -1)
theorem Lst.uniq {N : Nat} {P : Nat → Prop} {r q : Int32} (h1 : Lst N P r) (h2 : Lst N P q) : r = q := by
  rcases h1 with ⟨k, a1, a2, a3, rfl⟩ | ⟨a1, rfl⟩ <;> rcases h2 with ⟨j, b1, b2, b3, rfl⟩ | ⟨b1, rfl⟩
  · have : k = j := by
      rcases Nat.lt_trichotomy k j with h | h | h
      · exact absurd a2 (b3 k h)
      · exact h
      · exact absurd b2 (a3 j h)
    rw [this]
  · exact absurd a2 (b1 k a1)
  · exact absurd b2 (a1 j b1)
  · rfl
theorem pu_low5L {x : Int32} {P : Nat → Prop} (hx : ∀ j, j < 32 → (bt x j = true ↔ P j)) (hP : ∀ j, P j → j < 24) : ∃ y, fX5_lowest x = some y ∧ Lst 24 P y := by
  by_cases e : ∃ i, i < 24 ∧ bt x i = true
  · obtain ⟨i, i1, i2, i3⟩ := fb_first e
    refine ⟨_, pu_low5 (by omega) i2 (fun j hj => Bool.eq_false_iff.mpr (i3 j hj)), Or.inl ⟨i, i1, (hx i (by omega)).mp i2, fun v hv q => i3 v hv ((hx v (by omega)).mpr q), rfl⟩⟩
  · have hz : x = 0 := pu_zero.mpr fun i hi => by
      cases hb : bt x i
      · rfl
      · exact absurd ⟨i, hP i ((hx i hi).mp hb), hb⟩ e
    refine ⟨-1, by rw [hz]; exact pu_low50, Or.inr ⟨fun w hw q => e ⟨w, hw, (hx w (by omega)).mpr q⟩, rfl⟩⟩
/-- the words that one can choose first, k turns to go behind that -/
def Cd (K B : Nat → Nat → Prop) (a : Nat) (go : Prop) (z k w : Nat) : Prop := (w = a ∨ (go ∧ ¬ B 0 w ∧ K a w)) ∧ ¬ B 1 w ∧ Ly K B z 1 k w
def IsFst (K B : Nat → Nat → Prop) (a : Nat) (go : Prop) (z : Nat) (y : Int32) : Prop := ∃ r, IsMin (Hit K B a go z) r ∧ ((r = nI 0 ∧ y = nI z) ∨ (r = -1 ∧ y = -1) ∨ ∃ k, k < 799 ∧ r = nI (k + 1) ∧ Lst 24 (Cd K B a go z k) y)
theorem IsFst.uniq {K B : Nat → Nat → Prop} {a : Nat} {go : Prop} {z : Nat} {x y : Int32} (h1 : IsFst K B a go z x) (h2 : IsFst K B a go z y) : x = y := by
  obtain ⟨r, r1, r2⟩ := h1
  obtain ⟨q, q1, q2⟩ := h2
  have e := r1.uniq q1
  subst e
  rcases r2 with ⟨a1, a2⟩ | ⟨a1, a2⟩ | ⟨k, a0, a1, a2⟩ <;> rcases q2 with ⟨b1, b2⟩ | ⟨b1, b2⟩ | ⟨j, b0, b1, b2⟩
  · rw [a2, b2]
  · rw [a1] at b1; exact absurd b1 (pu_m1_ne (by omega))
  · rw [a1, nI_eq (by omega) (by omega)] at b1; omega
  · rw [b1] at a1; exact absurd a1 (pu_m1_ne (by omega))
  · rw [a2, b2]
  · rw [b1] at a1; exact absurd a1 (pu_m1_ne (by omega))
  · rw [a1, nI_eq (by omega) (by omega)] at b1; omega
  · rw [a1] at b1; exact absurd b1 (pu_m1_ne (by omega))
  · rw [a1, nI_eq (by omega) (by omega)] at b1
    have : k = j := by omega
    subst this
    exact a2.uniq b2
theorem pu_fw_L {st : St} {n p l s r z k : Nat} {cd : Nat → Nat} (h : Base st n p l s r cd) (hl : Lks (St_links st) n r cd) (hz : z < n) (hk : k < 799) : ∀ (d i f : Nat) (wa : Wa), i + d = k → d < f → WB (Kw n r cd) (Bar n p l s cd) z i wa → ∃ wa', fX4_firstWord_L41 st (nI z) (nI (k + 1)) f (nI (i + 1)) wa = some wa' ∧ WB (Kw n r cd) (Bar n p l s cd) z k wa' := by
  intro d
  induction d with
  | zero =>
    intro i f wa hi hf hw
    obtain ⟨f, rfl, -⟩ := pu_fuel hf
    have : i = k := hi
    subst this
    refine ⟨wa, ?_, hw⟩
    rw [fX4_firstWord_L41, if_pos (nI_le (by omega) (by omega))]
  | succ d ih =>
    intro i f wa hi hf hw
    obtain ⟨f, rfl, hf⟩ := pu_fuel hf
    obtain ⟨y, wa', e1, e2, -⟩ := pu_sb h hl hz hw
    rw [fX4_firstWord_L41, if_neg (nI_ge (by omega) (by omega)), e1]
    simp only [pu_bd2, pu_pl, nI_1]
    exact ih (i + 1) f wa' (by omega) (by omega) e2
theorem pu_fw {st : St} {n p l s r a z : Nat} {cd : Nat → Nat} {p4 : Int32} {go : Prop} (h : Base st n p l s r cd) (hl : Lks (St_links st) n r cd) (ha : a < n) (hz : z < n) (hgo : p4 = 0 ↔ go) (wa : Wa) : ∃ y wa', fX4_firstWord wa st (nI a) (nI z) p4 = some (y, wa') ∧ IsFst (Kw n r cd) (Bar n p l s cd) a go z y := by
  have hn := h.2.2.2.2.2.1
  obtain ⟨m, wa1, e1, e2⟩ := pu_onw h hl ha hz hgo wa
  unfold fX4_firstWord
  rw [e1]
  simp only [pu_bd2]
  rcases e2 with ⟨k, k1, k2, k3, rfl⟩ | ⟨k1, rfl⟩
  · cases k with
    | zero =>
      rw [if_neg (by decide), if_pos (show nI 0 = (0 : Int32) from rfl)]
      exact ⟨_, _, rfl, nI 0, Or.inl ⟨0, k1, k2, k3, rfl⟩, Or.inl ⟨rfl, rfl⟩⟩
    | succ k =>
      obtain ⟨wa2, f1, f2⟩ := pu_look h wa1
      obtain ⟨wa3, g1, g2⟩ := pu_sae h hl hz (wa := wa2) (fun t ht => (f2 t ht).1)
      obtain ⟨wa4, h1, h2⟩ := pu_fw_L h hl hz (k := k) (by omega) k 0 1000 wa3 (by omega) (by omega) g2
      rw [if_pos (show (0 : Int32) < nI (k + 1) from nI_lt (a := 0) (by omega) (by omega)), f1]
      simp only [pu_bd]
      rw [g1]
      simp only [pu_bd]
      have h1' : fX4_firstWord_L41 st (nI z) (nI (k + 1)) 1000 (1 : Int32) wa3 = some wa4 := h1
      rw [h1']
      simp only [pu_bd, pu_pl]
      have hCd : ∀ j, Cd (Kw n r cd) (Bar n p l s cd) a go z k j → j < 24 := fun j q => by
        rcases q.1 with q | q
        · omega
        · have := q.2.2.2.1; omega
      have fin : ∀ x : Int32, (∀ j, j < 32 → (bt x j = true ↔ (j = a ∨ (go ∧ ¬ Bar n p l s cd 0 j ∧ Kw n r cd a j)))) → ∃ y, fX5_lowest ((x &&& (Wa_barred wa4 1 ^^^ (-1 : Int32))) &&& Wa_layer wa4 1) = some y ∧ Lst 24 (Cd (Kw n r cd) (Bar n p l s cd) a go z k) y := by
        intro x hx
        refine pu_low5L (fun j hj => ?_) hCd
        obtain ⟨w1, w2, -⟩ := h2 1 (by decide) j hj
        unfold Cd
        rw [b_and, b_and, pu_not _ hj, ← hx j hj, ← w1, ← w2]
        simp [and_assoc]
      have i1 : inb (1 : Int32) 32 = true := by decide
      have i0 : inb (0 : Int32) 32 = true := by decide
      have c1 : (1 : Int32).toNatClampNeg = 1 := by decide
      have c0 : (0 : Int32).toNatClampNeg = 0 := by decide
      by_cases hg : p4 = 0
      · have g := hgo.mp hg
        rw [if_pos hg, pu_linksOf h ha, i1, i0, c1, c0]
        simp only [pu_bd, pu_ck]
        obtain ⟨y, q1, q2⟩ := fin ((1 : Int32) <<< (nI a &&& 31) ||| St_links st a &&& (Wa_barred wa4 0 ^^^ (-1 : Int32))) (fun j hj => by
          obtain ⟨w1, -, -⟩ := h2 0 (by decide) j hj
          rw [b_or, b_and, pu_one (by omega) hj, pu_not _ hj, ← w1]
          have := hl a j (by omega) hj
          have e : bt (St_links st a) j = true ↔ Kw n r cd a j := this
          simp [g, ← e, and_comm])
        rw [q1]
        exact ⟨y, wa4, rfl, nI (k + 1), Or.inl ⟨k + 1, k1, k2, k3, rfl⟩, Or.inr (Or.inr ⟨k, by omega, rfl, q2⟩)⟩
      · have g : ¬ go := fun q => hg (hgo.mpr q)
        rw [if_neg hg, i1, c1]
        simp only [pu_ck]
        obtain ⟨y, q1, q2⟩ := fin ((1 : Int32) <<< (nI a &&& 31)) (fun j hj => by
          rw [pu_one (by omega) hj]
          simp [g])
        rw [q1]
        exact ⟨y, wa4, rfl, nI (k + 1), Or.inl ⟨k + 1, k1, k2, k3, rfl⟩, Or.inr (Or.inr ⟨k, by omega, rfl, q2⟩)⟩
  · rw [if_neg (by decide), if_neg (by decide)]
    exact ⟨_, _, rfl, -1, Or.inr ⟨k1, rfl⟩, Or.inr (Or.inl ⟨rfl, rfl⟩)⟩
end FST
