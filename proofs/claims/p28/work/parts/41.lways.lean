section LWY
/-! the law's sets of words: links laid, what is beside, what is barred; the fewest turns, the plain ladder -/
theorem lw_bit (w : Nat) (hw : w < 24) (j : Nat) (hj : j < 32) : bt ((1 : Int32) <<< (nI w &&& 31)) j = decide (j = w) := pu_one (by omega) hj
theorem lays_L16 {vq vw : AI} {n p l s r w : Nat} {cd : Nat → Nat} (h : LQ vq vw n p l s r cd) (hw : w < n) : ∀ (d v f : Nat) (A : AI), v + d = n → d < f → (∀ j, j < 32 → (bt (A w) j = true ↔ j < v ∧ Lkc r (cd w) (cd j))) → ∃ A', fL_lays_L16 vq vw (nI w) f (nI v) A = some A' ∧ (∀ j, j < 32 → (bt (A' w) j = true ↔ j < n ∧ Lkc r (cd w) (cd j))) ∧ ∀ u, u ≠ w → A' u = A u := by
  obtain ⟨q0, -, -, -, q4, hn, -, -, -, hr, hcd⟩ := h
  obtain ⟨cw, cw2⟩ := hcd w hw
  intro d
  induction d with
  | zero =>
    intro v f A hv hf hA
    obtain ⟨f, rfl, -⟩ := pu_fuel hf
    have : v = n := hv
    subst this
    refine ⟨A, ?_, hA, fun u _ => rfl⟩
    rw [fL_lays_L16, z10_0, q0, if_pos (nI_le (Nat.le_refl _) (by omega))]
  | succ d ih =>
    intro v f A hv hf hA
    obtain ⟨f, rfl, hf⟩ := pu_fuel hf
    have hvn : v < n := by omega
    obtain ⟨cv, cv2⟩ := hcd v hvn
    rw [fL_lays_L16, z10_0, q0, if_neg (nI_ge hvn (by omega)), pu_inb (k := w) (by omega) (by decide), pu_cl (k := w) (by omega), pu_ck, pu_ck, pu_inb (k := v) (by omega) (by decide), pu_cl (k := v) (by omega), pu_ck, z10_4, q4, cw, cv]
    obtain ⟨y, y1, y2⟩ := lw_linked cw2 cv2 hr
    rw [y1, pu_bd]
    have fin : ∀ x : Int32, (∀ j, j < 32 → (bt x j = true ↔ j = v ∧ Lkc r (cd w) (cd v))) → ∃ A', fL_lays_L16 vq vw (nI w) f (nI (v + 1)) (upd A w (A w ||| x)) = some A' ∧ (∀ j, j < 32 → (bt (A' w) j = true ↔ j < n ∧ Lkc r (cd w) (cd j))) ∧ ∀ u, u ≠ w → A' u = A u := by
      intro x hx
      obtain ⟨A', e1, e2, e3⟩ := ih (v + 1) f (upd A w (A w ||| x)) (by omega) (by omega) (fun j hj => by
        rw [pk_us, b_or, Bool.or_eq_true, hA j hj, hx j hj]
        constructor
        · rintro (⟨a1, a2⟩ | ⟨rfl, a2⟩)
          · exact ⟨by omega, a2⟩
          · exact ⟨by omega, a2⟩
        · rintro ⟨a1, a2⟩
          by_cases e : j = v
          · subst e; exact Or.inr ⟨rfl, a2⟩
          · exact Or.inl ⟨by omega, a2⟩)
      exact ⟨A', e1, e2, fun u hu => by rw [e3 u hu, pk_un hu]⟩
    rcases y2 with ⟨rfl, k⟩ | ⟨rfl, k⟩
    · rw [if_neg (show ¬ (1 : Int32) = 0 by decide), pu_bd, pu_ck, pu_pl, pu_pl, nI_1]
      exact fin _ (fun j hj => by rw [lw_bit v (by omega) j hj, decide_eq_true_eq]; exact ⟨fun e => ⟨e, k⟩, fun e => e.1⟩)
    · rw [if_pos (show (0 : Int32) = 0 from rfl), pu_bd, pu_ck, pu_pl, pu_pl, nI_1]
      exact fin _ (fun j hj => by rw [b_0]; exact ⟨fun e => by (cases e), fun e => absurd e.2 k⟩)
/-- links of the n words, each as bits -/
def LL (A : AI) (n r : Nat) (cd : Nat → Nat) : Prop := ∀ u j, u < n → j < 32 → (bt (A u) j = true ↔ j < n ∧ Lkc r (cd u) (cd j))
theorem lays_L2 {vq vw : AI} {n p l s r : Nat} {cd : Nat → Nat} (h : LQ vq vw n p l s r cd) : ∀ (d w f : Nat) (A : AI), w + d = n → d < f → (∀ u j, u < w → j < 32 → (bt (A u) j = true ↔ j < n ∧ Lkc r (cd u) (cd j))) → ∃ A', fL_lays_L2 vq vw f (nI w) A = some A' ∧ LL A' n r cd := by
  have q0 := h.1
  have hn := h.2.2.2.2.2.1
  intro d
  induction d with
  | zero =>
    intro w f A hw hf hA
    obtain ⟨f, rfl, -⟩ := pu_fuel hf
    have : w = n := hw
    subst this
    refine ⟨A, ?_, fun u j hu hj => hA u j hu hj⟩
    rw [fL_lays_L2, z10_0, q0, if_pos (nI_le (Nat.le_refl _) (by omega))]
  | succ d ih =>
    intro w f A hw hf hA
    obtain ⟨f, rfl, hf⟩ := pu_fuel hf
    have hwn : w < n := by omega
    rw [fL_lays_L2, z10_0, q0, if_neg (nI_ge hwn (by omega)), pu_inb (k := w) (by omega) (by decide), pu_cl (k := w) (by omega), pu_ck, pu_pl]
    obtain ⟨A', e1, e2, e3⟩ := lays_L16 h hwn n 0 1000 (upd A w 0) (by omega) (by omega) (fun j hj => by
      rw [pk_us, b_0]; exact ⟨fun e => by (cases e), fun e => absurd e.1 (by omega)⟩)
    have e1' : fL_lays_L16 vq vw (nI w) 1000 (0 : Int32) (upd A w 0) = some A' := e1
    rw [e1', pu_bd, pu_pl, nI_1]
    exact ih (w + 1) f A' (by omega) (by omega) (fun u j hu hj => by
      by_cases e : u = w
      · subst e; exact e2 j hj
      · rw [e3 u e, pk_un e]; exact hA u j (by omega) hj)
theorem lw_lays {vq vw : AI} {n p l s r : Nat} {cd : Nat → Nat} (h : LQ vq vw n p l s r cd) (A : AI) : ∃ A', fL_lays vq vw A = some A' ∧ LL A' n r cd := by
  obtain ⟨A', e1, e2⟩ := lays_L2 h n 0 1000 A (by omega) (by have := h.2.2.2.2.2.1; omega) (fun u j hu hj => by omega)
  have e1' : fL_lays_L2 vq vw 1000 (0 : Int32) A = some A' := e1
  refine ⟨A', ?_, e2⟩
  unfold fL_lays
  rw [e1', pu_bd]
theorem beside_L {vq vw vl : AI} {n p l s r : Nat} {cd : Nat → Nat} {x : Int32} (h : LQ vq vw n p l s r cd) : ∀ (d w f : Nat) (acc : Int32), w + d = n → d < f → ∃ y, fL_beside_L5 vq vl x f acc (nI w) = some y ∧ ∀ j, bt y j = true ↔ (bt acc j = true ∨ ∃ v, w ≤ v ∧ v < n ∧ (bt x v = true ∧ bt (vl v) j = true)) := by
  have q0 := h.1
  have hn := h.2.2.2.2.2.1
  intro d
  induction d with
  | zero =>
    intro w f acc hw hf
    obtain ⟨f, rfl, -⟩ := pu_fuel hf
    refine ⟨acc, ?_, fun j => ?_⟩
    · rw [fL_beside_L5, z10_0, q0, if_pos (nI_le (by omega) (by omega))]
    · rw [pu_ex0 (by omega), or_false]
  | succ d ih =>
    intro w f acc hw hf
    obtain ⟨f, rfl, hf⟩ := pu_fuel hf
    have hwn : w < n := by omega
    rw [fL_beside_L5, z10_0, q0, if_neg (nI_ge hwn (by omega)), pu_sh (by omega)]
    cases hb : bt x w
    · rw [if_neg (show ¬ (if false = true then (1 : Int32) else 0) = 1 by decide), pu_bd, pu_pl, pu_pl, nI_1]
      obtain ⟨y, e1, e2⟩ := ih (w + 1) f (acc ||| 0) (by omega) (by omega)
      refine ⟨y, e1, fun j => ?_⟩
      rw [e2, pu_ex hwn, b_or, b_0]
      simp [hb]
    · rw [if_pos (show (if true = true then (1 : Int32) else 0) = 1 by decide), pu_inb (by omega) (by decide), pu_cl (by omega), pu_ck, pu_bd, pu_pl, pu_pl, nI_1]
      obtain ⟨y, e1, e2⟩ := ih (w + 1) f (acc ||| vl w) (by omega) (by omega)
      refine ⟨y, e1, fun j => ?_⟩
      rw [e2, pu_ex hwn, b_or]
      simp [hb, or_assoc]
theorem lw_beside {vq vw vl : AI} {n p l s r : Nat} {cd : Nat → Nat} {x : Int32} {S : Nat → Prop} (h : LQ vq vw n p l s r cd) (hl : LL vl n r cd) (hx : ∀ j, j < 32 → (bt x j = true ↔ S j)) : ∃ y, fL_beside vq vl x = some y ∧ ∀ j, j < 32 → (bt y j = true ↔ ∃ v, S v ∧ Kw n r cd v j) := by
  have hn := h.2.2.2.2.2.1
  obtain ⟨y, e1, e2⟩ := beside_L (vl := vl) (x := x) h n 0 1000 0 (by omega) (by omega)
  have e1' : fL_beside_L5 vq vl x 1000 (0 : Int32) (0 : Int32) = some y := e1
  refine ⟨y, ?_, fun j hj => ?_⟩
  · unfold fL_beside
    rw [e1', pu_bd]
  · rw [e2, b_0]
    constructor
    · rintro (q | ⟨v, -, v1, v2, v3⟩)
      · cases q
      · obtain ⟨a1, a2⟩ := (hl v j v1 hj).mp v3
        exact ⟨v, (hx v (by omega)).mp v2, v1, a1, a2⟩
    · rintro ⟨v, v1, v2, v3, v4⟩
      exact Or.inr ⟨v, Nat.zero_le v, v2, (hx v (by omega)).mpr v1, (hl v j v2 hj).mpr ⟨v3, v4⟩⟩
theorem barredSet_L {vq vw : AI} {n p l s r t : Nat} {cd : Nat → Nat} (h : LQ vq vw n p l s r cd) (ht : t < 2 ^ 19) : ∀ (d w f : Nat) (acc : Int32), w + d = n → d < f → ∃ y, fL_barredSet_L5 vq vw (nI t) f acc (nI w) = some y ∧ ∀ j, j < 32 → (bt y j = true ↔ (bt acc j = true ∨ ∃ v, w ≤ v ∧ v < n ∧ (Bar n p l s cd t v ∧ v = j))) := by
  have q0 := h.1
  have hn := h.2.2.2.2.2.1
  intro d
  induction d with
  | zero =>
    intro w f acc hw hf
    obtain ⟨f, rfl, -⟩ := pu_fuel hf
    refine ⟨acc, ?_, fun j _ => ?_⟩
    · rw [fL_barredSet_L5, z10_0, q0, if_pos (nI_le (by omega) (by omega))]
    · rw [pu_ex0 (by omega), or_false]
  | succ d ih =>
    intro w f acc hw hf
    obtain ⟨f, rfl, hf⟩ := pu_fuel hf
    have hwn : w < n := by omega
    obtain ⟨cw, cw2⟩ := h.2.2.2.2.2.2.2.2.2.2 w hwn
    obtain ⟨b, b1, b2⟩ := lw_isBarred h hwn ht
    rw [fL_barredSet_L5, z10_0, q0, if_neg (nI_ge hwn (by omega)), pu_inb (by omega) (by decide), pu_cl (by omega), pu_ck, cw, b1, pu_bd]
    rcases b2 with ⟨rfl, k⟩ | ⟨rfl, k⟩
    · rw [if_neg (show ¬ (1 : Int32) = 0 by decide), pu_bd, pu_pl, pu_pl, nI_1]
      obtain ⟨y, e1, e2⟩ := ih (w + 1) f (acc ||| ((1 : Int32) <<< (nI w &&& 31))) (by omega) (by omega)
      refine ⟨y, e1, fun j hj => ?_⟩
      rw [e2 j hj, pu_ex hwn, b_or, lw_bit w (by omega) j hj]
      simp only [Bool.or_eq_true, decide_eq_true_eq, k, true_and, or_assoc]
      rw [eq_comm (a := j)]
    · rw [if_pos (show (0 : Int32) = 0 from rfl), pu_bd, pu_pl, pu_pl, nI_1]
      obtain ⟨y, e1, e2⟩ := ih (w + 1) f (acc ||| 0) (by omega) (by omega)
      refine ⟨y, e1, fun j hj => ?_⟩
      rw [e2 j hj, pu_ex hwn, b_or, b_0]
      simp only [Bool.or_false, k, false_and, false_or]
theorem lw_barredSet {vq vw : AI} {n p l s r t : Nat} {cd : Nat → Nat} (h : LQ vq vw n p l s r cd) (ht : t < 2 ^ 19) : ∃ y, fL_barredSet vq vw (nI t) = some y ∧ ∀ j, j < 32 → (bt y j = true ↔ Bar n p l s cd t j) := by
  have hn := h.2.2.2.2.2.1
  obtain ⟨y, e1, e2⟩ := barredSet_L h ht n 0 1000 0 (by omega) (by omega)
  have e1' : fL_barredSet_L5 vq vw (nI t) 1000 (0 : Int32) (0 : Int32) = some y := e1
  refine ⟨y, ?_, fun j hj => ?_⟩
  · unfold fL_barredSet
    rw [e1', pu_bd]
  · rw [e2 j hj, b_0]
    constructor
    · rintro (q | ⟨v, -, v1, v2, rfl⟩)
      · cases q
      · exact v2
    · intro q
      exact Or.inr ⟨j, Nat.zero_le j, q.1, q, rfl⟩
section FEW
variable {K B : Nat → Nat → Prop} {a z : Nat} {go : Prop}
theorem Sr_none {t : Nat} (h : ∀ w, ¬ Sr K B a go t w) : ∀ d w, ¬ Sr K B a go (t + d) w := by
  intro d
  induction d with
  | zero => exact h
  | succ d ih =>
    intro w q
    rcases ((Sr_1 (t + d) w).mp q).1 with q | ⟨-, -, v, q, -⟩
    · exact ih w q
    · exact ih v q
theorem Sr_lt {n : Nat} (ha : a < n) (hK : ∀ v w, K v w → w < n) : ∀ {t w : Nat}, Sr K B a go t w → w < n := by
  intro t
  induction t with
  | zero => intro w h; exact (show w = a from h) ▸ ha
  | succ t ih =>
    intro w h
    rcases ((Sr_1 t w).mp h).1 with q | ⟨-, -, v, -, q⟩
    · exact ih q
    · exact hK v w q
end FEW
theorem few_L {vq vw vl : AI} {n p l s r a z : Nat} {cd : Nat → Nat} {go : Prop} {p2 : Int32} (h : LQ vq vw n p l s r cd) (hl : LL vl n r cd) (ha : a < n) (hz : z < n) (hgo : p2 = 0 ↔ go) : ∀ (d t f : Nat) (x : Int32), t + d = 800 → d < f → (∀ j, j < 32 → (bt x j = true ↔ Sr (Kw n r cd) (Bar n p l s cd) a go t j)) → ¬ Sr (Kw n r cd) (Bar n p l s cd) a go t z → (∀ j, j < t → ¬ Hit (Kw n r cd) (Bar n p l s cd) a go z j) → ∃ y, fL_fewest_L8 vq vw vl (nI z) p2 f x (nI t) = some y ∧ IsMin (Hit (Kw n r cd) (Bar n p l s cd) a go z) y := by
  have hn := h.2.2.2.2.2.1
  intro d
  induction d with
  | zero =>
    intro t f x ht hf hx hz0 hno
    obtain ⟨f, rfl, -⟩ := pu_fuel hf
    have : t = 800 := ht
    subst this
    refine ⟨-1, ?_, Or.inr ⟨hno, rfl⟩⟩
    rw [fL_fewest_L8, if_pos (show (800 : Int32) ≤ nI 800 from nI_le (a := 800) (by omega) (by omega))]
  | succ d ih =>
    intro t f x ht hf hx hz0 hno
    obtain ⟨f, rfl, hf⟩ := pu_fuel hf
    rw [fL_fewest_L8, if_neg (show ¬ (800 : Int32) ≤ nI t from nI_ge (b := 800) (by omega) (by omega))]
    by_cases x0 : x = 0
    · rw [if_pos x0]
      have none : ∀ w, ¬ Sr (Kw n r cd) (Bar n p l s cd) a go t w := fun w q => by
        have hw := Sr_lt ha (fun v w k => k.2.1) q
        have := (hx w (by omega)).mpr q
        rw [x0, b_0] at this
        cases this
      refine ⟨-1, rfl, Or.inr ⟨fun k hk q9 => ?_, rfl⟩⟩
      obtain ⟨-, -, v, q, -⟩ := id q9
      by_cases e : k < t
      · exact hno k e q9
      · have := Sr_none none (k - t) v
        rw [show t + (k - t) = k by omega] at this
        exact this q
    · rw [if_neg x0]
      -- the words that may be come to in this turn
      have key : ∃ y, (if p2 = (0 : Int32) then (bd (fL_beside vq vl x) fun (r12 : Int32) => (bd (fL_barredSet vq vw (nI t)) fun (r13 : Int32) => (some (x ||| (r12 &&& (r13 ^^^ (-1 : Int32))))))) else (if nI t = (0 : Int32) then (some x) else (bd (fL_beside vq vl x) fun (r15 : Int32) => (bd (fL_barredSet vq vw (nI t)) fun (r16 : Int32) => (some (x ||| (r15 &&& (r16 ^^^ (-1 : Int32))))))))) = some y ∧ ∀ j, j < 32 → (bt y j = true ↔ (Sr (Kw n r cd) (Bar n p l s cd) a go t j ∨ ((0 < t ∨ go) ∧ ¬ Bar n p l s cd t j ∧ ∃ v, Sr (Kw n r cd) (Bar n p l s cd) a go t v ∧ Kw n r cd v j))) := by
        obtain ⟨y1, c1, c2⟩ := lw_beside h hl hx
        obtain ⟨y2, d1, d2⟩ := lw_barredSet h (t := t) (by omega)
        have both : (0 < t ∨ go) → ∀ j, j < 32 → (bt (x ||| (y1 &&& (y2 ^^^ (-1 : Int32)))) j = true ↔ (Sr (Kw n r cd) (Bar n p l s cd) a go t j ∨ ((0 < t ∨ go) ∧ ¬ Bar n p l s cd t j ∧ ∃ v, Sr (Kw n r cd) (Bar n p l s cd) a go t v ∧ Kw n r cd v j))) := fun hg j hj => by
          rw [b_or, b_and, pu_not _ hj, Bool.or_eq_true, Bool.and_eq_true, hx j hj, c2 j hj]
          have := d2 j hj
          cases hb : bt y2 j
          · rw [hb] at this
            have nb : ¬ Bar n p l s cd t j := fun q => by have := this.mpr q; cases this
            simp [nb, hg]
          · have nb := this.mp hb
            simp [nb]
        by_cases e : p2 = 0
        · rw [if_pos e, c1, pu_bd, d1, pu_bd]
          exact ⟨_, rfl, both (Or.inr (hgo.mp e))⟩
        · rw [if_neg e]
          by_cases e0 : t = 0
          · subst e0
            rw [if_pos (show nI 0 = (0 : Int32) from rfl)]
            refine ⟨x, rfl, fun j hj => ?_⟩
            rw [hx j hj]
            constructor
            · exact Or.inl
            · rintro (q | ⟨q | q, -⟩)
              · exact q
              · omega
              · exact absurd (hgo.mpr q) e
          · rw [if_neg (show ¬ nI t = (0 : Int32) by rw [show (0 : Int32) = nI 0 from rfl, nI_eq (by omega) (by decide)]; exact e0), c1, pu_bd, d1, pu_bd]
            exact ⟨_, rfl, both (Or.inl (by omega))⟩
      obtain ⟨y, e1, e2⟩ := key
      rw [e1, pu_bd, pu_sh (by omega)]
      have hit : bt y z = true ↔ Hit (Kw n r cd) (Bar n p l s cd) a go z t := by
        rw [e2 z (by omega)]
        constructor
        · rintro (q | q)
          · exact absurd q hz0
          · exact q
        · exact Or.inr
      cases hb : bt y z
      · rw [if_neg (show ¬ (if false = true then (1 : Int32) else 0) = 1 by decide)]
        have nh : ¬ Hit (Kw n r cd) (Bar n p l s cd) a go z t := fun q => by have := hit.mpr q; rw [hb] at this; cases this
        obtain ⟨y3, f1, f2⟩ := lw_barredSet h (t := t + 1) (by omega)
        rw [nI_1, f1, pu_bd, pu_pl, pu_pl]
        refine ih (t + 1) f _ (by omega) (by omega) (fun j hj => ?_) (fun q => ?_) (fun j hj => ?_)
        · rw [b_and, pu_not _ hj, Bool.and_eq_true, e2 j hj, Sr_1]
          have := f2 j hj
          cases hb3 : bt y3 j
          · rw [hb3] at this
            have nb : ¬ Bar n p l s cd (t + 1) j := fun q => by have := this.mpr q; cases this
            simp [nb]
          · have nb := this.mp hb3
            simp [nb]
        · rcases ((Sr_1 t z).mp q).1 with q | q
          · exact hz0 q
          · exact nh q
        · by_cases e : j = t
          · rw [e]; exact nh
          · exact hno j (by omega)
      · rw [if_pos (show (if true = true then (1 : Int32) else 0) = 1 by decide)]
        exact ⟨_, rfl, Or.inl ⟨t, by omega, hit.mp hb, hno, rfl⟩⟩
theorem lw_fewest {vq vw vl : AI} {n p l s r a z : Nat} {cd : Nat → Nat} {go : Prop} {p2 : Int32} (h : LQ vq vw n p l s r cd) (hl : LL vl n r cd) (ha : a < n) (hz : z < n) (haz : a ≠ z) (hgo : p2 = 0 ↔ go) : ∃ y, fL_fewest vq vw vl (nI a) (nI z) p2 = some y ∧ IsMin (Hit (Kw n r cd) (Bar n p l s cd) a go z) y := by
  have hn := h.2.2.2.2.2.1
  unfold fL_fewest
  rw [pu_pl]
  exact few_L h hl ha hz hgo 800 0 1000 _ rfl (by decide) (fun j hj => by
    rw [lw_bit a (by omega) j hj, decide_eq_true_eq]; exact Iff.rfl) (fun q => haz (show z = a from q).symm) (fun j hj => by omega)
theorem ladder_L {vq vw vl : AI} {n p l s r a z : Nat} {cd : Nat → Nat} (h : LQ vq vw n p l s r cd) (hl : LL vl n r cd) (hz : z < n) : ∀ (d k f : Nat) (x : Int32), k + d = 24 → d < f → (∀ j, j < 32 → (bt x j = true ↔ Rk (Kw n r cd) a k j)) → (∀ j, j < k → ¬ Rk (Kw n r cd) a j z) → ∃ y, fL_ladder_L8 vq vl (nI z) f x (nI k) = some y ∧ Lst 24 (fun k => Rk (Kw n r cd) a k z) y := by
  have hn := h.2.2.2.2.2.1
  intro d
  induction d with
  | zero =>
    intro k f x hk hf hx hno
    obtain ⟨f, rfl, -⟩ := pu_fuel hf
    refine ⟨-1, ?_, Or.inr ⟨fun w hw => hno w (by omega), rfl⟩⟩
    rw [fL_ladder_L8, if_pos (show (24 : Int32) ≤ nI k from nI_le (a := 24) (by omega) (by omega))]
  | succ d ih =>
    intro k f x hk hf hx hno
    obtain ⟨f, rfl, hf⟩ := pu_fuel hf
    rw [fL_ladder_L8, if_neg (show ¬ (24 : Int32) ≤ nI k from nI_ge (b := 24) (by omega) (by omega)), pu_sh (by omega)]
    cases hb : bt x z
    · rw [if_neg (show ¬ (if false = true then (1 : Int32) else 0) = 1 by decide)]
      obtain ⟨y, c1, c2⟩ := lw_beside h hl hx
      rw [c1, pu_bd, pu_pl, pu_pl, nI_1]
      refine ih (k + 1) f _ (by omega) (by omega) (fun j hj => ?_) (fun j hj q => ?_)
      · rw [b_or, Bool.or_eq_true, hx j hj, c2 j hj, Rk_1]
      · by_cases e : j = k
        · rw [e] at q
          have := (hx z (by omega)).mpr q
          rw [hb] at this
          cases this
        · exact hno j (by omega) q
    · rw [if_pos (show (if true = true then (1 : Int32) else 0) = 1 by decide)]
      exact ⟨_, rfl, Or.inl ⟨k, by omega, (hx z (by omega)).mp hb, hno, rfl⟩⟩
theorem lw_ladder {vq vw vl : AI} {n p l s r a z : Nat} {cd : Nat → Nat} (h : LQ vq vw n p l s r cd) (hl : LL vl n r cd) (ha : a < n) (hz : z < n) : ∃ y, fL_ladder vq vl (nI a) (nI z) = some y ∧ Lst 24 (fun k => Rk (Kw n r cd) a k z) y := by
  have hn := h.2.2.2.2.2.1
  unfold fL_ladder
  rw [pu_pl]
  exact ladder_L h hl hz 24 0 1000 _ rfl (by decide) (fun j hj => by
    rw [lw_bit a (by omega) j hj, decide_eq_true_eq]; exact Iff.rfl) (fun j hj => by omega)
end LWY
