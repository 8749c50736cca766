section KEP
theorem pu_lwe {st : St} {n p l s r w : Nat} {cd : Nat → Nat} (h : Base st n p l s r cd) (hw : w < n) (A : AI) : ∃ A' : AI, fX2_linkWithEarlier (St_set_links st A) (nI w) = some (St_set_links st A') ∧ ∀ u j, j < 32 → (bt (A' u) j = true ↔ (if u = w then j < w ∧ Lkc r (cd j) (cd w) else if u < w ∧ j = w then Lkc r (cd u) (cd w) else bt (A u) j = true)) := by
  have hn := h.2.2.2.2.2.1
  obtain ⟨A', e1, e2⟩ := pu_lwe_L h hw w 0 1000 (upd A w 0) (by omega) (by omega)
  refine ⟨A', ?_, fun u j hj => ?_⟩
  · unfold fX2_linkWithEarlier
    rw [show fX2_hasWord (St_set_links st A) (nI w) = some 1 from pu_hasWord (st := St_set_links st A) h hw, pu_inb (by omega) (by omega), pu_cl (by omega)]
    simp only [pu_bd, pu_ck, pu_pl]
    rw [if_neg (by decide)]
    show bd (fX2_linkWithEarlier_L18 (nI w) 1000 (nI 0) (St_set_links st (upd A w 0))) (fun v => some v) = _
    rw [e1]
    rfl
  · rw [e2 u j hj]
    by_cases e : u = w
    · subst e
      rw [if_pos rfl, if_pos rfl, pk_us, b_0]
      simp
    · rw [if_neg e, if_neg e, pk_un e]
      simp
def Lks (A : AI) (n r : Nat) (cd : Nat → Nat) : Prop := ∀ u j, u < 24 → j < 32 → (bt (A u) j = true ↔ u < n ∧ j < n ∧ Lkc r (cd u) (cd j))
theorem pu_anew_L {st : St} {n p l s r : Nat} {cd : Nat → Nat} (h : Base st n p l s r cd) : ∀ (d v f : Nat) (A : AI), v + d = n → d < f → (∀ u j, u < 24 → j < 32 → (u < v → j < v → (bt (A u) j = true ↔ Lkc r (cd u) (cd j))) ∧ (n ≤ u ∨ n ≤ j → bt (A u) j = false)) → ∃ A' : AI, fX2_linkAnew_L2 f (nI v) (St_set_links st A) = some (St_set_links st A') ∧ Lks A' n r cd := by
  have hn := h.2.2.2.2.2.1
  intro d
  induction d with
  | zero =>
    intro v f A hv hf g
    obtain ⟨f, rfl, -⟩ := pu_fuel hf
    refine ⟨A, ?_, fun u j hu hj => ?_⟩
    · rw [fX2_linkAnew_L2, show St_words (St_set_links st A) = nI n from h.1, if_pos (nI_le (by omega) (by omega))]
    · obtain ⟨g1, g2⟩ := g u j hu hj
      have : v = n := hv
      subst this
      by_cases e : u < v ∧ j < v
      · rw [g1 e.1 e.2]
        exact ⟨fun q => ⟨e.1, e.2, q⟩, fun q => q.2.2⟩
      · rw [g2 (by omega)]
        exact ⟨(fun q => by cases q), (fun q => absurd ⟨q.1, q.2.1⟩ e)⟩
  | succ d ih =>
    intro v f A hv hf g
    obtain ⟨f, rfl, hf⟩ := pu_fuel hf
    have hvn : v < n := by omega
    rw [fX2_linkAnew_L2, show St_words (St_set_links st A) = nI n from h.1, if_neg (nI_ge hvn (by omega))]
    obtain ⟨A1, e1, e2⟩ := pu_lwe h hvn A
    rw [e1]
    simp only [pu_bd, pu_pl, nI_1]
    refine ih (v + 1) f A1 (by omega) (by omega) (fun u j hu hj => ?_)
    obtain ⟨g1, g2⟩ := g u j hu hj
    have e3 := e2 u j hj
    constructor
    · intro h1 h2
      rw [e3]
      by_cases e : u = v
      · subst e
        rw [if_pos rfl]
        by_cases e4 : j = u
        · subst e4
          exact ⟨fun q => by omega, fun q => absurd q (Lkc_self r (cd j))⟩
        · rw [Lkc_comm]
          exact ⟨fun q => q.2, fun q => ⟨by omega, q⟩⟩
      · rw [if_neg e]
        by_cases e4 : j = v
        · subst e4
          rw [if_pos ⟨by omega, rfl⟩]
        · rw [if_neg (fun q => e4 q.2)]
          exact g1 (by omega) (by omega)
    · intro h1
      cases hb : bt (A1 u) j
      · rfl
      · rw [hb] at e3
        have e3 := e3.mp rfl
        by_cases e : u = v
        · rw [if_pos e] at e3; omega
        · rw [if_neg e, if_neg (by omega)] at e3
          rw [g2 h1] at e3; cases e3
theorem pu_anew {st : St} {n p l s r r0 : Nat} {cd : Nat → Nat} (h : Base st n p l s r cd) (hl : Lks (St_links st) n r0 cd) : ∃ A' : AI, fX2_linkAnew st = some (St_set_links st A') ∧ Lks A' n r cd := by
  have hn := h.2.2.2.2.2.1
  obtain ⟨A', e1, e2⟩ := pu_anew_L h n 0 1000 (St_links st) (by omega) (by omega) (fun u j hu hj => ⟨fun q => by omega, fun q => by
    cases hb : bt (St_links st u) j
    · rfl
    · have := (hl u j hu hj).mp hb; omega⟩)
  refine ⟨A', ?_, e2⟩
  unfold fX2_linkAnew
  show bd (fX2_linkAnew_L2 1000 (nI 0) (St_set_links st (St_links st))) (fun v => some v) = _
  rw [e1]
  rfl
/-! the word with a code -/
theorem pu_wwc_L {st : St} {n p l s r c : Nat} {cd : Nat → Nat} (h : Base st n p l s r cd) (hc : c < 2 ^ 31) : ∀ (d i f : Nat), i + d = n → d < f → (∀ v, v < i → cd v ≠ c) → ∃ y, fX2_wordWithCode_L2 st (nI c) f (nI i) = some y ∧ ((∃ w, w < n ∧ cd w = c ∧ (∀ v, v < w → cd v ≠ c) ∧ y = nI w) ∨ ((∀ w, w < n → cd w ≠ c) ∧ y = -1)) := by
  have hn := h.2.2.2.2.2.1
  intro d
  induction d with
  | zero =>
    intro i f hi hf g
    obtain ⟨f, rfl, -⟩ := pu_fuel hf
    refine ⟨-1, ?_, Or.inr ⟨fun w hw => g w (by omega), rfl⟩⟩
    rw [fX2_wordWithCode_L2, h.1, if_pos (nI_le (by omega) (by omega))]
  | succ d ih =>
    intro i f hi hf g
    obtain ⟨f, rfl, hf⟩ := pu_fuel hf
    have hin : i < n := by omega
    obtain ⟨h3, h4⟩ := h.2.2.2.2.2.2.2.2.2.2 i hin
    rw [fX2_wordWithCode_L2, h.1, if_neg (nI_ge hin (by omega)), if_neg (show ¬ (24 : Int32) ≤ nI i from nI_ge (b := 24) (by omega) (by omega)), pu_inb (by omega) (by omega), pu_cl (by omega), h3]
    simp only [pu_ck, pu_pl, nI_1]
    by_cases e : cd i = c
    · rw [if_pos (by rw [e])]
      exact ⟨_, rfl, Or.inl ⟨i, hin, e, g, rfl⟩⟩
    · rw [if_neg (by rw [nI_eq (by omega) hc]; exact e)]
      exact ih (i + 1) f (by omega) (by omega) (fun v hv => by
        by_cases e2 : v = i
        · rw [e2]; exact e
        · exact g v (by omega))
theorem pu_wwc {st : St} {n p l s r c : Nat} {cd : Nat → Nat} (h : Base st n p l s r cd) (hc : c < 2 ^ 31) : ∃ y, fX2_wordWithCode st (nI c) = some y ∧ ((∃ w, w < n ∧ cd w = c ∧ (∀ v, v < w → cd v ≠ c) ∧ y = nI w) ∨ ((∀ w, w < n → cd w ≠ c) ∧ y = -1)) := by
  have hn := h.2.2.2.2.2.1
  exact pu_wwc_L h hc n 0 1000 (by omega) (by omega) (fun v hv => by omega)
def cd_add (n c : Nat) (cd : Nat → Nat) : Nat → Nat := fun w => if w = n then c else cd w
theorem pu_takeIn {st : St} {n p l s r c : Nat} {cd : Nat → Nat} (h : Base st n p l s r cd) (hl : Lks (St_links st) n r cd) (hc : c < 4096) : ((∃ w, w < n ∧ cd w = c) ∧ fX2_takeIn st (nI c) = some (1, st)) ∨ ((∀ w, w < n → cd w ≠ c) ∧ n = 24 ∧ fX2_takeIn st (nI c) = some (0, st)) ∨ ((∀ w, w < n → cd w ≠ c) ∧ n < 24 ∧ ∃ A', fX2_takeIn st (nI c) = some (1, St_set_links (St_set_words (St_set_codes st (upd (St_codes st) n (nI c))) (nI (n + 1))) A') ∧ Lks A' (n + 1) r (cd_add n c cd) ∧ Base (St_set_links (St_set_words (St_set_codes st (upd (St_codes st) n (nI c))) (nI (n + 1))) A') (n + 1) p l s r (cd_add n c cd)) := by
  have hn := h.2.2.2.2.2.1
  obtain ⟨y, e1, e2⟩ := pu_wwc h (c := c) (by omega)
  rcases e2 with ⟨w, h1, h2, h3, rfl⟩ | ⟨h1, rfl⟩
  · refine Or.inl ⟨⟨w, h1, h2⟩, ?_⟩
    unfold fX2_takeIn
    rw [e1]
    simp only [pu_bd]
    rw [if_neg (pu_m1_ne (by omega))]
  · refine Or.inr ?_
    by_cases e : n = 24
    · refine Or.inl ⟨h1, e, ?_⟩
      unfold fX2_takeIn
      rw [e1, h.1]
      simp only [pu_bd]
      rw [if_pos trivial, if_neg (nI_pos (by omega)), if_neg (show ¬ nI n < (24 : Int32) from nI_nlt (b := 24) (by omega) (by omega))]
    · refine Or.inr ⟨h1, by omega, ?_⟩
      have hb : ∀ A, Base (St_set_links (St_set_words (St_set_codes st (upd (St_codes st) n (nI c))) (nI (n + 1))) A) (n + 1) p l s r (cd_add n c cd) := by
        obtain ⟨k1, k2, k3, k4, k5, k6, k7, k8, k9, k10, k11⟩ := h
        refine fun A => ⟨rfl, k2, k3, k4, k5, by omega, k7, k8, k9, k10, fun w hw => ?_⟩
        show upd (St_codes st) n (nI c) w = nI (cd_add n c cd w) ∧ _
        unfold cd_add
        by_cases e2 : w = n
        · subst e2
          rw [pk_us, if_pos rfl]
          exact ⟨rfl, hc⟩
        · rw [pk_un e2, if_neg e2]
          exact k11 w (by omega)
      obtain ⟨A', f1, f2⟩ := pu_lwe (hb (St_links st)) (w := n) (by omega) (St_links st)
      refine ⟨A', ?_, fun u j hu hj => ?_, hb A'⟩
      · unfold fX2_takeIn
        rw [e1, h.1]
        simp only [pu_bd]
        rw [if_pos trivial, if_neg (nI_pos (by omega)), if_pos (show nI n < (24 : Int32) from nI_lt (b := 24) (by omega) (by omega)), pu_inb (by omega) (by omega), pu_cl (by omega)]
        simp only [pu_ck, pu_pl]
        rw [show St_words (St_set_codes st (upd (St_codes st) n (nI c))) = nI n from h.1, nI_1]
        rw [show St_words (St_set_words (St_set_codes st (upd (St_codes st) n (nI c))) (nI (n + 1))) = nI (n + 1) from rfl, nI_pred]
        have f1' : fX2_linkWithEarlier (St_set_words (St_set_codes st (upd (St_codes st) n (nI c))) (nI (n + 1))) (nI n) = _ := f1
        rw [f1']
        rfl
      · rw [f2 u j hj]
        unfold cd_add
        by_cases e2 : u = n
        · subst e2
          rw [if_pos rfl, if_pos rfl, Lkc_comm]
          by_cases e3 : j = u
          · subst e3
            rw [if_pos rfl]
            exact ⟨fun q => by omega, fun q => absurd q.2.2 (Lkc_self r c)⟩
          · rw [if_neg e3]
            exact ⟨fun q => ⟨by omega, by omega, q.2⟩, fun q => ⟨by omega, q.2.2⟩⟩
        · rw [if_neg e2, if_neg e2]
          by_cases e3 : j = n
          · subst e3
            rw [if_pos rfl]
            by_cases e4 : u < j
            · rw [if_pos ⟨e4, rfl⟩]
              exact ⟨fun q => ⟨by omega, by omega, q⟩, fun q => q.2.2⟩
            · rw [if_neg (fun q => e4 q.1)]
              have := hl u j hu hj
              exact ⟨fun q => by have := this.mp q; omega, fun q => by omega⟩
          · rw [if_neg (fun q => e3 q.2), if_neg e3]
            have := hl u j hu hj
            rw [this]
            exact ⟨fun q => ⟨by omega, by omega, q.2.2⟩, fun q => ⟨by omega, by omega, q.2.2⟩⟩
end KEP
