section LLP
theorem law_loop {p : Program} {l : Launch} {e : Env} {su : State} {m : MethodId} {args : Array Value} {below : List Frame} {meth : Method} {c : Code} {b L : Nat} {xs : Nat → Int32} {g : GG} {A : Nat → Prop} {Q : State → Prop} (hst : l.stackTraces = false) (LC : LCx p su m args c b L xs g A) (aq aw ac al : Nat) (ad : Nat → Nat → Nat) (hL : L ≤ 260)
    (hend : ∀ (H : Heap) (locs : List Loc) (ls : Array Slot), va_S A su.heap H locs → W p l e room_1 su m args below meth c H locs 600130 7301080 Q (F0 m 579 ls [.int 1])) :
    ∀ (d t : Nat) {tx : Tx} {is : Is} {wa : Wa} {st : St} {hi : Hi} {vq vw vc vl : AI} {H : Heap} {locs : List Loc} {ls : Array Slot} (cells slots : Nat), t + d = 40 → cells ≤ 1000 + 3 * t → slots ≤ 20000 + 18 * t → Inv t st hi vq vw vc vl → va_P g.1 vwCl (cAr g aq 10 vq ++ (cAr g aw 24 vw ++ (cAr g ac 21 vc ++ (cAr g al 24 vl ++ wBR g ad tx is wa st hi)))) H → va_D A (cAr g aq 10 vq ++ (cAr g aw 24 vw ++ (cAr g ac 21 vc ++ (cAr g al 24 vl ++ wBR g ad tx is wa st hi)))) → va_S A su.heap H locs → lv_has ls 16 [(0, .ref b), (1, .ref (ad 0 0)), (2, .ref aq), (3, .ref aw), (4, .ref ac), (5, .ref al), (6, .int (nI t))] → W p l e room_1 su m args below meth c H locs cells slots Q (F0 m 88 ls []) := by
  intro d
  induction d with
  | zero =>
    intro t tx is wa st hi vq vw vc vl H locs ls cells slots e1 e2 e3 hI hP hD hS hl
    obtain ⟨hx, hb, hml, hown, hts, hK, hN, hX, hA, hXs, hbl, hbA, hZ⟩ := id LC
    have et : t = 40 := e1
    subst et
    refine lv_iload hx hb dL_law_88 (lv_at hl 6 rfl) ?_
    refine lv_bipush (v := 40) hx hb dL_law_90 (by decide) ?_
    refine lv_icmp_ge (tgt := 578) hx hb dL_law_92 (by decide) (fun _ => ?_) (fun c1 => absurd (nI_le (a := 40) (b := 40) (Nat.le_refl _) (by decide)) c1)
    refine lv_iconst (v := 1) hx hb dL_law_578 (by decide) ?_
    refine W.widen (k := 600130) (n := 7301080) (by omega) (by omega) ?_
    exact hend _ _ _ hS
  | succ d ih =>
    intro t tx is wa st hi vq vw vc vl H locs ls cells slots e1 e2 e3 hI hP hD hS hl
    obtain ⟨hx, hb, hml, hown, hts, hK, hN, hX, hA, hXs, hbl, hbA, hZ⟩ := id LC
    have ht : t < 40 := by omega
    obtain ⟨tx', is', wa', st', hi', vq', vw', vc', vl', k1, k2⟩ := body_ok hL xs hI (by omega) ht tx is wa
    refine lv_iload hx hb dL_law_88 (lv_at hl 6 rfl) ?_
    refine lv_bipush (v := 40) hx hb dL_law_90 (by decide) ?_
    refine lv_icmp_ge (tgt := 578) hx hb dL_law_92 (by decide) (fun c1 => absurd c1 (nI_ge (b := 40) ht (by decide))) (fun _ => ?_)
    have hro : cells + 3 ≤ 600130 ∧ slots + 18 ≤ 7301080 := ⟨by omega, by omega⟩
    refine law_body hst LC aq aw ac al ad cells slots hro k1 hP hD hS hl (fun H locs ls hP hD hS hl => ?_)
    refine lv_iinc (v := nI (t + 1)) (lv' := [(6, .int (nI (t + 1))), (0, .ref b), (1, .ref (ad 0 0)), (2, .ref aq), (3, .ref aw), (4, .ref ac), (5, .ref al)]) hx hb dL_law_572 hl (k := 6) rfl (nI_add t 1) (by decide) rfl (fun ls hl => ?_)
    refine lv_goto (tgt := 88) hx hb dL_law_575 (by decide) ?_
    exact ih (t + 1) _ _ (by omega) (by omega) (by omega) k2 hP hD hS (lv_sub hl [1, 2, 3, 4, 5, 6, 0] rfl)
end LLP
