section LM
def fL_due_L34 (vq86 : AI) (vw87 : AI) (r90 : Int32) : Nat → Int32 → Int32 → Option (Int32)
  | 0, _, _ => none
  | n + 1, v11_91, v12_92 =>
    (if (vq86 (0 : Int32).toNatClampNeg) ≤ v12_92 then
    (some v11_91)
    else
    (bd (if v11_91 = (0 : Int32) then
    (some (0 : Int32))
    else
    (ck (inb v12_92 24)
    (if (vw87 v12_92.toNatClampNeg) = r90 then
    (some (0 : Int32))
    else
    (some (1 : Int32))))) fun (j95 : Int32) =>
    (pl ((v12_92 + (1 : Int32))) fun (x96 : Int32) =>
    (fL_due_L34 vq86 vw87 r90 n j95 x96))))
def fL_due_L10 (vc : AI) (p1 : Int32) (p2 : Int32) : Nat → Int32 → Int32 → AI → AI → Option (Int32 × AI × AI × AI)
  | 0, _, _, _, _ => none
  | n + 1, v8_84, v9_85, vq86, vw87 =>
    (bd (fL_low p2 (5 : Int32)) fun (r88 : Int32) =>
    (if r88 < v9_85 then
    (some (v8_84, vq86, vw87, vc))
    else
    (bd (fL_wordOf p1 v9_85) fun (r90 : Int32) =>
    (bd (fL_due_L34 vq86 vw87 r90 1000 (1 : Int32) (0 : Int32)) fun (v11_99 : Int32) =>
    (if v11_99 = (0 : Int32) then
    (bd3 (if v11_99 = (0 : Int32) then
    (some (v8_84, vq86, vw87))
    else
    (ck (inb (vq86 (0 : Int32).toNatClampNeg) 24)
    (pl (upd vw87 (vq86 (0 : Int32).toNatClampNeg).toNatClampNeg r90) fun (vw106 : AI) =>
    (ck (inb (0 : Int32) 10)
    (pl (upd vq86 (0 : Int32).toNatClampNeg ((vq86 (0 : Int32).toNatClampNeg) + (1 : Int32))) fun (vq107 : AI) =>
    (pl ((v8_84 + (1 : Int32))) fun (x108 : Int32) =>
    (some (x108, vq107, vw106)))))))) fun (v8_101 : Int32) (vq102 : AI) (vw103 : AI) =>
    (pl ((v9_85 + (1 : Int32))) fun (x104 : Int32) =>
    (fL_due_L10 vc p1 p2 n v8_101 x104 vq102 vw103)))
    else
    (if (vq86 (0 : Int32).toNatClampNeg) = (24 : Int32) then
    (some (v8_84, vq86, vw87, vc))
    else
    (bd3 (if v11_99 = (0 : Int32) then
    (some (v8_84, vq86, vw87))
    else
    (ck (inb (vq86 (0 : Int32).toNatClampNeg) 24)
    (pl (upd vw87 (vq86 (0 : Int32).toNatClampNeg).toNatClampNeg r90) fun (vw115 : AI) =>
    (ck (inb (0 : Int32) 10)
    (pl (upd vq86 (0 : Int32).toNatClampNeg ((vq86 (0 : Int32).toNatClampNeg) + (1 : Int32))) fun (vq116 : AI) =>
    (pl ((v8_84 + (1 : Int32))) fun (x117 : Int32) =>
    (some (x117, vq116, vw115)))))))) fun (v8_110 : Int32) (vq111 : AI) (vw112 : AI) =>
    (pl ((v9_85 + (1 : Int32))) fun (x113 : Int32) =>
    (fL_due_L10 vc p1 p2 n v8_110 x113 vq111 vw112)))))))))
def fL_due (vq : AI) (vw : AI) (vc : AI) (vl : AI) (p0 : Int32) (p1 : Int32) (p2 : Int32) (p3 : Int32) : Option (Int32 × AI × AI × AI) :=
(if p0 = (0 : Int32) then
(fL_due_L10 vc p1 p2 1000 (0 : Int32) (0 : Int32) vq vw)
else
(if p0 = (3 : Int32) then
(bd3 (fL_turns vq vw vc) fun (r81 : Int32) (vq82 : AI) (vc83 : AI) =>
(some (r81, vq82, vw, vc83)))
else
(if p0 ≤ (4 : Int32) then
(if p0 = (4 : Int32) then
(ck (inb ((7 : Int32) * p1) 21)
(pl ((vc ((7 : Int32) * p1).toNatClampNeg)) fun (x66 : Int32) =>
(ck (inb ((7 : Int32) * p1) 21)
(pl (upd vc ((7 : Int32) * p1).toNatClampNeg (-1 : Int32)) fun (vc67 : AI) =>
(ck (inb (((7 : Int32) * p1) + (3 : Int32)) 21)
(pl (upd vc67 (((7 : Int32) * p1) + (3 : Int32)).toNatClampNeg (0 : Int32)) fun (vc68 : AI) =>
(bd (if (0 : Int32) ≤ x66 then
(some x66)
else
(some (-103 : Int32))) fun (j69 : Int32) =>
(some (j69, vq, vw, vc68)))))))))
else
(if (vq (0 : Int32).toNatClampNeg) ≤ p2 then
(some ((-101 : Int32), vq, vw, vc))
else
(if p0 = (1 : Int32) then
(if p3 < (vq (0 : Int32).toNatClampNeg) then
(if p0 = (2 : Int32) then
(bd (fL_whyNot vq vw vc p1 p2) fun (r58 : Int32) =>
(bd3 (if r58 = (0 : Int32) then
(bd3 (fL_climbs vq vc p1 p2) fun (r63 : Int32) (vq64 : AI) (vc65 : AI) =>
(some (r63, vq64, vc65)))
else
(some ((-103 : Int32), vq, vc))) fun (j59 : Int32) (vq60 : AI) (vc61 : AI) =>
(some (j59, vq60, vw, vc61))))
else
(if p2 = p3 then
(bd (if p2 = p3 then
(some (-102 : Int32))
else
(some (-103 : Int32))) fun (j39 : Int32) =>
(some (j39, vq, vw, vc)))
else
(ck (inb ((7 : Int32) * p1) 21)
(if (0 : Int32) ≤ (vc ((7 : Int32) * p1).toNatClampNeg) then
(bd (if p2 = p3 then
(some (-102 : Int32))
else
(some (-103 : Int32))) fun (j42 : Int32) =>
(some (j42, vq, vw, vc)))
else
(bd (fL_on vc p2) fun (r44 : Int32) =>
(if (0 : Int32) ≤ r44 then
(bd (if p2 = p3 then
(some (-102 : Int32))
else
(some (-103 : Int32))) fun (j46 : Int32) =>
(some (j46, vq, vw, vc)))
else
(ck (inb p2 24)
(bd (fL_isBarred vq (vw p2.toNatClampNeg) (0 : Int32)) fun (r48 : Int32) =>
(if r48 = (0 : Int32) then
(ck (inb ((7 : Int32) * p1) 21)
(pl (upd vc ((7 : Int32) * p1).toNatClampNeg p2) fun (vc50 : AI) =>
(ck (inb (((7 : Int32) * p1) + (1 : Int32)) 21)
(pl (upd vc50 (((7 : Int32) * p1) + (1 : Int32)).toNatClampNeg p2) fun (vc51 : AI) =>
(ck (inb (((7 : Int32) * p1) + (2 : Int32)) 21)
(pl (upd vc51 (((7 : Int32) * p1) + (2 : Int32)).toNatClampNeg p3) fun (vc52 : AI) =>
(ck (inb (((7 : Int32) * p1) + (3 : Int32)) 21)
(pl (upd vc52 (((7 : Int32) * p1) + (3 : Int32)).toNatClampNeg (0 : Int32)) fun (vc53 : AI) =>
(ck (inb (((7 : Int32) * p1) + (4 : Int32)) 21)
(pl (upd vc53 (((7 : Int32) * p1) + (4 : Int32)).toNatClampNeg (0 : Int32)) fun (vc54 : AI) =>
(bd (fL_fewest vq vw vl p2 p3 (0 : Int32)) fun (r55 : Int32) =>
(some (r55, vq, vw, vc54)))))))))))))
else
(bd (if p2 = p3 then
(some (-102 : Int32))
else
(some (-103 : Int32))) fun (j56 : Int32) =>
(some (j56, vq, vw, vc))))))))))))
else
(some ((-101 : Int32), vq, vw, vc)))
else
(if p0 = (2 : Int32) then
(bd (fL_whyNot vq vw vc p1 p2) fun (r28 : Int32) =>
(bd3 (if r28 = (0 : Int32) then
(bd3 (fL_climbs vq vc p1 p2) fun (r33 : Int32) (vq34 : AI) (vc35 : AI) =>
(some (r33, vq34, vc35)))
else
(some ((-103 : Int32), vq, vc))) fun (j29 : Int32) (vq30 : AI) (vc31 : AI) =>
(some (j29, vq30, vw, vc31))))
else
(if p2 = p3 then
(bd (if p2 = p3 then
(some (-102 : Int32))
else
(some (-103 : Int32))) fun (j9 : Int32) =>
(some (j9, vq, vw, vc)))
else
(ck (inb ((7 : Int32) * p1) 21)
(if (0 : Int32) ≤ (vc ((7 : Int32) * p1).toNatClampNeg) then
(bd (if p2 = p3 then
(some (-102 : Int32))
else
(some (-103 : Int32))) fun (j12 : Int32) =>
(some (j12, vq, vw, vc)))
else
(bd (fL_on vc p2) fun (r14 : Int32) =>
(if (0 : Int32) ≤ r14 then
(bd (if p2 = p3 then
(some (-102 : Int32))
else
(some (-103 : Int32))) fun (j16 : Int32) =>
(some (j16, vq, vw, vc)))
else
(ck (inb p2 24)
(bd (fL_isBarred vq (vw p2.toNatClampNeg) (0 : Int32)) fun (r18 : Int32) =>
(if r18 = (0 : Int32) then
(ck (inb ((7 : Int32) * p1) 21)
(pl (upd vc ((7 : Int32) * p1).toNatClampNeg p2) fun (vc20 : AI) =>
(ck (inb (((7 : Int32) * p1) + (1 : Int32)) 21)
(pl (upd vc20 (((7 : Int32) * p1) + (1 : Int32)).toNatClampNeg p2) fun (vc21 : AI) =>
(ck (inb (((7 : Int32) * p1) + (2 : Int32)) 21)
(pl (upd vc21 (((7 : Int32) * p1) + (2 : Int32)).toNatClampNeg p3) fun (vc22 : AI) =>
(ck (inb (((7 : Int32) * p1) + (3 : Int32)) 21)
(pl (upd vc22 (((7 : Int32) * p1) + (3 : Int32)).toNatClampNeg (0 : Int32)) fun (vc23 : AI) =>
(ck (inb (((7 : Int32) * p1) + (4 : Int32)) 21)
(pl (upd vc23 (((7 : Int32) * p1) + (4 : Int32)).toNatClampNeg (0 : Int32)) fun (vc24 : AI) =>
(bd (fL_fewest vq vw vl p2 p3 (0 : Int32)) fun (r25 : Int32) =>
(some (r25, vq, vw, vc24)))))))))))))
else
(bd (if p2 = p3 then
(some (-102 : Int32))
else
(some (-103 : Int32))) fun (j26 : Int32) =>
(some (j26, vq, vw, vc)))))))))))))))
else
(bd (if p0 = (5 : Int32) then
(ck (inb ((3 : Int32) + p1) 10)
(some (vq ((3 : Int32) + p1).toNatClampNeg)))
else
(some (((8 : Int32) * (vq (1 : Int32).toNatClampNeg)) + (vq (2 : Int32).toNatClampNeg)))) fun (j71 : Int32) =>
(bd (if p0 = (5 : Int32) then
(some ((3 : Int32) + p1))
else
(some (1 : Int32))) fun (j72 : Int32) =>
(bd (if p0 = (5 : Int32) then
(some p2)
else
(some p1)) fun (j73 : Int32) =>
(ck (inb j72 10)
(pl (upd vq j72.toNatClampNeg j73) fun (vq74 : AI) =>
(bd (if p0 = (5 : Int32) then
(some (vq74 (2 : Int32).toNatClampNeg))
else
(some p2)) fun (j75 : Int32) =>
(ck (inb (2 : Int32) 10)
(pl (upd vq74 (2 : Int32).toNatClampNeg j75) fun (vq76 : AI) =>
(some (j71, vq76, vw, vc)))))))))))))
abbrev rL_due : Room := { frames := 4, cells := 0, slots := 0, locals := 97 }
theorem hdL_due : yL_due.cls ≠ "java/lang/invoke/MethodHandle" ∧ yL_due.cls ≠ "java/lang/invoke/VarHandle" ∧ (parseMethodDescriptor yL_due.desc).map (fun d => d.parameters.length) = some 8 := by decide +kernel
set_option maxRecDepth 100000 in
set_option maxHeartbeats 16000000 in
theorem kL_due (l : Launch) (g : GG) (aq aw ac al : Nat) {vq : AI} {vw : AI} {vc : AI} {vl : AI} {p0 : Int32} {p1 : Int32} {p2 : Int32} {p3 : Int32} {res : Int32} {vq' : AI} {vw' : AI} {vc' : AI} (h : fL_due vq vw vc vl p0 p1 p2 p3 = some (res, vq', vw', vc')) : Cg l g yL_due wsL_due rL_due [.int p0, .int p1, .int p2, .int p3, .ref aq, .ref aw, .ref ac, .ref al] ((cAr g aq 10 vq) ++ ((cAr g aw 24 vw) ++ ((cAr g ac 21 vc) ++ ((cAr g al 24 vl))))) (some (.int res)) ((cAr g aq 10 vq') ++ ((cAr g aw 24 vw') ++ ((cAr g ac 21 vc') ++ ((cAr g al 24 vl))))) := by
  refine Cg_of (cc := cL_due) (maxL := 13) (ret := (some .int)) (by decide +kernel) rfl (Nat.le_of_ble_eq_true rfl) ?_
  intro p e su m args below meth c A Q ls hx hb hml hown hts hK hN hA hnm hP hD hS hl hend
  unfold fL_due at h
  have hl : lv_has ls 13 [(0, .int p0), (1, .int p1), (2, .int p2), (3, .int p3), (4, .ref aq), (5, .ref aw), (6, .ref ac), (7, .ref al)] := hl
  refine lv_iload_n hx hb dL_due_0 rfl (lv_at hl 0 rfl) ?_
  refine lv_if_ne (tgt := 122) hx hb dL_due_1 (by decide) (fun c1 => ?_) (fun c1 => ?_)
  · have h := if_f c1 h
    refine lv_iload_n hx hb dL_due_122 rfl (lv_at hl 0 rfl) ?_
    refine lv_iconst (v := 3) hx hb dL_due_123 (by decide) ?_
    refine lv_icmp_ne (tgt := 137) hx hb dL_due_124 (by decide) (fun c2 => ?_) (fun c2 => ?_)
    · have h := if_f c2 h
      refine lv_iload_n hx hb dL_due_137 rfl (lv_at hl 0 rfl) ?_
      refine lv_iconst (v := 4) hx hb dL_due_138 (by decide) ?_
      refine lv_icmp_le (tgt := 215) hx hb dL_due_139 (by decide) (fun c3 => ?_) (fun c3 => ?_)
      · have h := if_t c3 h
        refine lv_iload_n hx hb dL_due_215 rfl (lv_at hl 0 rfl) ?_
        refine lv_iconst (v := 4) hx hb dL_due_216 (by decide) ?_
        refine lv_icmp_ne (tgt := 260) hx hb dL_due_217 (by decide) (fun c4 => ?_) (fun c4 => ?_)
        · have h := if_f c4 h
          refine lv_iload_n hx hb dL_due_260 rfl (lv_at hl 2 rfl) ?_
          refine lv_aload hx hb dL_due_261 (lv_at hl 4 rfl) ?_
          refine lv_iconst (v := 0) hx hb dL_due_263 (by decide) ?_
          refine va_iald hx hb hK hP 0 0 rfl rfl (inb_in (i := 0) (n := 10) (by decide)) dL_due_264 ?_
          refine lv_icmp_ge (tgt := 281) hx hb dL_due_265 (by decide) (fun c5 => ?_) (fun c5 => ?_)
          · have h := if_t c5 h
            refine lv_bipush (v := -101) hx hb dL_due_281 (by decide) ?_
            cases some_i h
            exact hend _ _ _ _ _ hP hD hS (RetOK.i dL_due_283)
          · have h := if_f c5 h
            refine lv_iload_n hx hb dL_due_268 rfl (lv_at hl 0 rfl) ?_
            refine lv_iconst (v := 1) hx hb dL_due_269 (by decide) ?_
            refine lv_icmp_ne (tgt := 284) hx hb dL_due_270 (by decide) (fun c6 => ?_) (fun c6 => ?_)
            · have h := if_f c6 h
              refine lv_iload_n hx hb dL_due_284 rfl (lv_at hl 0 rfl) ?_
              refine lv_iconst (v := 2) hx hb dL_due_285 (by decide) ?_
              refine lv_icmp_ne (tgt := 318) hx hb dL_due_286 (by decide) (fun c7 => ?_) (fun c7 => ?_)
              · have h := if_f c7 h
                refine lv_iload_n hx hb dL_due_318 rfl (lv_at hl 2 rfl) ?_
                refine lv_iload_n hx hb dL_due_319 rfl (lv_at hl 3 rfl) ?_
                refine lv_icmp_eq (tgt := 355) hx hb dL_due_320 (by decide) (fun c8 => ?_) (fun c8 => ?_)
                · have h := if_t c8 h
                  refine lv_iload_n hx hb dL_due_355 rfl (lv_at hl 2 rfl) ?_
                  refine lv_iload_n hx hb dL_due_356 rfl (lv_at hl 3 rfl) ?_
                  obtain ⟨j9, kj9, h⟩ := bd_ex h
                  have kx1 : ∀ (H : Heap) (locs : List Loc) (ls : Array Slot), va_P g.1 vwCl ((cAr g aq 10 vq) ++ ((cAr g aw 24 vw) ++ ((cAr g ac 21 vc) ++ ((cAr g al 24 vl))))) H → va_D A ((cAr g aq 10 vq) ++ ((cAr g aw 24 vw) ++ ((cAr g ac 21 vc) ++ ((cAr g al 24 vl))))) → va_S A su.heap H locs → lv_has ls 13 [] → W p l e rL_due su m args below meth c H locs 0 0 Q (F0 m 367 ls [.int j9]) := by
                    intro H locs ls hP hD hS hl
                    cases some_i h
                    exact hend _ _ _ _ _ hP hD hS (RetOK.i dL_due_367)
                  have h := kj9
                  refine lv_icmp_ne (tgt := 365) hx hb dL_due_357 (by decide) (fun c10 => ?_) (fun c10 => ?_)
                  · have h := if_f c10 h
                    refine lv_bipush (v := -103) hx hb dL_due_365 (by decide) ?_
                    cases some_i h
                    exact kx1 _ _ _ hP hD hS (lv_sub hl [] rfl)
                  · have h := if_t c10 h
                    refine lv_bipush (v := -102) hx hb dL_due_360 (by decide) ?_
                    refine lv_goto (tgt := 367) hx hb dL_due_362 (by decide) ?_
                    cases some_i h
                    exact kx1 _ _ _ hP hD hS (lv_sub hl [] rfl)
                · have h := if_f c8 h
                  refine lv_aload hx hb dL_due_323 (lv_at hl 6 rfl) ?_
                  refine lv_bipush (v := 7) hx hb dL_due_325 (by decide) ?_
                  refine lv_iload_n hx hb dL_due_327 rfl (lv_at hl 1 rfl) ?_
                  refine lv_imul hx hb dL_due_328 ?_
                  obtain ⟨hi9, h⟩ := ck_ex h
                  refine va_iald hx hb hK hP 2 0 rfl rfl (inb_in hi9) dL_due_329 ?_
                  refine lv_if_ge (tgt := 355) hx hb dL_due_330 (by decide) (fun c11 => ?_) (fun c11 => ?_)
                  · have h := if_t c11 h
                    refine lv_iload_n hx hb dL_due_355 rfl (lv_at hl 2 rfl) ?_
                    refine lv_iload_n hx hb dL_due_356 rfl (lv_at hl 3 rfl) ?_
                    obtain ⟨j12, kj12, h⟩ := bd_ex h
                    have kx2 : ∀ (H : Heap) (locs : List Loc) (ls : Array Slot), va_P g.1 vwCl ((cAr g aq 10 vq) ++ ((cAr g aw 24 vw) ++ ((cAr g ac 21 vc) ++ ((cAr g al 24 vl))))) H → va_D A ((cAr g aq 10 vq) ++ ((cAr g aw 24 vw) ++ ((cAr g ac 21 vc) ++ ((cAr g al 24 vl))))) → va_S A su.heap H locs → lv_has ls 13 [] → W p l e rL_due su m args below meth c H locs 0 0 Q (F0 m 367 ls [.int j12]) := by
                      intro H locs ls hP hD hS hl
                      cases some_i h
                      exact hend _ _ _ _ _ hP hD hS (RetOK.i dL_due_367)
                    have h := kj12
                    refine lv_icmp_ne (tgt := 365) hx hb dL_due_357 (by decide) (fun c13 => ?_) (fun c13 => ?_)
                    · have h := if_f c13 h
                      refine lv_bipush (v := -103) hx hb dL_due_365 (by decide) ?_
                      cases some_i h
                      exact kx2 _ _ _ hP hD hS (lv_sub hl [] rfl)
                    · have h := if_t c13 h
                      refine lv_bipush (v := -102) hx hb dL_due_360 (by decide) ?_
                      refine lv_goto (tgt := 367) hx hb dL_due_362 (by decide) ?_
                      cases some_i h
                      exact kx2 _ _ _ hP hD hS (lv_sub hl [] rfl)
                  · have h := if_f c11 h
                    refine lv_iload_n hx hb dL_due_333 rfl (lv_at hl 2 rfl) ?_
                    refine lv_aload hx hb dL_due_334 (lv_at hl 6 rfl) ?_
                    obtain ⟨r14, kr14, h⟩ := bd_ex h
                    have pq : (((cAr g aq 10 vq) ++ ((cAr g aw 24 vw) ++ ((cAr g ac 21 vc) ++ ((cAr g al 24 vl))))) : va_W).Perm (((cAr g ac 21 vc)) ++ ((cAr g aq 10 vq) ++ ((cAr g aw 24 vw) ++ ((cAr g al 24 vl))))) := pmS [(cAr g aq 10 vq), (cAr g aw 24 vw), (cAr g ac 21 vc), (cAr g al 24 vl)] [0, 1, 2, 3] [2] [0, 1, 3] (by decide)
                    have pr : ((((cAr g ac 21 vc)) ++ ((cAr g aq 10 vq) ++ ((cAr g aw 24 vw) ++ ((cAr g al 24 vl))))) : va_W).Perm ((cAr g aq 10 vq) ++ ((cAr g aw 24 vw) ++ ((cAr g ac 21 vc) ++ ((cAr g al 24 vl))))) := (pmS [(cAr g aq 10 vq), (cAr g aw 24 vw), (cAr g ac 21 vc), (cAr g al 24 vl)] [0, 1, 2, 3] [2] [0, 1, 3] (by decide)).symm
                    refine aft_p (st1 := [.int r14]) (ws' := ((cAr g aq 10 vq) ++ ((cAr g aw 24 vw) ++ ((cAr g ac 21 vc) ++ ((cAr g al 24 vl)))))) rfl pq pr (runS (As := [.int p2, .ref ac]) (rest := []) ⟨hx, hb, hml, hown, hts⟩ (kL_on l g ac kr14) (va_cwS 2 hts gL_due_L_on rfl rfl rfl hdL_on ⟨Nat.le_of_ble_eq_true rfl, Nat.le_of_ble_eq_true rfl⟩) hK hN (hP.perm pq).left (hD.perm pq).left rfl hl.1 rfl (Nat.le_of_ble_eq_true rfl) dL_due_336 ⟨Nat.zero_le _, Nat.zero_le _⟩) hP hD hS hA (fun H locs hP hD hS => ?_)
                    refine lv_if_ge (tgt := 355) hx hb dL_due_339 (by decide) (fun c15 => ?_) (fun c15 => ?_)
                    · have h := if_t c15 h
                      refine lv_iload_n hx hb dL_due_355 rfl (lv_at hl 2 rfl) ?_
                      refine lv_iload_n hx hb dL_due_356 rfl (lv_at hl 3 rfl) ?_
                      obtain ⟨j16, kj16, h⟩ := bd_ex h
                      have kx3 : ∀ (H : Heap) (locs : List Loc) (ls : Array Slot), va_P g.1 vwCl ((cAr g aq 10 vq) ++ ((cAr g aw 24 vw) ++ ((cAr g ac 21 vc) ++ ((cAr g al 24 vl))))) H → va_D A ((cAr g aq 10 vq) ++ ((cAr g aw 24 vw) ++ ((cAr g ac 21 vc) ++ ((cAr g al 24 vl))))) → va_S A su.heap H locs → lv_has ls 13 [] → W p l e rL_due su m args below meth c H locs 0 0 Q (F0 m 367 ls [.int j16]) := by
                        intro H locs ls hP hD hS hl
                        cases some_i h
                        exact hend _ _ _ _ _ hP hD hS (RetOK.i dL_due_367)
                      have h := kj16
                      refine lv_icmp_ne (tgt := 365) hx hb dL_due_357 (by decide) (fun c17 => ?_) (fun c17 => ?_)
                      · have h := if_f c17 h
                        refine lv_bipush (v := -103) hx hb dL_due_365 (by decide) ?_
                        cases some_i h
                        exact kx3 _ _ _ hP hD hS (lv_sub hl [] rfl)
                      · have h := if_t c17 h
                        refine lv_bipush (v := -102) hx hb dL_due_360 (by decide) ?_
                        refine lv_goto (tgt := 367) hx hb dL_due_362 (by decide) ?_
                        cases some_i h
                        exact kx3 _ _ _ hP hD hS (lv_sub hl [] rfl)
                    · have h := if_f c15 h
                      refine lv_aload hx hb dL_due_342 (lv_at hl 5 rfl) ?_
                      refine lv_iload_n hx hb dL_due_344 rfl (lv_at hl 2 rfl) ?_
                      obtain ⟨hi9, h⟩ := ck_ex h
                      refine va_iald hx hb hK hP 1 0 rfl rfl (inb_in hi9) dL_due_345 ?_
                      refine lv_iconst (v := 0) hx hb dL_due_346 (by decide) ?_
                      refine lv_aload hx hb dL_due_347 (lv_at hl 4 rfl) ?_
                      obtain ⟨r18, kr18, h⟩ := bd_ex h
                      have pq : (((cAr g aq 10 vq) ++ ((cAr g aw 24 vw) ++ ((cAr g ac 21 vc) ++ ((cAr g al 24 vl))))) : va_W).Perm (((cAr g aq 10 vq)) ++ ((cAr g aw 24 vw) ++ ((cAr g ac 21 vc) ++ ((cAr g al 24 vl))))) := pmS [(cAr g aq 10 vq), (cAr g aw 24 vw), (cAr g ac 21 vc), (cAr g al 24 vl)] [0, 1, 2, 3] [0] [1, 2, 3] (by decide)
                      have pr : ((((cAr g aq 10 vq)) ++ ((cAr g aw 24 vw) ++ ((cAr g ac 21 vc) ++ ((cAr g al 24 vl))))) : va_W).Perm ((cAr g aq 10 vq) ++ ((cAr g aw 24 vw) ++ ((cAr g ac 21 vc) ++ ((cAr g al 24 vl))))) := (pmS [(cAr g aq 10 vq), (cAr g aw 24 vw), (cAr g ac 21 vc), (cAr g al 24 vl)] [0, 1, 2, 3] [0] [1, 2, 3] (by decide)).symm
                      refine aft_p (st1 := [.int r18]) (ws' := ((cAr g aq 10 vq) ++ ((cAr g aw 24 vw) ++ ((cAr g ac 21 vc) ++ ((cAr g al 24 vl)))))) rfl pq pr (runS (As := [.int (vw p2.toNatClampNeg), .int (0 : Int32), .ref aq]) (rest := []) ⟨hx, hb, hml, hown, hts⟩ (kL_isBarred l g aq kr18) (va_cwS 3 hts gL_due_L_isBarred rfl rfl rfl hdL_isBarred ⟨Nat.le_of_ble_eq_true rfl, Nat.le_of_ble_eq_true rfl⟩) hK hN (hP.perm pq).left (hD.perm pq).left rfl hl.1 rfl (Nat.le_of_ble_eq_true rfl) dL_due_349 ⟨Nat.zero_le _, Nat.zero_le _⟩) hP hD hS hA (fun H locs hP hD hS => ?_)
                      refine lv_if_eq (tgt := 368) hx hb dL_due_352 (by decide) (fun c19 => ?_) (fun c19 => ?_)
                      · have h := if_t c19 h
                        refine lv_aload hx hb dL_due_368 (lv_at hl 6 rfl) ?_
                        refine lv_bipush (v := 7) hx hb dL_due_370 (by decide) ?_
                        refine lv_iload_n hx hb dL_due_372 rfl (lv_at hl 1 rfl) ?_
                        refine lv_imul hx hb dL_due_373 ?_
                        refine lv_iload_n hx hb dL_due_374 rfl (lv_at hl 2 rfl) ?_
                        obtain ⟨hi9, h⟩ := ck_ex h
                        obtain ⟨vc20, evc20, h⟩ := pl_ex h
                        refine va_iast hx hb hK hP hD hS 2 0 rfl rfl (inb_in hi9) dL_due_375 (fun H locs hP hD hS => ?_)
                        have hP : va_P g.1 vwCl ((cAr g aq 10 vq) ++ ((cAr g aw 24 vw) ++ ((cAr g ac 21 vc20) ++ ((cAr g al 24 vl))))) H := by rw [← evc20]; exact hP
                        have hD : va_D A ((cAr g aq 10 vq) ++ ((cAr g aw 24 vw) ++ ((cAr g ac 21 vc20) ++ ((cAr g al 24 vl))))) := by rw [← evc20]; exact hD
                        refine lv_aload hx hb dL_due_376 (lv_at hl 6 rfl) ?_
                        refine lv_bipush (v := 7) hx hb dL_due_378 (by decide) ?_
                        refine lv_iload_n hx hb dL_due_380 rfl (lv_at hl 1 rfl) ?_
                        refine lv_imul hx hb dL_due_381 ?_
                        refine lv_iconst (v := 1) hx hb dL_due_382 (by decide) ?_
                        refine lv_iadd hx hb dL_due_383 ?_
                        refine lv_iload_n hx hb dL_due_384 rfl (lv_at hl 2 rfl) ?_
                        obtain ⟨hi9, h⟩ := ck_ex h
                        obtain ⟨vc21, evc21, h⟩ := pl_ex h
                        refine va_iast hx hb hK hP hD hS 2 0 rfl rfl (inb_in hi9) dL_due_385 (fun H locs hP hD hS => ?_)
                        have hP : va_P g.1 vwCl ((cAr g aq 10 vq) ++ ((cAr g aw 24 vw) ++ ((cAr g ac 21 vc21) ++ ((cAr g al 24 vl))))) H := by rw [← evc21]; exact hP
                        have hD : va_D A ((cAr g aq 10 vq) ++ ((cAr g aw 24 vw) ++ ((cAr g ac 21 vc21) ++ ((cAr g al 24 vl))))) := by rw [← evc21]; exact hD
                        refine lv_aload hx hb dL_due_386 (lv_at hl 6 rfl) ?_
                        refine lv_bipush (v := 7) hx hb dL_due_388 (by decide) ?_
                        refine lv_iload_n hx hb dL_due_390 rfl (lv_at hl 1 rfl) ?_
                        refine lv_imul hx hb dL_due_391 ?_
                        refine lv_iconst (v := 2) hx hb dL_due_392 (by decide) ?_
                        refine lv_iadd hx hb dL_due_393 ?_
                        refine lv_iload_n hx hb dL_due_394 rfl (lv_at hl 3 rfl) ?_
                        obtain ⟨hi9, h⟩ := ck_ex h
                        obtain ⟨vc22, evc22, h⟩ := pl_ex h
                        refine va_iast hx hb hK hP hD hS 2 0 rfl rfl (inb_in hi9) dL_due_395 (fun H locs hP hD hS => ?_)
                        have hP : va_P g.1 vwCl ((cAr g aq 10 vq) ++ ((cAr g aw 24 vw) ++ ((cAr g ac 21 vc22) ++ ((cAr g al 24 vl))))) H := by rw [← evc22]; exact hP
                        have hD : va_D A ((cAr g aq 10 vq) ++ ((cAr g aw 24 vw) ++ ((cAr g ac 21 vc22) ++ ((cAr g al 24 vl))))) := by rw [← evc22]; exact hD
                        refine lv_aload hx hb dL_due_396 (lv_at hl 6 rfl) ?_
                        refine lv_bipush (v := 7) hx hb dL_due_398 (by decide) ?_
                        refine lv_iload_n hx hb dL_due_400 rfl (lv_at hl 1 rfl) ?_
                        refine lv_imul hx hb dL_due_401 ?_
                        refine lv_iconst (v := 3) hx hb dL_due_402 (by decide) ?_
                        refine lv_iadd hx hb dL_due_403 ?_
                        refine lv_iconst (v := 0) hx hb dL_due_404 (by decide) ?_
                        obtain ⟨hi9, h⟩ := ck_ex h
                        obtain ⟨vc23, evc23, h⟩ := pl_ex h
                        refine va_iast hx hb hK hP hD hS 2 0 rfl rfl (inb_in hi9) dL_due_405 (fun H locs hP hD hS => ?_)
                        have hP : va_P g.1 vwCl ((cAr g aq 10 vq) ++ ((cAr g aw 24 vw) ++ ((cAr g ac 21 vc23) ++ ((cAr g al 24 vl))))) H := by rw [← evc23]; exact hP
                        have hD : va_D A ((cAr g aq 10 vq) ++ ((cAr g aw 24 vw) ++ ((cAr g ac 21 vc23) ++ ((cAr g al 24 vl))))) := by rw [← evc23]; exact hD
                        refine lv_aload hx hb dL_due_406 (lv_at hl 6 rfl) ?_
                        refine lv_bipush (v := 7) hx hb dL_due_408 (by decide) ?_
                        refine lv_iload_n hx hb dL_due_410 rfl (lv_at hl 1 rfl) ?_
                        refine lv_imul hx hb dL_due_411 ?_
                        refine lv_iconst (v := 4) hx hb dL_due_412 (by decide) ?_
                        refine lv_iadd hx hb dL_due_413 ?_
                        refine lv_iconst (v := 0) hx hb dL_due_414 (by decide) ?_
                        obtain ⟨hi9, h⟩ := ck_ex h
                        obtain ⟨vc24, evc24, h⟩ := pl_ex h
                        refine va_iast hx hb hK hP hD hS 2 0 rfl rfl (inb_in hi9) dL_due_415 (fun H locs hP hD hS => ?_)
                        have hP : va_P g.1 vwCl ((cAr g aq 10 vq) ++ ((cAr g aw 24 vw) ++ ((cAr g ac 21 vc24) ++ ((cAr g al 24 vl))))) H := by rw [← evc24]; exact hP
                        have hD : va_D A ((cAr g aq 10 vq) ++ ((cAr g aw 24 vw) ++ ((cAr g ac 21 vc24) ++ ((cAr g al 24 vl))))) := by rw [← evc24]; exact hD
                        refine lv_iload_n hx hb dL_due_416 rfl (lv_at hl 2 rfl) ?_
                        refine lv_iload_n hx hb dL_due_417 rfl (lv_at hl 3 rfl) ?_
                        refine lv_iconst (v := 0) hx hb dL_due_418 (by decide) ?_
                        refine lv_aload hx hb dL_due_419 (lv_at hl 4 rfl) ?_
                        refine lv_aload hx hb dL_due_421 (lv_at hl 5 rfl) ?_
                        refine lv_aload hx hb dL_due_423 (lv_at hl 7 rfl) ?_
                        obtain ⟨r25, kr25, h⟩ := bd_ex h
                        have pq : (((cAr g aq 10 vq) ++ ((cAr g aw 24 vw) ++ ((cAr g ac 21 vc24) ++ ((cAr g al 24 vl))))) : va_W).Perm (((cAr g aq 10 vq) ++ ((cAr g aw 24 vw) ++ ((cAr g al 24 vl)))) ++ ((cAr g ac 21 vc24))) := pmS [(cAr g aq 10 vq), (cAr g aw 24 vw), (cAr g ac 21 vc24), (cAr g al 24 vl)] [0, 1, 2, 3] [0, 1, 3] [2] (by decide)
                        have pr : ((((cAr g aq 10 vq) ++ ((cAr g aw 24 vw) ++ ((cAr g al 24 vl)))) ++ ((cAr g ac 21 vc24))) : va_W).Perm ((cAr g aq 10 vq) ++ ((cAr g aw 24 vw) ++ ((cAr g ac 21 vc24) ++ ((cAr g al 24 vl))))) := (pmS [(cAr g aq 10 vq), (cAr g aw 24 vw), (cAr g ac 21 vc24), (cAr g al 24 vl)] [0, 1, 2, 3] [0, 1, 3] [2] (by decide)).symm
                        refine aft_p (st1 := [.int r25]) (ws' := ((cAr g aq 10 vq) ++ ((cAr g aw 24 vw) ++ ((cAr g ac 21 vc24) ++ ((cAr g al 24 vl)))))) rfl pq pr (runS (As := [.int p2, .int p3, .int (0 : Int32), .ref aq, .ref aw, .ref al]) (rest := []) ⟨hx, hb, hml, hown, hts⟩ (kL_fewest l g aq aw al kr25) (va_cwS 6 hts gL_due_L_fewest rfl rfl rfl hdL_fewest ⟨Nat.le_of_ble_eq_true rfl, Nat.le_of_ble_eq_true rfl⟩) hK hN (hP.perm pq).left (hD.perm pq).left rfl hl.1 rfl (Nat.le_of_ble_eq_true rfl) dL_due_425 ⟨Nat.zero_le _, Nat.zero_le _⟩) hP hD hS hA (fun H locs hP hD hS => ?_)
                        cases some_i h
                        exact hend _ _ _ _ _ hP hD hS (RetOK.i dL_due_428)
                      · have h := if_f c19 h
                        refine lv_iload_n hx hb dL_due_355 rfl (lv_at hl 2 rfl) ?_
                        refine lv_iload_n hx hb dL_due_356 rfl (lv_at hl 3 rfl) ?_
                        obtain ⟨j26, kj26, h⟩ := bd_ex h
                        have kx4 : ∀ (H : Heap) (locs : List Loc) (ls : Array Slot), va_P g.1 vwCl ((cAr g aq 10 vq) ++ ((cAr g aw 24 vw) ++ ((cAr g ac 21 vc) ++ ((cAr g al 24 vl))))) H → va_D A ((cAr g aq 10 vq) ++ ((cAr g aw 24 vw) ++ ((cAr g ac 21 vc) ++ ((cAr g al 24 vl))))) → va_S A su.heap H locs → lv_has ls 13 [] → W p l e rL_due su m args below meth c H locs 0 0 Q (F0 m 367 ls [.int j26]) := by
                          intro H locs ls hP hD hS hl
                          cases some_i h
                          exact hend _ _ _ _ _ hP hD hS (RetOK.i dL_due_367)
                        have h := kj26
                        refine lv_icmp_ne (tgt := 365) hx hb dL_due_357 (by decide) (fun c27 => ?_) (fun c27 => ?_)
                        · have h := if_f c27 h
                          refine lv_bipush (v := -103) hx hb dL_due_365 (by decide) ?_
                          cases some_i h
                          exact kx4 _ _ _ hP hD hS (lv_sub hl [] rfl)
                        · have h := if_t c27 h
                          refine lv_bipush (v := -102) hx hb dL_due_360 (by decide) ?_
                          refine lv_goto (tgt := 367) hx hb dL_due_362 (by decide) ?_
                          cases some_i h
                          exact kx4 _ _ _ hP hD hS (lv_sub hl [] rfl)
              · have h := if_t c7 h
                refine lv_iload_n hx hb dL_due_289 rfl (lv_at hl 1 rfl) ?_
                refine lv_iload_n hx hb dL_due_290 rfl (lv_at hl 2 rfl) ?_
                refine lv_aload hx hb dL_due_291 (lv_at hl 4 rfl) ?_
                refine lv_aload hx hb dL_due_293 (lv_at hl 5 rfl) ?_
                refine lv_aload hx hb dL_due_295 (lv_at hl 6 rfl) ?_
                obtain ⟨r28, kr28, h⟩ := bd_ex h
                have pq : (((cAr g aq 10 vq) ++ ((cAr g aw 24 vw) ++ ((cAr g ac 21 vc) ++ ((cAr g al 24 vl))))) : va_W).Perm (((cAr g aq 10 vq) ++ ((cAr g aw 24 vw) ++ ((cAr g ac 21 vc)))) ++ ((cAr g al 24 vl))) := pmS [(cAr g aq 10 vq), (cAr g aw 24 vw), (cAr g ac 21 vc), (cAr g al 24 vl)] [0, 1, 2, 3] [0, 1, 2] [3] (by decide)
                have pr : ((((cAr g aq 10 vq) ++ ((cAr g aw 24 vw) ++ ((cAr g ac 21 vc)))) ++ ((cAr g al 24 vl))) : va_W).Perm ((cAr g aq 10 vq) ++ ((cAr g aw 24 vw) ++ ((cAr g ac 21 vc) ++ ((cAr g al 24 vl))))) := (pmS [(cAr g aq 10 vq), (cAr g aw 24 vw), (cAr g ac 21 vc), (cAr g al 24 vl)] [0, 1, 2, 3] [0, 1, 2] [3] (by decide)).symm
                refine aft_p (st1 := [.int r28]) (ws' := ((cAr g aq 10 vq) ++ ((cAr g aw 24 vw) ++ ((cAr g ac 21 vc) ++ ((cAr g al 24 vl)))))) rfl pq pr (runS (As := [.int p1, .int p2, .ref aq, .ref aw, .ref ac]) (rest := []) ⟨hx, hb, hml, hown, hts⟩ (kL_whyNot l g aq aw ac kr28) (va_cwS 5 hts gL_due_L_whyNot rfl rfl rfl hdL_whyNot ⟨Nat.le_of_ble_eq_true rfl, Nat.le_of_ble_eq_true rfl⟩) hK hN (hP.perm pq).left (hD.perm pq).left rfl hl.1 rfl (Nat.le_of_ble_eq_true rfl) dL_due_297 ⟨Nat.zero_le _, Nat.zero_le _⟩) hP hD hS hA (fun H locs hP hD hS => ?_)
                obtain ⟨j29, vq30, vc31, kj29, h⟩ := bd3_ex h
                have kx5 : ∀ (H : Heap) (locs : List Loc) (ls : Array Slot), va_P g.1 vwCl ((cAr g aq 10 vq30) ++ ((cAr g aw 24 vw) ++ ((cAr g ac 21 vc31) ++ ((cAr g al 24 vl))))) H → va_D A ((cAr g aq 10 vq30) ++ ((cAr g aw 24 vw) ++ ((cAr g ac 21 vc31) ++ ((cAr g al 24 vl))))) → va_S A su.heap H locs → lv_has ls 13 [] → W p l e rL_due su m args below meth c H locs 0 0 Q (F0 m 317 ls [.int j29]) := by
                  intro H locs ls hP hD hS hl
                  cases some_i h
                  exact hend _ _ _ _ _ hP hD hS (RetOK.i dL_due_317)
                have h := kj29
                refine lv_if_eq (tgt := 308) hx hb dL_due_300 (by decide) (fun c32 => ?_) (fun c32 => ?_)
                · have h := if_t c32 h
                  refine lv_iload_n hx hb dL_due_308 rfl (lv_at hl 1 rfl) ?_
                  refine lv_iload_n hx hb dL_due_309 rfl (lv_at hl 2 rfl) ?_
                  refine lv_aload hx hb dL_due_310 (lv_at hl 4 rfl) ?_
                  refine lv_aload hx hb dL_due_312 (lv_at hl 6 rfl) ?_
                  obtain ⟨r33, vq34, vc35, kr33, h⟩ := bd3_ex h
                  have pq : (((cAr g aq 10 vq) ++ ((cAr g aw 24 vw) ++ ((cAr g ac 21 vc) ++ ((cAr g al 24 vl))))) : va_W).Perm (((cAr g aq 10 vq) ++ ((cAr g ac 21 vc))) ++ ((cAr g aw 24 vw) ++ ((cAr g al 24 vl)))) := pmS [(cAr g aq 10 vq), (cAr g aw 24 vw), (cAr g ac 21 vc), (cAr g al 24 vl)] [0, 1, 2, 3] [0, 2] [1, 3] (by decide)
                  have pr : ((((cAr g aq 10 vq34) ++ ((cAr g ac 21 vc35))) ++ ((cAr g aw 24 vw) ++ ((cAr g al 24 vl)))) : va_W).Perm ((cAr g aq 10 vq34) ++ ((cAr g aw 24 vw) ++ ((cAr g ac 21 vc35) ++ ((cAr g al 24 vl))))) := (pmS [(cAr g aq 10 vq34), (cAr g aw 24 vw), (cAr g ac 21 vc35), (cAr g al 24 vl)] [0, 1, 2, 3] [0, 2] [1, 3] (by decide)).symm
                  refine aft_p (st1 := [.int r33]) (ws' := ((cAr g aq 10 vq34) ++ ((cAr g aw 24 vw) ++ ((cAr g ac 21 vc35) ++ ((cAr g al 24 vl)))))) rfl pq pr (runS (As := [.int p1, .int p2, .ref aq, .ref ac]) (rest := []) ⟨hx, hb, hml, hown, hts⟩ (kL_climbs l g aq ac kr33) (va_cwS 4 hts gL_due_L_climbs rfl rfl rfl hdL_climbs ⟨Nat.le_of_ble_eq_true rfl, Nat.le_of_ble_eq_true rfl⟩) hK hN (hP.perm pq).left (hD.perm pq).left rfl hl.1 rfl (Nat.le_of_ble_eq_true rfl) dL_due_314 ⟨Nat.zero_le _, Nat.zero_le _⟩) hP hD hS hA (fun H locs hP hD hS => ?_)
                  cases some_i h
                  exact kx5 _ _ _ hP hD hS (lv_sub hl [] rfl)
                · have h := if_f c32 h
                  refine lv_bipush (v := -103) hx hb dL_due_303 (by decide) ?_
                  refine lv_goto (tgt := 317) hx hb dL_due_305 (by decide) ?_
                  cases some_i h
                  exact kx5 _ _ _ hP hD hS (lv_sub hl [] rfl)
            · have h := if_t c6 h
              refine lv_iload_n hx hb dL_due_273 rfl (lv_at hl 3 rfl) ?_
              refine lv_aload hx hb dL_due_274 (lv_at hl 4 rfl) ?_
              refine lv_iconst (v := 0) hx hb dL_due_276 (by decide) ?_
              refine va_iald hx hb hK hP 0 0 rfl rfl (inb_in (i := 0) (n := 10) (by decide)) dL_due_277 ?_
              refine lv_icmp_lt (tgt := 284) hx hb dL_due_278 (by decide) (fun c36 => ?_) (fun c36 => ?_)
              · have h := if_t c36 h
                refine lv_iload_n hx hb dL_due_284 rfl (lv_at hl 0 rfl) ?_
                refine lv_iconst (v := 2) hx hb dL_due_285 (by decide) ?_
                refine lv_icmp_ne (tgt := 318) hx hb dL_due_286 (by decide) (fun c37 => ?_) (fun c37 => ?_)
                · have h := if_f c37 h
                  refine lv_iload_n hx hb dL_due_318 rfl (lv_at hl 2 rfl) ?_
                  refine lv_iload_n hx hb dL_due_319 rfl (lv_at hl 3 rfl) ?_
                  refine lv_icmp_eq (tgt := 355) hx hb dL_due_320 (by decide) (fun c38 => ?_) (fun c38 => ?_)
                  · have h := if_t c38 h
                    refine lv_iload_n hx hb dL_due_355 rfl (lv_at hl 2 rfl) ?_
                    refine lv_iload_n hx hb dL_due_356 rfl (lv_at hl 3 rfl) ?_
                    obtain ⟨j39, kj39, h⟩ := bd_ex h
                    have kx6 : ∀ (H : Heap) (locs : List Loc) (ls : Array Slot), va_P g.1 vwCl ((cAr g aq 10 vq) ++ ((cAr g aw 24 vw) ++ ((cAr g ac 21 vc) ++ ((cAr g al 24 vl))))) H → va_D A ((cAr g aq 10 vq) ++ ((cAr g aw 24 vw) ++ ((cAr g ac 21 vc) ++ ((cAr g al 24 vl))))) → va_S A su.heap H locs → lv_has ls 13 [] → W p l e rL_due su m args below meth c H locs 0 0 Q (F0 m 367 ls [.int j39]) := by
                      intro H locs ls hP hD hS hl
                      cases some_i h
                      exact hend _ _ _ _ _ hP hD hS (RetOK.i dL_due_367)
                    have h := kj39
                    refine lv_icmp_ne (tgt := 365) hx hb dL_due_357 (by decide) (fun c40 => ?_) (fun c40 => ?_)
                    · have h := if_f c40 h
                      refine lv_bipush (v := -103) hx hb dL_due_365 (by decide) ?_
                      cases some_i h
                      exact kx6 _ _ _ hP hD hS (lv_sub hl [] rfl)
                    · have h := if_t c40 h
                      refine lv_bipush (v := -102) hx hb dL_due_360 (by decide) ?_
                      refine lv_goto (tgt := 367) hx hb dL_due_362 (by decide) ?_
                      cases some_i h
                      exact kx6 _ _ _ hP hD hS (lv_sub hl [] rfl)
                  · have h := if_f c38 h
                    refine lv_aload hx hb dL_due_323 (lv_at hl 6 rfl) ?_
                    refine lv_bipush (v := 7) hx hb dL_due_325 (by decide) ?_
                    refine lv_iload_n hx hb dL_due_327 rfl (lv_at hl 1 rfl) ?_
                    refine lv_imul hx hb dL_due_328 ?_
                    obtain ⟨hi9, h⟩ := ck_ex h
                    refine va_iald hx hb hK hP 2 0 rfl rfl (inb_in hi9) dL_due_329 ?_
                    refine lv_if_ge (tgt := 355) hx hb dL_due_330 (by decide) (fun c41 => ?_) (fun c41 => ?_)
                    · have h := if_t c41 h
                      refine lv_iload_n hx hb dL_due_355 rfl (lv_at hl 2 rfl) ?_
                      refine lv_iload_n hx hb dL_due_356 rfl (lv_at hl 3 rfl) ?_
                      obtain ⟨j42, kj42, h⟩ := bd_ex h
                      have kx7 : ∀ (H : Heap) (locs : List Loc) (ls : Array Slot), va_P g.1 vwCl ((cAr g aq 10 vq) ++ ((cAr g aw 24 vw) ++ ((cAr g ac 21 vc) ++ ((cAr g al 24 vl))))) H → va_D A ((cAr g aq 10 vq) ++ ((cAr g aw 24 vw) ++ ((cAr g ac 21 vc) ++ ((cAr g al 24 vl))))) → va_S A su.heap H locs → lv_has ls 13 [] → W p l e rL_due su m args below meth c H locs 0 0 Q (F0 m 367 ls [.int j42]) := by
                        intro H locs ls hP hD hS hl
                        cases some_i h
                        exact hend _ _ _ _ _ hP hD hS (RetOK.i dL_due_367)
                      have h := kj42
                      refine lv_icmp_ne (tgt := 365) hx hb dL_due_357 (by decide) (fun c43 => ?_) (fun c43 => ?_)
                      · have h := if_f c43 h
                        refine lv_bipush (v := -103) hx hb dL_due_365 (by decide) ?_
                        cases some_i h
                        exact kx7 _ _ _ hP hD hS (lv_sub hl [] rfl)
                      · have h := if_t c43 h
                        refine lv_bipush (v := -102) hx hb dL_due_360 (by decide) ?_
                        refine lv_goto (tgt := 367) hx hb dL_due_362 (by decide) ?_
                        cases some_i h
                        exact kx7 _ _ _ hP hD hS (lv_sub hl [] rfl)
                    · have h := if_f c41 h
                      refine lv_iload_n hx hb dL_due_333 rfl (lv_at hl 2 rfl) ?_
                      refine lv_aload hx hb dL_due_334 (lv_at hl 6 rfl) ?_
                      obtain ⟨r44, kr44, h⟩ := bd_ex h
                      have pq : (((cAr g aq 10 vq) ++ ((cAr g aw 24 vw) ++ ((cAr g ac 21 vc) ++ ((cAr g al 24 vl))))) : va_W).Perm (((cAr g ac 21 vc)) ++ ((cAr g aq 10 vq) ++ ((cAr g aw 24 vw) ++ ((cAr g al 24 vl))))) := pmS [(cAr g aq 10 vq), (cAr g aw 24 vw), (cAr g ac 21 vc), (cAr g al 24 vl)] [0, 1, 2, 3] [2] [0, 1, 3] (by decide)
                      have pr : ((((cAr g ac 21 vc)) ++ ((cAr g aq 10 vq) ++ ((cAr g aw 24 vw) ++ ((cAr g al 24 vl))))) : va_W).Perm ((cAr g aq 10 vq) ++ ((cAr g aw 24 vw) ++ ((cAr g ac 21 vc) ++ ((cAr g al 24 vl))))) := (pmS [(cAr g aq 10 vq), (cAr g aw 24 vw), (cAr g ac 21 vc), (cAr g al 24 vl)] [0, 1, 2, 3] [2] [0, 1, 3] (by decide)).symm
                      refine aft_p (st1 := [.int r44]) (ws' := ((cAr g aq 10 vq) ++ ((cAr g aw 24 vw) ++ ((cAr g ac 21 vc) ++ ((cAr g al 24 vl)))))) rfl pq pr (runS (As := [.int p2, .ref ac]) (rest := []) ⟨hx, hb, hml, hown, hts⟩ (kL_on l g ac kr44) (va_cwS 2 hts gL_due_L_on rfl rfl rfl hdL_on ⟨Nat.le_of_ble_eq_true rfl, Nat.le_of_ble_eq_true rfl⟩) hK hN (hP.perm pq).left (hD.perm pq).left rfl hl.1 rfl (Nat.le_of_ble_eq_true rfl) dL_due_336 ⟨Nat.zero_le _, Nat.zero_le _⟩) hP hD hS hA (fun H locs hP hD hS => ?_)
                      refine lv_if_ge (tgt := 355) hx hb dL_due_339 (by decide) (fun c45 => ?_) (fun c45 => ?_)
                      · have h := if_t c45 h
                        refine lv_iload_n hx hb dL_due_355 rfl (lv_at hl 2 rfl) ?_
                        refine lv_iload_n hx hb dL_due_356 rfl (lv_at hl 3 rfl) ?_
                        obtain ⟨j46, kj46, h⟩ := bd_ex h
                        have kx8 : ∀ (H : Heap) (locs : List Loc) (ls : Array Slot), va_P g.1 vwCl ((cAr g aq 10 vq) ++ ((cAr g aw 24 vw) ++ ((cAr g ac 21 vc) ++ ((cAr g al 24 vl))))) H → va_D A ((cAr g aq 10 vq) ++ ((cAr g aw 24 vw) ++ ((cAr g ac 21 vc) ++ ((cAr g al 24 vl))))) → va_S A su.heap H locs → lv_has ls 13 [] → W p l e rL_due su m args below meth c H locs 0 0 Q (F0 m 367 ls [.int j46]) := by
                          intro H locs ls hP hD hS hl
                          cases some_i h
                          exact hend _ _ _ _ _ hP hD hS (RetOK.i dL_due_367)
                        have h := kj46
                        refine lv_icmp_ne (tgt := 365) hx hb dL_due_357 (by decide) (fun c47 => ?_) (fun c47 => ?_)
                        · have h := if_f c47 h
                          refine lv_bipush (v := -103) hx hb dL_due_365 (by decide) ?_
                          cases some_i h
                          exact kx8 _ _ _ hP hD hS (lv_sub hl [] rfl)
                        · have h := if_t c47 h
                          refine lv_bipush (v := -102) hx hb dL_due_360 (by decide) ?_
                          refine lv_goto (tgt := 367) hx hb dL_due_362 (by decide) ?_
                          cases some_i h
                          exact kx8 _ _ _ hP hD hS (lv_sub hl [] rfl)
                      · have h := if_f c45 h
                        refine lv_aload hx hb dL_due_342 (lv_at hl 5 rfl) ?_
                        refine lv_iload_n hx hb dL_due_344 rfl (lv_at hl 2 rfl) ?_
                        obtain ⟨hi9, h⟩ := ck_ex h
                        refine va_iald hx hb hK hP 1 0 rfl rfl (inb_in hi9) dL_due_345 ?_
                        refine lv_iconst (v := 0) hx hb dL_due_346 (by decide) ?_
                        refine lv_aload hx hb dL_due_347 (lv_at hl 4 rfl) ?_
                        obtain ⟨r48, kr48, h⟩ := bd_ex h
                        have pq : (((cAr g aq 10 vq) ++ ((cAr g aw 24 vw) ++ ((cAr g ac 21 vc) ++ ((cAr g al 24 vl))))) : va_W).Perm (((cAr g aq 10 vq)) ++ ((cAr g aw 24 vw) ++ ((cAr g ac 21 vc) ++ ((cAr g al 24 vl))))) := pmS [(cAr g aq 10 vq), (cAr g aw 24 vw), (cAr g ac 21 vc), (cAr g al 24 vl)] [0, 1, 2, 3] [0] [1, 2, 3] (by decide)
                        have pr : ((((cAr g aq 10 vq)) ++ ((cAr g aw 24 vw) ++ ((cAr g ac 21 vc) ++ ((cAr g al 24 vl))))) : va_W).Perm ((cAr g aq 10 vq) ++ ((cAr g aw 24 vw) ++ ((cAr g ac 21 vc) ++ ((cAr g al 24 vl))))) := (pmS [(cAr g aq 10 vq), (cAr g aw 24 vw), (cAr g ac 21 vc), (cAr g al 24 vl)] [0, 1, 2, 3] [0] [1, 2, 3] (by decide)).symm
                        refine aft_p (st1 := [.int r48]) (ws' := ((cAr g aq 10 vq) ++ ((cAr g aw 24 vw) ++ ((cAr g ac 21 vc) ++ ((cAr g al 24 vl)))))) rfl pq pr (runS (As := [.int (vw p2.toNatClampNeg), .int (0 : Int32), .ref aq]) (rest := []) ⟨hx, hb, hml, hown, hts⟩ (kL_isBarred l g aq kr48) (va_cwS 3 hts gL_due_L_isBarred rfl rfl rfl hdL_isBarred ⟨Nat.le_of_ble_eq_true rfl, Nat.le_of_ble_eq_true rfl⟩) hK hN (hP.perm pq).left (hD.perm pq).left rfl hl.1 rfl (Nat.le_of_ble_eq_true rfl) dL_due_349 ⟨Nat.zero_le _, Nat.zero_le _⟩) hP hD hS hA (fun H locs hP hD hS => ?_)
                        refine lv_if_eq (tgt := 368) hx hb dL_due_352 (by decide) (fun c49 => ?_) (fun c49 => ?_)
                        · have h := if_t c49 h
                          refine lv_aload hx hb dL_due_368 (lv_at hl 6 rfl) ?_
                          refine lv_bipush (v := 7) hx hb dL_due_370 (by decide) ?_
                          refine lv_iload_n hx hb dL_due_372 rfl (lv_at hl 1 rfl) ?_
                          refine lv_imul hx hb dL_due_373 ?_
                          refine lv_iload_n hx hb dL_due_374 rfl (lv_at hl 2 rfl) ?_
                          obtain ⟨hi9, h⟩ := ck_ex h
                          obtain ⟨vc50, evc50, h⟩ := pl_ex h
                          refine va_iast hx hb hK hP hD hS 2 0 rfl rfl (inb_in hi9) dL_due_375 (fun H locs hP hD hS => ?_)
                          have hP : va_P g.1 vwCl ((cAr g aq 10 vq) ++ ((cAr g aw 24 vw) ++ ((cAr g ac 21 vc50) ++ ((cAr g al 24 vl))))) H := by rw [← evc50]; exact hP
                          have hD : va_D A ((cAr g aq 10 vq) ++ ((cAr g aw 24 vw) ++ ((cAr g ac 21 vc50) ++ ((cAr g al 24 vl))))) := by rw [← evc50]; exact hD
                          refine lv_aload hx hb dL_due_376 (lv_at hl 6 rfl) ?_
                          refine lv_bipush (v := 7) hx hb dL_due_378 (by decide) ?_
                          refine lv_iload_n hx hb dL_due_380 rfl (lv_at hl 1 rfl) ?_
                          refine lv_imul hx hb dL_due_381 ?_
                          refine lv_iconst (v := 1) hx hb dL_due_382 (by decide) ?_
                          refine lv_iadd hx hb dL_due_383 ?_
                          refine lv_iload_n hx hb dL_due_384 rfl (lv_at hl 2 rfl) ?_
                          obtain ⟨hi9, h⟩ := ck_ex h
                          obtain ⟨vc51, evc51, h⟩ := pl_ex h
                          refine va_iast hx hb hK hP hD hS 2 0 rfl rfl (inb_in hi9) dL_due_385 (fun H locs hP hD hS => ?_)
                          have hP : va_P g.1 vwCl ((cAr g aq 10 vq) ++ ((cAr g aw 24 vw) ++ ((cAr g ac 21 vc51) ++ ((cAr g al 24 vl))))) H := by rw [← evc51]; exact hP
                          have hD : va_D A ((cAr g aq 10 vq) ++ ((cAr g aw 24 vw) ++ ((cAr g ac 21 vc51) ++ ((cAr g al 24 vl))))) := by rw [← evc51]; exact hD
                          refine lv_aload hx hb dL_due_386 (lv_at hl 6 rfl) ?_
                          refine lv_bipush (v := 7) hx hb dL_due_388 (by decide) ?_
                          refine lv_iload_n hx hb dL_due_390 rfl (lv_at hl 1 rfl) ?_
                          refine lv_imul hx hb dL_due_391 ?_
                          refine lv_iconst (v := 2) hx hb dL_due_392 (by decide) ?_
                          refine lv_iadd hx hb dL_due_393 ?_
                          refine lv_iload_n hx hb dL_due_394 rfl (lv_at hl 3 rfl) ?_
                          obtain ⟨hi9, h⟩ := ck_ex h
                          obtain ⟨vc52, evc52, h⟩ := pl_ex h
                          refine va_iast hx hb hK hP hD hS 2 0 rfl rfl (inb_in hi9) dL_due_395 (fun H locs hP hD hS => ?_)
                          have hP : va_P g.1 vwCl ((cAr g aq 10 vq) ++ ((cAr g aw 24 vw) ++ ((cAr g ac 21 vc52) ++ ((cAr g al 24 vl))))) H := by rw [← evc52]; exact hP
                          have hD : va_D A ((cAr g aq 10 vq) ++ ((cAr g aw 24 vw) ++ ((cAr g ac 21 vc52) ++ ((cAr g al 24 vl))))) := by rw [← evc52]; exact hD
                          refine lv_aload hx hb dL_due_396 (lv_at hl 6 rfl) ?_
                          refine lv_bipush (v := 7) hx hb dL_due_398 (by decide) ?_
                          refine lv_iload_n hx hb dL_due_400 rfl (lv_at hl 1 rfl) ?_
                          refine lv_imul hx hb dL_due_401 ?_
                          refine lv_iconst (v := 3) hx hb dL_due_402 (by decide) ?_
                          refine lv_iadd hx hb dL_due_403 ?_
                          refine lv_iconst (v := 0) hx hb dL_due_404 (by decide) ?_
                          obtain ⟨hi9, h⟩ := ck_ex h
                          obtain ⟨vc53, evc53, h⟩ := pl_ex h
                          refine va_iast hx hb hK hP hD hS 2 0 rfl rfl (inb_in hi9) dL_due_405 (fun H locs hP hD hS => ?_)
                          have hP : va_P g.1 vwCl ((cAr g aq 10 vq) ++ ((cAr g aw 24 vw) ++ ((cAr g ac 21 vc53) ++ ((cAr g al 24 vl))))) H := by rw [← evc53]; exact hP
                          have hD : va_D A ((cAr g aq 10 vq) ++ ((cAr g aw 24 vw) ++ ((cAr g ac 21 vc53) ++ ((cAr g al 24 vl))))) := by rw [← evc53]; exact hD
                          refine lv_aload hx hb dL_due_406 (lv_at hl 6 rfl) ?_
                          refine lv_bipush (v := 7) hx hb dL_due_408 (by decide) ?_
                          refine lv_iload_n hx hb dL_due_410 rfl (lv_at hl 1 rfl) ?_
                          refine lv_imul hx hb dL_due_411 ?_
                          refine lv_iconst (v := 4) hx hb dL_due_412 (by decide) ?_
                          refine lv_iadd hx hb dL_due_413 ?_
                          refine lv_iconst (v := 0) hx hb dL_due_414 (by decide) ?_
                          obtain ⟨hi9, h⟩ := ck_ex h
                          obtain ⟨vc54, evc54, h⟩ := pl_ex h
                          refine va_iast hx hb hK hP hD hS 2 0 rfl rfl (inb_in hi9) dL_due_415 (fun H locs hP hD hS => ?_)
                          have hP : va_P g.1 vwCl ((cAr g aq 10 vq) ++ ((cAr g aw 24 vw) ++ ((cAr g ac 21 vc54) ++ ((cAr g al 24 vl))))) H := by rw [← evc54]; exact hP
                          have hD : va_D A ((cAr g aq 10 vq) ++ ((cAr g aw 24 vw) ++ ((cAr g ac 21 vc54) ++ ((cAr g al 24 vl))))) := by rw [← evc54]; exact hD
                          refine lv_iload_n hx hb dL_due_416 rfl (lv_at hl 2 rfl) ?_
                          refine lv_iload_n hx hb dL_due_417 rfl (lv_at hl 3 rfl) ?_
                          refine lv_iconst (v := 0) hx hb dL_due_418 (by decide) ?_
                          refine lv_aload hx hb dL_due_419 (lv_at hl 4 rfl) ?_
                          refine lv_aload hx hb dL_due_421 (lv_at hl 5 rfl) ?_
                          refine lv_aload hx hb dL_due_423 (lv_at hl 7 rfl) ?_
                          obtain ⟨r55, kr55, h⟩ := bd_ex h
                          have pq : (((cAr g aq 10 vq) ++ ((cAr g aw 24 vw) ++ ((cAr g ac 21 vc54) ++ ((cAr g al 24 vl))))) : va_W).Perm (((cAr g aq 10 vq) ++ ((cAr g aw 24 vw) ++ ((cAr g al 24 vl)))) ++ ((cAr g ac 21 vc54))) := pmS [(cAr g aq 10 vq), (cAr g aw 24 vw), (cAr g ac 21 vc54), (cAr g al 24 vl)] [0, 1, 2, 3] [0, 1, 3] [2] (by decide)
                          have pr : ((((cAr g aq 10 vq) ++ ((cAr g aw 24 vw) ++ ((cAr g al 24 vl)))) ++ ((cAr g ac 21 vc54))) : va_W).Perm ((cAr g aq 10 vq) ++ ((cAr g aw 24 vw) ++ ((cAr g ac 21 vc54) ++ ((cAr g al 24 vl))))) := (pmS [(cAr g aq 10 vq), (cAr g aw 24 vw), (cAr g ac 21 vc54), (cAr g al 24 vl)] [0, 1, 2, 3] [0, 1, 3] [2] (by decide)).symm
                          refine aft_p (st1 := [.int r55]) (ws' := ((cAr g aq 10 vq) ++ ((cAr g aw 24 vw) ++ ((cAr g ac 21 vc54) ++ ((cAr g al 24 vl)))))) rfl pq pr (runS (As := [.int p2, .int p3, .int (0 : Int32), .ref aq, .ref aw, .ref al]) (rest := []) ⟨hx, hb, hml, hown, hts⟩ (kL_fewest l g aq aw al kr55) (va_cwS 6 hts gL_due_L_fewest rfl rfl rfl hdL_fewest ⟨Nat.le_of_ble_eq_true rfl, Nat.le_of_ble_eq_true rfl⟩) hK hN (hP.perm pq).left (hD.perm pq).left rfl hl.1 rfl (Nat.le_of_ble_eq_true rfl) dL_due_425 ⟨Nat.zero_le _, Nat.zero_le _⟩) hP hD hS hA (fun H locs hP hD hS => ?_)
                          cases some_i h
                          exact hend _ _ _ _ _ hP hD hS (RetOK.i dL_due_428)
                        · have h := if_f c49 h
                          refine lv_iload_n hx hb dL_due_355 rfl (lv_at hl 2 rfl) ?_
                          refine lv_iload_n hx hb dL_due_356 rfl (lv_at hl 3 rfl) ?_
                          obtain ⟨j56, kj56, h⟩ := bd_ex h
                          have kx9 : ∀ (H : Heap) (locs : List Loc) (ls : Array Slot), va_P g.1 vwCl ((cAr g aq 10 vq) ++ ((cAr g aw 24 vw) ++ ((cAr g ac 21 vc) ++ ((cAr g al 24 vl))))) H → va_D A ((cAr g aq 10 vq) ++ ((cAr g aw 24 vw) ++ ((cAr g ac 21 vc) ++ ((cAr g al 24 vl))))) → va_S A su.heap H locs → lv_has ls 13 [] → W p l e rL_due su m args below meth c H locs 0 0 Q (F0 m 367 ls [.int j56]) := by
                            intro H locs ls hP hD hS hl
                            cases some_i h
                            exact hend _ _ _ _ _ hP hD hS (RetOK.i dL_due_367)
                          have h := kj56
                          refine lv_icmp_ne (tgt := 365) hx hb dL_due_357 (by decide) (fun c57 => ?_) (fun c57 => ?_)
                          · have h := if_f c57 h
                            refine lv_bipush (v := -103) hx hb dL_due_365 (by decide) ?_
                            cases some_i h
                            exact kx9 _ _ _ hP hD hS (lv_sub hl [] rfl)
                          · have h := if_t c57 h
                            refine lv_bipush (v := -102) hx hb dL_due_360 (by decide) ?_
                            refine lv_goto (tgt := 367) hx hb dL_due_362 (by decide) ?_
                            cases some_i h
                            exact kx9 _ _ _ hP hD hS (lv_sub hl [] rfl)
                · have h := if_t c37 h
                  refine lv_iload_n hx hb dL_due_289 rfl (lv_at hl 1 rfl) ?_
                  refine lv_iload_n hx hb dL_due_290 rfl (lv_at hl 2 rfl) ?_
                  refine lv_aload hx hb dL_due_291 (lv_at hl 4 rfl) ?_
                  refine lv_aload hx hb dL_due_293 (lv_at hl 5 rfl) ?_
                  refine lv_aload hx hb dL_due_295 (lv_at hl 6 rfl) ?_
                  obtain ⟨r58, kr58, h⟩ := bd_ex h
                  have pq : (((cAr g aq 10 vq) ++ ((cAr g aw 24 vw) ++ ((cAr g ac 21 vc) ++ ((cAr g al 24 vl))))) : va_W).Perm (((cAr g aq 10 vq) ++ ((cAr g aw 24 vw) ++ ((cAr g ac 21 vc)))) ++ ((cAr g al 24 vl))) := pmS [(cAr g aq 10 vq), (cAr g aw 24 vw), (cAr g ac 21 vc), (cAr g al 24 vl)] [0, 1, 2, 3] [0, 1, 2] [3] (by decide)
                  have pr : ((((cAr g aq 10 vq) ++ ((cAr g aw 24 vw) ++ ((cAr g ac 21 vc)))) ++ ((cAr g al 24 vl))) : va_W).Perm ((cAr g aq 10 vq) ++ ((cAr g aw 24 vw) ++ ((cAr g ac 21 vc) ++ ((cAr g al 24 vl))))) := (pmS [(cAr g aq 10 vq), (cAr g aw 24 vw), (cAr g ac 21 vc), (cAr g al 24 vl)] [0, 1, 2, 3] [0, 1, 2] [3] (by decide)).symm
                  refine aft_p (st1 := [.int r58]) (ws' := ((cAr g aq 10 vq) ++ ((cAr g aw 24 vw) ++ ((cAr g ac 21 vc) ++ ((cAr g al 24 vl)))))) rfl pq pr (runS (As := [.int p1, .int p2, .ref aq, .ref aw, .ref ac]) (rest := []) ⟨hx, hb, hml, hown, hts⟩ (kL_whyNot l g aq aw ac kr58) (va_cwS 5 hts gL_due_L_whyNot rfl rfl rfl hdL_whyNot ⟨Nat.le_of_ble_eq_true rfl, Nat.le_of_ble_eq_true rfl⟩) hK hN (hP.perm pq).left (hD.perm pq).left rfl hl.1 rfl (Nat.le_of_ble_eq_true rfl) dL_due_297 ⟨Nat.zero_le _, Nat.zero_le _⟩) hP hD hS hA (fun H locs hP hD hS => ?_)
                  obtain ⟨j59, vq60, vc61, kj59, h⟩ := bd3_ex h
                  have kx10 : ∀ (H : Heap) (locs : List Loc) (ls : Array Slot), va_P g.1 vwCl ((cAr g aq 10 vq60) ++ ((cAr g aw 24 vw) ++ ((cAr g ac 21 vc61) ++ ((cAr g al 24 vl))))) H → va_D A ((cAr g aq 10 vq60) ++ ((cAr g aw 24 vw) ++ ((cAr g ac 21 vc61) ++ ((cAr g al 24 vl))))) → va_S A su.heap H locs → lv_has ls 13 [] → W p l e rL_due su m args below meth c H locs 0 0 Q (F0 m 317 ls [.int j59]) := by
                    intro H locs ls hP hD hS hl
                    cases some_i h
                    exact hend _ _ _ _ _ hP hD hS (RetOK.i dL_due_317)
                  have h := kj59
                  refine lv_if_eq (tgt := 308) hx hb dL_due_300 (by decide) (fun c62 => ?_) (fun c62 => ?_)
                  · have h := if_t c62 h
                    refine lv_iload_n hx hb dL_due_308 rfl (lv_at hl 1 rfl) ?_
                    refine lv_iload_n hx hb dL_due_309 rfl (lv_at hl 2 rfl) ?_
                    refine lv_aload hx hb dL_due_310 (lv_at hl 4 rfl) ?_
                    refine lv_aload hx hb dL_due_312 (lv_at hl 6 rfl) ?_
                    obtain ⟨r63, vq64, vc65, kr63, h⟩ := bd3_ex h
                    have pq : (((cAr g aq 10 vq) ++ ((cAr g aw 24 vw) ++ ((cAr g ac 21 vc) ++ ((cAr g al 24 vl))))) : va_W).Perm (((cAr g aq 10 vq) ++ ((cAr g ac 21 vc))) ++ ((cAr g aw 24 vw) ++ ((cAr g al 24 vl)))) := pmS [(cAr g aq 10 vq), (cAr g aw 24 vw), (cAr g ac 21 vc), (cAr g al 24 vl)] [0, 1, 2, 3] [0, 2] [1, 3] (by decide)
                    have pr : ((((cAr g aq 10 vq64) ++ ((cAr g ac 21 vc65))) ++ ((cAr g aw 24 vw) ++ ((cAr g al 24 vl)))) : va_W).Perm ((cAr g aq 10 vq64) ++ ((cAr g aw 24 vw) ++ ((cAr g ac 21 vc65) ++ ((cAr g al 24 vl))))) := (pmS [(cAr g aq 10 vq64), (cAr g aw 24 vw), (cAr g ac 21 vc65), (cAr g al 24 vl)] [0, 1, 2, 3] [0, 2] [1, 3] (by decide)).symm
                    refine aft_p (st1 := [.int r63]) (ws' := ((cAr g aq 10 vq64) ++ ((cAr g aw 24 vw) ++ ((cAr g ac 21 vc65) ++ ((cAr g al 24 vl)))))) rfl pq pr (runS (As := [.int p1, .int p2, .ref aq, .ref ac]) (rest := []) ⟨hx, hb, hml, hown, hts⟩ (kL_climbs l g aq ac kr63) (va_cwS 4 hts gL_due_L_climbs rfl rfl rfl hdL_climbs ⟨Nat.le_of_ble_eq_true rfl, Nat.le_of_ble_eq_true rfl⟩) hK hN (hP.perm pq).left (hD.perm pq).left rfl hl.1 rfl (Nat.le_of_ble_eq_true rfl) dL_due_314 ⟨Nat.zero_le _, Nat.zero_le _⟩) hP hD hS hA (fun H locs hP hD hS => ?_)
                    cases some_i h
                    exact kx10 _ _ _ hP hD hS (lv_sub hl [] rfl)
                  · have h := if_f c62 h
                    refine lv_bipush (v := -103) hx hb dL_due_303 (by decide) ?_
                    refine lv_goto (tgt := 317) hx hb dL_due_305 (by decide) ?_
                    cases some_i h
                    exact kx10 _ _ _ hP hD hS (lv_sub hl [] rfl)
              · have h := if_f c36 h
                refine lv_bipush (v := -101) hx hb dL_due_281 (by decide) ?_
                cases some_i h
                exact hend _ _ _ _ _ hP hD hS (RetOK.i dL_due_283)
        · have h := if_t c4 h
          refine lv_aload hx hb dL_due_220 (lv_at hl 6 rfl) ?_
          refine lv_bipush (v := 7) hx hb dL_due_222 (by decide) ?_
          refine lv_iload_n hx hb dL_due_224 rfl (lv_at hl 1 rfl) ?_
          refine lv_imul hx hb dL_due_225 ?_
          obtain ⟨hi9, h⟩ := ck_ex h
          refine va_iald hx hb hK hP 2 0 rfl rfl (inb_in hi9) dL_due_226 ?_
          obtain ⟨x66, ex66, h⟩ := pl_ex h
          refine lv_eqi ex66 ?_
          refine lv_istore (lv' := [(8, .int x66), (0, .int p0), (1, .int p1), (2, .int p2), (3, .int p3), (4, .ref aq), (5, .ref aw), (6, .ref ac), (7, .ref al)]) hx hb dL_due_227 hl (by decide) rfl (fun ls hl => ?_)
          refine lv_aload hx hb dL_due_229 (lv_at hl 7 rfl) ?_
          refine lv_bipush (v := 7) hx hb dL_due_231 (by decide) ?_
          refine lv_iload_n hx hb dL_due_233 rfl (lv_at hl 2 rfl) ?_
          refine lv_imul hx hb dL_due_234 ?_
          refine lv_iconst (v := -1) hx hb dL_due_235 (by decide) ?_
          obtain ⟨hi9, h⟩ := ck_ex h
          obtain ⟨vc67, evc67, h⟩ := pl_ex h
          refine va_iast hx hb hK hP hD hS 2 0 rfl rfl (inb_in hi9) dL_due_236 (fun H locs hP hD hS => ?_)
          have hP : va_P g.1 vwCl ((cAr g aq 10 vq) ++ ((cAr g aw 24 vw) ++ ((cAr g ac 21 vc67) ++ ((cAr g al 24 vl))))) H := by rw [← evc67]; exact hP
          have hD : va_D A ((cAr g aq 10 vq) ++ ((cAr g aw 24 vw) ++ ((cAr g ac 21 vc67) ++ ((cAr g al 24 vl))))) := by rw [← evc67]; exact hD
          refine lv_aload hx hb dL_due_237 (lv_at hl 7 rfl) ?_
          refine lv_bipush (v := 7) hx hb dL_due_239 (by decide) ?_
          refine lv_iload_n hx hb dL_due_241 rfl (lv_at hl 2 rfl) ?_
          refine lv_imul hx hb dL_due_242 ?_
          refine lv_iconst (v := 3) hx hb dL_due_243 (by decide) ?_
          refine lv_iadd hx hb dL_due_244 ?_
          refine lv_iconst (v := 0) hx hb dL_due_245 (by decide) ?_
          obtain ⟨hi9, h⟩ := ck_ex h
          obtain ⟨vc68, evc68, h⟩ := pl_ex h
          refine va_iast hx hb hK hP hD hS 2 0 rfl rfl (inb_in hi9) dL_due_246 (fun H locs hP hD hS => ?_)
          have hP : va_P g.1 vwCl ((cAr g aq 10 vq) ++ ((cAr g aw 24 vw) ++ ((cAr g ac 21 vc68) ++ ((cAr g al 24 vl))))) H := by rw [← evc68]; exact hP
          have hD : va_D A ((cAr g aq 10 vq) ++ ((cAr g aw 24 vw) ++ ((cAr g ac 21 vc68) ++ ((cAr g al 24 vl))))) := by rw [← evc68]; exact hD
          refine lv_iload hx hb dL_due_247 (lv_at hl 0 rfl) ?_
          obtain ⟨j69, kj69, h⟩ := bd_ex h
          have kx11 : ∀ (H : Heap) (locs : List Loc) (ls : Array Slot), va_P g.1 vwCl ((cAr g aq 10 vq) ++ ((cAr g aw 24 vw) ++ ((cAr g ac 21 vc68) ++ ((cAr g al 24 vl))))) H → va_D A ((cAr g aq 10 vq) ++ ((cAr g aw 24 vw) ++ ((cAr g ac 21 vc68) ++ ((cAr g al 24 vl))))) → va_S A su.heap H locs → lv_has ls 13 [] → W p l e rL_due su m args below meth c H locs 0 0 Q (F0 m 259 ls [.int j69]) := by
            intro H locs ls hP hD hS hl
            cases some_i h
            exact hend _ _ _ _ _ hP hD hS (RetOK.i dL_due_259)
          have h := kj69
          refine lv_if_ge (tgt := 257) hx hb dL_due_249 (by decide) (fun c70 => ?_) (fun c70 => ?_)
          · have h := if_t c70 h
            refine lv_iload hx hb dL_due_257 (lv_at hl 0 rfl) ?_
            cases some_i h
            exact kx11 _ _ _ hP hD hS (lv_sub hl [] rfl)
          · have h := if_f c70 h
            refine lv_bipush (v := -103) hx hb dL_due_252 (by decide) ?_
            refine lv_goto (tgt := 259) hx hb dL_due_254 (by decide) ?_
            cases some_i h
            exact kx11 _ _ _ hP hD hS (lv_sub hl [] rfl)
      · have h := if_f c3 h
        refine lv_iload_n hx hb dL_due_142 rfl (lv_at hl 0 rfl) ?_
        refine lv_iconst (v := 5) hx hb dL_due_143 (by decide) ?_
        obtain ⟨j71, kj71, h⟩ := bd_ex h
        have kx12 : ∀ (H : Heap) (locs : List Loc) (ls : Array Slot), va_P g.1 vwCl ((cAr g aq 10 vq) ++ ((cAr g aw 24 vw) ++ ((cAr g ac 21 vc) ++ ((cAr g al 24 vl))))) H → va_D A ((cAr g aq 10 vq) ++ ((cAr g aw 24 vw) ++ ((cAr g ac 21 vc) ++ ((cAr g al 24 vl))))) → va_S A su.heap H locs → lv_has ls 13 [(0, .int p0), (1, .int p1), (2, .int p2), (4, .ref aq)] → W p l e rL_due su m args below meth c H locs 0 0 Q (F0 m 168 ls [.int j71]) := by
          intro H locs ls hP hD hS hl
          refine lv_istore (lv' := [(8, .int j71), (0, .int p0), (1, .int p1), (2, .int p2), (4, .ref aq)]) hx hb dL_due_168 hl (by decide) rfl (fun ls hl => ?_)
          refine lv_aload hx hb dL_due_170 (lv_at hl 4 rfl) ?_
          refine lv_iload_n hx hb dL_due_172 rfl (lv_at hl 1 rfl) ?_
          refine lv_iconst (v := 5) hx hb dL_due_173 (by decide) ?_
          obtain ⟨j72, kj72, h⟩ := bd_ex h
          have kx13 : ∀ (H : Heap) (locs : List Loc) (ls : Array Slot), va_P g.1 vwCl ((cAr g aq 10 vq) ++ ((cAr g aw 24 vw) ++ ((cAr g ac 21 vc) ++ ((cAr g al 24 vl))))) H → va_D A ((cAr g aq 10 vq) ++ ((cAr g aw 24 vw) ++ ((cAr g ac 21 vc) ++ ((cAr g al 24 vl))))) → va_S A su.heap H locs → lv_has ls 13 [(0, .int p0), (1, .int p1), (2, .int p2), (4, .ref aq), (8, .int j71)] → W p l e rL_due su m args below meth c H locs 0 0 Q (F0 m 184 ls [.int j72, .ref aq]) := by
            intro H locs ls hP hD hS hl
            refine lv_iload_n hx hb dL_due_184 rfl (lv_at hl 0 rfl) ?_
            refine lv_iconst (v := 5) hx hb dL_due_185 (by decide) ?_
            obtain ⟨j73, kj73, h⟩ := bd_ex h
            have kx14 : ∀ (H : Heap) (locs : List Loc) (ls : Array Slot), va_P g.1 vwCl ((cAr g aq 10 vq) ++ ((cAr g aw 24 vw) ++ ((cAr g ac 21 vc) ++ ((cAr g al 24 vl))))) H → va_D A ((cAr g aq 10 vq) ++ ((cAr g aw 24 vw) ++ ((cAr g ac 21 vc) ++ ((cAr g al 24 vl))))) → va_S A su.heap H locs → lv_has ls 13 [(0, .int p0), (2, .int p2), (4, .ref aq), (8, .int j71)] → W p l e rL_due su m args below meth c H locs 0 0 Q (F0 m 194 ls [.int j73, .int j72, .ref aq]) := by
              intro H locs ls hP hD hS hl
              obtain ⟨hi9, h⟩ := ck_ex h
              obtain ⟨vq74, evq74, h⟩ := pl_ex h
              refine va_iast hx hb hK hP hD hS 0 0 rfl rfl (inb_in hi9) dL_due_194 (fun H locs hP hD hS => ?_)
              have hP : va_P g.1 vwCl ((cAr g aq 10 vq74) ++ ((cAr g aw 24 vw) ++ ((cAr g ac 21 vc) ++ ((cAr g al 24 vl))))) H := by rw [← evq74]; exact hP
              have hD : va_D A ((cAr g aq 10 vq74) ++ ((cAr g aw 24 vw) ++ ((cAr g ac 21 vc) ++ ((cAr g al 24 vl))))) := by rw [← evq74]; exact hD
              refine lv_aload hx hb dL_due_195 (lv_at hl 2 rfl) ?_
              refine lv_iconst (v := 2) hx hb dL_due_197 (by decide) ?_
              refine lv_iload_n hx hb dL_due_198 rfl (lv_at hl 0 rfl) ?_
              refine lv_iconst (v := 5) hx hb dL_due_199 (by decide) ?_
              obtain ⟨j75, kj75, h⟩ := bd_ex h
              have kx15 : ∀ (H : Heap) (locs : List Loc) (ls : Array Slot), va_P g.1 vwCl ((cAr g aq 10 vq74) ++ ((cAr g aw 24 vw) ++ ((cAr g ac 21 vc) ++ ((cAr g al 24 vl))))) H → va_D A ((cAr g aq 10 vq74) ++ ((cAr g aw 24 vw) ++ ((cAr g ac 21 vc) ++ ((cAr g al 24 vl))))) → va_S A su.heap H locs → lv_has ls 13 [(8, .int j71)] → W p l e rL_due su m args below meth c H locs 0 0 Q (F0 m 211 ls [.int j75, .int (2 : Int32), .ref aq]) := by
                intro H locs ls hP hD hS hl
                obtain ⟨hi9, h⟩ := ck_ex h
                obtain ⟨vq76, evq76, h⟩ := pl_ex h
                refine va_iast hx hb hK hP hD hS 0 0 rfl rfl (inb_in hi9) dL_due_211 (fun H locs hP hD hS => ?_)
                have hP : va_P g.1 vwCl ((cAr g aq 10 vq76) ++ ((cAr g aw 24 vw) ++ ((cAr g ac 21 vc) ++ ((cAr g al 24 vl))))) H := by rw [← evq76]; exact hP
                have hD : va_D A ((cAr g aq 10 vq76) ++ ((cAr g aw 24 vw) ++ ((cAr g ac 21 vc) ++ ((cAr g al 24 vl))))) := by rw [← evq76]; exact hD
                refine lv_iload hx hb dL_due_212 (lv_at hl 0 rfl) ?_
                cases some_i h
                exact hend _ _ _ _ _ hP hD hS (RetOK.i dL_due_214)
              have h := kj75
              refine lv_icmp_ne (tgt := 210) hx hb dL_due_200 (by decide) (fun c77 => ?_) (fun c77 => ?_)
              · have h := if_f c77 h
                refine lv_iload_n hx hb dL_due_210 rfl (lv_at hl 1 rfl) ?_
                cases some_i h
                exact kx15 _ _ _ hP hD hS (lv_sub hl [3] rfl)
              · have h := if_t c77 h
                refine lv_aload hx hb dL_due_203 (lv_at hl 2 rfl) ?_
                refine lv_iconst (v := 2) hx hb dL_due_205 (by decide) ?_
                refine va_iald hx hb hK hP 0 0 rfl rfl (inb_in (i := 2) (n := 10) (by decide)) dL_due_206 ?_
                refine lv_goto (tgt := 211) hx hb dL_due_207 (by decide) ?_
                cases some_i h
                exact kx15 _ _ _ hP hD hS (lv_sub hl [3] rfl)
            have h := kj73
            refine lv_icmp_ne (tgt := 193) hx hb dL_due_186 (by decide) (fun c78 => ?_) (fun c78 => ?_)
            · have h := if_f c78 h
              refine lv_iload_n hx hb dL_due_193 rfl (lv_at hl 1 rfl) ?_
              cases some_i h
              exact kx14 _ _ _ hP hD hS (lv_sub hl [0, 2, 3, 4] rfl)
            · have h := if_t c78 h
              refine lv_iload_n hx hb dL_due_189 rfl (lv_at hl 2 rfl) ?_
              refine lv_goto (tgt := 194) hx hb dL_due_190 (by decide) ?_
              cases some_i h
              exact kx14 _ _ _ hP hD hS (lv_sub hl [0, 2, 3, 4] rfl)
          have h := kj72
          refine lv_icmp_ne (tgt := 183) hx hb dL_due_174 (by decide) (fun c79 => ?_) (fun c79 => ?_)
          · have h := if_f c79 h
            refine lv_iconst (v := 1) hx hb dL_due_183 (by decide) ?_
            cases some_i h
            exact kx13 _ _ _ hP hD hS (lv_sub hl [1, 2, 3, 4, 0] rfl)
          · have h := if_t c79 h
            refine lv_iconst (v := 3) hx hb dL_due_177 (by decide) ?_
            refine lv_iload_n hx hb dL_due_178 rfl (lv_at hl 2 rfl) ?_
            refine lv_iadd hx hb dL_due_179 ?_
            refine lv_goto (tgt := 184) hx hb dL_due_180 (by decide) ?_
            cases some_i h
            exact kx13 _ _ _ hP hD hS (lv_sub hl [1, 2, 3, 4, 0] rfl)
        have h := kj71
        refine lv_icmp_ne (tgt := 156) hx hb dL_due_144 (by decide) (fun c80 => ?_) (fun c80 => ?_)
        · have h := if_f c80 h
          refine lv_bipush (v := 8) hx hb dL_due_156 (by decide) ?_
          refine lv_aload hx hb dL_due_158 (lv_at hl 4 rfl) ?_
          refine lv_iconst (v := 1) hx hb dL_due_160 (by decide) ?_
          refine va_iald hx hb hK hP 0 0 rfl rfl (inb_in (i := 1) (n := 10) (by decide)) dL_due_161 ?_
          refine lv_imul hx hb dL_due_162 ?_
          refine lv_aload hx hb dL_due_163 (lv_at hl 4 rfl) ?_
          refine lv_iconst (v := 2) hx hb dL_due_165 (by decide) ?_
          refine va_iald hx hb hK hP 0 0 rfl rfl (inb_in (i := 2) (n := 10) (by decide)) dL_due_166 ?_
          refine lv_iadd hx hb dL_due_167 ?_
          cases some_i h
          exact kx12 _ _ _ hP hD hS (lv_sub hl [0, 1, 2, 4] rfl)
        · have h := if_t c80 h
          refine lv_aload hx hb dL_due_147 (lv_at hl 4 rfl) ?_
          refine lv_iconst (v := 3) hx hb dL_due_149 (by decide) ?_
          refine lv_iload_n hx hb dL_due_150 rfl (lv_at hl 1 rfl) ?_
          refine lv_iadd hx hb dL_due_151 ?_
          obtain ⟨hi9, h⟩ := ck_ex h
          refine va_iald hx hb hK hP 0 0 rfl rfl (inb_in hi9) dL_due_152 ?_
          refine lv_goto (tgt := 168) hx hb dL_due_153 (by decide) ?_
          cases some_i h
          exact kx12 _ _ _ hP hD hS (lv_sub hl [0, 1, 2, 4] rfl)
    · have h := if_t c2 h
      refine lv_aload hx hb dL_due_127 (lv_at hl 4 rfl) ?_
      refine lv_aload hx hb dL_due_129 (lv_at hl 5 rfl) ?_
      refine lv_aload hx hb dL_due_131 (lv_at hl 6 rfl) ?_
      obtain ⟨r81, vq82, vc83, kr81, h⟩ := bd3_ex h
      have pq : (((cAr g aq 10 vq) ++ ((cAr g aw 24 vw) ++ ((cAr g ac 21 vc) ++ ((cAr g al 24 vl))))) : va_W).Perm (((cAr g aq 10 vq) ++ ((cAr g aw 24 vw) ++ ((cAr g ac 21 vc)))) ++ ((cAr g al 24 vl))) := pmS [(cAr g aq 10 vq), (cAr g aw 24 vw), (cAr g ac 21 vc), (cAr g al 24 vl)] [0, 1, 2, 3] [0, 1, 2] [3] (by decide)
      have pr : ((((cAr g aq 10 vq82) ++ ((cAr g aw 24 vw) ++ ((cAr g ac 21 vc83)))) ++ ((cAr g al 24 vl))) : va_W).Perm ((cAr g aq 10 vq82) ++ ((cAr g aw 24 vw) ++ ((cAr g ac 21 vc83) ++ ((cAr g al 24 vl))))) := (pmS [(cAr g aq 10 vq82), (cAr g aw 24 vw), (cAr g ac 21 vc83), (cAr g al 24 vl)] [0, 1, 2, 3] [0, 1, 2] [3] (by decide)).symm
      refine aft_p (st1 := [.int r81]) (ws' := ((cAr g aq 10 vq82) ++ ((cAr g aw 24 vw) ++ ((cAr g ac 21 vc83) ++ ((cAr g al 24 vl)))))) rfl pq pr (runS (As := [.ref aq, .ref aw, .ref ac]) (rest := []) ⟨hx, hb, hml, hown, hts⟩ (kL_turns l g aq aw ac kr81) (va_cwS 3 hts gL_due_L_turns rfl rfl rfl hdL_turns ⟨Nat.le_of_ble_eq_true rfl, Nat.le_of_ble_eq_true rfl⟩) hK hN (hP.perm pq).left (hD.perm pq).left rfl hl.1 rfl (Nat.le_of_ble_eq_true rfl) dL_due_133 ⟨Nat.zero_le _, Nat.zero_le _⟩) hP hD hS hA (fun H locs hP hD hS => ?_)
      cases some_i h
      exact hend _ _ _ _ _ hP hD hS (RetOK.i dL_due_136)
  · have h := if_t c1 h
    refine lv_iconst (v := 0) hx hb dL_due_4 (by decide) ?_
    refine lv_istore (lv' := [(8, .int (0 : Int32)), (0, .int p0), (1, .int p1), (2, .int p2), (3, .int p3), (4, .ref aq), (5, .ref aw), (6, .ref ac), (7, .ref al)]) hx hb dL_due_5 hl (by decide) rfl (fun ls hl => ?_)
    refine lv_iconst (v := 0) hx hb dL_due_7 (by decide) ?_
    refine lv_istore (lv' := [(9, .int (0 : Int32)), (8, .int (0 : Int32)), (0, .int p0), (1, .int p1), (2, .int p2), (3, .int p3), (4, .ref aq), (5, .ref aw), (6, .ref ac), (7, .ref al)]) hx hb dL_due_8 hl (by decide) rfl (fun ls hl => ?_)
    have L10 : ∀ (n : Nat) (v8_84 : Int32) (v9_85 : Int32) (vq86 : AI) (vw87 : AI) (H : Heap) (locs : List Loc) (ls : Array Slot), fL_due_L10 vc p1 p2 n v8_84 v9_85 vq86 vw87 = some (res, vq', vw', vc') → va_P g.1 vwCl ((cAr g aq 10 vq86) ++ ((cAr g aw 24 vw87) ++ ((cAr g ac 21 vc) ++ ((cAr g al 24 vl))))) H → va_D A ((cAr g aq 10 vq86) ++ ((cAr g aw 24 vw87) ++ ((cAr g ac 21 vc) ++ ((cAr g al 24 vl))))) → va_S A su.heap H locs → lv_has ls 13 [(1, .int p1), (2, .int p2), (4, .ref aq), (5, .ref aw), (8, .int v8_84), (9, .int v9_85)] → W p l e rL_due su m args below meth c H locs 0 0 Q (F0 m 10 ls []) := by
      intro n
      induction n with
      | zero => intro v8_84 v9_85 vq86 vw87 H locs ls h hP hD hS hl; cases h
      | succ n ih =>
        intro v8_84 v9_85 vq86 vw87 H locs ls h hP hD hS hl
        rw [fL_due_L10] at h
        refine lv_iload hx hb dL_due_10 (lv_at hl 5 rfl) ?_
        refine lv_iload_n hx hb dL_due_12 rfl (lv_at hl 1 rfl) ?_
        refine lv_iconst (v := 5) hx hb dL_due_13 (by decide) ?_
        obtain ⟨r88, kr88, h⟩ := bd_ex h
        refine aft_e (st1 := [.int r88, .int v9_85]) rfl (runS (As := [.int p2, .int (5 : Int32)]) (rest := [.int v9_85]) ⟨hx, hb, hml, hown, hts⟩ (kL_low l g kr88) (va_cwS 2 hts gL_due_L_low rfl rfl rfl hdL_low ⟨Nat.le_of_ble_eq_true rfl, Nat.le_of_ble_eq_true rfl⟩) hK hN nilP (nilD (A := A)) rfl hl.1 rfl (Nat.le_of_ble_eq_true rfl) dL_due_14 ⟨Nat.zero_le _, Nat.zero_le _⟩) hP hS hA (fun H locs hP hS => ?_)
        refine lv_icmp_gt (tgt := 119) hx hb dL_due_17 (by decide) (fun c89 => ?_) (fun c89 => ?_)
        · have h := if_t c89 h
          refine lv_iload hx hb dL_due_119 (lv_at hl 4 rfl) ?_
          cases some_i h
          exact hend _ _ _ _ _ hP hD hS (RetOK.i dL_due_121)
        · have h := if_f c89 h
          refine lv_iload_n hx hb dL_due_20 rfl (lv_at hl 0 rfl) ?_
          refine lv_iload hx hb dL_due_21 (lv_at hl 5 rfl) ?_
          obtain ⟨r90, kr90, h⟩ := bd_ex h
          refine aft_e (st1 := [.int r90]) rfl (runS (As := [.int p1, .int v9_85]) (rest := []) ⟨hx, hb, hml, hown, hts⟩ (kL_wordOf l g kr90) (va_cwS 2 hts gL_due_L_wordOf rfl rfl rfl hdL_wordOf ⟨Nat.le_of_ble_eq_true rfl, Nat.le_of_ble_eq_true rfl⟩) hK hN nilP (nilD (A := A)) rfl hl.1 rfl (Nat.le_of_ble_eq_true rfl) dL_due_23 ⟨Nat.zero_le _, Nat.zero_le _⟩) hP hS hA (fun H locs hP hS => ?_)
          refine lv_istore (lv' := [(10, .int r90), (1, .int p1), (2, .int p2), (4, .ref aq), (5, .ref aw), (8, .int v8_84), (9, .int v9_85)]) hx hb dL_due_26 hl (by decide) rfl (fun ls hl => ?_)
          refine lv_iconst (v := 1) hx hb dL_due_28 (by decide) ?_
          refine lv_istore (lv' := [(11, .int (1 : Int32)), (10, .int r90), (1, .int p1), (2, .int p2), (4, .ref aq), (5, .ref aw), (8, .int v8_84), (9, .int v9_85)]) hx hb dL_due_29 hl (by decide) rfl (fun ls hl => ?_)
          refine lv_iconst (v := 0) hx hb dL_due_31 (by decide) ?_
          refine lv_istore (lv' := [(12, .int (0 : Int32)), (11, .int (1 : Int32)), (10, .int r90), (1, .int p1), (2, .int p2), (4, .ref aq), (5, .ref aw), (8, .int v8_84), (9, .int v9_85)]) hx hb dL_due_32 hl (by decide) rfl (fun ls hl => ?_)
          have L34 : ∀ (n : Nat) (v11_91 : Int32) (v12_92 : Int32) (y11_93 : Int32) (H : Heap) (locs : List Loc) (ls : Array Slot), fL_due_L34 vq86 vw87 r90 n v11_91 v12_92 = some y11_93 → va_P g.1 vwCl ((cAr g aq 10 vq86) ++ ((cAr g aw 24 vw87) ++ ((cAr g ac 21 vc) ++ ((cAr g al 24 vl))))) H → va_D A ((cAr g aq 10 vq86) ++ ((cAr g aw 24 vw87) ++ ((cAr g ac 21 vc) ++ ((cAr g al 24 vl))))) → va_S A su.heap H locs → lv_has ls 13 [(1, .int p1), (2, .int p2), (4, .ref aq), (5, .ref aw), (8, .int v8_84), (9, .int v9_85), (10, .int r90), (11, .int v11_91), (12, .int v12_92)] → (∀ (H : Heap) (locs : List Loc) (ls : Array Slot), va_P g.1 vwCl ((cAr g aq 10 vq86) ++ ((cAr g aw 24 vw87) ++ ((cAr g ac 21 vc) ++ ((cAr g al 24 vl))))) H → va_D A ((cAr g aq 10 vq86) ++ ((cAr g aw 24 vw87) ++ ((cAr g ac 21 vc) ++ ((cAr g al 24 vl))))) → va_S A su.heap H locs → lv_has ls 13 [(1, .int p1), (2, .int p2), (4, .ref aq), (5, .ref aw), (8, .int v8_84), (9, .int v9_85), (10, .int r90), (11, .int y11_93)] → W p l e rL_due su m args below meth c H locs 0 0 Q (F0 m 71 ls [])) → W p l e rL_due su m args below meth c H locs 0 0 Q (F0 m 34 ls []) := by
            intro n
            induction n with
            | zero => intro v11_91 v12_92 y11_93 H locs ls h hP hD hS hl kx; cases h
            | succ n ih =>
              intro v11_91 v12_92 y11_93 H locs ls h hP hD hS hl kx
              rw [fL_due_L34] at h
              refine lv_iload hx hb dL_due_34 (lv_at hl 8 rfl) ?_
              refine lv_aload hx hb dL_due_36 (lv_at hl 2 rfl) ?_
              refine lv_iconst (v := 0) hx hb dL_due_38 (by decide) ?_
              refine va_iald hx hb hK hP 0 0 rfl rfl (inb_in (i := 0) (n := 10) (by decide)) dL_due_39 ?_
              refine lv_icmp_ge (tgt := 71) hx hb dL_due_40 (by decide) (fun c94 => ?_) (fun c94 => ?_)
              · have h := if_t c94 h
                cases some_i h
                exact kx _ _ _ hP hD hS (lv_sub hl [0, 1, 2, 3, 4, 5, 6, 7] rfl)
              · have h := if_f c94 h
                refine lv_iload hx hb dL_due_43 (lv_at hl 7 rfl) ?_
                obtain ⟨j95, kj95, h⟩ := bd_ex h
                have kx16 : ∀ (H : Heap) (locs : List Loc) (ls : Array Slot), va_P g.1 vwCl ((cAr g aq 10 vq86) ++ ((cAr g aw 24 vw87) ++ ((cAr g ac 21 vc) ++ ((cAr g al 24 vl))))) H → va_D A ((cAr g aq 10 vq86) ++ ((cAr g aw 24 vw87) ++ ((cAr g ac 21 vc) ++ ((cAr g al 24 vl))))) → va_S A su.heap H locs → lv_has ls 13 [(1, .int p1), (2, .int p2), (4, .ref aq), (5, .ref aw), (8, .int v8_84), (9, .int v9_85), (10, .int r90), (12, .int v12_92)] → W p l e rL_due su m args below meth c H locs 0 0 Q (F0 m 63 ls [.int j95]) := by
                  intro H locs ls hP hD hS hl
                  refine lv_istore (lv' := [(11, .int j95), (1, .int p1), (2, .int p2), (4, .ref aq), (5, .ref aw), (8, .int v8_84), (9, .int v9_85), (10, .int r90), (12, .int v12_92)]) hx hb dL_due_63 hl (by decide) rfl (fun ls hl => ?_)
                  obtain ⟨x96, ex96, h⟩ := pl_ex h
                  refine lv_iinc (v := x96) (lv' := [(12, .int x96), (11, .int j95), (1, .int p1), (2, .int p2), (4, .ref aq), (5, .ref aw), (8, .int v8_84), (9, .int v9_85), (10, .int r90)]) hx hb dL_due_65 hl (k := 8) rfl (by rw [← ex96]; rfl) (by decide) rfl (fun ls hl => ?_)
                  refine lv_goto (tgt := 34) hx hb dL_due_68 (by decide) ?_
                  exact ih j95 x96 _ _ _ _ h hP hD hS (lv_sub hl [2, 3, 4, 5, 6, 7, 8, 1, 0] rfl) kx
                have h := kj95
                refine lv_if_eq (tgt := 62) hx hb dL_due_45 (by decide) (fun c97 => ?_) (fun c97 => ?_)
                · have h := if_t c97 h
                  refine lv_iconst (v := 0) hx hb dL_due_62 (by decide) ?_
                  cases some_i h
                  exact kx16 _ _ _ hP hD hS (lv_sub hl [0, 1, 2, 3, 4, 5, 6, 8] rfl)
                · have h := if_f c97 h
                  refine lv_aload hx hb dL_due_48 (lv_at hl 3 rfl) ?_
                  refine lv_iload hx hb dL_due_50 (lv_at hl 8 rfl) ?_
                  obtain ⟨hi9, h⟩ := ck_ex h
                  refine va_iald hx hb hK hP 1 0 rfl rfl (inb_in hi9) dL_due_52 ?_
                  refine lv_iload hx hb dL_due_53 (lv_at hl 6 rfl) ?_
                  refine lv_icmp_eq (tgt := 62) hx hb dL_due_55 (by decide) (fun c98 => ?_) (fun c98 => ?_)
                  · have h := if_t c98 h
                    refine lv_iconst (v := 0) hx hb dL_due_62 (by decide) ?_
                    cases some_i h
                    exact kx16 _ _ _ hP hD hS (lv_sub hl [0, 1, 2, 3, 4, 5, 6, 8] rfl)
                  · have h := if_f c98 h
                    refine lv_iconst (v := 1) hx hb dL_due_58 (by decide) ?_
                    refine lv_goto (tgt := 63) hx hb dL_due_59 (by decide) ?_
                    cases some_i h
                    exact kx16 _ _ _ hP hD hS (lv_sub hl [0, 1, 2, 3, 4, 5, 6, 8] rfl)
          obtain ⟨v11_99, kv11_99, h⟩ := bd_ex h
          refine L34 1000 (1 : Int32) (0 : Int32) v11_99 _ _ _ kv11_99 hP hD hS (lv_sub hl [3, 4, 5, 6, 7, 8, 2, 1, 0] rfl) (fun H locs ls hP hD hS hl => ?_)
          refine lv_iload hx hb dL_due_71 (lv_at hl 7 rfl) ?_
          refine lv_if_eq (tgt := 88) hx hb dL_due_73 (by decide) (fun c100 => ?_) (fun c100 => ?_)
          · have h := if_t c100 h
            refine lv_iload hx hb dL_due_88 (lv_at hl 7 rfl) ?_
            obtain ⟨v8_101, vq102, vw103, kv8_101, h⟩ := bd3_ex h
            have kx17 : ∀ (H : Heap) (locs : List Loc) (ls : Array Slot), va_P g.1 vwCl ((cAr g aq 10 vq102) ++ ((cAr g aw 24 vw103) ++ ((cAr g ac 21 vc) ++ ((cAr g al 24 vl))))) H → va_D A ((cAr g aq 10 vq102) ++ ((cAr g aw 24 vw103) ++ ((cAr g ac 21 vc) ++ ((cAr g al 24 vl))))) → va_S A su.heap H locs → lv_has ls 13 [(1, .int p1), (2, .int p2), (4, .ref aq), (5, .ref aw), (8, .int v8_101), (9, .int v9_85)] → W p l e rL_due su m args below meth c H locs 0 0 Q (F0 m 113 ls []) := by
              intro H locs ls hP hD hS hl
              obtain ⟨x104, ex104, h⟩ := pl_ex h
              refine lv_iinc (v := x104) (lv' := [(9, .int x104), (1, .int p1), (2, .int p2), (4, .ref aq), (5, .ref aw), (8, .int v8_101)]) hx hb dL_due_113 hl (k := 5) rfl (by rw [← ex104]; rfl) (by decide) rfl (fun ls hl => ?_)
              refine lv_goto (tgt := 10) hx hb dL_due_116 (by decide) ?_
              exact ih v8_101 x104 vq102 vw103 _ _ _ h hP hD hS (lv_sub hl [1, 2, 3, 4, 5, 0] rfl)
            have h := kv8_101
            refine lv_if_eq (tgt := 113) hx hb dL_due_90 (by decide) (fun c105 => ?_) (fun c105 => ?_)
            · have h := if_t c105 h
              cases some_i h
              exact kx17 _ _ _ hP hD hS (lv_sub hl [0, 1, 2, 3, 4, 5] rfl)
            · have h := if_f c105 h
              refine lv_aload hx hb dL_due_93 (lv_at hl 3 rfl) ?_
              refine lv_aload hx hb dL_due_95 (lv_at hl 2 rfl) ?_
              refine lv_iconst (v := 0) hx hb dL_due_97 (by decide) ?_
              refine va_iald hx hb hK hP 0 0 rfl rfl (inb_in (i := 0) (n := 10) (by decide)) dL_due_98 ?_
              refine lv_iload hx hb dL_due_99 (lv_at hl 6 rfl) ?_
              obtain ⟨hi9, h⟩ := ck_ex h
              obtain ⟨vw106, evw106, h⟩ := pl_ex h
              refine va_iast hx hb hK hP hD hS 1 0 rfl rfl (inb_in hi9) dL_due_101 (fun H locs hP hD hS => ?_)
              have hP : va_P g.1 vwCl ((cAr g aq 10 vq86) ++ ((cAr g aw 24 vw106) ++ ((cAr g ac 21 vc) ++ ((cAr g al 24 vl))))) H := by rw [← evw106]; exact hP
              have hD : va_D A ((cAr g aq 10 vq86) ++ ((cAr g aw 24 vw106) ++ ((cAr g ac 21 vc) ++ ((cAr g al 24 vl))))) := by rw [← evw106]; exact hD
              refine lv_aload hx hb dL_due_102 (lv_at hl 2 rfl) ?_
              refine lv_iconst (v := 0) hx hb dL_due_104 (by decide) ?_
              refine lv_dup2_11 hx hb dL_due_105 rfl rfl ?_
              refine va_iald hx hb hK hP 0 0 rfl rfl (inb_in (i := 0) (n := 10) (by decide)) dL_due_106 ?_
              refine lv_iconst (v := 1) hx hb dL_due_107 (by decide) ?_
              refine lv_iadd hx hb dL_due_108 ?_
              obtain ⟨hi9, h⟩ := ck_ex h
              obtain ⟨vq107, evq107, h⟩ := pl_ex h
              refine va_iast hx hb hK hP hD hS 0 0 rfl rfl (inb_in hi9) dL_due_109 (fun H locs hP hD hS => ?_)
              have hP : va_P g.1 vwCl ((cAr g aq 10 vq107) ++ ((cAr g aw 24 vw106) ++ ((cAr g ac 21 vc) ++ ((cAr g al 24 vl))))) H := by rw [← evq107]; exact hP
              have hD : va_D A ((cAr g aq 10 vq107) ++ ((cAr g aw 24 vw106) ++ ((cAr g ac 21 vc) ++ ((cAr g al 24 vl))))) := by rw [← evq107]; exact hD
              obtain ⟨x108, ex108, h⟩ := pl_ex h
              refine lv_iinc (v := x108) (lv' := [(8, .int x108), (1, .int p1), (2, .int p2), (4, .ref aq), (5, .ref aw), (9, .int v9_85), (10, .int r90), (11, .int v11_99)]) hx hb dL_due_110 hl (k := 4) rfl (by rw [← ex108]; rfl) (by decide) rfl (fun ls hl => ?_)
              cases some_i h
              exact kx17 _ _ _ hP hD hS (lv_sub hl [1, 2, 3, 4, 0, 5] rfl)
          · have h := if_f c100 h
            refine lv_aload hx hb dL_due_76 (lv_at hl 2 rfl) ?_
            refine lv_iconst (v := 0) hx hb dL_due_78 (by decide) ?_
            refine va_iald hx hb hK hP 0 0 rfl rfl (inb_in (i := 0) (n := 10) (by decide)) dL_due_79 ?_
            refine lv_bipush (v := 24) hx hb dL_due_80 (by decide) ?_
            refine lv_icmp_ne (tgt := 88) hx hb dL_due_82 (by decide) (fun c109 => ?_) (fun c109 => ?_)
            · have h := if_f c109 h
              refine lv_iload hx hb dL_due_88 (lv_at hl 7 rfl) ?_
              obtain ⟨v8_110, vq111, vw112, kv8_110, h⟩ := bd3_ex h
              have kx18 : ∀ (H : Heap) (locs : List Loc) (ls : Array Slot), va_P g.1 vwCl ((cAr g aq 10 vq111) ++ ((cAr g aw 24 vw112) ++ ((cAr g ac 21 vc) ++ ((cAr g al 24 vl))))) H → va_D A ((cAr g aq 10 vq111) ++ ((cAr g aw 24 vw112) ++ ((cAr g ac 21 vc) ++ ((cAr g al 24 vl))))) → va_S A su.heap H locs → lv_has ls 13 [(1, .int p1), (2, .int p2), (4, .ref aq), (5, .ref aw), (8, .int v8_110), (9, .int v9_85)] → W p l e rL_due su m args below meth c H locs 0 0 Q (F0 m 113 ls []) := by
                intro H locs ls hP hD hS hl
                obtain ⟨x113, ex113, h⟩ := pl_ex h
                refine lv_iinc (v := x113) (lv' := [(9, .int x113), (1, .int p1), (2, .int p2), (4, .ref aq), (5, .ref aw), (8, .int v8_110)]) hx hb dL_due_113 hl (k := 5) rfl (by rw [← ex113]; rfl) (by decide) rfl (fun ls hl => ?_)
                refine lv_goto (tgt := 10) hx hb dL_due_116 (by decide) ?_
                exact ih v8_110 x113 vq111 vw112 _ _ _ h hP hD hS (lv_sub hl [1, 2, 3, 4, 5, 0] rfl)
              have h := kv8_110
              refine lv_if_eq (tgt := 113) hx hb dL_due_90 (by decide) (fun c114 => ?_) (fun c114 => ?_)
              · have h := if_t c114 h
                cases some_i h
                exact kx18 _ _ _ hP hD hS (lv_sub hl [0, 1, 2, 3, 4, 5] rfl)
              · have h := if_f c114 h
                refine lv_aload hx hb dL_due_93 (lv_at hl 3 rfl) ?_
                refine lv_aload hx hb dL_due_95 (lv_at hl 2 rfl) ?_
                refine lv_iconst (v := 0) hx hb dL_due_97 (by decide) ?_
                refine va_iald hx hb hK hP 0 0 rfl rfl (inb_in (i := 0) (n := 10) (by decide)) dL_due_98 ?_
                refine lv_iload hx hb dL_due_99 (lv_at hl 6 rfl) ?_
                obtain ⟨hi9, h⟩ := ck_ex h
                obtain ⟨vw115, evw115, h⟩ := pl_ex h
                refine va_iast hx hb hK hP hD hS 1 0 rfl rfl (inb_in hi9) dL_due_101 (fun H locs hP hD hS => ?_)
                have hP : va_P g.1 vwCl ((cAr g aq 10 vq86) ++ ((cAr g aw 24 vw115) ++ ((cAr g ac 21 vc) ++ ((cAr g al 24 vl))))) H := by rw [← evw115]; exact hP
                have hD : va_D A ((cAr g aq 10 vq86) ++ ((cAr g aw 24 vw115) ++ ((cAr g ac 21 vc) ++ ((cAr g al 24 vl))))) := by rw [← evw115]; exact hD
                refine lv_aload hx hb dL_due_102 (lv_at hl 2 rfl) ?_
                refine lv_iconst (v := 0) hx hb dL_due_104 (by decide) ?_
                refine lv_dup2_11 hx hb dL_due_105 rfl rfl ?_
                refine va_iald hx hb hK hP 0 0 rfl rfl (inb_in (i := 0) (n := 10) (by decide)) dL_due_106 ?_
                refine lv_iconst (v := 1) hx hb dL_due_107 (by decide) ?_
                refine lv_iadd hx hb dL_due_108 ?_
                obtain ⟨hi9, h⟩ := ck_ex h
                obtain ⟨vq116, evq116, h⟩ := pl_ex h
                refine va_iast hx hb hK hP hD hS 0 0 rfl rfl (inb_in hi9) dL_due_109 (fun H locs hP hD hS => ?_)
                have hP : va_P g.1 vwCl ((cAr g aq 10 vq116) ++ ((cAr g aw 24 vw115) ++ ((cAr g ac 21 vc) ++ ((cAr g al 24 vl))))) H := by rw [← evq116]; exact hP
                have hD : va_D A ((cAr g aq 10 vq116) ++ ((cAr g aw 24 vw115) ++ ((cAr g ac 21 vc) ++ ((cAr g al 24 vl))))) := by rw [← evq116]; exact hD
                obtain ⟨x117, ex117, h⟩ := pl_ex h
                refine lv_iinc (v := x117) (lv' := [(8, .int x117), (1, .int p1), (2, .int p2), (4, .ref aq), (5, .ref aw), (9, .int v9_85), (10, .int r90), (11, .int v11_99)]) hx hb dL_due_110 hl (k := 4) rfl (by rw [← ex117]; rfl) (by decide) rfl (fun ls hl => ?_)
                cases some_i h
                exact kx18 _ _ _ hP hD hS (lv_sub hl [1, 2, 3, 4, 0, 5] rfl)
            · have h := if_t c109 h
              refine lv_iload hx hb dL_due_85 (lv_at hl 4 rfl) ?_
              cases some_i h
              exact hend _ _ _ _ _ hP hD hS (RetOK.i dL_due_87)
    exact L10 1000 (0 : Int32) (0 : Int32) vq vw _ _ _ h hP hD hS (lv_sub hl [3, 4, 6, 7, 1, 0] rfl)
end LM
