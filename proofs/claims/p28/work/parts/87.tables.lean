section BGN
theorem nst_in : ∀ w ∈ nstW, w ∈ lw_tbl := by decide +kernel
theorem exc_in : ∀ c ∈ excL, Cond.castable c c ∈ lw_tbl := by decide +kernel
theorem dc_in : ∀ x ∈ dcL, Cond.declares x ∈ lw_tbl := by decide +kernel
theorem str_in : ∀ q ∈ strL, Cond.stringRef RX5 q.1 q.2 ∈ lw_tbl := by decide +kernel
theorem nc_in : ∀ q ∈ ncL, Cond.not (.castable q.1 q.2) ∈ flatC (Jvm.Cond.and given_1 narrow_1) := by decide +kernel
theorem zs_in : (Cond.laysStatic Bundle.tN "UNASSIGNED_STACK" Bundle.steD ∈ lw_tbl ∧ Cond.laysStatic Bundle.tN "SUPPRESSED_SENTINEL" Bundle.listD ∈ lw_tbl ∧ Cond.initialized Bundle.tN ∈ lw_tbl) ∧ Cond.isRef (.static Bundle.tN "UNASSIGNED_STACK" Bundle.steD) ∈ flatC (Jvm.Cond.and given_1 narrow_1) ∧ Cond.isRef (.static Bundle.tN "SUPPRESSED_SENTINEL" Bundle.listD) ∈ flatC (Jvm.Cond.and given_1 narrow_1) := by decide +kernel
theorem ins_in : (Cond.instantiable RX0 4 ∈ lw_tbl ∧ Cond.instantiable RX1 1 ∈ lw_tbl ∧ Cond.instantiable RX2 17 ∈ lw_tbl ∧ Cond.instantiable RX3 2 ∈ lw_tbl ∧ Cond.instantiable RX4 4 ∈ lw_tbl ∧ Cond.instantiable RX5 5 ∈ lw_tbl) ∧ Cond.arrayClass .int ∈ lw_tbl ∧ Cond.arrayOver (.object "BarredRungs$State") ∈ lw_tbl := by decide +kernel
theorem flags_st {l : Launch} (hflags : l.flags = flags0) : l.stackTraces = false := by
  unfold Launch.stackTraces
  rw [hflags]
  decide +kernel
theorem at_K {s : State} {args : Array Value} (hts : ∀ w ∈ lw_tbl, w.before args s = true) : ∃ g : GG, va_K g.1 vwCl (tyL g) s := by
  obtain ⟨⟨i0, i1, i2, i3, i4, i5⟩, a1, a3⟩ := ins_in
  obtain ⟨c0, x0, k0⟩ := u_known (C := RX0) (T := TX0) (N := 4) hts inX0 (hts _ i0)
  obtain ⟨c1, x1, k1⟩ := u_known (C := RX1) (T := TX1) (N := 1) hts inX1 (hts _ i1)
  obtain ⟨c2, x2, k2⟩ := u_known (C := RX2) (T := TX2) (N := 17) hts inX2 (hts _ i2)
  obtain ⟨c3, x3, k3⟩ := u_known (C := RX3) (T := TX3) (N := 2) hts inX3 (hts _ i3)
  obtain ⟨c4, x4, k4⟩ := u_known (C := RX4) (T := TX4) (N := 4) hts inX4 (hts _ i4)
  obtain ⟨c5, x5, k5⟩ := u_known (C := RX5) (T := TX5) (N := 5) hts inX5 (hts _ i5)
  obtain ⟨cI, kI, pI, n1, n2, n3⟩ := Cond.arrayClass_spec (hts _ a1)
  obtain ⟨pO, cO, kO, o1, o2, o3, o4, o5⟩ := Cond.arrayOver_spec (hts _ a3)
  refine ⟨((fun c => match c with | 0 => c0 | 1 => c1 | 2 => c2 | 3 => c3 | 4 => c4 | _ => c5, fun c => match c with | 0 => x0 | 1 => x1 | 2 => x2 | 3 => x3 | 4 => x4 | _ => x5), cI, cO, cO), fun c q h => ?_, fun k q h => ?_⟩
  · match c, h with
    | 0, h => cases h; exact k0
    | 1, h => cases h; exact k1
    | 2, h => cases h; exact k2
    | 3, h => cases h; exact k3
    | 4, h => cases h; exact k4
    | 5, h => cases h; exact k5
    | n + 6, h => cases h
  · match k, h with
    | 0, h => cases h; exact ⟨fun N z => ⟨fun k h => (by cases h), kI, n2, pI, n3⟩, n1⟩
    | 1, h => cases h; exact ⟨fun N z => ⟨fun k h => (by cases h), kO, o3, pO, o4⟩, kO, pO, o3, o4, o1, o5⟩
    | n + 2, h => cases h
theorem at_N {s : State} {args : Array Value} (hts : ∀ w ∈ lw_tbl, w.before args s = true) : Nst s := fun w hw => va_Nw.of (nst_tab w hw) (hts w (nst_in w hw))
theorem at_X {s : State} {args : Array Value} (hts : ∀ w ∈ lw_tbl, w.before args s = true) (hgv : (Jvm.Cond.and given_1 narrow_1).before args s = true) : Xt s := by
  refine ⟨⟨fun c hc => va_Nw.of rfl (hts _ (exc_in c hc)), fun x hx => va_Nw.of rfl (hts _ (dc_in x hx))⟩, fun q hq => va_Nc.of (flat_of_before _ hgv _ (nc_in q hq)), fun q hq => ?_⟩
  obtain ⟨cC, kC, hfc, -⟩ := Cond.instantiable_spec (hts _ ins_in.1.2.2.2.2.2)
  have h1 := hts _ (str_in q hq)
  obtain ⟨k, cf, i, a, -, -, -, -, -, h2⟩ := Cond.stringRef_spec hfc h1
  exact ⟨a, vk_R.of h1 h2⟩
theorem at_Z {s : State} {args : Array Value} (hts : ∀ w ∈ lw_tbl, w.before args s = true) (hgv : (Jvm.Cond.and given_1 narrow_1).before args s = true) : Zs (fun q => s.heap.size ≤ q) s s.heap := by
  obtain ⟨⟨z1, z2, z3⟩, z4, z5⟩ := zs_in
  exact ⟨vx_Zqof (hts _ z1) (hts _ z3) (flat_of_before _ hgv _ z4) (fun a h q => absurd h (Nat.not_lt.mpr q)), vx_Zqof (hts _ z2) (hts _ z3) (flat_of_before _ hgv _ z5) (fun a h q => absurd h (Nat.not_lt.mpr q))⟩
end BGN
