section LKK
variable {s : State} {A : Array Value}
theorem ka_prim {ty : FieldType} (h : (Cond.arrayClass ty).before A s = true) : ∃ cA : ClassId, ArrOfT s cA ty ∧ s.vm.findClass ("[" ++ ty.toString) = some cA := by
  obtain ⟨c, k, comp, h1, h2, h3⟩ := Cond.arrayClass_spec h
  exact ⟨c, fun n z => ⟨fun k h => (by cases h), k, h2, comp, h3⟩, h1⟩
theorem ka_obj {C : String} (h : (Cond.arrayOver (.object C)).before A s = true) : ∃ cA : ClassId, ArrOfT s cA (.object C) ∧ va_RA s cA (.object C) := by
  obtain ⟨comp, c, k, h1, -, h3, h4, h5⟩ := Cond.arrayOver_spec h
  exact ⟨c, fun n z => ⟨fun k h => (by cases h), k, h3, comp, h4⟩, k, comp, h3, h4, h1, h5⟩
theorem ka_arr {ty : FieldType} (h : (Cond.arrayOver (.array ty)).before A s = true) : ∃ cA : ClassId, ArrOfT s cA (.array ty) ∧ va_RA s cA (.array ty) := by
  obtain ⟨comp, c, k, h1, h3, h4, h5⟩ := Cond.arrayOver_specA h
  exact ⟨c, fun n z => ⟨fun k h => (by cases h), k, h3, comp, h4⟩, h5⟩
end LKK
set_option maxRecDepth 100000 in
theorem kk_of {s : State} {b : Nat} (hts : ∀ w ∈ lw_tbl, w.before #[Value.ref b] s = true) (hgv : (Jvm.Cond.and given_1 narrow_1).before #[Value.ref b] s = true) : ∃ g : Gm, KK g s := by
  have hU : ∀ w ∈ UW, w.before #[Value.ref b] s = true := fun w hw => hts w (List.mem_filter.mp hw).1
  have ht : ∀ (i : Nat) (w : Cond), tables_1[i]? = some w → w.before #[Value.ref b] s = true := fun i w h => hts w (List.mem_append_right _ (List.mem_of_getElem? h))
  have hs := flat_of_before _ hgv
  obtain ⟨c0, j0, hk0⟩ := u_known (C := RX0) (T := TX0) (N := 6) (n := 6) hU inU_X0 (ht 302 _ rfl)
  obtain ⟨c1, j1, hk1⟩ := u_known (C := RX1) (T := TX1) (N := 6) (n := 6) hU inU_X1 (ht 260 _ rfl)
  obtain ⟨c2, j2, hk2⟩ := u_known (C := RX2) (T := TX2) (N := 6) (n := 6) hU inU_X2 (ht 39 _ rfl)
  obtain ⟨c3, j3, hk3⟩ := u_known (C := RX3) (T := TX3) (N := 6) (n := 6) hU inU_X3 (ht 48 _ rfl)
  obtain ⟨c4, j4, hk4⟩ := u_known (C := RX4) (T := TX4) (N := 6) (n := 6) hU inU_X4 (ht 311 _ rfl)
  obtain ⟨c5, j5, hk5⟩ := u_known (C := RX5) (T := TX5) (N := 4) (n := 4) hU inU_X5 (ht 142 _ rfl)
  obtain ⟨c6, j6, hk6⟩ := u_known (C := RX6) (T := TX6) (N := 9) (n := 9) hU inU_X6 (ht 107 _ rfl)
  obtain ⟨c7, j7, hk7⟩ := u_known (C := RX7) (T := TX7) (N := 4) (n := 4) hU inU_X7 (ht 221 _ rfl)
  obtain ⟨c8, j8, hk8⟩ := u_known (C := RX8) (T := TX8) (N := 1) (n := 1) hU inU_X8 (ht 26 _ rfl)
  obtain ⟨c9, j9, hk9⟩ := u_known (C := RX9) (T := TX9) (N := 11) (n := 11) hU inU_X9 (ht 16 _ rfl)
  obtain ⟨c10, j10, hk10⟩ := u_known (C := RX10) (T := TX10) (N := 27) (n := 27) hU inU_X10 (ht 704 _ rfl)
  have hc : ∀ k : Nat, ∃ z : ClassId × (Nat → Nat), ∀ q : vw_C, vwCl[k]? = some q → u_Kn s q.1 q.2.1 q.2.2 z.1 z.2 := fun k => match k with
    | 0 => ⟨(c0, j0), fun q hq => by cases hq; exact hk0⟩
    | 1 => ⟨(c1, j1), fun q hq => by cases hq; exact hk1⟩
    | 2 => ⟨(c2, j2), fun q hq => by cases hq; exact hk2⟩
    | 3 => ⟨(c3, j3), fun q hq => by cases hq; exact hk3⟩
    | 4 => ⟨(c4, j4), fun q hq => by cases hq; exact hk4⟩
    | 5 => ⟨(c5, j5), fun q hq => by cases hq; exact hk5⟩
    | 6 => ⟨(c6, j6), fun q hq => by cases hq; exact hk6⟩
    | 7 => ⟨(c7, j7), fun q hq => by cases hq; exact hk7⟩
    | 8 => ⟨(c8, j8), fun q hq => by cases hq; exact hk8⟩
    | 9 => ⟨(c9, j9), fun q hq => by cases hq; exact hk9⟩
    | 10 => ⟨(c10, j10), fun q hq => by cases hq; exact hk10⟩
    | k + 11 => ⟨(c0, j0), fun q hq => by simp [vwCl] at hq⟩
  obtain ⟨z, hz⟩ := Classical.axiomOfChoice hc
  obtain ⟨a0, pa0, qa0⟩ := ka_prim (ty := .int) (ht 78 _ rfl)
  obtain ⟨a1, pa1, qa1⟩ := ka_prim (ty := .long) (ht 140 _ rfl)
  obtain ⟨a2, pa2, qa2⟩ := ka_prim (ty := .boolean) (ht 141 _ rfl)
  obtain ⟨a3, pa3, qa3⟩ := ka_obj (C := RX4) (ht 45 _ rfl)
  obtain ⟨a4, pa4, qa4⟩ := ka_obj (C := RX3) (ht 47 _ rfl)
  obtain ⟨a5, pa5, qa5⟩ := ka_obj (C := RX5) (ht 24 _ rfl)
  obtain ⟨a6, pa6, qa6⟩ := ka_arr (ty := .int) (ht 37 _ rfl)
  refine ⟨((fun k => (z k).1, fun k => (z k).2), fun k => match k with | 0 => a0 | 1 => a1 | 2 => a2 | 3 => a3 | 4 => a4 | 5 => a5 | _ => a6), ⟨fun k q hq => hz k q hq, fun k q hq => ?_⟩, ⟨?_, ?_, ?_, ?_⟩, ⟨?_, ?_, ?_, ?_⟩, ⟨?_, ?_, ?_, ?_⟩, ?_, ?_, ?_⟩
  · match k, hq with
    | 0, hq => cases hq; exact ⟨pa0, qa0⟩
    | 1, hq => cases hq; exact ⟨pa1, qa1⟩
    | 2, hq => cases hq; exact ⟨pa2, qa2⟩
    | 3, hq => cases hq; exact ⟨pa3, qa3⟩
    | 4, hq => cases hq; exact ⟨pa4, qa4⟩
    | 5, hq => cases hq; exact ⟨pa5, qa5⟩
    | 6, hq => cases hq; exact ⟨pa6, qa6⟩
    | k + 7, hq => simp [arrTys] at hq
  · exact va_AO.of (ht 45 _ rfl)
  · exact va_AO.of (ht 47 _ rfl)
  · exact va_AO.of (ht 24 _ rfl)
  · exact va_AOA.of (ht 37 _ rfl)
  · exact va_Nw.of rfl (ht 27 _ rfl)
  · exact va_Nw.of rfl (ht 49 _ rfl)
  · exact va_Nw.of rfl (ht 143 _ rfl)
  · exact va_Nw.of rfl (ht 108 _ rfl)
  · exact va_Nw.of rfl (ht 1077 _ rfl)
  · exact va_Nw.of rfl (ht 1078 _ rfl)
  · exact va_Nw.of rfl (ht 1079 _ rfl)
  · exact va_Nw.of rfl (ht 658 _ rfl)
  · exact va_Nc.of (hs (Cond.not (Cond.castable "VillageCuts$Plain" "VillageCuts$Doubled")) (by decide +kernel))
  · exact va_Nc.of (hs (Cond.not (Cond.castable "VillageCuts$Plain" "VillageCuts$Broad")) (by decide +kernel))
  · exact va_Nc.of (hs (Cond.not (Cond.castable "VillageCuts$Broad" "VillageCuts$Doubled")) (by decide +kernel))
