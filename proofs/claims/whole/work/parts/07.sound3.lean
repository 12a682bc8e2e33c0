section SND3
variable {p : Program} {l : Launch} {e : Env} {R : Room} {s : State} {m : MethodId} {args : Array Value} {below : List Frame} {meth : Method} {c : Code} {Q : State → Prop}
variable {g : Gm} {A : Nat → Prop} {cc : ByteArray} {own : String} {nL pc : Nat} {K T N : CT}
theorem s_zastore (X : Cx g p s m args meth c A cc own nL) (d : decode cc pc = .ok (.bastore, 1)) (nx : Sd g p l e R s m args below meth c A nL Q K (pc + 1)) : Sd g p l e R s m args below meth c A nL Q (oZAS g K) pc := by
  intro h cb sb ls st H HH locs cells slots arr hok hS hc hs hl
  obtain ⟨hx, hb, hml, hown, hts, hK, hlk, hA⟩ := X
  obtain ⟨ws, hP, hD, hr⟩ := hok
  unfold oZAS at H
  split at H
  next x i a r =>
    obtain ⟨hz, n, f, h1, h2, h3⟩ := H
    obtain ⟨k, hk⟩ := (hr a _).mp h1
    have e1 : vp_nar .boolean x = x := by rcases hz with rfl | rfl <;> rfl
    refine va_zast hx hb hK.1 hP hD hS k 2 hk rfl h2 d (fun H1 locs1 hP1 hD1 hS1 => ?_)
    rw [e1] at hP1 hD1
    exact nx _ _ _ _ _ h3 H1 locs1 cells slots arr (Hok.put hD hr hk hP1 hD1) hS1 hc hs hl
  next => exact H.elim
theorem s_aaload (X : Cx g p s m args meth c A cc own nL) {t : Nat} {ty : FieldType} (ht : ∀ g' : Gm, (arrTys g')[t]? = some (g'.2 t, ty)) (hty : ty.isReference = true) (d : decode cc pc = .ok (.aaload, 1)) (nx : Sd g p l e R s m args below meth c A nL Q K (pc + 1)) : Sd g p l e R s m args below meth c A nL Q (oRAL g t K) pc := by
  intro h cb sb ls st H HH locs cells slots arr hok hS hc hs hl
  obtain ⟨hx, hb, hml, hown, hts, hK, hlk, hA⟩ := X
  obtain ⟨ws, hP, hD, hr⟩ := hok
  unfold oRAL at H
  split at H
  next i a r =>
    obtain ⟨n, f, y, h1, h2, h3, h4⟩ := H
    obtain ⟨k, hk⟩ := (hr a _).mp h1
    have hlt : i.toNatClampNeg < n := Nat.not_le.mp fun q => h2 (Or.inr q)
    exact W.aald (v := .ref y) (ty := ty) hx hb (hP k _ hk) ((hK.1.2 t _ (ht g)).1 n (fun j => va_rf (f j))) hty (fun q => by cases q) (by show ¬ (i < 0 ∨ (arrV _ _ _).slots.size ≤ _); rw [arrV_size]; exact h2) (by show (arrV _ _ _).slots[_]? = _; rw [arrV_read _ _ hlt, h3]; rfl) rfl rfl d (nx _ _ _ _ _ h4 HH locs cells slots arr ⟨ws, hP, hD, hr⟩ hS hc hs hl)
  next => exact H.elim
/-- an object of class ci may stand in an array over E -/
def AsgOk (g : Gm) (s : State) (E : String) (ci : Nat) : Prop := ∃ r : vw_C, vwCl[ci]? = some r ∧ ∀ comp c0 : ClassId, s.vm.findClass E = some comp → s.vm.findClass r.1 = some c0 → s.vm.assignable c0 comp = true
theorem AsgOk.self {E : String} {T1 : u_T} {N1 ci : Nat} (h : vwCl[ci]? = some (E, T1, N1)) : AsgOk g s E ci := ⟨_, h, fun comp c0 h1 h2 => by
  have e : some comp = some c0 := h1.symm.trans h2
  cases e
  exact va_asg _ _⟩
theorem s_aastore (X : Cx g p s m args meth c A cc own nL) {t : Nat} {E : String} {cs : List Nat} (ht : ∀ g' : Gm, (arrTys g')[t]? = some (g'.2 t, .object E)) (hasg : ∀ ci ∈ cs, AsgOk g s E ci) (d : decode cc pc = .ok (.aastore, 1)) (nx : Sd g p l e R s m args below meth c A nL Q K (pc + 1)) : Sd g p l e R s m args below meth c A nL Q (oRAS g t cs K) pc := by
  intro h cb sb ls st H HH locs cells slots arr hok hS hc hs hl
  obtain ⟨hx, hb, hml, hown, hts, hK, hlk, hA⟩ := X
  obtain ⟨ws, hP, hD, hr⟩ := hok
  unfold oRAS at H
  split at H
  next v i a r =>
    obtain ⟨n, f, ci, fs, h1, h2, h3, h4, h5⟩ := H
    obtain ⟨k, hk⟩ := (hr a _).mp h1
    obtain ⟨kv, hkv⟩ := (hr v _).mp h2
    obtain ⟨rr, g1, g2⟩ := hasg ci h3
    exact va_astqM hx hb hK.1 hP hD hS k t hk (ht g) (va_rAny hK.1 hP hkv g1 g2) h4 d (fun H1 locs1 hP1 hD1 hS1 => nx _ _ _ _ _ h5 H1 locs1 cells slots arr (Hok.put hD hr hk hP1 hD1) hS1 hc hs hl)
  next => exact H.elim
theorem s_new (X : Cx g p s m args meth c A cc own nL) {ci N1 index : Nat} {C : String} {T1 : u_T} {ds : List Value} (ty : Nat → FieldType) (hty : ∀ k, k < N1 → parseFieldDescriptor (T1 k).2.2.1 = some (ty k)) (hcl : vwCl[ci]? = some (C, T1, N1)) (hin : ∀ w ∈ u_ws C T1 N1, w ∈ UW) (hlnk : Cond.classLink own index C ∈ UW) (hins : Cond.instantiable C N1 ∈ UW) (hini : Cond.initialized C ∈ UW) (hds : ∀ j, j < N1 → defaultValue (ty j) = vp_V ds j) (d : decode cc pc = .ok (.new index, 3)) (nx : Sd g p l e R s m args below meth c A nL Q K (pc + 3)) : Sd g p l e R s m args below meth c A nL Q (oNew ci N1 ds K) pc := by
  intro h cb sb ls st H HH locs cells slots arr hok hS hc hs hl
  obtain ⟨hx, hb, hml, hown, hts, hK, hlk, hA⟩ := X
  obtain ⟨ws, hP, hD, hr⟩ := hok
  obtain ⟨h1, h2, h3⟩ := H
  refine va_new hx hb hts hin ty hty hown (hts _ hlnk) (hts _ hins) (hts _ hini) hK.1 hP hD hS hA hcl hds (by omega) (by omega) d (fun q H1 hP1 hD1 hS1 => ?_)
  obtain ⟨hn, hk⟩ := Hok.push hr hP1 hD1
  exact nx _ _ _ _ _ (h3 q hn) H1 locs (cells + 1) (slots + N1) arr hk hS1 (by omega) (by omega) hl
theorem s_newI (X : Cx g p s m args meth c A cc own nL) (hw : Cond.arrayClass .int ∈ UW) (d : decode cc pc = .ok (.newarray .int, 2)) (nx : Sd g p l e R s m args below meth c A nL Q K (pc + 2)) : Sd g p l e R s m args below meth c A nL Q (oNewI g K) pc := by
  intro h cb sb ls st H HH locs cells slots arr hok hS hc hs hl
  obtain ⟨hx, hb, hml, hown, hts, hK, hlk, hA⟩ := X
  obtain ⟨ws, hP, hD, hr⟩ := hok
  unfold oNewI at H
  split at H
  next n r =>
    obtain ⟨M, rfl, h1, h2, h3, h4⟩ := H
    refine va_newa (atype := .int) (ty := .int) (a0 := (M, .inl (fun _ => 0))) hx hb (hts _ hw) rfl hK.1 hP hD hS hA (fun cA => rfl) (nI_pos (by omega)) (nI_clamp (by omega)) (by show M * 4 ≤ 536870912; omega) (by omega) (by omega) d (fun q cA H1 hK1 hP1 hD1 hS1 => ?_)
    have e1 : cA = g.2 0 := by
      have a1 := (hK1.2 (arrTys g).length (cA, .int) (by simp)).2
      have a2 := (hK.1.2 0 (g.2 0, .int) rfl).2
      exact Option.some.inj (Eq.trans (Eq.symm a1) a2)
    subst e1
    obtain ⟨hn, hk⟩ := Hok.push hr hP1 hD1
    exact nx _ _ _ _ _ (h4 q hn) H1 locs (cells + 1) (slots + M) arr hk hS1 (by omega) (by omega) hl
  next => exact H.elim
theorem s_newJ (X : Cx g p s m args meth c A cc own nL) (hw : Cond.arrayClass .long ∈ UW) (d : decode cc pc = .ok (.newarray .long, 2)) (nx : Sd g p l e R s m args below meth c A nL Q K (pc + 2)) : Sd g p l e R s m args below meth c A nL Q (oNewJ g K) pc := by
  intro h cb sb ls st H HH locs cells slots arr hok hS hc hs hl
  obtain ⟨hx, hb, hml, hown, hts, hK, hlk, hA⟩ := X
  obtain ⟨ws, hP, hD, hr⟩ := hok
  unfold oNewJ at H
  split at H
  next n r =>
    obtain ⟨M, rfl, h1, h2, h3, h4⟩ := H
    refine va_newa (atype := .long) (ty := .long) (a0 := (M, .inr (.inl (fun _ => 0)))) hx hb (hts _ hw) rfl hK.1 hP hD hS hA (fun cA => rfl) (nI_pos (by omega)) (nI_clamp (by omega)) (by show M * 8 ≤ 536870912; omega) (by omega) (by omega) d (fun q cA H1 hK1 hP1 hD1 hS1 => ?_)
    have e1 : cA = g.2 1 := by
      have a1 := (hK1.2 (arrTys g).length (cA, .long) (by simp)).2
      have a2 := (hK.1.2 1 (g.2 1, .long) rfl).2
      exact Option.some.inj (Eq.trans (Eq.symm a1) a2)
    subst e1
    obtain ⟨hn, hk⟩ := Hok.push hr hP1 hD1
    exact nx _ _ _ _ _ (h4 q hn) H1 locs (cells + 1) (slots + M) arr hk hS1 (by omega) (by omega) hl
  next => exact H.elim
theorem s_newZ (X : Cx g p s m args meth c A cc own nL) (hw : Cond.arrayClass .boolean ∈ UW) (d : decode cc pc = .ok (.newarray .boolean, 2)) (nx : Sd g p l e R s m args below meth c A nL Q K (pc + 2)) : Sd g p l e R s m args below meth c A nL Q (oNewZ g K) pc := by
  intro h cb sb ls st H HH locs cells slots arr hok hS hc hs hl
  obtain ⟨hx, hb, hml, hown, hts, hK, hlk, hA⟩ := X
  obtain ⟨ws, hP, hD, hr⟩ := hok
  unfold oNewZ at H
  split at H
  next n r =>
    obtain ⟨M, rfl, h1, h2, h3, h4⟩ := H
    refine va_newa (atype := .boolean) (ty := .boolean) (a0 := (M, .inl (fun _ => 0))) hx hb (hts _ hw) rfl hK.1 hP hD hS hA (fun cA => rfl) (nI_pos (by omega)) (nI_clamp (by omega)) (by show M * 1 ≤ 536870912; omega) (by omega) (by omega) d (fun q cA H1 hK1 hP1 hD1 hS1 => ?_)
    have e1 : cA = g.2 2 := by
      have a1 := (hK1.2 (arrTys g).length (cA, .boolean) (by simp)).2
      have a2 := (hK.1.2 2 (g.2 2, .boolean) rfl).2
      exact Option.some.inj (Eq.trans (Eq.symm a1) a2)
    subst e1
    obtain ⟨hn, hk⟩ := Hok.push hr hP1 hD1
    exact nx _ _ _ _ _ (h4 q hn) H1 locs (cells + 1) (slots + M) arr hk hS1 (by omega) (by omega) hl
  next => exact H.elim
theorem s_newR (X : Cx g p s m args meth c A cc own nL) {t index : Nat} {C : String} (ht : ∀ g' : Gm, (arrTys g')[t]? = some (g'.2 t, .object C)) (hov : va_AO C s) (hlnk : Cond.classLink own index C ∈ UW) (d : decode cc pc = .ok (.anewarray index, 3)) (nx : Sd g p l e R s m args below meth c A nL Q K (pc + 3)) : Sd g p l e R s m args below meth c A nL Q (oNewR g t K) pc := by
  intro h cb sb ls st H HH locs cells slots arr hok hS hc hs hl
  obtain ⟨hx, hb, hml, hown, hts, hK, hlk, hA⟩ := X
  obtain ⟨ws, hP, hD, hr⟩ := hok
  unfold oNewR at H
  split at H
  next n r =>
    obtain ⟨M, rfl, h1, h2, h3, h4⟩ := H
    refine va_newq hx hb hown (hts _ hlnk) hov hK.1 hP hD hS hA (nI_pos (by omega)) (nI_clamp (by omega)) (by omega) (by omega) (by omega) d (fun q cA H1 hK1 hP1 hD1 hS1 => ?_)
    have e1 : cA = g.2 t := by
      obtain ⟨-, -, -, -, -, a1⟩ := (hK1.2 (arrTys g).length (cA, .object C) (by simp)).2
      obtain ⟨-, -, -, -, -, a2⟩ := (hK.1.2 t _ (ht g)).2
      exact Option.some.inj (Eq.trans (Eq.symm a1) a2)
    subst e1
    obtain ⟨hn, hk⟩ := Hok.push hr hP1 hD1
    exact nx _ _ _ _ _ (h4 q hn) H1 locs (cells + 1) (slots + M) arr hk hS1 (by omega) (by omega) hl
  next => exact H.elim
theorem s_inst (X : Cx g p s m args meth c A cc own nL) {tab : List (Nat × Int32)} {index : Nat} {nm : String} (hlnk : Cond.classLink own index nm ∈ UW) (htab : ∀ (ci : Nat) (b : Int32), (ci, b) ∈ tab → ∃ (C : String) (T1 : u_T) (N1 : Nat), vwCl[ci]? = some (C, T1, N1) ∧ ((b = 1 ∧ (va_Nw (.castable C nm) s ∨ C = nm)) ∨ (b = 0 ∧ va_Nc C nm s))) (d : decode cc pc = .ok (.instanceof index, 3)) (nx : Sd g p l e R s m args below meth c A nL Q K (pc + 3)) : Sd g p l e R s m args below meth c A nL Q (oInst tab K) pc := by
  intro h cb sb ls st H HH locs cells slots arr hok hS hc hs hl
  obtain ⟨hx, hb, hml, hown, hts, hK, hlk, hA⟩ := X
  obtain ⟨ws, hP, hD, hr⟩ := hok
  unfold oInst at H
  split at H
  next a r =>
    obtain ⟨ci, fs, b, h1, h2, h3⟩ := H
    obtain ⟨k, hk⟩ := (hr a _).mp h1
    obtain ⟨C, T1, N1, g1, g2⟩ := htab ci b h2
    have hrc := va_recv hK.1 hP g1 hk
    have fin := nx _ _ _ _ _ h3 HH locs cells slots arr ⟨ws, hP, hD, hr⟩ hS hc hs hl
    rcases g2 with ⟨rfl, g3 | g3⟩ | ⟨rfl, g3⟩
    · exact va_instY hx hb hown (hts _ hlnk) g3 hrc d fin
    · subst g3
      obtain ⟨-, hcat⟩ := hK.1.1 ci _ g1
      exact va_instS hx hb hown (hts _ hlnk) hcat hrc d fin
    · exact va_instNo hx hb hown (hts _ hlnk) g3 hrc d fin
  next => exact H.elim
theorem s_obj (X : Cx g p s m args meth c A cc own nL) {index : Nat} (hlnk : Cond.methodLink own index objectInit ∈ UW) (hin : Cond.instanceMethod objectInit ∈ UW) (hcd : Cond.code objectInit ⟨#[0xb1]⟩ 1 none ∈ UW) (hfr : 1 ≤ R.frames) (hlo : 20 ≤ R.locals) (d : decode cc pc = .ok (.invokespecial index, 3)) (nx : Sd g p l e R s m args below meth c A nL Q K (pc + 3)) : Sd g p l e R s m args below meth c A nL Q (fun h cb sb ls st => Nat.ble st.length 5 = true ∧ oObj K h cb sb ls st) pc := by
  intro h cb sb ls st H HH locs cells slots arr hok hS hc hs hl
  obtain ⟨hx, hb, hml, hown, hts, hK, hlk, hA⟩ := X
  obtain ⟨hlen, H⟩ := H
  unfold oObj at H
  split at H
  next a r =>
    refine W.objInit hx hb hown (hts _ hlnk) (hts _ hin) (hts _ hcd) rfl (by rw [hml]; exact hl.2.1) rfl d hfr ?_ (nx _ _ _ _ _ H HH locs cells slots arr hok hS hc hs hl)
    have h8 : (r.map fun v => v.category).sum ≤ 8 := by
      have h4 : r.length ≤ 4 := by have := Nat.le_of_ble_eq_true hlen; simpa using this
      have : ∀ r : List Value, (r.map fun v => v.category).sum ≤ 2 * r.length := by
        intro r
        induction r with
        | nil => simp
        | cons v r ih => have := lv_cat v; simp only [List.map_cons, List.sum_cons, List.length_cons]; omega
      have := this r
      omega
    have h9 := lv_room (m := m) (pc := pc) (ls := arr) (rest := (Value.ref a :: r)) h8
    omega
  next => exact H.elim
theorem cat_sum (r : List Value) (h : r.length ≤ 4) : (r.map fun v => v.category).sum ≤ 8 := by
  have : ∀ r : List Value, (r.map fun v => v.category).sum ≤ 2 * r.length := by
    intro r
    induction r with
    | nil => simp
    | cons v r ih => have := lv_cat v; simp only [List.map_cons, List.sum_cons, List.length_cons]; omega
  have := this r
  omega
theorem s_max (X : Cx g p s m args meth c A cc own nL) {index : Nat} (hlnk : Cond.methodLink own index Lib.Math.max.name ∈ UW) (hst : Cond.static Lib.Math.max.name ∈ UW) (hin : Cond.initialized "java/lang/Math" ∈ UW) (hcd : Cond.code Lib.Math.max.name Lib.Math.max.code 2 (some .int) ∈ UW) (hfr : 1 ≤ R.frames) (hlo : 21 ≤ R.locals) (d : decode cc pc = .ok (.invokestatic index, 3)) (nx : Sd g p l e R s m args below meth c A nL Q K (pc + 3)) : Sd g p l e R s m args below meth c A nL Q (oMax K) pc := by
  intro h cb sb ls st H HH locs cells slots arr hok hS hc hs hl
  obtain ⟨hx, hb, hml, hown, hts, hK, hlk, hA⟩ := X
  unfold oMax at H
  split at H
  next y x r =>
    have h8 := cat_sum r (Nat.le_of_ble_eq_true H.1)
    exact va_mmax hx hb (by rw [hml]; exact hl.2.1.symm) hown (hts _ hlnk) (hts _ hst) (hts _ hin) (hts _ hcd) hfr (by omega) (by omega) (by omega) d (nx _ _ _ _ _ H.2 HH locs cells slots arr hok hS hc hs hl)
  next => exact H.elim
theorem s_copy (X : Cx g p s m args meth c A cc own nL) {index : Nat} (hlnk : Cond.methodLink own index arraycopyName ∈ UW) (hnt : Cond.native arraycopyName ∈ UW) (hst : Cond.static arraycopyName ∈ UW) (hin : Cond.initialized "java/lang/System" ∈ UW) (hfr : 1 ≤ R.frames) (hlo : 18 ≤ R.locals) (d : decode cc pc = .ok (.invokestatic index, 3)) (nx : Sd g p l e R s m args below meth c A nL Q K (pc + 3)) : Sd g p l e R s m args below meth c A nL Q (oCopy g K) pc := by
  intro h cb sb ls st H HH locs cells slots arr hok hS hc hs hl
  obtain ⟨hx, hb, hml, hown, hts, hK, hlk, hA⟩ := X
  obtain ⟨ws, hP, hD, hr⟩ := hok
  unfold oCopy at H
  split at H
  next n dp b sp a =>
    obtain ⟨n0, n1, f, f1, h1, h2, h3, h4, h5, h6, h7, h8⟩ := H
    obtain ⟨k, hk⟩ := (hr a _).mp h1
    obtain ⟨kb, hkb⟩ := (hr b _).mp h2
    have hnw : nativeFrameWords "java/lang/System" "arraycopy" 5 = 7 := by decide +kernel
    have hlo2 : (([] : List Value).map fun v => v.category).sum + (nativeFrameWords "java/lang/System" "arraycopy" 5 + 11) ≤ R.locals := by rw [hnw]; show 0 + 18 ≤ R.locals; omega
    exact va_copyi (rest := []) hx hb (by rw [hml]; exact hl.2.1.symm) hown (hts _ hlnk) (hts _ hnt) (hts _ hst) (hts _ hin) hK.1 hP hD hS k kb 0 0 hk hkb rfl rfl rfl h3 h4 h5 h6 h7 (fun i _ => rfl) hfr hlo2 d (fun H1 locs1 hP1 hD1 hS1 => nx _ _ _ _ _ h8 H1 locs1 cells slots arr (Hok.put hD hr hkb hP1 hD1) hS1 hc hs hl)
  next => exact H.elim
end SND3
