section SND2
variable {p : Program} {l : Launch} {e : Env} {R : Room} {s : State} {m : MethodId} {args : Array Value} {below : List Frame} {meth : Method} {c : Code} {Q : State → Prop}
variable {g : Gm} {A : Nat → Prop} {cc : ByteArray} {own : String} {nL pc : Nat} {K T N : CT}
/-- a field of an object: one row a class that it may be of -/
def FldG (g : Gm) (s : State) (args : Array Value) (own : String) (index i : Nat) (ci : Nat) : Prop := ∃ (C ref : String) (T1 : u_T) (N1 : Nat), vwCl[ci]? = some (C, T1, N1) ∧ (∀ w ∈ u_ws C T1 N1, w ∈ UW) ∧ i < N1 ∧ Cond.fieldLink own index ref (T1 i).2.1 (T1 i).2.2.1 ∈ UW ∧ (T1 i).1 = ref
theorem s_get (X : Cx g p s m args meth c A cc own nL) {cs : List Nat} {i index : Nat} (d : decode cc pc = .ok (.getfield index, 3)) (hf : ∀ ci ∈ cs, FldG g s args own index i ci) (nx : Sd g p l e R s m args below meth c A nL Q K (pc + 3)) : Sd g p l e R s m args below meth c A nL Q (oGet cs i K) pc := by
  intro h cb sb ls st H HH locs cells slots arr hok hS hc hs hl
  obtain ⟨hx, hb, hml, hown, hts, hK, hlk, hA⟩ := X
  obtain ⟨ws, hP, hD, hr⟩ := hok
  unfold oGet at H
  split at H
  next a r =>
    obtain ⟨ci, fs, v, h1, h2, h3, h4⟩ := H
    obtain ⟨k, hk⟩ := (hr a _).mp h1
    obtain ⟨C, ref, T1, N1, f1, f2, f3, f4, f5⟩ := hf ci h2
    subst f5
    exact va_get (D := g.1) hx hb hts f2 hown hK.1 hP k hk f1 i f3 (hts _ f4) (fun _ h9 => h9) h3 d (nx _ _ _ _ _ h4 HH locs cells slots arr ⟨ws, hP, hD, hr⟩ hS hc hs hl)
  next => exact H.elim
def FldP (g : Gm) (s : State) (args : Array Value) (own : String) (index i : Nat) (fin : Bool) (ty : FieldType) (ci : Nat) : Prop := ∃ (C ref : String) (T1 : u_T) (N1 : Nat) (ty0 : Nat → FieldType), vwCl[ci]? = some (C, T1, N1) ∧ (∀ w ∈ u_ws C T1 N1, w ∈ UW) ∧ i < N1 ∧ Cond.fieldLink own index ref (T1 i).2.1 (T1 i).2.2.1 ∈ UW ∧ (T1 i).1 = ref ∧
  (∀ k, k < N1 → parseFieldDescriptor (T1 k).2.2.1 = some (ty0 k)) ∧ (∀ a, a < N1 → ∀ b, b < N1 → a ≠ b → (T1 a).2.1 ≠ (T1 b).2.1) ∧ (T1 i).2.2.2 = fin ∧ ty0 i = ty
theorem s_putI (X : Cx g p s m args meth c A cc own nL) {cs : List Nat} {i index : Nat} (d : decode cc pc = .ok (.putfield index, 3)) (hf : ∀ ci ∈ cs, FldP g s args own index i false .int ci) (nx : Sd g p l e R s m args below meth c A nL Q K (pc + 3)) : Sd g p l e R s m args below meth c A nL Q (oPutI cs i K) pc := by
  intro h cb sb ls st H HH locs cells slots arr hok hS hc hs hl
  obtain ⟨hx, hb, hml, hown, hts, hK, hlk, hA⟩ := X
  obtain ⟨ws, hP, hD, hr⟩ := hok
  unfold oPutI at H
  split at H
  next x a r =>
    obtain ⟨ci, fs, h1, h2, h3, h4⟩ := H
    obtain ⟨k, hk⟩ := (hr a _).mp h1
    obtain ⟨C, ref, T1, N1, ty0, f1, f2, f3, f4, f5, f6, f7, f8, f9⟩ := hf ci h2
    subst f5
    exact va_put (D := g.1) (ty := .int) hx hb hts f2 ty0 f6 f7 hown hK.1 hP hD hS k hk f1 i f3 (hts _ f4) (fun _ h9 => h9) f8 (by rw [f6 i f3, f9]) rfl rfl h3 d (fun H1 locs1 hP1 hD1 hS1 => nx _ _ _ _ _ h4 H1 locs1 cells slots arr (Hok.put hD hr hk hP1 hD1) hS1 hc hs hl)
  next => exact H.elim
theorem s_putIF (X : Cx g p s m args meth c A cc own nL) {cs : List Nat} {i index : Nat} (d : decode cc pc = .ok (.putfield index, 3)) (hf : ∀ ci ∈ cs, FldP g s args own index i true .int ci) (hini : meth.name = "<init>") (hdc : ∀ ci ∈ cs, ∀ (C : String) (T1 : u_T) (N1 : Nat), vwCl[ci]? = some (C, T1, N1) → (T1 i).1 = own) (nx : Sd g p l e R s m args below meth c A nL Q K (pc + 3)) : Sd g p l e R s m args below meth c A nL Q (oPutI cs i K) pc := by
  intro h cb sb ls st H HH locs cells slots arr hok hS hc hs hl
  obtain ⟨hx, hb, hml, hown, hts, hK, hlk, hA⟩ := X
  obtain ⟨ws, hP, hD, hr⟩ := hok
  unfold oPutI at H
  split at H
  next x a r =>
    obtain ⟨ci, fs, h1, h2, h3, h4⟩ := H
    obtain ⟨k, hk⟩ := (hr a _).mp h1
    obtain ⟨C, ref, T1, N1, ty0, f1, f2, f3, f4, f5, f6, f7, f8, f9⟩ := hf ci h2
    subst f5
    exact va_putF (D := g.1) (ty := .int) hx hb hts f2 ty0 f6 f7 hown hK.1 hP hD hS k hk f1 i f3 (hts _ f4) (fun _ h9 => h9) f8 hini (hdc ci h2 _ _ _ f1) (by rw [f6 i f3, f9]) rfl rfl h3 d (fun H1 locs1 hP1 hD1 hS1 => nx _ _ _ _ _ h4 H1 locs1 cells slots arr (Hok.put hD hr hk hP1 hD1) hS1 hc hs hl)
  next => exact H.elim
theorem s_putZ (X : Cx g p s m args meth c A cc own nL) {cs : List Nat} {i index : Nat} (d : decode cc pc = .ok (.putfield index, 3)) (hf : ∀ ci ∈ cs, FldP g s args own index i false .boolean ci) (nx : Sd g p l e R s m args below meth c A nL Q K (pc + 3)) : Sd g p l e R s m args below meth c A nL Q (oPutZ cs i K) pc := by
  intro h cb sb ls st H HH locs cells slots arr hok hS hc hs hl
  obtain ⟨hx, hb, hml, hown, hts, hK, hlk, hA⟩ := X
  obtain ⟨ws, hP, hD, hr⟩ := hok
  unfold oPutZ at H
  split at H
  next x a r =>
    obtain ⟨hz, ci, fs, h1, h2, h3, h4⟩ := H
    obtain ⟨k, hk⟩ := (hr a _).mp h1
    obtain ⟨C, ref, T1, N1, ty0, f1, f2, f3, f4, f5, f6, f7, f8, f9⟩ := hf ci h2
    subst f5
    exact va_put (D := g.1) (ty := .boolean) hx hb hts f2 ty0 f6 f7 hown hK.1 hP hD hS k hk f1 i f3 (hts _ f4) (fun _ h9 => h9) f8 (by rw [f6 i f3, f9]) (by rcases hz with rfl | rfl <;> rfl) (by rcases hz with rfl | rfl <;> rfl) h3 d (fun H1 locs1 hP1 hD1 hS1 => nx _ _ _ _ _ h4 H1 locs1 cells slots arr (Hok.put hD hr hk hP1 hD1) hS1 hc hs hl)
  next => exact H.elim
theorem s_putZF (X : Cx g p s m args meth c A cc own nL) {cs : List Nat} {i index : Nat} (d : decode cc pc = .ok (.putfield index, 3)) (hf : ∀ ci ∈ cs, FldP g s args own index i true .boolean ci) (hini : meth.name = "<init>") (hdc : ∀ ci ∈ cs, ∀ (C : String) (T1 : u_T) (N1 : Nat), vwCl[ci]? = some (C, T1, N1) → (T1 i).1 = own) (nx : Sd g p l e R s m args below meth c A nL Q K (pc + 3)) : Sd g p l e R s m args below meth c A nL Q (oPutZ cs i K) pc := by
  intro h cb sb ls st H HH locs cells slots arr hok hS hc hs hl
  obtain ⟨hx, hb, hml, hown, hts, hK, hlk, hA⟩ := X
  obtain ⟨ws, hP, hD, hr⟩ := hok
  unfold oPutZ at H
  split at H
  next x a r =>
    obtain ⟨hz, ci, fs, h1, h2, h3, h4⟩ := H
    obtain ⟨k, hk⟩ := (hr a _).mp h1
    obtain ⟨C, ref, T1, N1, ty0, f1, f2, f3, f4, f5, f6, f7, f8, f9⟩ := hf ci h2
    subst f5
    exact va_putF (D := g.1) (ty := .boolean) hx hb hts f2 ty0 f6 f7 hown hK.1 hP hD hS k hk f1 i f3 (hts _ f4) (fun _ h9 => h9) f8 hini (hdc ci h2 _ _ _ f1) (by rw [f6 i f3, f9]) (by rcases hz with rfl | rfl <;> rfl) (by rcases hz with rfl | rfl <;> rfl) h3 d (fun H1 locs1 hP1 hD1 hS1 => nx _ _ _ _ _ h4 H1 locs1 cells slots arr (Hok.put hD hr hk hP1 hD1) hS1 hc hs hl)
  next => exact H.elim
theorem s_putR (X : Cx g p s m args meth c A cc own nL) {cs : List Nat} {i index : Nat} {ty : FieldType} (d : decode cc pc = .ok (.putfield index, 3)) (hty : ∀ v : Value, (v = .null ∨ ∃ a, v = .ref a) → narrow ty v = v ∧ fits ty v = true) (hf : ∀ ci ∈ cs, FldP g s args own index i false ty ci) (nx : Sd g p l e R s m args below meth c A nL Q K (pc + 3)) : Sd g p l e R s m args below meth c A nL Q (oPutR cs i K) pc := by
  intro h cb sb ls st H HH locs cells slots arr hok hS hc hs hl
  obtain ⟨hx, hb, hml, hown, hts, hK, hlk, hA⟩ := X
  obtain ⟨ws, hP, hD, hr⟩ := hok
  unfold oPutR at H
  split at H
  next x a r =>
    obtain ⟨ci, fs, h1, h2, h3, h4⟩ := H
    obtain ⟨k, hk⟩ := (hr a _).mp h1
    obtain ⟨C, ref, T1, N1, ty0, f1, f2, f3, f4, f5, f6, f7, f8, f9⟩ := hf ci h2
    subst f5
    exact va_put (D := g.1) (ty := ty) hx hb hts f2 ty0 f6 f7 hown hK.1 hP hD hS k hk f1 i f3 (hts _ f4) (fun _ h9 => h9) f8 (by rw [f6 i f3, f9]) (hty (.ref x) (by first | exact Or.inl rfl | exact Or.inr ⟨_, rfl⟩)).1 (hty (.ref x) (by first | exact Or.inl rfl | exact Or.inr ⟨_, rfl⟩)).2 h3 d (fun H1 locs1 hP1 hD1 hS1 => nx _ _ _ _ _ h4 H1 locs1 cells slots arr (Hok.put hD hr hk hP1 hD1) hS1 hc hs hl)
  next a r =>
    obtain ⟨ci, fs, h1, h2, h3, h4⟩ := H
    obtain ⟨k, hk⟩ := (hr a _).mp h1
    obtain ⟨C, ref, T1, N1, ty0, f1, f2, f3, f4, f5, f6, f7, f8, f9⟩ := hf ci h2
    subst f5
    exact va_put (D := g.1) (ty := ty) hx hb hts f2 ty0 f6 f7 hown hK.1 hP hD hS k hk f1 i f3 (hts _ f4) (fun _ h9 => h9) f8 (by rw [f6 i f3, f9]) (hty (.null) (by first | exact Or.inl rfl | exact Or.inr ⟨_, rfl⟩)).1 (hty (.null) (by first | exact Or.inl rfl | exact Or.inr ⟨_, rfl⟩)).2 h3 d (fun H1 locs1 hP1 hD1 hS1 => nx _ _ _ _ _ h4 H1 locs1 cells slots arr (Hok.put hD hr hk hP1 hD1) hS1 hc hs hl)
  next => exact H.elim
theorem s_putRF (X : Cx g p s m args meth c A cc own nL) {cs : List Nat} {i index : Nat} {ty : FieldType} (d : decode cc pc = .ok (.putfield index, 3)) (hty : ∀ v : Value, (v = .null ∨ ∃ a, v = .ref a) → narrow ty v = v ∧ fits ty v = true) (hf : ∀ ci ∈ cs, FldP g s args own index i true ty ci) (hini : meth.name = "<init>") (hdc : ∀ ci ∈ cs, ∀ (C : String) (T1 : u_T) (N1 : Nat), vwCl[ci]? = some (C, T1, N1) → (T1 i).1 = own) (nx : Sd g p l e R s m args below meth c A nL Q K (pc + 3)) : Sd g p l e R s m args below meth c A nL Q (oPutR cs i K) pc := by
  intro h cb sb ls st H HH locs cells slots arr hok hS hc hs hl
  obtain ⟨hx, hb, hml, hown, hts, hK, hlk, hA⟩ := X
  obtain ⟨ws, hP, hD, hr⟩ := hok
  unfold oPutR at H
  split at H
  next x a r =>
    obtain ⟨ci, fs, h1, h2, h3, h4⟩ := H
    obtain ⟨k, hk⟩ := (hr a _).mp h1
    obtain ⟨C, ref, T1, N1, ty0, f1, f2, f3, f4, f5, f6, f7, f8, f9⟩ := hf ci h2
    subst f5
    exact va_putF (D := g.1) (ty := ty) hx hb hts f2 ty0 f6 f7 hown hK.1 hP hD hS k hk f1 i f3 (hts _ f4) (fun _ h9 => h9) f8 hini (hdc ci h2 _ _ _ f1) (by rw [f6 i f3, f9]) (hty (.ref x) (by first | exact Or.inl rfl | exact Or.inr ⟨_, rfl⟩)).1 (hty (.ref x) (by first | exact Or.inl rfl | exact Or.inr ⟨_, rfl⟩)).2 h3 d (fun H1 locs1 hP1 hD1 hS1 => nx _ _ _ _ _ h4 H1 locs1 cells slots arr (Hok.put hD hr hk hP1 hD1) hS1 hc hs hl)
  next a r =>
    obtain ⟨ci, fs, h1, h2, h3, h4⟩ := H
    obtain ⟨k, hk⟩ := (hr a _).mp h1
    obtain ⟨C, ref, T1, N1, ty0, f1, f2, f3, f4, f5, f6, f7, f8, f9⟩ := hf ci h2
    subst f5
    exact va_putF (D := g.1) (ty := ty) hx hb hts f2 ty0 f6 f7 hown hK.1 hP hD hS k hk f1 i f3 (hts _ f4) (fun _ h9 => h9) f8 hini (hdc ci h2 _ _ _ f1) (by rw [f6 i f3, f9]) (hty (.null) (by first | exact Or.inl rfl | exact Or.inr ⟨_, rfl⟩)).1 (hty (.null) (by first | exact Or.inl rfl | exact Or.inr ⟨_, rfl⟩)).2 h3 d (fun H1 locs1 hP1 hD1 hS1 => nx _ _ _ _ _ h4 H1 locs1 cells slots arr (Hok.put hD hr hk hP1 hD1) hS1 hc hs hl)
  next => exact H.elim
theorem rt_obj {C : String} : ∀ v : Value, (v = .null ∨ ∃ a, v = .ref a) → narrow (.object C) v = v ∧ fits (.object C) v = true := by
  rintro v (rfl | ⟨a, rfl⟩) <;> exact ⟨rfl, rfl⟩
theorem rt_arr {t : FieldType} : ∀ v : Value, (v = .null ∨ ∃ a, v = .ref a) → narrow (.array t) v = v ∧ fits (.array t) v = true := by
  rintro v (rfl | ⟨a, rfl⟩) <;> exact ⟨rfl, rfl⟩
theorem s_iaload (X : Cx g p s m args meth c A cc own nL) (d : decode cc pc = .ok (.iaload, 1)) (nx : Sd g p l e R s m args below meth c A nL Q K (pc + 1)) : Sd g p l e R s m args below meth c A nL Q (oIAL g K) pc := by
  intro h cb sb ls st H HH locs cells slots arr hok hS hc hs hl
  obtain ⟨hx, hb, hml, hown, hts, hK, hlk, hA⟩ := X
  obtain ⟨ws, hP, hD, hr⟩ := hok
  unfold oIAL at H
  split at H
  next i a r =>
    obtain ⟨n, f, h1, h2, h3⟩ := H
    obtain ⟨k, hk⟩ := (hr a _).mp h1
    exact va_iald hx hb hK.1 hP k 0 hk rfl h2 d (nx _ _ _ _ _ h3 HH locs cells slots arr ⟨ws, hP, hD, hr⟩ hS hc hs hl)
  next => exact H.elim
theorem s_laload (X : Cx g p s m args meth c A cc own nL) (d : decode cc pc = .ok (.laload, 1)) (nx : Sd g p l e R s m args below meth c A nL Q K (pc + 1)) : Sd g p l e R s m args below meth c A nL Q (oJAL g K) pc := by
  intro h cb sb ls st H HH locs cells slots arr hok hS hc hs hl
  obtain ⟨hx, hb, hml, hown, hts, hK, hlk, hA⟩ := X
  obtain ⟨ws, hP, hD, hr⟩ := hok
  unfold oJAL at H
  split at H
  next i a r =>
    obtain ⟨n, f, h1, h2, h3⟩ := H
    obtain ⟨k, hk⟩ := (hr a _).mp h1
    exact va_lald hx hb hK.1 hP k 1 hk rfl h2 d (nx _ _ _ _ _ h3 HH locs cells slots arr ⟨ws, hP, hD, hr⟩ hS hc hs hl)
  next => exact H.elim
theorem s_zaload (X : Cx g p s m args meth c A cc own nL) (d : decode cc pc = .ok (.baload, 1)) (nx : Sd g p l e R s m args below meth c A nL Q K (pc + 1)) : Sd g p l e R s m args below meth c A nL Q (oZAL g K) pc := by
  intro h cb sb ls st H HH locs cells slots arr hok hS hc hs hl
  obtain ⟨hx, hb, hml, hown, hts, hK, hlk, hA⟩ := X
  obtain ⟨ws, hP, hD, hr⟩ := hok
  unfold oZAL at H
  split at H
  next i a r =>
    obtain ⟨n, f, h1, h2, h3⟩ := H
    obtain ⟨k, hk⟩ := (hr a _).mp h1
    exact va_zald hx hb hK.1 hP k 2 hk rfl h2 d (nx _ _ _ _ _ h3 HH locs cells slots arr ⟨ws, hP, hD, hr⟩ hS hc hs hl)
  next => exact H.elim
theorem s_iastore (X : Cx g p s m args meth c A cc own nL) (d : decode cc pc = .ok (.iastore, 1)) (nx : Sd g p l e R s m args below meth c A nL Q K (pc + 1)) : Sd g p l e R s m args below meth c A nL Q (oIAS g K) pc := by
  intro h cb sb ls st H HH locs cells slots arr hok hS hc hs hl
  obtain ⟨hx, hb, hml, hown, hts, hK, hlk, hA⟩ := X
  obtain ⟨ws, hP, hD, hr⟩ := hok
  unfold oIAS at H
  split at H
  next x i a r =>
    obtain ⟨n, f, h1, h2, h3⟩ := H
    obtain ⟨k, hk⟩ := (hr a _).mp h1
    exact va_iast hx hb hK.1 hP hD hS k 0 hk rfl h2 d (fun H1 locs1 hP1 hD1 hS1 => nx _ _ _ _ _ h3 H1 locs1 cells slots arr (Hok.put hD hr hk hP1 hD1) hS1 hc hs hl)
  next => exact H.elim
theorem s_lastore (X : Cx g p s m args meth c A cc own nL) (d : decode cc pc = .ok (.lastore, 1)) (nx : Sd g p l e R s m args below meth c A nL Q K (pc + 1)) : Sd g p l e R s m args below meth c A nL Q (oJAS g K) pc := by
  intro h cb sb ls st H HH locs cells slots arr hok hS hc hs hl
  obtain ⟨hx, hb, hml, hown, hts, hK, hlk, hA⟩ := X
  obtain ⟨ws, hP, hD, hr⟩ := hok
  unfold oJAS at H
  split at H
  next x i a r =>
    obtain ⟨n, f, h1, h2, h3⟩ := H
    obtain ⟨k, hk⟩ := (hr a _).mp h1
    exact va_last hx hb hK.1 hP hD hS k 1 hk rfl h2 d (fun H1 locs1 hP1 hD1 hS1 => nx _ _ _ _ _ h3 H1 locs1 cells slots arr (Hok.put hD hr hk hP1 hD1) hS1 hc hs hl)
  next => exact H.elim
theorem s_alen (X : Cx g p s m args meth c A cc own nL) (d : decode cc pc = .ok (.arraylength, 1)) (nx : Sd g p l e R s m args below meth c A nL Q K (pc + 1)) : Sd g p l e R s m args below meth c A nL Q (oLen g K) pc := by
  intro h cb sb ls st H HH locs cells slots arr hok hS hc hs hl
  obtain ⟨hx, hb, hml, hown, hts, hK, hlk, hA⟩ := X
  obtain ⟨ws, hP, hD, hr⟩ := hok
  unfold oLen at H
  split at H
  next a r =>
    obtain ⟨n, f, h1, h3⟩ := H
    obtain ⟨k, hk⟩ := (hr a _).mp h1
    exact va_alen hx hb hK.1 hP k 0 hk rfl rfl d (nx _ _ _ _ _ h3 HH locs cells slots arr ⟨ws, hP, hD, hr⟩ hS hc hs hl)
  next => exact H.elim
end SND2
