section SND6
variable {p : Program} {l : Launch} {e : Env} {R : Room} {s : State} {m : MethodId} {args : Array Value} {below : List Frame} {meth : Method} {c : Code}
variable {g : Gm} {A : Nat → Prop} {cc : ByteArray} {own : String} {nL pc : Nat} {K T N : CT} {h0 : Hp} {P : PT}
theorem s_iret (X : Cx g p s m args meth c (Adom h0 s.heap.size) cc own nL) (hr : meth.sig.returnType = some .int) (d : decode cc pc = .ok (.ireturn, 1)) : Sd g p l e R s m args below meth c (Adom h0 s.heap.size) nL (MQ below (QcR g h0 s.heap.size P) args s R.cells R.slots (Adom h0 s.heap.size)) (oIRet P) pc := by
  intro h cb sb ls st H HH locs cells slots arr hok hS hc hs hl
  obtain ⟨hx, hb, hml, hown, hts, hK, hlk, hA⟩ := X
  unfold oIRet at H
  split at H
  next r =>
    refine W.widen (k := R.cells) (n := R.slots) (by omega) (by omega) ?_
    exact W.iret hx hb hr (fun t ht hW => ⟨⟨_, h, rfl, H, by rw [ht]; exact hok⟩, hS.F ht⟩) hS.2.2 d (hlocks := hlk)
  next => exact H.elim
theorem s_zret (X : Cx g p s m args meth c (Adom h0 s.heap.size) cc own nL) (hr : meth.sig.returnType = some .boolean) (d : decode cc pc = .ok (.ireturn, 1)) : Sd g p l e R s m args below meth c (Adom h0 s.heap.size) nL (MQ below (QcR g h0 s.heap.size P) args s R.cells R.slots (Adom h0 s.heap.size)) (oZRet P) pc := by
  intro h cb sb ls st H HH locs cells slots arr hok hS hc hs hl
  obtain ⟨hx, hb, hml, hown, hts, hK, hlk, hA⟩ := X
  unfold oZRet at H
  split at H
  next r =>
    refine W.widen (k := R.cells) (n := R.slots) (by omega) (by omega) ?_
    exact W.zret hx hb hr (by rcases H.1 with rfl | rfl <;> rfl) (fun t ht hW => ⟨⟨_, h, rfl, H.2, by rw [ht]; exact hok⟩, hS.F ht⟩) hS.2.2 d (hlocks := hlk)
  next => exact H.elim
theorem s_jret (X : Cx g p s m args meth c (Adom h0 s.heap.size) cc own nL) (hr : meth.sig.returnType = some .long) (d : decode cc pc = .ok (.lreturn, 1)) : Sd g p l e R s m args below meth c (Adom h0 s.heap.size) nL (MQ below (QcR g h0 s.heap.size P) args s R.cells R.slots (Adom h0 s.heap.size)) (oJRet P) pc := by
  intro h cb sb ls st H HH locs cells slots arr hok hS hc hs hl
  obtain ⟨hx, hb, hml, hown, hts, hK, hlk, hA⟩ := X
  unfold oJRet at H
  split at H
  next r =>
    refine W.widen (k := R.cells) (n := R.slots) (by omega) (by omega) ?_
    exact W.lret hx hb hr (fun t ht hW => ⟨⟨_, h, rfl, H, by rw [ht]; exact hok⟩, hS.F ht⟩) hS.2.2 d (hlocks := hlk)
  next => exact H.elim
theorem s_aret (X : Cx g p s m args meth c (Adom h0 s.heap.size) cc own nL) {rt : FieldType} (hr : meth.sig.returnType = some rt) (hrt : (∃ n, rt = .object n) ∨ ∃ t, rt = .array t) (d : decode cc pc = .ok (.areturn, 1)) : Sd g p l e R s m args below meth c (Adom h0 s.heap.size) nL (MQ below (QcR g h0 s.heap.size P) args s R.cells R.slots (Adom h0 s.heap.size)) (oARet P) pc := by
  intro h cb sb ls st H HH locs cells slots arr hok hS hc hs hl
  obtain ⟨hx, hb, hml, hown, hts, hK, hlk, hA⟩ := X
  unfold oARet at H
  split at H
  next r =>
    refine W.widen (k := R.cells) (n := R.slots) (by omega) (by omega) ?_
    exact W.aret hx hb hr hrt (Or.inr ⟨_, rfl⟩) (fun t ht hW => ⟨⟨_, h, rfl, H, by rw [ht]; exact hok⟩, hS.F ht⟩) hS.2.2 d (hlocks := hlk)
  next => exact H.elim
theorem s_vret (X : Cx g p s m args meth c (Adom h0 s.heap.size) cc own nL) (hr : meth.sig.returnType = none) (d : decode cc pc = .ok (.return_, 1)) : Sd g p l e R s m args below meth c (Adom h0 s.heap.size) nL (MQ below (QcR g h0 s.heap.size P) args s R.cells R.slots (Adom h0 s.heap.size)) (oVRet P) pc := by
  intro h cb sb ls st H HH locs cells slots arr hok hS hc hs hl
  obtain ⟨hx, hb, hml, hown, hts, hK, hlk, hA⟩ := X
  unfold oVRet at H
  split at H
  next =>
    refine W.widen (k := R.cells) (n := R.slots) (by omega) (by omega) ?_
    exact W.vret hx hb hr (fun t ht hW => ⟨⟨_, h, rfl, H, by rw [ht]; exact hok⟩, hS.F ht⟩) hS.2.2 d (hlocks := hlk)
  next => exact H.elim
def ls0 (av : List Value) (nL : Nat) : LocS := av.map some ++ List.replicate (nL - av.length) none
theorem lv_args_cat : ∀ (vs : List Value) (k i : Nat) (v : Value), (∀ v ∈ vs, v.category = 1) → vs[i]? = some v → (k + i, v) ∈ lv_args k vs
  | [], k, i, v, _, h => by simp at h
  | w :: vs, k, 0, v, hc, h => by
    simp only [List.getElem?_cons_zero, Option.some.injEq] at h
    subst h
    exact List.mem_cons_self
  | w :: vs, k, i + 1, v, hc, h => by
    have h1 := hc w List.mem_cons_self
    unfold lv_args
    refine List.mem_cons_of_mem _ ?_
    rw [if_neg (by omega)]
    have := lv_args_cat vs (k + 1) i v (fun x hx => hc x (List.mem_cons_of_mem _ hx)) (by simpa using h)
    rw [show k + (i + 1) = k + 1 + i by omega]
    exact this
theorem sl_len : ∀ vs : List Value, (∀ v ∈ vs, v.category = 1) → (lg_sl vs).length = vs.length
  | [], _ => rfl
  | w :: vs, hc => by
    have h1 := hc w List.mem_cons_self
    have ih := sl_len vs (fun x hx => hc x (List.mem_cons_of_mem _ hx))
    unfold lg_sl at ih ⊢
    rw [List.flatMap_cons, List.length_append, ih, if_neg (by omega)]
    simp
    omega
/-- a method out of its body's walk -/
theorem Run.of {d : MD} {av : List Value} {h : Hp} {mc ms : Nat} (hy : plainName d.1.cls = true) (hcat : ∀ v ∈ av, v.category = 1) (hlen : av.length ≤ d.2.2.1)
    (body : ∀ (p : Program) (e : Env) (s : State) (m : MethodId) (args : Array Value) (below : List Frame) (meth : Method) (c : Code), Cx g p s m args meth c (Adom h s.heap.size) d.2.1 d.1.cls d.2.2.1 → meth.sig.returnType = d.2.2.2.1 → meth.name = d.1.name →
      GM g p l e (mdR d mc ms) s m args below meth c (Adom h s.heap.size) d.2.2.1 (MQ below (QcR g h s.heap.size P) args s mc ms (Adom h s.heap.size)) 0 h mc ms (ls0 av d.2.2.1) []) : Run l g d av h mc ms P := by
  intro sz
  refine Met.ofW (cc := d.2.1) (maxL := d.2.2.1) (ret := d.2.2.2.1) hy rfl ?_
  intro p e s m args below meth c s₁ B hml hv
  obtain ⟨rfl, rfl, hK, hok⟩ := hv
  have hX : Cx g p s m av.toArray meth c (Adom h s.heap.size) d.2.1 d.1.cls d.2.2.1 := ⟨B.exec, B.bytes, hml, findClass_of_methodNamed B.named, fun w hw => atoms_spec (ws := mdW d) B.pre w (List.mem_cons_of_mem _ hw), hK, B.notSynchronized, fun q hq => Or.inr hq⟩
  have hl := lv_entry av (n := d.2.2.1) (by rw [sl_len av hcat]; exact hlen)
  rw [lg_entry_eq]
  refine body p e s m av.toArray below meth c hX B.returns (name_of_methodNamed B.named B.method).1 s.heap [] 0 0 _ (hok.self _) va_S.rf (by show 0 + mc ≤ mc; omega) (by show 0 + ms ≤ ms; omega) ⟨?_, hl.1, hl.2.1, fun i v hi => ?_⟩
  · unfold ls0
    simp
    omega
  · unfold ls0 at hi
    by_cases hi2 : i < av.length
    · rw [List.getElem?_append_left (by simpa using hi2), List.getElem?_map] at hi
      cases hq : av[i]? with
      | none => rw [hq] at hi; cases hi
      | some w =>
        rw [hq] at hi
        cases hi
        have := lv_args_cat av 0 i v hcat hq
        rw [Nat.zero_add] at this
        exact ⟨hl.2.2 _ this, hcat v (List.mem_of_getElem? hq)⟩
    · rw [List.getElem?_append_right (by simpa using hi2)] at hi
      have := List.mem_of_getElem? hi
      simp at this
end SND6
