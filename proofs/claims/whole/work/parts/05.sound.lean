section SND
variable {p : Program} {l : Launch} {e : Env} {R : Room} {s : State} {m : MethodId} {args : Array Value} {below : List Frame} {meth : Method} {c : Code} {Q : State → Prop}
variable {g : Gm} {A : Nat → Prop} {cc : ByteArray} {own : String} {nL pc : Nat} {K T N : CT}
/-- the method that is walked: its machine, its code, its words, its tables -/
def Cx (g : Gm) (p : Program) (s : State) (m : MethodId) (args : Array Value) (meth : Method) (c : Code) (A : Nat → Prop) (cc : ByteArray) (own : String) (nL : Nat) : Prop :=
  p.tables.exec = Jvm.exec ∧ c.code = cc ∧ c.maxLocals = nL ∧ s.vm.findClass own = some m.cls ∧ (∀ w ∈ UW, w.before args s = true) ∧ KK g s ∧ meth.locks = false ∧ ∀ q, s.heap.size ≤ q → A q
def GM (g : Gm) (p : Program) (l : Launch) (e : Env) (R : Room) (s : State) (m : MethodId) (args : Array Value) (below : List Frame) (meth : Method) (c : Code) (A : Nat → Prop) (nL : Nat) (Q : State → Prop) (pc : Nat) : CT := fun h cb sb ls st =>
  ∀ (H : Heap) (locs : List Loc) (cells slots : Nat) (arr : Array Slot), Hok g A H h → va_S A s.heap H locs → cells + cb ≤ R.cells → slots + sb ≤ R.slots → lh arr nL ls → W p l e R s m args below meth c H locs cells slots Q (F0 m pc arr st)
def Sd (g : Gm) (p : Program) (l : Launch) (e : Env) (R : Room) (s : State) (m : MethodId) (args : Array Value) (below : List Frame) (meth : Method) (c : Code) (A : Nat → Prop) (nL : Nat) (Q : State → Prop) (K : CT) (pc : Nat) : Prop :=
  ∀ (h : Hp) (cb sb : Nat) (ls : LocS) (st : List Value), K h cb sb ls st → GM g p l e R s m args below meth c A nL Q pc h cb sb ls st
theorem Sd.rf : Sd g p l e R s m args below meth c A nL Q (GM g p l e R s m args below meth c A nL Q pc) pc := fun _ _ _ _ _ H => H
theorem s_iload_n (X : Cx g p s m args meth c A cc own nL) {k : Fin 4} {i : Nat} (d : decode cc pc = .ok (.iload_n k, 1)) (hi : (k : Nat) = i) (nx : Sd g p l e R s m args below meth c A nL Q K (pc + 1)) : Sd g p l e R s m args below meth c A nL Q (oILd i K) pc := by
  intro h cb sb ls st H HH locs cells slots arr hok hS hc hs hl
  obtain ⟨hx, hb, hml, hown, hts, hK, hlk, hA⟩ := X
  unfold oILd at H
  split at H
  next x hx0 => exact lv_iload_n hx hb d hi (hl.2.2.2 _ _ hx0).1 (nx _ _ _ _ _ H HH locs cells slots arr hok hS hc hs hl)
  next => exact H.elim
theorem s_iload (X : Cx g p s m args meth c A cc own nL) {i : Nat} (d : decode cc pc = .ok (.iload i, 2)) (nx : Sd g p l e R s m args below meth c A nL Q K (pc + 2)) : Sd g p l e R s m args below meth c A nL Q (oILd i K) pc := by
  intro h cb sb ls st H HH locs cells slots arr hok hS hc hs hl
  obtain ⟨hx, hb, hml, hown, hts, hK, hlk, hA⟩ := X
  unfold oILd at H
  split at H
  next x hx0 => exact lv_iload hx hb d (hl.2.2.2 _ _ hx0).1 (nx _ _ _ _ _ H HH locs cells slots arr hok hS hc hs hl)
  next => exact H.elim
theorem s_aload_n (X : Cx g p s m args meth c A cc own nL) {k : Fin 4} {i : Nat} (d : decode cc pc = .ok (.aload_n k, 1)) (hi : (k : Nat) = i) (nx : Sd g p l e R s m args below meth c A nL Q K (pc + 1)) : Sd g p l e R s m args below meth c A nL Q (oALd i K) pc := by
  intro h cb sb ls st H HH locs cells slots arr hok hS hc hs hl
  obtain ⟨hx, hb, hml, hown, hts, hK, hlk, hA⟩ := X
  unfold oALd at H
  split at H
  next x hx0 => exact lv_aload_n hx hb d hi (hl.2.2.2 _ _ hx0).1 (nx _ _ _ _ _ H HH locs cells slots arr hok hS hc hs hl)
  next => exact H.elim
theorem s_aload (X : Cx g p s m args meth c A cc own nL) {i : Nat} (d : decode cc pc = .ok (.aload i, 2)) (nx : Sd g p l e R s m args below meth c A nL Q K (pc + 2)) : Sd g p l e R s m args below meth c A nL Q (oALd i K) pc := by
  intro h cb sb ls st H HH locs cells slots arr hok hS hc hs hl
  obtain ⟨hx, hb, hml, hown, hts, hK, hlk, hA⟩ := X
  unfold oALd at H
  split at H
  next x hx0 => exact lv_aload hx hb d (hl.2.2.2 _ _ hx0).1 (nx _ _ _ _ _ H HH locs cells slots arr hok hS hc hs hl)
  next => exact H.elim
theorem s_istore_n (X : Cx g p s m args meth c A cc own nL) {k : Fin 4} {i : Nat} (d : decode cc pc = .ok (.istore_n k, 1)) (hi : (k : Nat) = i) (hn : i < nL) (nx : Sd g p l e R s m args below meth c A nL Q K (pc + 1)) : Sd g p l e R s m args below meth c A nL Q (oISt i K) pc := by
  intro h cb sb ls st H HH locs cells slots arr hok hS hc hs hl
  obtain ⟨hx, hb, hml, hown, hts, hK, hlk, hA⟩ := X
  unfold oISt at H
  split at H
  next x r => exact lv_istore_n hx hb d hi hl.has hn rfl (fun arr2 hl2 => nx _ _ _ _ _ H HH locs cells slots arr2 hok hS hc hs (hl.set hn rfl hl2))
  next => exact H.elim
theorem s_istore (X : Cx g p s m args meth c A cc own nL) {i : Nat} (d : decode cc pc = .ok (.istore i, 2)) (hn : i < nL) (nx : Sd g p l e R s m args below meth c A nL Q K (pc + 2)) : Sd g p l e R s m args below meth c A nL Q (oISt i K) pc := by
  intro h cb sb ls st H HH locs cells slots arr hok hS hc hs hl
  obtain ⟨hx, hb, hml, hown, hts, hK, hlk, hA⟩ := X
  unfold oISt at H
  split at H
  next x r => exact lv_istore hx hb d hl.has hn rfl (fun arr2 hl2 => nx _ _ _ _ _ H HH locs cells slots arr2 hok hS hc hs (hl.set hn rfl hl2))
  next => exact H.elim
theorem s_astore_n (X : Cx g p s m args meth c A cc own nL) {k : Fin 4} {i : Nat} (d : decode cc pc = .ok (.astore_n k, 1)) (hi : (k : Nat) = i) (hn : i < nL) (nx : Sd g p l e R s m args below meth c A nL Q K (pc + 1)) : Sd g p l e R s m args below meth c A nL Q (oASt i K) pc := by
  intro h cb sb ls st H HH locs cells slots arr hok hS hc hs hl
  obtain ⟨hx, hb, hml, hown, hts, hK, hlk, hA⟩ := X
  unfold oASt at H
  split at H
  next x r => exact lv_astore_n hx hb d hi hl.has hn rfl (fun arr2 hl2 => nx _ _ _ _ _ H HH locs cells slots arr2 hok hS hc hs (hl.set hn rfl hl2))
  next => exact H.elim
theorem s_astore (X : Cx g p s m args meth c A cc own nL) {i : Nat} (d : decode cc pc = .ok (.astore i, 2)) (hn : i < nL) (nx : Sd g p l e R s m args below meth c A nL Q K (pc + 2)) : Sd g p l e R s m args below meth c A nL Q (oASt i K) pc := by
  intro h cb sb ls st H HH locs cells slots arr hok hS hc hs hl
  obtain ⟨hx, hb, hml, hown, hts, hK, hlk, hA⟩ := X
  unfold oASt at H
  split at H
  next x r => exact lv_astore hx hb d hl.has hn rfl (fun arr2 hl2 => nx _ _ _ _ _ H HH locs cells slots arr2 hok hS hc hs (hl.set hn rfl hl2))
  next => exact H.elim
theorem s_iinc (X : Cx g p s m args meth c A cc own nL) {i : Nat} {n : Int} {v : Int32} (d : decode cc pc = .ok (.iinc i n, 3)) (hv : Int32.ofInt n = v) (hn : i < nL) (nx : Sd g p l e R s m args below meth c A nL Q K (pc + 3)) : Sd g p l e R s m args below meth c A nL Q (oInc i v K) pc := by
  intro h cb sb ls st H HH locs cells slots arr hok hS hc hs hl
  obtain ⟨hx, hb, hml, hown, hts, hK, hlk, hA⟩ := X
  subst hv
  unfold oInc at H
  split at H
  next x hx0 =>
    obtain ⟨k, hk⟩ := List.getElem?_of_mem (lpr_mem.mpr hx0 : (i, Value.int x) ∈ lpr ls)
    exact lv_iinc hx hb d hl.has hk rfl hn rfl (fun arr2 hl2 => nx _ _ _ _ _ H HH locs cells slots arr2 hok hS hc hs (hl.set hn rfl hl2))
  next => exact H.elim
theorem s_iconst (X : Cx g p s m args meth c A cc own nL) {n : Int} {v : Int32} (d : decode cc pc = .ok (.iconst n, 1)) (hv : Int32.ofInt n = v) (nx : Sd g p l e R s m args below meth c A nL Q K (pc + 1)) : Sd g p l e R s m args below meth c A nL Q (oPush (.int v) K) pc := by
  intro h cb sb ls st H HH locs cells slots arr hok hS hc hs hl
  obtain ⟨hx, hb, hml, hown, hts, hK, hlk, hA⟩ := X
  exact lv_iconst hx hb d hv (nx _ _ _ _ _ H HH locs cells slots arr hok hS hc hs hl)
theorem s_bipush (X : Cx g p s m args meth c A cc own nL) {n : Int} {v : Int32} (d : decode cc pc = .ok (.bipush n, 2)) (hv : (Int8.ofInt n).toInt32 = v) (nx : Sd g p l e R s m args below meth c A nL Q K (pc + 2)) : Sd g p l e R s m args below meth c A nL Q (oPush (.int v) K) pc := by
  intro h cb sb ls st H HH locs cells slots arr hok hS hc hs hl
  obtain ⟨hx, hb, hml, hown, hts, hK, hlk, hA⟩ := X
  exact lv_bipush hx hb d hv (nx _ _ _ _ _ H HH locs cells slots arr hok hS hc hs hl)
theorem s_sipush (X : Cx g p s m args meth c A cc own nL) {n : Int} {v : Int32} (d : decode cc pc = .ok (.sipush n, 3)) (hv : (Int16.ofInt n).toInt32 = v) (nx : Sd g p l e R s m args below meth c A nL Q K (pc + 3)) : Sd g p l e R s m args below meth c A nL Q (oPush (.int v) K) pc := by
  intro h cb sb ls st H HH locs cells slots arr hok hS hc hs hl
  obtain ⟨hx, hb, hml, hown, hts, hK, hlk, hA⟩ := X
  exact lv_sipush hx hb d hv (nx _ _ _ _ _ H HH locs cells slots arr hok hS hc hs hl)
theorem s_lconst (X : Cx g p s m args meth c A cc own nL) {n : Fin 2} {v : Int64} (d : decode cc pc = .ok (.lconst n, 1)) (hv : Int64.ofNat (n : Nat) = v) (nx : Sd g p l e R s m args below meth c A nL Q K (pc + 1)) : Sd g p l e R s m args below meth c A nL Q (oPush (.long v) K) pc := by
  intro h cb sb ls st H HH locs cells slots arr hok hS hc hs hl
  obtain ⟨hx, hb, hml, hown, hts, hK, hlk, hA⟩ := X
  exact lv_lconst hx hb d hv (nx _ _ _ _ _ H HH locs cells slots arr hok hS hc hs hl)
theorem s_null (X : Cx g p s m args meth c A cc own nL) (d : decode cc pc = .ok (.aconst_null, 1)) (nx : Sd g p l e R s m args below meth c A nL Q K (pc + 1)) : Sd g p l e R s m args below meth c A nL Q (oPush .null K) pc := by
  intro h cb sb ls st H HH locs cells slots arr hok hS hc hs hl
  obtain ⟨hx, hb, hml, hown, hts, hK, hlk, hA⟩ := X
  exact lv_null hx hb d (nx _ _ _ _ _ H HH locs cells slots arr hok hS hc hs hl)
theorem s_ldc2 (X : Cx g p s m args meth c A cc own nL) {index : Nat} {v : Int64} (d : decode cc pc = .ok (.ldc2_w index, 3)) (hw : Cond.constantLong own index v ∈ UW) (nx : Sd g p l e R s m args below meth c A nL Q K (pc + 3)) : Sd g p l e R s m args below meth c A nL Q (oPush (.long v) K) pc := by
  intro h cb sb ls st H HH locs cells slots arr hok hS hc hs hl
  obtain ⟨hx, hb, hml, hown, hts, hK, hlk, hA⟩ := X
  exact lv_ldc2 hx hb hown (hts _ hw) d (nx _ _ _ _ _ H HH locs cells slots arr hok hS hc hs hl)
theorem s_iadd (X : Cx g p s m args meth c A cc own nL) (d : decode cc pc = .ok (.iadd, 1)) (nx : Sd g p l e R s m args below meth c A nL Q K (pc + 1)) : Sd g p l e R s m args below meth c A nL Q (oBin (fun x y => x + y) K) pc := by
  intro h cb sb ls st H HH locs cells slots arr hok hS hc hs hl
  obtain ⟨hx, hb, hml, hown, hts, hK, hlk, hA⟩ := X
  unfold oBin at H
  split at H
  next y x r => exact lv_iadd hx hb d (nx _ _ _ _ _ H HH locs cells slots arr hok hS hc hs hl)
  next => exact H.elim
theorem s_isub (X : Cx g p s m args meth c A cc own nL) (d : decode cc pc = .ok (.isub, 1)) (nx : Sd g p l e R s m args below meth c A nL Q K (pc + 1)) : Sd g p l e R s m args below meth c A nL Q (oBin (fun x y => x - y) K) pc := by
  intro h cb sb ls st H HH locs cells slots arr hok hS hc hs hl
  obtain ⟨hx, hb, hml, hown, hts, hK, hlk, hA⟩ := X
  unfold oBin at H
  split at H
  next y x r => exact lv_isub hx hb d (nx _ _ _ _ _ H HH locs cells slots arr hok hS hc hs hl)
  next => exact H.elim
theorem s_imul (X : Cx g p s m args meth c A cc own nL) (d : decode cc pc = .ok (.imul, 1)) (nx : Sd g p l e R s m args below meth c A nL Q K (pc + 1)) : Sd g p l e R s m args below meth c A nL Q (oBin (fun x y => x * y) K) pc := by
  intro h cb sb ls st H HH locs cells slots arr hok hS hc hs hl
  obtain ⟨hx, hb, hml, hown, hts, hK, hlk, hA⟩ := X
  unfold oBin at H
  split at H
  next y x r => exact lv_imul hx hb d (nx _ _ _ _ _ H HH locs cells slots arr hok hS hc hs hl)
  next => exact H.elim
theorem s_iand (X : Cx g p s m args meth c A cc own nL) (d : decode cc pc = .ok (.iand, 1)) (nx : Sd g p l e R s m args below meth c A nL Q K (pc + 1)) : Sd g p l e R s m args below meth c A nL Q (oBin (fun x y => x &&& y) K) pc := by
  intro h cb sb ls st H HH locs cells slots arr hok hS hc hs hl
  obtain ⟨hx, hb, hml, hown, hts, hK, hlk, hA⟩ := X
  unfold oBin at H
  split at H
  next y x r => exact lv_iand hx hb d (nx _ _ _ _ _ H HH locs cells slots arr hok hS hc hs hl)
  next => exact H.elim
theorem s_ior (X : Cx g p s m args meth c A cc own nL) (d : decode cc pc = .ok (.ior, 1)) (nx : Sd g p l e R s m args below meth c A nL Q K (pc + 1)) : Sd g p l e R s m args below meth c A nL Q (oBin (fun x y => x ||| y) K) pc := by
  intro h cb sb ls st H HH locs cells slots arr hok hS hc hs hl
  obtain ⟨hx, hb, hml, hown, hts, hK, hlk, hA⟩ := X
  unfold oBin at H
  split at H
  next y x r => exact lv_ior hx hb d (nx _ _ _ _ _ H HH locs cells slots arr hok hS hc hs hl)
  next => exact H.elim
theorem s_ixor (X : Cx g p s m args meth c A cc own nL) (d : decode cc pc = .ok (.ixor, 1)) (nx : Sd g p l e R s m args below meth c A nL Q K (pc + 1)) : Sd g p l e R s m args below meth c A nL Q (oBin (fun x y => x ^^^ y) K) pc := by
  intro h cb sb ls st H HH locs cells slots arr hok hS hc hs hl
  obtain ⟨hx, hb, hml, hown, hts, hK, hlk, hA⟩ := X
  unfold oBin at H
  split at H
  next y x r => exact lv_ixor hx hb d (nx _ _ _ _ _ H HH locs cells slots arr hok hS hc hs hl)
  next => exact H.elim
theorem s_ishl (X : Cx g p s m args meth c A cc own nL) (d : decode cc pc = .ok (.ishl, 1)) (nx : Sd g p l e R s m args below meth c A nL Q K (pc + 1)) : Sd g p l e R s m args below meth c A nL Q (oBin (fun x y => x <<< (y &&& 31)) K) pc := by
  intro h cb sb ls st H HH locs cells slots arr hok hS hc hs hl
  obtain ⟨hx, hb, hml, hown, hts, hK, hlk, hA⟩ := X
  unfold oBin at H
  split at H
  next y x r => exact lv_ishl hx hb d (nx _ _ _ _ _ H HH locs cells slots arr hok hS hc hs hl)
  next => exact H.elim
theorem s_ishr (X : Cx g p s m args meth c A cc own nL) (d : decode cc pc = .ok (.ishr, 1)) (nx : Sd g p l e R s m args below meth c A nL Q K (pc + 1)) : Sd g p l e R s m args below meth c A nL Q (oBin (fun x y => x >>> (y &&& 31)) K) pc := by
  intro h cb sb ls st H HH locs cells slots arr hok hS hc hs hl
  obtain ⟨hx, hb, hml, hown, hts, hK, hlk, hA⟩ := X
  unfold oBin at H
  split at H
  next y x r => exact lv_ishr hx hb d (nx _ _ _ _ _ H HH locs cells slots arr hok hS hc hs hl)
  next => exact H.elim
theorem s_idiv (X : Cx g p s m args meth c A cc own nL) (d : decode cc pc = .ok (.idiv, 1)) (nx : Sd g p l e R s m args below meth c A nL Q K (pc + 1)) : Sd g p l e R s m args below meth c A nL Q (oBinZ (fun x y => x / y) K) pc := by
  intro h cb sb ls st H HH locs cells slots arr hok hS hc hs hl
  obtain ⟨hx, hb, hml, hown, hts, hK, hlk, hA⟩ := X
  unfold oBinZ at H
  split at H
  next y x r => exact lv_idiv hx hb d H.1 (nx _ _ _ _ _ H.2 HH locs cells slots arr hok hS hc hs hl)
  next => exact H.elim
theorem s_irem (X : Cx g p s m args meth c A cc own nL) (d : decode cc pc = .ok (.irem, 1)) (nx : Sd g p l e R s m args below meth c A nL Q K (pc + 1)) : Sd g p l e R s m args below meth c A nL Q (oBinZ (fun x y => x - x / y * y) K) pc := by
  intro h cb sb ls st H HH locs cells slots arr hok hS hc hs hl
  obtain ⟨hx, hb, hml, hown, hts, hK, hlk, hA⟩ := X
  unfold oBinZ at H
  split at H
  next y x r => exact lv_irem hx hb d H.1 (nx _ _ _ _ _ H.2 HH locs cells slots arr hok hS hc hs hl)
  next => exact H.elim
theorem s_i2b (X : Cx g p s m args meth c A cc own nL) (d : decode cc pc = .ok (.i2b, 1)) (nx : Sd g p l e R s m args below meth c A nL Q K (pc + 1)) : Sd g p l e R s m args below meth c A nL Q (oUn (fun x => x.toInt8.toInt32) K) pc := by
  intro h cb sb ls st H HH locs cells slots arr hok hS hc hs hl
  obtain ⟨hx, hb, hml, hown, hts, hK, hlk, hA⟩ := X
  unfold oUn at H
  split at H
  next x r => exact lv_i2b hx hb d rfl (nx _ _ _ _ _ H HH locs cells slots arr hok hS hc hs hl)
  next => exact H.elim
theorem s_i2s (X : Cx g p s m args meth c A cc own nL) (d : decode cc pc = .ok (.i2s, 1)) (nx : Sd g p l e R s m args below meth c A nL Q K (pc + 1)) : Sd g p l e R s m args below meth c A nL Q (oUn (fun x => x.toInt16.toInt32) K) pc := by
  intro h cb sb ls st H HH locs cells slots arr hok hS hc hs hl
  obtain ⟨hx, hb, hml, hown, hts, hK, hlk, hA⟩ := X
  unfold oUn at H
  split at H
  next x r => exact lv_i2s hx hb d rfl (nx _ _ _ _ _ H HH locs cells slots arr hok hS hc hs hl)
  next => exact H.elim
theorem s_i2l (X : Cx g p s m args meth c A cc own nL) (d : decode cc pc = .ok (.i2l, 1)) (nx : Sd g p l e R s m args below meth c A nL Q K (pc + 1)) : Sd g p l e R s m args below meth c A nL Q (oI2L K) pc := by
  intro h cb sb ls st H HH locs cells slots arr hok hS hc hs hl
  obtain ⟨hx, hb, hml, hown, hts, hK, hlk, hA⟩ := X
  unfold oI2L at H
  split at H
  next x r => exact lv_i2l hx hb d rfl (nx _ _ _ _ _ H HH locs cells slots arr hok hS hc hs hl)
  next => exact H.elim
theorem s_ladd (X : Cx g p s m args meth c A cc own nL) (d : decode cc pc = .ok (.ladd, 1)) (nx : Sd g p l e R s m args below meth c A nL Q K (pc + 1)) : Sd g p l e R s m args below meth c A nL Q (oLAdd K) pc := by
  intro h cb sb ls st H HH locs cells slots arr hok hS hc hs hl
  obtain ⟨hx, hb, hml, hown, hts, hK, hlk, hA⟩ := X
  unfold oLAdd at H
  split at H
  next y x r => exact lv_ladd hx hb d (nx _ _ _ _ _ H HH locs cells slots arr hok hS hc hs hl)
  next => exact H.elim
theorem s_lcmp (X : Cx g p s m args meth c A cc own nL) (d : decode cc pc = .ok (.lcmp, 1)) (nx : Sd g p l e R s m args below meth c A nL Q K (pc + 1)) : Sd g p l e R s m args below meth c A nL Q (oLCmp K) pc := by
  intro h cb sb ls st H HH locs cells slots arr hok hS hc hs hl
  obtain ⟨hx, hb, hml, hown, hts, hK, hlk, hA⟩ := X
  unfold oLCmp at H
  split at H
  next y x r => exact W.lcmp hx hb d (nx _ _ _ _ _ H HH locs cells slots arr hok hS hc hs hl)
  next => exact H.elim
theorem s_dup (X : Cx g p s m args meth c A cc own nL) (d : decode cc pc = .ok (.dup, 1)) (nx : Sd g p l e R s m args below meth c A nL Q K (pc + 1)) : Sd g p l e R s m args below meth c A nL Q (oDup K) pc := by
  intro h cb sb ls st H HH locs cells slots arr hok hS hc hs hl
  obtain ⟨hx, hb, hml, hown, hts, hK, hlk, hA⟩ := X
  unfold oDup at H
  split at H
  next x r => exact lv_dup hx hb d rfl (nx _ _ _ _ _ H HH locs cells slots arr hok hS hc hs hl)
  next x r => exact lv_dup hx hb d rfl (nx _ _ _ _ _ H HH locs cells slots arr hok hS hc hs hl)
  next => exact H.elim
theorem s_dup2 (X : Cx g p s m args meth c A cc own nL) (d : decode cc pc = .ok (.dup2, 1)) (nx : Sd g p l e R s m args below meth c A nL Q K (pc + 1)) : Sd g p l e R s m args below meth c A nL Q (oDup2 K) pc := by
  intro h cb sb ls st H HH locs cells slots arr hok hS hc hs hl
  obtain ⟨hx, hb, hml, hown, hts, hK, hlk, hA⟩ := X
  unfold oDup2 at H
  split at H
  next x y r => exact lv_dup2_11 hx hb d rfl rfl (nx _ _ _ _ _ H HH locs cells slots arr hok hS hc hs hl)
  next => exact H.elim
theorem s_goto (X : Cx g p s m args meth c A cc own nL) {off : Int} {tgt : Nat} (d : decode cc pc = .ok (.goto off, 3)) (ht : (pc : Int) + off = (tgt : Int)) (nx : Sd g p l e R s m args below meth c A nL Q K tgt) : Sd g p l e R s m args below meth c A nL Q (oGo K) pc := by
  intro h cb sb ls st H HH locs cells slots arr hok hS hc hs hl
  obtain ⟨hx, hb, hml, hown, hts, hK, hlk, hA⟩ := X
  exact lv_goto hx hb d ht (nx _ _ _ _ _ H HH locs cells slots arr hok hS hc hs hl)
theorem s_fall (nx : Sd g p l e R s m args below meth c A nL Q K pc) : Sd g p l e R s m args below meth c A nL Q (oGo K) pc := nx
theorem s_ifnonnull (X : Cx g p s m args meth c A cc own nL) {off : Int} {tgt : Nat} (d : decode cc pc = .ok (.ifnonnull off, 3)) (ht : (pc : Int) + off = (tgt : Int)) (nt : Sd g p l e R s m args below meth c A nL Q T tgt) (nn : Sd g p l e R s m args below meth c A nL Q N (pc + 3)) : Sd g p l e R s m args below meth c A nL Q (oNonNull T N) pc := by
  intro h cb sb ls st H HH locs cells slots arr hok hS hc hs hl
  obtain ⟨hx, hb, hml, hown, hts, hK, hlk, hA⟩ := X
  unfold oNonNull at H
  split at H
  next x r => exact lv_ifnonnull hx hb d ht (nt _ _ _ _ _ H HH locs cells slots arr hok hS hc hs hl)
  next r => exact lv_ifnonnullN hx hb d (nn _ _ _ _ _ H HH locs cells slots arr hok hS hc hs hl)
  next => exact H.elim
theorem s_icmp_eq (X : Cx g p s m args meth c A cc own nL) {off : Int} {tgt : Nat} (d : decode cc pc = .ok (.if_icmp .eq off, 3)) (ht : (pc : Int) + off = (tgt : Int)) (nt : Sd g p l e R s m args below meth c A nL Q T tgt) (nn : Sd g p l e R s m args below meth c A nL Q N (pc + 3)) : Sd g p l e R s m args below meth c A nL Q (oCmp (fun x y => x = y) T N) pc := by
  intro h cb sb ls st H HH locs cells slots arr hok hS hc hs hl
  obtain ⟨hx, hb, hml, hown, hts, hK, hlk, hA⟩ := X
  unfold oCmp at H
  split at H
  next y x r => exact lv_icmp_eq hx hb d ht (fun q => nt _ _ _ _ _ (H.1 q) HH locs cells slots arr hok hS hc hs hl) (fun q => nn _ _ _ _ _ (H.2 q) HH locs cells slots arr hok hS hc hs hl)
  next => exact H.elim
theorem s_if_eq (X : Cx g p s m args meth c A cc own nL) {off : Int} {tgt : Nat} (d : decode cc pc = .ok (.ifCond .eq off, 3)) (ht : (pc : Int) + off = (tgt : Int)) (nt : Sd g p l e R s m args below meth c A nL Q T tgt) (nn : Sd g p l e R s m args below meth c A nL Q N (pc + 3)) : Sd g p l e R s m args below meth c A nL Q (oIf (fun x => x = 0) T N) pc := by
  intro h cb sb ls st H HH locs cells slots arr hok hS hc hs hl
  obtain ⟨hx, hb, hml, hown, hts, hK, hlk, hA⟩ := X
  unfold oIf at H
  split at H
  next x r => exact lv_if_eq hx hb d ht (fun q => nt _ _ _ _ _ (H.1 q) HH locs cells slots arr hok hS hc hs hl) (fun q => nn _ _ _ _ _ (H.2 q) HH locs cells slots arr hok hS hc hs hl)
  next => exact H.elim
theorem s_icmp_lt (X : Cx g p s m args meth c A cc own nL) {off : Int} {tgt : Nat} (d : decode cc pc = .ok (.if_icmp .lt off, 3)) (ht : (pc : Int) + off = (tgt : Int)) (nt : Sd g p l e R s m args below meth c A nL Q T tgt) (nn : Sd g p l e R s m args below meth c A nL Q N (pc + 3)) : Sd g p l e R s m args below meth c A nL Q (oCmp (fun x y => x < y) T N) pc := by
  intro h cb sb ls st H HH locs cells slots arr hok hS hc hs hl
  obtain ⟨hx, hb, hml, hown, hts, hK, hlk, hA⟩ := X
  unfold oCmp at H
  split at H
  next y x r => exact lv_icmp_lt hx hb d ht (fun q => nt _ _ _ _ _ (H.1 q) HH locs cells slots arr hok hS hc hs hl) (fun q => nn _ _ _ _ _ (H.2 q) HH locs cells slots arr hok hS hc hs hl)
  next => exact H.elim
theorem s_if_lt (X : Cx g p s m args meth c A cc own nL) {off : Int} {tgt : Nat} (d : decode cc pc = .ok (.ifCond .lt off, 3)) (ht : (pc : Int) + off = (tgt : Int)) (nt : Sd g p l e R s m args below meth c A nL Q T tgt) (nn : Sd g p l e R s m args below meth c A nL Q N (pc + 3)) : Sd g p l e R s m args below meth c A nL Q (oIf (fun x => x < 0) T N) pc := by
  intro h cb sb ls st H HH locs cells slots arr hok hS hc hs hl
  obtain ⟨hx, hb, hml, hown, hts, hK, hlk, hA⟩ := X
  unfold oIf at H
  split at H
  next x r => exact lv_if_lt hx hb d ht (fun q => nt _ _ _ _ _ (H.1 q) HH locs cells slots arr hok hS hc hs hl) (fun q => nn _ _ _ _ _ (H.2 q) HH locs cells slots arr hok hS hc hs hl)
  next => exact H.elim
theorem s_icmp_ge (X : Cx g p s m args meth c A cc own nL) {off : Int} {tgt : Nat} (d : decode cc pc = .ok (.if_icmp .ge off, 3)) (ht : (pc : Int) + off = (tgt : Int)) (nt : Sd g p l e R s m args below meth c A nL Q T tgt) (nn : Sd g p l e R s m args below meth c A nL Q N (pc + 3)) : Sd g p l e R s m args below meth c A nL Q (oCmp (fun x y => y ≤ x) T N) pc := by
  intro h cb sb ls st H HH locs cells slots arr hok hS hc hs hl
  obtain ⟨hx, hb, hml, hown, hts, hK, hlk, hA⟩ := X
  unfold oCmp at H
  split at H
  next y x r => exact lv_icmp_ge hx hb d ht (fun q => nt _ _ _ _ _ (H.1 q) HH locs cells slots arr hok hS hc hs hl) (fun q => nn _ _ _ _ _ (H.2 q) HH locs cells slots arr hok hS hc hs hl)
  next => exact H.elim
theorem s_if_ge (X : Cx g p s m args meth c A cc own nL) {off : Int} {tgt : Nat} (d : decode cc pc = .ok (.ifCond .ge off, 3)) (ht : (pc : Int) + off = (tgt : Int)) (nt : Sd g p l e R s m args below meth c A nL Q T tgt) (nn : Sd g p l e R s m args below meth c A nL Q N (pc + 3)) : Sd g p l e R s m args below meth c A nL Q (oIf (fun x => 0 ≤ x) T N) pc := by
  intro h cb sb ls st H HH locs cells slots arr hok hS hc hs hl
  obtain ⟨hx, hb, hml, hown, hts, hK, hlk, hA⟩ := X
  unfold oIf at H
  split at H
  next x r => exact lv_if_ge hx hb d ht (fun q => nt _ _ _ _ _ (H.1 q) HH locs cells slots arr hok hS hc hs hl) (fun q => nn _ _ _ _ _ (H.2 q) HH locs cells slots arr hok hS hc hs hl)
  next => exact H.elim
theorem s_icmp_gt (X : Cx g p s m args meth c A cc own nL) {off : Int} {tgt : Nat} (d : decode cc pc = .ok (.if_icmp .gt off, 3)) (ht : (pc : Int) + off = (tgt : Int)) (nt : Sd g p l e R s m args below meth c A nL Q T tgt) (nn : Sd g p l e R s m args below meth c A nL Q N (pc + 3)) : Sd g p l e R s m args below meth c A nL Q (oCmp (fun x y => y < x) T N) pc := by
  intro h cb sb ls st H HH locs cells slots arr hok hS hc hs hl
  obtain ⟨hx, hb, hml, hown, hts, hK, hlk, hA⟩ := X
  unfold oCmp at H
  split at H
  next y x r => exact lv_icmp_gt hx hb d ht (fun q => nt _ _ _ _ _ (H.1 q) HH locs cells slots arr hok hS hc hs hl) (fun q => nn _ _ _ _ _ (H.2 q) HH locs cells slots arr hok hS hc hs hl)
  next => exact H.elim
theorem s_if_gt (X : Cx g p s m args meth c A cc own nL) {off : Int} {tgt : Nat} (d : decode cc pc = .ok (.ifCond .gt off, 3)) (ht : (pc : Int) + off = (tgt : Int)) (nt : Sd g p l e R s m args below meth c A nL Q T tgt) (nn : Sd g p l e R s m args below meth c A nL Q N (pc + 3)) : Sd g p l e R s m args below meth c A nL Q (oIf (fun x => 0 < x) T N) pc := by
  intro h cb sb ls st H HH locs cells slots arr hok hS hc hs hl
  obtain ⟨hx, hb, hml, hown, hts, hK, hlk, hA⟩ := X
  unfold oIf at H
  split at H
  next x r => exact lv_if_gt hx hb d ht (fun q => nt _ _ _ _ _ (H.1 q) HH locs cells slots arr hok hS hc hs hl) (fun q => nn _ _ _ _ _ (H.2 q) HH locs cells slots arr hok hS hc hs hl)
  next => exact H.elim
theorem s_icmp_le (X : Cx g p s m args meth c A cc own nL) {off : Int} {tgt : Nat} (d : decode cc pc = .ok (.if_icmp .le off, 3)) (ht : (pc : Int) + off = (tgt : Int)) (nt : Sd g p l e R s m args below meth c A nL Q T tgt) (nn : Sd g p l e R s m args below meth c A nL Q N (pc + 3)) : Sd g p l e R s m args below meth c A nL Q (oCmp (fun x y => x ≤ y) T N) pc := by
  intro h cb sb ls st H HH locs cells slots arr hok hS hc hs hl
  obtain ⟨hx, hb, hml, hown, hts, hK, hlk, hA⟩ := X
  unfold oCmp at H
  split at H
  next y x r => exact lv_icmp_le hx hb d ht (fun q => nt _ _ _ _ _ (H.1 q) HH locs cells slots arr hok hS hc hs hl) (fun q => nn _ _ _ _ _ (H.2 q) HH locs cells slots arr hok hS hc hs hl)
  next => exact H.elim
theorem s_if_le (X : Cx g p s m args meth c A cc own nL) {off : Int} {tgt : Nat} (d : decode cc pc = .ok (.ifCond .le off, 3)) (ht : (pc : Int) + off = (tgt : Int)) (nt : Sd g p l e R s m args below meth c A nL Q T tgt) (nn : Sd g p l e R s m args below meth c A nL Q N (pc + 3)) : Sd g p l e R s m args below meth c A nL Q (oIf (fun x => x ≤ 0) T N) pc := by
  intro h cb sb ls st H HH locs cells slots arr hok hS hc hs hl
  obtain ⟨hx, hb, hml, hown, hts, hK, hlk, hA⟩ := X
  unfold oIf at H
  split at H
  next x r => exact lv_if_le hx hb d ht (fun q => nt _ _ _ _ _ (H.1 q) HH locs cells slots arr hok hS hc hs hl) (fun q => nn _ _ _ _ _ (H.2 q) HH locs cells slots arr hok hS hc hs hl)
  next => exact H.elim
theorem s_icmp_ne (X : Cx g p s m args meth c A cc own nL) {off : Int} {tgt : Nat} (d : decode cc pc = .ok (.if_icmp .ne off, 3)) (ht : (pc : Int) + off = (tgt : Int)) (nt : Sd g p l e R s m args below meth c A nL Q T tgt) (nn : Sd g p l e R s m args below meth c A nL Q N (pc + 3)) : Sd g p l e R s m args below meth c A nL Q (oCmp (fun x y => x = y) N T) pc := by
  intro h cb sb ls st H HH locs cells slots arr hok hS hc hs hl
  obtain ⟨hx, hb, hml, hown, hts, hK, hlk, hA⟩ := X
  unfold oCmp at H
  split at H
  next y x r => exact lv_icmp_ne hx hb d ht (fun q => nt _ _ _ _ _ (H.2 q) HH locs cells slots arr hok hS hc hs hl) (fun q => nn _ _ _ _ _ (H.1 q) HH locs cells slots arr hok hS hc hs hl)
  next => exact H.elim
theorem s_if_ne (X : Cx g p s m args meth c A cc own nL) {off : Int} {tgt : Nat} (d : decode cc pc = .ok (.ifCond .ne off, 3)) (ht : (pc : Int) + off = (tgt : Int)) (nt : Sd g p l e R s m args below meth c A nL Q T tgt) (nn : Sd g p l e R s m args below meth c A nL Q N (pc + 3)) : Sd g p l e R s m args below meth c A nL Q (oIf (fun x => x = 0) N T) pc := by
  intro h cb sb ls st H HH locs cells slots arr hok hS hc hs hl
  obtain ⟨hx, hb, hml, hown, hts, hK, hlk, hA⟩ := X
  unfold oIf at H
  split at H
  next x r => exact lv_if_ne hx hb d ht (fun q => nt _ _ _ _ _ (H.2 q) HH locs cells slots arr hok hS hc hs hl) (fun q => nn _ _ _ _ _ (H.1 q) HH locs cells slots arr hok hS hc hs hl)
  next => exact H.elim
end SND
