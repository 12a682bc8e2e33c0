/-! ===== the words that every method has ===== -/
def UW : List Cond := lw_tbl.filter goodWord
theorem UW_good {big : List Cond} (h : ∀ w ∈ UW, w ∈ big) : GoodIn big UW := fun w hw => ⟨h w hw, good_of_word (List.mem_filter.mp hw).2⟩
theorem UW_in {w : Cond} (i : Nat) (h : tables_1[i]? = some w) (hg : goodWord w = true) : w ∈ UW := List.mem_filter.mpr ⟨List.mem_append_right _ (List.mem_of_getElem? h), hg⟩
theorem UW_pr {y : MethodName} {n : Nat} (i : Nat) (h : lw_privs[i]? = some (y, n)) (hg : goodWord (Cond.selects y.cls y y) = true) : Cond.selects y.cls y y ∈ UW := List.mem_filter.mpr ⟨List.mem_append_left _ (List.mem_map.mpr ⟨(y, n), List.mem_of_getElem? h, rfl⟩), hg⟩
/-! ===== a heap as a function of addresses ===== -/
abbrev Hp : Type := Nat → Option va_E
abbrev Gm : Type := va_G × (Nat → ClassId)
abbrev LocS : Type := List (Option Value)
abbrev CT : Type := Hp → Nat → Nat → LocS → List Value → Prop
def hup (h : Hp) (a : Nat) (e : va_E) : Hp := fun b => if b = a then some e else h b
theorem hup_same {h : Hp} {a : Nat} {e : va_E} : hup h a e a = some e := if_pos rfl
theorem hup_ne {h : Hp} {a b : Nat} {e : va_E} (hb : b ≠ a) : hup h a e b = h b := if_neg hb
def arrTys (g : Gm) : List (ClassId × FieldType) := [(g.2 0, .int), (g.2 1, .long), (g.2 2, .boolean), (g.2 3, .object RX4), (g.2 4, .object RX3), (g.2 5, .object RX5), (g.2 6, .array .int)]
/-- what the tables say, beside the words: it stays in every state of the run -/
def KK (g : Gm) (U : State) : Prop := va_K g.1 vwCl (arrTys g) U ∧ (va_AO RX4 U ∧ va_AO RX3 U ∧ va_AO RX5 U ∧ va_AOA .int U) ∧
  (va_Nw (.methodLinkNest RX9 19 yX8_init RX9) U ∧ va_Nw (.methodLinkNest RX2 30 yX3_init RX9) U ∧ va_Nw (.methodLinkNest RX9 53 yX5_init RX9) U ∧ va_Nw (.methodLinkNest RX9 48 yX6_init RX9) U) ∧
  (va_Nw (.castable RX1 RX0) U ∧ va_Nw (.castable RX1 RX4) U ∧ va_Nw (.castable RX0 RX4) U ∧ va_Nw (.declares yX4_toldPlainly) U) ∧ (va_Nc RX4 RX1 U ∧ va_Nc RX4 RX0 U ∧ va_Nc RX0 RX1 U)
theorem KK.warm {g : Gm} {s U : State} (hW : s.WarmedH U.vm) (h : KK g s) : KK g U := by
  obtain ⟨h1, ⟨a1, a2, a3, a4⟩, ⟨b1, b2, b3, b4⟩, ⟨c1, c2, c3, c4⟩, d1, d2, d3⟩ := h
  exact ⟨h1.moved hW.alike, ⟨a1.moved hW.alike, a2.moved hW.alike, a3.moved hW.alike, a4.moved hW.alike⟩, ⟨b1.warmM hW, b2.warmM hW, b3.warmM hW, b4.warmM hW⟩, ⟨c1.warmC hW, c2.warmC hW, c3.warmC hW, c4.warmD hW⟩, d1.moved hW.alike, d2.moved hW.alike, d3.moved hW.alike⟩
theorem KK.same {g : Gm} {u U : State} (hv : u.vm = U.vm) (h : KK g u) : KK g U := by
  have ha : u.vm.Alike U.vm := hv ▸ Vm.Alike.refl u.vm
  obtain ⟨h1, ⟨a1, a2, a3, a4⟩, ⟨b1, b2, b3, b4⟩, ⟨c1, c2, c3, c4⟩, d1, d2, d3⟩ := h
  exact ⟨h1.moved ha, ⟨a1.moved ha, a2.moved ha, a3.moved ha, a4.moved ha⟩, ⟨b1.same rfl hv, b2.same rfl hv, b3.same rfl hv, b4.same rfl hv⟩, ⟨c1.same rfl hv, c2.same rfl hv, c3.same rfl hv, c4.same rfl hv⟩, d1.moved ha, d2.moved ha, d3.moved ha⟩
/-- the machine's heap holds h: its cells are the rows of a list, apart, of a kind -/
def Hok (g : Gm) (A : Nat → Prop) (H : Heap) (h : Hp) : Prop := ∃ ws : va_W, va_P g.1 vwCl ws H ∧ va_D A ws ∧ ∀ (a : Nat) (e : va_E), h a = some e ↔ ∃ k : Nat, ws[k]? = some (a, e)
theorem Hok.put {g : Gm} {A : Nat → Prop} {H : Heap} {h : Hp} {ws : va_W} {q0 a : Nat} {e0 e : va_E} (hD0 : va_D A ws) (hr : ∀ (a : Nat) (e : va_E), h a = some e ↔ ∃ k : Nat, ws[k]? = some (a, e)) (h0 : ws[q0]? = some (a, e0))
    (hP : va_P g.1 vwCl (ws.set q0 (a, e)) H) (hD : va_D A (ws.set q0 (a, e))) : Hok g A H (hup h a e) := by
  refine ⟨_, hP, hD, fun b x => ?_⟩
  have hlt : q0 < ws.length := (List.getElem?_eq_some_iff.mp h0).1
  by_cases hb : b = a
  · subst hb
    rw [hup_same]
    constructor
    · intro hx
      cases hx
      exact ⟨q0, by simp [hlt]⟩
    · rintro ⟨k, hk⟩
      have h2 : (ws.set q0 (b, e))[q0]? = some (b, e) := by simp [hlt]
      have e1 := hD.1 k q0 _ _ hk h2 rfl
      subst e1
      rw [h2] at hk
      cases hk
      rfl
  · rw [hup_ne hb, hr]
    constructor
    · rintro ⟨k, hk⟩
      refine ⟨k, ?_⟩
      have hne : q0 ≠ k := fun q => by
        subst q
        rw [h0] at hk
        cases hk
        exact hb rfl
      rw [List.getElem?_set_ne hne]
      exact hk
    · rintro ⟨k, hk⟩
      refine ⟨k, ?_⟩
      have hne : q0 ≠ k := fun q => by
        subst q
        have h2 : (ws.set q0 (a, e))[q0]? = some (a, e) := by simp [hlt]
        rw [h2] at hk
        cases hk
        exact hb rfl
      rw [List.getElem?_set_ne hne] at hk
      exact hk
theorem Hok.push {g : Gm} {A : Nat → Prop} {H : Heap} {h : Hp} {ws : va_W} {q : Nat} {e : va_E} (hr : ∀ (a : Nat) (e : va_E), h a = some e ↔ ∃ k : Nat, ws[k]? = some (a, e))
    (hP : va_P g.1 vwCl (ws ++ [(q, e)]) H) (hD : va_D A (ws ++ [(q, e)])) : h q = none ∧ Hok g A H (hup h q e) := by
  have hlast : (ws ++ [(q, e)])[ws.length]? = some (q, e) := by simp
  have hleft : ∀ (k : Nat) (x : Nat × va_E), ws[k]? = some x → (ws ++ [(q, e)])[k]? = some x := fun k x hx => by
    rw [List.getElem?_append_left ((List.getElem?_eq_some_iff.mp hx).1)]
    exact hx
  have hn : h q = none := by
    cases hq : h q with
    | none => rfl
    | some x =>
      obtain ⟨k, hk⟩ := (hr q x).mp hq
      have h1 := hD.1 k ws.length _ _ (hleft k _ hk) hlast rfl
      have h2 := (List.getElem?_eq_some_iff.mp hk).1
      omega
  refine ⟨hn, _, hP, hD, fun b x => ?_⟩
  by_cases hb : b = q
  · subst hb
    rw [hup_same]
    constructor
    · intro hx
      cases hx
      exact ⟨_, hlast⟩
    · rintro ⟨k, hk⟩
      have e1 := hD.1 k ws.length _ _ hk hlast rfl
      subst e1
      rw [hlast] at hk
      cases hk
      rfl
  · rw [hup_ne hb, hr]
    constructor
    · rintro ⟨k, hk⟩
      exact ⟨k, hleft k _ hk⟩
    · rintro ⟨k, hk⟩
      refine ⟨k, ?_⟩
      by_cases hl : k < ws.length
      · rw [List.getElem?_append_left hl] at hk
        exact hk
      · rw [List.getElem?_append_right (by omega)] at hk
        have h0 : k - ws.length < 1 := (List.getElem?_eq_some_iff.mp hk).1
        rw [show k - ws.length = 0 by omega] at hk
        cases hk
        exact absurd rfl hb
def Adom (h : Hp) (sz : Nat) : Nat → Prop := fun q => h q ≠ none ∨ sz ≤ q
theorem Hok.weaken {g : Gm} {A B : Nat → Prop} {H : Heap} {h : Hp} (hk : Hok g A H h) (hAB : ∀ q, A q → B q) : Hok g B H h := by
  obtain ⟨ws, h1, h2, h3⟩ := hk
  exact ⟨ws, h1, h2.weaken (fun _ _ _ q => hAB _ q), h3⟩
theorem Hok.self {g : Gm} {A : Nat → Prop} {H : Heap} {h : Hp} (sz : Nat) (hk : Hok g A H h) : Hok g (Adom h sz) H h := by
  obtain ⟨ws, h1, h2, h3⟩ := hk
  exact ⟨ws, h1, ⟨h2.1, fun k q hq => Or.inl (fun hn => by
    have := (h3 q.1 q.2).mpr ⟨k, hq⟩
    rw [hn] at this
    cases this)⟩, h3⟩
theorem Hok.dom {g : Gm} {A : Nat → Prop} {H : Heap} {h : Hp} {q : Nat} (hk : Hok g A H h) (hq : h q ≠ none) : A q := by
  obtain ⟨ws, h1, h2, h3⟩ := hk
  cases hx : h q with
  | none => exact absurd hx hq
  | some x =>
    obtain ⟨k, hk⟩ := (h3 q x).mp hx
    exact h2.2 k _ hk
/-! ===== the locals ===== -/
def lh (arr : Array Slot) (nL : Nat) (ls : LocS) : Prop := ls.length = nL ∧ arr.size = nL ∧ lv_wf arr ∧ ∀ (i : Nat) (v : Value), ls[i]? = some (some v) → arr[i]? = some (.val v) ∧ v.category = 1
def lpr (ls : LocS) : List (Nat × Value) := (List.range ls.length).filterMap fun i => match ls[i]? with
  | some (some v) => some (i, v)
  | _ => none
theorem lpr_mem {ls : LocS} {q : Nat × Value} : q ∈ lpr ls ↔ ls[q.1]? = some (some q.2) := by
  unfold lpr
  rw [List.mem_filterMap]
  constructor
  · rintro ⟨i, -, hi⟩
    split at hi
    next v hv => cases hi; exact hv
    next => cases hi
  · intro h
    refine ⟨q.1, List.mem_range.mpr ((List.getElem?_eq_some_iff.mp h).1), ?_⟩
    rw [h]
theorem lh.has {arr : Array Slot} {nL : Nat} {ls : LocS} (h : lh arr nL ls) : lv_has arr nL (lpr ls) := ⟨h.2.1, h.2.2.1, fun q hq => (h.2.2.2 q.1 q.2 (lpr_mem.mp hq)).1⟩
theorem lh.set {arr arr' : Array Slot} {nL : Nat} {ls : LocS} {i : Nat} {v : Value} (h : lh arr nL ls) (hi : i < nL) (hc : v.category = 1) (h' : lv_has arr' nL ((i, v) :: (lpr ls).filter (fun q => !(q.1 == i) && !(q.1 + 1 == i && q.2.category == 2)))) : lh arr' nL (ls.set i (some v)) := by
  refine ⟨by rw [List.length_set]; exact h.1, h'.1, h'.2.1, fun j w hj => ?_⟩
  by_cases hji : j = i
  · subst hji
    have hl : j < ls.length := by rw [h.1]; exact hi
    rw [List.getElem?_set_self hl] at hj
    cases hj
    exact ⟨h'.2.2 _ List.mem_cons_self, hc⟩
  · rw [List.getElem?_set_ne (Ne.symm hji)] at hj
    refine ⟨h'.2.2 (j, w) (List.mem_cons_of_mem _ (List.mem_filter.mpr ⟨lpr_mem.mpr hj, ?_⟩)), (h.2.2.2 j w hj).2⟩
    have h1 := (h.2.2.2 j w hj).2
    simp [hji, h1]
/-! ===== methods ===== -/
abbrev MD : Type := MethodName × ByteArray × Nat × Option FieldType × Nat × Nat
def mdW (d : MD) : List Cond := .code d.1 d.2.1 d.2.2.1 d.2.2.2.1 :: UW
def mdR (d : MD) (mc ms : Nat) : Room := { frames := d.2.2.2.2.1, cells := mc, slots := ms, locals := d.2.2.2.2.2 }
def PcR (g : Gm) (av : List Value) (h : Hp) (sz : Nat) : Array Value → State → Prop := fun v U => v = av.toArray ∧ U.heap.size = sz ∧ KK g U ∧ Hok g (fun _ => True) U.heap h
def QcR (g : Gm) (h : Hp) (sz : Nat) (K : Option Value → Hp → Prop) : Array Value → State → Outcome → State → Prop := fun _ st oc t => (∃ (r : Option Value) (h' : Hp), oc = .returned r ∧ K r h' ∧ Hok g (Adom h sz) t.heap h') ∧ va_F (Adom h sz) st t
/-- the method d, called on av in a heap that holds h, comes back, at most mc cells of ms slots richer, with an answer and a heap of which K holds -/
def Run (l : Launch) (g : Gm) (d : MD) (av : List Value) (h : Hp) (mc ms : Nat) (K : Option Value → Hp → Prop) : Prop :=
  ∀ sz : Nat, Met l d.1 (mdW d) (mdR d mc ms) (PcR g av h sz) (QcR g h sz K) mc ms (Adom h sz)
theorem PcR_blind {g : Gm} {av : List Value} {h : Hp} {sz : Nat} : FrameBlind (PcR g av h sz) := fun a U gg mk q => ⟨q.1, q.2.1, q.2.2.1.same rfl, q.2.2.2⟩
