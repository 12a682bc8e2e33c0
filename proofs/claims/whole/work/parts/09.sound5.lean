section SND5
variable {p : Program} {l : Launch} {e : Env} {R : Room} {s : State} {m : MethodId} {args : Array Value} {below : List Frame} {meth : Method} {c : Code} {Q : State → Prop}
variable {g : Gm} {A : Nat → Prop} {cc : ByteArray} {own : String} {nL pc : Nat} {K T N : CT}
/-! switches -/
def SwT (g : Gm) (p : Program) (l : Launch) (e : Env) (R : Room) (s : State) (m : MethodId) (args : Array Value) (below : List Frame) (meth : Method) (c : Code) (A : Nat → Prop) (nL : Nat) (Q : State → Prop) (pc : Nat) (lo : Int) (offs : Array Int) : Nat → List (Int32 × CT) → Prop
  | _, [] => True
  | j, (k, T) :: ts => (k.toInt = lo + (j : Int) ∧ ∃ (off : Int) (tgt : Nat), offs[j]? = some off ∧ (pc : Int) + off = (tgt : Int) ∧ Sd g p l e R s m args below meth c A nL Q T tgt) ∧ SwT g p l e R s m args below meth c A nL Q pc lo offs (j + 1) ts
theorem s_tswL (X : Cx g p s m args meth c A cc own nL) {dflt lo hi : Int} {offs : Array Int} {len tgt : Nat} {D : CT} (d : decode cc pc = .ok (.tableswitch dflt lo hi offs, len)) (ht : (pc : Int) + dflt = (tgt : Int)) (nd : Sd g p l e R s m args below meth c A nL Q D tgt) : ∀ (ts : List (Int32 × CT)) (j : Nat) (x : Int32), SwT g p l e R s m args below meth c A nL Q pc lo offs j ts → hi = lo + ((j + ts.length : Nat) : Int) - 1 → (∀ j', j' < j → x.toInt ≠ lo + (j' : Int)) →
    ∀ (h : Hp) (cb sb : Nat) (ls : LocS) (r : List Value), oSwL x ts D h cb sb ls r → GM g p l e R s m args below meth c A nL Q pc h cb sb ls (.int x :: r)
  | [], j, x, _, hh, hx9, h, cb, sb, ls, r, H => by
    intro HH locs cells slots arr hok hS hc hs hl
    obtain ⟨hx, hb, hml, hown, hts, hK, hlk, hA⟩ := X
    refine lv_tableOut hx hb d ?_ ht (nd _ _ _ _ _ H HH locs cells slots arr hok hS hc hs hl)
    simp only [List.length_nil, Nat.add_zero] at hh
    by_cases h1 : x.toInt < lo
    · exact Or.inl h1
    · refine Or.inr (Int.not_le.mp fun h2 => ?_)
      have h3 := hx9 (x.toInt - lo).toNat (by omega)
      omega
  | (k, T) :: ts, j, x, hw, hh, hx9, h, cb, sb, ls, r, H => by
    obtain ⟨⟨hk, off, tg, ho, htg, nT⟩, hrest⟩ := hw
    by_cases hxk : x = k
    · intro HH locs cells slots arr hok hS hc hs hl
      have H1 := H.1 hxk
      obtain ⟨hx, hb, hml, hown, hts, hK, hlk, hA⟩ := X
      simp only [List.length_cons] at hh
      refine lv_tableIn hx hb d (by rw [hxk, hk]; omega) (by rw [hxk, hk]; omega) (off := off) ?_ htg (nT _ _ _ _ _ H1 HH locs cells slots arr hok hS hc hs hl)
      rw [hxk, hk, show (lo + (j : Int) - lo).toNat = j by omega]
      exact ho
    · refine s_tswL X d ht nd ts (j + 1) x hrest (by rw [hh]; simp only [List.length_cons]; omega) (fun j' hj' => ?_) h cb sb ls r (H.2 hxk)
      by_cases e1 : j' = j
      · subst e1
        exact fun e2 => hxk (Int32.toInt_inj.mp (by rw [hk]; exact e2))
      · exact hx9 j' (by omega)
theorem s_tsw (X : Cx g p s m args meth c A cc own nL) {dflt lo hi : Int} {offs : Array Int} {len tgt : Nat} {D : CT} {ts : List (Int32 × CT)} (d : decode cc pc = .ok (.tableswitch dflt lo hi offs, len)) (ht : (pc : Int) + dflt = (tgt : Int)) (hh : hi = lo + ((0 + ts.length : Nat) : Int) - 1) (hw : SwT g p l e R s m args below meth c A nL Q pc lo offs 0 ts) (nd : Sd g p l e R s m args below meth c A nL Q D tgt) : Sd g p l e R s m args below meth c A nL Q (oSw ts D) pc := by
  intro h cb sb ls st H
  unfold oSw at H
  split at H
  next x r => exact s_tswL X d ht nd ts 0 x hw hh (fun j' hj' => absurd hj' (Nat.not_lt_zero j')) h cb sb ls r H
  next => exact H.elim
def LkT (g : Gm) (p : Program) (l : Launch) (e : Env) (R : Room) (s : State) (m : MethodId) (args : Array Value) (below : List Frame) (meth : Method) (c : Code) (A : Nat → Prop) (nL : Nat) (Q : State → Prop) (pc : Nat) : List (Int × Int) → List (Int32 × CT) → Prop
  | [], [] => True
  | (a, o) :: ps, (k, T) :: ts => (k.toInt = a ∧ ∃ tgt : Nat, (pc : Int) + o = (tgt : Int) ∧ Sd g p l e R s m args below meth c A nL Q T tgt) ∧ LkT g p l e R s m args below meth c A nL Q pc ps ts
  | _, _ => False
theorem s_lswL {dflt : Int} {tgt : Nat} {D : CT} (ht : (pc : Int) + dflt = (tgt : Int)) (nd : Sd g p l e R s m args below meth c A nL Q D tgt) : ∀ (ps : List (Int × Int)) (ts : List (Int32 × CT)) (x : Int32), LkT g p l e R s m args below meth c A nL Q pc ps ts →
    ∀ (h : Hp) (cb sb : Nat) (ls : LocS) (r : List Value), oSwL x ts D h cb sb ls r → ∃ (off : Int) (tg : Nat), Op.lookupswitch.offset ps dflt x.toInt = off ∧ (pc : Int) + off = (tg : Int) ∧ GM g p l e R s m args below meth c A nL Q tg h cb sb ls r
  | [], [], x, _, h, cb, sb, ls, r, H => ⟨dflt, tgt, rfl, ht, nd _ _ _ _ _ H⟩
  | (a, o) :: ps, (k, T) :: ts, x, hw, h, cb, sb, ls, r, H => by
    obtain ⟨⟨hk, tg, htg, nT⟩, hrest⟩ := hw
    by_cases hxk : x = k
    · refine ⟨o, tg, ?_, htg, nT _ _ _ _ _ (H.1 hxk)⟩
      rw [Op.lookupswitch.offset_cons, if_pos]
      rw [hxk, hk]
    · obtain ⟨off, t2, h1, h2, h3⟩ := s_lswL ht nd ps ts x hrest h cb sb ls r (H.2 hxk)
      exact ⟨off, t2, (lv_osw hxk hk).trans h1, h2, h3⟩
  | [], _ :: _, _, hw, _, _, _, _, _, _ => hw.elim
  | _ :: _, [], _, hw, _, _, _, _, _, _ => hw.elim
theorem s_lsw (X : Cx g p s m args meth c A cc own nL) {dflt : Int} {ps : Array (Int × Int)} {len tgt : Nat} {D : CT} {ts : List (Int32 × CT)} (d : decode cc pc = .ok (.lookupswitch dflt ps, len)) (hp : (ps.toList.zip (ps.toList.drop 1)).all (fun (a, next) => a.1 < next.1) = true) (ht : (pc : Int) + dflt = (tgt : Int)) (hw : LkT g p l e R s m args below meth c A nL Q pc ps.toList ts) (nd : Sd g p l e R s m args below meth c A nL Q D tgt) : Sd g p l e R s m args below meth c A nL Q (oSw ts D) pc := by
  intro h cb sb ls st H
  unfold oSw at H
  split at H
  next x r =>
    obtain ⟨off, tg, h1, h2, h3⟩ := s_lswL ht nd _ ts x hw h cb sb ls r H
    intro HH locs cells slots arr hok hS hc hs hl
    exact lv_lookup X.1 X.2.1 d hp h1 h2 (h3 HH locs cells slots arr hok hS hc hs hl)
  next => exact H.elim
/-! calls -/
theorem after_call {H : Heap} {locs : List Loc} {cells slots mc ms : Nat} {arr : Array Slot} {st0 rest : List Value} {h : Hp} {Kc : PT} {a : Array Value} (hr : va_Run p l e R s m args below meth c H locs cells slots mc ms (F0 m pc arr st0) rest (QcR g h H.size Kc a) (Adom h H.size)) (hok : Hok g A H h) (hS : va_S A s.heap H locs) (hA : ∀ q, s.heap.size ≤ q → A q)
    (kk : ∀ (r : Option Value) (h' : Hp) (H1 : Heap) (locs1 : List Loc), Kc r h' → Hok g A H1 h' → va_S A s.heap H1 locs1 → W p l e R s m args below meth c H1 locs1 (cells + mc) (slots + ms) Q (F0 m (pc + 3) arr (r.toList ++ rest))) : W p l e R s m args below meth c H locs cells slots Q (F0 m pc arr st0) := by
  intro T hT X
  obtain ⟨v, st₀, t, T', L, h0, X', hL, e1, e2, ⟨⟨r, h', hv, hp, hb⟩, hz, hk⟩, st⟩ := hr T hT X
  cases hv
  rw [h0] at hz hk
  have hAd : ∀ q, Adom h H.size q → A q := fun q hq => by
    rcases hq with h1 | h1
    · exact hok.dom h1
    · exact hA q (Nat.le_trans hS.1 h1)
  obtain ⟨t2, a1, b1⟩ := kk v h' T'.heap (locs ++ L) hp (by rw [e1]; exact hb.weaken hAd)
    ⟨Nat.le_trans hS.1 (by rw [e1]; exact hz), fun q h1 h2 => by rw [e1, hk q (Nat.lt_of_lt_of_le h1 hS.1) (fun z => h2 (hAd q z))]; exact hS.2.1 q h1 h2, fun q hq => by
      rcases List.mem_append.mp hq with h | h
      · exact hS.2.2 q h
      · exact hAd _ (hL q h)⟩ T' rfl X'
  exact ⟨t2, st t2 a1, b1⟩
def CodeIn (d : MD) : Prop := Cond.code d.1 d.2.1 d.2.2.1 d.2.2.2.1 ∈ UW
theorem gi_md {d : MD} (h : CodeIn d) : GoodIn UW (mdW d) := fun w hw => by
  rcases List.mem_cons.mp hw with rfl | hw
  · exact ⟨h, good_of_word (List.mem_filter.mp h).2⟩
  · exact UW_good (fun _ h => h) w hw
theorem gi_app {d : MD} {xs : List Cond} (h : CodeIn d) (hx : ∀ w ∈ xs, w ∈ UW) : GoodIn UW (xs ++ mdW d) := fun w hw => by
  rcases List.mem_append.mp hw with h1 | h1
  · exact ⟨hx w h1, good_of_word (List.mem_filter.mp (hx w h1)).2⟩
  · exact gi_md h w h1
theorem chkS_len {n : Nat} {st : List Value} (h : chkS n st = true) : n ≤ st.length ∧ st.length ≤ n + 4 := by
  unfold chkS at h
  rw [Bool.and_eq_true] at h
  exact ⟨Nat.le_of_ble_eq_true h.1, Nat.le_of_ble_eq_true h.2⟩
theorem pre_S {H : Heap} {h : Hp} {av : List Value} (hK : KK g s) (hok : Hok g A H h) : PreS s H (PcR g av h H.size) av := ⟨PcR_blind, fun U hU hW => ⟨rfl, by rw [hU], hK.warm hW, by rw [hU]; exact hok.weaken (fun _ _ => trivial)⟩⟩
abbrev YOk (d : MD) (n : Nat) : Prop := d.1.cls ≠ "java/lang/invoke/MethodHandle" ∧ d.1.cls ≠ "java/lang/invoke/VarHandle" ∧ (parseMethodDescriptor d.1.desc).map (fun d => d.parameters.length) = some n
abbrev ROk (R : Room) (d : MD) : Prop := d.2.2.2.2.1 + 1 ≤ R.frames ∧ 8 + (d.2.2.1 + 11) + d.2.2.2.2.2 ≤ R.locals
theorem s_callS (X : Cx g p s m args meth c A cc own nL) {d : MD} {n index : Nat} (dd : decode cc pc = .ok (.invokestatic index, 3)) (hlnk : Cond.methodLink own index d.1 ∈ UW) (hst : Cond.static d.1 ∈ UW) (hin : Cond.initialized d.1.cls ∈ UW) (hcd : CodeIn d) (hy : YOk d n) (hR : ROk R d) (nx : Sd g p l e R s m args below meth c A nL Q K (pc + 3)) : Sd g p l e R s m args below meth c A nL Q (oCall l g d n K) pc := by
  intro h cb sb ls st H HH locs cells slots arr hok hS hc hs hl
  obtain ⟨hx, hb, hml, hown, hts, hK, hlk, hA⟩ := X
  obtain ⟨hck, mc, ms, h1, h2, hrun⟩ := H
  obtain ⟨k1, k2⟩ := chkS_len hck
  refine after_call (va_runS (As := (st.take n).reverse) (rest := st.drop n) ⟨hx, hb, hml, hown, hts⟩ (hrun HH.size) ⟨callB_of n hts (gi_md hcd) rfl rfl rfl (hts _ hin) (hts _ hlnk) hy hR, hts _ hst⟩ (pre_S hK hok) rfl (by simp; omega) hl.2.1 (by simp) (lv_room (cat_sum _ (by simp; omega))) dd ⟨by omega, by omega⟩) hok hS hA (fun r h' H1 locs1 hk1 hok1 hS1 => ?_)
  exact nx _ _ _ _ _ hk1 H1 locs1 _ _ arr hok1 hS1 (by omega) (by omega) hl
theorem split_recv {n b : Nat} {st : List Value} (h : (st.take n).getLast? = some (.ref b)) : ∃ As : List Value, (st.take n).reverse = .ref b :: As ∧ st = As.reverse ++ .ref b :: st.drop n := by
  refine ⟨(st.take n).dropLast.reverse, ?_, ?_⟩
  · have hne : st.take n ≠ [] := fun e => by rw [e] at h; cases h
    have h2 : st.take n = (st.take n).dropLast ++ [.ref b] := by
      rw [List.getLast?_eq_some_getLast hne] at h
      rw [← Option.some.inj h]
      exact (List.dropLast_concat_getLast hne).symm
    conv => lhs; rw [h2]
    simp
  · have hne : st.take n ≠ [] := fun e => by rw [e] at h; cases h
    have h2 : st.take n = (st.take n).dropLast ++ [.ref b] := by
      rw [List.getLast?_eq_some_getLast hne] at h
      rw [← Option.some.inj h]
      exact (List.dropLast_concat_getLast hne).symm
    rw [List.reverse_reverse]
    conv => lhs; rw [← List.take_append_drop n st, h2]
    simp
theorem s_callI (X : Cx g p s m args meth c A cc own nL) {d : MD} {n index : Nat} (hret : d.2.2.2.1 = none) (hnm : d.1.name = "<init>") (dd : decode cc pc = .ok (.invokespecial index, 3)) (hlnk : Cond.methodLink own index d.1 ∈ UW) (hinst : Cond.instanceMethod d.1 ∈ UW) (hin : Cond.initialized d.1.cls ∈ UW) (hcd : CodeIn d) (hy : YOk d n) (hR : ROk R d) (nx : Sd g p l e R s m args below meth c A nL Q K (pc + 3)) : Sd g p l e R s m args below meth c A nL Q (fun h cb sb ls st => (∃ b, (st.take (n + 1)).getLast? = some (.ref b)) ∧ oCall l g d (n + 1) K h cb sb ls st) pc := by
  intro h cb sb ls st H HH locs cells slots arr hok hS hc hs hl
  obtain ⟨hx, hb, hml, hown, hts, hK, hlk, hA⟩ := X
  obtain ⟨⟨b, hbb⟩, hck, mc, ms, h1, h2, hrun⟩ := H
  obtain ⟨k1, k2⟩ := chkS_len hck
  obtain ⟨As, ea, es⟩ := split_recv hbb
  have hlen : As.length = n := by have := congrArg List.length ea; simp at this; omega
  obtain ⟨y, by_, mL, rt, fr, lo⟩ := d
  dsimp only at hret
  subst hret
  rw [ea] at hrun
  refine after_call (va_runI (As := As) (b := b) (rest := st.drop (n + 1)) ⟨hx, hb, hml, hown, hts⟩ (hrun HH.size) ⟨callB_of n hts (gi_md hcd) rfl rfl rfl (hts _ hin) (hts _ hlnk) hy hR, hnm, hts _ hinst⟩ (pre_S hK hok) rfl hlen hl.2.1 es (lv_room (cat_sum _ (by simp; omega))) dd ⟨by omega, by omega⟩) hok hS hA (fun r h' H1 locs1 hk1 hok1 hS1 => ?_)
  exact nx _ _ _ _ _ hk1 H1 locs1 _ _ arr hok1 hS1 (by omega) (by omega) hl
theorem s_callIN (X : Cx g p s m args meth c A cc own nL) {d : MD} {n index : Nat} {host : String} (hret : d.2.2.2.1 = none) (hnm : d.1.name = "<init>") (dd : decode cc pc = .ok (.invokespecial index, 3)) (hlnk : va_Nw (.methodLinkNest own index d.1 host) s) (hinst : Cond.instanceMethod d.1 ∈ UW) (hin : Cond.initialized d.1.cls ∈ UW) (hcd : CodeIn d) (hy : YOk d n) (hR : ROk R d) (nx : Sd g p l e R s m args below meth c A nL Q K (pc + 3)) : Sd g p l e R s m args below meth c A nL Q (fun h cb sb ls st => (∃ b, (st.take (n + 1)).getLast? = some (.ref b)) ∧ oCall l g d (n + 1) K h cb sb ls st) pc := by
  intro h cb sb ls st H HH locs cells slots arr hok hS hc hs hl
  obtain ⟨hx, hb, hml, hown, hts, hK, hlk, hA⟩ := X
  obtain ⟨⟨b, hbb⟩, hck, mc, ms, h1, h2, hrun⟩ := H
  obtain ⟨k1, k2⟩ := chkS_len hck
  obtain ⟨As, ea, es⟩ := split_recv hbb
  have hlen : As.length = n := by have := congrArg List.length ea; simp at this; omega
  obtain ⟨y, by_, mL, rt, fr, lo⟩ := d
  dsimp only at hret
  subst hret
  rw [ea] at hrun
  refine after_call (va_runIN (As := As) (b := b) (rest := st.drop (n + 1)) ⟨hx, hb, hml, hown, hts⟩ (hrun HH.size) ⟨va_cnB n hts (gi_md hcd) rfl rfl rfl hlnk (hts _ hin) hy hR, hnm, hts _ hinst⟩ (pre_S hK hok) rfl hlen hl.2.1 es (lv_room (cat_sum _ (by simp; omega))) dd ⟨by omega, by omega⟩) hok hS hA (fun r h' H1 locs1 hk1 hok1 hS1 => ?_)
  exact nx _ _ _ _ _ hk1 H1 locs1 _ _ arr hok1 hS1 (by omega) (by omega) hl
/-- an object of class ci, called as the pool's entry says, goes to the method d -/
def VOk (R : Room) (s : State) (args : Array Value) (own : String) (index n ci : Nat) (d : MD) : Prop := ∃ (C : String) (T1 : u_T) (N1 : Nat), vwCl[ci]? = some (C, T1, N1) ∧
  ((∀ mc ms : Nat, CallW R s args own C index d.1 d.2.1 d.2.2.1 d.2.2.2.1 (mdW d) (mdR d mc ms) mc ms n) ∨ ∃ (owner : String) (x : MethodName), ∀ mc ms : Nat, va_CU R s args own C owner index x d.1 d.2.1 d.2.2.1 d.2.2.2.1 (mdW d) (mdR d mc ms) mc ms n)
theorem s_callV (X : Cx g p s m args meth c A cc own nL) {tab : List (Nat × MD)} {n index : Nat} (dd : decode cc pc = .ok (.invokevirtual index, 3)) (hv : ∀ (ci : Nat) (d : MD), (ci, d) ∈ tab → VOk R s args own index n ci d) (nx : Sd g p l e R s m args below meth c A nL Q K (pc + 3)) : Sd g p l e R s m args below meth c A nL Q (oCallV l g tab (n + 1) K) pc := by
  intro h cb sb ls st H HH locs cells slots arr hok hS hc hs hl
  obtain ⟨hx, hb, hml, hown, hts, hK, hlk, hA⟩ := X
  obtain ⟨hck, b, ci, fs, d, hbb, hcell, htab, mc, ms, h1, h2, hrun⟩ := H
  obtain ⟨k1, k2⟩ := chkS_len hck
  obtain ⟨As, ea, es⟩ := split_recv hbb
  have hlen : As.length = n := by have := congrArg List.length ea; simp at this; omega
  rw [ea] at hrun
  obtain ⟨C, T1, N1, g1, g2⟩ := hv ci d htab
  obtain ⟨ws, hP, hD, hr⟩ := id hok
  obtain ⟨kk, hkk⟩ := (hr b _).mp hcell
  have hrc := va_recv hK.1 hP g1 hkk
  have hpre : PreV s HH C b (PcR g (.ref b :: As) h HH.size) As := ⟨PcR_blind, hrc, (pre_S hK hok).2⟩
  rcases g2 with g2 | ⟨owner, x, g2⟩
  · refine after_call (va_runV (As := As) (b := b) (rest := st.drop (n + 1)) ⟨hx, hb, hml, hown, hts⟩ (hrun HH.size) (g2 mc ms) hpre rfl hlen hl.2.1 es (lv_room (cat_sum _ (by simp; omega))) dd ⟨by omega, by omega⟩) hok hS hA (fun r h' H1 locs1 hk1 hok1 hS1 => ?_)
    exact nx _ _ _ _ _ hk1 H1 locs1 _ _ arr hok1 hS1 (by omega) (by omega) hl
  · refine after_call (va_runU (As := As) (b := b) (rest := st.drop (n + 1)) ⟨hx, hb, hml, hown, hts⟩ (hrun HH.size) (g2 mc ms) hpre rfl hlen hl.2.1 es (lv_room (cat_sum _ (by simp; omega))) dd ⟨by omega, by omega⟩) hok hS hA (fun r h' H1 locs1 hk1 hok1 hS1 => ?_)
    exact nx _ _ _ _ _ hk1 H1 locs1 _ _ arr hok1 hS1 (by omega) (by omega) hl
theorem mem4 {α : Type} {P : α → Prop} {a b c d : α} (ha : P a) (hb : P b) (hc : P c) (hd : P d) : ∀ w ∈ [a, b, c, d], P w := by
  intro w hw
  simp only [List.mem_cons, List.not_mem_nil, or_false] at hw
  rcases hw with rfl | rfl | rfl | rfl <;> assumption
theorem mem5 {α : Type} {P : α → Prop} {a b c d e : α} (ha : P a) (hb : P b) (hc : P c) (hd : P d) (he : P e) : ∀ w ∈ [a, b, c, d, e], P w := by
  intro w hw
  simp only [List.mem_cons, List.not_mem_nil, or_false] at hw
  rcases hw with rfl | rfl | rfl | rfl | rfl <;> assumption
theorem mem6 {α : Type} {P : α → Prop} {a b c d e f : α} (ha : P a) (hb : P b) (hc : P c) (hd : P d) (he : P e) (hf : P f) : ∀ w ∈ [a, b, c, d, e, f], P w := by
  intro w hw
  simp only [List.mem_cons, List.not_mem_nil, or_false] at hw
  rcases hw with rfl | rfl | rfl | rfl | rfl | rfl <;> assumption
theorem vok_V (X : Cx g p s m args meth c A cc own nL) {d : MD} {index n ci : Nat} {T1 : u_T} {N1 : Nat} (hcl : vwCl[ci]? = some (d.1.cls, T1, N1)) (hlnk : Cond.methodLink own index d.1 ∈ UW) (hinst : Cond.instanceMethod d.1 ∈ UW) (hsel : Cond.selects d.1.cls d.1 d.1 ∈ UW) (hin : Cond.initialized d.1.cls ∈ UW) (hcd : CodeIn d) (hy : YOk d n) (hR : ROk R d) : VOk R s args own index n ci d :=
  ⟨_, _, _, hcl, Or.inl fun mc ms => cwV n X.2.2.2.2.1 (gi_app hcd (mem4 hlnk hinst hsel hin)) rfl rfl rfl ⟨rfl, hy⟩ hR⟩
theorem vok_U (X : Cx g p s m args meth c A cc own nL) {d : MD} {index n ci : Nat} {C owner : String} {T1 : u_T} {N1 : Nat} {x : MethodName} (hcl : vwCl[ci]? = some (C, T1, N1)) (hyx : d.1 = ⟨owner, x.name, x.desc⟩) (hlnk : Cond.methodLink own index x ∈ UW) (hsame : Cond.sameMethod x.cls owner x.name x.desc ∈ UW) (hsel : Cond.selects C x d.1 ∈ UW) (hinst : Cond.instanceMethod d.1 ∈ UW) (hin : Cond.initialized d.1.cls ∈ UW) (hcd : CodeIn d) (hy : owner ≠ "java/lang/invoke/MethodHandle" ∧ owner ≠ "java/lang/invoke/VarHandle" ∧ (parseMethodDescriptor x.desc).map (fun d => d.parameters.length) = some n) (hR : ROk R d) : VOk R s args own index n ci d :=
  ⟨_, _, _, hcl, Or.inr ⟨owner, x, fun mc ms => va_cwU n X.2.2.2.2.1 (gi_app hcd (mem5 hlnk hsame hsel hinst hin)) rfl rfl rfl hyx hy hR⟩⟩
theorem vok_O (X : Cx g p s m args meth c A cc own nL) {d : MD} {index n ci : Nat} {C owner : String} {T1 : u_T} {N1 : Nat} {x : MethodName} {b0 : ByteArray} {m0 : Nat} {r0 : Option FieldType} (hcl : vwCl[ci]? = some (C, T1, N1)) (h0 : Cond.code ⟨owner, x.name, x.desc⟩ b0 m0 r0 ∈ UW) (hlnk : Cond.methodLink own index x ∈ UW) (hsame : Cond.sameMethod x.cls owner x.name x.desc ∈ UW) (hio : Cond.instanceMethod ⟨owner, x.name, x.desc⟩ ∈ UW) (hsel : Cond.selects C x d.1 ∈ UW) (hinst : Cond.instanceMethod d.1 ∈ UW) (hin : Cond.initialized d.1.cls ∈ UW) (hcd : CodeIn d) (hy : owner ≠ "java/lang/invoke/MethodHandle" ∧ owner ≠ "java/lang/invoke/VarHandle" ∧ (parseMethodDescriptor x.desc).map (fun d => d.parameters.length) = some n) (hR : ROk R d) : VOk R s args own index n ci d :=
  ⟨_, _, _, hcl, Or.inr ⟨owner, x, fun mc ms => va_cwO n X.2.2.2.2.1 (gi_app hcd (mem6 hlnk hsame hio hsel hinst hin)) rfl rfl rfl h0 hy hR⟩⟩
/-- a superclass's body, called by name -/
theorem s_callSU (X : Cx g p s m args meth c A cc own nL) {d : MD} {cs : List Nat} {n index : Nat} (dd : decode cc pc = .ok (.invokespecial index, 3)) (hlnk : Cond.methodLink own index d.1 ∈ UW) (hsame : Cond.sameMethod d.1.cls d.1.cls d.1.name d.1.desc ∈ UW) (hsup : Cond.superclass own d.1.cls ∈ UW) (hinst : Cond.instanceMethod d.1 ∈ UW) (hin : Cond.initialized d.1.cls ∈ UW) (hcd : CodeIn d) (hy : d.1.name ≠ "<init>" ∧ (parseMethodDescriptor d.1.desc).map (fun d => d.parameters.length) = some n) (hR : ROk R d) (hcs : ∀ ci ∈ cs, ∃ r : vw_C, vwCl[ci]? = some r) (nx : Sd g p l e R s m args below meth c A nL Q K (pc + 3)) :
    Sd g p l e R s m args below meth c A nL Q (oCallV l g (cs.map fun ci => (ci, d)) (n + 1) K) pc := by
  intro h cb sb ls st H HH locs cells slots arr hok hS hc hs hl
  obtain ⟨hx, hb, hml, hown, hts, hK, hlk, hA⟩ := X
  obtain ⟨hck, b, ci, fs, d2, hbb, hcell, htab, mc, ms, h1, h2, hrun⟩ := H
  obtain ⟨ci2, hci, e2⟩ := List.mem_map.mp htab
  cases e2
  obtain ⟨k1, k2⟩ := chkS_len hck
  obtain ⟨As, ea, es⟩ := split_recv hbb
  have hlen : As.length = n := by have := congrArg List.length ea; simp at this; omega
  rw [ea] at hrun
  obtain ⟨r0, g1⟩ := hcs ci hci
  obtain ⟨ws, hP, hD, hr⟩ := id hok
  obtain ⟨kk, hkk⟩ := (hr b _).mp hcell
  have hrc := va_recv hK.1 hP g1 hkk
  have hpre : PreV s HH r0.1 b (PcR g (.ref b :: As) h HH.size) As := ⟨PcR_blind, hrc, (pre_S hK hok).2⟩
  refine after_call (va_runSU (As := As) (b := b) (rest := st.drop (n + 1)) (hK.1.1 ci _ g1).2 ⟨hx, hb, hml, hown, hts⟩ (hrun HH.size) (va_cwSU n hts (gi_app hcd (mem5 hlnk hsame hsup hinst hin)) rfl rfl rfl hy hR) hpre rfl hlen hl.2.1 es (lv_room (cat_sum _ (by simp; omega))) dd ⟨by omega, by omega⟩) hok hS hA (fun r h' H1 locs1 hk1 hok1 hS1 => ?_)
  exact nx _ _ _ _ _ hk1 H1 locs1 _ _ arr hok1 hS1 (by omega) (by omega) hl
end SND5
