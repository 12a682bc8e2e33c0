/-! ===== cells by their roles ===== -/
/-- rl tells of an address which role its cell has; since (rl, h) no cell that was there changed, but of the roles X -/
def Ex (X : Nat → Prop) (rl : Nat → Nat) (h : Hp) (rl' : Nat → Nat) (h' : Hp) : Prop := ∀ a, h a ≠ none → rl' a = rl a ∧ (¬ X (rl a) → h' a = h a) ∧ h' a ≠ none
def Ob (rl : Nat → Nat) (h : Hp) (a ρ : Nat) (e : va_E) : Prop := h a = some e ∧ rl a = ρ
def Ia (g : Gm) (rl : Nat → Nat) (h : Hp) (a ρ n : Nat) (F : Nat → Int32) : Prop := (∃ f : Nat → Int32, h a = some (aI g n f) ∧ ∀ j, j < n → f j = F j) ∧ rl a = ρ
def Ja (g : Gm) (rl : Nat → Nat) (h : Hp) (a ρ n : Nat) (F : Nat → Int64) : Prop := (∃ f : Nat → Int64, h a = some (aJ g n f) ∧ ∀ j, j < n → f j = F j) ∧ rl a = ρ
def Za (g : Gm) (rl : Nat → Nat) (h : Hp) (a ρ n : Nat) (F : Nat → Int32) : Prop := (∃ f : Nat → Int32, h a = some (aZ g n f) ∧ ∀ j, j < n → f j = F j) ∧ rl a = ρ
def Ra (g : Gm) (t : Nat) (rl : Nat → Nat) (h : Hp) (a ρ n : Nat) (F : Nat → Option Nat) : Prop := (∃ f : Nat → Option Nat, h a = some (aR g t n f) ∧ ∀ j, j < n → f j = F j) ∧ rl a = ρ
section BASE
variable {l : Launch} {g : Gm} {rl rl' rl2 : Nat → Nat} {h h' h2 : Hp} {X Y Z : Nat → Prop} {a ρ n t : Nat} {cb sb : Nat} {ls : LocS} {r st : List Value} {K : CT}
theorem Ex.rf : Ex X rl h rl h := fun _ ha => ⟨rfl, fun _ => rfl, ha⟩
theorem Ex.tr (h1 : Ex X rl h rl' h') (h2' : Ex Y rl' h' rl2 h2) (hX : ∀ i, X i → Z i) (hY : ∀ i, Y i → Z i) : Ex Z rl h rl2 h2 := fun a ha => by
  obtain ⟨e1, e2, e3⟩ := h1 a ha
  obtain ⟨f1, f2, f3⟩ := h2' a e3
  refine ⟨f1.trans e1, fun hz => ?_, f3⟩
  rw [f2 (fun q => hz (hY _ (by rw [← e1]; exact q))), e2 (fun q => hz (hX _ q))]
theorem Ex.mono (h1 : Ex X rl h rl' h') (hX : ∀ i, X i → Z i) : Ex Z rl h rl' h' := fun a ha => ⟨(h1 a ha).1, fun hz => (h1 a ha).2.1 (fun q => hz (hX _ q)), (h1 a ha).2.2⟩
theorem Ex.trs (h1 : Ex X rl h rl' h') (h2' : Ex X rl' h' rl2 h2) : Ex X rl h rl2 h2 := h1.tr h2' (fun _ q => q) (fun _ q => q)
theorem Ex.put {e e0 : va_E} (h0 : h a = some e0) (hr : rl a = ρ) : Ex (fun i => i = ρ) rl h rl (hup h a e) := fun b hb => by
  refine ⟨rfl, fun hx => ?_, ?_⟩
  · exact hup_ne (fun q => hx (by rw [q, hr]))
  · by_cases q : b = a
    · rw [q, hup_same]; exact fun z => by cases z
    · rw [hup_ne q]; exact hb
theorem Ex.new {e : va_E} (h0 : h a = none) : Ex (fun _ => False) rl h (fun b => if b = a then ρ else rl b) (hup h a e) := fun b hb => by
  have hne : b ≠ a := fun q => by rw [q] at hb; exact hb h0
  exact ⟨if_neg hne, fun _ => hup_ne hne, by rw [hup_ne hne]; exact hb⟩
theorem Ob.ex {e : va_E} (h1 : Ob rl h a ρ e) (hx : Ex X rl h rl' h') (hn : ¬ X ρ) : Ob rl' h' a ρ e := by
  obtain ⟨e1, e2, -⟩ := hx a (by rw [h1.1]; exact fun z => by cases z)
  exact ⟨by rw [e2 (by rw [h1.2]; exact hn)]; exact h1.1, by rw [e1]; exact h1.2⟩
theorem Ia.ex {F : Nat → Int32} (h1 : Ia g rl h a ρ n F) (hx : Ex X rl h rl' h') (hn : ¬ X ρ) : Ia g rl' h' a ρ n F := by
  obtain ⟨⟨f, e, hf⟩, hr⟩ := h1
  obtain ⟨e1, e2⟩ := Ob.ex (e := aI g n f) ⟨e, hr⟩ hx hn
  exact ⟨⟨f, e1, hf⟩, e2⟩
theorem Ja.ex {F : Nat → Int64} (h1 : Ja g rl h a ρ n F) (hx : Ex X rl h rl' h') (hn : ¬ X ρ) : Ja g rl' h' a ρ n F := by
  obtain ⟨⟨f, e, hf⟩, hr⟩ := h1
  obtain ⟨e1, e2⟩ := Ob.ex (e := aJ g n f) ⟨e, hr⟩ hx hn
  exact ⟨⟨f, e1, hf⟩, e2⟩
theorem Za.ex {F : Nat → Int32} (h1 : Za g rl h a ρ n F) (hx : Ex X rl h rl' h') (hn : ¬ X ρ) : Za g rl' h' a ρ n F := by
  obtain ⟨⟨f, e, hf⟩, hr⟩ := h1
  obtain ⟨e1, e2⟩ := Ob.ex (e := aZ g n f) ⟨e, hr⟩ hx hn
  exact ⟨⟨f, e1, hf⟩, e2⟩
theorem Ra.ex {F : Nat → Option Nat} (h1 : Ra g t rl h a ρ n F) (hx : Ex X rl h rl' h') (hn : ¬ X ρ) : Ra g t rl' h' a ρ n F := by
  obtain ⟨⟨f, e, hf⟩, hr⟩ := h1
  obtain ⟨e1, e2⟩ := Ob.ex (e := aR g t n f) ⟨e, hr⟩ hx hn
  exact ⟨⟨f, e1, hf⟩, e2⟩
theorem Ia.eq {F F' : Nat → Int32} (h1 : Ia g rl h a ρ n F) (he : ∀ j, j < n → F j = F' j) : Ia g rl h a ρ n F' := by
  obtain ⟨⟨f, e, hf⟩, hr⟩ := h1
  exact ⟨⟨f, e, fun j hj => (hf j hj).trans (he j hj)⟩, hr⟩
theorem Ja.eq {F F' : Nat → Int64} (h1 : Ja g rl h a ρ n F) (he : ∀ j, j < n → F j = F' j) : Ja g rl h a ρ n F' := by
  obtain ⟨⟨f, e, hf⟩, hr⟩ := h1
  exact ⟨⟨f, e, fun j hj => (hf j hj).trans (he j hj)⟩, hr⟩
theorem Za.eq {F F' : Nat → Int32} (h1 : Za g rl h a ρ n F) (he : ∀ j, j < n → F j = F' j) : Za g rl h a ρ n F' := by
  obtain ⟨⟨f, e, hf⟩, hr⟩ := h1
  exact ⟨⟨f, e, fun j hj => (hf j hj).trans (he j hj)⟩, hr⟩
theorem Ra.eq {F F' : Nat → Option Nat} (h1 : Ra g t rl h a ρ n F) (he : ∀ j, j < n → F j = F' j) : Ra g t rl h a ρ n F' := by
  obtain ⟨⟨f, e, hf⟩, hr⟩ := h1
  exact ⟨⟨f, e, fun j hj => (hf j hj).trans (he j hj)⟩, hr⟩
/-! rows over them -/
theorem y_get {ci i : Nat} {fs : List Value} {cs : List Nat} {v : Value} (e : Ob rl h a ρ (.inr (ci, fs))) (hc : ci ∈ cs) (hv : fs[i]? = some v) (k : K h cb sb ls (v :: r)) : ∃ (ci : Nat) (fs : List Value) (v : Value), h a = some (.inr (ci, fs)) ∧ ci ∈ cs ∧ fs[i]? = some v ∧ K h cb sb ls (v :: r) := ⟨ci, fs, v, e.1, hc, hv, k⟩
theorem y_putI {ci i : Nat} {x : Int32} {fs fs' : List Value} {cs : List Nat} (e : Ob rl h a ρ (.inr (ci, fs))) (hc : ci ∈ cs) (hi : i < fs.length) (hf : fs.set i (.int x) = fs') (k : ∀ h', Ob rl h' a ρ (.inr (ci, fs')) → Ex (fun i => i = ρ) rl h rl h' → K h' cb sb ls r) : ∃ (ci : Nat) (fs : List Value), h a = some (.inr (ci, fs)) ∧ ci ∈ cs ∧ i < fs.length ∧ K (hup h a (.inr (ci, fs.set i (.int x)))) cb sb ls r := ⟨ci, fs, e.1, hc, hi, by rw [hf]; exact k _ ⟨hup_same, e.2⟩ (Ex.put e.1 e.2)⟩
theorem y_putR {ci i : Nat} {v : Value} {fs fs' : List Value} {cs : List Nat} (e : Ob rl h a ρ (.inr (ci, fs))) (hc : ci ∈ cs) (hi : i < fs.length) (hf : fs.set i v = fs') (k : ∀ h', Ob rl h' a ρ (.inr (ci, fs')) → Ex (fun i => i = ρ) rl h rl h' → K h' cb sb ls r) : ∃ (ci : Nat) (fs : List Value), h a = some (.inr (ci, fs)) ∧ ci ∈ cs ∧ i < fs.length ∧ K (hup h a (.inr (ci, fs.set i v))) cb sb ls r := ⟨ci, fs, e.1, hc, hi, by rw [hf]; exact k _ ⟨hup_same, e.2⟩ (Ex.put e.1 e.2)⟩
theorem y_putZ {ci i : Nat} {x : Int32} {fs fs' : List Value} {cs : List Nat} (hz : x = 0 ∨ x = 1) (e : Ob rl h a ρ (.inr (ci, fs))) (hc : ci ∈ cs) (hi : i < fs.length) (hf : fs.set i (.int x) = fs') (k : ∀ h', Ob rl h' a ρ (.inr (ci, fs')) → Ex (fun i => i = ρ) rl h rl h' → K h' cb sb ls r) : (x = 0 ∨ x = 1) ∧ ∃ (ci : Nat) (fs : List Value), h a = some (.inr (ci, fs)) ∧ ci ∈ cs ∧ i < fs.length ∧ K (hup h a (.inr (ci, fs.set i (.int x)))) cb sb ls r := ⟨hz, ci, fs, e.1, hc, hi, by rw [hf]; exact k _ ⟨hup_same, e.2⟩ (Ex.put e.1 e.2)⟩
theorem y_ia {F : Nat → Int32} {i : Int32} (j : Nat) (e : Ia g rl h a ρ n F) (hj : j < n) {y : Int32} (hy : F j = y) (k : K h cb sb ls (.int y :: r)) (hi : i = nI j := by rfl) (hn : n < 2 ^ 31 := by omega) : ∃ (n : Nat) (f : Nat → Int32), h a = some (aI g n f) ∧ vp_in i n ∧ K h cb sb ls (.int (f i.toNatClampNeg) :: r) := by
  obtain ⟨⟨f, e1, hf⟩, hr⟩ := e
  exact x_ial j e1 hj ((hf j hj).trans hy) k hi hn
theorem y_is {F : Nat → Int32} {i x : Int32} (j : Nat) (e : Ia g rl h a ρ n F) (hj : j < n) (k : ∀ h', Ia g rl h' a ρ n (upd F j x) → Ex (fun i => i = ρ) rl h rl h' → K h' cb sb ls r) (hi : i = nI j := by rfl) (hn : n < 2 ^ 31 := by omega) : ∃ (n : Nat) (f : Nat → Int32), h a = some (aI g n f) ∧ vp_in i n ∧ K (hup h a (aI g n (upd f i.toNatClampNeg x))) cb sb ls r := by
  obtain ⟨⟨f, e1, hf⟩, hr⟩ := e
  refine x_ias j e1 hj (k _ ⟨⟨_, hup_same, fun q hq => ?_⟩, hr⟩ (Ex.put e1 hr)) hi hn
  by_cases z : q = j
  · rw [z, pk_us, pk_us]
  · rw [pk_un z, pk_un z]; exact hf q hq
theorem y_ja {F : Nat → Int64} {i : Int32} (j : Nat) (e : Ja g rl h a ρ n F) (hj : j < n) {y : Int64} (hy : F j = y) (k : K h cb sb ls (.long y :: r)) (hi : i = nI j := by rfl) (hn : n < 2 ^ 31 := by omega) : ∃ (n : Nat) (f : Nat → Int64), h a = some (aJ g n f) ∧ vp_in i n ∧ K h cb sb ls (.long (f i.toNatClampNeg) :: r) := by
  obtain ⟨⟨f, e1, hf⟩, hr⟩ := e
  exact x_jal j e1 hj ((hf j hj).trans hy) k hi hn
theorem y_js {F : Nat → Int64} {i : Int32} {x : Int64} (j : Nat) (e : Ja g rl h a ρ n F) (hj : j < n) (k : ∀ h', Ja g rl h' a ρ n (vp_updL F j x) → Ex (fun i => i = ρ) rl h rl h' → K h' cb sb ls r) (hi : i = nI j := by rfl) (hn : n < 2 ^ 31 := by omega) : ∃ (n : Nat) (f : Nat → Int64), h a = some (aJ g n f) ∧ vp_in i n ∧ K (hup h a (aJ g n (vp_updL f i.toNatClampNeg x))) cb sb ls r := by
  obtain ⟨⟨f, e1, hf⟩, hr⟩ := e
  refine x_jas j e1 hj (k _ ⟨⟨_, hup_same, fun q hq => ?_⟩, hr⟩ (Ex.put e1 hr)) hi hn
  by_cases z : q = j
  · rw [z, pk_uLs, pk_uLs]
  · rw [pk_uLn z, pk_uLn z]; exact hf q hq
theorem y_za {F : Nat → Int32} {i : Int32} (j : Nat) (e : Za g rl h a ρ n F) (hj : j < n) {y : Int32} (hy : F j = y) (k : K h cb sb ls (.int y :: r)) (hi : i = nI j := by rfl) (hn : n < 2 ^ 31 := by omega) : ∃ (n : Nat) (f : Nat → Int32), h a = some (aZ g n f) ∧ vp_in i n ∧ K h cb sb ls (.int (f i.toNatClampNeg) :: r) := by
  obtain ⟨⟨f, e1, hf⟩, hr⟩ := e
  exact x_zal j e1 hj ((hf j hj).trans hy) k hi hn
theorem y_zs {F : Nat → Int32} {i x : Int32} (j : Nat) (hz : x = 0 ∨ x = 1) (e : Za g rl h a ρ n F) (hj : j < n) (k : ∀ h', Za g rl h' a ρ n (upd F j x) → Ex (fun i => i = ρ) rl h rl h' → K h' cb sb ls r) (hi : i = nI j := by rfl) (hn : n < 2 ^ 31 := by omega) : (x = 0 ∨ x = 1) ∧ ∃ (n : Nat) (f : Nat → Int32), h a = some (aZ g n f) ∧ vp_in i n ∧ K (hup h a (aZ g n (upd f i.toNatClampNeg x))) cb sb ls r := by
  obtain ⟨⟨f, e1, hf⟩, hr⟩ := e
  refine x_zas j hz e1 hj (k _ ⟨⟨_, hup_same, fun q hq => ?_⟩, hr⟩ (Ex.put e1 hr)) hi hn
  by_cases z : q = j
  · rw [z, pk_us, pk_us]
  · rw [pk_un z, pk_un z]; exact hf q hq
theorem y_ra {F : Nat → Option Nat} {i : Int32} {y : Nat} (j : Nat) (e : Ra g t rl h a ρ n F) (hj : j < n) (hy : F j = some y) (k : K h cb sb ls (.ref y :: r)) (hi : i = nI j := by rfl) (hn : n < 2 ^ 31 := by omega) : ∃ (n : Nat) (f : Nat → Option Nat) (y : Nat), h a = some (aR g t n f) ∧ vp_in i n ∧ f i.toNatClampNeg = some y ∧ K h cb sb ls (.ref y :: r) := by
  obtain ⟨⟨f, e1, hf⟩, hr⟩ := e
  exact x_ral j e1 hj ((hf j hj).trans hy) k hi hn
theorem y_rs {F : Nat → Option Nat} {i : Int32} {v ρv ci : Nat} {fs : List Value} {cs : List Nat} (j : Nat) (e : Ra g t rl h a ρ n F) (hj : j < n) (ev : Ob rl h v ρv (.inr (ci, fs))) (hc : ci ∈ cs) (k : ∀ h', Ra g t rl h' a ρ n (va_up F j (some v)) → Ex (fun i => i = ρ) rl h rl h' → K h' cb sb ls r) (hi : i = nI j := by rfl) (hn : n < 2 ^ 31 := by omega) : ∃ (n : Nat) (f : Nat → Option Nat) (ci : Nat) (fs : List Value), h a = some (aR g t n f) ∧ h v = some (.inr (ci, fs)) ∧ ci ∈ cs ∧ vp_in i n ∧ K (hup h a (aR g t n (va_up f i.toNatClampNeg (some v)))) cb sb ls r := by
  obtain ⟨⟨f, e1, hf⟩, hr⟩ := e
  refine x_ras j e1 hj ev.1 hc (k _ ⟨⟨_, hup_same, fun q hq => ?_⟩, hr⟩ (Ex.put e1 hr)) hi hn
  unfold va_up
  by_cases z : q = j
  · rw [if_pos z, if_pos z]
  · rw [if_neg z, if_neg z]; exact hf q hq
theorem y_callV {d : MD} {tab : List (Nat × MD)} {n mc ms b ci ρ : Nat} {fs : List Value} (hb : (st.take n).getLast? = some (.ref b)) (e : Ob rl h b ρ (.inr (ci, fs))) (ht : (ci, d) ∈ tab) (hrun : Run l g d (st.take n).reverse h mc ms (fun r h' => K h' (cb - mc) (sb - ms) ls (r.toList ++ st.drop n))) (hck : chkS n st = true := by rfl) (h1 : mc ≤ cb := by omega) (h2 : ms ≤ sb := by omega) :
    chkS n st = true ∧ ∃ (b ci : Nat) (fs : List Value) (d : MD), (st.take n).getLast? = some (.ref b) ∧ h b = some (.inr (ci, fs)) ∧ (ci, d) ∈ tab ∧ ∃ mc ms : Nat, mc ≤ cb ∧ ms ≤ sb ∧ Run l g d (st.take n).reverse h mc ms (fun r h' => K h' (cb - mc) (sb - ms) ls (r.toList ++ st.drop n)) := ⟨hck, b, ci, fs, d, hb, e.1, ht, mc, ms, h1, h2, hrun⟩
/-- a call of the one method that the class has -/
theorem y_call1 {d : MD} {n mc ms b ci ρ : Nat} {fs : List Value} (e : Ob rl h b ρ (.inr (ci, fs))) (hrun : Run l g d (st.take n).reverse h mc ms (fun r h' => K h' (cb - mc) (sb - ms) ls (r.toList ++ st.drop n))) (hb : (st.take n).getLast? = some (.ref b) := by rfl) (hck : chkS n st = true := by rfl) (h1 : mc ≤ cb := by omega) (h2 : ms ≤ sb := by omega) :
    chkS n st = true ∧ ∃ (b ci' : Nat) (fs : List Value) (d' : MD), (st.take n).getLast? = some (.ref b) ∧ h b = some (.inr (ci', fs)) ∧ (ci', d') ∈ [(ci, d)] ∧ ∃ mc ms : Nat, mc ≤ cb ∧ ms ≤ sb ∧ Run l g d' (st.take n).reverse h mc ms (fun r h' => K h' (cb - mc) (sb - ms) ls (r.toList ++ st.drop n)) := ⟨hck, b, ci, fs, d, hb, e.1, List.mem_singleton.mpr rfl, mc, ms, h1, h2, hrun⟩
theorem y_callS {d : MD} {n mc ms : Nat} (hrun : Run l g d (st.take n).reverse h mc ms (fun r h' => K h' (cb - mc) (sb - ms) ls (r.toList ++ st.drop n))) (hck : chkS n st = true := by rfl) (h1 : mc ≤ cb := by omega) (h2 : ms ≤ sb := by omega) : chkS n st = true ∧ ∃ mc ms : Nat, mc ≤ cb ∧ ms ≤ sb ∧ Run l g d (st.take n).reverse h mc ms (fun r h' => K h' (cb - mc) (sb - ms) ls (r.toList ++ st.drop n)) := ⟨hck, mc, ms, h1, h2, hrun⟩
end BASE
theorem nI_lit (n : Nat) : (OfNat.ofNat n : Int32) = nI n := rfl
theorem i0 : (0 : Int32) = nI 0 := rfl
theorem i1 : (1 : Int32) = nI 1 := rfl
theorem zb {c : Prop} [Decidable c] : (if c then (1 : Int32) else 0) = 0 ∨ (if c then (1 : Int32) else 0) = 1 := by by_cases h : c <;> simp [h]
/-- a truth value as the machine has it -/
def bP (c : Prop) [Decidable c] : Int32 := if c then 1 else 0
theorem bP_1 {c : Prop} [Decidable c] (h : c) : bP c = 1 := if_pos h
theorem bP_0 {c : Prop} [Decidable c] (h : ¬ c) : bP c = 0 := if_neg h
theorem bP_or {c : Prop} [Decidable c] : bP c = 0 ∨ bP c = 1 := by
  by_cases h : c
  · exact Or.inr (bP_1 h)
  · exact Or.inl (bP_0 h)
theorem bP_iff {c d : Prop} [Decidable c] [Decidable d] (h : c ↔ d) : bP c = bP d := by
  by_cases hd : d
  · rw [bP_1 hd, bP_1 (h.mpr hd)]
  · rw [bP_0 hd, bP_0 (fun q => hd (h.mp q))]
theorem b_Z {c A B : Prop} [Decidable c] (f : ¬ c → A) (k : c → B) : (bP c = 0 → A) ∧ (¬ bP c = 0 → B) := by
  by_cases h : c
  · rw [bP_1 h]; exact ⟨fun q => absurd q (by decide), fun _ => k h⟩
  · rw [bP_0 h]; exact ⟨fun _ => f h, fun q => absurd rfl q⟩
theorem z0 {c : Prop} [Decidable c] {K : PT} {h : Hp} (hc : ¬ c) (hK : K (some (.int (bP c))) h) : ((0 : Int32) = 0 ∨ (0 : Int32) = 1) ∧ K (some (.int 0)) h := by
  rw [bP_0 hc] at hK
  exact ⟨Or.inl rfl, hK⟩
theorem z1 {c : Prop} [Decidable c] {K : PT} {h : Hp} (hc : c) (hK : K (some (.int (bP c))) h) : ((1 : Int32) = 0 ∨ (1 : Int32) = 1) ∧ K (some (.int 1)) h := by
  rw [bP_1 hc] at hK
  exact ⟨Or.inr rfl, hK⟩
theorem b_cases {c A B : Prop} (f : c → A) (k : ¬ c → B) : (c → A) ∧ (¬ c → B) := ⟨f, k⟩

