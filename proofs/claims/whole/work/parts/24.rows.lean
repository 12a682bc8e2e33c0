/-! ===== rows for what must hold: an access of the heap, a branch, a call ===== -/
section XR
variable {l : Launch} {g : Gm} {h : Hp} {cb sb : Nat} {ls : LocS} {r st : List Value} {K : CT}
theorem x_get {a ci i : Nat} {fs : List Value} {cs : List Nat} {v : Value} (e : h a = some (.inr (ci, fs))) (hc : ci ∈ cs) (hv : fs[i]? = some v) (k : K h cb sb ls (v :: r)) : ∃ (ci : Nat) (fs : List Value) (v : Value), h a = some (.inr (ci, fs)) ∧ ci ∈ cs ∧ fs[i]? = some v ∧ K h cb sb ls (v :: r) := ⟨ci, fs, v, e, hc, hv, k⟩
theorem x_putI {a ci i : Nat} {x : Int32} {fs fs' : List Value} {cs : List Nat} (e : h a = some (.inr (ci, fs))) (hc : ci ∈ cs) (hi : i < fs.length) (hf : fs.set i (.int x) = fs') (k : K (hup h a (.inr (ci, fs'))) cb sb ls r) : ∃ (ci : Nat) (fs : List Value), h a = some (.inr (ci, fs)) ∧ ci ∈ cs ∧ i < fs.length ∧ K (hup h a (.inr (ci, fs.set i (.int x)))) cb sb ls r := ⟨ci, fs, e, hc, hi, by rw [hf]; exact k⟩
theorem x_putR {a ci i : Nat} {v : Value} {fs fs' : List Value} {cs : List Nat} (e : h a = some (.inr (ci, fs))) (hc : ci ∈ cs) (hi : i < fs.length) (hf : fs.set i v = fs') (k : K (hup h a (.inr (ci, fs'))) cb sb ls r) : ∃ (ci : Nat) (fs : List Value), h a = some (.inr (ci, fs)) ∧ ci ∈ cs ∧ i < fs.length ∧ K (hup h a (.inr (ci, fs.set i v))) cb sb ls r := ⟨ci, fs, e, hc, hi, by rw [hf]; exact k⟩
theorem x_putZ {a ci i : Nat} {x : Int32} {fs fs' : List Value} {cs : List Nat} (hz : x = 0 ∨ x = 1) (e : h a = some (.inr (ci, fs))) (hc : ci ∈ cs) (hi : i < fs.length) (hf : fs.set i (.int x) = fs') (k : K (hup h a (.inr (ci, fs'))) cb sb ls r) : (x = 0 ∨ x = 1) ∧ ∃ (ci : Nat) (fs : List Value), h a = some (.inr (ci, fs)) ∧ ci ∈ cs ∧ i < fs.length ∧ K (hup h a (.inr (ci, fs.set i (.int x)))) cb sb ls r := ⟨hz, ci, fs, e, hc, hi, by rw [hf]; exact k⟩
theorem x_len {a n : Nat} {f : Nat → Int32} (e : h a = some (aI g n f)) (k : K h cb sb ls (.int (nI n) :: r)) : ∃ (n : Nat) (f : Nat → Int32), h a = some (aI g n f) ∧ K h cb sb ls (.int (nI n) :: r) := ⟨n, f, e, k⟩
/-- element j of an int array -/
theorem x_ial {a n : Nat} {f : Nat → Int32} {i : Int32} (j : Nat) (e : h a = some (aI g n f)) (hj : j < n) {y : Int32} (hy : f j = y) (k : K h cb sb ls (.int y :: r)) (hi : i = nI j := by rfl) (hn : n < 2 ^ 31 := by omega) : ∃ (n : Nat) (f : Nat → Int32), h a = some (aI g n f) ∧ vp_in i n ∧ K h cb sb ls (.int (f i.toNatClampNeg) :: r) := by
  subst hi hy
  exact ⟨n, f, e, vp_in_nI hj hn, by rw [nI_clamp (by omega)]; exact k⟩
theorem x_ias {a n : Nat} {f : Nat → Int32} {i x : Int32} (j : Nat) (e : h a = some (aI g n f)) (hj : j < n) (k : K (hup h a (aI g n (upd f j x))) cb sb ls r) (hi : i = nI j := by rfl) (hn : n < 2 ^ 31 := by omega) : ∃ (n : Nat) (f : Nat → Int32), h a = some (aI g n f) ∧ vp_in i n ∧ K (hup h a (aI g n (upd f i.toNatClampNeg x))) cb sb ls r := by
  subst hi
  exact ⟨n, f, e, vp_in_nI hj hn, by rw [nI_clamp (by omega)]; exact k⟩
theorem x_jal {a n : Nat} {f : Nat → Int64} {i : Int32} (j : Nat) (e : h a = some (aJ g n f)) (hj : j < n) {y : Int64} (hy : f j = y) (k : K h cb sb ls (.long y :: r)) (hi : i = nI j := by rfl) (hn : n < 2 ^ 31 := by omega) : ∃ (n : Nat) (f : Nat → Int64), h a = some (aJ g n f) ∧ vp_in i n ∧ K h cb sb ls (.long (f i.toNatClampNeg) :: r) := by
  subst hi hy
  exact ⟨n, f, e, vp_in_nI hj hn, by rw [nI_clamp (by omega)]; exact k⟩
theorem x_jas {a n : Nat} {f : Nat → Int64} {i : Int32} {x : Int64} (j : Nat) (e : h a = some (aJ g n f)) (hj : j < n) (k : K (hup h a (aJ g n (vp_updL f j x))) cb sb ls r) (hi : i = nI j := by rfl) (hn : n < 2 ^ 31 := by omega) : ∃ (n : Nat) (f : Nat → Int64), h a = some (aJ g n f) ∧ vp_in i n ∧ K (hup h a (aJ g n (vp_updL f i.toNatClampNeg x))) cb sb ls r := by
  subst hi
  exact ⟨n, f, e, vp_in_nI hj hn, by rw [nI_clamp (by omega)]; exact k⟩
theorem x_zal {a n : Nat} {f : Nat → Int32} {i : Int32} (j : Nat) (e : h a = some (aZ g n f)) (hj : j < n) {y : Int32} (hy : f j = y) (k : K h cb sb ls (.int y :: r)) (hi : i = nI j := by rfl) (hn : n < 2 ^ 31 := by omega) : ∃ (n : Nat) (f : Nat → Int32), h a = some (aZ g n f) ∧ vp_in i n ∧ K h cb sb ls (.int (f i.toNatClampNeg) :: r) := by
  subst hi hy
  exact ⟨n, f, e, vp_in_nI hj hn, by rw [nI_clamp (by omega)]; exact k⟩
theorem x_zas {a n : Nat} {f : Nat → Int32} {i x : Int32} (j : Nat) (hz : x = 0 ∨ x = 1) (e : h a = some (aZ g n f)) (hj : j < n) (k : K (hup h a (aZ g n (upd f j x))) cb sb ls r) (hi : i = nI j := by rfl) (hn : n < 2 ^ 31 := by omega) : (x = 0 ∨ x = 1) ∧ ∃ (n : Nat) (f : Nat → Int32), h a = some (aZ g n f) ∧ vp_in i n ∧ K (hup h a (aZ g n (upd f i.toNatClampNeg x))) cb sb ls r := by
  subst hi
  exact ⟨hz, n, f, e, vp_in_nI hj hn, by rw [nI_clamp (by omega)]; exact k⟩
theorem x_ral {a n t y : Nat} {f : Nat → Option Nat} {i : Int32} (j : Nat) (e : h a = some (aR g t n f)) (hj : j < n) (hy : f j = some y) (k : K h cb sb ls (.ref y :: r)) (hi : i = nI j := by rfl) (hn : n < 2 ^ 31 := by omega) : ∃ (n : Nat) (f : Nat → Option Nat) (y : Nat), h a = some (aR g t n f) ∧ vp_in i n ∧ f i.toNatClampNeg = some y ∧ K h cb sb ls (.ref y :: r) := by
  subst hi
  exact ⟨n, f, y, e, vp_in_nI hj hn, by rw [nI_clamp (by omega)]; exact hy, k⟩
theorem x_ras {a n t v ci : Nat} {fs : List Value} {cs : List Nat} {f : Nat → Option Nat} {i : Int32} (j : Nat) (e : h a = some (aR g t n f)) (hj : j < n) (ev : h v = some (.inr (ci, fs))) (hc : ci ∈ cs) (k : K (hup h a (aR g t n (va_up f j (some v)))) cb sb ls r) (hi : i = nI j := by rfl) (hn : n < 2 ^ 31 := by omega) : ∃ (n : Nat) (f : Nat → Option Nat) (ci : Nat) (fs : List Value), h a = some (aR g t n f) ∧ h v = some (.inr (ci, fs)) ∧ ci ∈ cs ∧ vp_in i n ∧ K (hup h a (aR g t n (va_up f i.toNatClampNeg (some v)))) cb sb ls r := by
  subst hi
  exact ⟨n, f, ci, fs, e, ev, hc, vp_in_nI hj hn, by rw [nI_clamp (by omega)]; exact k⟩
theorem x_call {d : MD} {n mc ms : Nat} (hck : chkS n st = true) (hrun : Run l g d (st.take n).reverse h mc ms (fun r h' => K h' (cb - mc) (sb - ms) ls (r.toList ++ st.drop n))) (h1 : mc ≤ cb := by omega) (h2 : ms ≤ sb := by omega) : chkS n st = true ∧ ∃ mc ms : Nat, mc ≤ cb ∧ ms ≤ sb ∧ Run l g d (st.take n).reverse h mc ms (fun r h' => K h' (cb - mc) (sb - ms) ls (r.toList ++ st.drop n)) := ⟨hck, mc, ms, h1, h2, hrun⟩
theorem x_callI {d : MD} {n mc ms b : Nat} (hb : (st.take (n + 1)).getLast? = some (.ref b)) (hck : chkS (n + 1) st = true) (hrun : Run l g d (st.take (n + 1)).reverse h mc ms (fun r h' => K h' (cb - mc) (sb - ms) ls (r.toList ++ st.drop (n + 1)))) (h1 : mc ≤ cb := by omega) (h2 : ms ≤ sb := by omega) : (∃ b, (st.take (n + 1)).getLast? = some (.ref b)) ∧ oCall l g d (n + 1) K h cb sb ls st := ⟨⟨b, hb⟩, hck, mc, ms, h1, h2, hrun⟩
theorem x_callV {d : MD} {tab : List (Nat × MD)} {n mc ms b ci : Nat} {fs : List Value} (hck : chkS n st = true) (hb : (st.take n).getLast? = some (.ref b)) (e : h b = some (.inr (ci, fs))) (ht : (ci, d) ∈ tab) (hrun : Run l g d (st.take n).reverse h mc ms (fun r h' => K h' (cb - mc) (sb - ms) ls (r.toList ++ st.drop n))) (h1 : mc ≤ cb := by omega) (h2 : ms ≤ sb := by omega) :
    chkS n st = true ∧ ∃ (b ci : Nat) (fs : List Value) (d : MD), (st.take n).getLast? = some (.ref b) ∧ h b = some (.inr (ci, fs)) ∧ (ci, d) ∈ tab ∧ ∃ mc ms : Nat, mc ≤ cb ∧ ms ≤ sb ∧ Run l g d (st.take n).reverse h mc ms (fun r h' => K h' (cb - mc) (sb - ms) ls (r.toList ++ st.drop n)) := ⟨hck, b, ci, fs, d, hb, e, ht, mc, ms, h1, h2, hrun⟩
end XR
/-- a branch on numbers that are small: by the numbers themselves -/
theorem b_ge {x y : Int32} {A B : Prop} (a b : Nat) (f : b ≤ a → A) (k : a < b → B) (hx : x = nI a := by rfl) (hy : y = nI b := by rfl) (ha : a < 2 ^ 31 := by omega) (hb : b < 2 ^ 31 := by omega) : (y ≤ x → A) ∧ (¬ y ≤ x → B) := pk_le b a f k hy hx hb ha
theorem b_gt {x y : Int32} {A B : Prop} (a b : Nat) (f : b < a → A) (k : a ≤ b → B) (hx : x = nI a := by rfl) (hy : y = nI b := by rfl) (ha : a < 2 ^ 31 := by omega) (hb : b < 2 ^ 31 := by omega) : (y < x → A) ∧ (¬ y < x → B) := pk_lt b a f k hy hx hb ha
theorem b_yes {c A B : Prop} (hc : c) (a : A) : (c → A) ∧ (¬ c → B) := ⟨fun _ => a, fun n => absurd hc n⟩
theorem b_no {c A B : Prop} (hc : ¬ c) (b : B) : (c → A) ∧ (¬ c → B) := ⟨fun n => absurd n hc, fun _ => b⟩

