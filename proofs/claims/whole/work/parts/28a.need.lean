/-! ===== how many are ahead: what the numbers nd are ===== -/
/-- letters: sent once, got once, got only where sent, in another village -/
def LtOk (L : Ld) : Prop := (∀ v t w o, v < vn L → t < tn L v → w < vn L → o < tn L w → wh L v t ≠ 0 → wh L v t = wh L w o → dg L v t = dg L w o → v = w ∧ t = o) ∧
  ∀ v t, v < vn L → t < tn L v → wh L v t = 2 → ∃ a b, a < vn L ∧ b < tn L a ∧ wh L a b = 1 ∧ dg L a b = dg L v t ∧ a ≠ v
/-- the letter that (v, t) gets is sent by (a, b) -/
def Snd (L : Ld) (v t a b : Nat) : Prop := wh L v t = 2 ∧ a < vn L ∧ b < tn L a ∧ wh L a b = 1 ∧ dg L a b = dg L v t
def Need (L : Ld) (nd : Nat → Nat → Nat → Nat) : Prop :=
  (∀ v t, v < vn L → t < tn L v → nd v t v = t ∧ ∀ u, u < 4 → (0 < t → nd v (t - 1) u ≤ nd v t u) ∧ (∀ a b, Snd L v t a b → b < nd v t a ∧ nd a b u ≤ nd v t u) ∧
    ((u = v ∧ nd v t u = t) ∨ nd v t u = 0 ∨ (0 < t ∧ nd v t u = nd v (t - 1) u) ∨ ∃ a b, Snd L v t a b ∧ (nd v t u = nd a b u ∨ (u = a ∧ nd v t u = b + 1)))) ∧
  ∃ rk : Nat → Nat → Nat, ∀ v t, v < vn L → t < tn L v → (0 < t → rk v (t - 1) < rk v t) ∧ ∀ a b, Snd L v t a b → rk a b < rk v t
section NEED
variable {L : Ld} {nd : Nat → Nat → Nat → Nat}
theorem nd_ind (hN : Need L nd) {P : Nat → Nat → Prop} (step : ∀ v t, v < vn L → t < tn L v → (0 < t → P v (t - 1)) → (∀ a b, Snd L v t a b → P a b) → P v t) : ∀ v t, v < vn L → t < tn L v → P v t := by
  obtain ⟨-, rk, hr⟩ := hN
  have key : ∀ n v t, rk v t < n → v < vn L → t < tn L v → P v t := by
    intro n
    induction n with
    | zero => intro v t h; omega
    | succ n ih =>
      intro v t h hv ht
      obtain ⟨r1, r2⟩ := hr v t hv ht
      exact step v t hv ht (fun h0 => ih v (t - 1) (by have := r1 h0; omega) hv (by omega)) (fun a b hs => ih a b (by have := r2 a b hs; omega) hs.2.1 hs.2.2.1)
  exact fun v t hv ht => key (rk v t + 1) v t (by omega) hv ht
theorem nd_bd (hL : LdOk L) (hN : Need L nd) {v t u : Nat} (hv : v < vn L) (ht : t < tn L v) (hu : u < 4) : nd v t u ≤ 5 ∧ (u < vn L → nd v t u ≤ tn L u) := by
  refine nd_ind hN (P := fun v t => nd v t u ≤ 5 ∧ (u < vn L → nd v t u ≤ tn L u)) (fun v t hv ht h1 h2 => ?_) v t hv ht
  obtain ⟨-, -, -, e⟩ := (hN.1 v t hv ht).1, ((hN.1 v t hv ht).2 u hu).1, ((hN.1 v t hv ht).2 u hu).2.1, ((hN.1 v t hv ht).2 u hu).2.2
  have b2 := (hL.2 v hv).2.2.1
  rcases e with ⟨e1, e2⟩ | e2 | ⟨e1, e2⟩ | ⟨a, b, hs, e2 | ⟨e1, e2⟩⟩
  · subst e1; exact ⟨by omega, fun _ => by omega⟩
  · exact ⟨by omega, fun _ => by omega⟩
  · rw [e2]; exact h1 e1
  · rw [e2]; exact h2 a b hs
  · subst e1
    have := hs.2.2.1
    have b3 := (hL.2 u hs.2.1).2.2.1
    exact ⟨by omega, fun _ => by omega⟩
theorem nd_self (hN : Need L nd) {v t : Nat} (hv : v < vn L) (ht : t < tn L v) : nd v t v = t := (hN.1 v t hv ht).1
theorem nd_mono (hN : Need L nd) {v u : Nat} (hv : v < vn L) (hu : u < 4) : ∀ k t, t + k < tn L v → nd v t u ≤ nd v (t + k) u
  | 0, _, _ => Nat.le_refl _
  | k + 1, t, h => by
    have h1 := nd_mono hN hv hu k t (by omega)
    have h2 := ((hN.1 v (t + k + 1) hv (by omega)).2 u hu).1 (by omega)
    rw [show t + k + 1 - 1 = t + k by omega] at h2
    exact Nat.le_trans h1 h2
theorem nd_mn (hN : Need L nd) {v u t o : Nat} (hv : v < vn L) (hu : u < 4) (h : t ≤ o) (ho : o < tn L v) : nd v t u ≤ nd v o u := by
  have := nd_mono hN hv hu (o - t) t (by omega)
  rwa [show t + (o - t) = o by omega] at this
/-- what is ahead of one that is ahead is ahead -/
theorem nd_tr (hL : LdOk L) (hN : Need L nd) {v t u w : Nat} (hv : v < vn L) (ht : t < tn L v) (hu : u < vn L) (hw : w < 4) (h0 : 0 < nd v t u) : nd u (nd v t u - 1) w ≤ nd v t w := by
  have b1 := hL.1
  refine nd_ind hN (P := fun v t => 0 < nd v t u → nd u (nd v t u - 1) w ≤ nd v t w) (fun v t hv ht h1 h2 h0 => ?_) v t hv ht h0
  have n2 := ((hN.1 v t hv ht).2 w hw).1
  have n3 := ((hN.1 v t hv ht).2 w hw).2.1
  rcases ((hN.1 v t hv ht).2 u (by omega)).2.2 with ⟨e1, e2⟩ | e2 | ⟨e1, e2⟩ | ⟨a, b, hs, e2 | ⟨e1, e2⟩⟩
  · subst e1; rw [e2]; exact n2 (by omega)
  · omega
  · rw [e2] at h0 ⊢; exact Nat.le_trans (h1 e1 h0) (n2 e1)
  · rw [e2] at h0 ⊢; exact Nat.le_trans (h2 a b hs h0) (n3 a b hs).2
  · subst e1
    rw [e2, Nat.add_sub_cancel]
    exact (n3 u b hs).2
end NEED
abbrev LnOk (L : Ld) (nd : Nat → Nat → Nat → Nat) (c : Nat → Nat) : Prop := LtOk L ∧ Need L nd ∧ Cbe L nd c
theorem cbe_0 {L : Ld} {nd : Nat → Nat → Nat → Nat} : Cbe L nd (fun _ => 0) := fun v _ u _ h => absurd h (Nat.lt_irrefl 0)
def updN (f : Nat → Nat) (k x : Nat) : Nat → Nat := fun j => if j = k then x else f j
theorem updN_s {f : Nat → Nat} {k x : Nat} : updN f k x k = x := if_pos rfl
theorem updN_n {f : Nat → Nat} {k x j : Nat} (h : j ≠ k) : updN f k x j = f j := if_neg h
theorem updN_ge (c : Nat → Nat) (v u : Nat) : c u ≤ updN c v (c v + 1) u := by
  unfold updN
  by_cases e : u = v
  · rw [if_pos e, e]; omega
  · rw [if_neg e]; exact Nat.le_refl _
theorem cbe_up {L : Ld} {nd : Nat → Nat → Nat → Nat} {c : Nat → Nat} {v : Nat} (hc : Cbe L nd c) (hr : Rdy L nd c v) : Cbe L nd (updN c v (c v + 1)) := by
  intro w hw u hu h0
  by_cases e : w = v
  · subst e
    rw [updN_s, Nat.add_sub_cancel]
    exact Nat.le_trans (hr.2 u hu) (updN_ge c w u)
  · rw [updN_n e] at h0 ⊢
    exact Nat.le_trans (hc w hw u hu h0) (updN_ge c v u)
theorem cut_up {L : Ld} {nd : Nat → Nat → Nat → Nat} {c : Nat → Nat} {v : Nat} (hc : CutOk L c) (hr : Rdy L nd c v) : CutOk L (updN c v (c v + 1)) := by
  intro w hw
  by_cases e : w = v
  · subst e; rw [updN_s]; exact hr.1
  · rw [updN_n e]; exact hc w hw
/-! the least cut that can be and has all of a cut -/
def mxn (f : Nat → Nat) : Nat → Nat
  | 0 => 0
  | n + 1 => max (mxn f n) (f n)
theorem mxn_ge {f : Nat → Nat} : ∀ {n k : Nat}, k < n → f k ≤ mxn f n
  | n + 1, k, h => by
    unfold mxn
    by_cases e : k = n
    · subst e; omega
    · have := mxn_ge (f := f) (n := n) (k := k) (by omega); omega
theorem mxn_le {f : Nat → Nat} {b : Nat} : ∀ {n : Nat}, (∀ k, k < n → f k ≤ b) → mxn f n ≤ b
  | 0, _ => Nat.zero_le _
  | n + 1, h => by
    unfold mxn
    have h1 := mxn_le (f := f) (b := b) (n := n) (fun k hk => h k (by omega))
    have h2 := h n (by omega)
    omega
theorem mxn_at {f : Nat → Nat} : ∀ {n : Nat}, 0 < mxn f n → ∃ k, k < n ∧ f k = mxn f n
  | 0, h => absurd h (Nat.lt_irrefl 0)
  | n + 1, h => by
    unfold mxn at h ⊢
    by_cases e : mxn f n ≤ f n
    · exact ⟨n, by omega, by omega⟩
    · obtain ⟨k, hk, h2⟩ := mxn_at (f := f) (n := n) (by omega)
      exact ⟨k, by omega, by omega⟩
def Cl (L : Ld) (nd : Nat → Nat → Nat → Nat) (c : Nat → Nat) (u : Nat) : Nat := max (c u) (mxn (fun v => if 0 < c v then nd v (c v - 1) u else 0) (vn L))
section CL
variable {L : Ld} {nd : Nat → Nat → Nat → Nat} {c d : Nat → Nat}
theorem cl_ge (u : Nat) : c u ≤ Cl L nd c u := Nat.le_max_left _ _
theorem cl_nd {v u : Nat} (hv : v < vn L) (h : 0 < c v) : nd v (c v - 1) u ≤ Cl L nd c u := by
  have := mxn_ge (f := fun v => if 0 < c v then nd v (c v - 1) u else 0) hv
  rw [if_pos h] at this
  exact Nat.le_trans this (Nat.le_max_right _ _)
theorem cl_at (u : Nat) : Cl L nd c u = c u ∨ ∃ v, v < vn L ∧ 0 < c v ∧ Cl L nd c u = nd v (c v - 1) u ∧ 0 < Cl L nd c u := by
  unfold Cl
  by_cases e : mxn (fun v => if 0 < c v then nd v (c v - 1) u else 0) (vn L) ≤ c u
  · exact Or.inl (by omega)
  · obtain ⟨k, hk, h2⟩ := mxn_at (f := fun v => if 0 < c v then nd v (c v - 1) u else 0) (n := vn L) (by omega)
    refine Or.inr ⟨k, hk, ?_⟩
    by_cases e2 : 0 < c k
    · simp only [if_pos e2] at h2
      exact ⟨e2, by omega, by omega⟩
    · simp only [if_neg e2] at h2
      omega
theorem cl_ok (hL : LdOk L) (hN : Need L nd) (hc : CutOk L c) : CutOk L (Cl L nd c) := by
  intro u hu
  have b1 := hL.1
  rcases cl_at (L := L) (nd := nd) (c := c) u with e | ⟨v, hv, h0, e, -⟩
  · rw [e]; exact hc u hu
  · rw [e]
    exact (nd_bd hL hN hv (by have := hc v hv; omega) (by omega)).2 hu
theorem cl_cbe (hL : LdOk L) (hN : Need L nd) (hc : CutOk L c) : Cbe L nd (Cl L nd c) := by
  intro v hv u hu h0
  have b1 := hL.1
  rcases cl_at (L := L) (nd := nd) (c := c) v with e | ⟨w, hw, h1, e, h2⟩
  · rw [e] at h0 ⊢
    exact cl_nd hv h0
  · rw [e] at h0 ⊢
    have hcw := hc w hw
    exact Nat.le_trans (nd_tr hL hN hw (by omega) hv (by omega) h0) (cl_nd hw h1)
/-- it is below each that can be and has all of c -/
theorem cl_least (hL : LdOk L) (hN : Need L nd) (hd : CutOk L d) (hcd : ∀ v, v < vn L → c v ≤ d v) (hb : Cbe L nd d) {u : Nat} (hu : u < vn L) : Cl L nd c u ≤ d u := by
  have b1 := hL.1
  rcases cl_at (L := L) (nd := nd) (c := c) u with e | ⟨v, hv, h0, e, -⟩
  · rw [e]; exact hcd u hu
  · rw [e]
    have h1 := hcd v hv
    have h2 := hd v hv
    exact Nat.le_trans (nd_mn hN hv (by omega) (by omega) (by omega)) (hb v hv u hu (by omega))
end CL

