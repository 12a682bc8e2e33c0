/-! ===== places of cuts: figures to several bases ===== -/
def gst (r : Nat → Nat) : Nat → Nat
  | 0 => 1
  | v + 1 => gst r v * (r v + 1)
def gdig (r : Nat → Nat) (p v : Nat) : Nat := p / gst r v % (r v + 1)
def gnum (r : Nat → Nat) (c : Nat → Nat) (n : Nat) : Nat := sm (fun v => c v * gst r v) n
section PLACE
variable {r c d : Nat → Nat}
theorem gst_s (r : Nat → Nat) (v : Nat) : gst r (v + 1) = gst r v * (r v + 1) := rfl
theorem gst_pos (r : Nat → Nat) : ∀ v, 0 < gst r v
  | 0 => Nat.one_pos
  | v + 1 => Nat.mul_pos (gst_pos r v) (Nat.succ_pos _)
theorem gnum_s (r c : Nat → Nat) (n : Nat) : gnum r c (n + 1) = gnum r c n + c n * gst r n := rfl
theorem gdig_le (p v : Nat) : gdig r p v ≤ r v := Nat.le_of_lt_succ (Nat.mod_lt _ (Nat.succ_pos _))
theorem gnum_lt : ∀ {n : Nat}, (∀ v, v < n → c v ≤ r v) → gnum r c n < gst r n
  | 0, _ => Nat.one_pos
  | n + 1, h => by
    have h1 := gnum_lt (n := n) (fun v hv => h v (by omega))
    have h2 := Nat.mul_le_mul_right (gst r n) (h n (by omega))
    rw [gnum_s, gst_s, Nat.mul_comm (gst r n), Nat.succ_mul]
    omega
theorem gnum_congr : ∀ {n : Nat}, (∀ v, v < n → c v = d v) → gnum r c n = gnum r d n
  | 0, _ => rfl
  | n + 1, h => by rw [gnum_s, gnum_s, gnum_congr (n := n) (fun v hv => h v (by omega)), h n (by omega)]
theorem gmod (p : Nat) : ∀ n, p % gst r n = gnum r (gdig r p) n
  | 0 => by show p % 1 = 0; omega
  | n + 1 => by
    rw [gnum_s, gst_s, Nat.mod_mul, gmod p n]
    unfold gdig
    rw [Nat.mul_comm]
theorem gnum_dig {p n : Nat} (h : p < gst r n) : gnum r (gdig r p) n = p := by rw [← gmod, Nat.mod_eq_of_lt h]
theorem gst_dvd {v : Nat} : ∀ k, gst r v ∣ gst r (v + k)
  | 0 => Nat.dvd_refl _
  | k + 1 => by
    show gst r v ∣ gst r (v + k) * _
    exact Nat.dvd_trans (gst_dvd k) (Nat.dvd_mul_right _ _)
theorem gdig_num {n v : Nat} (h : ∀ w, w < n → c w ≤ r w) (hv : v < n) : gdig r (gnum r c n) v = c v := by
  have e1 : ∀ k, v + 1 + k ≤ n → gnum r c (v + 1 + k) % gst r (v + 1) = gnum r c (v + 1) := by
    intro k
    induction k with
    | zero => intro _; exact Nat.mod_eq_of_lt (gnum_lt (fun w hw => h w (by omega)))
    | succ k ih =>
      intro hk
      show gnum r c (v + 1 + k + 1) % gst r (v + 1) = _
      rw [gnum_s]
      obtain ⟨z, hz⟩ := gst_dvd (r := r) (v := v + 1) k
      rw [hz, show c (v + 1 + k) * (gst r (v + 1) * z) = gst r (v + 1) * (c (v + 1 + k) * z) by rw [Nat.mul_left_comm], Nat.add_mul_mod_self_left]
      exact ih (by omega)
  have e2 := e1 (n - (v + 1)) (by omega)
  rw [show v + 1 + (n - (v + 1)) = n by omega] at e2
  have e3 : gdig r (gnum r c n) v = (gnum r c n % gst r (v + 1)) / gst r v := by
    unfold gdig
    rw [gst_s, Nat.mod_mul_right_div_self]
  rw [e3, e2, gnum_s, Nat.add_mul_div_right _ _ (gst_pos r v), Nat.div_eq_of_lt (gnum_lt (fun w hw => h w (by omega)))]
  omega
theorem gnum_up {v x : Nat} : ∀ {n : Nat}, v < n → gnum r (updN c v x) n + c v * gst r v = gnum r c n + x * gst r v
  | n + 1, h => by
    rw [gnum_s, gnum_s]
    by_cases e : v = n
    · subst e
      rw [updN_s, gnum_congr (c := updN c v x) (d := c) (n := v) (fun w hw => updN_n (by omega))]
      omega
    · have := gnum_up (v := v) (x := x) (n := n) (by omega)
      rw [updN_n (Ne.symm e)]
      omega
theorem gnum_full : ∀ n, gnum r r n + 1 = gst r n
  | 0 => rfl
  | n + 1 => by
    have := gnum_full n
    rw [gnum_s, gst_s, Nat.mul_comm (gst r n), Nat.succ_mul]
    omega
theorem gst_mono : ∀ {n : Nat}, (∀ v, v < n → r v ≤ d v) → gst r n ≤ gst d n
  | 0, _ => Nat.le_refl _
  | n + 1, h => by
    rw [gst_s, gst_s]
    exact Nat.mul_le_mul (gst_mono (n := n) (fun v hv => h v (by omega))) (Nat.succ_le_succ (h n (by omega)))
theorem gst_lt {v n : Nat} (h : v ≤ n) : gst r v ≤ gst r n := by
  have := gst_dvd (r := r) (v := v) (n - v)
  rw [show v + (n - v) = n by omega] at this
  exact Nat.le_of_dvd (gst_pos r n) this
theorem gst6 : ∀ v, gst (fun _ => 5) v = 6 ^ v
  | 0 => rfl
  | v + 1 => by rw [gst_s, gst6 v, Nat.pow_succ]
theorem dgc_g (p v : Nat) : dgc p v = gdig (fun _ => 5) p v := by unfold dgc gdig; rw [gst6]
end PLACE
/-! counting by another numbering -/
theorem cntB_le_inj : ∀ (N : Nat) (M : Nat) (P Q : Nat → Bool) (f : Nat → Nat), (∀ i, i < N → P i = true → f i < M ∧ Q (f i) = true) → (∀ i j, i < N → j < N → P i = true → P j = true → f i = f j → i = j) → cntB P N ≤ cntB Q M
  | 0, M, P, Q, f, _, _ => Nat.zero_le _
  | N + 1, M, P, Q, f, h1, h2 => by
    rw [cntB_succ]
    by_cases hp : P N = true
    · rw [if_pos hp]
      obtain ⟨a1, a2⟩ := h1 N (by omega) hp
      have rem : ∀ n, cntB Q n = cntB (fun j => Q j && !decide (j = f N)) n + (if f N < n then 1 else 0) := by
        intro n
        induction n with
        | zero => rfl
        | succ n ih =>
          rw [cntB_succ, cntB_succ, ih]
          by_cases e : n = f N
          · subst e
            rw [if_pos a2, if_neg (by omega), if_neg (by simp), if_pos (by omega)]
          · have e1 : (Q n && !decide (n = f N)) = Q n := by rw [decide_eq_false e]; simp
            rw [e1]
            by_cases e2 : f N < n
            · rw [if_pos e2, if_pos (show f N < n + 1 by omega)]; omega
            · rw [if_neg e2, if_neg (show ¬ f N < n + 1 by omega)]; omega
      have ih := cntB_le_inj N M P (fun j => Q j && !decide (j = f N)) f (fun i hi hpi => by
        obtain ⟨b1, b2⟩ := h1 i (by omega) hpi
        refine ⟨b1, ?_⟩
        have hne : ¬ f i = f N := fun z => by have := h2 i N (by omega) (by omega) hpi hp z; omega
        rw [b2, decide_eq_false hne]
        rfl) (fun i j hi hj => h2 i j (by omega) (by omega))
      have := rem M
      rw [if_pos a1] at this
      omega
    · rw [if_neg hp]
      exact cntB_le_inj N M P Q f (fun i hi => h1 i (by omega)) (fun i j hi hj => h2 i j (by omega) (by omega))
theorem cntB_bij {N M : Nat} {P Q : Nat → Bool} (f k : Nat → Nat) (h1 : ∀ i, i < N → P i = true → f i < M ∧ Q (f i) = true ∧ k (f i) = i) (h2 : ∀ j, j < M → Q j = true → k j < N ∧ P (k j) = true ∧ f (k j) = j) : cntB P N = cntB Q M := by
  refine Nat.le_antisymm (cntB_le_inj N M P Q f (fun i hi hp => ⟨(h1 i hi hp).1, (h1 i hi hp).2.1⟩) (fun i j hi hj hpi hpj e => ?_)) (cntB_le_inj M N Q P k (fun i hi hp => ⟨(h2 i hi hp).1, (h2 i hi hp).2.1⟩) (fun i j hi hj hpi hpj e => ?_))
  · have a := (h1 i hi hpi).2.2
    have b := (h1 j hj hpj).2.2
    rw [e] at a
    omega
  · have a := (h2 i hi hpi).2.2
    have b := (h2 j hj hpj).2.2
    rw [e] at a
    omega
/-- the least of a number over those of which P holds -/
def rmn (P : Nat → Bool) (s : Nat → Nat) : Nat → Option Nat
  | 0 => none
  | k + 1 => if P k = true then (match rmn P s k with
      | none => some (s k)
      | some x => if s k < x then some (s k) else some x) else rmn P s k
theorem rmn_s (P : Nat → Bool) (s : Nat → Nat) (k : Nat) : rmn P s (k + 1) = if P k = true then (match rmn P s k with
      | none => some (s k)
      | some x => if s k < x then some (s k) else some x) else rmn P s k := rfl
theorem rmn_spec (P : Nat → Bool) (s : Nat → Nat) : ∀ n, (rmn P s n = none ∧ ∀ k, k < n → ¬ P k = true) ∨ ∃ x, rmn P s n = some x ∧ (∃ k, k < n ∧ P k = true ∧ s k = x) ∧ ∀ k, k < n → P k = true → x ≤ s k
  | 0 => Or.inl ⟨rfl, fun k hk => absurd hk (Nat.not_lt_zero k)⟩
  | n + 1 => by
    rw [rmn_s]
    rcases rmn_spec P s n with ⟨e, h⟩ | ⟨x, e, ⟨k, k1, k2, k3⟩, h⟩
    · rw [e]
      by_cases hp : P n = true
      · rw [if_pos hp]
        exact Or.inr ⟨s n, rfl, ⟨n, by omega, hp, rfl⟩, fun k hk hpk => by
          by_cases ek : k = n
          · rw [ek]; exact Nat.le_refl _
          · exact absurd hpk (h k (by omega))⟩
      · rw [if_neg hp]
        exact Or.inl ⟨rfl, fun k hk hpk => by
          by_cases ek : k = n
          · rw [ek] at hpk; exact hp hpk
          · exact h k (by omega) hpk⟩
    · rw [e]
      by_cases hp : P n = true
      · rw [if_pos hp]
        dsimp only
        by_cases hl : s n < x
        · rw [if_pos hl]
          exact Or.inr ⟨s n, rfl, ⟨n, by omega, hp, rfl⟩, fun j hj hpj => by
            by_cases ek : j = n
            · rw [ek]; exact Nat.le_refl _
            · have := h j (by omega) hpj; omega⟩
        · rw [if_neg hl]
          exact Or.inr ⟨x, rfl, ⟨k, by omega, k2, k3⟩, fun j hj hpj => by
            by_cases ek : j = n
            · rw [ek]; omega
            · exact h j (by omega) hpj⟩
      · rw [if_neg hp]
        exact Or.inr ⟨x, rfl, ⟨k, by omega, k2, k3⟩, fun j hj hpj => by
            by_cases ek : j = n
            · rw [ek] at hpj; exact absurd hpj hp
            · exact h j (by omega) hpj⟩
theorem rmn_bij {N M : Nat} {P Q : Nat → Bool} {s s2 : Nat → Nat} (f k : Nat → Nat) (h1 : ∀ i, i < N → P i = true → f i < M ∧ Q (f i) = true ∧ s2 (f i) = s i) (h2 : ∀ j, j < M → Q j = true → k j < N ∧ P (k j) = true ∧ s (k j) = s2 j) : rmn P s N = rmn Q s2 M := by
  rcases rmn_spec P s N with ⟨e, h⟩ | ⟨x, e, ⟨i, i1, i2, i3⟩, h⟩ <;> rcases rmn_spec Q s2 M with ⟨e', h'⟩ | ⟨x', e', ⟨i', i1', i2', i3'⟩, h'⟩
  · rw [e, e']
  · exact absurd (h2 i' i1' i2').2.1 (h _ (h2 i' i1' i2').1)
  · exact absurd (h1 i i1 i2).2.1 (h' _ (h1 i i1 i2).1)
  · have a := h1 i i1 i2
    have b := h2 i' i1' i2'
    have c1 := h' _ a.1 a.2.1
    have c2 := h _ b.1 b.2.1
    rw [e, e']
    congr 1
    omega
theorem leS_rmn {L : Ld} {nd : NT} {v : Nat} : ∀ n, leS L nd v n = rmn (fun k => decide (isC L nd k ∧ sumC L (dgc k) = v)) (fun k => cntC L (dgc k)) n
  | 0 => rfl
  | n + 1 => by
    rw [rmn_s]
    show (if isC L nd n ∧ sumC L (dgc n) = v then _ else _) = _
    rw [leS_rmn n]
    by_cases h : isC L nd n ∧ sumC L (dgc n) = v
    · rw [if_pos h, if_pos (decide_eq_true h)]
      generalize rmn (fun k => decide (isC L nd k ∧ sumC L (dgc k) = v)) (fun k => cntC L (dgc k)) n = o
      cases o <;> rfl
    · rw [if_neg h, if_neg (by rw [decide_eq_true_eq]; exact h)]

