/-! ===== a text: what it tells, where it is wrong first ===== -/
def cdI (t : Nat → Int32) (n p : Nat) : Int32 := if p < n then t p else -1
def kof (x : Int32) : Nat := if x = 112 then 0 else if x = 98 then 1 else if x = 100 then 2 else 9
def wof (x : Int32) : Nat := if x = 105 then 0 else if x = 115 then 1 else if x = 103 then 2 else 9
def mdg (w : Nat) : Nat := if w = 0 then 9 else 7
abbrev dgo (x : Int32) (w : Nat) : Prop := InR x 48 (48 + nI (mdg w))
def dgv (x : Int32) : Nat := ix (x - 48)
def upd2 (f : Nat → Nat → Nat) (v t x : Nat) : Nat → Nat → Nat := fun a b => if a = v ∧ b = t then x else f a b
theorem upd2_s {f : Nat → Nat → Nat} {v t x : Nat} : upd2 f v t x v t = x := if_pos ⟨rfl, rfl⟩
theorem upd2_n {f : Nat → Nat → Nat} {v t x a b : Nat} (h : ¬ (a = v ∧ b = t)) : upd2 f v t x a b = f a b := if_neg h
def addV (L : Ld) (k : Nat) : Ld := (vn L + 1, updN (kd L) (vn L) k, updN (tn L) (vn L) 0, wh L, dg L)
def addT (L : Ld) (w d : Nat) : Ld := (vn L, kd L, updN (tn L) (vn L - 1) (tn L (vn L - 1) + 1), upd2 (wh L) (vn L - 1) (tn L (vn L - 1)) w, upd2 (dg L) (vn L - 1) (tn L (vn L - 1)) d)
def pT (t : Nat → Int32) (n : Nat) : Nat → Nat → Ld → Bool × Nat × Ld
  | 0, p, L => (true, p, L)
  | f + 1, p, L => if wof (cdI t n p) = 9 then (decide (tn L (vn L - 1) ≠ 0), p, L) else if dgo (cdI t n (p + 1)) (wof (cdI t n p)) then pT t n f (p + 2) (addT L (wof (cdI t n p)) (dgv (cdI t n (p + 1)))) else (false, p + 1, L)
def pV (t : Nat → Int32) (n p : Nat) (L : Ld) : Bool × Nat × Ld := if cdI t n p = 59 then (if kof (cdI t n (p + 1)) = 9 then (false, p + 1, L) else pT t n 5 (p + 2) (addV L (kof (cdI t n (p + 1))))) else (false, p, L)
def pL (t : Nat → Int32) (n : Nat) : Nat → Nat → Ld → Bool × Nat × Ld
  | 0, p, L => (decide (p = n), p, L)
  | f + 1, p, L => if vn L < 2 ∨ p < n then (if (pV t n p L).1 = true then pL t n f (pV t n p L).2.1 (pV t n p L).2.2 else (false, (pV t n p L).2.1, L)) else (decide (p = n), p, L)
def L0 : Ld := (0, fun _ => 0, fun _ => 0, fun _ _ => 0, fun _ _ => 0)
def parse (t : Nat → Int32) (n : Nat) : Bool × Nat × Ld := if cdI t n 0 = 118 then pL t n 4 1 L0 else (false, 0, L0)
theorem wof_le (x : Int32) : wof x = 9 ∨ wof x ≤ 2 := by
  unfold wof
  split
  · exact Or.inr (by omega)
  · split
    · exact Or.inr (by omega)
    · split
      · exact Or.inr (by omega)
      · exact Or.inl rfl
theorem kof_le (x : Int32) : kof x = 9 ∨ kof x ≤ 2 := by
  unfold kof
  split
  · exact Or.inr (by omega)
  · split
    · exact Or.inr (by omega)
    · split
      · exact Or.inr (by omega)
      · exact Or.inl rfl
theorem wof_in {t : Nat → Int32} {n p : Nat} (h : wof (cdI t n p) ≠ 9) : p < n ∧ cdI t n p = t p := by
  unfold cdI at h ⊢
  by_cases hp : p < n
  · rw [if_pos hp]; exact ⟨hp, rfl⟩
  · rw [if_neg hp] at h; exact absurd (by decide) h
theorem kof_in {t : Nat → Int32} {n p : Nat} (h : kof (cdI t n p) ≠ 9) : p < n ∧ cdI t n p = t p := by
  unfold cdI at h ⊢
  by_cases hp : p < n
  · rw [if_pos hp]; exact ⟨hp, rfl⟩
  · rw [if_neg hp] at h; exact absurd (by decide) h
theorem cd_in {t : Nat → Int32} {n p : Nat} {x : Int32} (hx : ¬ x = -1) (h : cdI t n p = x) : p < n ∧ t p = x := by
  unfold cdI at h
  by_cases hp : p < n
  · rw [if_pos hp] at h; exact ⟨hp, h⟩
  · rw [if_neg hp] at h; exact absurd h.symm hx
theorem dgo_in {t : Nat → Int32} {n p w : Nat} (h : dgo (cdI t n p) w) : p < n ∧ cdI t n p = t p := by
  unfold cdI at h ⊢
  by_cases hp : p < n
  · rw [if_pos hp]; exact ⟨hp, rfl⟩
  · rw [if_neg hp] at h; exact absurd h.1 (by decide)
theorem mdg_e (w : Nat) : (48 : Int32) + nI (mdg w) = nI (48 + mdg w) := nI_add 48 (mdg w)
theorem mdg_le (w : Nat) : mdg w ≤ 9 := by unfold mdg; split <;> omega
/-- a digit that is one -/
theorem dgv_of {x : Int32} {w : Nat} (h : dgo x w) : x - 48 = nI (dgv x) ∧ dgv x ≤ mdg w := by
  have hm := mdg_le w
  obtain ⟨h1, h2⟩ := h
  rw [mdg_e] at h2
  have h0 : ¬ x < 0 := fun e => by
    have a := Int32.lt_iff_toInt_lt.mp e
    have b := Int32.le_iff_toInt_le.mp h1
    have c0 : (0 : Int32).toInt = 0 := by decide
    have c48 : (48 : Int32).toInt = 48 := by decide
    omega
  obtain ⟨j, hj, rfl⟩ := nI_of h0
  have g1 : 48 ≤ j := (nI_leI (a := 48) (by omega) hj).mp h1
  have g2 : j ≤ 48 + mdg w := (nI_leI hj (by omega)).mp h2
  have e1 : nI j - 48 = nI (j - 48) := pk_sub (b := 48) g1
  unfold dgv
  rw [e1, show ix (nI (j - 48)) = j - 48 from nI_clamp (by omega)]
  exact ⟨rfl, by omega⟩
/-- a land that is being told: v villages, the last of k things perhaps -/
def LdB (L : Ld) : Prop := vn L ≤ 4 ∧ ∀ v, v < vn L → kd L v ≤ 2 ∧ tn L v ≤ 5 ∧ ∀ t, t < tn L v → wh L v t ≤ 2 ∧ dg L v t ≤ 9 ∧ (wh L v t ≠ 0 → dg L v t ≤ 7)
theorem addV_ok {L : Ld} {k : Nat} (hL : LdB L) (hn : vn L < 4) (hk : k ≤ 2) : LdB (addV L k) := by
  refine ⟨by show vn L + 1 ≤ 4; omega, fun v hv => ?_⟩
  have hv : v < vn L + 1 := hv
  show updN (kd L) (vn L) k v ≤ 2 ∧ updN (tn L) (vn L) 0 v ≤ 5 ∧ ∀ t, t < updN (tn L) (vn L) 0 v → _
  by_cases e : v = vn L
  · rw [e, updN_s, updN_s]
    exact ⟨hk, by omega, fun t ht => by omega⟩
  · rw [updN_n e, updN_n e]
    exact hL.2 v (by omega)
theorem addT_ok {L : Ld} {w d : Nat} (hL : LdB L) (hn : 0 < vn L) (ht : tn L (vn L - 1) < 5) (hw : w ≤ 2) (hd : d ≤ mdg w) : LdB (addT L w d) := by
  have hm := mdg_le w
  refine ⟨hL.1, fun v hv => ?_⟩
  have hv : v < vn L := hv
  obtain ⟨a1, a2, a3⟩ := hL.2 v hv
  show kd L v ≤ 2 ∧ updN (tn L) (vn L - 1) (tn L (vn L - 1) + 1) v ≤ 5 ∧ ∀ t, t < updN (tn L) (vn L - 1) (tn L (vn L - 1) + 1) v → upd2 (wh L) (vn L - 1) (tn L (vn L - 1)) w v t ≤ 2 ∧ upd2 (dg L) (vn L - 1) (tn L (vn L - 1)) d v t ≤ 9 ∧ (upd2 (wh L) (vn L - 1) (tn L (vn L - 1)) w v t ≠ 0 → upd2 (dg L) (vn L - 1) (tn L (vn L - 1)) d v t ≤ 7)
  by_cases e : v = vn L - 1
  · rw [← e] at ht ⊢
    rw [updN_s]
    refine ⟨a1, by omega, fun t ht2 => ?_⟩
    by_cases e2 : t = tn L v
    · subst e2
      rw [upd2_s, upd2_s]
      refine ⟨hw, by omega, fun h0 => ?_⟩
      unfold mdg at hd
      rw [if_neg h0] at hd
      exact hd
    · rw [upd2_n (fun z => e2 z.2), upd2_n (fun z => e2 z.2)]
      exact a3 t (by omega)
  · rw [updN_n e]
    refine ⟨a1, a2, fun t ht2 => ?_⟩
    rw [upd2_n (fun z => e z.1), upd2_n (fun z => e z.1)]
    exact a3 t ht2

