/-! ===== a land, in numbers ===== -/
abbrev Ld : Type := Nat × (Nat → Nat) × (Nat → Nat) × (Nat → Nat → Nat) × (Nat → Nat → Nat)
def vn (L : Ld) : Nat := L.1
def kd (L : Ld) : Nat → Nat := L.2.1
def tn (L : Ld) : Nat → Nat := L.2.2.1
def wh (L : Ld) : Nat → Nat → Nat := L.2.2.2.1
def dg (L : Ld) : Nat → Nat → Nat := L.2.2.2.2
def LdOk (L : Ld) : Prop := vn L ≤ 4 ∧ ∀ v, v < vn L → kd L v ≤ 2 ∧ 1 ≤ tn L v ∧ tn L v ≤ 5 ∧ ∀ t, t < tn L v → wh L v t ≤ 2 ∧ dg L v t ≤ 9 ∧ (wh L v t ≠ 0 → dg L v t ≤ 7)
def val (L : Ld) (v : Nat) : Nat → Nat
  | 0 => 0
  | t + 1 => if wh L v t = 0 then dg L v t else val L v t
theorem val_succ (L : Ld) (v t : Nat) : val L v (t + 1) = if wh L v t = 0 then dg L v t else val L v t := rfl
def wor (k x : Nat) : Nat := if k = 2 then 2 * x else if k = 1 then x + 1 else x
def sm (f : Nat → Nat) : Nat → Nat
  | 0 => 0
  | n + 1 => sm f n + f n
theorem sm_succ (f : Nat → Nat) (n : Nat) : sm f (n + 1) = sm f n + f n := rfl
def sumC (L : Ld) (c : Nat → Nat) : Nat := sm (fun v => wor (kd L v) (val L v (c v))) (vn L)
def cntC (L : Ld) (c : Nat → Nat) : Nat := sm c (vn L)
/-- a cut told: no more of a village than it has -/
def CutOk (L : Ld) (c : Nat → Nat) : Prop := ∀ v, v < vn L → c v ≤ tn L v
theorem val_le {L : Ld} (hL : LdOk L) {v : Nat} (hv : v < vn L) : ∀ t, t ≤ tn L v → val L v t ≤ 9
  | 0, _ => Nat.zero_le _
  | t + 1, h => by
    unfold val
    have h1 := ((hL.2 v hv).2.2.2 t (by omega)).2.1
    have h2 := val_le hL hv t (by omega)
    split <;> omega
theorem wor_le {k x : Nat} (hx : x ≤ 9) : wor k x ≤ 18 := by
  unfold wor
  split
  · omega
  · split <;> omega
theorem sm_le {f : Nat → Nat} {b : Nat} : ∀ n, (∀ v, v < n → f v ≤ b) → sm f n ≤ n * b
  | 0, _ => Nat.zero_le _
  | n + 1, h => by
    have h1 := sm_le n (fun v hv => h v (by omega))
    have h2 := h n (by omega)
    unfold sm
    rw [Nat.succ_mul]
    omega
theorem sm_congr {f k : Nat → Nat} : ∀ n, (∀ v, v < n → f v = k v) → sm f n = sm k n
  | 0, _ => rfl
  | n + 1, h => by
    unfold sm
    rw [sm_congr n (fun v hv => h v (by omega)), h n (by omega)]
theorem sumC_le {L : Ld} {c : Nat → Nat} (hL : LdOk L) (hc : CutOk L c) : sumC L c ≤ 72 := by
  have h1 := sm_le (f := fun v => wor (kd L v) (val L v (c v))) (b := 18) (vn L) (fun v hv => wor_le (val_le hL hv _ (hc v hv)))
  have h2 := hL.1
  unfold sumC
  omega
theorem sm_part {L : Ld} {c : Nat → Nat} (hL : LdOk L) (hc : CutOk L c) {k : Nat} (hk : k ≤ vn L) : sm (fun v => wor (kd L v) (val L v (c v))) k ≤ 72 := by
  have h1 := sm_le (f := fun v => wor (kd L v) (val L v (c v))) (b := 18) k (fun v hv => wor_le (val_le hL (by omega) _ (hc v (by omega))))
  have h2 := hL.1
  omega
theorem cnt_part {L : Ld} {c : Nat → Nat} (hL : LdOk L) (hc : CutOk L c) {k : Nat} (hk : k ≤ vn L) : sm c k ≤ 20 := by
  have h1 := sm_le (f := c) (b := 5) k (fun v hv => Nat.le_trans (hc v (by omega)) (hL.2 v (by omega)).2.2.1)
  have h2 := hL.1
  omega
/-! the reference's places -/
theorem ix5 (v t : Nat) : (5 : Int32) * nI v + nI t = nI (5 * v + t) := by rw [show (5 : Int32) = nI 5 from rfl, pk_mul, nI_add]
theorem ix4 (v t u : Nat) : (4 : Int32) * ((5 : Int32) * nI v + nI t) + nI u = nI (4 * (5 * v + t) + u) := by rw [ix5, show (4 : Int32) = nI 4 from rfl, pk_mul, nI_add]
theorem ix4q (k u : Nat) : (4 : Int32) * nI k + nI u = nI (4 * k + u) := by rw [show (4 : Int32) = nI 4 from rfl, pk_mul, nI_add]
theorem ix60 (v t : Nat) : (60 : Int32) * nI v + nI t = nI (60 * v + t) := by rw [show (60 : Int32) = nI 60 from rfl, pk_mul, nI_add]
/-! what can happen, what can be: by how many are ahead -/
abbrev Rdy (L : Ld) (nd : Nat → Nat → Nat → Nat) (c : Nat → Nat) (v : Nat) : Prop := c v < tn L v ∧ ∀ u, u < vn L → nd v (c v) u ≤ c u
abbrev Cbe (L : Ld) (nd : Nat → Nat → Nat → Nat) (c : Nat → Nat) : Prop := ∀ v, v < vn L → ∀ u, u < vn L → 0 < c v → nd v (c v - 1) u ≤ c u
abbrev InR (x lo hi : Int32) : Prop := lo ≤ x ∧ x ≤ hi
theorem nlt {x y : Int32} : ¬ x < y ↔ y ≤ x := Int32.not_lt
theorem nle {x y : Int32} : ¬ x ≤ y ↔ y < x := Int32.not_le

