/-! ===== what each call answers, what it changes ===== -/
abbrev ix (x : Int32) : Nat := x.toNatClampNeg
def sp_ofVillage (S : St) (x w : Int32) : Int32 := if IsV x (vn (sL S)) then (if w = 0 then nI (kd (sL S) (ix x)) else if w = 1 then nI (tn (sL S) (ix x)) else if w = 2 then nI (sD S (ix x)) else if w = 3 then nI (val (sL S) (ix x) (sD S (ix x))) else if w = 4 then nI (wor (kd (sL S) (ix x)) (val (sL S) (ix x) (sD S (ix x)))) else if w = 5 then bP (Rdy (sL S) (sN S) (sD S) (ix x)) else -2) else -1
def sp_thing (S : St) (x y w : Int32) : Int32 := if IsT x y (sL S) then (if InR w 0 2 ∨ InR w 10 13 then (if 10 ≤ w then (if IsV (w - 10) (vn (sL S)) then nI (sN S (ix x) (ix y) (ix (w - 10))) else -9) else if w = 0 then nI (wh (sL S) (ix x) (ix y)) else if w = 1 then nI (dg (sL S) (ix x) (ix y)) else nI (sm (sN S (ix x) (ix y)) (vn (sL S)))) else -2) else -1
def sp_ahead (S : St) (x y z w : Int32) : Int32 := if IsT x y (sL S) ∧ IsT z w (sL S) then (if x = z ∧ y = w then 0 else if ix y < sN S (ix z) (ix w) (ix x) then 1 else if ix w < sN S (ix x) (ix y) (ix z) then 2 else 3) else -1
def sp_happen (S : St) (x : Int32) : Int32 := if IsV x (vn (sL S)) then (if Rdy (sL S) (sN S) (sD S) (ix x) then nI (sD S (ix x)) else -3) else -1
def st_happen (S : St) (x : Int32) : St := if IsV x (vn (sL S)) ∧ Rdy (sL S) (sN S) (sD S) (ix x) then setD S (updN (sD S) (ix x) (sD S (ix x) + 1)) else S
def sp_anew (S : St) : Int32 := if vn (sL S) = 0 then -3 else nI (cntC (sL S) (sD S))
def st_anew (S : St) : St := setD S (fun _ => 0)
def sp_trace (S : St) : Int32 := sTr S
def sp_fault (S : St) : Int32 := sFa S
def sp_back (S : St) (n : Int32) : Int32 := if InR n 0 (nI (sRn S)) then nI (sRn S - ix n) else -2
def st_back (S : St) (n : Int32) : St := if InR n 0 (nI (sRn S)) then setRd S (sRn S - ix n, sRc S, sRs S) else S
def sp_lose (S : St) (k : Int32) : Int32 := if InR k 0 3 then (if sSo S (ix k) = -9 then 0 else 1) else -1
def updS (f : Nat → Int32) (k : Nat) (x : Int32) : Nat → Int32 := fun j => if j = k then x else f j
def st_lose (S : St) (k : Int32) : St := if InR k 0 3 then setSg S (upd (sSo S) (ix k) (-9), sLe S, sCe S) else S
def sp_sheet (k lane n : Int32) : Int32 := if InR k 0 3 then (if InR lane 0 2 then (if n ≤ 60 then (if 0 ≤ n then 1 else -14) else -2) else -2) else -1
def st_sheet (S : St) (k lane n : Int32) : St := if InR k 0 3 ∧ InR lane 0 2 ∧ n ≤ 60 then (if 0 ≤ n then setFa (setSg S (upd (sSo S) (ix k) lane, updN (sLe S) (ix k) (ix n), va_up (sCe S) (ix k) (fun _ => 0))) 0 else setFa S 4) else setFa S 0
/-- a number cut to a lane -/
def lan (so v : Int32) : Int32 := if so = 0 then v.toInt8.toInt32 else if so = 1 then v.toInt16.toInt32 else v
abbrev PutF (S : St) (k i : Int32) : Int32 := if sSo S (ix k) = -9 then 1 else if InR i 0 (nI (sLe S (ix k)) - 1) then 0 else 3
def sp_put (S : St) (k i : Int32) : Int32 := if InR k 0 3 then (if PutF S k i = 0 then 1 else -10 - PutF S k i) else -1
def st_put (S : St) (k i v : Int32) : St := if InR k 0 3 then (if PutF S k i = 0 then setFa (setSg S (sSo S, sLe S, va_up (sCe S) (ix k) (upd (sCe S (ix k)) (ix i) (lan (sSo S (ix k)) v)))) 0 else setFa S (PutF S k i)) else setFa S 0
abbrev CelF (S : St) (k i lane : Int32) : Int32 := if sSo S (ix k) = -9 then 1 else if sSo S (ix k) = lane then (if InR i 0 (nI (sLe S (ix k)) - 1) then 0 else 3) else 2
def sp_cell (S : St) (k i lane : Int32) : Int64 := if InR k 0 3 ∧ InR lane 0 2 then (if CelF S k i lane = 0 then (sCe S (ix k) (ix i)).toInt64 else -9223372036854775808) else -9223372036854775808
def st_cell (S : St) (k i lane : Int32) : St := if InR k 0 3 ∧ InR lane 0 2 then setFa S (CelF S k i lane) else setFa S 0
def tlv (S : St) (v : Nat) : Nat := val (sL S) v (sD S v)
def sp_tell (S : St) (x : Int32) : Int32 := if IsV x (vn (sL S)) then (if kd (sL S) (ix x) = 1 then nI (tlv S (ix x)) + 100 else if kd (sL S) (ix x) = 2 then 2 * nI (tlv S (ix x)) + 100 else nI (tlv S (ix x))) else -1
abbrev bgn (t x : Int32) : Int32 := 31 * t + x
def st_tell (S : St) (x : Int32) : St := if IsV x (vn (sL S)) then (if kd (sL S) (ix x) = 1 then setTr S (bgn (bgn (sTr S) 2) 1) else if kd (sL S) (ix x) = 2 then setTr S (bgn (bgn (bgn (bgn (sTr S) 3) 2) 1) 1) else setTr S (bgn (sTr S) 1)) else S
def sp_ring (S : St) (x : Int32) : Int32 := if IsV x (vn (sL S)) then (if kd (sL S) (ix x) = 2 then 50 else nI (sD S (ix x))) else -1
def st_ring (S : St) (x : Int32) : St := if IsV x (vn (sL S)) then (if kd (sL S) (ix x) = 2 then setTr S (bgn (sTr S) 5) else setTr S (bgn (sTr S) 4)) else S
def sp_as (S : St) (x k : Int32) : Int32 := if IsV x (vn (sL S)) then (if InR k 0 2 then (if nI (kd (sL S) (ix x)) < k then -12 else 1) else -2) else -1
def st_as (S : St) (x k : Int32) : St := if IsV x (vn (sL S)) ∧ InR k 0 2 ∧ nI (kd (sL S) (ix x)) < k then setFa S 2 else setFa S 0
/-! sets as bits -/
def ub (p : Nat → Bool) : Nat → Int32
  | 0 => 0
  | k + 1 => ub p k ||| (if p k then (1 : Int32) <<< (nI k &&& 31) else 0)
def anyB (p : Nat → Bool) : Nat → Bool
  | 0 => false
  | k + 1 => anyB p k || p k
theorem anyB_iff {p : Nat → Bool} : ∀ {n : Nat}, anyB p n = true ↔ ∃ k, k < n ∧ p k = true
  | 0 => by simp [anyB]
  | n + 1 => by
    unfold anyB
    rw [Bool.or_eq_true, anyB_iff]
    constructor
    · rintro (⟨k, h1, h2⟩ | h)
      · exact ⟨k, by omega, h2⟩
      · exact ⟨n, by omega, h⟩
    · rintro ⟨k, h1, h2⟩
      by_cases e : k = n
      · subst e; exact Or.inr h2
      · exact Or.inl ⟨k, by omega, h2⟩
/-- letter k is sent (a = 1), got (a = 2) by a thing of the cut -/
def byB (L : Ld) (c : Nat → Nat) (a k : Nat) : Bool := anyB (fun v => anyB (fun t => decide (wh L v t = a) && decide (dg L v t = k)) (c v)) (vn L)
def uwB (L : Ld) (c : Nat → Nat) : Int32 := ub (fun k => byB L c 1 k && !byB L c 2 k) 8
def rdB (L : Ld) (nd : Nat → Nat → Nat → Nat) (c : Nat → Nat) : Int32 := ub (fun v => decide (Rdy L nd c v)) (vn L)
def sp_now (S : St) (w : Int32) : Int32 := if InR w 0 2 then (if vn (sL S) = 0 then -3 else if w = 0 then nI (sumC (sL S) (sD S)) else if w = 1 then uwB (sL S) (sD S) else rdB (sL S) (sN S) (sD S)) else -2
/-- a village of another kind alone -/
def setK (L : Ld) (v k : Nat) : Ld := (L.1, updN L.2.1 v k, L.2.2)
def areS (L : Ld) (S : St) : Prop := ∀ r, r < sRn S → sumC L (sRc S r) = sRs S r
def sp_kinds (S : St) (x : Int32) : Int32 := if IsV x (vn (sL S)) then ub (fun k => (List.range (sRn S)).all fun r => decide (sumC (setK (sL S) (ix x) k) (sRc S r) = sRs S r)) 3 else -1
def sp_many (S : St) (w : Int32) : Int32 := if w = 0 then nI (vn (sL S)) else if w = 1 then nI (sm (tn (sL S)) (vn (sL S))) else if w = 2 then nI (cntC (sL S) (sD S)) else if w = 3 then nI (sm (fun v => sm (fun t => if wh (sL S) v t = 1 then 1 else 0) (tn (sL S) v)) (vn (sL S))) else if w = 4 then nI (sRn S) else -2
/-! a cut that is told by cells -/
/-- what is against it: the answer (0: nothing), the fault -/
def tkr (S : St) (sh lane i : Int32) (ok : Prop) [Decidable ok] : Int32 × Int32 :=
  if vn (sL S) = 0 then (-3, 0) else if InR sh 0 3 then (if InR lane 0 2 then (if ok then (if agst (sSo S (ix sh)) (sLe S (ix sh)) lane i (nI (vn (sL S))) = 0 then (if ∀ v, v < vn (sL S) → CellOk (sCe S (ix sh) (ix i + v)) (tn (sL S) v) then (0, 0) else (-2, 0)) else (-10 - agst (sSo S (ix sh)) (sLe S (ix sh)) lane i (nI (vn (sL S))), agst (sSo S (ix sh)) (sLe S (ix sh)) lane i (nI (vn (sL S))))) else (-2, 0)) else (-2, 0)) else (-1, 0)
def ctk (S : St) (sh i : Int32) : Nat → Nat := fun v => ix (sCe S (ix sh) (ix i + v))
abbrev Ask (w : Int32) : Prop := InR w 0 3 ∨ InR w 10 13
def rcut (S : St) (c : Nat → Nat) (w : Int32) : Int32 := if w = 0 then bP (Cbe (sL S) (sN S) c) else if w = 1 then nI (sumC (sL S) c) else if w = 2 then uwB (sL S) c else if w = 3 then nI (cntC (sL S) (Cl (sL S) (sN S) c)) else if IsV (w - 10) (vn (sL S)) then nI (Cl (sL S) (sN S) c (ix (w - 10))) else -9
def sp_cut (S : St) (sh lane i w : Int32) : Int32 := if (tkr S sh lane i (Ask w)).1 = 0 then rcut S (ctk S sh i) w else (tkr S sh lane i (Ask w)).1
def st_cut (S : St) (sh lane i w : Int32) : St := setFa S (tkr S sh lane i (Ask w)).2
def sp_reading (S : St) (sh lane i sum : Int32) : Int32 := if (tkr S sh lane i (InR sum 0 99)).1 = 0 then (if sRn S = 8 then -4 else nI (sRn S)) else (tkr S sh lane i (InR sum 0 99)).1
def st_reading (S : St) (sh lane i sum : Int32) : St := if (tkr S sh lane i (InR sum 0 99)).1 = 0 ∧ ¬ sRn S = 8 then setFa (setRd S (sRn S + 1, va_up (sRc S) (sRn S) (ctk S sh i), updN (sRs S) (sRn S) (ix sum))) 0 else setFa S (tkr S sh lane i (InR sum 0 99)).2
theorem agst_0 {so lane i : Int32} {le n : Nat} (hle : le ≤ 60) (hn : n < 1000) (h : agst so le lane i (nI n) = 0) : ∃ j, i = nI j ∧ j + n ≤ le ∧ ¬ so = -9 ∧ so = lane := by
  unfold agst at h
  by_cases a : so = -9
  · rw [if_pos a] at h; exact absurd h (by decide)
  rw [if_neg a] at h
  by_cases b : so = lane
  · rw [if_pos b, if_neg (nI_pos (by omega))] at h
    by_cases c : i < 0 ∨ nI le < i ∨ nI le - i < nI n
    · rw [if_pos c] at h; exact absurd h (by decide)
    · obtain ⟨j, hj, rfl⟩ := nI_of (fun z => c (Or.inl z))
      have h1 : ¬ nI le < nI j := fun z => c (Or.inr (Or.inl z))
      have h2 : ¬ nI le - nI j < nI n := fun z => c (Or.inr (Or.inr z))
      have h3 : j ≤ le := by
        rcases Nat.lt_or_ge le j with q | q
        · exact absurd (nI_lt q hj) h1
        · exact q
      rw [pk_sub h3] at h2
      have h4 : n ≤ le - j := by
        rcases Nat.lt_or_ge (le - j) n with q | q
        · exact absurd (nI_lt q (by omega)) h2
        · exact q
      exact ⟨j, rfl, by omega, a, b⟩
  · rw [if_neg b] at h; exact absurd h (by decide)
theorem cell_of {x : Int32} {n : Nat} (hn : n < 2 ^ 31) (h : CellOk x n) : x = nI (ix x) ∧ ix x ≤ n := by
  obtain ⟨j, hj, rfl⟩ := nI_of (nlt.mpr h.1)
  rw [show ix (nI j) = j from nI_clamp hj]
  exact ⟨rfl, (nI_leI hj hn).mp h.2⟩
/-! copying cells -/
def CopF (S : St) (k i o j n : Int32) : Int32 := if sSo S (ix k) = -9 ∨ sSo S (ix o) = -9 then 1 else if sSo S (ix k) = sSo S (ix o) then (if (¬ i < 0 ∧ ¬ j < 0 ∧ ¬ n < 0 ∧ ¬ nI (sLe S (ix k)) < i ∧ ¬ nI (sLe S (ix o)) < j) ∧ ¬ nI (sLe S (ix k)) - i < n ∧ ¬ nI (sLe S (ix o)) - j < n then 0 else 3) else 2
def sp_copy (S : St) (k i o j n : Int32) : Int32 := if InR k 0 3 ∧ InR o 0 3 then (if CopF S k i o j n = 0 then n else -10 - CopF S k i o j n) else -1
def st_copy (S : St) (k i o j n : Int32) : St := if InR k 0 3 ∧ InR o 0 3 then (if CopF S k i o j n = 0 then setFa (setSg S (sSo S, sLe S, va_up (sCe S) (ix o) (va_cpy (sCe S (ix k)) (sCe S (ix o)) (ix i) (ix j) (ix n)))) 0 else setFa S (CopF S k i o j n)) else setFa S 0
/-! a tale: cuts, sums as it goes on -/
def tcut (c : Nat → Nat) (a : Nat → Nat) : Nat → Nat → Nat
  | 0 => c
  | k + 1 => updN (tcut c a k) (a k) (tcut c a k (a k) + 1)
def tgr (L : Ld) (c : Nat → Nat) (a : Nat → Nat) : Nat → Nat
  | 0 => sumC L c
  | k + 1 => max (tgr L c a k) (sumC L (tcut c a (k + 1)))
/-- the first number below n of which p isn't so; n: of none -/
def fst (p : Nat → Bool) : Nat → Nat
  | 0 => 0
  | k + 1 => if fst p k < k then fst p k else if p k then k + 1 else k
theorem fst_le (p : Nat → Bool) : ∀ n, fst p n ≤ n
  | 0 => Nat.le_refl _
  | n + 1 => by
    have := fst_le p n
    unfold fst
    split
    · omega
    · split <;> omega
theorem fst_all {p : Nat → Bool} : ∀ {n : Nat}, (∀ k, k < n → p k = true) → fst p n = n
  | 0, _ => rfl
  | n + 1, h => by
    unfold fst
    rw [fst_all (n := n) (fun k hk => h k (by omega)), if_neg (by omega), if_pos (h n (by omega))]
theorem fst_no {p : Nat → Bool} {k : Nat} (h1 : ∀ j, j < k → p j = true) (h2 : p k = false) : ∀ {n : Nat}, k < n → fst p n = k
  | n + 1, h => by
    unfold fst
    by_cases e : k = n
    · subst e
      rw [fst_all h1, if_neg (by omega), if_neg (by rw [h2]; decide)]
    · rw [fst_no h1 h2 (n := n) (by omega), if_pos (by omega)]
def tact (S : St) (sh i : Int32) : Nat → Nat := fun k => ix (sCe S (ix sh) (ix i + k))
def twr (S : St) (a : Nat → Nat) (n : Nat) : Nat := fst (fun k => decide (Rdy (sL S) (sN S) (tcut (sD S) a k) (a k))) n
def rtale (S : St) (a : Nat → Nat) (n : Nat) (w : Int32) : Int32 := if w = 1 then (if twr S a n < n then nI (twr S a n) else -9) else if twr S a n < n then -100 - nI (twr S a n) else if w = 0 then nI (sumC (sL S) (tcut (sD S) a n)) else if w = 2 then uwB (sL S) (tcut (sD S) a n) else if w = 3 then nI (tgr (sL S) (sD S) a n) else if IsV (w - 10) (vn (sL S)) then nI (tcut (sD S) a n (ix (w - 10))) else -9
def tlr (S : St) (sh lane i n w : Int32) : Int32 × Int32 := if InR sh 0 3 then (if InR lane 0 2 ∧ InR n 0 20 ∧ Ask w then (if agst (sSo S (ix sh)) (sLe S (ix sh)) lane i n = 0 then (if vn (sL S) = 0 then (-3, 0) else if ∀ k, k < ix n → IsV (sCe S (ix sh) (ix i + k)) (vn (sL S)) then (rtale S (tact S sh i) (ix n) w, 0) else (-1, 0)) else (-10 - agst (sSo S (ix sh)) (sLe S (ix sh)) lane i n, agst (sSo S (ix sh)) (sLe S (ix sh)) lane i n)) else (-2, 0)) else (-1, 0)
def sp_tale (S : St) (sh lane i n w : Int32) : Int32 := (tlr S sh lane i n w).1
def st_tale (S : St) (sh lane i n w : Int32) : St := setFa S (tlr S sh lane i n w).2
theorem agst_ne {so lane i n : Int32} {le : Nat} (a : ¬ agst so le lane i n = 0) : ¬ -10 - agst so le lane i n = 0 := by
  have h9 : ∀ x : Int32, x = 1 ∨ x = 2 ∨ x = 3 ∨ x = 4 → ¬ -10 - x = 0 := by
    rintro x (rfl | rfl | rfl | rfl) <;> decide
  apply h9
  unfold agst at a ⊢
  by_cases c1 : so = -9
  · rw [if_pos c1]; exact Or.inl rfl
  · rw [if_neg c1] at a ⊢
    by_cases c2 : so = lane
    · rw [if_pos c2] at a ⊢
      by_cases c3 : n < 0
      · rw [if_pos c3]; exact Or.inr (Or.inr (Or.inr rfl))
      · rw [if_neg c3] at a ⊢
        by_cases c4 : i < 0 ∨ nI le < i ∨ nI le - i < n
        · rw [if_pos c4]; exact Or.inr (Or.inr (Or.inl rfl))
        · rw [if_neg c4] at a; exact absurd rfl a
    · rw [if_neg c2]; exact Or.inr (Or.inl rfl)

