/-! ===== all cuts, all ways to come to one ===== -/
theorem sm_updN {c : Nat → Nat} {v x : Nat} : ∀ {n : Nat}, v < n → sm (updN c v x) n + c v = sm c n + x
  | n + 1, h => by
    rw [sm_succ, sm_succ]
    by_cases e : v = n
    · subst e
      rw [updN_s, sm_congr (f := updN c v x) (k := c) v (fun w hw => updN_n (by omega))]
      omega
    · have := sm_updN (c := c) (v := v) (x := x) (n := n) (by omega)
      rw [updN_n (by omega)]
      omega
/-- in how many ways one comes to a cut, through such as are ok alone -/
def Wf (L : Ld) (nd : Nat → Nat → Nat → Nat) (ok : (Nat → Nat) → Bool) : Nat → (Nat → Nat) → Nat
  | 0, c => if Cbe L nd c ∧ ok c = true then (if cntC L c = 0 then 1 else 0) else 0
  | k + 1, c => if Cbe L nd c ∧ ok c = true then (if cntC L c = 0 then 1 else 0) + sm (fun v => if 0 < c v then Wf L nd ok k (updN c v (c v - 1)) else 0) (vn L) else 0
def Wn (L : Ld) (nd : Nat → Nat → Nat → Nat) (ok : (Nat → Nat) → Bool) (c : Nat → Nat) : Nat := Wf L nd ok 20 c
section COUNT
variable {L : Ld} {nd : Nat → Nat → Nat → Nat} {ok : (Nat → Nat) → Bool} {c d : Nat → Nat}
theorem cnt_pred {v : Nat} (hv : v < vn L) (h0 : 0 < c v) : cntC L (updN c v (c v - 1)) + 1 = cntC L c := by
  have := sm_updN (c := c) (v := v) (x := c v - 1) hv
  unfold cntC
  omega
theorem sm_0 {f : Nat → Nat} : ∀ {n : Nat}, sm f n = 0 → ∀ v, v < n → f v = 0
  | n + 1, h, v, hv => by
    rw [sm_succ] at h
    by_cases e : v = n
    · subst e; omega
    · exact sm_0 (n := n) (by omega) v (by omega)
theorem sm_z {f : Nat → Nat} : ∀ {n : Nat}, (∀ v, v < n → f v = 0) → sm f n = 0
  | 0, _ => rfl
  | n + 1, h => by rw [sm_succ, sm_z (n := n) (fun v hv => h v (by omega)), h n (by omega)]
theorem Wf_step : ∀ (k : Nat) (c : Nat → Nat), cntC L c ≤ k → Wf L nd ok k c = Wf L nd ok (k + 1) c
  | 0, c, h => by
    have hz := sm_0 (f := c) (n := vn L) (by unfold cntC at h; omega)
    unfold Wf
    rw [sm_z (f := fun v => if 0 < c v then Wf L nd ok 0 (updN c v (c v - 1)) else 0) (fun v hv => if_neg (by have := hz v hv; omega)), Nat.add_zero]
  | k + 1, c, h => by
    show (if _ then _ else _) = (if _ then _ else _)
    congr 2
    refine sm_congr _ (fun v hv => ?_)
    by_cases h0 : 0 < c v
    · rw [if_pos h0, if_pos h0]
      exact Wf_step k _ (by have := cnt_pred (L := L) hv h0; omega)
    · rw [if_neg h0, if_neg h0]
theorem Wf_succ (k : Nat) (c : Nat → Nat) : Wf L nd ok (k + 1) c = if Cbe L nd c ∧ ok c = true then (if cntC L c = 0 then 1 else 0) + sm (fun v => if 0 < c v then Wf L nd ok k (updN c v (c v - 1)) else 0) (vn L) else 0 := rfl
/-- the equation of the ways -/
theorem Wn_eq (h20 : cntC L c ≤ 20) : Wn L nd ok c = if Cbe L nd c ∧ ok c = true then (if cntC L c = 0 then 1 else 0) + sm (fun v => if 0 < c v then Wn L nd ok (updN c v (c v - 1)) else 0) (vn L) else 0 := by
  have hs : ∀ v, v < vn L → (if 0 < c v then Wf L nd ok 19 (updN c v (c v - 1)) else 0) = (if 0 < c v then Wn L nd ok (updN c v (c v - 1)) else 0) := fun v hv => by
    by_cases h0 : 0 < c v
    · rw [if_pos h0, if_pos h0]
      exact Wf_step 19 _ (by have := cnt_pred (L := L) hv h0; omega)
    · rw [if_neg h0, if_neg h0]
  rw [← sm_congr (vn L) hs]
  exact Wf_succ 19 c
/-- cuts that are the same in the land -/
theorem Wf_congr (hok : ∀ c d : Nat → Nat, (∀ v, v < vn L → c v = d v) → ok c = ok d) : ∀ (k : Nat) (c d : Nat → Nat), (∀ v, v < vn L → c v = d v) → Wf L nd ok k c = Wf L nd ok k d := by
  intro k
  have cb : ∀ c d : Nat → Nat, (∀ v, v < vn L → c v = d v) → (Cbe L nd c ∧ ok c = true ↔ Cbe L nd d ∧ ok d = true) := fun c d h => by
    rw [hok c d h]
    refine and_congr ?_ Iff.rfl
    constructor
    · intro hc v hv u hu h0
      rw [← h v hv, ← h u hu]
      exact hc v hv u hu (by rw [h v hv]; exact h0)
    · intro hc v hv u hu h0
      rw [h v hv, h u hu]
      exact hc v hv u hu (by rw [← h v hv]; exact h0)
  have cn : ∀ c d : Nat → Nat, (∀ v, v < vn L → c v = d v) → cntC L c = cntC L d := fun c d h => sm_congr _ h
  induction k with
  | zero =>
    intro c d h
    unfold Wf
    by_cases hh : Cbe L nd c ∧ ok c = true
    · rw [if_pos hh, if_pos ((cb c d h).mp hh), cn c d h]
    · rw [if_neg hh, if_neg (fun z => hh ((cb c d h).mpr z))]
  | succ k ih =>
    intro c d h
    unfold Wf
    by_cases hh : Cbe L nd c ∧ ok c = true
    · rw [if_pos hh, if_pos ((cb c d h).mp hh), cn c d h]
      congr 1
      refine sm_congr _ (fun v hv => ?_)
      rw [h v hv]
      by_cases h0 : 0 < d v
      · rw [if_pos h0, if_pos h0]
        refine ih _ _ (fun w hw => ?_)
        by_cases e : w = v
        · rw [e, updN_s, updN_s]
        · rw [updN_n e, updN_n e]; exact h w hw
      · rw [if_neg h0, if_neg h0]
    · rw [if_neg hh, if_neg (fun z => hh ((cb c d h).mpr z))]
theorem Wf_le : ∀ (k : Nat) (c : Nat → Nat), vn L ≤ 4 → Wf L nd ok k c ≤ 5 ^ k
  | 0, c, _ => by
    unfold Wf
    split
    · split <;> simp
    · simp
  | k + 1, c, h4 => by
    unfold Wf
    have h1 := sm_le (f := fun v => if 0 < c v then Wf L nd ok k (updN c v (c v - 1)) else 0) (b := 5 ^ k) (vn L) (fun v hv => by
      by_cases h0 : 0 < c v
      · rw [if_pos h0]; exact Wf_le k _ h4
      · rw [if_neg h0]; exact Nat.zero_le _)
    have h2 : vn L * 5 ^ k ≤ 4 * 5 ^ k := Nat.mul_le_mul_right _ h4
    have h3 : 1 ≤ 5 ^ k := Nat.one_le_pow _ _ (by omega)
    have h4 : 5 ^ (k + 1) = 5 * 5 ^ k := by rw [Nat.pow_succ, Nat.mul_comm]
    split
    · split <;> omega
    · exact Nat.zero_le _
theorem Wn_le (h4 : vn L ≤ 4) : Wn L nd ok c ≤ 95367431640625 := Wf_le 20 c h4
/-! the reference's numbers of cuts: figures to the base of six -/
def dgc (code : Nat) : Nat → Nat := fun v => code / 6 ^ v % 6
abbrev isC (L : Ld) (nd : Nat → Nat → Nat → Nat) (code : Nat) : Prop := (∀ v, v < vn L → dgc code v ≤ tn L v) ∧ code / 6 ^ vn L = 0 ∧ Cbe L nd (dgc code)
def cntB (p : Nat → Bool) : Nat → Nat
  | 0 => 0
  | k + 1 => cntB p k + (if p k then 1 else 0)
theorem cntB_succ (p : Nat → Bool) (k : Nat) : cntB p (k + 1) = cntB p k + (if p k then 1 else 0) := rfl
theorem cntB_le (p : Nat → Bool) : ∀ n, cntB p n ≤ n
  | 0 => Nat.le_refl _
  | n + 1 => by
    have := cntB_le p n
    rw [cntB_succ]
    split <;> omega
theorem dgc_0 (v : Nat) : dgc 0 v = 0 := by unfold dgc; simp
theorem pow6 (v : Nat) (hv : v < 4) : 6 ^ v = 1 ∨ 6 ^ v = 6 ∨ 6 ^ v = 36 ∨ 6 ^ v = 216 := by
  have : v = 0 ∨ v = 1 ∨ v = 2 ∨ v = 3 := by omega
  rcases this with rfl | rfl | rfl | rfl <;> simp
/-- one less of village v -/
theorem dgc_pred {code v : Nat} (hv : v < 4) (h0 : 0 < dgc code v) : 6 ^ v ≤ code ∧ ∀ w, w < 4 → dgc (code - 6 ^ v) w = updN (dgc code) v (dgc code v - 1) w := by
  unfold dgc at h0 ⊢
  have hv4 : v = 0 ∨ v = 1 ∨ v = 2 ∨ v = 3 := by omega
  refine ⟨?_, fun w hw => ?_⟩
  · rcases hv4 with rfl | rfl | rfl | rfl <;> simp at h0 ⊢ <;> omega
  · have hw4 : w = 0 ∨ w = 1 ∨ w = 2 ∨ w = 3 := by omega
    rcases hv4 with rfl | rfl | rfl | rfl <;> rcases hw4 with rfl | rfl | rfl | rfl <;> simp [updN] at h0 ⊢ <;> omega
theorem dgc_div {code v w n : Nat} (hv : v < n) (hn : n ≤ 4) (h0 : 0 < dgc code v) (hz : code / 6 ^ n = 0) : (code - 6 ^ v) / 6 ^ n = 0 := by
  have h1 : code < 6 ^ n := by
    rcases Nat.lt_or_ge code (6 ^ n) with q | q
    · exact q
    · have := Nat.div_pos q (Nat.pow_pos (by omega)); omega
  exact Nat.div_eq_of_lt (Nat.lt_of_le_of_lt (Nat.sub_le _ _) h1)
theorem code0 {code : Nat} (hn : vn L ≤ 4) (hz : code / 6 ^ vn L = 0) : cntC L (dgc code) = 0 ↔ code = 0 := by
  constructor
  · intro h
    have h2 := sm_0 (f := dgc code) (n := vn L) h
    have h1 : code < 6 ^ vn L := by
      rcases Nat.lt_or_ge code (6 ^ vn L) with q | q
      · exact q
      · have := Nat.div_pos q (Nat.pow_pos (n := vn L) (show 0 < 6 by omega)); omega
    generalize vn L = n at h1 h2 hn
    have a0 : 0 < n → code % 6 = 0 := fun q => by have := h2 0 q; simpa [dgc] using this
    have a1 : 1 < n → code / 6 % 6 = 0 := fun q => by have := h2 1 q; simpa [dgc] using this
    have a2 : 2 < n → code / 36 % 6 = 0 := fun q => by have := h2 2 q; simpa [dgc] using this
    have a3 : 3 < n → code / 216 % 6 = 0 := fun q => by have := h2 3 q; simpa [dgc] using this
    have hn4 : n = 0 ∨ n = 1 ∨ n = 2 ∨ n = 3 ∨ n = 4 := by omega
    rcases hn4 with rfl | rfl | rfl | rfl | rfl <;> simp at h1 a0 a1 a2 a3 <;> omega
  · intro h
    subst h
    exact sm_z (fun v _ => dgc_0 v)
end COUNT
def sp_cuts (S : St) : Int32 := if vn (sL S) = 0 then -3 else nI (cntB (fun k => decide (isC (sL S) (sN S) k)) 1296)
def oI : Option Nat → Int32
  | none => -9
  | some x => nI x
def leS (L : Ld) (nd : Nat → Nat → Nat → Nat) (v : Nat) : Nat → Option Nat
  | 0 => none
  | k + 1 => if isC L nd k ∧ sumC L (dgc k) = v then (match leS L nd v k with
      | none => some (cntC L (dgc k))
      | some x => if cntC L (dgc k) < x then some (cntC L (dgc k)) else some x) else leS L nd v k
def sp_some (S : St) (v : Int32) : Int32 := if InR v 0 99 then (if vn (sL S) = 0 then -3 else oI (leS (sL S) (sN S) (ix v) 1296)) else -2
def okN (L : Ld) (v : Nat) : (Nat → Nat) → Bool := fun c => decide (sumC L c ≠ v)
def sp_every (S : St) (v : Int32) : Int32 := if InR v 0 99 then (if vn (sL S) = 0 then -3 else bP (Wn (sL S) (sN S) (okN (sL S) (ix v)) (tn (sL S)) = 0)) else -2
def sp_runs (S : St) : Int64 := if vn (sL S) = 0 then -9223372036854775808 else lN (Wn (sL S) (sN S) (fun _ => true) (tn (sL S)))
def oddU (S : St) (v : Nat) : Nat := cntB (fun k => decide (isC (sL S) (sN S) k ∧ v ≤ sumC (sL S) (dgc k))) 1296
def oddD (S : St) : Nat := cntB (fun k => decide (isC (sL S) (sN S) k)) 1296
def sp_odds (S : St) (v w : Int32) : Int64 := if InR v 0 99 ∧ InR w 0 1 ∧ ¬ vn (sL S) = 0 then (if w = 0 then lN (oddU S (ix v) / Nat.gcd (oddU S (ix v)) (oddD S)) else lN (oddD S / Nat.gcd (oddU S (ix v)) (oddD S))) else -9223372036854775808
/-! the first run -/
/-- the first village that can go on; as many as there are: none -/
def lv1 (L : Ld) (nd : Nat → Nat → Nat → Nat) (c : Nat → Nat) : Nat := fst (fun v => !decide (Rdy L nd c v)) (vn L)
def fcut (L : Ld) (nd : Nat → Nat → Nat → Nat) : Nat → Nat → Nat
  | 0 => fun _ => 0
  | k + 1 => updN (fcut L nd k) (lv1 L nd (fcut L nd k)) (fcut L nd k (lv1 L nd (fcut L nd k)) + 1)
def sp_first (S : St) (k : Int32) : Int32 := if InR k (-1) 19 then (if vn (sL S) = 0 then -3 else if k = -1 then nI (sm (tn (sL S)) (vn (sL S))) else if ix k < sm (tn (sL S)) (vn (sL S)) then nI (lv1 (sL S) (sN S) (fcut (sL S) (sN S) (ix k))) else -9) else -2
section FIRST
variable {L : Ld} {nd : Nat → Nat → Nat → Nat} {c : Nat → Nat}
/-- who is ahead has the lower rank -/
theorem nd_rk (hL : LdOk L) (hN : Need L nd) {rk : Nat → Nat → Nat} (hr : ∀ v t, v < vn L → t < tn L v → (0 < t → rk v (t - 1) < rk v t) ∧ ∀ a b, Snd L v t a b → rk a b < rk v t) {v t u o : Nat} (hv : v < vn L) (ht : t < tn L v) (hu : u < vn L) (ho : o < nd v t u) : rk u o < rk v t := by
  have b1 := hL.1
  have mono : ∀ v, v < vn L → ∀ k o, o + k < tn L v → rk v o ≤ rk v (o + k) := by
    intro v hv k
    induction k with
    | zero => intro o _; exact Nat.le_refl _
    | succ k ih =>
      intro o h
      have h1 := ih o (by omega)
      have h2 := (hr v (o + k + 1) hv (by omega)).1 (by omega)
      rw [show o + k + 1 - 1 = o + k by omega] at h2
      show rk v o ≤ rk v (o + k + 1)
      omega
  have key : nd v t u = 0 ∨ rk u (nd v t u - 1) < rk v t := by
    refine nd_ind hN (P := fun v t => nd v t u = 0 ∨ rk u (nd v t u - 1) < rk v t) (fun v t hv ht h1 h2 => ?_) v t hv ht
    obtain ⟨r1, r2⟩ := hr v t hv ht
    rcases ((hN.1 v t hv ht).2 u (by omega)).2.2 with ⟨e1, e2⟩ | e2 | ⟨e1, e2⟩ | ⟨a, b, hs, e2 | ⟨e1, e2⟩⟩
    · subst e1
      rw [e2]
      rcases Nat.eq_zero_or_pos t with h0 | h0
      · exact Or.inl h0
      · exact Or.inr (r1 h0)
    · exact Or.inl e2
    · rw [e2]
      rcases h1 e1 with h3 | h3
      · exact Or.inl h3
      · exact Or.inr (Nat.lt_trans h3 (r1 e1))
    · rw [e2]
      rcases h2 a b hs with h3 | h3
      · exact Or.inl h3
      · exact Or.inr (Nat.lt_trans h3 (r2 a b hs))
    · subst e1
      rw [e2, Nat.add_sub_cancel]
      exact Or.inr (r2 u b hs)
  rcases key with h0 | h0
  · omega
  · have hb := (nd_bd hL hN hv ht (u := u) (by omega)).2 hu
    have := mono u hu (nd v t u - 1 - o) o (by omega)
    rw [show o + (nd v t u - 1 - o) = nd v t u - 1 by omega] at this
    omega
theorem min_ex {P : Nat → Prop} {f : Nat → Nat} : ∀ (n : Nat), (∃ v, P v ∧ f v < n) → ∃ v, P v ∧ ∀ w, P w → f v ≤ f w
  | 0, h => by obtain ⟨v, -, h⟩ := h; omega
  | n + 1, h => by
    by_cases h2 : ∃ v, P v ∧ f v < n
    · exact min_ex n h2
    · obtain ⟨v, h3, h4⟩ := h
      refine ⟨v, h3, fun w hw => ?_⟩
      rcases Nat.lt_or_ge (f w) n with q | q
      · exact absurd ⟨w, hw, q⟩ h2
      · omega
/-- where not all has happened, something can -/
theorem rdy_ex (hL : LdOk L) (hN : Need L nd) (hc : CutOk L c) (hlt : cntC L c < sm (tn L) (vn L)) : ∃ v, v < vn L ∧ Rdy L nd c v := by
  have b1 := hL.1
  have hex : ∃ v, v < vn L ∧ c v < tn L v := by
    refine Classical.byContradiction fun hno => ?_
    have : sm (tn L) (vn L) ≤ sm c (vn L) := sm_le2 _ (fun v hv => by
      rcases Nat.lt_or_ge (c v) (tn L v) with q | q
      · exact absurd ⟨v, hv, q⟩ hno
      · exact q)
    unfold cntC at hlt
    omega
  obtain ⟨-, rk, hr⟩ := id hN
  obtain ⟨v, ⟨hv, hcv⟩, hmin⟩ := min_ex (P := fun v => v < vn L ∧ c v < tn L v) (f := fun v => rk v (c v)) (rk hex.choose (c hex.choose) + 1) ⟨hex.choose, hex.choose_spec, by omega⟩
  refine ⟨v, hv, hcv, fun u hu => ?_⟩
  rcases Nat.lt_or_ge (c u) (nd v (c v) u) with q | q
  · exfalso
    have h1 := nd_rk hL hN hr hv hcv hu q
    have h2 := (nd_bd hL hN hv hcv (u := u) (by omega)).2 hu
    have h3 := hmin u ⟨hu, by omega⟩
    omega
  · exact q
theorem fst_spec {p : Nat → Bool} : ∀ {n : Nat}, fst p n < n → p (fst p n) = false ∧ ∀ k, k < fst p n → p k = true
  | n + 1, h => by
    unfold fst at h ⊢
    by_cases h1 : fst p n < n
    · rw [if_pos h1] at h ⊢
      exact fst_spec h1
    · rw [if_neg h1] at h ⊢
      have hall : ∀ k, k < n → p k = true := by
        intro k hk
        cases hp : p k with
        | true => rfl
        | false =>
          exfalso
          apply h1
          obtain ⟨j, hj, hmin⟩ := min_ex (P := fun j => p j = false) (f := fun j => j) (k + 1) ⟨k, hp, by omega⟩
          have := hmin k hp
          rw [fst_no (fun i hi => by cases hq : p i with | true => rfl | false => exact absurd (hmin i hq) (by omega)) hj (n := n) (by omega)]
          omega
      cases hp : p n with
      | true => rw [hp] at h; simp at h
      | false =>
        rw [hp] at h
        simp at h ⊢
        exact ⟨hp, hall⟩
theorem lv1_spec (hex : ∃ v, v < vn L ∧ Rdy L nd c v) : lv1 L nd c < vn L ∧ Rdy L nd c (lv1 L nd c) ∧ ∀ w, w < lv1 L nd c → ¬ Rdy L nd c w := by
  have hlt : lv1 L nd c < vn L := by
    rcases Nat.lt_or_ge (lv1 L nd c) (vn L) with q | q
    · exact q
    · exfalso
      obtain ⟨v, hv, hr⟩ := hex
      obtain ⟨j, ⟨hj, hjr⟩, hmin⟩ := min_ex (P := fun j => j < vn L ∧ Rdy L nd c j) (f := fun j => j) (v + 1) ⟨v, ⟨hv, hr⟩, by omega⟩
      have := fst_no (p := fun v => !decide (Rdy L nd c v)) (k := j) (fun i hi => by
        by_cases hq : Rdy L nd c i
        · exact absurd (hmin i ⟨by omega, hq⟩) (by omega)
        · simp only [decide_eq_false hq]; rfl) (by simp only [decide_eq_true hjr]; rfl) (n := vn L) hj
      unfold lv1 at q
      omega
  have h1 := fst_spec (p := fun v => !decide (Rdy L nd c v)) (n := vn L) hlt
  refine ⟨hlt, ?_, fun w hw => ?_⟩
  · have := h1.1
    rw [Bool.not_eq_false', decide_eq_true_eq] at this
    exact this
  · have := h1.2 w hw
    rw [Bool.not_eq_true', decide_eq_false_iff_not] at this
    exact this
theorem fcut_ok (hL : LdOk L) (hN : Need L nd) : ∀ k, k ≤ sm (tn L) (vn L) → CutOk L (fcut L nd k) ∧ Cbe L nd (fcut L nd k) ∧ cntC L (fcut L nd k) = k
  | 0, _ => ⟨fun v _ => Nat.zero_le _, cbe_0, sm_z (fun _ _ => rfl)⟩
  | k + 1, h => by
    obtain ⟨h1, h2, h3⟩ := fcut_ok hL hN k (by omega)
    obtain ⟨e1, e2, -⟩ := lv1_spec (rdy_ex hL hN h1 (by omega))
    refine ⟨cut_up h1 e2, cbe_up h2 e2, ?_⟩
    have := sm_updN (c := fcut L nd k) (v := lv1 L nd (fcut L nd k)) (x := fcut L nd k (lv1 L nd (fcut L nd k)) + 1) e1
    unfold cntC at h3 ⊢
    show sm (updN _ _ _) (vn L) = k + 1
    omega
end FIRST

