/-! bits of an int (begun from the kit's laws) -/
def bt (x : Int32) (i : Nat) : Bool := x.toBitVec.getLsbD i
theorem b_ext {x y : Int32} (h : ∀ i, i < 32 → bt x i = bt y i) : x = y := Int32.toBitVec_inj.mp (BitVec.eq_of_getLsbD_eq (fun i hi => h i hi))
theorem b_or (x y : Int32) (i : Nat) : bt (x ||| y) i = (bt x i || bt y i) := by unfold bt; rw [Int32.toBitVec_or, BitVec.getLsbD_or]
theorem b_and (x y : Int32) (i : Nat) : bt (x &&& y) i = (bt x i && bt y i) := by unfold bt; rw [Int32.toBitVec_and, BitVec.getLsbD_and]
theorem b_xor (x y : Int32) (i : Nat) : bt (x ^^^ y) i = (bt x i ^^ bt y i) := by unfold bt; rw [Int32.toBitVec_xor, BitVec.getLsbD_xor]
theorem b_m1 : ∀ i, i < 32 → bt (-1) i = true := by decide +kernel
theorem b_0 (i : Nat) : bt 0 i = false := BitVec.getLsbD_zero
theorem b_sl : ∀ n, n < 32 → ((nI n &&& 31).toBitVec.smod 32).toNat = n := by decide +kernel
theorem b_one : ∀ n, n < 32 → ∀ i, i < 32 → bt ((1 : Int32) <<< (nI n &&& 31)) i = decide (i = n) := by decide +kernel
theorem or_0 (x : Int32) : x ||| 0 = x := b_ext (fun i _ => by rw [b_or, b_0, Bool.or_false])
theorem or_as (x y z : Int32) : x ||| y ||| z = x ||| (y ||| z) := b_ext (fun i _ => by rw [b_or, b_or, b_or, b_or, Bool.or_assoc])
theorem bt_ub (p : Nat → Bool) : ∀ n, n ≤ 32 → ∀ i, i < 32 → bt (ub p n) i = (decide (i < n) && p i)
  | 0, _, i, hi => by
    unfold ub
    rw [b_0]
    simp
  | n + 1, hn, i, hi => by
    unfold ub
    rw [b_or, bt_ub p n (by omega) i hi]
    by_cases hp : p n = true
    · rw [if_pos hp, b_one n (by omega) i hi]
      by_cases e : i = n
      · subst e; simp [hp]
      · have : (i < n + 1) = (i < n) := by apply propext; omega
        simp [e, this]
    · rw [if_neg hp, b_0]
      by_cases e : i = n
      · subst e; simp [hp]
      · have : (i < n + 1) = (i < n) := by apply propext; omega
        simp [this]
theorem anyB_succ (p : Nat → Bool) (n : Nat) : anyB p (n + 1) = (anyB p n || p n) := rfl
/-! the reference's sets of letters -/
def lbv (L : Ld) (a v : Nat) : Nat → Int32
  | 0 => 0
  | t + 1 => lbv L a v t ||| (if wh L v t = a then (1 : Int32) <<< (nI (dg L v t) &&& 31) else 0)
def lbs (L : Ld) (c : Nat → Nat) (a : Nat) : Nat → Int32
  | 0 => 0
  | v + 1 => lbs L c a v ||| lbv L a v (c v)
theorem lbv_succ (L : Ld) (a v t : Nat) : lbv L a v (t + 1) = lbv L a v t ||| (if wh L v t = a then (1 : Int32) <<< (nI (dg L v t) &&& 31) else 0) := rfl
theorem lbs_succ (L : Ld) (c : Nat → Nat) (a v : Nat) : lbs L c a (v + 1) = lbs L c a v ||| lbv L a v (c v) := rfl
theorem bt_lbv {L : Ld} (hL : LdOk L) {a v : Nat} (hv : v < vn L) : ∀ t, t ≤ tn L v → ∀ i, i < 32 → bt (lbv L a v t) i = anyB (fun t => decide (wh L v t = a) && decide (dg L v t = i)) t
  | 0, _, i, _ => b_0 i
  | t + 1, ht, i, hi => by
    have hd := ((hL.2 v hv).2.2.2 t (by omega)).2.1
    rw [lbv_succ, b_or, bt_lbv hL hv t (by omega) i hi, anyB_succ]
    congr 1
    by_cases e : wh L v t = a
    · rw [if_pos e, b_one _ (by omega) i hi]
      simp [e, eq_comm]
    · rw [if_neg e, b_0]
      simp [e]
theorem bt_lbs {L : Ld} (hL : LdOk L) {c : Nat → Nat} (hc : CutOk L c) {a : Nat} : ∀ n, n ≤ vn L → ∀ i, i < 32 → bt (lbs L c a n) i = anyB (fun v => anyB (fun t => decide (wh L v t = a) && decide (dg L v t = i)) (c v)) n
  | 0, _, i, _ => b_0 i
  | n + 1, hn, i, hi => by
    rw [lbs_succ, b_or, bt_lbs hL hc n (by omega) i hi, bt_lbv hL (by omega) (c n) (hc n (by omega)) i hi, anyB_succ]
theorem uw_bits {L : Ld} (hL : LdOk L) {c : Nat → Nat} (hc : CutOk L c) : lbs L c 1 (vn L) &&& (lbs L c 2 (vn L) ^^^ -1) = uwB L c := by
  refine b_ext (fun i hi => ?_)
  unfold uwB
  rw [b_and, b_xor, b_m1 i hi, bt_lbs hL hc _ (Nat.le_refl _) i hi, bt_lbs hL hc _ (Nat.le_refl _) i hi, bt_ub _ 8 (by omega) i hi]
  show (byB L c 1 i && (byB L c 2 i ^^ true)) = (decide (i < 8) && (byB L c 1 i && !byB L c 2 i))
  rw [Bool.xor_true]
  by_cases h8 : i < 8
  · simp [h8]
  · have : byB L c 1 i = false := by
      cases hb : byB L c 1 i with
      | false => rfl
      | true =>
        exfalso
        obtain ⟨v, hv, h1⟩ := anyB_iff.mp hb
        obtain ⟨t, ht, h2⟩ := anyB_iff.mp h1
        rw [Bool.and_eq_true, decide_eq_true_eq, decide_eq_true_eq] at h2
        have h3 := ((hL.2 v hv).2.2.2 t (Nat.lt_of_lt_of_le ht (hc v hv))).2.2 (by rw [h2.1]; decide)
        omega
    simp [h8, this]
section MB
variable {l : Launch} {g : Gm} {rl : Nat → Nat} {h : Hp} {K : PT} {m : Nat} {q : Nat → Nat} {I : Nat → Int32} {A : Nat → Nat → Int32} {Wy : Nat → Int64} {L : Ld} {nd : Nat → Nat → Nat → Nat} {c : Nat → Nat}
theorem m_lettersBy {a : Nat} (ha : a ≤ 2) (hM : ModH g rl h m q I A Wy) (hL : MLand I A L nd) (hc : MCut A L c) (hK : K (some (.int (lbs L c a (vn L)))) h) (x : Int32) (hx : x = nI a := by rfl) : Run l g d_X10_lettersBy [.ref m, .int x] h 0 0 K := by
  subst hx
  have h5 := hL.2.1
  have b1 := hL.1.1
  refine vc_X10_lettersBy (fun G hG => ?_)
  refine hG 0 _ _ _ _ _ ?_
  have loop : ∀ k v, v + k = vn L → ∀ o, G 1 h 0 0 [some (.ref m), some (.int (nI a)), some (.int (lbs L c a v)), some (.int (nI v)), o] [] := by
    intro k
    induction k with
    | zero =>
      intro v hv o
      refine hG 1 _ _ _ _ _ ?_
      refine y_get hM.1 (by decide) rfl ?_
      rw [h5]
      refine b_ge v (vn L) (fun _ => ?_) (fun _ => by omega)
      rw [show v = vn L by omega]
      exact hK
    | succ k ih =>
      intro v hv o
      refine hG 1 _ _ _ _ _ ?_
      refine y_get hM.1 (by decide) rfl ?_
      rw [h5]
      refine b_ge v (vn L) (fun _ => by omega) (fun _ => ?_)
      have hvn : v < vn L := by omega
      have hcv := hc.1 v hvn
      have b2 := (hL.1.2 v hvn).2.2.1
      have inner : ∀ j t, t + j = c v → G 2 h 0 0 [some (.ref m), some (.int (nI a)), some (.int (lbs L c a v ||| lbv L a v t)), some (.int (nI v)), some (.int (nI t))] [] := by
        intro j
        induction j with
        | zero =>
          intro t ht
          refine hG 2 _ _ _ _ _ ?_
          refine y_get hM.1 (by decide) rfl ?_
          refine y_ia (v) hM.a21 (by omega) (hc.2 v hvn) ?_
          refine b_ge t (c v) (fun _ => ?_) (fun _ => by omega)
          have ih9 := ih (v + 1) (by omega) (some (.int (nI t)))
          rw [nI_succ v, lbs_succ, show c v = t by omega] at ih9
          exact ih9
        | succ j ih2 =>
          intro t ht
          obtain ⟨w1, w2, -⟩ := (hL.2.2 v hvn).2.2 t (by omega)
          have b3 := ((hL.1.2 v hvn).2.2.2 t (by omega)).1
          have ih9 := ih2 (t + 1) (by omega)
          rw [nI_succ t, lbv_succ, ← or_as] at ih9
          refine hG 2 _ _ _ _ _ ?_
          refine y_get hM.1 (by decide) rfl ?_
          refine y_ia (v) hM.a21 (by omega) (hc.2 v hvn) ?_
          refine b_ge t (c v) (fun _ => by omega) (fun _ => ?_)
          refine y_get hM.1 (by decide) rfl ?_
          refine y_ia (5 * v + t) hM.a8 (by omega) (w1) ?_ (ix5 v t)
          refine pk_eq (wh L v t) a (fun z => ?_) (fun z => ?_)
          · rw [if_pos z] at ih9
            refine y_get hM.1 (by decide) rfl ?_
            refine y_ia (5 * v + t) hM.a9 (by omega) (w2) ?_ (ix5 v t)
            refine hG 3 _ _ _ _ _ ?_
            exact ih9
          · rw [if_neg z] at ih9
            refine hG 3 _ _ _ _ _ ?_
            exact ih9
      have i0 := inner (c v) 0 (by omega)
      rw [show lbv L a v 0 = 0 from rfl, or_0] at i0
      exact i0
  exact loop (vn L) 0 (by omega) none
theorem m_underWay (hM : ModH g rl h m q I A Wy) (hL : MLand I A L nd) (hc : MCut A L c) (hK : K (some (.int (uwB L c))) h) : Run l g d_X10_underWay [.ref m] h 0 0 K := by
  refine vc_X10_underWay (fun G hG => ?_)
  refine hG 0 _ _ _ _ _ ?_
  refine y_call1 hM.1 (m_lettersBy (a := 1) (by omega) hM hL hc ?_ _)
  refine y_call1 hM.1 (m_lettersBy (a := 2) (by omega) hM hL hc ?_ _)
  rw [← uw_bits hL.1 hc.1] at hK
  exact hK
end MB

