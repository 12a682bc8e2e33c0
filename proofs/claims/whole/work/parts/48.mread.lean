/-- what the reference has read -/
def RdL (A : Nat → Nat → Int32) (L : Ld) : Prop := ∀ v, v < vn L → A 14 v = nI (kd L v) ∧ A 15 v = nI (tn L v) ∧ ∀ t, t < tn L v → A 16 (5 * v + t) = nI (wh L v t) ∧ A 17 (5 * v + t) = nI (dg L v t)
/-- reading changed its own numbers and rows alone -/
def RdF (I : Nat → Int32) (A : Nat → Nat → Int32) (I1 : Nat → Int32) (A1 : Nat → Nat → Int32) : Prop := (∀ k, k ≠ 12 → k ≠ 13 → I1 k = I k) ∧ ∀ k, k < 14 ∨ 17 < k → A1 k = A k
theorem RdF.rf {I : Nat → Int32} {A : Nat → Nat → Int32} : RdF I A I A := ⟨fun _ _ _ => rfl, fun _ _ => rfl⟩
theorem RdF.tr {I I1 I2 : Nat → Int32} {A A1 A2 : Nat → Nat → Int32} (h : RdF I A I1 A1) (h2 : RdF I1 A1 I2 A2) : RdF I A I2 A2 := ⟨fun k a b => (h2.1 k a b).trans (h.1 k a b), fun k a => (h2.2 k a).trans (h.2 k a)⟩
theorem RdF.i {I : Nat → Int32} {A : Nat → Nat → Int32} {k : Nat} {x : Int32} (hk : k = 12 ∨ k = 13) : RdF I A (upd I k x) A := ⟨fun j a b => pk_un (by omega), fun _ _ => rfl⟩
theorem RdF.a {I : Nat → Int32} {A : Nat → Nat → Int32} {k : Nat} {F : Nat → Int32} (hk : 14 ≤ k ∧ k ≤ 17) : RdF I A I (va_up A k F) := ⟨fun _ _ _ => rfl, fun j a => if_neg (by omega)⟩
section MREAD
variable {l : Launch} {g : Gm} {rl : Nat → Nat} {h : Hp} {K : PT} {m : Nat} {q : Nat → Nat} {I : Nat → Int32} {A : Nat → Nat → Int32} {Wy : Nat → Int64} {t : Nat → Int32} {n first : Nat} {L : Ld}
theorem m_isSign {p : Nat} {x y : Int32} (hM : ModH g rl h m q I A Wy) (h12 : I 12 = nI (first + p)) (hc : ∀ k, k < n → A 4 (first + k) = t k) (hb : first + n ≤ 240) (hpn : p ≤ n) (hy : ¬ y = -1) (hK : ∀ (h1 : Hp) (I1 : Nat → Int32), ModH g rl h1 m q I1 A Wy → MX rl h h1 → RdF I A I1 A → I1 13 = I 13 → I1 12 = nI (first + (if cdI t n p = y then p + 1 else p)) → K (some (.int (bP (cdI t n p = y)))) h1) (ex : x = nI (first + n) := by rfl) : Run l g d_X10_isSign [.ref m, .int x, .int y] h 0 0 K := by
  subst ex
  refine vc_X10_isSign (fun G hG => ?_)
  refine hG 0 _ _ _ _ _ ?_
  refine y_get hM.1 (by decide) rfl ?_
  rw [h12]
  refine b_ge (first + p) (first + n) (fun z => ?_) (fun z => ?_)
  · have hn : ¬ cdI t n p = y := fun e => by have := cd_in hy e; omega
    exact z0 hn (hK h I hM Ex.rf RdF.rf rfl (by rw [if_neg hn]; exact h12))
  · refine y_get hM.1 (by decide) rfl ?_
    refine y_get hM.1 (by decide) rfl ?_
    rw [h12]
    refine y_ia (first + p) hM.a4 (by omega) (hc p (by omega)) ?_
    have ec : cdI t n p = t p := if_pos (by omega)
    refine b_cases (fun c => ?_) (fun c => ?_)
    · have c : cdI t n p = y := ec.trans c
      refine y_get hM.1 (by decide) rfl ?_
      rw [h12]
      refine y_putI hM.1 (by decide) (Nat.le_of_ble_eq_true rfl) rfl (fun h1 e1 x1 => ?_)
      have hM1 := hM.setI (I' := upd I 12 (nI (first + p + 1))) (by rw [nI_succ]; exact e1) x1
      exact z1 c (hK h1 _ hM1 (MX.of x1) (RdF.i (Or.inl rfl)) rfl (by rw [if_pos c]; rfl))
    · have c : ¬ cdI t n p = y := fun e => c (ec.symm.trans e)
      exact z0 c (hK h I hM Ex.rf RdF.rf rfl (by rw [if_neg c]; exact h12))
theorem m_isThingNext {p : Nat} {x : Int32} (hM : ModH g rl h m q I A Wy) (h12 : I 12 = nI (first + p)) (hc : ∀ k, k < n → A 4 (first + k) = t k) (hb : first + n ≤ 240) (hpn : p ≤ n) (hK : K (some (.int (bP (wof (cdI t n p) ≠ 9)))) h) (ex : x = nI (first + n) := by rfl) : Run l g d_X10_isThingNext [.ref m, .int x] h 0 0 K := by
  subst ex
  refine vc_X10_isThingNext (fun G hG => ?_)
  refine hG 0 _ _ _ _ _ ?_
  refine y_get hM.1 (by decide) rfl ?_
  rw [h12]
  refine b_ge (first + p) (first + n) (fun z => ?_) (fun z => ?_)
  · exact z0 (fun e => by have := wof_in e; omega) hK
  have ec : cdI t n p = t p := if_pos (by omega)
  rw [ec] at hK
  refine y_get hM.1 (by decide) rfl ?_
  refine y_get hM.1 (by decide) rfl ?_
  rw [h12]
  refine y_ia (first + p) hM.a4 (by omega) (hc p (by omega)) ?_
  unfold wof at hK
  refine b_cases (fun c => ?_) (fun c => ?_)
  · simp only [if_pos c] at hK
    exact z1 (by decide) hK
  simp only [if_neg c] at hK
  refine y_get hM.1 (by decide) rfl ?_
  refine y_get hM.1 (by decide) rfl ?_
  rw [h12]
  refine y_ia (first + p) hM.a4 (by omega) (hc p (by omega)) ?_
  refine b_cases (fun c => ?_) (fun c => ?_)
  · simp only [if_pos c] at hK
    exact z1 (by decide) hK
  simp only [if_neg c] at hK
  refine y_get hM.1 (by decide) rfl ?_
  refine y_get hM.1 (by decide) rfl ?_
  rw [h12]
  refine y_ia (first + p) hM.a4 (by omega) (hc p (by omega)) ?_
  refine b_cases (fun c => ?_) (fun c => ?_)
  · simp only [if_pos c] at hK
    exact z1 (by decide) hK
  · simp only [if_neg c] at hK
    exact z0 (by decide) hK
theorem m_digit {p w : Nat} {x y : Int32} (hM : ModH g rl h m q I A Wy) (h12 : I 12 = nI (first + p)) (hc : ∀ k, k < n → A 4 (first + k) = t k) (hb : first + n ≤ 240) (hpn : p ≤ n) (hK : ∀ (h1 : Hp) (I1 : Nat → Int32), ModH g rl h1 m q I1 A Wy → MX rl h h1 → RdF I A I1 A → I1 13 = I 13 → I1 12 = nI (first + (if dgo (cdI t n p) w then p + 1 else p)) → K (some (.int (if dgo (cdI t n p) w then nI (dgv (cdI t n p)) else -9))) h1) (ex : x = nI (first + n) := by rfl) (ey : y = nI (mdg w) := by rfl) : Run l g d_X10_digit [.ref m, .int x, .int y] h 0 0 K := by
  subst ex ey
  refine vc_X10_digit (fun G hG => ?_)
  refine hG 0 _ _ _ _ _ ?_
  refine y_get hM.1 (by decide) rfl ?_
  rw [h12]
  refine b_ge (first + p) (first + n) (fun z => ?_) (fun z => ?_)
  · have hn : ¬ dgo (cdI t n p) w := fun e => by have := dgo_in e; omega
    have hk9 := hK h I hM Ex.rf RdF.rf rfl (by rw [if_neg hn]; exact h12)
    rw [if_neg hn] at hk9
    exact hk9
  have ec : cdI t n p = t p := if_pos (by omega)
  rw [ec] at hK
  refine y_get hM.1 (by decide) rfl ?_
  refine y_get hM.1 (by decide) rfl ?_
  rw [h12]
  refine y_ia (first + p) hM.a4 (by omega) (hc p (by omega)) ?_
  refine y_callS (m_within ?_)
  refine b_Z (fun c => ?_) (fun c => ?_)
  · have c : ¬ dgo (t p) w := c
    have hk9 := hK h I hM Ex.rf RdF.rf rfl (by rw [if_neg c]; exact h12)
    rw [if_neg c] at hk9
    exact hk9
  · have c : dgo (t p) w := c
    refine y_get hM.1 (by decide) rfl ?_
    rw [h12]
    refine y_putI hM.1 (by decide) (Nat.le_of_ble_eq_true rfl) rfl (fun h1 e1 x1 => ?_)
    have hM1 := hM.setI (I' := upd I 12 (nI (first + p + 1))) (by rw [nI_succ]; exact e1) x1
    have hk9 := hK h1 _ hM1 (MX.of x1) (RdF.i (Or.inl rfl)) rfl (by rw [if_pos c]; rfl)
    rw [if_pos c, ← (dgv_of c).1] at hk9
    refine y_get hM1.1 (by decide) rfl ?_
    refine y_get hM1.1 (by decide) rfl ?_
    refine y_ia (first + p) hM1.a4 (by omega) (hc p (by omega)) ?_ (nI_pred (first + p))
    exact hk9
theorem RdL.addT {A2 : Nat → Nat → Int32} {w d : Nat} (hR : RdL A L) (h0 : 0 < vn L) (h4 : vn L ≤ 4) (ht : tn L (vn L - 1) < 5) (e14 : A2 14 = A 14) (e15 : ∀ v, v < 4 → A2 15 v = if v = vn L - 1 then nI (tn L (vn L - 1) + 1) else A 15 v) (e16 : ∀ k, k < 20 → A2 16 k = if k = 5 * (vn L - 1) + tn L (vn L - 1) then nI w else A 16 k) (e17 : ∀ k, k < 20 → A2 17 k = if k = 5 * (vn L - 1) + tn L (vn L - 1) then nI d else A 17 k) (h5 : ∀ v, v < vn L → tn L v ≤ 5) : RdL A2 (addT L w d) := by
  intro v hv
  have hv : v < vn L := hv
  obtain ⟨a1, a2, a3⟩ := hR v hv
  have b5 := h5 v hv
  refine ⟨by rw [e14]; exact a1, ?_, fun tt htt => ?_⟩
  · show A2 15 v = nI (updN (tn L) (vn L - 1) (tn L (vn L - 1) + 1) v)
    rw [e15 v (by omega)]
    by_cases e : v = vn L - 1
    · rw [if_pos e, e, updN_s]
    · rw [if_neg e, updN_n e]; exact a2
  · have htt : tt < updN (tn L) (vn L - 1) (tn L (vn L - 1) + 1) v := htt
    show A2 16 (5 * v + tt) = nI (upd2 (wh L) (vn L - 1) (tn L (vn L - 1)) w v tt) ∧ A2 17 (5 * v + tt) = nI (upd2 (dg L) (vn L - 1) (tn L (vn L - 1)) d v tt)
    by_cases e : v = vn L - 1 ∧ tt = tn L (vn L - 1)
    · rw [e16 _ (by omega), e17 _ (by omega), if_pos (by rw [e.1, e.2]), if_pos (by rw [e.1, e.2]), e.1, e.2, upd2_s, upd2_s]
      exact ⟨rfl, rfl⟩
    · have hlt : tt < tn L v := by
        by_cases ev : v = vn L - 1
        · rw [ev, updN_s] at htt
          have : tt ≠ tn L (vn L - 1) := fun z => e ⟨ev, z⟩
          rw [ev]; omega
        · rw [updN_n ev] at htt; exact htt
      have hne : ¬ 5 * v + tt = 5 * (vn L - 1) + tn L (vn L - 1) := fun z => e (by omega)
      rw [e16 _ (by omega), e17 _ (by omega), if_neg hne, if_neg hne, upd2_n e, upd2_n e]
      exact a3 tt hlt
end MREAD

