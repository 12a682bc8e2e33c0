section M2
variable {l : Launch} {g : Gm} {rl : Nat → Nat} {h : Hp} {K : PT} {m : Nat} {q : Nat → Nat} {I : Nat → Int32} {A : Nat → Nat → Int32} {Wy : Nat → Int64} {L : Ld} {nd : Nat → Nat → Nat → Nat} {c : Nat → Nat}
theorem up_up (A : Nat → Nat → Int32) (k : Nat) (F F' : Nat → Int32) : va_up (va_up A k F) k F' = va_up A k F' := by
  funext j
  unfold va_up
  by_cases z : j = k
  · rw [if_pos z, if_pos z]
  · rw [if_neg z, if_neg z, if_neg z]
theorem up_id (A : Nat → Nat → Int32) (k : Nat) : va_up A k (A k) = A := by
  funext j
  unfold va_up
  by_cases z : j = k
  · rw [if_pos z, z]
  · rw [if_neg z]
theorem m_canBe (hM : ModH g rl h m q I A Wy) (hL : MLand I A L nd) (hc : MCut A L c) (hK : K (some (.int (bP (Cbe L nd c)))) h) : Run l g d_X10_canBe [.ref m] h 0 0 K := by
  have h5 := hL.2.1
  have b1 := hL.1.1
  refine vc_X10_canBe (fun G hG => ?_)
  refine hG 0 _ _ _ _ _ ?_
  have loop : ∀ k v, v + k = vn L → (∀ w, w < v → ∀ u, u < vn L → 0 < c w → nd w (c w - 1) u ≤ c u) → ∀ o9 : Option Value, G 1 h 0 0 [some (.ref m), some (.int (nI v)), o9] [] := by
    intro k
    induction k with
    | zero =>
      intro v hv hw o9
      refine hG 1 _ _ _ _ _ ?_
      refine y_get hM.1 (by decide) rfl ?_
      rw [h5]
      refine b_ge v (vn L) (fun _ => ?_) (fun _ => by omega)
      exact z1 (fun w hw2 => hw w (by omega)) hK
    | succ k ih =>
      intro v hv hw o9
      refine hG 1 _ _ _ _ _ ?_
      refine y_get hM.1 (by decide) rfl ?_
      rw [h5]
      refine b_ge v (vn L) (fun _ => by omega) (fun _ => ?_)
      have hvn : v < vn L := by omega
      have hcv := hc.1 v hvn
      have b2 := (hL.1.2 v hvn).2.2.1
      have next : (∀ u, u < vn L → 0 < c v → nd v (c v - 1) u ≤ c u) → ∀ o9 : Option Value, G 1 h 0 0 [some (.ref m), some (.int (nI v + 1)), o9] [] := fun hx o9 => by
        have ih9 := ih (v + 1) (by omega) (lt_s hw hx) o9
        rw [nI_succ v] at ih9
        exact ih9 
      have inner : ∀ j u, u + j = vn L → (∀ w, w < u → 0 < c v → nd v (c v - 1) w ≤ c w) → G 2 h 0 0 [some (.ref m), some (.int (nI v)), some (.int (nI u))] [] := by
        intro j
        induction j with
        | zero =>
          intro u hu hw2
          refine hG 2 _ _ _ _ _ ?_
          refine y_get hM.1 (by decide) rfl ?_
          rw [h5]
          refine b_ge u (vn L) (fun _ => ?_) (fun _ => by omega)
          exact next (fun w hw3 => hw2 w (by omega)) _
        | succ j ih2 =>
          intro u hu hw2
          refine hG 2 _ _ _ _ _ ?_
          refine y_get hM.1 (by decide) rfl ?_
          rw [h5]
          refine b_ge u (vn L) (fun _ => by omega) (fun _ => ?_)
          refine y_get hM.1 (by decide) rfl ?_
          refine y_ia (v) hM.a21 (by omega) (hc.2 v hvn) ?_
          refine pk_le (c v) 0 (fun y => ?_) (fun y => ?_)
          · exact next (fun w _ hw3 => by omega) _
          · obtain ⟨e1, e2⟩ := ((hL.2.2 v hvn).2.2 (c v - 1) (by omega)).2.2 u (by omega)
            have hcu := hc.1 u (by omega)
            have b4 := (hL.1.2 u (by omega)).2.2.1
            refine y_get hM.1 (by decide) rfl ?_
            refine y_ia (v) hM.a21 (by omega) (hc.2 v hvn) ?_
            have e9 : nI (c v) - 1 = nI (c v - 1) := pk_sub (b := 1) (by omega)
            refine y_call1 hM.1 (m_aheadOf hM (by omega) e1 ?_ rfl e9)
            refine y_get hM.1 (by decide) rfl ?_
            refine y_ia (u) hM.a21 (by omega) (hc.2 u (by omega)) ?_
            refine pk_le (nd v (c v - 1) u) (c u) (fun x => ?_) (fun x => ?_)
            · have ih9 := ih2 (u + 1) (by omega) (lt_s hw2 (fun _ => x))
              rw [nI_succ u] at ih9
              exact ih9 
            · exact z0 (fun r => by have := r v hvn u (by omega) (by omega); omega) hK
      exact inner (vn L) 0 (by omega) (fun w hw => by omega)
  exact loop (vn L) 0 (by omega) (fun w hw => by omega) _
theorem m_takeNow {n : Nat} (hM : ModH g rl h m q I A Wy) (h5 : I 5 = nI n) (hn : n ≤ 4) (hK : ∀ (h1 : Hp) (F : Nat → Int32), ModH g rl h1 m q I (va_up A 21 F) Wy → (∀ v, v < n → F v = A 11 v) → MX rl h h1 → K none h1) : Run l g d_X10_takeNow [.ref m] h 0 0 K := by
  refine vc_X10_takeNow (fun G hG => ?_)
  refine hG 0 _ _ _ _ _ ?_
  have loop : ∀ k v, v + k = n → ∀ (h1 : Hp) (F : Nat → Int32), ModH g rl h1 m q I (va_up A 21 F) Wy → (∀ w, w < v → F w = A 11 w) → MX rl h h1 → G 1 h1 0 0 [some (.ref m), some (.int (nI v))] [] := by
    intro k
    induction k with
    | zero =>
      intro v hv h1 F hM hF hx
      refine hG 1 _ _ _ _ _ ?_
      refine y_get hM.1 (by decide) rfl ?_
      rw [h5]
      refine b_ge v n (fun _ => ?_) (fun _ => by omega)
      exact hK h1 F hM (fun w hw => hF w (by omega)) hx
    | succ k ih =>
      intro v hv h1 F hM hF hx
      refine hG 1 _ _ _ _ _ ?_
      refine y_get hM.1 (by decide) rfl ?_
      rw [h5]
      refine b_ge v n (fun _ => by omega) (fun _ => ?_)
      refine y_get hM.1 (by decide) rfl ?_
      refine y_get hM.1 (by decide) rfl ?_
      refine y_ia (v) hM.a11 (by omega) (rfl) ?_
      refine y_is v hM.a21 (by omega) (fun h2 e2 x2 => ?_)
      have hM2 := hM.setA 21 e2 x2
      rw [up_up] at hM2
      refine (fun z => by rw [nI_succ v] at z; exact z) (ih (v + 1) (by omega) h2 _ hM2 (fun w hw => ?_) (hx.trs (MX.of x2)))
      by_cases e : w = v
      · rw [e]; exact pk_us
      · rw [pk_un e]; exact hF w (by omega)
  refine loop n 0 (by omega) h (A 21) ?_ (fun w hw => by omega) Ex.rf
  rw [up_id]
  exact hM
theorem m_takeCells {x : Int32} {n first : Nat} (hM : ModH g rl h m q I A Wy) (h5 : I 5 = nI n) (hn : n ≤ 4) (hf : first + n ≤ 240) (hK : ∀ (h1 : Hp) (F : Nat → Int32), ModH g rl h1 m q I (va_up A 21 F) Wy → (∀ v, v < n → F v = A 4 (first + v)) → MX rl h h1 → K none h1) (ex : x = nI first := by rfl) : Run l g d_X10_takeCells [.ref m, .int x] h 0 0 K := by
  subst ex
  refine vc_X10_takeCells (fun G hG => ?_)
  refine hG 0 _ _ _ _ _ ?_
  have loop : ∀ k v, v + k = n → ∀ (h1 : Hp) (F : Nat → Int32), ModH g rl h1 m q I (va_up A 21 F) Wy → (∀ w, w < v → F w = A 4 (first + w)) → MX rl h h1 → G 1 h1 0 0 [some (.ref m), some (.int (nI first)), some (.int (nI v))] [] := by
    intro k
    induction k with
    | zero =>
      intro v hv h1 F hM hF hx
      refine hG 1 _ _ _ _ _ ?_
      refine y_get hM.1 (by decide) rfl ?_
      rw [h5]
      refine b_ge v n (fun _ => ?_) (fun _ => by omega)
      exact hK h1 F hM (fun w hw => hF w (by omega)) hx
    | succ k ih =>
      intro v hv h1 F hM hF hx
      refine hG 1 _ _ _ _ _ ?_
      refine y_get hM.1 (by decide) rfl ?_
      rw [h5]
      refine b_ge v n (fun _ => by omega) (fun _ => ?_)
      refine y_get hM.1 (by decide) rfl ?_
      refine y_get hM.1 (by decide) rfl ?_
      refine y_ia (first + v) hM.a4 (by omega) (rfl) ?_ (nI_add first v)
      refine y_is v hM.a21 (by omega) (fun h2 e2 x2 => ?_)
      have hM2 := hM.setA 21 e2 x2
      rw [up_up] at hM2
      refine (fun z => by rw [nI_succ v] at z; exact z) (ih (v + 1) (by omega) h2 _ hM2 (fun w hw => ?_) (hx.trs (MX.of x2)))
      by_cases e : w = v
      · rw [e]; exact pk_us
      · rw [pk_un e]; exact hF w (by omega)
  refine loop n 0 (by omega) h (A 21) ?_ (fun w hw => by omega) Ex.rf
  rw [up_id]
  exact hM
/-- a cell that tells of a village how many are in the cut -/
abbrev CellOk (x : Int32) (n : Nat) : Prop := InR x 0 (nI n)
theorem m_refusesCells {x : Int32} {first : Nat} (hM : ModH g rl h m q I A Wy) (hL : MLand I A L nd) (hf : first + vn L ≤ 240) (hK : K (some (.int (if ∀ v, v < vn L → CellOk (A 4 (first + v)) (tn L v) then 0 else -2))) h) (ex : x = nI first := by rfl) : Run l g d_X10_refusesCells [.ref m, .int x] h 0 0 K := by
  subst ex
  have h5 := hL.2.1
  have b1 := hL.1.1
  refine vc_X10_refusesCells (fun G hG => ?_)
  refine hG 0 _ _ _ _ _ ?_
  have loop : ∀ k v, v + k = vn L → (∀ w, w < v → CellOk (A 4 (first + w)) (tn L w)) → G 1 h 0 0 [some (.ref m), some (.int (nI first)), some (.int (nI v))] [] := by
    intro k
    induction k with
    | zero =>
      intro v hv hw
      refine hG 1 _ _ _ _ _ ?_
      refine y_get hM.1 (by decide) rfl ?_
      rw [h5]
      refine b_ge v (vn L) (fun _ => ?_) (fun _ => by omega)
      rw [if_pos (fun w hw2 => hw w (by omega))] at hK
      exact hK
    | succ k ih =>
      intro v hv hw
      refine hG 1 _ _ _ _ _ ?_
      refine y_get hM.1 (by decide) rfl ?_
      rw [h5]
      refine b_ge v (vn L) (fun _ => by omega) (fun _ => ?_)
      refine y_get hM.1 (by decide) rfl ?_
      refine y_ia (first + v) hM.a4 (by omega) (rfl) ?_ (nI_add first v)
      refine y_get hM.1 (by decide) rfl ?_
      refine y_ia (v) hM.a7 (by omega) ((hL.2.2 v (by omega)).2.1) ?_
      refine y_callS (m_within ?_)
      refine b_Z (fun z => ?_) (fun z => ?_)
      · rw [if_neg (fun r => z (r v (by omega)))] at hK
        exact hK
      · have ih9 := ih (v + 1) (by omega) (lt_s hw z)
        rw [nI_succ v] at ih9
        exact ih9 
  exact loop (vn L) 0 (by omega) (fun w hw => by omega)
end M2

