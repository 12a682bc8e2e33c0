/-- the land that the reference has taken; a cut in its hand -/
def MLand (I : Nat → Int32) (A : Nat → Nat → Int32) (L : Ld) (nd : Nat → Nat → Nat → Nat) : Prop := LdOk L ∧ I 5 = nI (vn L) ∧ ∀ v, v < vn L → A 6 v = nI (kd L v) ∧ A 7 v = nI (tn L v) ∧ ∀ t, t < tn L v → A 8 (5 * v + t) = nI (wh L v t) ∧ A 9 (5 * v + t) = nI (dg L v t) ∧ ∀ u, u < 4 → A 10 (4 * (5 * v + t) + u) = nI (nd v t u) ∧ nd v t u ≤ 5
def MCut (A : Nat → Nat → Int32) (L : Ld) (c : Nat → Nat) : Prop := CutOk L c ∧ ∀ v, v < vn L → A 21 v = nI (c v)
section M1
variable {l : Launch} {g : Gm} {rl : Nat → Nat} {h : Hp} {K : PT} {m : Nat} {q : Nat → Nat} {I : Nat → Int32} {A : Nat → Nat → Int32} {Wy : Nat → Int64} {L : Ld} {nd : Nat → Nat → Nat → Nat} {c : Nat → Nat}
theorem m_valueOf {v : Nat} (hM : ModH g rl h m q I A Wy) (hL : MLand I A L nd) (hc : MCut A L c) (hv : v < vn L) (hK : K (some (.int (nI (val L v (c v))))) h) : Run l g d_X10_valueOf [.ref m, .int (nI v)] h 0 0 K := by
  obtain ⟨hok, h5, hL⟩ := hL
  obtain ⟨-, h7, hT⟩ := hL v hv
  have hcv := hc.1 v hv
  have b1 := hok.1
  have b2 := (hok.2 v hv).2.2.1
  refine vc_X10_valueOf (fun G hG => ?_)
  refine hG 0 _ _ _ _ _ ?_
  have loop : ∀ k t, t + k = c v → G 1 h 0 0 [some (.ref m), some (.int (nI v)), some (.int (nI (val L v t))), some (.int (nI t))] [] := by
    intro k
    induction k with
    | zero =>
      intro t ht
      refine hG 1 _ _ _ _ _ ?_
      refine y_get hM.1 (by decide) rfl ?_
      refine y_ia v hM.a21 (by omega) (hc.2 v hv) ?_
      refine b_ge t (c v) (fun _ => ?_) (fun _ => by omega)
      rw [show t = c v by omega]
      exact hK
    | succ k ih =>
      intro t ht
      obtain ⟨w1, w2, -⟩ := hT t (by omega)
      obtain ⟨b3, b4, -⟩ := (hok.2 v hv).2.2.2 t (by omega)
      have hG2 : G 2 h 0 0 [some (.ref m), some (.int (nI v)), some (.int (nI (val L v t))), some (.int (nI t))] [.int (nI (val L v (t + 1)))] := by
        refine hG 2 _ _ _ _ _ ?_
        have e := ih (t + 1) (by omega)
        rw [nI_succ t] at e
        exact e
      rw [val_succ] at hG2
      refine hG 1 _ _ _ _ _ ?_
      refine y_get hM.1 (by decide) rfl ?_
      refine y_ia v hM.a21 (by omega) (hc.2 v hv) ?_
      refine b_ge t (c v) (fun _ => by omega) (fun _ => ?_)
      refine y_get hM.1 (by decide) rfl ?_
      refine y_ia (5 * v + t) hM.a8 (by omega) w1 ?_ (ix5 v t)
      refine pk_eq (wh L v t) 0 (fun z => ?_) (fun z => ?_)
      · rw [if_pos z] at hG2
        refine y_get hM.1 (by decide) rfl ?_
        refine y_ia (5 * v + t) hM.a9 (by omega) w2 ?_ (ix5 v t)
        exact hG2
      · rw [if_neg z] at hG2
        exact hG2
  exact loop (c v) 0 (by omega)
theorem m_within {x lo hi : Int32} (hK : K (some (.int (bP (InR x lo hi)))) h) : Run l g d_X10_within [.int x, .int lo, .int hi] h 0 0 K := by
  refine vc_X10_within (fun G hG => ?_)
  refine hG 0 _ _ _ _ _ ?_
  refine b_cases (fun z => ?_) (fun z => ?_)
  · exact z0 (fun q => nlt.mpr q.1 z) hK
  · refine b_cases (fun y => ?_) (fun y => ?_)
    · exact z0 (fun q => nlt.mpr q.2 y) hK
    · exact z1 ⟨nlt.mp z, nlt.mp y⟩ hK
theorem m_isSheet {x : Int32} (hK : K (some (.int (bP (InR x 0 3)))) h) : Run l g d_X10_isSheet [.int x] h 0 0 K := by
  refine vc_X10_isSheet (fun G hG => ?_)
  refine hG 0 _ _ _ _ _ ?_
  refine y_callS (m_within ?_)
  exact ⟨bP_or, hK⟩
theorem m_isSort {x : Int32} (hK : K (some (.int (bP (InR x 0 2)))) h) : Run l g d_X10_isSort [.int x] h 0 0 K := by
  refine vc_X10_isSort (fun G hG => ?_)
  refine hG 0 _ _ _ _ _ ?_
  refine y_callS (m_within ?_)
  exact ⟨bP_or, hK⟩
theorem m_isVillage {x : Int32} {n : Nat} (hM : ModH g rl h m q I A Wy) (h5 : I 5 = nI n) (hK : K (some (.int (bP (¬ x < 0 ∧ ¬ nI n ≤ x)))) h) : Run l g d_X10_isVillage [.ref m, .int x] h 0 0 K := by
  refine vc_X10_isVillage (fun G hG => ?_)
  refine hG 0 _ _ _ _ _ ?_
  refine b_cases (fun z => ?_) (fun z => ?_)
  · exact z0 (fun q => q.1 z) hK
  · refine y_get hM.1 (by decide) rfl ?_
    rw [h5]
    refine b_cases (fun y => ?_) (fun y => ?_)
    · exact z0 (fun q => q.2 y) hK
    · exact z1 ⟨z, y⟩ hK
theorem m_aheadOf {v t u : Nat} {y x1 x2 x3 : Int32} (hM : ModH g rl h m q I A Wy) (hb : 4 * (5 * v + t) + u < 80) (hy : A 10 (4 * (5 * v + t) + u) = y) (hK : K (some (.int y)) h) (e1 : x1 = nI v := by rfl) (e2 : x2 = nI t := by rfl) (e3 : x3 = nI u := by rfl) : Run l g d_X10_aheadOf [.ref m, .int x1, .int x2, .int x3] h 0 0 K := by
  subst e1 e2 e3
  refine vc_X10_aheadOf (fun G hG => ?_)
  refine hG 0 _ _ _ _ _ ?_
  refine y_get hM.1 (by decide) rfl ?_
  refine y_ia (4 * (5 * v + t) + u) hM.a10 (by omega) (hy) ?_ (ix4 v t u)
  exact hK
theorem m_worthOf {v : Nat} (hM : ModH g rl h m q I A Wy) (hL : MLand I A L nd) (hc : MCut A L c) (hv : v < vn L) (hK : K (some (.int (nI (wor (kd L v) (val L v (c v)))))) h) : Run l g d_X10_worthOf [.ref m, .int (nI v)] h 0 0 K := by
  have h6 := (hL.2.2 v hv).1
  have b1 := hL.1.1
  have b3 := (hL.1.2 v hv).1
  refine vc_X10_worthOf (fun G hG => ?_)
  refine hG 0 _ _ _ _ _ ?_
  refine y_call1 hM.1 (m_valueOf hM hL hc hv ?_)
  refine y_get hM.1 (by decide) rfl ?_
  refine y_ia (v) hM.a6 (by omega) (h6) ?_
  unfold wor at hK
  refine pk_eq (kd L v) 0 (fun z => ?_) (fun z => ?_)
  · rw [if_neg (by omega), if_neg (by omega)] at hK
    exact hK
  · refine y_get hM.1 (by decide) rfl ?_
    refine y_ia (v) hM.a6 (by omega) (h6) ?_
    refine pk_eq (kd L v) 1 (fun y => ?_) (fun y => ?_)
    · rw [if_neg (by omega), if_pos y, nI_succ] at hK
      exact hK
    · rw [if_pos (by omega), ← pk_mul] at hK
      exact hK
theorem m_sumOf (hM : ModH g rl h m q I A Wy) (hL : MLand I A L nd) (hc : MCut A L c) (hK : K (some (.int (nI (sumC L c)))) h) : Run l g d_X10_sumOf [.ref m] h 0 0 K := by
  have h5 := hL.2.1
  have b1 := hL.1.1
  refine vc_X10_sumOf (fun G hG => ?_)
  refine hG 0 _ _ _ _ _ ?_
  have loop : ∀ k v, v + k = vn L → G 1 h 0 0 [some (.ref m), some (.int (nI (sm (fun v => wor (kd L v) (val L v (c v))) v))), some (.int (nI v))] [] := by
    intro k
    induction k with
    | zero =>
      intro v hv
      refine hG 1 _ _ _ _ _ ?_
      refine y_get hM.1 (by decide) rfl ?_
      rw [h5]
      refine b_ge v (vn L) (fun _ => ?_) (fun _ => by omega)
      rw [show v = vn L by omega]
      exact hK
    | succ k ih =>
      intro v hv
      refine hG 1 _ _ _ _ _ ?_
      refine y_get hM.1 (by decide) rfl ?_
      rw [h5]
      refine b_ge v (vn L) (fun _ => by omega) (fun _ => ?_)
      refine y_call1 hM.1 (m_worthOf hM hL hc (by omega) ?_)
      have ih9 := ih (v + 1) (by omega)
      rw [nI_succ v, sm_succ, ← nI_add] at ih9
      exact ih9
  exact loop (vn L) 0 (by omega)
theorem m_inCut (hM : ModH g rl h m q I A Wy) (hL : MLand I A L nd) (hc : MCut A L c) (hK : K (some (.int (nI (cntC L c)))) h) : Run l g d_X10_inCut [.ref m] h 0 0 K := by
  have h5 := hL.2.1
  have b1 := hL.1.1
  refine vc_X10_inCut (fun G hG => ?_)
  refine hG 0 _ _ _ _ _ ?_
  have loop : ∀ k v, v + k = vn L → G 1 h 0 0 [some (.ref m), some (.int (nI (sm c v))), some (.int (nI v))] [] := by
    intro k
    induction k with
    | zero =>
      intro v hv
      refine hG 1 _ _ _ _ _ ?_
      refine y_get hM.1 (by decide) rfl ?_
      rw [h5]
      refine b_ge v (vn L) (fun _ => ?_) (fun _ => by omega)
      rw [show v = vn L by omega]
      exact hK
    | succ k ih =>
      intro v hv
      refine hG 1 _ _ _ _ _ ?_
      refine y_get hM.1 (by decide) rfl ?_
      rw [h5]
      refine b_ge v (vn L) (fun _ => by omega) (fun _ => ?_)
      refine y_get hM.1 (by decide) rfl ?_
      refine y_ia (v) hM.a21 (by omega) (hc.2 v (by omega)) ?_
      have ih9 := ih (v + 1) (by omega)
      rw [nI_succ v, sm_succ, ← nI_add] at ih9
      exact ih9
  exact loop (vn L) 0 (by omega)
theorem m_isReady {v : Nat} (hM : ModH g rl h m q I A Wy) (hL : MLand I A L nd) (hc : MCut A L c) (hv : v < vn L) (hK : K (some (.int (bP (Rdy L nd c v)))) h) : Run l g d_X10_isReady [.ref m, .int (nI v)] h 0 0 K := by
  have h5 := hL.2.1
  have b1 := hL.1.1
  obtain ⟨-, h7, hT⟩ := hL.2.2 v hv
  have b2 := (hL.1.2 v hv).2.2.1
  have hcv := hc.1 v hv
  refine vc_X10_isReady (fun G hG => ?_)
  refine hG 0 _ _ _ _ _ ?_
  refine y_get hM.1 (by decide) rfl ?_
  refine y_ia (v) hM.a21 (by omega) (hc.2 v hv) ?_
  refine y_get hM.1 (by decide) rfl ?_
  refine y_ia (v) hM.a7 (by omega) (h7) ?_
  refine pk_lt (c v) (tn L v) (fun z => ?_) (fun z => ?_)
  · have loop : ∀ k u, u + k = vn L → (∀ w, w < u → nd v (c v) w ≤ c w) → G 1 h 0 0 [some (.ref m), some (.int (nI v)), some (.int (nI u))] [] := by
      intro k
      induction k with
      | zero =>
        intro u hu hw
        refine hG 1 _ _ _ _ _ ?_
        refine y_get hM.1 (by decide) rfl ?_
        rw [h5]
        refine b_ge u (vn L) (fun _ => ?_) (fun _ => by omega)
        exact z1 ⟨z, fun w hw2 => hw w (by omega)⟩ hK
      | succ k ih =>
        intro u hu hw
        obtain ⟨e1, e2⟩ := (hT (c v) z).2.2 u (by omega)
        have hcu := hc.1 u (by omega)
        have b4 := (hL.1.2 u (by omega)).2.2.1
        refine hG 1 _ _ _ _ _ ?_
        refine y_get hM.1 (by decide) rfl ?_
        rw [h5]
        refine b_ge u (vn L) (fun _ => by omega) (fun _ => ?_)
        refine y_get hM.1 (by decide) rfl ?_
        refine y_ia (v) hM.a21 (by omega) (hc.2 v hv) ?_
        refine y_call1 hM.1 (m_aheadOf hM (by omega) e1 ?_)
        refine y_get hM.1 (by decide) rfl ?_
        refine y_ia (u) hM.a21 (by omega) (hc.2 u (by omega)) ?_
        refine pk_le (nd v (c v) u) (c u) (fun y => ?_) (fun y => ?_)
        · have ih9 := ih (u + 1) (by omega) (lt_s hw y)
          rw [nI_succ u] at ih9
          exact ih9 
        · exact z0 (fun r => by have := r.2 u (by omega); omega) hK
    exact loop (vn L) 0 (by omega) (fun w hw => by omega)
  · exact z0 (fun r => by have := r.1; omega) hK
end M1

