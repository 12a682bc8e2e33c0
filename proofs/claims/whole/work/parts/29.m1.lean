/-- the land that the reference has taken; a cut in its hand -/
def MLand (I : Nat → Int32) (A : Nat → Nat → Int32) (L : Ld) (nd : Nat → Nat → Nat → Nat) : Prop := LdOk L ∧ I 5 = nI (vn L) ∧ ∀ v, v < vn L → A 6 v = nI (kd L v) ∧ A 7 v = nI (tn L v) ∧ ∀ t, t < tn L v → A 8 (5 * v + t) = nI (wh L v t) ∧ A 9 (5 * v + t) = nI (dg L v t) ∧ ∀ u, u < 4 → A 10 (4 * (5 * v + t) + u) = nI (nd v t u) ∧ nd v t u ≤ 5
def MCut (A : Nat → Nat → Int32) (L : Ld) (c : Nat → Nat) : Prop := CutOk L c ∧ ∀ v, v < vn L → A 21 v = nI (c v)
section M1
variable {l : Launch} {g : Gm} {rl : Nat → Nat} {h : Hp} {K : PT} {m : Nat} {q : Nat → Nat} {I : Nat → Int32} {A : Nat → Nat → Int32} {Wy : Nat → Int64} {L : Ld} {nd : Nat → Nat → Nat → Nat} {c : Nat → Nat}
theorem m_valueOf {v : Nat} (hM : ModH g rl h m q I A Wy) (hL : MLand I A L nd) (hc : MCut A L c) (hv : v < vn L) (hK : K (some (.int (nI (val L v (c v))))) h) : Run l g d_X10_valueOf [.ref m, .int (nI v)] h 0 0 K := by
  obtain ⟨hok, h5, hL⟩ := hL
  obtain ⟨-, h7, hT⟩ := hL v hv
  have hcv := hc.1 v hv
  have b1 := hok.1
  have b2 := (hok.2 v hv).2.2.1
  refine vc_X10_valueOf (fun G hG => ?_)
  refine hG 0 _ _ _ _ _ ?_
  have loop : ∀ k t, t + k = c v → G 1 h 0 0 [some (.ref m), some (.int (nI v)), some (.int (nI (val L v t))), some (.int (nI t))] [] := by
    intro k
    induction k with
    | zero =>
      intro t ht
      refine hG 1 _ _ _ _ _ ?_
      refine y_get hM.1 (by decide) rfl ?_
      refine y_ia v hM.a21 (by omega) (hc.2 v hv) ?_
      refine b_ge t (c v) (fun _ => ?_) (fun _ => by omega)
      rw [show t = c v by omega]
      exact hK
    | succ k ih =>
      intro t ht
      obtain ⟨w1, w2, -⟩ := hT t (by omega)
      obtain ⟨b3, b4, -⟩ := (hok.2 v hv).2.2.2 t (by omega)
      have hG2 : G 2 h 0 0 [some (.ref m), some (.int (nI v)), some (.int (nI (val L v t))), some (.int (nI t))] [.int (nI (val L v (t + 1)))] := by
        refine hG 2 _ _ _ _ _ ?_
        have e := ih (t + 1) (by omega)
        rw [nI_succ t] at e
        exact e
      rw [val_succ] at hG2
      refine hG 1 _ _ _ _ _ ?_
      refine y_get hM.1 (by decide) rfl ?_
      refine y_ia v hM.a21 (by omega) (hc.2 v hv) ?_
      refine b_ge t (c v) (fun _ => by omega) (fun _ => ?_)
      refine y_get hM.1 (by decide) rfl ?_
      refine y_ia (5 * v + t) hM.a8 (by omega) w1 ?_ (ix5 v t)
      refine pk_eq (wh L v t) 0 (fun z => ?_) (fun z => ?_)
      · rw [if_pos z] at hG2
        refine y_get hM.1 (by decide) rfl ?_
        refine y_ia (5 * v + t) hM.a9 (by omega) w2 ?_ (ix5 v t)
        exact hG2
      · rw [if_neg z] at hG2
        exact hG2
  exact loop (c v) 0 (by omega)
end M1

