section MCIRC2
variable {l : Launch} {g : Gm} {rl : Nat → Nat} {h : Hp} {K : PT} {m : Nat} {q : Nat → Nat} {I : Nat → Int32} {A : Nat → Nat → Int32} {Wy : Nat → Int64} {L : Ld} {C : NT}
theorem m_goesOn (hM : ModH g rl h m q I A Wy) (h13 : I 13 = nI (vn L)) (hR : RdL A L) (hL : LdOk L) (hJ : JC L C) (hA : AhR (A 18) L C) (hK : ∀ (h1 : Hp) (F : Nat → Int32) (C1 : NT) (c : Bool), ModH g rl h1 m q I (va_up A 18 F) Wy → MX rl h h1 → JC L C1 → AhR F L C1 → (c = false → C1 = C ∧ ∀ v t, v < vn L → t < tn L v → ClA L C v t) → (c = true → TC L C < TC L C1) → K (some (.int (bP (c = true)))) h1) : Run l g d_X10_goesOn [.ref m] h 0 0 K := by
  have b1 := hL.1
  refine vc_X10_goesOn (fun G hG => ?_)
  have loop : ∀ j v, v + j = vn L → ∀ (h1 : Hp) (F : Nat → Int32) (C1 : NT) (c : Bool), ModH g rl h1 m q I (va_up A 18 F) Wy → MX rl h h1 → JC L C1 → AhR F L C1 → (c = false → C1 = C ∧ ∀ v' t', v' < v → t' < tn L v' → ClA L C v' t') → (c = true → TC L C < TC L C1) → ∀ o3 : Option Value, G 1 h1 0 0 [some (.ref m), some (.int (bP (c = true))), some (.int (nI v)), o3] [] := by
    intro j
    induction j with
    | zero =>
      intro v hv h1 F C1 c hM hx hJ1 hA1 c0 c1 o3
      refine hG 1 _ _ _ _ _ ?_
      refine y_get hM.1 (by decide) rfl ?_
      rw [h13]
      refine b_ge v (vn L) (fun _ => ?_) (fun _ => by omega)
      exact ⟨bP_or, hK h1 F C1 c hM hx hJ1 hA1 (fun e => ⟨(c0 e).1, fun v' t' hv' => (c0 e).2 v' t' (by omega)⟩) c1⟩
    | succ j ih =>
      intro v hv h1 F C1 c hM hx hJ1 hA1 c0 c1 o3
      have hvn : v < vn L := by omega
      have r2 := (hR v hvn).2.1
      have b2 := (hL.2 v hvn).2.2.1
      have inner : ∀ i t, t + i = tn L v → ∀ (h1 : Hp) (F : Nat → Int32) (C1 : NT) (c : Bool), ModH g rl h1 m q I (va_up A 18 F) Wy → MX rl h h1 → JC L C1 → AhR F L C1 → (c = false → C1 = C ∧ (∀ v' t', v' < v → t' < tn L v' → ClA L C v' t') ∧ ∀ t', t' < t → ClA L C v t') → (c = true → TC L C < TC L C1) → G 2 h1 0 0 [some (.ref m), some (.int (bP (c = true))), some (.int (nI v)), some (.int (nI t))] [] := by
        intro i
        induction i with
        | zero =>
          intro t ht h1 F C1 c hM hx hJ1 hA1 c0 c1
          refine hG 2 _ _ _ _ _ ?_
          refine y_get hM.1 (by decide) rfl ?_
          refine y_ia (v) hM.a15 (by omega) (r2) ?_
          refine b_ge t (tn L v) (fun _ => ?_) (fun _ => by omega)
          have ih9 := ih (v + 1) (by omega) h1 F C1 c hM hx hJ1 hA1 (fun e => ⟨(c0 e).1, ?_⟩) c1
          rw [nI_succ v] at ih9
          exact ih9 _
          intro v' t' hv' ht'
          by_cases e9 : v' = v
          · subst e9; exact (c0 e).2.2 t' (by omega)
          · exact (c0 e).2.1 v' t' (by omega) ht'
        | succ i ih2 =>
          intro t ht h1 F C1 c hM hx hJ1 hA1 c0 c1
          refine hG 2 _ _ _ _ _ ?_
          refine y_get hM.1 (by decide) rfl ?_
          refine y_ia (v) hM.a15 (by omega) (r2) ?_
          refine b_ge t (tn L v) (fun _ => by omega) (fun _ => ?_)
          refine y_call1 hM.1 (m_takesFromAheads hM h13 hL hvn (show t < tn L v by omega) hJ1 hA1 (fun h2 F2 C2 c2 hM2 x2 hJ2 hA2 d0 d1 => ?_) (ix5 v t))
          rw [up_up] at hM2
          have g3 : ∀ y9 : Int32, y9 = bP ((c || c2) = true) → G 3 h2 0 0 [some (.ref m), some (.int (bP (c = true))), some (.int (nI v)), some (.int (nI t))] [.int y9] := by
            intro y9 ey
            subst ey
            refine hG 3 _ _ _ _ _ ?_
            have ih9 := ih2 (t + 1) (by omega) h2 F2 C2 (Bool.or c c2) hM2 (hx.trs x2) hJ2 hA2 (fun e => ?_) (fun e => ?_)
            rw [nI_succ t] at ih9
            exact ih9 
            · rw [Bool.or_eq_false_iff] at e
              obtain ⟨q1, q2, q3⟩ := c0 e.1
              obtain ⟨q4, q5⟩ := d0 e.2
              refine ⟨q4.trans q1, q2, fun t' ht' => ?_⟩
              by_cases e9 : t' = t
              · subst e9; rw [← q1]; exact q5
              · exact q3 t' (by omega)
            · cases c2 with
              | false =>
                rw [(d0 rfl).1]
                cases c with
                | false => cases e
                | true => exact c1 rfl
              | true =>
                have := d1 rfl
                cases c with
                | false => rw [(c0 rfl).1] at this; exact this
                | true => exact Nat.lt_trans (c1 rfl) this
          refine b_Z (fun y => ?_) (fun y => ?_)
          · refine b_Z (fun z => ?_) (fun z => ?_)
            · refine g3 _ (bP_0 (fun w => ?_)).symm
              rcases (Bool.or_eq_true _ _).mp w with w | w
              · exact z w
              · exact y w
            · exact g3 _ (bP_1 (by rw [z]; rfl)).symm
          · exact g3 _ (bP_1 (by rw [y, Bool.or_true])).symm
      refine hG 1 _ _ _ _ _ ?_
      refine y_get hM.1 (by decide) rfl ?_
      rw [h13]
      refine b_ge v (vn L) (fun _ => by omega) (fun _ => ?_)
      exact inner (tn L v) 0 (by omega) h1 F C1 c hM hx hJ1 hA1 (fun e => ⟨(c0 e).1, (c0 e).2, fun t ht => absurd ht (Nat.not_lt_zero t)⟩) c1
  refine hG 0 _ _ _ _ _ ?_
  have h9 := loop (vn L) 0 (by omega) h (A 18) C false (by rw [up_id]; exact hM) Ex.rf hJ hA (fun _ => ⟨rfl, fun u _ hu => absurd hu (Nat.not_lt_zero u)⟩) (fun e => by cases e) none
  exact h9
theorem m_isCircle (hM : ModH g rl h m q I A Wy) (h13 : I 13 = nI (vn L)) (hR : RdL A L) (hL : LdOk L) (hT : LtOk L) (hF : ∀ k, k < 8 → Lst (Mt L) 1 k (A 19 k)) (hK : ∀ (h1 : Hp) (F : Nat → Int32), ModH g rl h1 m q I (va_up A 18 F) Wy → MX rl h h1 → (cirB L = false → AhR F L (ndOf L)) → K (some (.int (bP (cirB L = true)))) h1) : Run l g d_X10_isCircle [.ref m] h 0 0 K := by
  have b1 := hL.1
  refine vc_X10_isCircle (fun G hG => ?_)
  -- the end: whether one is ahead of itself
  have fin : ∀ (h1 : Hp) (F : Nat → Int32) (C : NT), ModH g rl h1 m q I (va_up A 18 F) Wy → MX rl h h1 → JC L C → AhR F L C → (∀ v t, v < vn L → t < tn L v → ClA L C v t) → ∀ j v, v + j = vn L → (∀ v' t', v' < v → t' < tn L v' → C v' t' v' ≤ t') → ∀ (o1 o3 : Option Value), G 4 h1 0 0 [some (.ref m), o1, some (.int (nI v)), o3] [] := by
    intro h1 F C hM hx hJ hA hcl j
    induction j with
    | zero =>
      intro v hv hno o1 o3
      refine hG 4 _ _ _ _ _ ?_
      refine y_get hM.1 (by decide) rfl ?_
      rw [h13]
      refine b_ge v (vn L) (fun _ => ?_) (fun _ => by omega)
      have hN := circ_yes hL hT hJ hcl (fun v' t' hv' => hno v' t' (by omega))
      have hc : cirB L = false := by
        cases e : cirB L with
        | false => rfl
        | true => exact absurd ⟨C, hN⟩ (cirB_iff.mp e)
      exact z0 (by rw [hc]; decide) (hK h1 F hM hx (fun _ v t u hv ht hu => by rw [ndOf_eq hN hv ht hu]; exact hA v t u hv ht hu))
    | succ j ih =>
      intro v hv hno o1 o3
      have hvn : v < vn L := by omega
      have r2 := (hR v hvn).2.1
      have b2 := (hL.2 v hvn).2.2.1
      have inner : ∀ i t, t + i = tn L v → (∀ t', t' < t → C v t' v ≤ t') → G 5 h1 0 0 [some (.ref m), o1, some (.int (nI v)), some (.int (nI t))] [] := by
        intro i
        induction i with
        | zero =>
          intro t ht hn2
          refine hG 5 _ _ _ _ _ ?_
          refine y_get hM.1 (by decide) rfl ?_
          refine y_ia (v) hM.a15 (by omega) (r2) ?_
          refine b_ge t (tn L v) (fun _ => ?_) (fun _ => by omega)
          have ih9 := ih (v + 1) (by omega) (fun v' t' hv' ht' => ?_)
          rw [nI_succ v] at ih9
          exact ih9 _ _
          by_cases e9 : v' = v
          · subst e9; exact hn2 t' (by omega)
          · exact hno v' t' (by omega) ht'
        | succ i ih2 =>
          intro t ht hn2
          have htn : t < tn L v := by omega
          have bC := ((hJ.1 v t hvn htn).2.2 v (by omega)).1
          refine hG 5 _ _ _ _ _ ?_
          refine y_get hM.1 (by decide) rfl ?_
          refine y_ia (v) hM.a15 (by omega) (r2) ?_
          refine b_ge t (tn L v) (fun _ => by omega) (fun _ => ?_)
          refine y_get hM.1 (by decide) rfl ?_
          refine y_ia (4 * (5 * v + t) + v) hM.a18 (by omega) (hA v t v hvn htn (by omega)) ?_ (ix4 v t v)
          refine pk_le (C v t v) t (fun y => ?_) (fun y => ?_)
          · have ih9 := ih2 (t + 1) (by omega) (lt_s hn2 y)
            rw [nI_succ t] at ih9
            exact ih9 
          · have hno := circ_no hL hJ hvn htn (by omega)
            have hc := cirB_iff.mpr hno
            exact z1 hc (hK h1 F hM hx (fun e => by rw [hc] at e; cases e))
      refine hG 4 _ _ _ _ _ ?_
      refine y_get hM.1 (by decide) rfl ?_
      rw [h13]
      refine b_ge v (vn L) (fun _ => by omega) (fun _ => ?_)
      exact inner (tn L v) 0 (by omega) (fun t ht => absurd ht (Nat.not_lt_zero t))
  -- going on
  have more : ∀ (j : Nat) (h1 : Hp) (F : Nat → Int32) (C : NT), ModH g rl h1 m q I (va_up A 18 F) Wy → MX rl h h1 → JC L C → AhR F L C → 400 < TC L C + j → ∀ (o2 o3 : Option Value), G 3 h1 0 0 [some (.ref m), some (.int 1), o2, o3] [] := by
    intro j
    induction j with
    | zero =>
      intro h1 F C hM hx hJ hA ht
      have := tc_le hL hJ
      omega
    | succ j ih =>
      intro h1 F C hM hx hJ hA ht o2 o3
      refine hG 3 _ _ _ _ _ ?_
      refine b_no (by decide) ?_
      refine y_call1 hM.1 (m_goesOn (A := va_up A 18 F) hM h13 hR hL hJ hA (fun h2 F2 C2 c2 hM2 x2 hJ2 hA2 d0 d1 => ?_))
      rw [up_up] at hM2
      cases c2 with
      | true => exact ih h2 F2 C2 hM2 (hx.trs x2) hJ2 hA2 (by have := d1 rfl; omega) _ _
      | false =>
        obtain ⟨q1, q2⟩ := d0 rfl
        subst q1
        show G 3 h2 0 0 [some (.ref m), some (.int 0), o2, o3] []
        refine hG 3 _ _ _ _ _ ?_
        refine b_yes rfl ?_
        exact fin h2 F2 C2 hM2 (hx.trs x2) hJ2 hA2 q2 (vn L) 0 (by omega) (fun v _ hv => absurd hv (Nat.not_lt_zero v)) _ _
  -- the start
  have strt : ∀ j v, v + j = vn L → ∀ (h1 : Hp) (F : Nat → Int32), ModH g rl h1 m q I (va_up A 18 F) Wy → MX rl h h1 → (∀ v' t' u, v' < v → t' < tn L v' → u < 4 → F (4 * (5 * v' + t') + u) = nI (Bs (A 19) L v' t' u)) → ∀ o2 o3 : Option Value, G 1 h1 0 0 [some (.ref m), some (.int (nI v)), o2, o3] [] := by
    intro j
    induction j with
    | zero =>
      intro v hv h1 F hM hx hB o2 o3
      refine hG 1 _ _ _ _ _ ?_
      refine y_get hM.1 (by decide) rfl ?_
      rw [h13]
      refine b_ge v (vn L) (fun _ => ?_) (fun _ => by omega)
      exact more 401 h1 F (Bs (A 19) L) hM hx (jc_bs hL hT hF) (fun v t u hv ht hu => hB v t u (by omega) ht hu) (by omega) _ _
    | succ j ih =>
      intro v hv h1 F hM hx hB o2 o3
      have hvn : v < vn L := by omega
      have r2 := (hR v hvn).2.1
      have b2 := (hL.2 v hvn).2.2.1
      have inner : ∀ i t, t + i = tn L v → ∀ (h1 : Hp) (F : Nat → Int32), ModH g rl h1 m q I (va_up A 18 F) Wy → MX rl h h1 → (∀ v' t' u, v' < v → t' < tn L v' → u < 4 → F (4 * (5 * v' + t') + u) = nI (Bs (A 19) L v' t' u)) → (∀ t' u, t' < t → u < 4 → F (4 * (5 * v + t') + u) = nI (Bs (A 19) L v t' u)) → G 2 h1 0 0 [some (.ref m), some (.int (nI v)), some (.int (nI t)), o3] [] := by
        intro i
        induction i with
        | zero =>
          intro t ht h1 F hM hx hB hB2
          refine hG 2 _ _ _ _ _ ?_
          refine y_get hM.1 (by decide) rfl ?_
          refine y_ia (v) hM.a15 (by omega) (r2) ?_
          refine b_ge t (tn L v) (fun _ => ?_) (fun _ => by omega)
          have ih9 := ih (v + 1) (by omega) h1 F hM hx (fun v' t' u hv' ht' hu => ?_)
          rw [nI_succ v] at ih9
          exact ih9 _ _
          by_cases e9 : v' = v
          · subst e9; exact hB2 t' u (by omega) hu
          · exact hB v' t' u (by omega) ht' hu
        | succ i ih2 =>
          intro t ht h1 F hM hx hB hB2
          refine hG 2 _ _ _ _ _ ?_
          refine y_get hM.1 (by decide) rfl ?_
          refine y_ia (v) hM.a15 (by omega) (r2) ?_
          refine b_ge t (tn L v) (fun _ => by omega) (fun _ => ?_)
          refine y_call1 hM.1 (m_startAheads (A := va_up A 18 F) hM hR hL hT hF hvn (show t < tn L v by omega) (fun h2 F2 hM2 x2 f1 f2 => ?_))
          rw [up_up] at hM2
          have ih9 := ih2 (t + 1) (by omega) h2 F2 hM2 (hx.trs x2) (fun v' t' u hv' ht' hu => ?_) (fun t' u ht' hu => ?_)
          rw [nI_succ t] at ih9
          exact ih9 
          · have b3 := (hL.2 v' (by omega)).2.2.1
            rw [f2 _ (by omega)]
            exact hB v' t' u hv' ht' hu
          · by_cases e9 : t' = t
            · subst e9; exact f1 u hu
            · rw [f2 _ (by omega)]
              exact hB2 t' u (by omega) hu
      refine hG 1 _ _ _ _ _ ?_
      refine y_get hM.1 (by decide) rfl ?_
      rw [h13]
      refine b_ge v (vn L) (fun _ => by omega) (fun _ => ?_)
      exact inner (tn L v) 0 (by omega) h1 F hM hx hB (fun t _ ht => absurd ht (Nat.not_lt_zero t))
  refine hG 0 _ _ _ _ _ ?_
  exact strt (vn L) 0 (by omega) h (A 18) (by rw [up_id]; exact hM) Ex.rf (fun v _ _ hv => absurd hv (Nat.not_lt_zero v)) _ _
end MCIRC2

