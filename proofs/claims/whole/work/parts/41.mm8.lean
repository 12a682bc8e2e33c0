section MM8
variable {l : Launch} {g : Gm} {rl : Nat → Nat} {h : Hp} {K : PT} {m : Nat} {q : Nat → Nat} {I : Nat → Int32} {A : Nat → Nat → Int32} {Wy : Nat → Int64} {S : St} {L : Ld} {nd : Nat → Nat → Nat → Nat} {c : Nat → Nat}
/-- all readings are so, in a land L of the same things -/
def arB (L : Ld) (S : St) : Bool := (List.range (sRn S)).all fun r => decide (sumC L (sRc S r) = sRs S r)
theorem arB_iff {L : Ld} {S : St} : arB L S = true ↔ ∀ r, r < sRn S → sumC L (sRc S r) = sRs S r := by
  unfold arB
  simp [List.all_eq_true]
theorem m_areSo (hM : ModH g rl h m q I A Wy) (hL : MLand I A L nd) (h24 : I 24 = nI (sRn S)) (hrn : sRn S ≤ 8) (hrd : ∀ r, r < sRn S → CutOk L (sRc S r) ∧ sRs S r ≤ 99 ∧ A 26 r = nI (sRs S r) ∧ ∀ v, v < vn L → A 25 (4 * r + v) = nI (sRc S r v))
    (hK : ∀ (h1 : Hp) (F : Nat → Int32), ModH g rl h1 m q I (va_up A 21 F) Wy → MX rl h h1 → K (some (.int (bP (arB L S = true)))) h1) : Run l g d_X10_areSo [.ref m] h 0 0 K := by
  have b1 := hL.1.1
  refine vc_X10_areSo (fun G hG => ?_)
  refine hG 0 _ _ _ _ _ ?_
  have loop : ∀ k r, r + k = sRn S → (∀ r2, r2 < r → sumC L (sRc S r2) = sRs S r2) → ∀ (h1 : Hp) (F : Nat → Int32) (o : Option Value), ModH g rl h1 m q I (va_up A 21 F) Wy → MX rl h h1 → G 1 h1 0 0 [some (.ref m), some (.int (nI r)), o] [] := by
    intro k
    induction k with
    | zero =>
      intro r hr hall h1 F o hM hx
      refine hG 1 _ _ _ _ _ ?_
      refine y_get hM.1 (by decide) rfl ?_
      rw [h24]
      refine b_ge r (sRn S) (fun _ => ?_) (fun _ => by omega)
      exact z1 (arB_iff.mpr (fun r2 h2 => hall r2 (by omega))) (hK h1 F hM hx)
    | succ k ih =>
      intro r hr hall h1 F o hM hx
      refine hG 1 _ _ _ _ _ ?_
      refine y_get hM.1 (by decide) rfl ?_
      rw [h24]
      refine b_ge r (sRn S) (fun _ => by omega) (fun _ => ?_)
      obtain ⟨r1, r2, r3, r4⟩ := hrd r (by omega)
      have inner : ∀ j v, v + j = vn L → ∀ (h1 : Hp) (F : Nat → Int32), ModH g rl h1 m q I (va_up A 21 F) Wy → (∀ w, w < v → F w = nI (sRc S r w)) → MX rl h h1 → G 2 h1 0 0 [some (.ref m), some (.int (nI r)), some (.int (nI v))] [] := by
        intro j
        induction j with
        | zero =>
          intro v hv h1 F hM hF hx
          have hL2 : MLand I (va_up A 21 F) L nd := hL
          have hc2 : MCut (va_up A 21 F) L (sRc S r) := ⟨r1, fun w hw => hF w (by omega)⟩
          have b9 := sumC_le hL.1 r1
          refine hG 2 _ _ _ _ _ ?_
          refine y_get hM.1 (by decide) rfl ?_
          rw [hL.2.1]
          refine b_ge v (vn L) (fun _ => ?_) (fun _ => by omega)
          refine y_call1 hM.1 (m_sumOf hM hL2 hc2 ?_)
          refine y_get hM.1 (by decide) rfl ?_
          refine y_ia (r) hM.a26 (by omega) (r3) ?_
          refine pk_eq (sumC L (sRc S r)) (sRs S r) (fun z => ?_) (fun z => ?_)
          · have ih9 := ih (r + 1) (by omega) (lt_s hall z) h1 F (some (.int (nI v))) hM hx
            rw [nI_succ r] at ih9
            exact ih9 
          · exact z0 (fun p => z (arB_iff.mp p r (by omega))) (hK h1 F hM hx)
        | succ j ih2 =>
          intro v hv h1 F hM hF hx
          refine hG 2 _ _ _ _ _ ?_
          refine y_get hM.1 (by decide) rfl ?_
          rw [hL.2.1]
          refine b_ge v (vn L) (fun _ => by omega) (fun _ => ?_)
          refine y_get hM.1 (by decide) rfl ?_
          refine y_get hM.1 (by decide) rfl ?_
          refine y_ia (4 * r + v) hM.a25 (by omega) (r4 v (by omega)) ?_ (ix4q r v)
          refine y_is v hM.a21 (by omega) (fun h2 e2 x2 => ?_)
          have hM2 := hM.setA 21 e2 x2
          rw [up_up] at hM2
          refine (fun z => by rw [nI_succ v] at z; exact z) (ih2 (v + 1) (by omega) h2 _ hM2 (fun w hw => ?_) (hx.trs (MX.of x2)))
          by_cases e : w = v
          · rw [e]; exact pk_us
          · rw [pk_un e]; exact hF w (by omega)
      exact inner (vn L) 0 (by omega) h1 F hM (fun w hw => by omega) hx
  exact loop (sRn S) 0 (by omega) (fun r hr => by omega) h (A 21) none (by rw [up_id]; exact hM) Ex.rf
theorem mm_kinds {x : Int32} (hR : ModR g rl h m S) (hK : ∀ h1, ModR g rl h1 m S → MX rl h h1 → K (some (.int (sp_kinds S x))) h1) : Run l g d_X10_kinds [.ref m, .int x] h 0 0 K := by
  have hR0 := hR
  obtain ⟨hok, q, I, A, Wy, hM, hS⟩ := hR
  have hL := hS.2.2.2.1
  have b1 := hL.1.1
  unfold sp_kinds at hK
  have hrn := hok.2.2.2.2.2.1
  refine vc_X10_kinds (fun G hG => ?_)
  refine hG 0 _ _ _ _ _ ?_
  refine y_call1 hM.1 (m_isVillage hM hL.2.1 ?_)
  refine b_Z (fun z => ?_) (fun z => ?_)
  · rw [if_neg z] at hK
    exact hK h hR0 Ex.rf
  rw [if_pos z] at hK
  obtain ⟨v, hv, rfl⟩ := isV_of z (by omega)
  rw [ix_nI (by omega)] at hK
  have hK : ∀ h1, ModR g rl h1 m S → MX rl h h1 → K (some (.int (ub (fun k => arB (setK (sL S) v k) S) 3))) h1 := hK
  refine y_get hM.1 (by decide) rfl ?_
  refine y_ia (v) hM.a6 (by omega) ((hL.2.2 v hv).1) ?_
  have loop : ∀ k j, j + k = 3 → ∀ (h1 : Hp) (F E : Nat → Int32), ModH g rl h1 m q I (va_up (va_up A 6 E) 21 F) Wy → (∀ w, w ≠ v → E w = A 6 w) → MX rl h h1 → G 1 h1 0 0 [some (.ref m), some (.int (nI v)), some (.int (nI (kd (sL S) v))), some (.int (ub (fun k => arB (setK (sL S) v k) S) j)), some (.int (nI j))] [] := by
    intro k
    induction k with
    | zero =>
      intro j hj h1 F E hM hE hx
      refine hG 1 _ _ _ _ _ ?_
      refine b_ge j 3 (fun _ => ?_) (fun _ => by omega)
      rw [show j = 3 by omega]
      refine y_get hM.1 (by decide) rfl ?_
      refine y_is v hM.a6 (by omega) (fun h2 e2 x2 => ?_)
      have hM2 := hM.setA 6 e2 x2
      refine hK h2 ⟨hok, q, I, va_up A 21 F, Wy, hM2.eqA (fun k2 j2 _ => ?_), hS⟩ (hx.trs (MX.of x2))
      unfold va_up
      by_cases e6 : k2 = 6
      · rw [if_pos e6, if_neg (by omega), e6]
        by_cases ev : j2 = v
        · rw [ev, pk_us]; exact (hL.2.2 v hv).1.symm
        · rw [pk_un ev]; exact hE j2 ev
      · rw [if_neg e6]
        by_cases e21 : k2 = 21
        · rw [if_pos e21, if_pos e21]
        · rw [if_neg e21, if_neg e21, if_neg e6]
    | succ k ih =>
      intro j hj h1 F E hM hE hx
      refine hG 1 _ _ _ _ _ ?_
      refine b_ge j 3 (fun _ => by omega) (fun _ => ?_)
      refine y_get hM.1 (by decide) rfl ?_
      refine y_is v hM.a6 (by omega) (fun h2 e2 x2 => ?_)
      have hM2 := hM.setA 6 e2 x2
      have eA : va_up (va_up (va_up A 6 E) 21 F) 6 (upd (va_up (va_up A 6 E) 21 F 6) v (nI j)) = va_up (va_up A 6 (upd E v (nI j))) 21 F := by
        funext k2
        unfold va_up
        by_cases e6 : k2 = 6
        · subst e6; rfl
        · rw [if_neg e6]
          by_cases e21 : k2 = 21
          · rw [if_pos e21, if_pos e21]
          · rw [if_neg e21, if_neg e21, if_neg e6, if_neg e6]
      rw [eA] at hM2
      have hLk : LdOk (setK (sL S) v j) := ⟨hL.1.1, fun w hw => by
        obtain ⟨a1, a2, a3, a4⟩ := hL.1.2 w hw
        refine ⟨?_, a2, a3, a4⟩
        show updN (kd (sL S)) v j w ≤ 2
        by_cases e : w = v
        · rw [e, updN_s]; omega
        · rw [updN_n e]; exact a1⟩
      have hL2 : MLand I (va_up (va_up A 6 (upd E v (nI j))) 21 F) (setK (sL S) v j) (sN S) := ⟨hLk, hL.2.1, fun w hw => by
        obtain ⟨a1, a2, a3⟩ := hL.2.2 w hw
        refine ⟨?_, a2, a3⟩
        show upd E v (nI j) w = nI (updN (kd (sL S)) v j w)
        by_cases e : w = v
        · rw [e, pk_us, updN_s]
        · rw [pk_un e, updN_n e, hE w e]; exact a1⟩
      refine y_call1 hM2.1 (m_areSo (S := S) hM2 hL2 hS.2.2.2.2.2.1 hrn (fun r hr => ⟨(hok.2.2.2.2.2.2 r hr).1, (hok.2.2.2.2.2.2 r hr).2, (hS.2.2.2.2.2.2 r hr).1, (hS.2.2.2.2.2.2 r hr).2⟩) (fun h3 F3 hM3 hx3 => ?_))
      rw [up_up] at hM3
      have ih9 := ih (j + 1) (by omega) h3 F3 _ hM3 (fun w hw => by rw [pk_un hw]; exact hE w hw) ((hx.trs (MX.of x2)).trs hx3)
      rw [nI_succ j, ub_succ] at ih9
      refine b_Z (fun y => ?_) (fun y => ?_)
      · rw [if_neg y] at ih9
        refine hG 2 _ _ _ _ _ ?_
        exact ih9
      · rw [if_pos y] at ih9
        refine hG 2 _ _ _ _ _ ?_
        exact ih9
  have e0 : va_up (va_up A 6 (A 6)) 21 (A 21) = A := by rw [up_id A 6]; exact up_id A 21
  exact loop 3 0 (by omega) h (A 21) (A 6) (by rw [e0]; exact hM) (fun w _ => rfl) Ex.rf
theorem ix60c (k i c : Nat) : (60 : Int32) * nI k + nI i + nI c = nI (60 * k + i + c) := by rw [ix60, nI_add]
theorem mm_copy {k i o j n : Int32} (hR : ModR g rl h m S) (hK : ∀ h1, ModR g rl h1 m (st_copy S k i o j n) → MX rl h h1 → K (some (.int (sp_copy S k i o j n))) h1) : Run l g d_X10_copy [.ref m, .int k, .int i, .int o, .int j, .int n] h 0 0 K := by
  obtain ⟨hok, q, I, A, Wy, hM, hS⟩ := hR
  have hL := hS.2.2.2.1
  have b1 := hL.1.1
  unfold sp_copy st_copy at hK
  refine vc_X10_copy (fun G hG => ?_)
  refine hG 0 _ _ _ _ _ ?_
  refine y_putI hM.1 (by decide) (Nat.le_of_ble_eq_true rfl) rfl (fun h1 e1 x1 => ?_)
  have hM := hM.setI (I' := upd I 0 0) e1 x1
  have hS1 := hS.fa 0
  have hx := MX.of x1
  refine y_callS (m_isSheet ?_)
  refine b_Z (fun z => ?_) (fun z => ?_)
  · rw [if_neg (fun r => z r.1), if_neg (fun r => z r.1)] at hK
    exact hK h1 ⟨hok, q, _, A, Wy, hM, hS1⟩ hx
  refine y_callS (m_isSheet ?_)
  refine b_Z (fun y => ?_) (fun y => ?_)
  · rw [if_neg (fun r => y r.2), if_neg (fun r => y r.2)] at hK
    exact hK h1 ⟨hok, q, _, A, Wy, hM, hS1⟩ hx
  rw [if_pos (show InR k 0 3 ∧ InR o 0 3 from ⟨z, y⟩), if_pos (show InR k 0 3 ∧ InR o 0 3 from ⟨z, y⟩)] at hK
  obtain ⟨k, hk, rfl⟩ := sh_of z
  obtain ⟨o, ho, rfl⟩ := sh_of y
  obtain ⟨s1, s2, s3⟩ := hS.1 k hk
  obtain ⟨u1, u2, u3⟩ := hS.1 o ho
  have b6 : sLe S k ≤ 60 := (hok.1 k hk).2
  have b7 : sLe S o ≤ 60 := (hok.1 o ho).2
  generalize hf : CopF S (nI k) i (nI o) j n = f at hK
  unfold CopF at hf
  rw [ix_nI (by omega), ix_nI (by omega)] at hf hK
  have bad : ∀ x : Int32, f = x → ¬ x = 0 → Run l g d_X10_fails [.ref m, .int x] h1 0 0 (fun r h' => oIRet K h' 0 0 [] (r.toList ++ [])) := fun x ex hx0 => by
    subst ex
    rw [if_neg hx0, if_neg hx0] at hK
    refine m_fails hM (fun h2 hM2 hx2 => ?_)
    exact hK h2 ⟨hok, q, _, A, Wy, hM2, hS1.fa _⟩ (hx.trs hx2)
  refine y_get hM.1 (by decide) rfl ?_
  refine y_ia (k) hM.a2 (by omega) (s1) ?_
  refine b_cases (fun a => ?_) (fun a => ?_)
  · rw [if_pos (Or.inl a)] at hf
    exact y_call1 hM.1 (bad 1 hf.symm (by decide))
  refine y_get hM.1 (by decide) rfl ?_
  refine y_ia (o) hM.a2 (by omega) (u1) ?_
  refine b_cases (fun b => ?_) (fun b => ?_)
  · rw [if_pos (Or.inr b)] at hf
    exact y_call1 hM.1 (bad 1 hf.symm (by decide))
  rw [if_neg (fun r => r.elim a b)] at hf
  refine y_get hM.1 (by decide) rfl ?_
  refine y_ia (k) hM.a2 (by omega) (s1) ?_
  refine y_get hM.1 (by decide) rfl ?_
  refine y_ia (o) hM.a2 (by omega) (u1) ?_
  refine b_cases (fun d => ?_) (fun d => ?_)
  rotate_left
  · rw [if_neg d] at hf
    exact y_call1 hM.1 (bad 2 hf.symm (by decide))
  rw [if_pos d] at hf
  have g0 : ¬ (¬ i < 0 ∧ ¬ j < 0 ∧ ¬ n < 0 ∧ ¬ nI (sLe S k) < i ∧ ¬ nI (sLe S o) < j) → G 1 h1 0 0 [some (.ref m), some (.int (nI k)), some (.int i), some (.int (nI o)), some (.int j), some (.int n), none, none, none, none] [.int 0] := fun hz => by
    rw [if_neg (fun r => hz r.1)] at hf
    refine hG 1 _ _ _ _ _ ?_
    refine b_yes rfl ?_
    exact y_call1 hM.1 (bad 3 hf.symm (by decide))
  have g1 : (¬ i < 0 ∧ ¬ j < 0 ∧ ¬ n < 0 ∧ ¬ nI (sLe S k) < i ∧ ¬ nI (sLe S o) < j) → G 1 h1 0 0 [some (.ref m), some (.int (nI k)), some (.int i), some (.int (nI o)), some (.int j), some (.int n), none, none, none, none] [.int 1] := fun hz => by
    refine hG 1 _ _ _ _ _ ?_
    refine b_no (by decide) ?_
    refine y_get hM.1 (by decide) rfl ?_
    refine y_ia (k) hM.a3 (by omega) (s2) ?_
    refine b_cases (fun p => ?_) (fun p => ?_)
    · rw [if_neg (fun r => r.2.1 p)] at hf
      exact y_call1 hM.1 (bad 3 hf.symm (by decide))
    refine y_get hM.1 (by decide) rfl ?_
    refine y_ia (o) hM.a3 (by omega) (u2) ?_
    refine b_cases (fun p2 => ?_) (fun p2 => ?_)
    rotate_left
    · rw [if_neg (fun r => r.2.2 (nle.mp p2))] at hf
      exact y_call1 hM.1 (bad 3 hf.symm (by decide))
    rw [if_pos ⟨hz, p, nlt.mpr p2⟩] at hf
    subst hf
    rw [if_pos rfl, if_pos rfl] at hK
    obtain ⟨i, hi, rfl⟩ := nI_of hz.1
    obtain ⟨j, hj, rfl⟩ := nI_of hz.2.1
    obtain ⟨n, hn, rfl⟩ := nI_of hz.2.2.1
    have hi2 : i ≤ sLe S k := by
      rcases Nat.lt_or_ge (sLe S k) i with q2 | q2
      · exact absurd (nI_lt q2 hi) hz.2.2.2.1
      · exact q2
    have hj2 : j ≤ sLe S o := by
      rcases Nat.lt_or_ge (sLe S o) j with q2 | q2
      · exact absurd (nI_lt q2 hj) hz.2.2.2.2
      · exact q2
    have p : ¬ nI (sLe S k) - nI i < nI n := p
    have p2 : ¬ nI (sLe S o) - nI j < nI n := nlt.mpr p2
    rw [pk_sub hi2] at p
    rw [pk_sub hj2] at p2
    have hn2 : i + n ≤ sLe S k := by
      rcases Nat.lt_or_ge (sLe S k - i) n with q2 | q2
      · exact absurd (nI_lt q2 hn) p
      · omega
    have hn3 : j + n ≤ sLe S o := by
      rcases Nat.lt_or_ge (sLe S o - j) n with q2 | q2
      · exact absurd (nI_lt q2 hn) p2
      · omega
    rw [ix_nI (by omega), ix_nI (by omega), ix_nI (by omega)] at hK
    -- the loop: after t cells; up: from the last one on
    have loop : ∀ (up : Bool), (up = true ↔ i < j) → ∀ kk t, t + kk = n → ∀ (h2 : Hp) (F : Nat → Int32) (o9 : Option Value), ModH g rl h2 m q (upd I 0 0) (va_up A 4 F) Wy → (∀ w a2, w < 4 → a2 < 60 → F (60 * w + a2) = if w = o ∧ j ≤ a2 ∧ a2 < j + n ∧ (if up then n - t ≤ a2 - j else a2 - j < t) then A 4 (60 * k + (i + (a2 - j))) else A 4 (60 * w + a2)) → MX rl h h2 → G 3 h2 0 0 [some (.ref m), some (.int (nI k)), some (.int (nI i)), some (.int (nI o)), some (.int (nI j)), some (.int (nI n)), some (.int 1), some (.int (if up then 1 else 0)), some (.int (nI t)), o9] [] := by
      intro up hup kk
      induction kk with
      | zero =>
        intro t ht h2 F o9 hM hF hx
        refine hG 3 _ _ _ _ _ ?_
        refine b_ge t n (fun _ => ?_) (fun _ => by omega)
        refine hK h2 ⟨hok, q, _, _, Wy, hM, ⟨fun w hw => ⟨(hS.1 w hw).1, (hS.1 w hw).2.1, fun a2 ha2 => ?_⟩, hS1.2⟩⟩ hx
        show F (60 * w + a2) = va_up (sCe S) o (va_cpy (sCe S k) (sCe S o) i j n) w a2
        rw [hF w a2 hw ha2]
        unfold va_up
        by_cases ew : w = o
        · rw [if_pos ew]
          subst ew
          by_cases ea : j ≤ a2 ∧ a2 < j + n
          · rw [pk_cpy_in ea.1 ea.2, if_pos ⟨rfl, ea.1, ea.2, by cases up <;> simp <;> omega⟩]
            exact s3 _ (by omega)
          · rw [pk_cpy_out (by omega), if_neg (fun r => ea ⟨r.2.1, r.2.2.1⟩)]
            exact u3 a2 ha2
        · rw [if_neg ew, if_neg (fun r => ew r.1)]
          exact (hS.1 w hw).2.2 a2 ha2
      | succ kk ih =>
        intro t ht h2 F o9 hM hF hx
        have g4 : ∀ cI : Nat, cI = (if up then n - 1 - t else t) → G 4 h2 0 0 [some (.ref m), some (.int (nI k)), some (.int (nI i)), some (.int (nI o)), some (.int (nI j)), some (.int (nI n)), some (.int 1), some (.int (if up then 1 else 0)), some (.int (nI t)), o9] [.int (nI cI)] := fun cI hcI => by
          have hcn : cI < n := by cases up <;> simp at hcI <;> omega
          refine hG 4 _ _ _ _ _ ?_
          refine y_get hM.1 (by decide) rfl ?_
          refine y_get hM.1 (by decide) rfl ?_
          have eold : F (60 * k + i + cI) = A 4 (60 * k + (i + cI)) := by
            rw [Nat.add_assoc, hF k (i + cI) hk (by omega)]
            refine if_neg (fun r => ?_)
            obtain ⟨r1, r2, r3, r4⟩ := r
            cases up with
            | true =>
              have := hup.mp rfl
              simp at hcI r4
              omega
            | false =>
              have : ¬ i < j := fun q2 => by have := hup.mpr q2; cases this
              simp at hcI r4
              omega
          refine y_ia (60 * k + i + cI) hM.a4 (by omega) eold ?_ (ix60c k i cI)
          refine y_is (60 * o + j + cI) hM.a4 (by omega) (fun h3 e3 x3 => ?_) (ix60c o j cI)
          have hM2 := hM.setA 4 e3 x3
          rw [up_up] at hM2
          refine (fun z => by rw [nI_succ t] at z; exact z) (ih (t + 1) (by omega) h3 _ (some (.int (nI cI))) hM2 (fun w a2 hw ha2 => ?_) (hx.trs (MX.of x3)))
          by_cases e : 60 * w + a2 = 60 * o + j + cI
          · have ew : w = o := by omega
            have ea : a2 = j + cI := by omega
            rw [e, show upd (va_up A 4 F 4) (60 * o + j + cI) (A 4 (60 * k + (i + cI))) (60 * o + j + cI) = A 4 (60 * k + (i + cI)) from pk_us, if_pos ⟨ew, by omega, by omega, by cases up <;> simp at hcI ⊢ <;> omega⟩, ea, show j + cI - j = cI by omega]
          · rw [show upd (va_up A 4 F 4) (60 * o + j + cI) (A 4 (60 * k + (i + cI))) (60 * w + a2) = F (60 * w + a2) from pk_un e, hF w a2 hw ha2]
            by_cases c1 : w = o ∧ j ≤ a2 ∧ a2 < j + n ∧ (if up then n - t ≤ a2 - j else a2 - j < t)
            · rw [if_pos c1, if_pos ⟨c1.1, c1.2.1, c1.2.2.1, by have := c1.2.2.2; cases up <;> simp at this ⊢ <;> omega⟩]
            · rw [if_neg c1, if_neg]
              rintro ⟨r1, r2, r3, r4⟩
              apply c1
              refine ⟨r1, r2, r3, ?_⟩
              subst r1
              cases up <;> simp at r4 hcI ⊢ <;> omega
        refine hG 3 _ _ _ _ _ ?_
        refine b_ge t n (fun _ => by omega) (fun _ => ?_)
        cases up with
        | false =>
          refine b_yes rfl ?_
          exact g4 t (by simp)
        | true =>
          refine b_no (by decide) ?_
          have e9 : nI n - 1 - nI t = nI (n - 1 - t) := by rw [show nI n - 1 = nI (n - 1) from pk_sub (b := 1) (by omega), pk_sub (by omega)]
          have g4 := g4 (n - 1 - t) (by simp)
          rw [← e9] at g4
          exact g4
    have h0 : ∀ up : Bool, ∀ w a2, w < 4 → a2 < 60 → A 4 (60 * w + a2) = if w = o ∧ j ≤ a2 ∧ a2 < j + n ∧ (if up then n - 0 ≤ a2 - j else a2 - j < 0) then A 4 (60 * k + (i + (a2 - j))) else A 4 (60 * w + a2) := fun up w a2 _ _ => by
      rw [if_neg]
      rintro ⟨r1, r2, r3, r4⟩
      cases up <;> simp at r4 <;> omega
    refine b_ge i j (fun c1 => ?_) (fun c1 => ?_)
    · refine hG 2 _ _ _ _ _ ?_
      exact loop false ⟨fun h9 => absurd h9 (by decide), fun h9 => by omega⟩ n 0 (by omega) h1 (A 4) _ (by rw [up_id]; exact hM) (h0 false) hx
    · refine hG 2 _ _ _ _ _ ?_
      exact loop true ⟨fun _ => c1, fun _ => rfl⟩ n 0 (by omega) h1 (A 4) _ (by rw [up_id]; exact hM) (h0 true) hx
  refine b_cases (fun p => ?_) (fun p => ?_)
  · exact g0 (fun r => r.1 p)
  refine b_cases (fun p2 => ?_) (fun p2 => ?_)
  · exact g0 (fun r => r.2.1 p2)
  refine b_cases (fun p3 => ?_) (fun p3 => ?_)
  · exact g0 (fun r => r.2.2.1 p3)
  refine y_get hM.1 (by decide) rfl ?_
  refine y_ia (k) hM.a3 (by omega) (s2) ?_
  refine b_cases (fun p4 => ?_) (fun p4 => ?_)
  · exact g0 (fun r => r.2.2.2.1 p4)
  refine y_get hM.1 (by decide) rfl ?_
  refine y_ia (o) hM.a3 (by omega) (u2) ?_
  refine b_cases (fun p5 => ?_) (fun p5 => ?_)
  · exact g0 (fun r => r.2.2.2.2 p5)
  · exact g1 ⟨p, p2, p3, p4, p5⟩
end MM8

