/-! ===== the state that both have: sheets, fault, trace, land, readings ===== -/
/-- sheets: sort (-9: nothing), length, cells -/
abbrev SgT : Type := (Nat → Int32) × (Nat → Nat) × (Nat → Nat → Int32)
/-- land: the land itself, how many are ahead, what has happened -/
abbrev LmT : Type := Ld × (Nat → Nat → Nat → Nat) × (Nat → Nat)
/-- readings: how many, their cuts, their sums -/
abbrev RdT : Type := Nat × (Nat → Nat → Nat) × (Nat → Nat)
abbrev St : Type := SgT × Int32 × Int32 × LmT × RdT
abbrev sSo (S : St) : Nat → Int32 := S.1.1
abbrev sLe (S : St) : Nat → Nat := S.1.2.1
abbrev sCe (S : St) : Nat → Nat → Int32 := S.1.2.2
abbrev sFa (S : St) : Int32 := S.2.1
abbrev sTr (S : St) : Int32 := S.2.2.1
abbrev sL (S : St) : Ld := S.2.2.2.1.1
abbrev sN (S : St) : Nat → Nat → Nat → Nat := S.2.2.2.1.2.1
abbrev sD (S : St) : Nat → Nat := S.2.2.2.1.2.2
abbrev sRn (S : St) : Nat := S.2.2.2.2.1
abbrev sRc (S : St) : Nat → Nat → Nat := S.2.2.2.2.2.1
abbrev sRs (S : St) : Nat → Nat := S.2.2.2.2.2.2
abbrev setSg (S : St) (x : SgT) : St := (x, S.2)
abbrev setFa (S : St) (x : Int32) : St := (S.1, x, S.2.2)
abbrev setTr (S : St) (x : Int32) : St := (S.1, S.2.1, x, S.2.2.2)
abbrev setD (S : St) (x : Nat → Nat) : St := (S.1, S.2.1, S.2.2.1, (S.2.2.2.1.1, S.2.2.2.1.2.1, x), S.2.2.2.2)
abbrev setRd (S : St) (x : RdT) : St := (S.1, S.2.1, S.2.2.1, S.2.2.2.1, x)
abbrev SgOk (x : SgT) : Prop := ∀ k, k < 4 → (x.1 k = -9 ∨ x.1 k = 0 ∨ x.1 k = 1 ∨ x.1 k = 2) ∧ x.2.1 k ≤ 60
/-- what always holds of the numbers -/
def StOk (S : St) : Prop := SgOk S.1 ∧ LdOk (sL S) ∧ (vn (sL S) = 0 ∨ 2 ≤ vn (sL S)) ∧ CutOk (sL S) (sD S) ∧ LnOk (sL S) (sN S) (sD S) ∧ sRn S ≤ 8 ∧ ∀ r, r < sRn S → CutOk (sL S) (sRc S r) ∧ sRs S r ≤ 99
/-- the reference's numbers and rows tell the state S -/
def MSt (I : Nat → Int32) (A : Nat → Nat → Int32) (S : St) : Prop :=
  (∀ k, k < 4 → A 2 k = sSo S k ∧ A 3 k = nI (sLe S k) ∧ ∀ i, i < 60 → A 4 (60 * k + i) = sCe S k i) ∧ I 0 = sFa S ∧ I 1 = sTr S ∧ MLand I A (sL S) (sN S) ∧ (∀ v, v < vn (sL S) → A 11 v = nI (sD S v)) ∧
  I 24 = nI (sRn S) ∧ ∀ r, r < sRn S → A 26 r = nI (sRs S r) ∧ ∀ v, v < vn (sL S) → A 25 (4 * r + v) = nI (sRc S r v)
def ModR (g : Gm) (rl : Nat → Nat) (h : Hp) (m : Nat) (S : St) : Prop := StOk S ∧ ∃ (q : Nat → Nat) (I : Nat → Int32) (A : Nat → Nat → Int32) (Wy : Nat → Int64), ModH g rl h m q I A Wy ∧ MSt I A S
section MST
variable {l : Launch} {g : Gm} {rl rl2 : Nat → Nat} {h h1 : Hp} {K : PT} {m : Nat} {q : Nat → Nat} {I : Nat → Int32} {A : Nat → Nat → Int32} {Wy : Nat → Int64} {S : St} {L : Ld} {nd : Nat → Nat → Nat → Nat}
theorem ModR.ex {X : Nat → Prop} (hM : ModR g rl h m S) (hx : Ex X rl h rl2 h1) (hn : ∀ i, 1000 ≤ i → i < 1100 → ¬ X i) : ModR g rl2 h1 m S := by
  obtain ⟨h0, q, I, A, Wy, h1, h2⟩ := hM
  exact ⟨h0, q, I, A, Wy, h1.ex hx hn, h2⟩
/-- a village's number as the machine tests it -/
abbrev IsV (x : Int32) (n : Nat) : Prop := ¬ x < 0 ∧ ¬ nI n ≤ x
theorem isV_of {x : Int32} {n : Nat} (h : IsV x n) (hn : n < 2 ^ 31) : ∃ v, v < n ∧ x = nI v := by
  rcases pk_ix x hn with h1 | h1 | h1
  · exact absurd h1 h.1
  · exact absurd h1 h.2
  · exact h1
theorem isV_nI {v n : Nat} (h : v < n) (hn : n < 2 ^ 31) : IsV (nI v) n := ⟨nI_pos (by omega), nI_ge h hn⟩
theorem isV_iff {v n : Nat} (hv : v < 2 ^ 31) (hn : n < 2 ^ 31) : IsV (nI v) n ↔ v < n := by
  refine ⟨fun h => ?_, fun h => isV_nI h hn⟩
  rcases Nat.lt_or_ge v n with h1 | h1
  · exact h1
  · exact absurd (nI_le h1 hv) h.2
abbrev IsT (x y : Int32) (L : Ld) : Prop := IsV x (vn L) ∧ IsV y (tn L x.toNatClampNeg)
theorem m_isThing {x y : Int32} (hM : ModH g rl h m q I A Wy) (hL : MLand I A L nd) (hK : K (some (.int (bP (IsT x y L)))) h) : Run l g d_X10_isThing [.ref m, .int x, .int y] h 0 0 K := by
  have b1 := hL.1.1
  refine vc_X10_isThing (fun G hG => ?_)
  refine hG 0 _ _ _ _ _ ?_
  refine y_call1 hM.1 (m_isVillage hM hL.2.1 ?_)
  refine b_Z (fun z => ?_) (fun z => ?_)
  · exact z0 (fun r => z r.1) hK
  · obtain ⟨v, hv, rfl⟩ := isV_of z (by omega)
    have b2 := (hL.1.2 v hv).2.2.1
    have ec : (nI v).toNatClampNeg = v := nI_clamp (by omega)
    unfold IsT at hK
    refine b_cases (fun w => ?_) (fun w => ?_)
    · exact z0 (fun r => r.2.1 w) hK
    · refine y_get hM.1 (by decide) rfl ?_
      refine y_ia (v) hM.a7 (by omega) ((hL.2.2 v hv).2.1) ?_
      refine b_cases (fun u => ?_) (fun u => ?_)
      · exact z0 (fun r => by have h9 := r.2.2; rw [ec] at h9; exact h9 u) hK
      · exact z1 ⟨z, w, by rw [ec]; exact u⟩ hK
theorem m_fails {x : Int32} (hM : ModH g rl h m q I A Wy) (hK : ∀ h1, ModH g rl h1 m q (upd I 0 x) A Wy → MX rl h h1 → K (some (.int (-10 - x))) h1) : Run l g d_X10_fails [.ref m, .int x] h 0 0 K := by
  refine vc_X10_fails (fun G hG => ?_)
  refine hG 0 _ _ _ _ _ ?_
  refine y_putI hM.1 (by decide) (Nat.le_of_ble_eq_true rfl) rfl (fun h1 e1 x1 => ?_)
  exact hK h1 (hM.setI e1 x1) (MX.of x1)
/-- what the machine has against taking n cells from i on; 0: nothing -/
def agst (so : Int32) (le : Nat) (lane i n : Int32) : Int32 := if so = -9 then 1 else if so = lane then (if n < 0 then 4 else if i < 0 ∨ nI le < i ∨ nI le - i < n then 3 else 0) else 2
theorem m_against {k : Nat} {lane i n : Int32} (hM : ModH g rl h m q I A Wy) (hS : MSt I A S) (hk : k < 4) (hK : K (some (.int (agst (sSo S k) (sLe S k) lane i n))) h) : Run l g d_X10_against [.ref m, .int (nI k), .int lane, .int i, .int n] h 0 0 K := by
  obtain ⟨s1, s2, -⟩ := hS.1 k hk
  refine vc_X10_against (fun G hG => ?_)
  unfold agst at hK
  have g1 : (sSo S k = -9 ∨ sSo S k = lane) → G 1 h 0 0 [some (.ref m), some (.int (nI k)), some (.int lane), some (.int i), some (.int n)] [] := fun hz => by
    refine hG 1 _ _ _ _ _ ?_
    refine y_get hM.1 (by decide) rfl ?_
    refine y_ia (k) hM.a2 (by omega) (s1) ?_
    refine b_cases (fun z => ?_) (fun z => ?_)
    · rw [if_pos z] at hK
      exact hK
    · rw [if_neg z, if_pos (hz.resolve_left z)] at hK
      refine b_cases (fun y => ?_) (fun y => ?_)
      · rw [if_neg (nlt.mpr y)] at hK
        refine b_cases (fun x => ?_) (fun x => ?_)
        · rw [if_pos (Or.inl x)] at hK
          exact hK
        · refine y_get hM.1 (by decide) rfl ?_
          refine y_ia (k) hM.a3 (by omega) (s2) ?_
          refine b_cases (fun w => ?_) (fun w => ?_)
          · rw [if_pos (Or.inr (Or.inl w))] at hK
            exact hK
          · refine y_get hM.1 (by decide) rfl ?_
            refine y_ia (k) hM.a3 (by omega) (s2) ?_
            refine b_cases (fun u => ?_) (fun u => ?_)
            · rw [if_neg (fun r => r.elim x (fun r => r.elim w (nlt.mpr u)))] at hK
              exact hK
            · rw [if_pos (Or.inr (Or.inr (nle.mp u)))] at hK
              exact hK
      · rw [if_pos (nle.mp y)] at hK
        exact hK
  refine hG 0 _ _ _ _ _ ?_
  refine y_get hM.1 (by decide) rfl ?_
  refine y_ia (k) hM.a2 (by omega) (s1) ?_
  refine b_cases (fun z => ?_) (fun z => ?_)
  · exact g1 (Or.inl z)
  · refine y_get hM.1 (by decide) rfl ?_
    refine y_ia (k) hM.a2 (by omega) (s1) ?_
    refine b_cases (fun y => ?_) (fun y => ?_)
    · exact g1 (Or.inr y)
    · rw [if_neg z, if_neg y] at hK
      exact hK
end MST

