section MM6
variable {l : Launch} {g : Gm} {rl : Nat → Nat} {h : Hp} {K : PT} {m : Nat} {q : Nat → Nat} {I : Nat → Int32} {A : Nat → Nat → Int32} {Wy : Nat → Int64} {S : St} {L : Ld} {nd : Nat → Nat → Nat → Nat} {c : Nat → Nat}
theorem ite_tt {α : Sort _} {c : Prop} [Decidable c] {a b : α} (h : c) : (if c then a else b) = a := if_pos h
theorem ask_ge {w : Int32} (ha : Ask w) (h0 : ¬ w = 0) (h1 : ¬ w = 1) (h2 : ¬ w = 2) (h3 : ¬ w = 3) : InR w 10 13 := by
  rcases ha with ha | ha
  · exfalso
    obtain ⟨j, hj, rfl⟩ := inR_of (n := 3) (by omega) ha
    have : j = 0 ∨ j = 1 ∨ j = 2 ∨ j = 3 := by omega
    rcases this with rfl | rfl | rfl | rfl
    · exact h0 rfl
    · exact h1 rfl
    · exact h2 rfl
    · exact h3 rfl
  · exact ha
theorem ctk_ok {sh : Int32} {j k : Nat} (hok : StOk S) (hb : ∀ v, v < vn (sL S) → CellOk (sCe S k (j + v)) (tn (sL S) v)) : CutOk (sL S) (fun v => ix (sCe S k (j + v))) := fun v hv => by
  have b2 := (hok.2.1.2 v hv).2.2.1
  exact (cell_of (by omega) (hb v hv)).2
theorem mm_cut {sh lane i w : Int32} (hR : ModR g rl h m S) (hK : ∀ h1, ModR g rl h1 m (st_cut S sh lane i w) → MX rl h h1 → K (some (.int (sp_cut S sh lane i w))) h1) : Run l g d_X10_cut [.ref m, .int sh, .int lane, .int i, .int w] h 0 0 K := by
  obtain ⟨hok, q, I, A, Wy, hM, hS⟩ := hR
  have hL := hS.2.2.2.1
  have b1 := hL.1.1
  unfold sp_cut st_cut at hK
  generalize ht : tkr S sh lane i (Ask w) = tk at hK
  unfold tkr at ht
  refine vc_X10_cut (fun G hG => ?_)
  refine hG 0 _ _ _ _ _ ?_
  refine y_putI hM.1 (by decide) (Nat.le_of_ble_eq_true rfl) rfl (fun h1 e1 x1 => ?_)
  have hM := hM.setI (I' := upd I 0 0) e1 x1
  have hS1 := hS.fa 0
  have hx := MX.of x1
  refine y_get hM.1 (by decide) rfl ?_
  rw [show upd I 0 0 5 = nI (vn (sL S)) from hL.2.1]
  have off : ∀ r : Int32, ¬ r = 0 → tk = (r, 0) → K (some (.int r)) h1 := fun r hr e => by
    subst e
    rw [if_neg hr] at hK
    exact hK h1 ⟨hok, q, _, A, Wy, hM, hS1⟩ hx
  refine pk_eq (vn (sL S)) 0 (fun z => ?_) (fun z => ?_)
  · rw [if_pos z] at ht
    exact off (-3) (by decide) ht.symm
  rw [if_neg z] at ht
  refine y_callS (m_isSheet ?_)
  refine b_Z (fun y => ?_) (fun y => ?_)
  · rw [if_neg y] at ht
    exact off (-1) (by decide) ht.symm
  rw [if_pos y] at ht
  refine y_callS (m_isSort ?_)
  refine b_Z (fun x => ?_) (fun x => ?_)
  · rw [if_neg x] at ht
    exact off (-2) (by decide) ht.symm
  rw [if_pos x] at ht
  obtain ⟨k, hk, rfl⟩ := sh_of y
  rw [ix_nI (by omega)] at ht
  have b6 := (hok.1 k hk).2
  have g1 : Ask w → G 1 h1 0 0 [some (.ref m), some (.int (nI k)), some (.int lane), some (.int i), some (.int w), none, none] [] := fun ha => by
    rw [if_pos ha] at ht
    refine hG 1 _ _ _ _ _ ?_
    refine y_get hM.1 (by decide) rfl ?_
    rw [show upd I 0 0 5 = nI (vn (sL S)) from hL.2.1]
    refine y_call1 hM.1 (m_against hM hS1 hk ?_)
    refine b_cases (fun a => ?_) (fun a => ?_)
    rotate_left
    · have a : ¬ agst (sSo S k) (sLe S k) lane i (nI (vn (sL S))) = 0 := a
      rw [if_neg a] at ht
      refine y_call1 hM.1 (m_fails hM (fun h2 hM2 hx2 => ?_))
      subst ht
      have hne : ¬ -10 - agst (sSo S k) (sLe S k) lane i (nI (vn (sL S))) = 0 := by
        have h9 : ∀ x : Int32, x = 1 ∨ x = 2 ∨ x = 3 ∨ x = 4 → ¬ -10 - x = 0 := by
          rintro x (rfl | rfl | rfl | rfl) <;> decide
        apply h9
        unfold agst at a ⊢
        by_cases c1 : sSo S k = -9
        · rw [if_pos c1]; exact Or.inl rfl
        · rw [if_neg c1] at a ⊢
          by_cases c2 : sSo S k = lane
          · rw [if_pos c2] at a ⊢
            by_cases c3 : nI (vn (sL S)) < 0
            · rw [if_pos c3]; exact Or.inr (Or.inr (Or.inr rfl))
            · rw [if_neg c3] at a ⊢
              by_cases c4 : i < 0 ∨ nI (sLe S k) < i ∨ nI (sLe S k) - i < nI (vn (sL S))
              · rw [if_pos c4]; exact Or.inr (Or.inr (Or.inl rfl))
              · rw [if_neg c4] at a; exact absurd rfl a
          · rw [if_neg c2]; exact Or.inr (Or.inl rfl)
      rw [if_neg hne] at hK
      exact hK h2 ⟨hok, q, _, A, Wy, hM2, hS1.fa _⟩ (hx.trs hx2)
    have a : agst (sSo S k) (sLe S k) lane i (nI (vn (sL S))) = 0 := a
    rw [if_pos a] at ht
    obtain ⟨j, rfl, hj, -, -⟩ := agst_0 b6 (by omega) a
    rw [ix_nI (by omega)] at ht
    have hL1 : MLand (upd I 0 0) A (sL S) (sN S) := hL
    have hcell : ∀ v, v < vn (sL S) → A 4 (60 * k + j + v) = sCe S k (j + v) := fun v hv => by
      have := (hS.1 k hk).2.2 (j + v) (by omega)
      rw [← this, Nat.add_assoc]
    have iff1 : (∀ v, v < vn (sL S) → CellOk (A 4 (60 * k + j + v)) (tn (sL S) v)) ↔ ∀ v, v < vn (sL S) → CellOk (sCe S k (j + v)) (tn (sL S) v) := ⟨fun hh v hv => by rw [← hcell v hv]; exact hh v hv, fun hh v hv => by rw [hcell v hv]; exact hh v hv⟩
    have e60 := ix60 k j
    refine y_call1 hM.1 (m_refusesCells hM hL1 (by omega) ?_ e60)
    by_cases hcl : ∀ v, v < vn (sL S) → CellOk (sCe S k (j + v)) (tn (sL S) v)
    rotate_left
    · rw [if_neg (fun r => hcl (iff1.mp r))]
      rw [if_neg hcl] at ht
      refine b_no (by decide) ?_
      exact off (-2) (by decide) ht.symm
    rw [if_pos (iff1.mpr hcl)]
    rw [if_pos hcl] at ht
    subst ht
    rw [if_pos rfl] at hK
    refine b_yes rfl ?_
    refine y_call1 hM.1 (m_takeCells hM hL.2.1 b1 (by omega) (fun h2 F hM hF hx2 => ?_) e60)
    have hx := hx.trs hx2
    have ecut : ctk S (nI k) (nI j) = fun v => ix (sCe S k (j + v)) := by
      unfold ctk
      rw [ix_nI (by omega), ix_nI (by omega)]
    have hcut : CutOk (sL S) (ctk S (nI k) (nI j)) := by rw [ecut]; exact ctk_ok (sh := 0) hok hcl
    have hc : MCut (va_up A 21 F) (sL S) (ctk S (nI k) (nI j)) := ⟨hcut, fun v hv => by
      show F v = _
      rw [hF v hv, hcell v hv, ecut]
      have b2 := (hok.2.1.2 v hv).2.2.1
      exact (cell_of (by omega) (hcl v hv)).1⟩
    have hL2 : MLand (upd I 0 0) (va_up A 21 F) (sL S) (sN S) := hL
    generalize ctk S (nI k) (nI j) = cc at hK hcut hc
    unfold rcut at hK
    refine b_cases (fun a => ?_) (fun a => ?_)
    · rw [if_pos a] at hK
      refine y_call1 hM.1 (m_canBe hM hL2 hc ?_)
      refine b_Z (fun b => ?_) (fun b => ?_)
      · rw [bP_0 b] at hK
        exact hK h2 ⟨hok, q, _, _, Wy, hM, hS1⟩ hx
      · rw [bP_1 b] at hK
        exact hK h2 ⟨hok, q, _, _, Wy, hM, hS1⟩ hx
    rw [if_neg a] at hK
    refine b_cases (fun b => ?_) (fun b => ?_)
    · rw [if_pos b] at hK
      refine y_call1 hM.1 (m_sumOf hM hL2 hc ?_)
      exact hK h2 ⟨hok, q, _, _, Wy, hM, hS1⟩ hx
    rw [if_neg b] at hK
    refine b_cases (fun d => ?_) (fun d => ?_)
    · rw [if_pos d] at hK
      refine y_call1 hM.1 (m_underWay hM hL2 hc ?_)
      exact hK h2 ⟨hok, q, _, _, Wy, hM, hS1⟩ hx
    rw [if_neg d] at hK
    refine y_call1 hM.1 (m_close hok.2.2.2.2.1.2.1 hM hL2 hc (fun h3 F3 hM hF3 hx3 => ?_))
    rw [up_up] at hM
    have hx := hx.trs hx3
    have hL3 : MLand (upd I 0 0) (va_up A 21 F3) (sL S) (sN S) := hL
    have hc3 : MCut (va_up A 21 F3) (sL S) (Cl (sL S) (sN S) cc) := ⟨cl_ok hok.2.1 hok.2.2.2.2.1.2.1 hcut, hF3⟩
    refine b_cases (fun f => ?_) (fun f => ?_)
    · rw [if_pos f] at hK
      refine y_call1 hM.1 (m_inCut hM hL3 hc3 ?_)
      exact hK h3 ⟨hok, q, _, _, Wy, hM, hS1⟩ hx
    rw [if_neg f] at hK
    refine y_call1 hM.1 (m_isVillage hM hL.2.1 ?_)
    refine b_Z (fun p => ?_) (fun p => ?_)
    · have p : ¬ IsV (w - 10) (vn (sL S)) := p
      rw [if_neg p] at hK
      exact hK h3 ⟨hok, q, _, _, Wy, hM, hS1⟩ hx
    have p : IsV (w - 10) (vn (sL S)) := p
    rw [if_pos p] at hK
    obtain ⟨u, hu, eu⟩ := isV_of p (by omega)
    rw [eu, ix_nI (by omega)] at hK
    refine y_get hM.1 (by decide) rfl ?_
    refine y_ia u hM.a21 (by omega) (hF3 u hu) ?_ eu
    exact hK h3 ⟨hok, q, _, _, Wy, hM, hS1⟩ hx
  refine y_callS (m_within ?_)
  refine b_Z (fun a => ?_) (fun a => ?_)
  · refine y_callS (m_within ?_)
    refine b_Z (fun b => ?_) (fun b => ?_)
    · rw [if_neg (fun r => r.elim a b)] at ht
      exact off (-2) (by decide) ht.symm
    · exact g1 (Or.inr b)
  · exact g1 (Or.inl a)
end MM6

