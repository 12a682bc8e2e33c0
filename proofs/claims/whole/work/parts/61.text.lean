/-! ===== the class reads a text ===== -/
abbrev TX (β : Nat) : Nat → Prop := fun i => β ≤ i ∧ i < β + 101
/-- the reader y of a sheet's cells, at the place p -/
def TxH (g : Gm) (rl : Nat → Nat) (h : Hp) (β y sh cl ρs ρc : Nat) (o1 o2 o3 : Value) (from1 n p : Nat) (t : Nat → Int32) : Prop := Ob rl h y (β + 100) (.inr (7, [.ref sh, .int (nI from1), .int (nI n), .int (nI p)])) ∧ Ob rl h sh ρs (.inr (5, [.ref cl, o1, o2, o3])) ∧ ∃ F, Ia g rl h cl ρc 60 F ∧ from1 + n ≤ 60 ∧ (∀ k, k < n → F (from1 + k) = t k) ∧ ρs < β ∧ ρc < β
section TEXT
variable {l : Launch} {g : Gm} {rl rl1 : Nat → Nat} {h h1 : Hp} {K : PT} {β a y sh cl ρs ρc : Nat} {o1 o2 o3 : Value} {from1 n p : Nat} {t : Nat → Int32} {ad : Nat → Nat} {L : Ld} {A : Nat → Nat → Int32}
theorem TxH.ex {X : Nat → Prop} (hT : TxH g rl h β y sh cl ρs ρc o1 o2 o3 from1 n p t) (hx : Ex X rl h rl1 h1) (hn : ∀ i, i < β ∨ i = β + 100 → ¬ X i) : TxH g rl1 h1 β y sh cl ρs ρc o1 o2 o3 from1 n p t := by
  obtain ⟨e1, e2, F, e3, e4, e5, e6, e7⟩ := hT
  exact ⟨e1.ex hx (hn _ (by omega)), e2.ex hx (hn _ (by omega)), F, e3.ex hx (hn _ (by omega)), e4, e5, e6, e7⟩
theorem TxH.go {p2 : Nat} (hT : TxH g rl h β y sh cl ρs ρc o1 o2 o3 from1 n p t) (e : Ob rl h1 y (β + 100) (.inr (7, [.ref sh, .int (nI from1), .int (nI n), .int (nI p2)]))) (hx : Ex (fun i => i = β + 100) rl h rl h1) : TxH g rl h1 β y sh cl ρs ρc o1 o2 o3 from1 n p2 t := by
  obtain ⟨e1, e2, F, e3, e4, e5, e6, e7⟩ := hT
  exact ⟨e, e2.ex hx (by omega), F, e3.ex hx (by omega), e4, e5, e6, e7⟩
theorem PlH.mk9 {X : Nat → Prop} (hP : PlH g rl h β a ad L A) (hx : Ex X rl h rl1 h1) (h4 : vn L ≤ 4) (hn : ∀ i, i < 100 → ¬ X (β + i)) : PlH g rl1 h1 β a ad L A := ⟨hP.1.ex hx h4 hn, hP.2⟩
theorem c_code (hT : TxH g rl h β y sh cl ρs ρc o1 o2 o3 from1 n p t) (hp : p ≤ n) (hK : K (some (.int (cdI t n p))) h) : Run l g d_X7_code [.ref y] h 0 0 K := by
  obtain ⟨e1, e2, F, e3, e4, e5, e6, e7⟩ := hT
  unfold cdI at hK
  refine vc_X7_code (fun G hG => ?_)
  refine hG 0 _ _ _ _ _ ?_
  refine y_get e1 (by decide) rfl ?_
  refine y_get e1 (by decide) rfl ?_
  refine b_ge p n (fun z => ?_) (fun z => ?_)
  · rw [if_neg (by omega)] at hK
    exact hK
  · rw [if_pos z] at hK
    refine y_get e1 (by decide) rfl ?_
    refine y_get e2 (by decide) rfl ?_
    refine y_get e1 (by decide) rfl ?_
    refine y_get e1 (by decide) rfl ?_
    refine y_ia (from1 + p) e3 (by omega) (e5 p z) ?_ (nI_add from1 p)
    exact hK
theorem c_kindOf {x : Int32} (hK : K (some (.int (if kof x = 9 then -9 else nI (kof x)))) h) : Run l g d_X7_kindOf [.int x] h 0 0 K := by
  unfold kof at hK
  refine vc_X7_kindOf (fun G hG => ?_)
  refine hG 0 _ _ _ _ _ ?_
  by_cases a1 : x = 112
  · subst a1
    exact b_no (by decide) (b_no (by decide) (b_yes rfl hK))
  rw [if_neg a1] at hK
  by_cases a2 : x = 98
  · subst a2
    exact b_yes rfl hK
  rw [if_neg a2] at hK
  by_cases a3 : x = 100
  · subst a3
    exact b_no (by decide) (b_yes rfl hK)
  rw [if_neg a3] at hK
  exact b_no a2 (b_no a3 (b_no a1 hK))
theorem c_whatOf {x : Int32} (hK : K (some (.int (if wof x = 9 then -9 else nI (wof x)))) h) : Run l g d_X7_whatOf [.int x] h 0 0 K := by
  unfold wof at hK
  refine vc_X7_whatOf (fun G hG => ?_)
  refine hG 0 _ _ _ _ _ ?_
  by_cases a1 : x = 105
  · subst a1
    exact b_no (by decide) (b_yes rfl hK)
  rw [if_neg a1] at hK
  by_cases a2 : x = 115
  · subst a2
    exact b_no (by decide) (b_no (by decide) (b_yes rfl hK))
  rw [if_neg a2] at hK
  by_cases a3 : x = 103
  · subst a3
    exact b_yes rfl hK
  rw [if_neg a3] at hK
  exact b_no a3 (b_no a1 (b_no a2 hK))
theorem c_greatestDigit {w : Nat} {x : Int32} (hw : w ≤ 2) (hK : K (some (.int (48 + nI (mdg w)))) h) (ex : x = nI w := by rfl) : Run l g d_X7_greatestDigit [.int x] h 0 0 K := by
  subst ex
  unfold mdg at hK
  refine vc_X7_greatestDigit (fun G hG => ?_)
  refine hG 0 _ _ _ _ _ ?_
  refine pk_eq w 0 (fun z => ?_) (fun z => ?_)
  · rw [if_pos z] at hK; exact hK
  · rw [if_neg z] at hK; exact hK
theorem c_isVillageRead (hT : TxH g rl h β y sh cl ρs ρc o1 o2 o3 from1 n p t) (hpn : p ≤ n) (hP : PlH g rl h β a ad L A) (hB : LdB L) (h4 : vn L < 4)
    (hK : ∀ (rl1 : Nat → Nat) (h1 : Hp) (ad1 : Nat → Nat) (A1 : Nat → Nat → Int32), TxH g rl1 h1 β y sh cl ρs ρc o1 o2 o3 from1 n (pV t n p L).2.1 t → Ex (TX β) rl h rl1 h1 → ((pV t n p L).1 = true → PlH g rl1 h1 β a ad1 (pV t n p L).2.2 A1) → K (some (.int (bP ((pV t n p L).1 = true)))) h1) : Run l g d_X7_isVillageRead [.ref y, .ref a] h 10 52 K := by
  have tx : ∀ i, LX β i → TX β i := fun i z => ⟨z.1, by have := z.2; omega⟩
  have t1 : ∀ i, i = β + 100 → TX β i := fun i z => ⟨by omega, by omega⟩
  have ti : ∀ i, TX β i → TX β i := fun i z => z
  have lt1 : ∀ i, i < β ∨ i = β + 100 → ¬ LX β i := fun i z w => by have := w.1; have := w.2; omega
  have lt2 : ∀ k, k < 100 → ¬ (β + k = β + 100) := fun k hk => by omega
  refine vc_X7_isVillageRead (fun G hG => ?_)
  have loop : ∀ (f p : Nat) (L : Ld) (rl2 : Nat → Nat) (h2 : Hp) (ad2 : Nat → Nat) (A2 : Nat → Nat → Int32) (cb sb : Nat) (o5 o6 : Option Value), TxH g rl2 h2 β y sh cl ρs ρc o1 o2 o3 from1 n p t → PlH g rl2 h2 β a ad2 L A2 → LdB L → 0 < vn L → f + tn L (vn L - 1) = 5 → p ≤ n →
      (∀ (h1 : Hp) (A1 : Nat → Nat → Int32), TxH g rl2 h1 β y sh cl ρs ρc o1 o2 o3 from1 n (pT t n f p L).2.1 t → Ex (TX β) rl2 h2 rl2 h1 → ((pT t n f p L).1 = true → PlH g rl2 h1 β a ad2 (pT t n f p L).2.2 A1) → K (some (.int (bP ((pT t n f p L).1 = true)))) h1) → G 1 h2 cb sb [some (.ref y), some (.ref a), o5, some (.int (nI (tn L (vn L - 1)))), o6] [] := by
    intro f
    induction f with
    | zero =>
      intro p L rl2 h2 ad2 A2 cb sb o5 o6 hT hP hB h0 hf hp hK
      refine hG 1 _ _ _ _ _ ?_
      refine b_ge (tn L (vn L - 1)) 5 (fun _ => ?_) (fun _ => by omega)
      refine hG 2 _ _ _ _ _ ?_
      refine pk_le (tn L (vn L - 1)) 0 (fun _ => by omega) (fun _ => ?_)
      exact ⟨Or.inr rfl, hK h2 A2 hT Ex.rf (fun _ => hP)⟩
    | succ f ih =>
      intro p L rl2 h2 ad2 A2 cb sb o5 o6 hT hP hB h0 hf hp hK
      rw [pT_s] at hK
      refine hG 1 _ _ _ _ _ ?_
      refine b_ge (tn L (vn L - 1)) 5 (fun _ => by omega) (fun _ => ?_)
      refine y_call1 hT.1 (c_code hT hp ?_)
      refine y_callS (c_whatOf ?_)
      by_cases w9 : wof (cdI t n p) = 9
      · rw [if_pos w9] at hK ⊢
        refine b_yes rfl ?_
        have hk9 := hK h2 A2 hT Ex.rf (fun _ => hP)
        refine hG 2 _ _ _ _ _ ?_
        refine pk_le (tn L (vn L - 1)) 0 (fun z => ?_) (fun z => ?_)
        · exact z0 (fun e => by have : tn L (vn L - 1) ≠ 0 := of_decide_eq_true e; omega) hk9
        · exact z1 (decide_eq_true (by omega)) hk9
      · rw [if_neg w9] at hK ⊢
        have wl := (wof_le (cdI t n p)).resolve_left w9
        have i1 := wof_in w9
        refine b_no (ne9 (by omega)) ?_
        refine y_call1 hT.1 (c_code hT hp ?_)
        refine y_callS (c_whatOf ?_)
        rw [if_neg w9]
        refine y_get hT.1 (by decide) rfl ?_
        refine y_putI hT.1 (by decide) (Nat.le_of_ble_eq_true rfl) rfl (fun h3 e3 x3 => ?_)
        have hT := hT.go (p2 := p + 1) (by rw [nI_succ]; exact e3) x3
        have hP := PlH.mk9 hP x3 hB.1 lt2
        have hx := x3.mono t1
        have i2 : p + 1 ≤ n := by omega
        refine y_call1 hT.1 (c_code hT i2 ?_)
        by_cases d1 : cdI t n (p + 1) < 48
        · refine b_yes d1 ?_
          have hd : ¬ dgo (cdI t n (p + 1)) (wof (cdI t n p)) := fun z => nlt.mpr z.1 d1
          rw [if_neg hd] at hK
          exact ⟨Or.inl rfl, hK h3 A2 hT hx (fun z => by cases z)⟩
        refine b_no d1 ?_
        refine y_call1 hT.1 (c_code hT i2 ?_)
        refine y_callS (c_greatestDigit wl ?_)
        by_cases d2 : cdI t n (p + 1) ≤ 48 + nI (mdg (wof (cdI t n p)))
        · refine b_yes d2 ?_
          have hd : dgo (cdI t n (p + 1)) (wof (cdI t n p)) := ⟨nlt.mp d1, d2⟩
          have i3 := dgo_in hd
          rw [if_pos hd] at hK
          have dv := dgv_of hd
          refine y_call1 hT.1 (c_code hT i2 ?_)
          have md := mdg_le (wof (cdI t n p))
          have h7 : wof (cdI t n p) ≠ 0 → dgv (cdI t n (p + 1)) ≤ 7 := fun z => by
            have := dv.2
            unfold mdg at this
            rw [if_neg z] at this
            exact this
          refine y_call1 hP.1.1 (c_addThing (w := wof (cdI t n p)) (d := dgv (cdI t n (p + 1))) hP hB h0 (by omega) wl h7 (fun h4 A4 hP4 x4 => ?_) rfl dv.1)
          have hT := hT.ex x4 lt1
          refine y_get hT.1 (by decide) rfl ?_
          refine y_putI hT.1 (by decide) (Nat.le_of_ble_eq_true rfl) rfl (fun h5 e5 x5 => ?_)
          have hT := hT.go (p2 := p + 2) (by rw [show p + 2 = p + 1 + 1 from rfl, nI_succ (p + 1)]; exact e5) x5
          have hBn := addT_ok hB h0 (by omega) wl dv.2
          have hP := PlH.mk9 hP4 x5 hBn.1 lt2
          have hx := ((hx.tr x4 ti tx).tr x5 ti t1)
          have tnn := tn_addT L (wof (cdI t n p)) (dgv (cdI t n (p + 1)))
          have ih9 := ih (p + 2) (addT L (wof (cdI t n p)) (dgv (cdI t n (p + 1)))) rl2 h5 ad2 A4 cb sb o5 (some (.int (nI (wof (cdI t n p))))) hT hP hBn h0 (by show f + tn _ (vn L - 1) = 5; omega) (by omega) (fun h9 A9 a1 a2 a3 => hK h9 A9 a1 (hx.trs a2) a3)
          rw [show vn (addT L (wof (cdI t n p)) (dgv (cdI t n (p + 1)))) = vn L from rfl, tnn, nI_succ] at ih9
          exact ih9
        · refine b_no d2 ?_
          have hd : ¬ dgo (cdI t n (p + 1)) (wof (cdI t n p)) := fun z => d2 z.2
          rw [if_neg hd] at hK
          exact ⟨Or.inl rfl, hK h3 A2 hT hx (fun z => by cases z)⟩
  unfold pV at hK
  refine hG 0 _ _ _ _ _ ?_
  refine y_call1 hT.1 (c_code hT hpn ?_)
  refine b_cases (fun c => ?_) (fun c => ?_)
  · have c : cdI t n p = 59 := c
    rw [if_pos c] at hK
    have i1 := (cd_in (by decide) c).1
    refine y_get hT.1 (by decide) rfl ?_
    refine y_putI hT.1 (by decide) (Nat.le_of_ble_eq_true rfl) rfl (fun h3 e3 x3 => ?_)
    have hT := hT.go (p2 := p + 1) (by rw [nI_succ]; exact e3) x3
    have hP := PlH.mk9 hP x3 (by omega) lt2
    have hx := x3.mono t1
    refine y_call1 hT.1 (c_code hT (by omega) ?_)
    refine y_callS (c_kindOf ?_)
    by_cases k9 : kof (cdI t n (p + 1)) = 9
    · rw [if_pos k9] at hK ⊢
      refine b_yes rfl ?_
      exact ⟨Or.inl rfl, hK rl h3 ad A hT hx (fun z => by cases z)⟩
    · rw [if_neg k9] at hK ⊢
      have kl := (kof_le (cdI t n (p + 1))).resolve_left k9
      have i2 := kof_in k9
      refine b_no (ne9 (by omega)) ?_
      refine y_get hT.1 (by decide) rfl ?_
      refine y_putI hT.1 (by decide) (Nat.le_of_ble_eq_true rfl) rfl (fun h6 e4 x4 => ?_)
      have hT := hT.go (p2 := p + 2) (by rw [show p + 2 = p + 1 + 1 from rfl, nI_succ (p + 1)]; exact e4) x4
      have hP := PlH.mk9 hP x4 (by omega) lt2
      have hx := hx.tr x4 ti t1
      refine y_call1 hP.1.1 (c_settle hP hB h4 kl (fun rl5 h5 ad5 A5 hP5 x5 => ?_))
      have hT := hT.ex x5 lt1
      have hx := hx.tr x5 ti tx
      have tz := addV_t L (kof (cdI t n (p + 1)))
      have ih9 := loop 5 (p + 2) (addV L (kof (cdI t n (p + 1)))) rl5 h5 ad5 A5 (10 - 0 - 0 - 0 - 10) (52 - 0 - 0 - 0 - 52) (some (.int (nI (kof (cdI t n (p + 1)))))) none hT hP5 (addV_ok hB h4 kl) (by show 0 < vn L + 1; omega) (by show 5 + tn _ (vn L + 1 - 1) = 5; rw [Nat.add_sub_cancel, tz]) (by omega) (fun h9 A9 a1 a2 a3 => hK rl5 h9 ad5 A9 a1 (hx.trs a2) a3)
      rw [show vn (addV L (kof (cdI t n (p + 1)))) - 1 = vn L from Nat.add_sub_cancel .., tz] at ih9
      exact ih9
  · have c : ¬ cdI t n p = 59 := c
    rw [if_neg c] at hK
    exact ⟨Or.inl rfl, hK rl h ad A hT Ex.rf (fun z => by cases z)⟩
theorem c_isReadInto (hT : TxH g rl h β y sh cl ρs ρc o1 o2 o3 from1 n 0 t) (hP : PlH g rl h β a ad L0 A)
    (hK : ∀ (rl1 : Nat → Nat) (h1 : Hp) (ad1 : Nat → Nat) (A1 : Nat → Nat → Int32), TxH g rl1 h1 β y sh cl ρs ρc o1 o2 o3 from1 n (parse t n).2.1 t → Ex (TX β) rl h rl1 h1 → ((parse t n).1 = true → PlH g rl1 h1 β a ad1 (parse t n).2.2 A1) → K (some (.int (bP ((parse t n).1 = true)))) h1) : Run l g d_X7_isReadInto [.ref y, .ref a] h 40 208 K := by
  have t1 : ∀ i, i = β + 100 → TX β i := fun i z => ⟨by omega, by omega⟩
  have ti : ∀ i, TX β i → TX β i := fun i z => z
  have lt2 : ∀ k, k < 100 → ¬ (β + k = β + 100) := fun k hk => by omega
  have n60 : n ≤ 60 := by obtain ⟨_, _, F, _, e4, _⟩ := hT; omega
  refine vc_X7_isReadInto (fun G hG => ?_)
  have loop : ∀ (f p : Nat) (L : Ld) (rl2 : Nat → Nat) (h2 : Hp) (ad2 : Nat → Nat) (A2 : Nat → Nat → Int32) (cb sb : Nat), 10 * f ≤ cb → 52 * f ≤ sb → TxH g rl2 h2 β y sh cl ρs ρc o1 o2 o3 from1 n p t → PlH g rl2 h2 β a ad2 L A2 → LdB L → (∀ v, v < vn L → 1 ≤ tn L v) → f + vn L = 4 → p ≤ n →
      (∀ (rl1 : Nat → Nat) (h1 : Hp) (ad1 : Nat → Nat) (A1 : Nat → Nat → Int32), TxH g rl1 h1 β y sh cl ρs ρc o1 o2 o3 from1 n (pL t n f p L).2.1 t → Ex (TX β) rl2 h2 rl1 h1 → ((pL t n f p L).1 = true → PlH g rl1 h1 β a ad1 (pL t n f p L).2.2 A1) → K (some (.int (bP ((pL t n f p L).1 = true)))) h1) → G 1 h2 cb sb [some (.ref y), some (.ref a), some (.int (nI (vn L)))] [] := by
    have g2 : ∀ (p : Nat) (L : Ld) (rl2 : Nat → Nat) (h2 : Hp) (ad2 : Nat → Nat) (A2 : Nat → Nat → Int32) (cb sb : Nat) (o9 : Option Value) (c : Bool), TxH g rl2 h2 β y sh cl ρs ρc o1 o2 o3 from1 n p t → PlH g rl2 h2 β a ad2 L A2 → LdB L → p ≤ n → (c = true ↔ (2 ≤ vn L ∧ p = n)) → K (some (.int (bP (c = true)))) h2 → G 2 h2 cb sb [some (.ref y), some (.ref a), o9] [] := by
      intro p L rl2 h2 ad2 A2 cb sb o9 c hT hP hB hp hc hK
      have b4 := hB.1
      refine hG 2 _ _ _ _ _ ?_
      refine y_get hP.1.1 (by decide) rfl ?_
      refine pk_lt (vn L) 2 (fun z => ?_) (fun z => ?_)
      · exact z0 (fun e => by have := hc.mp e; omega) hK
      · refine y_get hT.1 (by decide) rfl ?_
        refine y_get hT.1 (by decide) rfl ?_
        refine pk_eq p n (fun w => ?_) (fun w => ?_)
        · exact z1 (hc.mpr ⟨by omega, w⟩) hK
        · exact z0 (fun e => w (hc.mp e).2) hK
    intro f
    induction f with
    | zero =>
      intro p L rl2 h2 ad2 A2 cb sb hcb hsb hT hP hB h1 hf hp hK
      refine hG 1 _ _ _ _ _ ?_
      refine b_ge (vn L) 4 (fun _ => ?_) (fun _ => by omega)
      exact g2 p L rl2 h2 ad2 A2 _ _ _ (decide (p = n)) hT hP hB hp (by rw [decide_eq_true_eq]; exact ⟨fun z => ⟨by omega, z⟩, fun z => z.2⟩) (hK rl2 h2 ad2 A2 hT Ex.rf (fun _ => hP))
    | succ f ih =>
      intro p L rl2 h2 ad2 A2 cb sb hcb hsb hT hP hB h1 hf hp hK
      rw [pL_s] at hK
      have h9 := pV_ok (t := t) hp hB (by omega) h1
      refine hG 1 _ _ _ _ _ ?_
      refine b_ge (vn L) 4 (fun _ => by omega) (fun _ => ?_)
      refine y_get hT.1 (by decide) rfl ?_
      refine y_get hT.1 (by decide) rfl ?_
      refine b_ge p n (fun z => ?_) (fun z => ?_)
      · have ep : p = n := by omega
        by_cases v2 : vn L < 2
        · rw [if_pos (Or.inl v2)] at hK
          have e9 : pV t n p L = (false, p, L) := by
            unfold pV
            rw [if_neg (fun e => by have := (cd_in (by decide) e).1; omega)]
          rw [e9] at hK
          exact g2 p L rl2 h2 ad2 A2 _ _ _ false hT hP hB hp ⟨fun e => (by cases e), fun e => by omega⟩ (hK rl2 h2 ad2 A2 hT Ex.rf (fun z => by cases z))
        · rw [if_neg (by omega)] at hK
          exact g2 p L rl2 h2 ad2 A2 _ _ _ (decide (p = n)) hT hP hB hp (by rw [decide_eq_true_eq]; exact ⟨fun z => ⟨by omega, z⟩, fun z => z.2⟩) (hK rl2 h2 ad2 A2 hT Ex.rf (fun _ => hP))
      · rw [if_pos (Or.inr z)] at hK
        refine y_call1 hT.1 (c_isVillageRead hT hp hP hB (by omega) (fun rl3 h3 ad3 A3 hT3 x3 hP3 => ?_))
        refine b_Z (fun w => ?_) (fun w => ?_)
        · rw [if_neg w] at hK
          exact ⟨Or.inl rfl, hK rl3 h3 ad3 A3 hT3 x3 (fun z => by cases z)⟩
        · rw [if_pos w] at hK
          obtain ⟨k1, k2, k3⟩ := h9.2 w
          have ih9 := ih _ _ rl3 h3 ad3 A3 (cb - 10) (sb - 52) (by omega) (by omega) hT3 (hP3 w) k1 (by rw [k2]; exact k3) (by omega) h9.1 (fun rl9 h9 ad9 A9 a1 a2 a3 => hK rl9 h9 ad9 A9 a1 (x3.trs a2) a3)
          rw [k2, nI_succ] at ih9
          exact ih9
  unfold parse at hK
  refine hG 0 _ _ _ _ _ ?_
  refine y_call1 hT.1 (c_code hT (by omega) ?_)
  refine b_cases (fun c => ?_) (fun c => ?_)
  · have c : cdI t n 0 = 118 := c
    rw [if_pos c] at hK
    have i1 := (cd_in (by decide) c).1
    refine y_get hT.1 (by decide) rfl ?_
    refine y_putI hT.1 (by decide) (Nat.le_of_ble_eq_true rfl) rfl (fun h3 e3 x3 => ?_)
    have hT := hT.go (p2 := 1) e3 x3
    have hP := PlH.mk9 hP x3 (by decide) lt2
    exact loop 4 1 L0 rl h3 ad A _ _ (by omega) (by omega) hT hP L0_ok (fun v hv => absurd hv (Nat.not_lt_zero v)) rfl (by omega) (fun rl9 h9 ad9 A9 a1 a2 a3 => hK rl9 h9 ad9 A9 a1 ((x3.mono t1).trs a2) a3)
  · have c : ¬ cdI t n 0 = 118 := c
    rw [if_neg c] at hK
    exact ⟨Or.inl rfl, hK rl h ad A hT Ex.rf (fun z => by cases z)⟩
end TEXT

