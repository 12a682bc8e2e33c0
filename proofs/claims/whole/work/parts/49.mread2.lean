section MREAD2
variable {l : Launch} {g : Gm} {rl : Nat → Nat} {h : Hp} {K : PT} {m : Nat} {q : Nat → Nat} {I : Nat → Int32} {A : Nat → Nat → Int32} {Wy : Nat → Int64} {t : Nat → Int32} {n first : Nat} {L : Ld}
theorem wof_105 {x : Int32} (hx : wof x ≠ 9) : (x = 105 ∧ wof x = 0) ∨ (¬ x = 105 ∧ x = 115 ∧ wof x = 1) ∨ (¬ x = 105 ∧ ¬ x = 115 ∧ wof x = 2) := by
  unfold wof at hx ⊢
  by_cases a : x = 105
  · exact Or.inl ⟨a, if_pos a⟩
  · rw [if_neg a] at hx ⊢
    by_cases b : x = 115
    · exact Or.inr (Or.inl ⟨a, b, if_pos b⟩)
    · rw [if_neg b] at hx ⊢
      by_cases c : x = 103
      · exact Or.inr (Or.inr ⟨a, b, if_pos c⟩)
      · rw [if_neg c] at hx; exact absurd rfl hx
theorem m_readThing {p : Nat} {x : Int32} (hM : ModH g rl h m q I A Wy) (h12 : I 12 = nI (first + p)) (h13 : I 13 = nI (vn L - 1)) (hc : ∀ k, k < n → A 4 (first + k) = t k) (hb : first + n ≤ 240) (hw : wof (cdI t n p) ≠ 9) (hB : LdB L) (h0 : 0 < vn L) (ht : tn L (vn L - 1) < 5) (hR : RdL A L)
    (hK : ∀ (h1 : Hp) (I1 : Nat → Int32) (A1 : Nat → Nat → Int32), ModH g rl h1 m q I1 A1 Wy → MX rl h h1 → RdF I A I1 A1 → I1 13 = I 13 → I1 12 = nI (first + (if dgo (cdI t n (p + 1)) (wof (cdI t n p)) then p + 2 else p + 1)) → (dgo (cdI t n (p + 1)) (wof (cdI t n p)) → RdL A1 (addT L (wof (cdI t n p)) (dgv (cdI t n (p + 1))))) → K (some (.int (bP (dgo (cdI t n (p + 1)) (wof (cdI t n p)))))) h1) (ex : x = nI (first + n) := by rfl) : Run l g d_X10_readThing [.ref m, .int x] h 0 0 K := by
  subst ex
  obtain ⟨hp, ec⟩ := wof_in hw
  have b4 := hB.1
  generalize hv : vn L - 1 = v at *
  have hv4 : v < 4 := by omega
  have hvL : v < vn L := by omega
  generalize htt : tn L v = tt at *
  have h15 : A 15 v = nI tt := by rw [← htt]; exact (hR v hvL).2.1
  refine vc_X10_readThing (fun G hG => ?_)
  refine hG 0 _ _ _ _ _ ?_
  refine y_get hM.1 (by decide) rfl ?_
  refine y_get hM.1 (by decide) rfl ?_
  rw [h12]
  refine y_ia (first + p) hM.a4 (by omega) (hc p hp) ?_
  refine y_get hM.1 (by decide) rfl ?_
  rw [h12]
  refine y_putI hM.1 (by decide) (Nat.le_of_ble_eq_true rfl) rfl (fun h1 e1 x1 => ?_)
  have hM0 := hM
  have hM := hM.setI (I' := upd I 12 (nI (first + p + 1))) (by rw [nI_succ]; exact e1) x1
  refine y_get hM.1 (by decide) rfl ?_
  refine y_get hM.1 (by decide) rfl ?_
  refine y_get hM.1 (by decide) rfl ?_
  rw [show upd I 12 (nI (first + p + 1)) 13 = nI v from h13]
  refine y_ia (v) hM.a15 (by omega) (h15) ?_
  refine y_get hM.1 (by decide) rfl ?_
  have g2 : ∀ (h2 : Hp) (A2 : Nat → Nat → Int32), ModH g rl h2 m q (upd I 12 (nI (first + p + 1))) A2 Wy → MX rl h h2 → A2 = va_up A 16 (upd (A 16) (5 * v + tt) (nI (wof (cdI t n p)))) → ∀ y9 : Int32, y9 = nI (mdg (wof (cdI t n p))) → G 2 h2 0 0 [some (.ref m), some (.int (nI (first + n))), some (.int (t p)), some (.int (nI (5 * v + tt)))] [.int y9, .int (nI (first + n)), .ref m, .int (nI (5 * v + tt)), .ref (q 17)] := by
    intro h2 A2 hM x2 eA y9 ey
    have e4 : A2 4 = A 4 := by rw [eA]; rfl
    refine hG 2 _ _ _ _ _ ?_
    refine y_call1 hM.1 (m_digit (t := t) (p := p + 1) hM rfl (fun k hk => by rw [e4]; exact hc k hk) hb (by omega) (fun h3 I3 hM x3 f3 i3 e3 => ?_) rfl ey)
    have h13 : I3 13 = nI v := i3.trans h13
    have e15 : A2 15 = A 15 := by rw [eA]; rfl
    refine y_is (5 * v + tt) hM.a17 (by omega) (fun h4 e4 x4 => ?_)
    have hM := hM.setA 17 e4 x4
    refine y_get hM.1 (by decide) rfl ?_
    refine y_get hM.1 (by decide) rfl ?_
    rw [h13]
    refine y_ia (v) hM.a15 (by omega) ((congrFun e15 v).trans h15) ?_
    refine y_is v hM.a15 (by omega) (fun h5 e5 x5 => ?_)
    have hM := hM.setA 15 e5 x5
    refine y_get hM.1 (by decide) rfl ?_
    refine y_ia (5 * v + tt) hM.a17 (by omega) (pk_us ..) ?_
    have xx : MX rl h h5 := ((x2.trs x3).trs (MX.of x4)).trs (MX.of x5)
    have hF : RdF I A I3 (va_up (va_up A2 17 (upd (A2 17) (5 * v + tt) (if dgo (cdI t n (p + 1)) (wof (cdI t n p)) then nI (dgv (cdI t n (p + 1))) else -9))) 15 (upd (A2 15) v (nI tt + 1))) := by
      rw [eA]
      exact (RdF.i (k := 12) (Or.inl rfl)).tr (RdF.tr (RdF.tr (RdF.tr (RdF.a (k := 16) (by omega)) ⟨f3.1, fun _ _ => rfl⟩) (RdF.a (k := 17) (by omega))) (RdF.a (k := 15) (by omega)))
    by_cases d : dgo (cdI t n (p + 1)) (wof (cdI t n p))
    · have hk9 := hK h5 I3 _ hM xx hF i3 (by rw [if_pos d] at e3 ⊢; exact e3) (fun _ => ?_)
      · rw [if_pos d]
        refine b_no (fun e => ?_) ⟨Or.inr rfl, ?_⟩
        · have b9 := (dgv_of d).2
          have b8 := mdg_le (wof (cdI t n p))
          exact absurd (e ▸ nI_pos' (show dgv (cdI t n (p + 1)) < 2 ^ 31 by omega)) (by decide)
        · rw [bP_1 d] at hk9
          exact hk9
      · refine RdL.addT hR h0 b4 (by rw [hv, htt]; exact ht) (by rw [eA]; rfl) (fun u hu => ?_) (fun k hk => ?_) (fun k hk => ?_) (fun u hu => (hB.2 u hu).2.1)
        · rw [hv, htt]
          show upd (A2 15) v (nI tt + 1) u = _
          rw [e15, nI_succ]
          rfl
        · rw [hv, htt, eA]
          rfl
        · rw [hv, htt, eA]
          show upd (A 17) _ _ k = _
          rw [if_pos d]
          rfl
    · have hk9 := hK h5 I3 _ hM xx hF i3 (by rw [if_neg d] at e3 ⊢; exact e3) (fun d2 => absurd d2 d)
      rw [if_neg d]
      rw [bP_0 d] at hk9
      exact b_yes rfl ⟨Or.inl rfl, hk9⟩
  have g1 : ∀ y9 z9 : Int32, y9 = nI (wof (cdI t n p)) → z9 = nI (5 * v + tt) → G 1 h1 0 0 [some (.ref m), some (.int (nI (first + n))), some (.int (t p)), some (.int z9)] [.int y9, .int z9, .ref (q 16)] := by
    intro y9 z9 ey ez
    subst ey ez
    refine hG 1 _ _ _ _ _ ?_
    refine y_is (5 * v + tt) hM.a16 (by omega) (fun h2 e2 x2 => ?_)
    have hM := hM.setA 16 e2 x2
    refine y_get hM.1 (by decide) rfl ?_
    have hg := g2 h2 _ hM ((MX.of x1).trs (MX.of x2)) rfl
    rw [ec] at hg hw
    refine b_cases (fun a => ?_) (fun a => ?_)
    · refine hg _ ?_
      rcases wof_105 hw with ⟨c1, c2⟩ | ⟨c1, -⟩ | ⟨c1, -⟩
      · rw [c2]; rfl
      · exact absurd a c1
      · exact absurd a c1
    · refine hg _ ?_
      rcases wof_105 hw with ⟨c1, c2⟩ | ⟨c1, -, c2⟩ | ⟨c1, -, c2⟩
      · exact absurd c1 a
      · rw [c2]; rfl
      · rw [c2]; rfl
  rw [ec] at g1 hw
  refine b_cases (fun a => ?_) (fun a => ?_)
  · refine g1 _ _ ?_ (ix5 v tt)
    rcases wof_105 hw with ⟨c1, c2⟩ | ⟨c1, -⟩ | ⟨c1, -⟩
    · rw [c2]; rfl
    · exact absurd a c1
    · exact absurd a c1
  · refine b_cases (fun b => ?_) (fun b => ?_)
    · refine g1 _ _ ?_ (ix5 v tt)
      rcases wof_105 hw with ⟨c1, c2⟩ | ⟨c1, -, c2⟩ | ⟨c1, c3, c2⟩
      · exact absurd c1 a
      · rw [c2]; rfl
      · exact absurd b c3
    · refine g1 _ _ ?_ (ix5 v tt)
      rcases wof_105 hw with ⟨c1, c2⟩ | ⟨c1, c3, c2⟩ | ⟨c1, -, c2⟩
      · exact absurd c1 a
      · exact absurd c3 b
      · rw [c2]; rfl
end MREAD2

