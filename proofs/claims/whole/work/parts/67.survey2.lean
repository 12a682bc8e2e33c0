/-! ===== what a survey answers ===== -/
section SV2
variable {l : Launch} {g : Gm} {rl rl1 : Nat → Nat} {h h1 : Hp} {K : PT} {β σ a s : Nat} {ad sd : Nat → Nat} {th vi pl : Int32} {L : Ld} {A B : Nat → Nat → Int32} {W : Nat → Int64} {Re : Nat → Int32} {nd : NT}
theorem c_surveyInit (e : Ob rl h s (σ + 110) (.inr (6, [.null, .null, .null, .null, .null, .null, .null, .int 0, .int 0]))) (hK : ∀ (rl1 : Nat → Nat) (h1 : Hp) (sd : Nat → Nat), SvB g rl1 h1 σ s sd 0 1 (fun _ _ => 0) (fun _ => 0) (fun _ => 0) → Ia g rl1 h1 (sd 1) (σ + 118) 4 (fun _ => 0) → Ex (XS σ) rl h rl1 h1 → K none h1) : Run l g d_X6_init [.ref s] h 7 6488 K := by
  have sx : ∀ k, 110 ≤ k → k < 120 → ∀ i, i = σ + k → XS σ i := fun k h1 h2 i z => ⟨by omega, by omega⟩
  have si : ∀ i, XS σ i → XS σ i := fun i z => z
  have s0 : ∀ i, X0 i → XS σ i := fun i z => z.elim
  refine vc_X6_init (fun G hG => ?_)
  refine hG 0 _ _ _ _ _ ?_
  refine y_newI (rl := rl) (σ + 111) 4 (fun rl1 h1 x0 n0 y1 => ?_)
  have e := e.ex y1 (fun z => z)
  refine y_putR e (by decide) (Nat.le_of_ble_eq_true rfl) rfl (fun h2 e y2 => ?_)
  have n0 := n0.ex y2 (by omega)
  have hx := (y1.mono s0).tr y2 si (sx 110 (by omega) (by omega))
  refine y_newI (rl := rl1) (σ + 118) 4 (fun rl3 h3 x1 n1 y3 => ?_)
  have e := e.ex y3 (fun z => z)
  have n0 := n0.ex y3 (fun z => z)
  refine y_putR e (by decide) (Nat.le_of_ble_eq_true rfl) rfl (fun h4 e y4 => ?_)
  have n0 := n0.ex y4 (by omega)
  have n1 := n1.ex y4 (by omega)
  have hx := (hx.tr y3 si s0).tr y4 si (sx 110 (by omega) (by omega))
  refine y_newJ (rl := rl3) (σ + 113) 1296 (fun rl5 h5 x3 n3 y5 => ?_)
  have e := e.ex y5 (fun z => z)
  have n0 := n0.ex y5 (fun z => z)
  have n1 := n1.ex y5 (fun z => z)
  refine y_putR e (by decide) (Nat.le_of_ble_eq_true rfl) rfl (fun h6 e y6 => ?_)
  have n0 := n0.ex y6 (by omega)
  have n1 := n1.ex y6 (by omega)
  have n3 := n3.ex y6 (by omega)
  have hx := (hx.tr y5 si s0).tr y6 si (sx 110 (by omega) (by omega))
  refine y_newI (rl := rl5) (σ + 114) 1296 (fun rl7 h7 x4 n4 y7 => ?_)
  have e := e.ex y7 (fun z => z)
  have n0 := n0.ex y7 (fun z => z)
  have n1 := n1.ex y7 (fun z => z)
  have n3 := n3.ex y7 (fun z => z)
  refine y_putR e (by decide) (Nat.le_of_ble_eq_true rfl) rfl (fun h8 e y8 => ?_)
  have n0 := n0.ex y8 (by omega)
  have n1 := n1.ex y8 (by omega)
  have n3 := n3.ex y8 (by omega)
  have n4 := n4.ex y8 (by omega)
  have hx := (hx.tr y7 si s0).tr y8 si (sx 110 (by omega) (by omega))
  refine y_newI (rl := rl7) (σ + 115) 1296 (fun rl9 h9 x5 n5 y9 => ?_)
  have e := e.ex y9 (fun z => z)
  have n0 := n0.ex y9 (fun z => z)
  have n1 := n1.ex y9 (fun z => z)
  have n3 := n3.ex y9 (fun z => z)
  have n4 := n4.ex y9 (fun z => z)
  refine y_putR e (by decide) (Nat.le_of_ble_eq_true rfl) rfl (fun h10 e y10 => ?_)
  have n0 := n0.ex y10 (by omega)
  have n1 := n1.ex y10 (by omega)
  have n3 := n3.ex y10 (by omega)
  have n4 := n4.ex y10 (by omega)
  have n5 := n5.ex y10 (by omega)
  have hx := (hx.tr y9 si s0).tr y10 si (sx 110 (by omega) (by omega))
  refine y_newI (rl := rl9) (σ + 116) 1296 (fun rl11 h11 x6 n6 y11 => ?_)
  have e := e.ex y11 (fun z => z)
  have n0 := n0.ex y11 (fun z => z)
  have n1 := n1.ex y11 (fun z => z)
  have n3 := n3.ex y11 (fun z => z)
  have n4 := n4.ex y11 (fun z => z)
  have n5 := n5.ex y11 (fun z => z)
  refine y_putR e (by decide) (Nat.le_of_ble_eq_true rfl) rfl (fun h12 e y12 => ?_)
  have n0 := n0.ex y12 (by omega)
  have n1 := n1.ex y12 (by omega)
  have n3 := n3.ex y12 (by omega)
  have n4 := n4.ex y12 (by omega)
  have n5 := n5.ex y12 (by omega)
  have n6 := n6.ex y12 (by omega)
  have hx := (hx.tr y11 si s0).tr y12 si (sx 110 (by omega) (by omega))
  refine y_newZ (rl := rl11) (σ + 117) 1296 (fun rl13 h13 x7 n7 y13 => ?_)
  have e := e.ex y13 (fun z => z)
  have n0 := n0.ex y13 (fun z => z)
  have n1 := n1.ex y13 (fun z => z)
  have n3 := n3.ex y13 (fun z => z)
  have n4 := n4.ex y13 (fun z => z)
  have n5 := n5.ex y13 (fun z => z)
  have n6 := n6.ex y13 (fun z => z)
  refine y_putR e (by decide) (Nat.le_of_ble_eq_true rfl) rfl (fun h14 e y14 => ?_)
  have n0 := n0.ex y14 (by omega)
  have n1 := n1.ex y14 (by omega)
  have n3 := n3.ex y14 (by omega)
  have n4 := n4.ex y14 (by omega)
  have n5 := n5.ex y14 (by omega)
  have n6 := n6.ex y14 (by omega)
  have n7 := n7.ex y14 (by omega)
  have hx := (hx.tr y13 si s0).tr y14 si (sx 110 (by omega) (by omega))
  refine y_putI e (by decide) (Nat.le_of_ble_eq_true rfl) rfl (fun h20 e y20 => ?_)
  have n0 := n0.ex y20 (by omega)
  have n1 := n1.ex y20 (by omega)
  have n3 := n3.ex y20 (by omega)
  have n4 := n4.ex y20 (by omega)
  have n5 := n5.ex y20 (by omega)
  have n6 := n6.ex y20 (by omega)
  have n7 := n7.ex y20 (by omega)
  refine hK rl13 h20 (fun i => if i = 0 then x0 else if i = 1 then x1 else if i = 3 then x3 else if i = 4 then x4 else if i = 5 then x5 else if i = 6 then x6 else x7) ⟨e, n0, n3, fun k hk => ?_, n7⟩ n1 (hx.tr y20 si (sx 110 (by omega) (by omega)))
  rcases hk with rfl | rfl | rfl
  · exact n4
  · exact n5
  · exact n6
abbrev Wt (L : Ld) (nd : NT) (p : Nat) : Nat := Wn L nd okT (pcut L p)
theorem c_cutsFrom {x : Int32} {v : Nat} (hV : SvH g rl h σ s sd L B W Re) (hM : SvM L nd B W (pls L)) (hL : LdOk L) (hv : v ≤ 99) (hK : K (some (.int (nI (cntB (fun p => decide (0 < Wt L nd p ∧ v ≤ sumC L (pcut L p))) (pls L))))) h) (ex : x = nI v := by rfl) : Run l g d_X6_cutsFrom [.ref s, .int x] h 0 0 K := by
  subst ex
  have b1 := hL.1
  have b2 : pls L ≤ 1296 := pls_le hL.b (Nat.le_refl (vn L))
  refine vc_X6_cutsFrom (fun G hG => ?_)
  have loop : ∀ j p, p + j = pls L → G 1 h 0 0 [some (.ref s), some (.int (nI v)), some (.int (nI (cntB (fun p => decide (0 < Wt L nd p ∧ v ≤ sumC L (pcut L p))) p))), some (.int (nI p))] [] := by
    intro j
    induction j with
    | zero =>
      intro p hp
      refine hG 1 _ _ _ _ _ ?_
      refine y_get hV.1 (by decide) rfl ?_
      refine b_ge p (pls L) (fun _ => ?_) (fun _ => by omega)
      rw [show p = pls L by omega]
      exact hK
    | succ j ih =>
      intro p hp
      obtain ⟨m1, m2⟩ := hM p (by omega)
      have bW : Wt L nd p < 2 ^ 63 := by have : Wt L nd p ≤ 95367431640625 := Wn_le b1; omega
      have bS := sumC_le hL (pl_cut (L := L) p)
      refine hG 1 _ _ _ _ _ ?_
      refine y_get hV.1 (by decide) rfl ?_
      refine b_ge p (pls L) (fun _ => by omega) (fun _ => ?_)
      refine y_get hV.1 (by decide) rfl ?_
      refine y_ja p hV.2.2.1 (by omega) m1 ?_
      have ih9 := ih (p + 1) (by omega)
      rw [nI_succ p, cntB_succ] at ih9
      refine b_cases (fun z => ?_) (fun z => ?_)
      · have z : Wt L nd p = 0 := (lcmpP bW).mp z
        rw [if_neg (by rw [decide_eq_true_eq]; omega)] at ih9
        exact ih9
      · have z : 0 < Wt L nd p := by
          rcases Nat.eq_zero_or_pos (Wt L nd p) with y | y
          · exact absurd ((lcmpP bW).mpr y) z
          · exact y
        refine y_get hV.1 (by decide) rfl ?_
        refine y_ia p hV.i4 (by omega) (m2 z).1 ?_
        refine pk_lt (sumC L (pcut L p)) v (fun w => ?_) (fun w => ?_)
        · rw [if_neg (by rw [decide_eq_true_eq]; omega)] at ih9
          exact ih9
        · rw [if_pos (by rw [decide_eq_true_eq]; exact ⟨z, w⟩), nI_succ] at ih9
          exact ih9
  refine hG 0 _ _ _ _ _ ?_
  exact loop (pls L) 0 (by omega)
theorem c_runsInAll (hV : SvH g rl h σ s sd L B W Re) (hM : SvM L nd B W (pls L)) (hL : LdOk L) (hK : K (some (.long (lN (Wn L nd okT (tn L))))) h) : Run l g d_X6_runsInAll [.ref s] h 0 0 K := by
  have b2 : pls L ≤ 1296 := pls_le hL.b (Nat.le_refl (vn L))
  have p0 : 0 < pls L := gst_pos (tn L) (vn L)
  refine vc_X6_runsInAll (fun G hG => ?_)
  refine hG 0 _ _ _ _ _ ?_
  refine y_get hV.1 (by decide) rfl ?_
  refine y_get hV.1 (by decide) rfl ?_
  refine y_ja (pls L - 1) hV.2.2.1 (by omega) (hM _ (by omega)).1 ?_ (pk_sub (b := 1) p0)
  rw [wn_congr okT_ext (fun v hv => pl_last hv)]
  exact hK
theorem c_fewestOf {x : Int32} {v : Nat} (hV : SvH g rl h σ s sd L B W Re) (hM : SvM L nd B W (pls L)) (hL : LdOk L) (hv : v ≤ 99) (hK : K (some (.int (oI (rmn (fun p => decide (0 < Wt L nd p ∧ sumC L (pcut L p) = v)) (fun p => cntC L (pcut L p)) (pls L))))) h) (ex : x = nI v := by rfl) : Run l g d_X6_fewestOf [.ref s, .int x] h 0 0 K := by
  subst ex
  have b1 := hL.1
  have b2 : pls L ≤ 1296 := pls_le hL.b (Nat.le_refl (vn L))
  refine vc_X6_fewestOf (fun G hG => ?_)
  have loop : ∀ j p, p + j = pls L → G 1 h 0 0 [some (.ref s), some (.int (nI v)), some (.int (oI (rmn (fun p => decide (0 < Wt L nd p ∧ sumC L (pcut L p) = v)) (fun p => cntC L (pcut L p)) p))), some (.int (nI p))] [] := by
    intro j
    induction j with
    | zero =>
      intro p hp
      refine hG 1 _ _ _ _ _ ?_
      refine y_get hV.1 (by decide) rfl ?_
      refine b_ge p (pls L) (fun _ => ?_) (fun _ => by omega)
      rw [show p = pls L by omega]
      exact hK
    | succ j ih =>
      intro p hp
      obtain ⟨m1, m2⟩ := hM p (by omega)
      have bW : Wt L nd p < 2 ^ 63 := by have : Wt L nd p ≤ 95367431640625 := Wn_le b1; omega
      have bS := sumC_le hL (pl_cut (L := L) p)
      have bC := cut20 hL (pl_cut (L := L) p)
      have ih9 := ih (p + 1) (by omega)
      rw [nI_succ p, rmn_s] at ih9
      have hsm := rmn_spec (fun p => decide (0 < Wt L nd p ∧ sumC L (pcut L p) = v)) (fun p => cntC L (pcut L p)) p
      generalize rmn (fun p => decide (0 < Wt L nd p ∧ sumC L (pcut L p) = v)) (fun p => cntC L (pcut L p)) p = o at ih9 hsm ⊢
      have g2 : (0 < Wt L nd p) → G 1 h 0 0 [some (.ref s), some (.int (nI v)), some (.int (nI (cntC L (pcut L p)))), some (.int (nI p + 1))] [] → G 2 h 0 0 [some (.ref s), some (.int (nI v)), some (.int (oI o)), some (.int (nI p))] [] := fun z hg => by
        refine hG 2 _ _ _ _ _ ?_
        refine y_get hV.1 (by decide) rfl ?_
        refine y_ia p hV.i5 (by omega) (m2 z).2.1 ?_
        exact hg
      refine hG 1 _ _ _ _ _ ?_
      refine y_get hV.1 (by decide) rfl ?_
      refine b_ge p (pls L) (fun _ => by omega) (fun _ => ?_)
      refine y_get hV.1 (by decide) rfl ?_
      refine y_ja p hV.2.2.1 (by omega) m1 ?_
      refine b_cases (fun z => ?_) (fun z => ?_)
      · have z : Wt L nd p = 0 := (lcmpP bW).mp z
        rw [if_neg (by rw [decide_eq_true_eq]; omega)] at ih9
        exact ih9
      · have z : 0 < Wt L nd p := by
          rcases Nat.eq_zero_or_pos (Wt L nd p) with y | y
          · exact absurd ((lcmpP bW).mpr y) z
          · exact y
        refine y_get hV.1 (by decide) rfl ?_
        refine y_ia p hV.i4 (by omega) (m2 z).1 ?_
        refine pk_eq (sumC L (pcut L p)) v (fun w => ?_) (fun w => ?_)
        · rw [if_pos (by rw [decide_eq_true_eq]; exact ⟨z, w⟩)] at ih9
          cases o with
          | none => exact b_yes rfl (g2 z ih9)
          | some y =>
            have by9 : y ≤ 20 := by
              rcases hsm with ⟨e, -⟩ | ⟨y', e, ⟨k, -, -, k3⟩, -⟩
              · cases e
              · cases e
                have := cut20 hL (pl_cut (L := L) k)
                omega
            dsimp only at ih9
            refine b_no (ne9 (show y < 2 ^ 31 by omega)) ?_
            refine y_get hV.1 (by decide) rfl ?_
            refine y_ia p hV.i5 (by omega) (m2 z).2.1 ?_
            refine b_ge (cntC L (pcut L p)) y (fun u => ?_) (fun u => ?_)
            · rw [if_neg (by omega)] at ih9
              exact ih9
            · rw [if_pos u] at ih9
              exact g2 z ih9
        · rw [if_neg (by rw [decide_eq_true_eq]; exact fun r => w r.2)] at ih9
          exact ih9
  refine hG 0 _ _ _ _ _ ?_
  exact loop (pls L) 0 (by omega)
/-- places and the reference's numbers -/
theorem pl_code (hL : LdOk L) (hN : Need L nd) (T : (Nat → Nat) → Prop) [DecidablePred T] (hT : ∀ c d : Nat → Nat, (∀ v, v < vn L → c v = d v) → (T c ↔ T d)) : (∀ i, i < pls L → decide (0 < Wt L nd i ∧ T (pcut L i)) = true → gnum (fun _ => 5) (pcut L i) (vn L) < 1296 ∧ decide (isC L nd (gnum (fun _ => 5) (pcut L i) (vn L)) ∧ T (dgc (gnum (fun _ => 5) (pcut L i) (vn L)))) = true ∧ gnum (tn L) (dgc (gnum (fun _ => 5) (pcut L i) (vn L))) (vn L) = i ∧ cntC L (dgc (gnum (fun _ => 5) (pcut L i) (vn L))) = cntC L (pcut L i)) ∧
    (∀ j, j < 1296 → decide (isC L nd j ∧ T (dgc j)) = true → gnum (tn L) (dgc j) (vn L) < pls L ∧ decide (0 < Wt L nd (gnum (tn L) (dgc j) (vn L)) ∧ T (pcut L (gnum (tn L) (dgc j) (vn L)))) = true ∧ gnum (fun _ => 5) (pcut L (gnum (tn L) (dgc j) (vn L))) (vn L) = j ∧ cntC L (pcut L (gnum (tn L) (dgc j) (vn L))) = cntC L (dgc j)) := by
  have b1 := hL.1
  have p6 : 6 ^ vn L ≤ 1296 := by
    have h2 : 6 ^ vn L ≤ 6 ^ 4 := Nat.pow_le_pow_right (by omega) b1
    have h3 : 6 ^ 4 = 1296 := by decide
    omega
  constructor
  · intro i hi hd
    have hd := of_decide_eq_true hd
    have h5 : ∀ v, v < vn L → pcut L i v ≤ (fun _ => 5) v := fun v hv => Nat.le_trans (gdig_le i v) (hL.2 v hv).2.2.1
    have e1 : ∀ v, v < vn L → dgc (gnum (fun _ => 5) (pcut L i) (vn L)) v = pcut L i v := fun v hv => by rw [dgc_g]; exact gdig_num h5 hv
    have lt := gnum_lt h5
    rw [gst6] at lt
    refine ⟨by omega, decide_eq_true ⟨⟨fun v hv => by rw [e1 v hv]; exact gdig_le i v, Nat.div_eq_of_lt lt, (cbe_cg e1).mpr ((wn_iff hL hN (pl_cut i)).mp hd.1)⟩, (hT _ _ e1).mpr hd.2⟩, ?_, cntC_congr e1⟩
    rw [gnum_congr e1]
    exact gnum_dig hi
  · intro j hj hd
    obtain ⟨⟨c1, c2, c3⟩, c4⟩ := of_decide_eq_true hd
    have lt : j < 6 ^ vn L := by
      rcases Nat.lt_or_ge j (6 ^ vn L) with q | q
      · exact q
      · have := Nat.div_pos q (Nat.pow_pos (n := vn L) (show 0 < 6 by omega)); omega
    have e1 : ∀ v, v < vn L → pcut L (gnum (tn L) (dgc j) (vn L)) v = dgc j v := fun v hv => gdig_num c1 hv
    refine ⟨gnum_lt c1, decide_eq_true ⟨(wn_iff hL hN (pl_cut _)).mpr ((cbe_cg e1).mpr c3), (hT _ _ e1).mpr c4⟩, ?_, cntC_congr e1⟩
    rw [gnum_congr e1, gnum_congr (c := dgc j) (d := gdig (fun _ => 5) j) (fun v _ => dgc_g j v)]
    exact gnum_dig (by rw [gst6]; exact lt)
theorem cuts_eq (hL : LdOk L) (hN : Need L nd) (v : Nat) : cntB (fun p => decide (0 < Wt L nd p ∧ v ≤ sumC L (pcut L p))) (pls L) = cntB (fun k => decide (isC L nd k ∧ v ≤ sumC L (dgc k))) 1296 := by
  have h9 := pl_code (nd := nd) hL hN (fun c => v ≤ sumC L c) (fun c d e => by rw [sumC_congr e])
  exact cntB_bij _ _ (fun i hi hp => ⟨(h9.1 i hi hp).1, (h9.1 i hi hp).2.1, (h9.1 i hi hp).2.2.1⟩) (fun j hj hq => ⟨(h9.2 j hj hq).1, (h9.2 j hj hq).2.1, (h9.2 j hj hq).2.2.1⟩)
theorem few_eq (hL : LdOk L) (hN : Need L nd) (v : Nat) : rmn (fun p => decide (0 < Wt L nd p ∧ sumC L (pcut L p) = v)) (fun p => cntC L (pcut L p)) (pls L) = leS L nd v 1296 := by
  have h9 := pl_code (nd := nd) hL hN (fun c => sumC L c = v) (fun c d e => by rw [sumC_congr e])
  rw [leS_rmn]
  exact rmn_bij _ _ (fun i hi hp => ⟨(h9.1 i hi hp).1, (h9.1 i hi hp).2.1, (h9.1 i hi hp).2.2.2⟩) (fun j hj hq => ⟨(h9.2 j hj hq).1, (h9.2 j hj hq).2.1, (h9.2 j hj hq).2.2.2⟩)
theorem cntB_congr {p q : Nat → Bool} : ∀ {n : Nat}, (∀ k, k < n → p k = q k) → cntB p n = cntB q n
  | 0, _ => rfl
  | n + 1, h => by rw [cntB_succ, cntB_succ, cntB_congr (n := n) (fun k hk => h k (by omega)), h n (by omega)]
end SV2

