section MM9
variable {l : Launch} {g : Gm} {rl : Nat → Nat} {h : Hp} {K : PT} {m : Nat} {q : Nat → Nat} {I : Nat → Int32} {A : Nat → Nat → Int32} {Wy : Nat → Int64} {S : St} {L : Ld} {nd : Nat → Nat → Nat → Nat} {c : Nat → Nat}
/-- the cut after t acts is one of the land, if each can happen -/
theorem tcut_ok {a : Nat → Nat} (hc : CutOk L c) : ∀ t, (∀ k, k < t → Rdy L nd (tcut c a k) (a k)) → CutOk L (tcut c a t)
  | 0, _ => hc
  | t + 1, h => cut_up (nd := nd) (tcut_ok hc t (fun k hk => h k (by omega))) (h t (by omega))
theorem m_goTale {first n : Nat} {x : Int32} {a : Nat → Nat} (hM : ModH g rl h m q I A Wy) (hL : MLand I A L nd) (hD : ∀ v, v < vn L → A 11 v = nI (c v)) (hc : CutOk L c) (hf : first + n ≤ 240) (hn : n ≤ 20) (ha : ∀ k, k < n → a k < vn L ∧ A 4 (first + k) = nI (a k))
    (hK : ∀ (h1 : Hp) (F : Nat → Int32), (fst (fun k => decide (Rdy L nd (tcut c a k) (a k))) n < n → ModH g rl h1 m q (upd I 22 (I 22)) (va_up A 21 F) Wy → True) → ∀ gr : Int32, ModH g rl h1 m q (upd I 22 gr) (va_up A 21 F) Wy → MX rl h h1 → (fst (fun k => decide (Rdy L nd (tcut c a k) (a k))) n = n → gr = nI (tgr L c a n) ∧ CutOk L (tcut c a n) ∧ ∀ v, v < vn L → F v = nI (tcut c a n v)) → K (some (.int (if fst (fun k => decide (Rdy L nd (tcut c a k) (a k))) n < n then nI (fst (fun k => decide (Rdy L nd (tcut c a k) (a k))) n) else -9))) h1) (ex : x = nI first := by rfl) : Run l g d_X10_goTale [.ref m, .int x, .int (nI n)] h 0 0 K := by
  subst ex
  have b1 := hL.1.1
  refine vc_X10_goTale (fun G hG => ?_)
  refine hG 0 _ _ _ _ _ ?_
  refine y_call1 hM.1 (m_takeNow hM hL.2.1 b1 (fun h1 F hM hF hx => ?_))
  have hL2 : MLand I (va_up A 21 F) L nd := hL
  have hc2 : MCut (va_up A 21 F) L c := ⟨hc, fun v hv => (hF v hv).trans (hD v hv)⟩
  refine y_call1 hM.1 (m_sumOf hM hL2 hc2 ?_)
  refine y_putI hM.1 (by decide) (Nat.le_of_ble_eq_true rfl) rfl (fun h2 e2 x2 => ?_)
  have hM := hM.setI (I' := upd I 22 (nI (sumC L c))) e2 x2
  have hx := hx.trs (MX.of x2)
  have loop : ∀ kk t, t + kk = n → (∀ k, k < t → Rdy L nd (tcut c a k) (a k)) → ∀ (h2 : Hp) (F : Nat → Int32) (o : Option Value), ModH g rl h2 m q (upd I 22 (nI (tgr L c a t))) (va_up A 21 F) Wy → (∀ v, v < vn L → F v = nI (tcut c a t v)) → MX rl h h2 → G 1 h2 0 0 [some (.ref m), some (.int (nI first)), some (.int (nI n)), some (.int (nI t)), o] [] := by
    intro kk
    induction kk with
    | zero =>
      intro t ht hall h2 F o hM hF hx
      refine hG 1 _ _ _ _ _ ?_
      refine b_ge t n (fun _ => ?_) (fun _ => by omega)
      have e1 : fst (fun k => decide (Rdy L nd (tcut c a k) (a k))) n = n := fst_all (fun k hk => by rw [decide_eq_true_eq]; exact hall k (by omega))
      have hk9 := hK h2 F (fun _ _ => trivial) _ hM hx (fun _ => by rw [show n = t by omega]; exact ⟨rfl, tcut_ok hc t hall, hF⟩)
      rw [if_neg (by omega)] at hk9
      exact hk9
    | succ kk ih =>
      intro t ht hall h2 F o hM hF hx
      obtain ⟨a1, a2⟩ := ha t (by omega)
      have hct := tcut_ok hc t hall
      have hL3 : MLand (upd I 22 (nI (tgr L c a t))) (va_up A 21 F) L nd := hL
      have hc3 : MCut (va_up A 21 F) L (tcut c a t) := ⟨hct, hF⟩
      refine hG 1 _ _ _ _ _ ?_
      refine b_ge t n (fun _ => by omega) (fun _ => ?_)
      refine y_get hM.1 (by decide) rfl ?_
      refine y_ia (first + t) hM.a4 (by omega) (a2) ?_ (nI_add first t)
      refine y_call1 hM.1 (m_isReady hM hL3 hc3 a1 ?_)
      refine b_Z (fun z => ?_) (fun z => ?_)
      · have e1 : fst (fun k => decide (Rdy L nd (tcut c a k) (a k))) n = t := fst_no (fun k hk => by rw [decide_eq_true_eq]; exact hall k hk) (decide_eq_false z) (by omega)
        have hk9 := hK h2 F (fun _ _ => trivial) _ hM hx (fun e => by omega)
        rw [e1, if_pos (by omega)] at hk9
        exact hk9
      · have hall2 := lt_s hall z
        have hcu := tcut_ok hc (t + 1) hall2
        have b4 := hct (a t) a1
        have b5 := (hL.1.2 (a t) a1).2.2.1
        refine y_get hM.1 (by decide) rfl ?_
        refine y_ia (a t) hM.a21 (by omega) (hF (a t) a1) ?_
        refine y_is (a t) hM.a21 (by omega) (fun h3 e3 x3 => ?_)
        have hM := hM.setA 21 e3 x3
        rw [up_up] at hM
        have hx := hx.trs (MX.of x3)
        have hF4 : ∀ v, v < vn L → upd F (a t) (nI (tcut c a t (a t)) + 1) v = nI (tcut c a (t + 1) v) := fun v hv => by
          show _ = nI (updN (tcut c a t) (a t) (tcut c a t (a t) + 1) v)
          by_cases e : v = a t
          · rw [e, pk_us, updN_s, nI_1]
          · rw [pk_un e, updN_n e]; exact hF v hv
        have hL4 : MLand (upd I 22 (nI (tgr L c a t))) (va_up A 21 (upd F (a t) (nI (tcut c a t (a t)) + 1))) L nd := hL
        have hc4 : MCut (va_up A 21 (upd F (a t) (nI (tcut c a t (a t)) + 1))) L (tcut c a (t + 1)) := ⟨hcu, hF4⟩
        have s1 := sumC_le hL.1 hcu
        have s2 : tgr L c a t ≤ 72 := by
          clear hF4 hM hx hF hc3 hL3 ih hall2 hcu b4 a2 s1 hc4 hL4 e3 x3
          have : ∀ j, j ≤ t → tgr L c a j ≤ 72 := by
            intro j
            induction j with
            | zero => intro _; exact sumC_le hL.1 hc
            | succ j ihj =>
              intro hj
              have h1 := ihj (by omega)
              have h2 := sumC_le hL.1 (tcut_ok hc (j + 1) (fun k hk => hall k (by omega)))
              show max (tgr L c a j) (sumC L (tcut c a (j + 1))) ≤ 72
              omega
          exact this t (Nat.le_refl _)
        have fin : ∀ gr : Nat, gr = tgr L c a (t + 1) → G 2 h3 0 0 [some (.ref m), some (.int (nI first)), some (.int (nI n)), some (.int (nI t)), some (.int (nI (a t)))] [.int (nI gr), .ref m] := fun gr hgr => by
          refine hG 2 _ _ _ _ _ ?_
          refine y_putI hM.1 (by decide) (Nat.le_of_ble_eq_true rfl) rfl (fun h4 e4 x4 => ?_)
          have hM4 := hM.setI (I' := upd I 22 (nI (tgr L c a (t + 1)))) (by rw [← hgr]; exact e4) x4
          have ih9 := ih (t + 1) (by omega) hall2 h4 _ (some (.int (nI (a t)))) hM4 hF4 (hx.trs (MX.of x4))
          rw [nI_succ t] at ih9
          exact ih9 
        refine y_call1 hM.1 (m_sumOf hM hL4 hc4 ?_)
        refine y_get hM.1 (by decide) rfl ?_
        rw [show upd I 22 (nI (tgr L c a t)) 22 = nI (tgr L c a t) from rfl]
        refine pk_le (sumC L (tcut c a (t + 1))) (tgr L c a t) (fun y => ?_) (fun y => ?_)
        · refine y_get hM.1 (by decide) rfl ?_
          exact fin (tgr L c a t) (by show _ = max (tgr L c a t) (sumC L (tcut c a (t + 1))); omega)
        · refine y_call1 hM.1 (m_sumOf hM hL4 hc4 ?_)
          exact fin (sumC L (tcut c a (t + 1))) (by show _ = max (tgr L c a t) (sumC L (tcut c a (t + 1))); omega)
  exact loop n 0 (by omega) (fun k hk => by omega) h2 F none hM hc2.2 hx
theorem mm_tale {sh lane i n w : Int32} (hR : ModR g rl h m S) (hK : ∀ h1, ModR g rl h1 m (st_tale S sh lane i n w) → MX rl h h1 → K (some (.int (sp_tale S sh lane i n w))) h1) : Run l g d_X10_tale [.ref m, .int sh, .int lane, .int i, .int n, .int w] h 0 0 K := by
  obtain ⟨hok, q, I, A, Wy, hM, hS⟩ := hR
  have hL := hS.2.2.2.1
  have b1 := hL.1.1
  unfold sp_tale st_tale at hK
  generalize ht : tlr S sh lane i n w = tk at hK
  unfold tlr at ht
  refine vc_X10_tale (fun G hG => ?_)
  refine hG 0 _ _ _ _ _ ?_
  refine y_putI hM.1 (by decide) (Nat.le_of_ble_eq_true rfl) rfl (fun h1 e1 x1 => ?_)
  have hM := hM.setI (I' := upd I 0 0) e1 x1
  have hS1 := hS.fa 0
  have hx := MX.of x1
  have off : ∀ r : Int32, tk = (r, 0) → K (some (.int r)) h1 := fun r e => by
    subst e
    exact hK h1 ⟨hok, q, _, A, Wy, hM, hS1⟩ hx
  refine y_callS (m_isSheet ?_)
  refine b_Z (fun y => ?_) (fun y => ?_)
  · rw [if_neg y] at ht
    exact off (-1) ht.symm
  rw [if_pos y] at ht
  refine y_callS (m_isSort ?_)
  refine b_Z (fun x => ?_) (fun x => ?_)
  · rw [if_neg (fun r => x r.1)] at ht
    exact off (-2) ht.symm
  refine y_callS (m_within ?_)
  refine b_Z (fun x2 => ?_) (fun x2 => ?_)
  · rw [if_neg (fun r => x2 r.2.1)] at ht
    exact off (-2) ht.symm
  obtain ⟨k, hk, rfl⟩ := sh_of y
  obtain ⟨n, hn, rfl⟩ := inR_of (n := 20) (by omega) x2
  rw [ix_nI (by omega), ix_nI (by omega)] at ht
  have b6 : sLe S k ≤ 60 := (hok.1 k hk).2
  have g1 : Ask w → G 1 h1 0 0 [some (.ref m), some (.int (nI k)), some (.int lane), some (.int i), some (.int (nI n)), some (.int w), none, none, none] [] := fun hw => by
    rw [if_pos ⟨x, x2, hw⟩] at ht
    refine hG 1 _ _ _ _ _ ?_
    refine y_call1 hM.1 (m_against hM hS1 hk ?_)
    refine b_cases (fun a => ?_) (fun a => ?_)
    rotate_left
    · have a : ¬ agst (sSo S k) (sLe S k) lane i (nI n) = 0 := a
      rw [if_neg a] at ht
      refine y_call1 hM.1 (m_fails hM (fun h2 hM2 hx2 => ?_))
      subst ht
      exact hK h2 ⟨hok, q, _, A, Wy, hM2, hS1.fa _⟩ (hx.trs hx2)
    have a : agst (sSo S k) (sLe S k) lane i (nI n) = 0 := a
    rw [if_pos a] at ht
    obtain ⟨j, rfl, hj, -, -⟩ := agst_0 b6 (by omega) a
    rw [ix_nI (by omega)] at ht
    refine y_get hM.1 (by decide) rfl ?_
    rw [show upd I 0 0 5 = nI (vn (sL S)) from hL.2.1]
    refine pk_eq (vn (sL S)) 0 (fun z => ?_) (fun z => ?_)
    · rw [if_pos z] at ht
      exact off (-3) ht.symm
    rw [if_neg z] at ht
    have hcell : ∀ v, v < n → A 4 (60 * k + j + v) = sCe S k (j + v) := fun v hv => by
      have := (hS.1 k hk).2.2 (j + v) (by omega)
      rw [← this, Nat.add_assoc]
    have loop : ∀ kk t, t + kk = n → (∀ k2, k2 < t → IsV (sCe S k (j + k2)) (vn (sL S))) → G 2 h1 0 0 [some (.ref m), some (.int (nI k)), some (.int lane), some (.int (nI j)), some (.int (nI n)), some (.int w), some (.int (agst (sSo S k) (sLe S k) lane (nI j) (nI n))), some (.int (nI (60 * k + j))), some (.int (nI t))] [] := by
      intro kk
      induction kk with
      | zero =>
        intro t ht2 hall
        have hall : ∀ k2, k2 < n → IsV (sCe S k (j + k2)) (vn (sL S)) := fun k2 h2 => hall k2 (by omega)
        rw [if_pos hall] at ht
        refine hG 2 _ _ _ _ _ ?_
        refine b_ge t n (fun _ => ?_) (fun _ => by omega)
        have ea : tact S (nI k) (nI j) = fun k2 => ix (sCe S k (j + k2)) := by
          unfold tact
          rw [ix_nI (by omega), ix_nI (by omega)]
        rw [ea] at ht
        have ha : ∀ k2, k2 < n → ix (sCe S k (j + k2)) < vn (sL S) ∧ A 4 (60 * k + j + k2) = nI (ix (sCe S k (j + k2))) := fun k2 h2 => by
          obtain ⟨v, hv, e⟩ := isV_of (hall k2 h2) (by omega)
          rw [hcell k2 h2, e, ix_nI (by omega)]
          exact ⟨hv, rfl⟩
        have hL1 : MLand (upd I 0 0) A (sL S) (sN S) := hL
        subst ht
        refine y_call1 hM.1 (m_goTale hM hL1 hS.2.2.2.2.1 hok.2.2.2.1 (by omega) hn ha (fun h2 F _ gr hM hx2 hfin => ?_))
        have hx := hx.trs hx2
        have hSf : MSt (upd (upd I 0 0) 22 gr) (va_up A 21 F) (setFa S 0) := hS1
        have hK := hK h2 ⟨hok, q, _, _, Wy, hM, hSf⟩ hx
        unfold rtale twr at hK
        generalize hfr : fst (fun k2 => decide (Rdy (sL S) (sN S) (tcut (sD S) (fun k2 => ix (sCe S k (j + k2))) k2) ((fun k2 => ix (sCe S k (j + k2))) k2))) n = fr at hK hfin ⊢
        have hfle : fr ≤ n := by rw [← hfr]; exact fst_le _ _
        refine b_cases (fun d => ?_) (fun d => ?_)
        · rw [if_pos d] at hK
          exact hK
        rw [if_neg d] at hK
        by_cases c1 : fr < n
        · rw [if_pos c1]
          rw [if_pos c1] at hK
          refine b_no (fun e => ?_) ?_
          · have h9 := congrArg Int32.toInt e
            rw [nI_toInt (by omega)] at h9
            have : (-9 : Int32).toInt = -9 := by decide
            omega
          · exact hK
        rw [if_neg c1]
        rw [if_neg c1] at hK
        obtain ⟨e1, e2, e3⟩ := hfin (by omega)
        refine b_yes rfl ?_
        have hL2 : MLand (upd (upd I 0 0) 22 gr) (va_up A 21 F) (sL S) (sN S) := hL
        have hc2 : MCut (va_up A 21 F) (sL S) (tcut (sD S) (fun k2 => ix (sCe S k (j + k2))) n) := ⟨e2, e3⟩
        refine y_call1 hM.1 (vc_X10_tellTale (mc := 0) (ms := 0) (fun G hG => ?_))
        refine hG 0 _ _ _ _ _ ?_
        refine b_cases (fun p => ?_) (fun p => ?_)
        · refine b_cases (fun p1 => ?_) (fun p1 => ?_)
          · rw [if_pos p1] at hK
            refine y_call1 hM.1 (m_sumOf hM hL2 hc2 ?_)
            exact hK
          rw [if_neg p1] at hK
          refine b_cases (fun p2 => ?_) (fun p2 => ?_)
          · rw [if_pos p2] at hK
            refine y_call1 hM.1 (m_underWay hM hL2 hc2 ?_)
            exact hK
          rw [if_neg p2] at hK
          have p3 : w = 3 := by
            rcases hw with hw | hw
            · obtain ⟨j9, hj9, rfl⟩ := inR_of (n := 3) (by omega) hw
              have : j9 = 0 ∨ j9 = 1 ∨ j9 = 2 ∨ j9 = 3 := by omega
              rcases this with rfl | rfl | rfl | rfl
              · exact absurd rfl p1
              · exact absurd rfl d
              · exact absurd rfl p2
              · rfl
            · exact absurd hw.1 (nle.mpr p)
          rw [if_pos p3] at hK
          refine y_get hM.1 (by decide) rfl ?_
          rw [show upd (upd I 0 0) 22 gr 22 = gr from rfl, e1]
          exact hK
        · have p0 : ¬ w = 0 := fun e => p (by rw [e]; decide)
          have p2 : ¬ w = 2 := fun e => p (by rw [e]; decide)
          have p3 : ¬ w = 3 := fun e => p (by rw [e]; decide)
          rw [if_neg p0, if_neg p2, if_neg p3] at hK
          refine y_call1 hM.1 (m_isVillage hM hL.2.1 ?_)
          refine b_Z (fun p4 => ?_) (fun p4 => ?_)
          · have p4 : ¬ IsV (w - 10) (vn (sL S)) := p4
            rw [if_neg p4] at hK
            exact hK
          have p4 : IsV (w - 10) (vn (sL S)) := p4
          rw [if_pos p4] at hK
          obtain ⟨u, hu, eu⟩ := isV_of p4 (by omega)
          rw [eu, ix_nI (by omega)] at hK
          refine y_get hM.1 (by decide) rfl ?_
          refine y_ia u hM.a21 (by omega) (e3 u hu) ?_ eu
          exact hK
      | succ kk ih =>
        intro t ht2 hall
        refine hG 2 _ _ _ _ _ ?_
        refine b_ge t n (fun _ => by omega) (fun _ => ?_)
        refine y_get hM.1 (by decide) rfl ?_
        refine y_ia (60 * k + j + t) hM.a4 (by omega) (hcell t (by omega)) ?_ (nI_add (60 * k + j) t)
        refine y_call1 hM.1 (m_isVillage hM hL.2.1 ?_)
        refine b_Z (fun p => ?_) (fun p => ?_)
        · rw [if_neg (fun r => p (r t (by omega)))] at ht
          exact off (-1) ht.symm
        · have ih9 := ih (t + 1) (by omega) (lt_s hall p)
          rw [nI_succ t] at ih9
          exact ih9 
    have l0 := loop n 0 (by omega) (fun k2 h2 => by omega)
    rw [← show (60 : Int32) * nI k + nI j = nI (60 * k + j) from ix60 k j] at l0
    exact l0
  refine y_callS (m_within ?_)
  refine b_Z (fun a => ?_) (fun a => ?_)
  · refine y_callS (m_within ?_)
    refine b_Z (fun b => ?_) (fun b => ?_)
    · rw [if_neg (fun r => r.2.2.elim a b)] at ht
      exact off (-2) ht.symm
    · exact g1 (Or.inr b)
  · exact g1 (Or.inl a)
end MM9

