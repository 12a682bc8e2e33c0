section MM10
variable {l : Launch} {g : Gm} {rl : Nat → Nat} {h : Hp} {K : PT} {m : Nat} {q : Nat → Nat} {I : Nat → Int32} {A : Nat → Nat → Int32} {Wy : Nat → Int64} {S : St} {L : Ld} {nd : Nat → Nat → Nat → Nat} {c : Nat → Nat}
theorem updF {F : Nat → Int32} {c : Nat → Nat} {n v x : Nat} {y : Int32} (hF : ∀ w, w < n → F w = nI (c w)) (hy : y = nI x) : ∀ w, w < n → upd F v y w = nI (updN c v x w) := fun w hw => by
  by_cases e : w = v
  · rw [e, pk_us, updN_s, hy]
  · rw [pk_un e, updN_n e]; exact hF w hw
theorem rem6 (a : Nat) (h : a < 2 ^ 31) : nI a - nI a / 6 * 6 = nI (a % 6) := pk_rem (d := 6) h (by omega) (by omega)
theorem div6 (a : Nat) (h : a < 2 ^ 31) : nI a / 6 = nI (a / 6) := pk_div (d := 6) h (by omega) (by omega)
theorem m_isCut {code : Nat} (hcode : code < 1296) (hM : ModH g rl h m q I A Wy) (hL : MLand I A L nd) (hK : ∀ (h1 : Hp) (F : Nat → Int32), ModH g rl h1 m q I (va_up A 21 F) Wy → MX rl h h1 → (isC L nd code → MCut (va_up A 21 F) L (dgc code)) → K (some (.int (bP (isC L nd code)))) h1) : Run l g d_X10_isCut [.ref m, .int (nI code)] h 0 0 K := by
  have h5 := hL.2.1
  have b1 := hL.1.1
  refine vc_X10_isCut (fun G hG => ?_)
  refine hG 0 _ _ _ _ _ ?_
  have loop : ∀ k v, v + k = vn L → (∀ w, w < v → dgc code w ≤ tn L w) → ∀ (h1 : Hp) (F : Nat → Int32), ModH g rl h1 m q I (va_up A 21 F) Wy → (∀ w, w < v → F w = nI (dgc code w)) → MX rl h h1 → G 1 h1 0 0 [some (.ref m), some (.int (nI code)), some (.int (nI (code / 6 ^ v))), some (.int (nI v))] [] := by
    intro k
    induction k with
    | zero =>
      intro v hv hd h1 F hM hF hx
      have hd : ∀ w, w < vn L → dgc code w ≤ tn L w := fun w hw => hd w (by omega)
      have hL2 : MLand I (va_up A 21 F) L nd := hL
      have hc2 : MCut (va_up A 21 F) L (dgc code) := ⟨hd, fun w hw => hF w (by omega)⟩
      have hle : code / 6 ^ v ≤ code := Nat.div_le_self _ _
      have ev : v = vn L := by omega
      refine hG 1 _ _ _ _ _ ?_
      refine y_get hM.1 (by decide) rfl ?_
      rw [h5]
      refine b_ge v (vn L) (fun _ => ?_) (fun _ => by omega)
      refine pk_eq (code / 6 ^ v) 0 (fun z => ?_) (fun z => ?_)
      · rw [ev] at z
        refine y_call1 hM.1 (m_canBe hM hL2 hc2 ?_)
        refine b_Z (fun y => ?_) (fun y => ?_)
        · exact z0 (fun r => y r.2.2) (hK h1 F hM hx (fun _ => hc2))
        · exact z1 ⟨hd, z, y⟩ (hK h1 F hM hx (fun _ => hc2))
      · rw [ev] at z
        exact z0 (fun r => z r.2.1) (hK h1 F hM hx (fun r => absurd r.2.1 z))
    | succ k ih =>
      intro v hv hd h1 F hM hF hx
      have hle : code / 6 ^ v ≤ code := Nat.div_le_self _ _
      have hvn : v < vn L := by omega
      have b2 := (hL.1.2 v hvn).2.2.1
      refine hG 1 _ _ _ _ _ ?_
      refine y_get hM.1 (by decide) rfl ?_
      rw [h5]
      refine b_ge v (vn L) (fun _ => by omega) (fun _ => ?_)
      refine y_get hM.1 (by decide) rfl ?_
      refine ⟨by decide, ?_⟩
      have ed : nI (code / 6 ^ v) - nI (code / 6 ^ v) / 6 * 6 = nI (dgc code v) := rem6 _ (by omega)
      refine y_is v hM.a21 (by omega) (fun h2 e2 x2 => ?_)
      have hM := hM.setA 21 e2 x2
      rw [up_up] at hM
      have hx := hx.trs (MX.of x2)
      refine ⟨by decide, ?_⟩
      have hF2 : ∀ w, w < v + 1 → upd F v (nI (code / 6 ^ v) - nI (code / 6 ^ v) / 6 * 6) w = nI (dgc code w) := fun w hw => by
        by_cases e : w = v
        · rw [e, pk_us]; exact ed
        · rw [pk_un e]; exact hF w (by omega)
      refine y_get hM.1 (by decide) rfl ?_
      refine y_ia v hM.a21 (by omega) (hF2 v (by omega)) ?_
      refine y_get hM.1 (by decide) rfl ?_
      refine y_ia (v) hM.a7 (by omega) ((hL.2.2 v hvn).2.1) ?_
      have hdl : dgc code v < 6 := Nat.mod_lt _ (by omega)
      refine pk_le (dgc code v) (tn L v) (fun y => ?_) (fun y => ?_)
      · have ih9 := ih (v + 1) (by omega) (lt_s hd y) h2 _ hM hF2 hx
        have e6 : nI (code / 6 ^ (v + 1)) = nI (code / 6 ^ v) / 6 := by rw [div6 _ (by omega), Nat.div_div_eq_div_mul, ← Nat.pow_succ]
        rw [nI_succ v, e6] at ih9
        exact ih9
      · exact z0 (fun r => by have := r.1 v hvn; omega) (hK h2 _ hM hx (fun r => by have := r.1 v hvn; omega))
  have l0 := loop (vn L) 0 (by omega) (fun w hw => by omega) h (A 21) (by rw [up_id]; exact hM) (fun w hw => by omega) Ex.rf
  rw [Nat.pow_zero, Nat.div_one] at l0
  exact l0
theorem mm_cuts (hR : ModR g rl h m S) (hK : ∀ h1, ModR g rl h1 m S → MX rl h h1 → K (some (.int (sp_cuts S))) h1) : Run l g d_X10_cuts [.ref m] h 0 0 K := by
  have hR0 := hR
  obtain ⟨hok, q, I, A, Wy, hM, hS⟩ := hR
  have hL := hS.2.2.2.1
  have b1 := hL.1.1
  unfold sp_cuts at hK
  refine vc_X10_cuts (fun G hG => ?_)
  refine hG 0 _ _ _ _ _ ?_
  refine y_get hM.1 (by decide) rfl ?_
  rw [hL.2.1]
  refine pk_eq (vn (sL S)) 0 (fun z => ?_) (fun z => ?_)
  · rw [if_pos z] at hK
    exact hK h hR0 Ex.rf
  rw [if_neg z] at hK
  have loop : ∀ k j, j + k = 1296 → ∀ (h1 : Hp) (F : Nat → Int32), ModH g rl h1 m q I (va_up A 21 F) Wy → MX rl h h1 → G 1 h1 0 0 [some (.ref m), some (.int (nI (cntB (fun k => decide (isC (sL S) (sN S) k)) j))), some (.int (nI j))] [] := by
    intro k
    induction k with
    | zero =>
      intro j hj h1 F hM hx
      refine hG 1 _ _ _ _ _ ?_
      refine b_ge j 1296 (fun _ => ?_) (fun _ => by omega)
      rw [show j = 1296 by omega]
      exact hK h1 ⟨hok, q, I, _, Wy, hM, hS⟩ hx
    | succ k ih =>
      intro j hj h1 F hM hx
      have hL2 : MLand I (va_up A 21 F) (sL S) (sN S) := hL
      refine hG 1 _ _ _ _ _ ?_
      refine b_ge j 1296 (fun _ => by omega) (fun _ => ?_)
      refine y_call1 hM.1 (m_isCut (by omega) hM hL2 (fun h2 F2 hM hx2 _ => ?_))
      rw [up_up] at hM
      have ih9 := ih (j + 1) (by omega) h2 F2 hM (hx.trs hx2)
      rw [nI_succ j, cntB_succ, ← nI_add] at ih9
      refine b_Z (fun y => ?_) (fun y => ?_)
      · rw [if_neg (by rw [decide_eq_true_eq]; exact y)] at ih9
        refine hG 2 _ _ _ _ _ ?_
        exact ih9
      · rw [if_pos (by rw [decide_eq_true_eq]; exact y)] at ih9
        refine hG 2 _ _ _ _ _ ?_
        exact ih9
  exact loop 1296 0 (by omega) h (A 21) (by rw [up_id]; exact hM) Ex.rf
theorem mm_some {v : Int32} (hR : ModR g rl h m S) (hK : ∀ h1, ModR g rl h1 m S → MX rl h h1 → K (some (.int (sp_some S v))) h1) : Run l g d_X10_some [.ref m, .int v] h 0 0 K := by
  have hR0 := hR
  obtain ⟨hok, q, I, A, Wy, hM, hS⟩ := hR
  have hL := hS.2.2.2.1
  have b1 := hL.1.1
  unfold sp_some at hK
  refine vc_X10_some (fun G hG => ?_)
  refine hG 0 _ _ _ _ _ ?_
  refine y_callS (m_within ?_)
  refine b_Z (fun y => ?_) (fun y => ?_)
  · rw [if_neg y] at hK
    exact hK h hR0 Ex.rf
  rw [if_pos y] at hK
  refine y_get hM.1 (by decide) rfl ?_
  rw [hL.2.1]
  refine pk_eq (vn (sL S)) 0 (fun z => ?_) (fun z => ?_)
  · rw [if_pos z] at hK
    exact hK h hR0 Ex.rf
  rw [if_neg z] at hK
  obtain ⟨v, hv, rfl⟩ := inR_of (n := 99) (by omega) y
  rw [ix_nI (by omega)] at hK
  have hle : ∀ j x, leS (sL S) (sN S) v j = some x → x ≤ 20 := by
    intro j
    induction j with
    | zero => intro x e; cases e
    | succ j ih =>
      intro x e
      unfold leS at e
      by_cases hc : isC (sL S) (sN S) j ∧ sumC (sL S) (dgc j) = v
      · rw [if_pos hc] at e
        have hcu := cnt_part hL.1 (k := vn (sL S)) (c := dgc j) hc.1.1 (Nat.le_refl _)
        have hcu : cntC (sL S) (dgc j) ≤ 20 := hcu
        cases hl : leS (sL S) (sN S) v j with
        | none => rw [hl] at e; cases e; exact hcu
        | some x2 =>
          rw [hl] at e
          have := ih x2 hl
          simp only at e
          split at e
          · cases e; exact hcu
          · cases e; exact this
      · rw [if_neg hc] at e
        exact ih x e
  have loop : ∀ k j, j + k = 1296 → ∀ (h1 : Hp) (F : Nat → Int32), ModH g rl h1 m q I (va_up A 21 F) Wy → MX rl h h1 → G 1 h1 0 0 [some (.ref m), some (.int (nI v)), some (.int (oI (leS (sL S) (sN S) v j))), some (.int (nI j))] [] := by
    intro k
    induction k with
    | zero =>
      intro j hj h1 F hM hx
      refine hG 1 _ _ _ _ _ ?_
      refine b_ge j 1296 (fun _ => ?_) (fun _ => by omega)
      rw [show j = 1296 by omega]
      exact hK h1 ⟨hok, q, I, _, Wy, hM, hS⟩ hx
    | succ k ih =>
      intro j hj h1 F hM hx
      have hL2 : MLand I (va_up A 21 F) (sL S) (sN S) := hL
      refine hG 1 _ _ _ _ _ ?_
      refine b_ge j 1296 (fun _ => by omega) (fun _ => ?_)
      refine y_call1 hM.1 (m_isCut (by omega) hM hL2 (fun h2 F2 hM hx2 hcut => ?_))
      rw [up_up] at hM hcut
      have hx := hx.trs hx2
      have hL3 : MLand I (va_up A 21 F2) (sL S) (sN S) := hL
      have ih9 := ih (j + 1) (by omega) h2 F2 hM hx
      rw [nI_succ j] at ih9
      unfold leS at ih9
      refine b_Z (fun c1 => ?_) (fun c1 => ?_)
      · rw [if_neg (fun r => c1 r.1)] at ih9
        exact ih9
      have hc3 := hcut c1
      have s9 := sumC_le hL.1 hc3.1
      have c9 : cntC (sL S) (dgc j) ≤ 20 := cnt_part hL.1 (k := vn (sL S)) (c := dgc j) hc3.1 (Nat.le_refl _)
      refine y_call1 hM.1 (m_sumOf hM hL3 hc3 ?_)
      refine pk_eq (sumC (sL S) (dgc j)) v (fun d => ?_) (fun d => ?_)
      rotate_left
      · rw [if_neg (fun r => d r.2)] at ih9
        exact ih9
      rw [if_pos ⟨c1, d⟩] at ih9
      have fin : ∀ o : Option Nat, G 1 h2 0 0 [some (.ref m), some (.int (nI v)), some (.int (nI (cntC (sL S) (dgc j)))), some (.int (nI j + 1))] [] → G 2 h2 0 0 [some (.ref m), some (.int (nI v)), some (.int (oI o)), some (.int (nI j))] [] := fun o hg => by
        refine hG 2 _ _ _ _ _ ?_
        refine y_call1 hM.1 (m_inCut hM hL3 hc3 ?_)
        exact hg
      cases hl : leS (sL S) (sN S) v j with
      | none =>
        rw [hl] at ih9
        refine b_yes rfl ?_
        exact fin none ih9
      | some x =>
        rw [hl] at ih9
        have hx20 := hle j x hl
        refine b_no (fun e => ?_) ?_
        · have h9 := congrArg Int32.toInt (show nI x = -9 from e)
          rw [nI_toInt (by omega)] at h9
          have : (-9 : Int32).toInt = -9 := by decide
          omega
        refine y_call1 hM.1 (m_inCut hM hL3 hc3 ?_)
        refine b_ge (cntC (sL S) (dgc j)) x (fun e => ?_) (fun e => ?_)
        · simp only [if_neg (Nat.not_lt.mpr e)] at ih9
          exact ih9
        · simp only [if_pos e] at ih9
          exact fin (some x) ih9
  exact loop 1296 0 (by omega) h (A 21) (by rw [up_id]; exact hM) Ex.rf
theorem mm_first {x : Int32} (hR : ModR g rl h m S) (hK : ∀ h1, ModR g rl h1 m S → MX rl h h1 → K (some (.int (sp_first S x))) h1) : Run l g d_X10_first [.ref m, .int x] h 0 0 K := by
  have hR0 := hR
  obtain ⟨hok, q, I, A, Wy, hM, hS⟩ := hR
  have hL := hS.2.2.2.1
  have b1 := hL.1.1
  unfold sp_first at hK
  have hN := hok.2.2.2.2.1.2.1
  refine vc_X10_first (fun G hG => ?_)
  refine hG 0 _ _ _ _ _ ?_
  refine y_callS (m_within ?_)
  refine b_Z (fun y => ?_) (fun y => ?_)
  · rw [if_neg y] at hK
    exact hK h hR0 Ex.rf
  rw [if_pos y] at hK
  refine y_get hM.1 (by decide) rfl ?_
  rw [hL.2.1]
  refine pk_eq (vn (sL S)) 0 (fun z => ?_) (fun z => ?_)
  · rw [if_pos z] at hK
    exact hK h hR0 Ex.rf
  rw [if_neg z] at hK
  have b20 : sm (tn (sL S)) (vn (sL S)) ≤ 20 := cnt_part hL.1 (c := tn (sL S)) (fun v _ => Nat.le_refl _) (Nat.le_refl _)
  refine b_cases (fun w => ?_) (fun w => ?_)
  · rw [if_pos w] at hK
    refine y_call1 hM.1 (m_allThings hM hL ?_)
    exact hK h hR0 Ex.rf
  rw [if_neg w] at hK
  have hpos : ¬ x < 0 := fun e => by
    apply w
    have h1 := Int32.le_iff_toInt_le.mp y.1
    have h2 := Int32.lt_iff_toInt_lt.mp e
    have e1 : (-1 : Int32).toInt = -1 := by decide
    have e0 : (0 : Int32).toInt = 0 := by decide
    exact Int32.toInt_inj.mp (by omega)
  obtain ⟨k, hk, rfl⟩ := inR_of (n := 19) (by omega) ⟨nlt.mp hpos, y.2⟩
  rw [ix_nI (by omega)] at hK
  refine y_call1 hM.1 (m_allThings hM hL ?_)
  refine pk_lt k (sm (tn (sL S)) (vn (sL S))) (fun d => ?_) (fun d => ?_)
  rotate_left
  · rw [if_neg (by omega)] at hK
    exact hK h hR0 Ex.rf
  rw [if_pos d] at hK
  -- n things have been run through
  have run : ∀ kk n, n + kk = k + 1 → ∀ (h1 : Hp) (F : Nat → Int32) (is : Int32), ModH g rl h1 m q I (va_up A 21 F) Wy → (∀ v, v < vn (sL S) → F v = nI (fcut (sL S) (sN S) n v)) → (n = k + 1 → is = nI (lv1 (sL S) (sN S) (fcut (sL S) (sN S) k))) → MX rl h h1 → G 2 h1 0 0 [some (.ref m), some (.int (nI k)), some (.int is), some (.int (nI n))] [] := by
    intro kk
    induction kk with
    | zero =>
      intro n hn h1 F is hM hF his hx
      refine hG 2 _ _ _ _ _ ?_
      refine b_gt n k (fun _ => ?_) (fun _ => by omega)
      rw [his (by omega)]
      exact hK h1 ⟨hok, q, I, _, Wy, hM, hS⟩ hx
    | succ kk ih =>
      intro n hn h1 F is hM hF his hx
      obtain ⟨f1, f2, f3⟩ := fcut_ok hL.1 hN n (by omega)
      obtain ⟨l1, l2, l3⟩ := lv1_spec (rdy_ex hL.1 hN f1 (by omega))
      have hL2 : MLand I (va_up A 21 F) (sL S) (sN S) := hL
      have hc2 : MCut (va_up A 21 F) (sL S) (fcut (sL S) (sN S) n) := ⟨f1, hF⟩
      refine hG 2 _ _ _ _ _ ?_
      refine b_gt n k (fun _ => by omega) (fun _ => ?_)
      have seek : ∀ j i, i + j = lv1 (sL S) (sN S) (fcut (sL S) (sN S) n) → G 3 h1 0 0 [some (.ref m), some (.int (nI k)), some (.int (nI i)), some (.int (nI n))] [] := by
        intro j
        induction j with
        | zero =>
          intro i hi
          have hi : i = lv1 (sL S) (sN S) (fcut (sL S) (sN S) n) := by omega
          subst hi
          have b4 := f1 _ l1
          have b5 := (hL.1.2 _ l1).2.2.1
          refine hG 3 _ _ _ _ _ ?_
          refine y_call1 hM.1 (m_isReady hM hL2 hc2 l1 ?_)
          refine b_Z (fun c1 => absurd l2 c1) (fun _ => ?_)
          refine y_get hM.1 (by decide) rfl ?_
          refine y_ia (lv1 (sL S) (sN S) (fcut (sL S) (sN S) n)) hM.a21 (by omega) (hF _ l1) ?_
          refine y_is (lv1 (sL S) (sN S) (fcut (sL S) (sN S) n)) hM.a21 (by omega) (fun h2 e2 x2 => ?_)
          have hM2 := hM.setA 21 e2 x2
          rw [up_up] at hM2
          have ih9 := ih (n + 1) (by omega) h2 _ (nI (lv1 (sL S) (sN S) (fcut (sL S) (sN S) n))) hM2 (updF hF (nI_1 _)) (fun e => by rw [show k = n by omega]) (hx.trs (MX.of x2))
          rw [nI_succ n] at ih9
          exact ih9 
        | succ j ih2 =>
          intro i hi
          refine hG 3 _ _ _ _ _ ?_
          refine y_call1 hM.1 (m_isReady hM hL2 hc2 (by omega) ?_)
          refine b_Z (fun c1 => ?_) (fun c1 => absurd c1 (l3 i (by omega)))
          have ih9 := ih2 (i + 1) (by omega)
          rw [nI_succ i] at ih9
          exact ih9 
      exact seek (lv1 (sL S) (sN S) (fcut (sL S) (sN S) n)) 0 (by omega)
  have clear : ∀ kk v, v + kk = vn (sL S) → ∀ (h1 : Hp) (F : Nat → Int32), ModH g rl h1 m q I (va_up A 21 F) Wy → (∀ w, w < v → F w = 0) → MX rl h h1 → G 1 h1 0 0 [some (.ref m), some (.int (nI k)), some (.int (nI v)), none] [] := by
    intro kk
    induction kk with
    | zero =>
      intro v hv h1 F hM hF hx
      refine hG 1 _ _ _ _ _ ?_
      refine y_get hM.1 (by decide) rfl ?_
      rw [hL.2.1]
      refine b_ge v (vn (sL S)) (fun _ => ?_) (fun _ => by omega)
      exact run (k + 1) 0 (by omega) h1 F 0 hM (fun w hw => hF w (by omega)) (fun e => by omega) hx
    | succ kk ih =>
      intro v hv h1 F hM hF hx
      refine hG 1 _ _ _ _ _ ?_
      refine y_get hM.1 (by decide) rfl ?_
      rw [hL.2.1]
      refine b_ge v (vn (sL S)) (fun _ => by omega) (fun _ => ?_)
      refine y_get hM.1 (by decide) rfl ?_
      refine y_is v hM.a21 (by omega) (fun h2 e2 x2 => ?_)
      have hM2 := hM.setA 21 e2 x2
      rw [up_up] at hM2
      refine (fun z => by rw [nI_succ v] at z; exact z) (ih (v + 1) (by omega) h2 _ hM2 (fun w hw => ?_) (hx.trs (MX.of x2)))
      by_cases e : w = v
      · rw [e]; exact pk_us
      · rw [pk_un e]; exact hF w (by omega)
  exact clear (vn (sL S)) 0 (by omega) h (A 21) (by rw [up_id]; exact hM) (fun w hw => by omega) Ex.rf
end MM10

