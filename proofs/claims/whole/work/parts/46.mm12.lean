section MM12
variable {l : Launch} {g : Gm} {rl : Nat → Nat} {h : Hp} {K : PT} {m : Nat} {q : Nat → Nat} {I : Nat → Int32} {A : Nat → Nat → Int32} {Wy : Nat → Int64} {S : St} {L : Ld} {nd : Nat → Nat → Nat → Nat} {c : Nat → Nat}
theorem cbe_congr {c d : Nat → Nat} (h : ∀ v, v < vn L → c v = d v) (hc : Cbe L nd c) : Cbe L nd d := fun v hv u hu h0 => by
  rw [← h v hv, ← h u hu]
  exact hc v hv u hu (by rw [h v hv]; exact h0)
theorem Wm_last {ok : (Nat → Nat) → Bool} (hok : okExt L ok) (hL : LdOk L) : Wm L nd ok (lch L (vn L)) = Wn L nd ok (tn L) := by
  obtain ⟨h1, h2, h3, -⟩ := lch_ok hL
  have ec : Wn L nd ok (dgc (lch L (vn L))) = Wn L nd ok (tn L) := Wf_congr hok 20 _ _ h2
  unfold Wm
  by_cases hc : isC L nd (lch L (vn L))
  · rw [if_pos hc, ec]
  · rw [if_neg hc, ← ec]
    have hn : ¬ Cbe L nd (dgc (lch L (vn L))) := fun z => hc ⟨fun v hv => by rw [h2 v hv]; exact Nat.le_refl _, h3, z⟩
    unfold Wn Wf
    rw [if_neg (fun z => hn z.1)]
theorem okN_ext (v : Nat) : okExt L (okN L v) := fun c d hcd => by
  unfold okN sumC
  rw [sm_congr (f := fun v => wor (kd L v) (val L v (c v))) (k := fun v => wor (kd L v) (val L v (d v))) (vn L) (fun w hw => by rw [hcd w hw])]
theorem mm_runs (hR : ModR g rl h m S) (hK : ∀ h1, ModR g rl h1 m S → MX rl h h1 → K (some (.long (sp_runs S))) h1) : Run l g d_X10_runs [.ref m] h 0 0 K := by
  have hR0 := hR
  obtain ⟨hok, q, I, A, Wy, hM, hS⟩ := hR
  have hL := hS.2.2.2.1
  have b1 := hL.1.1
  unfold sp_runs at hK
  refine vc_X10_runs (fun G hG => ?_)
  refine hG 0 _ _ _ _ _ ?_
  refine y_get hM.1 (by decide) rfl ?_
  rw [hL.2.1]
  refine pk_eq (vn (sL S)) 0 (fun z => ?_) (fun z => ?_)
  · rw [if_pos z] at hK
    exact hK h hR0 Ex.rf
  rw [if_neg z] at hK
  have lb := (lch_ok hL.1).1
  refine y_call1 hM.1 (m_findWays (ok := fun _ => true) (fun _ _ _ => rfl) (Or.inl ⟨rfl, fun _ => rfl⟩) hM hL (fun h1 F E hM hx hE => ?_))
  have hL2 : MLand I (va_up A 21 F) (sL S) (sN S) := hL
  refine y_get hM.1 (by decide) rfl ?_
  refine y_call1 hM.1 (m_lastCode hM hL2 (by omega) ?_)
  refine y_ja (lch (sL S) (vn (sL S))) hM.2.2 (by omega) ((hE _ lb).trans (by rw [Wm_last (fun _ _ _ => rfl) hL.1])) ?_
  exact hK h1 ⟨hok, q, I, _, E, hM, hS⟩ hx
theorem mm_every {v : Int32} (hR : ModR g rl h m S) (hK : ∀ h1, ModR g rl h1 m S → MX rl h h1 → K (some (.int (sp_every S v))) h1) : Run l g d_X10_every [.ref m, .int v] h 0 0 K := by
  have hR0 := hR
  obtain ⟨hok, q, I, A, Wy, hM, hS⟩ := hR
  have hL := hS.2.2.2.1
  have b1 := hL.1.1
  unfold sp_every at hK
  refine vc_X10_every (fun G hG => ?_)
  refine hG 0 _ _ _ _ _ ?_
  refine y_callS (m_within ?_)
  refine b_Z (fun y => ?_) (fun y => ?_)
  · rw [if_neg y] at hK
    exact hK h hR0 Ex.rf
  rw [if_pos y] at hK
  refine y_get hM.1 (by decide) rfl ?_
  rw [hL.2.1]
  refine pk_eq (vn (sL S)) 0 (fun z => ?_) (fun z => ?_)
  · rw [if_pos z] at hK
    exact hK h hR0 Ex.rf
  rw [if_neg z] at hK
  obtain ⟨v, hv, rfl⟩ := inR_of (n := 99) (by omega) y
  rw [ix_nI (by omega)] at hK
  have lb := (lch_ok hL.1).1
  refine y_call1 hM.1 (m_findWays (ok := okN (sL S) v) (okN_ext v) (Or.inr ⟨v, hv, rfl, fun _ => rfl⟩) hM hL (fun h1 F E hM hx hE => ?_))
  have hL2 : MLand I (va_up A 21 F) (sL S) (sN S) := hL
  refine y_get hM.1 (by decide) rfl ?_
  refine y_call1 hM.1 (m_lastCode hM hL2 (by omega) ?_)
  refine y_ja (lch (sL S) (vn (sL S))) hM.2.2 (by omega) ((hE _ lb).trans (by rw [Wm_last (okN_ext v) hL.1])) ?_
  have bW : Wn (sL S) (sN S) (okN (sL S) v) (tn (sL S)) ≤ 95367431640625 := Wn_le b1
  have hK := hK h1 ⟨hok, q, I, _, E, hM, hS⟩ hx
  generalize Wn (sL S) (sN S) (okN (sL S) v) (tn (sL S)) = ww at hK bW ⊢
  refine b_cases (fun e => ?_) (fun e => ?_)
  · have e : ww = 0 := (lcmp0 (by omega)).mp e
    rw [bP_1 e] at hK
    exact hK
  · have e : ¬ ww = 0 := fun z => e ((lcmp0 (by omega)).mpr z)
    rw [bP_0 e] at hK
    exact hK
theorem cntB_pos {p : Nat → Bool} : ∀ {n k : Nat}, k < n → p k = true → 0 < cntB p n
  | n + 1, k, hk, hp => by
    rw [cntB_succ]
    by_cases e : k = n
    · subst e; rw [if_pos hp]; omega
    · have := cntB_pos (p := p) (n := n) (k := k) (by omega) hp; omega
theorem isC_0 : isC L nd 0 := ⟨fun v _ => by rw [dgc_0]; exact Nat.zero_le _, Nat.zero_div _, fun v _ u _ h0 => by rw [dgc_0] at h0; omega⟩
theorem i2l_nI {a : Nat} (h : a < 2 ^ 31) : (nI a).toInt64 = lN a := nI_l h
theorem mm_odds {v w : Int32} (hR : ModR g rl h m S) (hK : ∀ h1, ModR g rl h1 m S → MX rl h h1 → K (some (.long (sp_odds S v w))) h1) : Run l g d_X10_odds [.ref m, .int v, .int w] h 0 0 K := by
  have hR0 := hR
  obtain ⟨hok, q, I, A, Wy, hM, hS⟩ := hR
  have hL := hS.2.2.2.1
  have b1 := hL.1.1
  unfold sp_odds at hK
  refine vc_X10_odds (fun G hG => ?_)
  refine hG 0 _ _ _ _ _ ?_
  refine y_callS (m_within ?_)
  refine b_Z (fun y => ?_) (fun y => ?_)
  · rw [if_neg (fun r => y r.1)] at hK
    exact hK h hR0 Ex.rf
  refine y_callS (m_within ?_)
  refine b_Z (fun x => ?_) (fun x => ?_)
  · rw [if_neg (fun r => x r.2.1)] at hK
    exact hK h hR0 Ex.rf
  refine y_get hM.1 (by decide) rfl ?_
  rw [hL.2.1]
  refine pk_eq (vn (sL S)) 0 (fun z => ?_) (fun z => ?_)
  · rw [if_neg (fun r => r.2.2 z)] at hK
    exact hK h hR0 Ex.rf
  rw [if_pos ⟨y, x, z⟩] at hK
  obtain ⟨v, hv, rfl⟩ := inR_of (n := 99) (by omega) y
  rw [ix_nI (by omega)] at hK
  have loop : ∀ k j, j + k = 1296 → ∀ (h1 : Hp) (F : Nat → Int32), ModH g rl h1 m q I (va_up A 21 F) Wy → MX rl h h1 → G 1 h1 0 0 [some (.ref m), some (.int (nI v)), some (.int w), some (.int (nI (cntB (fun k => decide (isC (sL S) (sN S) k)) j))), some (.int (nI (cntB (fun k => decide (isC (sL S) (sN S) k ∧ v ≤ sumC (sL S) (dgc k))) j))), some (.int (nI j))] [] := by
    intro k
    induction k with
    | zero =>
      intro j hj h1 F hM hx
      have ej : j = 1296 := by omega
      subst ej
      have bU := cntB_le (fun k => decide (isC (sL S) (sN S) k ∧ v ≤ sumC (sL S) (dgc k))) 1296
      have bD := cntB_le (fun k => decide (isC (sL S) (sN S) k)) 1296
      have pD : 0 < cntB (fun k => decide (isC (sL S) (sN S) k)) 1296 := cntB_pos (k := 0) (by omega) (decide_eq_true isC_0)
      refine hG 1 _ _ _ _ _ ?_
      refine b_ge 1296 1296 (fun _ => ?_) (fun _ => by omega)
      refine y_callS (m_ilt (u := oddU S v) (d := oddD S) (Nat.lt_of_le_of_lt bU (by omega)) (Nat.lt_of_le_of_lt bD (by omega)) pD ?_ (i2l_nI (Nat.lt_of_le_of_lt bU (by omega))) (i2l_nI (Nat.lt_of_le_of_lt bD (by omega))))
      exact hK h1 ⟨hok, q, I, _, Wy, hM, hS⟩ hx
    | succ k ih =>
      intro j hj h1 F hM hx
      have hL2 : MLand I (va_up A 21 F) (sL S) (sN S) := hL
      refine hG 1 _ _ _ _ _ ?_
      refine b_ge j 1296 (fun _ => by omega) (fun _ => ?_)
      refine y_call1 hM.1 (m_isCut (by omega) hM hL2 (fun h2 F2 hM hx2 hcut => ?_))
      rw [up_up] at hM hcut
      have hx := hx.trs hx2
      have ih9 := ih (j + 1) (by omega) h2 F2 hM hx
      rw [nI_succ j, cntB_succ, cntB_succ] at ih9
      refine b_Z (fun c1 => ?_) (fun c1 => ?_)
      · rw [if_neg (by rw [decide_eq_true_eq]; exact c1), if_neg (by rw [decide_eq_true_eq]; exact fun r => c1 r.1)] at ih9
        exact ih9
      have hc3 := hcut c1
      have s9 := sumC_le hL.1 hc3.1
      have hL3 : MLand I (va_up A 21 F2) (sL S) (sN S) := hL
      rw [if_pos (by rw [decide_eq_true_eq]; exact c1), nI_succ] at ih9
      refine y_call1 hM.1 (m_sumOf hM hL3 hc3 ?_)
      refine pk_lt (sumC (sL S) (dgc j)) v (fun d => ?_) (fun d => ?_)
      · rw [if_neg (by rw [decide_eq_true_eq]; exact fun r => by omega), ← nI_add] at ih9
        exact ih9
      · rw [if_pos (by rw [decide_eq_true_eq]; exact ⟨c1, d⟩), ← nI_add] at ih9
        exact ih9
  exact loop 1296 0 (by omega) h (A 21) (by rw [up_id]; exact hM) Ex.rf
end MM12

