section MM7
variable {l : Launch} {g : Gm} {rl : Nat → Nat} {h : Hp} {K : PT} {m : Nat} {q : Nat → Nat} {I : Nat → Int32} {A : Nat → Nat → Int32} {Wy : Nat → Int64} {S : St} {L : Ld} {nd : Nat → Nat → Nat → Nat} {c : Nat → Nat}
theorem mm_reading {sh lane i w : Int32} (hR : ModR g rl h m S) (hK : ∀ h1, ModR g rl h1 m (st_reading S sh lane i w) → MX rl h h1 → K (some (.int (sp_reading S sh lane i w))) h1) : Run l g d_X10_reading [.ref m, .int sh, .int lane, .int i, .int w] h 0 0 K := by
  obtain ⟨hok, q, I, A, Wy, hM, hS⟩ := hR
  have hL := hS.2.2.2.1
  have b1 := hL.1.1
  unfold sp_reading st_reading at hK
  generalize ht : tkr S sh lane i (InR w 0 99) = tk at hK
  unfold tkr at ht
  have hrn := hok.2.2.2.2.2.1
  have h24 := hS.2.2.2.2.2.1
  refine vc_X10_reading (fun G hG => ?_)
  refine hG 0 _ _ _ _ _ ?_
  refine y_putI hM.1 (by decide) (Nat.le_of_ble_eq_true rfl) rfl (fun h1 e1 x1 => ?_)
  have hM := hM.setI (I' := upd I 0 0) e1 x1
  have hS1 := hS.fa 0
  have hx := MX.of x1
  refine y_get hM.1 (by decide) rfl ?_
  rw [show upd I 0 0 5 = nI (vn (sL S)) from hL.2.1]
  have off : ∀ r : Int32, ¬ r = 0 → tk = (r, 0) → K (some (.int r)) h1 := fun r hr e => by
    subst e
    rw [if_neg hr, if_neg (fun z => hr z.1)] at hK
    exact hK h1 ⟨hok, q, _, A, Wy, hM, hS1⟩ hx
  refine pk_eq (vn (sL S)) 0 (fun z => ?_) (fun z => ?_)
  · rw [if_pos z] at ht
    exact off (-3) (by decide) ht.symm
  rw [if_neg z] at ht
  refine y_callS (m_isSheet ?_)
  refine b_Z (fun y => ?_) (fun y => ?_)
  · rw [if_neg y] at ht
    exact off (-1) (by decide) ht.symm
  rw [if_pos y] at ht
  refine y_callS (m_isSort ?_)
  refine b_Z (fun x => ?_) (fun x => ?_)
  · rw [if_neg x] at ht
    exact off (-2) (by decide) ht.symm
  rw [if_pos x] at ht
  refine y_callS (m_within ?_)
  refine b_Z (fun ha => ?_) (fun ha => ?_)
  · rw [if_neg ha] at ht
    exact off (-2) (by decide) ht.symm
  rw [if_pos ha] at ht
  obtain ⟨k, hk, rfl⟩ := sh_of y
  rw [ix_nI (by omega)] at ht
  have b6 := (hok.1 k hk).2
  refine y_get hM.1 (by decide) rfl ?_
  rw [show upd I 0 0 5 = nI (vn (sL S)) from hL.2.1]
  refine y_call1 hM.1 (m_against hM hS1 hk ?_)
  refine b_cases (fun a => ?_) (fun a => ?_)
  rotate_left
  · have a : ¬ agst (sSo S k) (sLe S k) lane i (nI (vn (sL S))) = 0 := a
    rw [if_neg a] at ht
    refine y_call1 hM.1 (m_fails hM (fun h2 hM2 hx2 => ?_))
    subst ht
    rw [if_neg (agst_ne a), if_neg (fun z => agst_ne a z.1)] at hK
    exact hK h2 ⟨hok, q, _, A, Wy, hM2, hS1.fa _⟩ (hx.trs hx2)
  have a : agst (sSo S k) (sLe S k) lane i (nI (vn (sL S))) = 0 := a
  rw [if_pos a] at ht
  obtain ⟨j, rfl, hj, -, -⟩ := agst_0 b6 (by omega) a
  rw [ix_nI (by omega)] at ht
  have hL1 : MLand (upd I 0 0) A (sL S) (sN S) := hL
  have hcell : ∀ v, v < vn (sL S) → A 4 (60 * k + j + v) = sCe S k (j + v) := fun v hv => by
    have := (hS.1 k hk).2.2 (j + v) (by omega)
    rw [← this, Nat.add_assoc]
  have iff1 : (∀ v, v < vn (sL S) → CellOk (A 4 (60 * k + j + v)) (tn (sL S) v)) ↔ ∀ v, v < vn (sL S) → CellOk (sCe S k (j + v)) (tn (sL S) v) := ⟨fun hh v hv => by rw [← hcell v hv]; exact hh v hv, fun hh v hv => by rw [hcell v hv]; exact hh v hv⟩
  have e60 : (60 : Int32) * nI k + nI j = nI (60 * k + j) := ix60 k j
  refine y_call1 hM.1 (m_refusesCells hM hL1 (by omega) ?_ e60)
  by_cases hcl : ∀ v, v < vn (sL S) → CellOk (sCe S k (j + v)) (tn (sL S) v)
  rotate_left
  · rw [if_neg (fun r => hcl (iff1.mp r))]
    rw [if_neg hcl] at ht
    refine b_no (by decide) ?_
    exact off (-2) (by decide) ht.symm
  rw [if_pos (iff1.mpr hcl)]
  rw [if_pos hcl] at ht
  subst ht
  rw [if_pos rfl] at hK
  refine b_yes rfl ?_
  refine y_get hM.1 (by decide) rfl ?_
  rw [show upd I 0 0 24 = nI (sRn S) from h24]
  refine pk_eq (sRn S) 8 (fun p => ?_) (fun p => ?_)
  · rw [if_pos p, if_neg (fun z => z.2 p)] at hK
    exact hK h1 ⟨hok, q, _, A, Wy, hM, hS1⟩ hx
  rw [if_neg p, if_pos ⟨rfl, p⟩] at hK
  have ecut : ctk S (nI k) (nI j) = fun v => ix (sCe S k (j + v)) := by
    unfold ctk
    rw [ix_nI (by omega), ix_nI (by omega)]
  have hcut : CutOk (sL S) (ctk S (nI k) (nI j)) := by rw [ecut]; exact ctk_ok (sh := 0) hok hcl
  have hcv : ∀ v, v < vn (sL S) → sCe S k (j + v) = nI (ctk S (nI k) (nI j) v) := fun v hv => by
    rw [ecut]
    have b2 := (hok.2.1.2 v hv).2.2.1
    exact (cell_of (by omega) (hcl v hv)).1
  generalize ctk S (nI k) (nI j) = cc at hK hcut hcv
  obtain ⟨su, hsu, rfl⟩ := inR_of (n := 99) (by omega) ha
  rw [ix_nI (by omega)] at hK
  have loop : ∀ kk v, v + kk = vn (sL S) → ∀ (h2 : Hp) (F : Nat → Int32), ModH g rl h2 m q (upd I 0 0) (va_up A 25 F) Wy → (∀ r w, r < 8 → w < 4 → F (4 * r + w) = if r = sRn S ∧ w < v then nI (cc w) else A 25 (4 * r + w)) → MX rl h h2 → G 1 h2 0 0 [some (.ref m), some (.int (nI k)), some (.int lane), some (.int (nI j)), some (.int (nI su)), some (.int (agst (sSo S k) (sLe S k) lane (nI j) (nI (vn (sL S))))), some (.int (nI (60 * k + j))), some (.int (nI v))] [] := by
    intro kk
    induction kk with
    | zero =>
      intro v hv h2 F hM hF hx
      refine hG 1 _ _ _ _ _ ?_
      refine y_get hM.1 (by decide) rfl ?_
      rw [show upd I 0 0 5 = nI (vn (sL S)) from hL.2.1]
      refine b_ge v (vn (sL S)) (fun _ => ?_) (fun _ => by omega)
      refine y_get hM.1 (by decide) rfl ?_
      refine y_get hM.1 (by decide) rfl ?_
      rw [show upd I 0 0 24 = nI (sRn S) from h24]
      refine y_is (sRn S) hM.a26 (by omega) (fun h3 e3 x3 => ?_)
      have hM := hM.setA 26 e3 x3
      have hx := hx.trs (MX.of x3)
      refine y_get hM.1 (by decide) rfl ?_
      rw [show upd I 0 0 24 = nI (sRn S) from h24]
      refine y_putI hM.1 (by decide) (Nat.le_of_ble_eq_true rfl) rfl (fun h4 e4 x4 => ?_)
      have hM := hM.setI (I' := upd (upd I 0 0) 24 (nI (sRn S + 1))) (by rw [nI_succ]; exact e4) x4
      have hx := hx.trs (MX.of x4)
      refine y_get hM.1 (by decide) rfl ?_
      rw [show upd (upd I 0 0) 24 (nI (sRn S + 1)) 24 = nI (sRn S + 1) from rfl]
      rw [← nI_pred (sRn S)] at hK
      refine hK h4 ⟨⟨hok.1, hok.2.1, hok.2.2.1, hok.2.2.2.1, hok.2.2.2.2.1, by show sRn S + 1 ≤ 8; omega, fun r hr => ?_⟩, q, _, _, Wy, hM, hS.1, rfl, hS.2.2.1, hL, hS.2.2.2.2.1, rfl, fun r hr => ?_⟩ hx
      · have hr : r < sRn S + 1 := hr
        by_cases e : r = sRn S
        · subst e
          exact ⟨by show CutOk (sL S) (va_up (sRc S) (sRn S) cc (sRn S)); rw [show va_up (sRc S) (sRn S) cc (sRn S) = cc from if_pos rfl]; exact hcut, by show updN (sRs S) (sRn S) su (sRn S) ≤ 99; rw [updN_s]; exact hsu⟩
        · exact ⟨by show CutOk (sL S) (va_up (sRc S) (sRn S) cc r); rw [show va_up (sRc S) (sRn S) cc r = sRc S r from if_neg e]; exact (hok.2.2.2.2.2.2 r (by omega)).1, by show updN (sRs S) (sRn S) su r ≤ 99; rw [updN_n e]; exact (hok.2.2.2.2.2.2 r (by omega)).2⟩
      · have hr : r < sRn S + 1 := hr
        refine ⟨?_, fun w9 hw => ?_⟩
        · show upd (A 26) (sRn S) (nI su) r = nI (updN (sRs S) (sRn S) su r)
          by_cases e : r = sRn S
          · rw [e, pk_us, updN_s]
          · rw [pk_un e, updN_n e]; exact (hS.2.2.2.2.2.2 r (by omega)).1
        · have hw : w9 < vn (sL S) := hw
          show F (4 * r + w9) = nI (va_up (sRc S) (sRn S) cc r w9)
          rw [hF r w9 (by omega) (by omega)]
          by_cases e : r = sRn S
          · rw [if_pos ⟨e, by omega⟩, show va_up (sRc S) (sRn S) cc r = cc from if_pos e]
          · rw [if_neg (fun z => e z.1), show va_up (sRc S) (sRn S) cc r = sRc S r from if_neg e]
            exact (hS.2.2.2.2.2.2 r (by omega)).2 w9 hw
    | succ kk ih =>
      intro v hv h2 F hM hF hx
      refine hG 1 _ _ _ _ _ ?_
      refine y_get hM.1 (by decide) rfl ?_
      rw [show upd I 0 0 5 = nI (vn (sL S)) from hL.2.1]
      refine b_ge v (vn (sL S)) (fun _ => by omega) (fun _ => ?_)
      refine y_get hM.1 (by decide) rfl ?_
      refine y_get hM.1 (by decide) rfl ?_
      rw [show upd I 0 0 24 = nI (sRn S) from h24]
      refine y_get hM.1 (by decide) rfl ?_
      refine y_ia (60 * k + j + v) hM.a4 (by omega) ((hcell v (by omega)).trans (hcv v (by omega))) ?_ (nI_add (60 * k + j) v)
      refine y_is (4 * sRn S + v) hM.a25 (by omega) (fun h3 e3 x3 => ?_) (ix4q (sRn S) v)
      have hM2 := hM.setA 25 e3 x3
      rw [up_up] at hM2
      refine (fun z => by rw [nI_succ v] at z; exact z) (ih (v + 1) (by omega) h3 _ hM2 (fun r w9 hr hw => ?_) (hx.trs (MX.of x3)))
      by_cases e : 4 * r + w9 = 4 * sRn S + v
      · have e1 : r = sRn S := by omega
        have e2 : w9 = v := by omega
        rw [e, show upd (va_up A 25 F 25) (4 * sRn S + v) (nI (cc v)) (4 * sRn S + v) = nI (cc v) from pk_us, if_pos ⟨e1, by omega⟩, e2]
      · rw [show upd (va_up A 25 F 25) (4 * sRn S + v) (nI (cc v)) (4 * r + w9) = F (4 * r + w9) from pk_un e, hF r w9 hr hw]
        by_cases e3 : r = sRn S ∧ w9 < v
        · rw [if_pos e3, if_pos ⟨e3.1, by omega⟩]
        · rw [if_neg e3, if_neg (fun z => e3 ⟨z.1, by have := z.1; omega⟩)]
  have l0 := loop (vn (sL S)) 0 (by omega) h1 (A 25) (by rw [up_id]; exact hM) (fun r w9 _ _ => by rw [if_neg (fun z => by omega)]) hx
  rw [← e60] at l0
  exact l0
theorem m_allThings (hM : ModH g rl h m q I A Wy) (hL : MLand I A L nd) (hK : K (some (.int (nI (sm (tn L) (vn L))))) h) : Run l g d_X10_allThings [.ref m] h 0 0 K := by
  have h5 := hL.2.1
  have b1 := hL.1.1
  refine vc_X10_allThings (fun G hG => ?_)
  refine hG 0 _ _ _ _ _ ?_
  have loop : ∀ k v, v + k = vn L → G 1 h 0 0 [some (.ref m), some (.int (nI (sm (tn L) v))), some (.int (nI v))] [] := by
    intro k
    induction k with
    | zero =>
      intro v hv
      refine hG 1 _ _ _ _ _ ?_
      refine y_get hM.1 (by decide) rfl ?_
      rw [h5]
      refine b_ge v (vn L) (fun _ => ?_) (fun _ => by omega)
      rw [show v = vn L by omega]
      exact hK
    | succ k ih =>
      intro v hv
      refine hG 1 _ _ _ _ _ ?_
      refine y_get hM.1 (by decide) rfl ?_
      rw [h5]
      refine b_ge v (vn L) (fun _ => by omega) (fun _ => ?_)
      refine y_get hM.1 (by decide) rfl ?_
      refine y_ia (v) hM.a7 (by omega) ((hL.2.2 v (by omega)).2.1) ?_
      have ih9 := ih (v + 1) (by omega)
      rw [nI_succ v, sm_succ, ← nI_add] at ih9
      exact ih9
  exact loop (vn L) 0 (by omega)
theorem mm_many {w : Int32} (hR : ModR g rl h m S) (hK : K (some (.int (sp_many S w))) h) : Run l g d_X10_many [.ref m, .int w] h 0 0 K := by
  obtain ⟨hok, q, I, A, Wy, hM, hS⟩ := hR
  have hL := hS.2.2.2.1
  have b1 := hL.1.1
  unfold sp_many at hK
  refine vc_X10_many (fun G hG => ?_)
  refine hG 0 _ _ _ _ _ ?_
  refine b_cases (fun a => ?_) (fun a => ?_)
  · rw [if_pos a] at hK
    refine y_get hM.1 (by decide) rfl ?_
    rw [hL.2.1]
    exact hK
  rw [if_neg a] at hK
  refine b_cases (fun a => ?_) (fun a => ?_)
  · rw [if_pos a] at hK
    refine y_call1 hM.1 (m_allThings hM hL ?_)
    exact hK
  rw [if_neg a] at hK
  refine b_cases (fun a => ?_) (fun a => ?_)
  · rw [if_pos a] at hK
    have loop : ∀ k v, v + k = vn (sL S) → ∀ o, G 1 h 0 0 [some (.ref m), some (.int w), some (.int (nI (sm (sD S) v))), some (.int (nI v)), o] [] := by
      intro k
      induction k with
      | zero =>
        intro v hv o
        refine hG 1 _ _ _ _ _ ?_
        refine y_get hM.1 (by decide) rfl ?_
        rw [hL.2.1]
        refine b_ge v (vn (sL S)) (fun _ => ?_) (fun _ => by omega)
        rw [show v = vn (sL S) by omega]
        exact hK
      | succ k ih =>
        intro v hv o
        refine hG 1 _ _ _ _ _ ?_
        refine y_get hM.1 (by decide) rfl ?_
        rw [hL.2.1]
        refine b_ge v (vn (sL S)) (fun _ => by omega) (fun _ => ?_)
        refine y_get hM.1 (by decide) rfl ?_
        refine y_ia (v) hM.a11 (by omega) (hS.2.2.2.2.1 v (by omega)) ?_
        have ih9 := ih (v + 1) (by omega) o
        rw [nI_succ v, sm_succ, ← nI_add] at ih9
        exact ih9
    exact loop (vn (sL S)) 0 (by omega) none
  rw [if_neg a] at hK
  refine b_cases (fun a => ?_) (fun a => ?_)
  · rw [if_pos a] at hK
    have loop : ∀ k v, v + k = vn (sL S) → ∀ o, G 2 h 0 0 [some (.ref m), some (.int w), some (.int (nI (sm (fun v => sm (fun t => if wh (sL S) v t = 1 then 1 else 0) (tn (sL S) v)) v))), some (.int (nI v)), o] [] := by
      intro k
      induction k with
      | zero =>
        intro v hv o
        refine hG 2 _ _ _ _ _ ?_
        refine y_get hM.1 (by decide) rfl ?_
        rw [hL.2.1]
        refine b_ge v (vn (sL S)) (fun _ => ?_) (fun _ => by omega)
        rw [show v = vn (sL S) by omega]
        exact hK
      | succ k ih =>
        intro v hv o
        have hvn : v < vn (sL S) := by omega
        have b2 := (hL.1.2 v hvn).2.2.1
        refine hG 2 _ _ _ _ _ ?_
        refine y_get hM.1 (by decide) rfl ?_
        rw [hL.2.1]
        refine b_ge v (vn (sL S)) (fun _ => by omega) (fun _ => ?_)
        have inner : ∀ j t, t + j = tn (sL S) v → G 3 h 0 0 [some (.ref m), some (.int w), some (.int (nI (sm (fun v => sm (fun t => if wh (sL S) v t = 1 then 1 else 0) (tn (sL S) v)) v + sm (fun t => if wh (sL S) v t = 1 then 1 else 0) t))), some (.int (nI v)), some (.int (nI t))] [] := by
          intro j
          induction j with
          | zero =>
            intro t ht
            refine hG 3 _ _ _ _ _ ?_
            refine y_get hM.1 (by decide) rfl ?_
            refine y_ia (v) hM.a7 (by omega) ((hL.2.2 v hvn).2.1) ?_
            refine b_ge t (tn (sL S) v) (fun _ => ?_) (fun _ => by omega)
            have ih9 := ih (v + 1) (by omega) (some (.int (nI t)))
            rw [nI_succ v, sm_succ, show tn (sL S) v = t by omega] at ih9
            exact ih9
          | succ j ih2 =>
            intro t ht
            obtain ⟨w1, w2, -⟩ := (hL.2.2 v hvn).2.2 t (by omega)
            have b3 := ((hL.1.2 v hvn).2.2.2 t (by omega)).1
            have ih9 := ih2 (t + 1) (by omega)
            rw [nI_succ t, sm_succ, ← Nat.add_assoc, ← nI_add] at ih9
            refine hG 3 _ _ _ _ _ ?_
            refine y_get hM.1 (by decide) rfl ?_
            refine y_ia (v) hM.a7 (by omega) ((hL.2.2 v hvn).2.1) ?_
            refine b_ge t (tn (sL S) v) (fun _ => by omega) (fun _ => ?_)
            refine y_get hM.1 (by decide) rfl ?_
            refine y_ia (5 * v + t) hM.a8 (by omega) (w1) ?_ (ix5 v t)
            refine pk_eq (wh (sL S) v t) 1 (fun z => ?_) (fun z => ?_)
            · rw [if_pos z] at ih9
              refine hG 4 _ _ _ _ _ ?_
              exact ih9
            · rw [if_neg z] at ih9
              refine hG 4 _ _ _ _ _ ?_
              exact ih9
        exact inner (tn (sL S) v) 0 (by omega)
    exact loop (vn (sL S)) 0 (by omega) none
  rw [if_neg a] at hK
  refine b_cases (fun a => ?_) (fun a => ?_)
  · rw [if_pos a] at hK
    refine y_get hM.1 (by decide) rfl ?_
    rw [hS.2.2.2.2.2.1]
    exact hK
  · rw [if_neg a] at hK
    exact hK
end MM7

