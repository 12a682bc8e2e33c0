section CC2
variable {l : Launch} {g : Gm} {rl : Nat → Nat} {h : Hp} {K : PT} {a : Nat} {S : St}
theorem cc_cell {k i lane : Int32} (hok : StOk S) (hC : ClsH g rl h a S) (hK : ∀ h1, ClsH g rl h1 a (st_cell S k i lane) → Ex CXp rl h rl h1 → K (some (.long (sp_cell S k i lane))) h1) : Run l g d_X9_cell [.ref a, .int k, .int i, .int lane] h 0 0 K := by
  obtain ⟨f, I, ca, sv, B, β, ad, A, hF, hFM, hO⟩ := hC
  obtain ⟨hβ, hH, hm, hl, hN, hfr, hdn, hsv⟩ := id hO
  have hL := hok.2.1
  have hB := hL.b
  have b1 := hL.1
  unfold st_cell sp_cell at hK
  refine vc_X9_cell (fun G hG => ?_)
  refine hG 0 _ _ _ _ _ ?_
  refine y_putI hF.1 (by decide) (Nat.le_of_ble_eq_true rfl) rfl (fun h1 e1 x1 => ?_)
  have hF := hF.ob (I2 := upd I 1 0) e1 x1 rfl
  have hFM := hFM.fa 0
  have hO := hO.ex b1 x1 (by omega)
  have hx := fcx x1 (by omega)
  refine y_callS (k_isSheet ?_)
  refine b_Z (fun z => ?_) (fun z => ?_)
  · rw [if_neg (fun r => z r.1), if_neg (fun r => z r.1)] at hK
    exact hK h1 ⟨f, _, ca, sv, B, β, ad, A, hF, hFM, hO⟩ hx
  refine y_callS (k_isLane ?_)
  refine b_Z (fun y => ?_) (fun y => ?_)
  · rw [if_neg (fun r => y r.2), if_neg (fun r => y r.2)] at hK
    exact hK h1 ⟨f, _, ca, sv, B, β, ad, A, hF, hFM, hO⟩ hx
  rw [if_pos ⟨z, y⟩, if_pos ⟨z, y⟩] at hK
  obtain ⟨j, hj, rfl, ej⟩ := shx z
  unfold CelF at hK
  rw [ej] at hK
  have hle : sLe S j ≤ 60 := (hok.1 j hj).2
  have hag : agst (sSo S j) (sLe S j) lane i 1 = if sSo S j = -9 then 1 else if sSo S j = lane then (if InR i 0 (nI (sLe S j) - 1) then 0 else 3) else 2 := by
    unfold agst
    by_cases s9 : sSo S j = -9
    · rw [if_pos s9, if_pos s9]
    rw [if_neg s9, if_neg s9]
    by_cases sl : sSo S j = lane
    · rw [if_pos sl, if_pos sl, if_neg (by decide)]
      by_cases hc : InR i 0 (nI (sLe S j) - 1)
      · have := (hasC1 hle).mpr hc
        rw [if_pos hc, if_neg (fun r => r.elim this.1 (fun r => r.elim this.2.1 this.2.2.2))]
      · rw [if_neg hc, if_pos]
        refine Classical.byContradiction fun q => hc ((hasC1 hle).mp ⟨fun e => q (Or.inl e), fun e => q (Or.inr (Or.inl e)), by decide, fun e => q (Or.inr (Or.inr e))⟩)
    · rw [if_neg sl, if_neg sl]
  rw [← hag] at hK
  refine y_get hF.1 (by decide) rfl ?_
  refine y_ra j hF.2.1 (by omega) rfl ?_
  refine y_call1 (hF.so hj) (k_faultOfTaking hF hFM hj ?_)
  refine y_putI hF.1 (by decide) (Nat.le_of_ble_eq_true rfl) rfl (fun h2 e2 x2 => ?_)
  have hF := hF.ob (I2 := upd I 1 (agst (sSo S j) (sLe S j) lane i 1)) e2 x2 rfl
  have hFM : FcM (upd I 1 (agst (sSo S j) (sLe S j) lane i 1)) B (setFa S (agst (sSo S j) (sLe S j) lane i 1)) := ⟨hFM.1, rfl, hFM.2.2⟩
  have hO := hO.ex b1 x2 (by omega)
  have hx := hx.trs (fcx x2 (by omega))
  have hK := hK h2 ⟨f, _, ca, sv, B, β, ad, A, hF, hFM, hO⟩ hx
  refine y_get hF.1 (by decide) rfl ?_
  refine b_cases (fun c => ?_) (fun c => ?_)
  · have c : agst (sSo S j) (sLe S j) lane i 1 = 0 := c
    rw [if_pos c] at hK
    obtain ⟨p, rfl, hp, -, -⟩ := agst_0 (n := 1) hle (by omega) c
    rw [ix_nI (by omega)] at hK
    refine y_get hF.1 (by decide) rfl ?_
    refine y_ra j hF.2.1 (by omega) rfl ?_
    refine y_get (hF.so hj) (by decide) rfl ?_
    refine y_ia p (hF.sc hj) (by omega) ((hFM.2.2.2.1 j hj).2.2.2 p (by omega)) ?_
    exact hK
  · have c : ¬ agst (sSo S j) (sLe S j) lane i 1 = 0 := c
    rw [if_neg c] at hK
    exact hK
theorem cc_copy {k i o j n : Int32} (hok : StOk S) (hC : ClsH g rl h a S) (hK : ∀ h1, ClsH g rl h1 a (st_copy S k i o j n) → Ex CXp rl h rl h1 → K (some (.int (sp_copy S k i o j n))) h1) : Run l g d_X9_copy [.ref a, .int k, .int i, .int o, .int j, .int n] h 0 0 K := by
  obtain ⟨f, I, ca, sv, B, β, ad, A, hF, hFM, hO⟩ := hC
  obtain ⟨hβ, hH, hm, hl, hN, hfr, hdn, hsv⟩ := id hO
  have hL := hok.2.1
  have hB := hL.b
  have b1 := hL.1
  have rn8 := hok.2.2.2.2.2.1
  unfold st_copy sp_copy at hK
  refine vc_X9_copy (fun G hG => ?_)
  refine hG 0 _ _ _ _ _ ?_
  refine y_putI hF.1 (by decide) (Nat.le_of_ble_eq_true rfl) rfl (fun h1 e1 x1 => ?_)
  have hF := hF.ob (I2 := upd I 1 0) e1 x1 rfl
  have hFM := hFM.fa 0
  have hO := hO.ex b1 x1 (by omega)
  have hx := fcx x1 (by omega)
  refine y_callS (k_isSheet ?_)
  refine b_Z (fun z => ?_) (fun z => ?_)
  · rw [if_neg (fun r => z r.1), if_neg (fun r => z r.1)] at hK
    exact hK h1 ⟨f, _, ca, sv, B, β, ad, A, hF, hFM, hO⟩ hx
  refine y_callS (k_isSheet ?_)
  refine b_Z (fun y => ?_) (fun y => ?_)
  · rw [if_neg (fun r => y r.2), if_neg (fun r => y r.2)] at hK
    exact hK h1 ⟨f, _, ca, sv, B, β, ad, A, hF, hFM, hO⟩ hx
  have hzy : InR k 0 3 ∧ InR o 0 3 := ⟨z, y⟩
  rw [if_pos hzy, if_pos hzy] at hK
  clear hzy
  obtain ⟨p, hp, rfl, ep⟩ := shx z
  obtain ⟨q, hq, rfl, eq⟩ := shx y
  unfold CopF at hK
  rw [ep, eq] at hK
  obtain ⟨m0, m1, m2, m3⟩ := hFM.2.2.2.1 p hp
  obtain ⟨w0, w1, w2, w3⟩ := hFM.2.2.2.1 q hq
  have m0 : B (10 + p) 0 = (if sSo S p = -9 then 0 else 1) := m0
  have m1 : ¬ sSo S p = -9 → B (10 + p) 1 = sSo S p := m1
  have w0 : B (10 + q) 0 = (if sSo S q = -9 then 0 else 1) := w0
  have w1 : ¬ sSo S q = -9 → B (10 + q) 1 = sSo S q := w1
  have hle : sLe S p ≤ 60 := (hok.1 p hp).2
  have hle2 : sLe S q ≤ 60 := (hok.1 q hq).2
  refine y_get hF.1 (by decide) rfl ?_
  refine y_ra p hF.2.1 (by omega) rfl ?_
  refine y_get hF.1 (by decide) rfl ?_
  refine y_ra q hF.2.1 (by omega) rfl ?_
  refine y_get (hF.so hp) (by decide) rfl ?_
  rw [m0]
  by_cases s9 : sSo S p = -9
  · rw [if_pos s9]
    rw [if_pos (Or.inl s9), if_neg (by decide), if_neg (by decide)] at hK
    refine b_yes rfl ?_
    refine y_call1 hF.1 (k_fallen hF (fun h2 hF2 x2 => ?_))
    exact hK h2 ⟨f, _, ca, sv, B, β, ad, A, hF2, hFM.fa 1, hO.ex b1 x2 (by omega)⟩ (hx.trs (fcx x2 (by omega)))
  rw [if_neg s9]
  refine b_no (by decide) ?_
  refine y_get (hF.so hq) (by decide) rfl ?_
  rw [w0]
  by_cases t9 : sSo S q = -9
  · rw [if_pos t9]
    rw [if_pos (Or.inr t9), if_neg (by decide), if_neg (by decide)] at hK
    refine b_yes rfl ?_
    refine y_call1 hF.1 (k_fallen hF (fun h2 hF2 x2 => ?_))
    exact hK h2 ⟨f, _, ca, sv, B, β, ad, A, hF2, hFM.fa 1, hO.ex b1 x2 (by omega)⟩ (hx.trs (fcx x2 (by omega)))
  rw [if_neg t9]
  have hst : ¬ (sSo S p = -9 ∨ sSo S q = -9) := fun r => r.elim s9 t9
  rw [if_neg hst] at hK
  refine b_no (by decide) ?_
  refine y_get (hF.so hp) (by decide) rfl ?_
  refine y_get (hF.so hq) (by decide) rfl ?_
  rw [m1 s9, w1 t9]
  refine b_cases (fun c => ?_) (fun c => ?_)
  · have c : sSo S p = sSo S q := c
    rw [if_pos c] at hK
    refine y_call1 (hF.so hp) (k_hasCells hF hFM hp ?_)
    refine b_Z (fun d => ?_) (fun d => ?_)
    · have hn : ¬ ((¬ i < 0 ∧ ¬ j < 0 ∧ ¬ n < 0 ∧ ¬ nI (sLe S p) < i ∧ ¬ nI (sLe S q) < j) ∧ ¬ nI (sLe S p) - i < n ∧ ¬ nI (sLe S q) - j < n) := fun r => d ⟨r.1.1, r.1.2.2.2.1, r.1.2.2.1, r.2.1⟩
      rw [if_neg hn, if_neg (by decide), if_neg (by decide)] at hK
      refine y_call1 hF.1 (k_fallen hF (fun h2 hF2 x2 => ?_))
      exact hK h2 ⟨f, _, ca, sv, B, β, ad, A, hF2, hFM.fa 3, hO.ex b1 x2 (by omega)⟩ (hx.trs (fcx x2 (by omega)))
    · refine y_call1 (hF.so hq) (k_hasCells hF hFM hq ?_)
      refine b_Z (fun e => ?_) (fun e => ?_)
      · have hn : ¬ ((¬ i < 0 ∧ ¬ j < 0 ∧ ¬ n < 0 ∧ ¬ nI (sLe S p) < i ∧ ¬ nI (sLe S q) < j) ∧ ¬ nI (sLe S p) - i < n ∧ ¬ nI (sLe S q) - j < n) := fun r => e ⟨r.1.2.1, r.1.2.2.2.2, r.1.2.2.1, r.2.2⟩
        rw [if_neg hn, if_neg (by decide), if_neg (by decide)] at hK
        refine y_call1 hF.1 (k_fallen hF (fun h2 hF2 x2 => ?_))
        exact hK h2 ⟨f, _, ca, sv, B, β, ad, A, hF2, hFM.fa 3, hO.ex b1 x2 (by omega)⟩ (hx.trs (fcx x2 (by omega)))
      · have d : HasC (sLe S p) i n := d
        have e : HasC (sLe S q) j n := e
        have hde : (¬ i < 0 ∧ ¬ j < 0 ∧ ¬ n < 0 ∧ ¬ nI (sLe S p) < i ∧ ¬ nI (sLe S q) < j) ∧ ¬ nI (sLe S p) - i < n ∧ ¬ nI (sLe S q) - j < n := ⟨⟨d.1, e.1, d.2.2.1, d.2.1, e.2.1⟩, d.2.2.2, e.2.2.2⟩
        rw [if_pos hde, if_pos rfl, if_pos rfl] at hK
        clear hde
        obtain ⟨i9, hi9, rfl⟩ := nI_of d.1
        obtain ⟨j9, hj9, rfl⟩ := nI_of e.1
        obtain ⟨n9, hn9, rfl⟩ := nI_of d.2.2.1
        have a1 : i9 ≤ sLe S p := by
          rcases Nat.lt_or_ge (sLe S p) i9 with r | r
          · exact absurd (nI_lt r hi9) d.2.1
          · exact r
        have a2 : j9 ≤ sLe S q := by
          rcases Nat.lt_or_ge (sLe S q) j9 with r | r
          · exact absurd (nI_lt r hj9) e.2.1
          · exact r
        have a3 : n9 ≤ sLe S p - i9 := by
          have d4 := d.2.2.2
          rw [pk_sub a1] at d4
          rcases Nat.lt_or_ge (sLe S p - i9) n9 with r | r
          · exact absurd (nI_lt r hn9) d4
          · exact r
        have a4 : n9 ≤ sLe S q - j9 := by
          have d4 := e.2.2.2
          rw [pk_sub a2] at d4
          rcases Nat.lt_or_ge (sLe S q - j9) n9 with r | r
          · exact absurd (nI_lt r hn9) d4
          · exact r
        rw [ix_nI hi9, ix_nI hj9, ix_nI hn9] at hK
        refine y_get (hF.so hp) (by decide) rfl ?_
        refine y_get (hF.so hq) (by decide) rfl ?_
        refine y_copy i9 j9 n9 (hF.sc hp) (hF.sc hq) (by omega) (by omega) (fun h2 e2 x2 => ?_)
        have hF2 := hF.up (20 + q) x2 (by omega) (fun z => by omega) (fun z => by omega) (fun i hi z => by omega) (fun i hi z => e2) (fun i hi z => by omega)
        refine hK h2 ⟨f, _, ca, sv, _, β, ad, A, hF2, FcM.sg (S := setFa S 0) hFM rn8 hq (fun i e1 e2 => va_n e2) (fun i hi => ⟨rfl, rfl, va_n hi⟩) ?_, hO.ex b1 x2 (by omega)⟩ (hx.trs (fcx x2 (by omega)))
        rw [va_n (show 10 + q ≠ 20 + q by omega), va_s]
        refine ⟨w0, w1, w2, fun x hx => ?_⟩
        show va_cpy (B (20 + p)) (B (20 + q)) i9 j9 n9 x = va_up (sCe S) q (va_cpy (sCe S p) (sCe S q) i9 j9 n9) q x
        rw [va_s]
        unfold va_cpy
        by_cases r : j9 ≤ x ∧ x < j9 + n9
        · rw [if_pos r, if_pos r]; exact m3 _ (by omega)
        · rw [if_neg r, if_neg r]; exact w3 x hx
  · have c : ¬ sSo S p = sSo S q := c
    rw [if_neg c, if_neg (by decide), if_neg (by decide)] at hK
    refine y_call1 hF.1 (k_fallen hF (fun h2 hF2 x2 => ?_))
    exact hK h2 ⟨f, _, ca, sv, B, β, ad, A, hF2, hFM.fa 2, hO.ex b1 x2 (by omega)⟩ (hx.trs (fcx x2 (by omega)))
theorem rw_done {g : Gm} {rl : Nat → Nat} {h : Hp} {β ca : Nat} {ad : Nat → Nat} {A : Nat → Nat → Int32} {sv : Nat × Int32} (hok : StOk S) (hO : CoH g rl h β ca ad A sv (sL S) (sN S) (sD S)) : RwC (A 4) (sL S) (sD S) := ⟨hok.2.2.2.1, hO.2.2.2.2.2.2.1⟩
theorem go_done {v : Nat} (hok : StOk S) (hv : v < vn (sL S)) : GoR (sL S) (sD S) v ↔ Rdy (sL S) (sN S) (sD S) v := go_rdy hok.2.1 hok.2.2.2.2.1.1 hok.2.2.2.2.1.2.1 hok.2.2.2.1 hok.2.2.2.2.1.2.2 hv
theorem cc_ofVillage {x w : Int32} (hok : StOk S) (hC : ClsH g rl h a S) (hK : K (some (.int (sp_ofVillage S x w))) h) : Run l g d_X9_ofVillage [.ref a, .int x, .int w] h 0 0 K := by
  obtain ⟨f, I, ca, sv, B, β, ad, A, hF, hFM, hO⟩ := hC
  obtain ⟨hβ, hH, hm, hl, hN, hfr, hdn, hsv⟩ := id hO
  have hL := hok.2.1
  have hB := hL.b
  have b1 := hL.1
  have hT := hok.2.2.2.2.1.1
  have hR := rw_done hok hO
  unfold sp_ofVillage at hK
  refine vc_X9_ofVillage (fun G hG => ?_)
  refine hG 0 _ _ _ _ _ ?_
  refine y_get hF.1 (by decide) rfl ?_
  refine y_call1 hH.1 (c_hasVillage hH ?_)
  refine b_Z (fun z => ?_) (fun z => ?_)
  · rw [if_neg z] at hK
    exact hK
  rw [if_pos z] at hK
  obtain ⟨v, hv, rfl⟩ := isV_of z (by omega)
  rw [ix_nI (by omega)] at hK
  refine y_get hF.1 (by decide) rfl ?_
  refine y_get hH.1 (by decide) rfl ?_
  refine y_ra (v) hH.2.1 (by omega) (if_pos (hv)) ?_
  refine y_get hF.1 (by decide) rfl ?_
  refine y_get hH.1 (by decide) rfl ?_
  refine y_ia v hH.dn (by omega) (hdn v hv) ?_
  refine b_cases (fun y => ?_) (fun y => ?_)
  · rw [if_pos y] at hK
    refine y_get (hH.vo (hv)) (cls_in _) rfl ?_
    rw [(hm v hv).1]
    exact hK
  rw [if_neg y] at hK
  refine b_cases (fun y => ?_) (fun y => ?_)
  · rw [if_pos y] at hK
    refine y_get (hH.vo (hv)) (cls_in _) rfl ?_
    rw [(hm v hv).2.1]
    exact hK
  rw [if_neg y] at hK
  refine b_cases (fun y => ?_) (fun y => ?_)
  · rw [if_pos y] at hK
    exact hK
  rw [if_neg y] at hK
  refine b_cases (fun y => ?_) (fun y => ?_)
  · rw [if_pos y] at hK
    refine y_callV rfl (hH.vo (hv)) (cls_tab _ _) (c_valueAt hH hm hB hv (hR.1 v hv) ?_)
    exact hK
  rw [if_neg y] at hK
  refine b_cases (fun y => ?_) (fun y => ?_)
  · rw [if_pos y] at hK
    refine y_callV rfl (hH.vo (hv)) (cls_tab _ _) (c_worthAt hH hm hB hv (hR.1 v hv) ?_)
    exact hK
  rw [if_neg y] at hK
  refine b_cases (fun y => ?_) (fun y => ?_)
  · rw [if_pos y, ← bP_iff (go_done hok hv)] at hK
    refine y_get hF.1 (by decide) rfl ?_
    refine y_get hF.1 (by decide) rfl ?_
    refine y_get hH.1 (by decide) rfl ?_
    refine y_call1 hH.1 (c_goesOn hH hm hB hT hl hH.dn hR hv ?_)
    refine b_Z (fun z => ?_) (fun z => ?_)
    · rw [bP_0 z] at hK
      exact hK
    · rw [bP_1 z] at hK
      exact hK
  · rw [if_neg y] at hK
    exact hK
theorem sm_vn4 {L : Ld} {nd : NT} {v t : Nat} (hL : LdOk L) (hN : Need L nd) (hv : v < vn L) (ht : t < tn L v) : sm (nd v t) 4 = sm (nd v t) (vn L) := by
  have b1 := hL.1
  have hz : ∀ u, vn L ≤ u → u < 4 → nd v t u = 0 := fun u hu hu4 => by
    refine nd_ind hN (P := fun v t => nd v t u = 0) (fun v t hv ht h1 h2 => ?_) v t hv ht
    rcases ((hN.1 v t hv ht).2 u hu4).2.2 with ⟨e1, e2⟩ | e2 | ⟨e1, e2⟩ | ⟨x, y, hs, e2 | ⟨e1, e2⟩⟩
    · omega
    · exact e2
    · rw [e2]; exact h1 e1
    · rw [e2]; exact h2 x y hs
    · have := hs.2.1; omega
  have key : ∀ k, vn L + k ≤ 4 → sm (nd v t) (vn L + k) = sm (nd v t) (vn L) := by
    intro k
    induction k with
    | zero => intro _; rfl
    | succ k ih =>
      intro hk
      show sm (nd v t) (vn L + k + 1) = _
      rw [sm_succ, ih (by omega), hz _ (by omega) (by omega)]
      omega
  have := key (4 - vn L) (by omega)
  rwa [show vn L + (4 - vn L) = 4 by omega] at this
theorem cc_thing {x y w : Int32} (hok : StOk S) (hC : ClsH g rl h a S) (hK : K (some (.int (sp_thing S x y w))) h) : Run l g d_X9_thing [.ref a, .int x, .int y, .int w] h 0 0 K := by
  obtain ⟨f, I, ca, sv, B, β, ad, A, hF, hFM, hO⟩ := hC
  obtain ⟨hβ, hH, hm, hl, hN, hfr, hdn, hsv⟩ := id hO
  have hL := hok.2.1
  have hB := hL.b
  have b1 := hL.1
  have hNd := hok.2.2.2.2.1.2.1
  unfold sp_thing at hK
  refine vc_X9_thing (fun G hG => ?_)
  refine hG 0 _ _ _ _ _ ?_
  refine y_get hF.1 (by decide) rfl ?_
  refine y_call1 hH.1 (c_hasThing hH hm b1 ?_)
  refine b_Z (fun z => ?_) (fun z => ?_)
  · rw [if_neg z] at hK
    exact hK
  rw [if_pos z] at hK
  obtain ⟨v, hv, rfl⟩ := isV_of z.1 (by omega)
  have zt := z.2
  rw [show (nI v).toNatClampNeg = v from nI_clamp (by omega)] at zt
  have b5 := (hB.2 v hv).2.1
  obtain ⟨t, ht, rfl⟩ := isV_of zt (by omega)
  rw [ix_nI (show v < 2 ^ 31 by omega), ix_nI (show t < 2 ^ 31 by omega)] at hK
  obtain ⟨m1, m2⟩ := (hm v hv).2.2.1 t ht
  have g1 : (InR w 0 2 ∨ InR w 10 13) → G 1 h 0 0 [some (.ref a), some (.int (nI v)), some (.int (nI t)), some (.int w), none] [] := fun hw => by
    rw [if_pos hw] at hK
    refine hG 1 _ _ _ _ _ ?_
    refine y_get hF.1 (by decide) rfl ?_
    refine y_get hH.1 (by decide) rfl ?_
    refine y_ra (v) hH.2.1 (by omega) (if_pos (hv)) ?_
    refine b_cases (fun c => ?_) (fun c => ?_)
    · have c : w = 0 := c
      rw [if_neg (by rw [c]; decide), if_pos c] at hK
      refine y_get (hH.vo (hv)) (cls_in _) rfl ?_
      refine y_ia t (hH.wa hv) (by omega) m1 ?_
      exact hK
    have c : ¬ w = 0 := c
    refine b_cases (fun d => ?_) (fun d => ?_)
    · have d : w = 1 := d
      rw [if_neg (by rw [d]; decide), if_neg c, if_pos d] at hK
      refine y_get (hH.vo (hv)) (cls_in _) rfl ?_
      refine y_ia t (hH.da hv) (by omega) m2 ?_
      exact hK
    have d : ¬ w = 1 := d
    refine b_cases (fun e => ?_) (fun e => ?_)
    · have e : w = 2 := e
      rw [if_neg (by rw [e]; decide), if_neg c, if_neg d, ← sm_vn4 hL hNd hv ht] at hK
      refine y_callV rfl (hH.vo (hv)) (cls_tab _ _) (c_needInAll hH hN hB hv ht ?_)
      exact hK
    have e : ¬ w = 2 := e
    have h10 : InR w 10 13 := by
      rcases hw with hw | hw
      · exfalso
        obtain ⟨j, hj, rfl⟩ := inR_of (n := 2) (by omega) hw
        have : j = 0 ∨ j = 1 ∨ j = 2 := by omega
        rcases this with rfl | rfl | rfl
        · exact c rfl
        · exact d rfl
        · exact e rfl
      · exact hw
    rw [if_pos h10.1] at hK
    refine y_get hF.1 (by decide) rfl ?_
    refine y_call1 hH.1 (c_hasVillage hH ?_)
    refine b_Z (fun u => ?_) (fun u => ?_)
    · rw [if_neg u] at hK
      exact hK
    · rw [if_pos u] at hK
      obtain ⟨u9, hu9, eu⟩ := isV_of u (by omega)
      have eu : w - 10 = nI u9 := eu
      rw [eu, ix_nI (by omega)] at hK
      refine y_get (hH.vo (hv)) (cls_in _) rfl ?_
      refine y_ra t (hH.no hv) (by omega) rfl ?_
      refine y_ia u9 (hH.nr hv (by omega)) (by omega) (hN v t u9 hv ht (by omega)) ?_ eu
      exact hK
  refine b_cases (fun c => ?_) (fun c => ?_)
  · rw [if_neg (fun r => r.elim (fun r => nlt.mpr r.1 c) (fun r => nlt.mpr (Int32.le_trans (show (0 : Int32) ≤ 10 by decide) r.1) c))] at hK
    exact hK
  refine b_cases (fun d => ?_) (fun d => ?_)
  · exact g1 (Or.inl ⟨nlt.mp c, d⟩)
  refine y_callS (k_isOfVillage ?_)
  refine b_Z (fun e => ?_) (fun e => ?_)
  · rw [if_neg (fun r => r.elim (fun r => d r.2) e)] at hK
    exact hK
  · exact g1 (Or.inr e)
theorem cc_ahead {x y z w : Int32} (hok : StOk S) (hC : ClsH g rl h a S) (hK : K (some (.int (sp_ahead S x y z w))) h) : Run l g d_X9_ahead [.ref a, .int x, .int y, .int z, .int w] h 0 0 K := by
  obtain ⟨f, I, ca, sv, B, β, ad, A, hF, hFM, hO⟩ := hC
  obtain ⟨hβ, hH, hm, hl, hN, hfr, hdn, hsv⟩ := id hO
  have hL := hok.2.1
  have hB := hL.b
  have b1 := hL.1
  have hNd := hok.2.2.2.2.1.2.1
  unfold sp_ahead at hK
  refine vc_X9_ahead (fun G hG => ?_)
  refine hG 0 _ _ _ _ _ ?_
  refine y_get hF.1 (by decide) rfl ?_
  refine y_call1 hH.1 (c_hasThing hH hm b1 ?_)
  refine b_Z (fun c => ?_) (fun c => ?_)
  · rw [if_neg (fun r => c r.1)] at hK
    exact hK
  refine y_get hF.1 (by decide) rfl ?_
  refine y_call1 hH.1 (c_hasThing hH hm b1 ?_)
  refine b_Z (fun d => ?_) (fun d => ?_)
  · rw [if_neg (fun r => d r.2)] at hK
    exact hK
  rw [if_pos ⟨c, d⟩] at hK
  obtain ⟨v, hv, rfl⟩ := isV_of c.1 (by omega)
  obtain ⟨u, hu, rfl⟩ := isV_of d.1 (by omega)
  have ct := c.2
  have dt := d.2
  rw [show (nI v).toNatClampNeg = v from nI_clamp (by omega)] at ct
  rw [show (nI u).toNatClampNeg = u from nI_clamp (by omega)] at dt
  have b5 := (hB.2 v hv).2.1
  have b6 := (hB.2 u hu).2.1
  obtain ⟨t, ht, rfl⟩ := isV_of ct (by omega)
  obtain ⟨o, ho, rfl⟩ := isV_of dt (by omega)
  rw [ix_nI (show v < 2 ^ 31 by omega), ix_nI (show t < 2 ^ 31 by omega), ix_nI (show u < 2 ^ 31 by omega), ix_nI (show o < 2 ^ 31 by omega)] at hK
  have g1 : ¬ (nI v = nI u ∧ nI t = nI o) → G 1 h 0 0 [some (.ref a), some (.int (nI v)), some (.int (nI t)), some (.int (nI u)), some (.int (nI o))] [] := fun hn => by
    rw [if_neg hn] at hK
    refine hG 1 _ _ _ _ _ ?_
    refine y_get hF.1 (by decide) rfl ?_
    refine y_call1 hH.1 (c_isAhead hH hN hL hNd hv hu ho ht ?_)
    refine b_Z (fun p => ?_) (fun p => ?_)
    · rw [if_neg p] at hK
      refine y_get hF.1 (by decide) rfl ?_
      refine y_call1 hH.1 (c_isAhead hH hN hL hNd hu hv ht ho ?_)
      refine b_Z (fun q => ?_) (fun q => ?_)
      · rw [if_neg q] at hK
        exact hK
      · rw [if_pos q] at hK
        exact hK
    · rw [if_pos p] at hK
      exact hK
  refine b_cases (fun p => ?_) (fun p => ?_)
  · refine b_cases (fun q => ?_) (fun q => ?_)
    · rw [if_pos ⟨p, q⟩] at hK
      exact hK
    · exact g1 (fun r => q r.2)
  · exact g1 (fun r => p r.1)
end CC2

