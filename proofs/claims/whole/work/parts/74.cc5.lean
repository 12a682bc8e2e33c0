section CC5
variable {l : Launch} {g : Gm} {rl rl1 : Nat → Nat} {h h1 : Hp} {K : PT} {a : Nat} {S : St} {f : Nat → Nat} {I : Nat → Int32} {ca : Nat} {sv : Nat × Int32} {B : Nat → Nat → Int32} {β : Nat} {ad : Nat → Nat} {A : Nat → Nat → Int32}
theorem tcut_cbe {L : Ld} {nd : NT} {c ac : Nat → Nat} (hc : Cbe L nd c) : ∀ t, (∀ k, k < t → Rdy L nd (tcut c ac k) (ac k)) → Cbe L nd (tcut c ac t)
  | 0, _ => hc
  | t + 1, h => cbe_up (tcut_cbe hc t (fun k hk => h k (by omega))) (h t (by omega))
/-- the working row changed alone -/
theorem FcM.wk {F : Nat → Int32} (hM : FcM I B S) (h8 : sRn S ≤ 8) : FcM I (va_up B 4 F) S := by
  refine ⟨hM.1, hM.2.1, hM.2.2.1, fun k hk => ?_, hM.2.2.2.2.1, fun r hr => ?_⟩
  · rw [va_n (show 10 + k ≠ 4 by omega), va_n (show 20 + k ≠ 4 by omega)]; exact hM.2.2.2.1 k hk
  · rw [va_n (show 6 ≠ 4 by omega), va_n (show 30 + r ≠ 4 by omega)]; exact hM.2.2.2.2.2 r hr
theorem k_endOfTale {j p n : Nat} {w : Int32} {x1 x2 : Int32} {ac : Nat → Nat} (hok : StOk S) (hF : FcH g rl h a f I ca sv B) (hFM : FcM I B S) (hO : CoH g rl h β ca ad A sv (sL S) (sN S) (sD S)) (hj : j < 4) (hn : p + n ≤ 60) (hac : ∀ k, k < n → ac k < vn (sL S) ∧ sCe S j (p + k) = nI (ac k)) (hK : ∀ h1, ClsH g rl h1 a S → Ex CXp rl h rl h1 → K (some (.int (rtale S ac n w))) h1) (e1 : x1 = nI p := by rfl) (e2 : x2 = nI n := by rfl) : Run l g d_X9_endOfTale [.ref a, .ref (f (10 + j)), .int x1, .int x2, .int w] h 0 0 K := by
  subst e1 e2
  have hL := hok.2.1
  have hB := hL.b
  have b1 := hL.1
  have rn8 := hok.2.2.2.2.2.1
  have hT := hok.2.2.2.2.1.1
  have hNd := hok.2.2.2.2.1.2.1
  have hR := rw_done hok hO
  have hm := hO.2.2.1
  have hl := hO.2.2.2.1
  unfold rtale at hK
  refine vc_X9_endOfTale (fun G hG => ?_)
  have loop : ∀ i k, k + i = n → ∀ (h2 : Hp) (F : Nat → Int32), FcH g rl h2 a f I ca sv (va_up B 4 F) → CoH g rl h2 β ca ad A sv (sL S) (sN S) (sD S) → Ex CXp rl h rl h2 → (∀ v, v < vn (sL S) → F v = nI (tcut (sD S) ac k v)) → (∀ q, q < k → Rdy (sL S) (sN S) (tcut (sD S) ac q) (ac q)) → tgr (sL S) (sD S) ac k ≤ 72 → ∀ o7 : Option Value, G 1 h2 0 0 [some (.ref a), some (.ref (f (10 + j))), some (.int (nI p)), some (.int (nI n)), some (.int w), some (.int (nI (tgr (sL S) (sD S) ac k))), some (.int (nI k)), o7] [] := by
    intro i
    induction i with
    | zero =>
      intro k hk h2 F hF hO hx hFv hrd hg7 o7
      have ek : k = n := by omega
      subst ek
      have hH := hO.2.1
      have hRw : RwC F (sL S) (tcut (sD S) ac k) := ⟨tcut_ok hR.1 k hrd, hFv⟩
      have etw : twr S ac k = k := fst_all (fun q hq => decide_eq_true (hrd q hq))
      rw [etw, if_neg (Nat.lt_irrefl k), if_neg (Nat.lt_irrefl k)] at hK
      have hC : ClsH g rl h2 a S := ⟨f, I, ca, sv, _, β, ad, A, hF, hFM.wk rn8, hO⟩
      have hK := hK h2 hC hx
      refine hG 1 _ _ _ _ _ ?_
      refine b_ge k k (fun _ => ?_) (fun _ => by omega)
      refine b_cases (fun c => ?_) (fun c => ?_)
      · have c : w = 0 := c
        rw [if_neg (by rw [c]; decide), if_pos c] at hK
        refine y_get hF.1 (by decide) rfl ?_
        refine y_get hF.1 (by decide) rfl ?_
        refine y_call1 hH.1 (c_sumOf hH hm hB hF.wk hRw ?_)
        exact hK
      have c0 : ¬ w = 0 := c
      refine b_cases (fun c => ?_) (fun c => ?_)
      · have c : w = 1 := c
        rw [if_pos c] at hK
        exact hK
      have c1 : ¬ w = 1 := c
      rw [if_neg c1, if_neg c0] at hK
      refine b_cases (fun c => ?_) (fun c => ?_)
      · rw [if_pos c] at hK
        refine y_get hF.1 (by decide) rfl ?_
        refine y_get hF.1 (by decide) rfl ?_
        refine y_call1 hH.1 (c_underWay hH hB hT hl hF.wk hRw ?_)
        exact hK
      rw [if_neg c] at hK
      refine b_cases (fun c => ?_) (fun c => ?_)
      · rw [if_pos c] at hK
        exact hK
      · rw [if_neg c] at hK
        refine y_get hF.1 (by decide) rfl ?_
        refine y_call1 hF.1 (k_countOf (y := nI (tcut (sD S) ac k (ix (w - 10)))) hF hH b1 hF.wk (fun v hv ev => ?_) ?_)
        · have ev : w - 10 = nI v := ev
          rw [ev, ix_nI (by omega)]
          exact hFv v hv
        · exact hK
    | succ i ih =>
      intro k hk h2 F hF hO hx hFv hrd hg7 o7
      have hH := hO.2.1
      have hcut := tcut_ok (nd := sN S) hR.1 k hrd
      have hcb := tcut_cbe hok.2.2.2.2.1.2.2 k hrd
      have hRw : RwC F (sL S) (tcut (sD S) ac k) := ⟨hcut, hFv⟩
      obtain ⟨hv, hcell⟩ := hac k (by omega)
      have hcell2 : va_up B 4 F (20 + j) (p + k) = nI (ac k) := by rw [va_n (by omega)]; exact ((hFM.2.2.2.1 j hj).2.2.2 _ (by omega)).trans hcell
      have hiff := go_rdy hL hT hNd hcut hcb hv
      have b5 := (hB.2 _ hv).2.1
      have b6 := hcut _ hv
      refine hG 1 _ _ _ _ _ ?_
      refine b_ge k n (fun _ => by omega) (fun _ => ?_)
      refine y_get (hF.so hj) (by decide) rfl ?_
      refine y_ia (p + k) (hF.sc hj) (by omega) hcell2 ?_ (nI_add p k)
      refine y_get hF.1 (by decide) rfl ?_
      refine y_get hF.1 (by decide) rfl ?_
      refine y_call1 hH.1 (c_goesOn hH hm hB hT hl hF.wk hRw hv ?_)
      refine b_Z (fun z => ?_) (fun z => ?_)
      · have z : ¬ Rdy (sL S) (sN S) (tcut (sD S) ac k) (ac k) := fun r => z (hiff.mpr r)
        have etw : twr S ac n = k := fst_no (fun q hq => decide_eq_true (hrd q hq)) (decide_eq_false z) (by omega)
        have hkn : k < n := by omega
        rw [etw, if_pos hkn, if_pos hkn] at hK
        have hC : ClsH g rl h2 a S := ⟨f, I, ca, sv, _, β, ad, A, hF, hFM.wk rn8, hO⟩
        have hK := hK h2 hC hx
        refine b_cases (fun c => ?_) (fun c => ?_)
        · rw [if_pos c] at hK; exact hK
        · rw [if_neg c] at hK; exact hK
      · have z := hiff.mp z
        refine y_get hF.1 (by decide) rfl ?_
        refine y_ia (ac k) hF.wk (by omega) (hFv _ hv) ?_
        refine y_is (ac k) hF.wk (by omega) (fun h3 e3 x3 => ?_)
        have hF := hF.up 4 x3 (by omega) (fun _ => e3) (fun z => by omega) (fun i hi z => by omega) (fun i hi z => by omega) (fun i hi z => by omega)
        rw [up_up] at hF
        have hO := hO.ex b1 x3 (by omega)
        have hH := hO.2.1
        have hF9 : ∀ v, v < vn (sL S) → upd F (ac k) (nI (tcut (sD S) ac k (ac k)) + 1) v = nI (tcut (sD S) ac (k + 1) v) := fun v hv9 => by
          show _ = nI (updN (tcut (sD S) ac k) (ac k) (tcut (sD S) ac k (ac k) + 1) v)
          by_cases e : v = ac k
          · rw [e, pk_us, updN_s, nI_succ]
          · rw [pk_un e, updN_n e]; exact hFv v hv9
        have hrd9 : ∀ q, q < k + 1 → Rdy (sL S) (sN S) (tcut (sD S) ac q) (ac q) := lt_s hrd z
        have hR9 : RwC (upd F (ac k) (nI (tcut (sD S) ac k (ac k)) + 1)) (sL S) (tcut (sD S) ac (k + 1)) := ⟨tcut_ok hR.1 _ hrd9, hF9⟩
        have bS := sumC_le hL hR9.1
        refine y_get hF.1 (by decide) rfl ?_
        refine y_get hF.1 (by decide) rfl ?_
        refine y_call1 hH.1 (c_sumOf hH hm hB hF.wk hR9 ?_)
        refine y_max (a := tgr (sL S) (sD S) ac k) (b := sumC (sL S) (tcut (sD S) ac (k + 1))) ?_
        have ih9 := ih (k + 1) (by omega) h3 _ hF hO (hx.trs (fcx x3 (by omega))) hF9 hrd9 (by show max _ _ ≤ 72; omega)
        rw [nI_succ k] at ih9
        exact ih9 _
  refine hG 0 _ _ _ _ _ ?_
  have hH := hO.2.1
  refine y_get hF.1 (by decide) rfl ?_
  refine y_get hH.1 (by decide) rfl ?_
  refine y_get hF.1 (by decide) rfl ?_
  refine y_copy 0 0 4 hH.dn hF.wk (by omega) (by omega) (fun h2 e2 x2 => ?_)
  have hF := hF.up 4 x2 (by omega) (fun _ => e2) (fun z => by omega) (fun i hi z => by omega) (fun i hi z => by omega) (fun i hi z => by omega)
  have hO := hO.ex b1 x2 (by omega)
  have hH := hO.2.1
  have hF9 : ∀ v, v < vn (sL S) → va_cpy (A 4) (B 4) 0 0 4 v = nI (sD S v) := fun v hv => by
    unfold va_cpy
    rw [if_pos (by omega), Nat.sub_zero, Nat.zero_add]
    exact hR.2 v hv
  refine y_get hF.1 (by decide) rfl ?_
  refine y_get hF.1 (by decide) rfl ?_
  refine y_call1 hH.1 (c_sumOf hH hm hB hF.wk ⟨hR.1, hF9⟩ ?_)
  exact loop n 0 (by omega) h2 _ hF hO (fcx x2 (by omega)) hF9 (fun q hq => absurd hq (Nat.not_lt_zero q)) (sumC_le hL hR.1) none
theorem cc_tale {sh lane i n w : Int32} (hok : StOk S) (hC : ClsH g rl h a S) (hK : ∀ h1, ClsH g rl h1 a (st_tale S sh lane i n w) → Ex CXp rl h rl h1 → K (some (.int (sp_tale S sh lane i n w))) h1) : Run l g d_X9_tale [.ref a, .int sh, .int lane, .int i, .int n, .int w] h 0 0 K := by
  obtain ⟨f, I, ca, sv, B, β, ad, A, hF, hFM, hO⟩ := hC
  obtain ⟨hβ, hH, hm, hl, hN, hfr, hdn, hsv⟩ := id hO
  have hL := hok.2.1
  have hB := hL.b
  have b1 := hL.1
  unfold st_tale sp_tale tlr at hK
  refine vc_X9_tale (fun G hG => ?_)
  refine hG 0 _ _ _ _ _ ?_
  refine y_putI hF.1 (by decide) (Nat.le_of_ble_eq_true rfl) rfl (fun h1 e1 x1 => ?_)
  have hF := hF.ob (I2 := upd I 1 0) e1 x1 rfl
  have hFM := hFM.fa 0
  have hO := hO.ex b1 x1 (by omega)
  have hH := hO.2.1
  have hx := fcx x1 (by omega)
  have hC1 : ClsH g rl h1 a (setFa S 0) := ⟨f, _, ca, sv, B, β, ad, A, hF, hFM, hO⟩
  refine y_callS (k_isSheet ?_)
  refine b_Z (fun z => ?_) (fun z => ?_)
  · rw [if_neg z] at hK
    exact hK h1 hC1 hx
  rw [if_pos z] at hK
  refine y_callS (k_isLane ?_)
  refine b_Z (fun y => ?_) (fun y => ?_)
  · rw [if_neg (fun r => y r.1)] at hK
    exact hK h1 hC1 hx
  refine b_cases (fun c => ?_) (fun c => ?_)
  · rw [if_neg (fun r => nlt.mpr r.2.1.1 c)] at hK
    exact hK h1 hC1 hx
  refine b_cases (fun d => ?_) (fun d => ?_)
  · rw [if_neg (fun r => nlt.mpr r.2.1.2 d)] at hK
    exact hK h1 hC1 hx
  refine y_callS (k_isQuestion ?_)
  refine b_Z (fun e => ?_) (fun e => ?_)
  · rw [if_neg (fun r => e r.2.2)] at hK
    exact hK h1 hC1 hx
  have hn : InR n 0 20 := ⟨nlt.mp c, nlt.mp d⟩
  have hall : InR lane 0 2 ∧ InR n 0 20 ∧ Ask w := ⟨y, hn, e⟩
  rw [if_pos hall] at hK
  clear hall
  obtain ⟨j, hj, rfl, ej⟩ := shx z
  rw [ej] at hK
  have hle : sLe S j ≤ 60 := (hok.1 j hj).2
  refine y_get hF.1 (by decide) rfl ?_
  refine y_ra j hF.2.1 (by omega) rfl ?_
  refine y_call1 (hF.so hj) (k_faultOfTaking hF hFM hj ?_)
  refine b_cases (fun b => ?_) (fun b => ?_)
  · have b : agst (sSo S j) (sLe S j) lane i n = 0 := b
    rw [if_pos b] at hK
    obtain ⟨n9, hn9, rfl⟩ := inR_of (n := 20) (by omega) hn
    obtain ⟨p, rfl, hp, -, -⟩ := agst_0 hle (by omega) b
    rw [ix_nI (show p < 2 ^ 31 by omega), ix_nI (show n9 < 2 ^ 31 by omega)] at hK
    refine y_get hF.1 (by decide) rfl ?_
    refine y_get hH.1 (by decide) rfl ?_
    refine pk_eq (vn (sL S)) 0 (fun v0 => ?_) (fun v0 => ?_)
    · rw [if_pos v0] at hK
      exact hK h1 hC1 hx
    rw [if_neg v0] at hK
    have tac : ∀ k, tact S (nI j) (nI p) k = ix (sCe S j (p + k)) := fun k => by
      unfold tact
      rw [ix_nI (show j < 2 ^ 31 by omega), ix_nI (show p < 2 ^ 31 by omega)]
    have loop : ∀ i k, k + i = n9 → (∀ q, q < k → IsV (sCe S j (p + q)) (vn (sL S))) → ∀ o7 : Value, G 1 h1 0 0 [some (.ref a), some (.int (nI j)), some (.int lane), some (.int (nI p)), some (.int (nI n9)), some (.int w), some (.ref (f (10 + j))), some o7, some (.int (nI k))] [] := by
      intro i
      induction i with
      | zero =>
        intro k hk hq o7
        have hall : ∀ k, k < n9 → IsV (sCe S j (p + k)) (vn (sL S)) := fun q hq9 => hq q (by omega)
        rw [if_pos hall] at hK
        refine hG 1 _ _ _ _ _ ?_
        refine b_ge k n9 (fun _ => ?_) (fun _ => by omega)
        refine y_call1 hF.1 (k_endOfTale (S := setFa S 0) (p := p) (n := n9) (ac := tact S (nI j) (nI p)) hok hF hFM hO hj (by omega) (fun q hq9 => ?_) (fun h2 hC2 x2 => ?_))
        · obtain ⟨v, hv, ev⟩ := isV_of (hall q hq9) (by omega)
          rw [tac, ev, ix_nI (by omega)]
          exact ⟨hv, rfl⟩
        · exact hK h2 hC2 (hx.trs x2)
      | succ i ih =>
        intro k hk hq o7
        refine hG 1 _ _ _ _ _ ?_
        refine b_ge k n9 (fun _ => by omega) (fun _ => ?_)
        refine y_get hF.1 (by decide) rfl ?_
        refine y_get (hF.so hj) (by decide) rfl ?_
        refine y_ia (p + k) (hF.sc hj) (by omega) ((hFM.2.2.2.1 j hj).2.2.2 _ (by omega)) ?_ (nI_add p k)
        refine y_call1 hH.1 (c_hasVillage hH ?_)
        refine b_Z (fun r => ?_) (fun r => ?_)
        · have r : ¬ IsV (sCe S j (p + k)) (vn (sL S)) := r
          rw [if_neg (fun r9 => r (r9 k (by omega)))] at hK
          exact hK h1 hC1 hx
        · have ih9 := ih (k + 1) (by omega) (lt_s hq r)
          rw [nI_succ k] at ih9
          exact ih9 _
    exact loop n9 0 (by omega) (fun q hq => absurd hq (Nat.not_lt_zero q)) _
  · have b : ¬ agst (sSo S j) (sLe S j) lane i n = 0 := b
    rw [if_neg b] at hK
    refine y_call1 hF.1 (k_fallen hF (fun h2 hF2 x2 => ?_))
    exact hK h2 ⟨f, _, ca, sv, B, β, ad, A, hF2, ⟨hFM.1, rfl, hFM.2.2⟩, hO.ex b1 x2 (by omega)⟩ (hx.trs (fcx x2 (by omega)))
theorem val_setK {L : Ld} {v k w : Nat} : ∀ t, val (setK L v k) w t = val L w t
  | 0 => rfl
  | t + 1 => by
    rw [val_succ, val_succ, val_setK t]
    rfl
theorem sum_setK {L : Ld} {v k : Nat} {c : Nat → Nat} (hv : v < vn L) : sumC (setK L v k) c + wor (kd L v) (val L v (c v)) = sumC L c + wor k (val L v (c v)) := by
  have := sm_one (n := vn L) (v := v) (f := fun w => wor (kd L w) (val L w (c w))) (f' := fun w => wor (kd (setK L v k) w) (val (setK L v k) w (c w))) (fun w hw hne => by
    rw [val_setK]
    show wor (updN (kd L) v k w) _ = _
    rw [updN_n hne]) hv
  rw [val_setK, show kd (setK L v k) v = k from updN_s] at this
  exact this
theorem k_areReadingsSo {v k : Nat} (hok : StOk S) (hF : FcH g rl h a f I ca sv B) (hFM : FcM I B S) (hO : CoH g rl h β ca ad A sv (sL S) (sN S) (sD S)) (hv : v < vn (sL S)) (hk : k ≤ 2) (hK : K (some (.int (bP (arB (setK (sL S) v k) S = true)))) h) : Run l g d_X9_areReadingsSo [.ref a, .int (nI v), .int (nI k)] h 0 0 K := by
  have hL := hok.2.1
  have hB := hL.b
  have b1 := hL.1
  have rn8 := hok.2.2.2.2.2.1
  have hrd := hok.2.2.2.2.2.2
  have hm := hO.2.2.1
  have hH := hO.2.1
  refine vc_X9_areReadingsSo (fun G hG => ?_)
  have loop : ∀ i r, r + i = sRn S → (∀ q, q < r → sumC (setK (sL S) v k) (sRc S q) = sRs S q) → ∀ o5 o6 : Option Value, G 1 h 0 0 [some (.ref a), some (.int (nI v)), some (.int (nI k)), some (.ref (ad (20 + v))), some (.int (nI r)), o5, o6] [] := by
    intro i
    induction i with
    | zero =>
      intro r hr hq o5 o6
      refine hG 1 _ _ _ _ _ ?_
      refine y_get hF.1 (by decide) rfl ?_
      rw [hFM.1]
      refine b_ge r (sRn S) (fun _ => ?_) (fun _ => by omega)
      exact z1 (arB_iff.mpr (fun q hq9 => hq q (by omega))) hK
    | succ i ih =>
      intro r hr hq o5 o6
      obtain ⟨d1, d2⟩ := hrd r (by omega)
      obtain ⟨m1, m2⟩ := hFM.2.2.2.2.2 r (by omega)
      have hRw : RwC (B (30 + r)) (sL S) (sRc S r) := ⟨d1, m2⟩
      have bS := sumC_le hL d1
      have bw : ∀ k, wor k (val (sL S) v (sRc S r v)) ≤ 18 := fun k => wor_le (val_le hL hv _ (d1 v hv))
      have bw1 := bw (kd (sL S) v)
      have bw2 := bw k
      have hse := sum_setK (L := sL S) (v := v) (k := k) (c := sRc S r) hv
      have hge : wor (kd (sL S) v) (val (sL S) v (sRc S r v)) ≤ sumC (sL S) (sRc S r) := by
        have := sm_lt2 (f := fun w => if w = v then wor (kd (sL S) v) (val (sL S) v (sRc S r v)) else 0) (k := fun w => wor (kd (sL S) w) (val (sL S) w (sRc S r w)) + (if w = v then 1 else 0)) (u := v) (vn (sL S)) (fun w hw => by
          by_cases e : w = v
          · subst e; rw [if_pos rfl, if_pos rfl]; omega
          · rw [if_neg e]; exact Nat.zero_le _) hv (by rw [if_pos rfl, if_pos rfl]; omega)
        rw [sm_single (v := v) (fun w _ hne => if_neg hne) hv, if_pos rfl, sm_add, sm_single (f := fun w => if w = v then 1 else 0) (v := v) (fun w _ hne => if_neg hne) hv, if_pos rfl] at this
        show _ ≤ sm (fun w => wor (kd (sL S) w) (val (sL S) w (sRc S r w))) (vn (sL S))
        omega
      refine hG 1 _ _ _ _ _ ?_
      refine y_get hF.1 (by decide) rfl ?_
      rw [hFM.1]
      refine b_ge r (sRn S) (fun _ => by omega) (fun _ => ?_)
      refine y_get hF.1 (by decide) rfl ?_
      refine y_ra r hF.rc (by omega) rfl ?_
      refine y_get hF.1 (by decide) rfl ?_
      have hrr := hF.rr (r := r) (by omega)
      refine y_call1 hH.1 (c_sumOf hH hm hB hrr hRw ?_)
      refine y_ia v hrr (by omega) (m2 v hv) ?_
      refine y_callV rfl (hH.vo (hv)) (cls_tab _ _) (c_worthAt hH hm hB hv (d1 v hv) ?_)
      refine y_ia v hrr (by omega) (m2 v hv) ?_
      refine y_callV rfl (hH.vo (hv)) (cls_tab _ _) (c_valueAt hH hm hB hv (d1 v hv) ?_)
      refine y_callS (c_worthAs hk ?_)
      refine y_get hF.1 (by decide) rfl ?_
      refine y_ia r hF.rs (by omega) m1 ?_
      refine pk_eq (sumC (setK (sL S) v k) (sRc S r)) (sRs S r) (fun e => ?_) (fun e => ?_) ?_ rfl (by omega) (by omega)
      · have ih9 := ih (r + 1) (by omega) (lt_s hq e)
        rw [nI_succ r] at ih9
        exact ih9 _ _
      · exact z0 (fun z => e (arB_iff.mp z r (by omega))) hK
      · show nI (sumC (sL S) (sRc S r)) - nI (wor (kd (sL S) v) (val (sL S) v (sRc S r v))) + nI (wor k (val (sL S) v (sRc S r v))) = _
        rw [pk_sub hge, nI_add]
        congr 1
        omega
  refine hG 0 _ _ _ _ _ ?_
  refine y_get hF.1 (by decide) rfl ?_
  refine y_get hH.1 (by decide) rfl ?_
  refine y_ra (v) hH.2.1 (by omega) (if_pos (hv)) ?_
  exact loop (sRn S) 0 (by omega) (fun q hq => absurd hq (Nat.not_lt_zero q)) _ _
theorem cc_kinds {x : Int32} (hok : StOk S) (hC : ClsH g rl h a S) (hK : K (some (.int (sp_kinds S x))) h) : Run l g d_X9_kinds [.ref a, .int x] h 0 0 K := by
  obtain ⟨f, I, ca, sv, B, β, ad, A, hF, hFM, hO⟩ := hC
  obtain ⟨hβ, hH, hm, hl, hN, hfr, hdn, hsv⟩ := id hO
  have hL := hok.2.1
  have hB := hL.b
  have b1 := hL.1
  unfold sp_kinds at hK
  refine vc_X9_kinds (fun G hG => ?_)
  refine hG 0 _ _ _ _ _ ?_
  refine y_get hF.1 (by decide) rfl ?_
  refine y_call1 hH.1 (c_hasVillage hH ?_)
  refine b_Z (fun z => ?_) (fun z => ?_)
  · rw [if_neg z] at hK
    exact hK
  rw [if_pos z] at hK
  obtain ⟨v, hv, rfl⟩ := isV_of z (by omega)
  rw [ix_nI (by omega)] at hK
  have hK : K (some (.int (ub (fun k => arB (setK (sL S) v k) S) 3))) h := hK
  have loop : ∀ i k, k + i = 3 → G 1 h 0 0 [some (.ref a), some (.int (nI v)), some (.int (ub (fun k => arB (setK (sL S) v k) S) k)), some (.int (nI k))] [] := by
    intro i
    induction i with
    | zero =>
      intro k hk
      refine hG 1 _ _ _ _ _ ?_
      refine b_ge k 3 (fun _ => ?_) (fun _ => by omega)
      rw [show k = 3 by omega]
      exact hK
    | succ i ih =>
      intro k hk
      have ih9 := ih (k + 1) (by omega)
      rw [nI_succ k, ub_succ] at ih9
      refine hG 1 _ _ _ _ _ ?_
      refine b_ge k 3 (fun _ => by omega) (fun _ => ?_)
      refine y_call1 hF.1 (k_areReadingsSo hok hF hFM hO hv (by omega) ?_)
      refine b_Z (fun y => ?_) (fun y => ?_)
      · rw [if_neg y, or_0] at ih9
        exact ih9
      · rw [if_pos y] at ih9
        exact ih9
  exact loop 3 0 (by omega)
end CC5

