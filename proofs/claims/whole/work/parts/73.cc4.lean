section CC4
variable {l : Launch} {g : Gm} {rl rl1 : Nat → Nat} {h h1 : Hp} {K : PT} {a : Nat} {S : St} {f : Nat → Nat} {I : Nat → Int32} {ca : Nat} {sv : Nat × Int32} {B : Nat → Nat → Int32} {β : Nat} {ad : Nat → Nat} {A : Nat → Nat → Int32}
theorem k_countOf {b ρ : Nat} {C : Nat → Int32} {x y : Int32} {L : Ld} {th : Int32} (hF : FcH g rl h a f I ca sv B) (hH : LnH g rl h β ca ad th L A) (b1 : vn L ≤ 4) (hc : Ia g rl h b ρ 4 C) (hy : ∀ v, v < vn L → x = nI v → C v = y) (hK : K (some (.int (if IsV x (vn L) then y else -9))) h) : Run l g d_X9_countOf [.ref a, .ref b, .int x] h 0 0 K := by
  refine vc_X9_countOf (fun G hG => ?_)
  refine hG 0 _ _ _ _ _ ?_
  refine y_get hF.1 (by decide) rfl ?_
  refine y_call1 hH.1 (c_hasVillage hH ?_)
  refine b_Z (fun z => ?_) (fun z => ?_)
  · rw [if_neg z] at hK
    exact hK
  · rw [if_pos z] at hK
    obtain ⟨v, hv, rfl⟩ := isV_of z (by omega)
    refine y_ia v hc (by omega) (hy v hv rfl) ?_
    exact hK
theorem k_takeCut {sh lane i x : Int32} {ok : Prop} [Decidable ok] (hok : StOk S) (hF : FcH g rl h a f I ca sv B) (hFM : FcM I B S) (hO : CoH g rl h β ca ad A sv (sL S) (sN S) (sD S))
    (hK : ∀ (h1 : Hp) (F : Nat → Int32), FcH g rl h1 a f (upd I 1 (tkr S sh lane i ok).2) ca sv (va_up B 3 F) → FcM (upd I 1 (tkr S sh lane i ok).2) (va_up B 3 F) (setFa S (tkr S sh lane i ok).2) → CoH g rl h1 β ca ad A sv (sL S) (sN S) (sD S) → Ex CXp rl h rl h1 → ((tkr S sh lane i ok).1 = 0 → RwC F (sL S) (ctk S sh i)) → K (some (.int (tkr S sh lane i ok).1)) h1) (ex : x = bP ok := by rfl) : Run l g d_X9_takeCut [.ref a, .int sh, .int lane, .int i, .int x] h 0 0 K := by
  subst ex
  have hL := hok.2.1
  have hB := hL.b
  have b1 := hL.1
  have rn8 := hok.2.2.2.2.2.1
  unfold tkr at hK
  refine vc_X9_takeCut (fun G hG => ?_)
  -- the row of the cut told: it may be changed in part
  have fin : ∀ (h2 : Hp) (F : Nat → Int32) (y z : Int32), FcH g rl h2 a f (upd I 1 z) ca sv (va_up B 3 F) → CoH g rl h2 β ca ad A sv (sL S) (sN S) (sD S) → (∀ u, u < 4 → ∃ x, x ≤ 5 ∧ F u = nI x) → Ex CXp rl h rl h2 → FcM (upd I 1 z) (va_up B 3 F) (setFa S z) := fun h2 F y z hF hO hu hx => by
    refine ⟨hFM.1, rfl, hFM.2.2.1, fun k hk => ?_, hu, fun r hr => ?_⟩
    · rw [va_n (by omega), va_n (by omega)]; exact hFM.2.2.2.1 k hk
    · have hr : r < sRn S := hr
      rw [va_n (by omega), va_n (by omega)]; exact hFM.2.2.2.2.2 r hr
  have same : va_up B 3 (B 3) = B := up_id B 3
  refine hG 0 _ _ _ _ _ ?_
  refine y_putI hF.1 (by decide) (Nat.le_of_ble_eq_true rfl) rfl (fun h1 e1 x1 => ?_)
  have hF := hF.ob (I2 := upd I 1 0) e1 x1 rfl
  have hO := hO.ex b1 x1 (by omega)
  have hH := hO.2.1
  have hm := hO.2.2.1
  have hx := fcx x1 (by omega)
  have hF0 : FcH g rl h1 a f (upd I 1 0) ca sv (va_up B 3 (B 3)) := by rw [same]; exact hF
  have hM0 := fin h1 (B 3) 0 0 hF0 hO hFM.2.2.2.2.1 hx
  refine y_get hF.1 (by decide) rfl ?_
  refine y_get hH.1 (by decide) rfl ?_
  refine pk_eq (vn (sL S)) 0 (fun z => ?_) (fun z => ?_)
  · rw [if_pos z] at hK
    exact hK h1 (B 3) hF0 hM0 hO hx (fun e => absurd e (by decide))
  rw [if_neg z] at hK
  refine y_callS (k_isSheet ?_)
  refine b_Z (fun y => ?_) (fun y => ?_)
  · rw [if_neg y] at hK
    exact hK h1 (B 3) hF0 hM0 hO hx (fun e => absurd e (by decide))
  rw [if_pos y] at hK
  refine y_callS (k_isLane ?_)
  refine b_Z (fun w => ?_) (fun w => ?_)
  · rw [if_neg w] at hK
    exact hK h1 (B 3) hF0 hM0 hO hx (fun e => absurd e (by decide))
  rw [if_pos w] at hK
  refine b_Z (fun u => ?_) (fun u => ?_)
  · rw [if_neg u] at hK
    exact hK h1 (B 3) hF0 hM0 hO hx (fun e => absurd e (by decide))
  rw [if_pos u] at hK
  obtain ⟨j, hj, rfl, ej⟩ := shx y
  rw [ej] at hK
  have hle : sLe S j ≤ 60 := (hok.1 j hj).2
  have hM1 : FcM (upd I 1 0) B (setFa S 0) := hFM.fa 0
  refine y_get hF.1 (by decide) rfl ?_
  refine y_ra j hF.2.1 (by omega) rfl ?_
  refine y_get hF.1 (by decide) rfl ?_
  refine y_get hH.1 (by decide) rfl ?_
  refine y_call1 (hF.so hj) (k_faultOfTaking hF hM1 hj ?_)
  refine b_cases (fun c => ?_) (fun c => ?_)
  · have c : agst (sSo S j) (sLe S j) lane i (nI (vn (sL S))) = 0 := c
    rw [if_pos c] at hK
    obtain ⟨p, rfl, hp, -, -⟩ := agst_0 hle (by omega) c
    rw [ix_nI (show p < 2 ^ 31 by omega)] at hK
    have hctk : ∀ v, ctk S (nI j) (nI p) v = ix (sCe S j (p + v)) := fun v => by
      unfold ctk
      rw [ix_nI (show j < 2 ^ 31 by omega), ix_nI (show p < 2 ^ 31 by omega)]
    have loop : ∀ k v, v + k = vn (sL S) → ∀ (h2 : Hp) (F : Nat → Int32), FcH g rl h2 a f (upd I 1 0) ca sv (va_up B 3 F) → CoH g rl h2 β ca ad A sv (sL S) (sN S) (sD S) → Ex CXp rl h rl h2 → (∀ u, u < 4 → ∃ x, x ≤ 5 ∧ F u = nI x) → (∀ w, w < v → CellOk (sCe S j (p + w)) (tn (sL S) w) ∧ F w = nI (ix (sCe S j (p + w)))) → ∀ o7 : Option Value, G 1 h2 0 0 [some (.ref a), some (.int (nI j)), some (.int lane), some (.int (nI p)), some (.int (bP ok)), some (.int (agst (sSo S j) (sLe S j) lane (nI p) (nI (vn (sL S))))), some (.int (nI v)), o7] [] := by
      intro k
      induction k with
      | zero =>
        intro v hv h2 F hF hO hx hu hw o7
        have hH := hO.2.1
        refine hG 1 _ _ _ _ _ ?_
        refine y_get hF.1 (by decide) rfl ?_
        refine y_get hH.1 (by decide) rfl ?_
        refine b_ge v (vn (sL S)) (fun _ => ?_) (fun _ => by omega)
        have hall : ∀ v, v < vn (sL S) → CellOk (sCe S j (p + v)) (tn (sL S) v) := fun w hw9 => (hw w (by omega)).1
        rw [if_pos hall] at hK
        refine hK h2 F hF (fin h2 F 0 0 hF hO hu hx) hO hx (fun _ => ⟨fun w hw9 => ?_, fun w hw9 => ?_⟩)
        · rw [hctk]
          have b5 := (hB.2 w hw9).2.1
          exact (cell_of (by omega) (hall w hw9)).2
        · rw [hctk]; exact (hw w (by omega)).2
      | succ k ih =>
        intro v hv h2 F hF hO hx hu hw o7
        have hH := hO.2.1
        have hvn : v < vn (sL S) := by omega
        have b5 := (hB.2 v hvn).2.1
        have hcell : va_up B 3 F (20 + j) (p + v) = sCe S j (p + v) := by rw [va_n (by omega)]; exact (hFM.2.2.2.1 j hj).2.2.2 _ (by omega)
        have bad : ¬ CellOk (sCe S j (p + v)) (tn (sL S) v) → K (some (.int (-2))) h2 := fun hn => by
          rw [if_neg (fun r => hn (r v hvn))] at hK
          exact hK h2 F hF (fin h2 F 0 0 hF hO hu hx) hO hx (fun e => absurd e (by decide))
        refine hG 1 _ _ _ _ _ ?_
        refine y_get hF.1 (by decide) rfl ?_
        refine y_get hH.1 (by decide) rfl ?_
        refine b_ge v (vn (sL S)) (fun _ => by omega) (fun _ => ?_)
        refine y_get hF.1 (by decide) rfl ?_
        refine y_ra j hF.2.1 (by omega) rfl ?_
        refine y_get (hF.so hj) (by decide) rfl ?_
        refine y_ia (p + v) (hF.sc hj) (by omega) hcell ?_ (nI_add p v)
        refine b_cases (fun c => ?_) (fun c => ?_)
        · exact bad (fun r => nlt.mpr r.1 c)
        refine y_get hF.1 (by decide) rfl ?_
        refine y_get hH.1 (by decide) rfl ?_
        refine y_ra (v) hH.2.1 (by omega) (if_pos (hvn)) ?_
        refine y_get (hH.vo (hvn)) (cls_in _) rfl ?_
        rw [(hm v hvn).2.1]
        refine b_cases (fun d => ?_) (fun d => ?_)
        · have hcl : CellOk (sCe S j (p + v)) (tn (sL S) v) := ⟨nlt.mp c, d⟩
          obtain ⟨q1, q2⟩ := cell_of (by omega) hcl
          refine y_get hF.1 (by decide) rfl ?_
          refine y_is v hF.tc (by omega) (fun h3 e3 x3 => ?_)
          have hF3 := hF.up 3 x3 (by omega) (fun _ => e3) (fun z => by omega) (fun i hi z => by omega) (fun i hi z => by omega) (fun i hi z => by omega)
          rw [up_up] at hF3
          have ih9 := ih (v + 1) (by omega) h3 _ hF3 (hO.ex b1 x3 (by omega)) (hx.trs (fcx x3 (by omega))) (fun u hu4 => ?_) (fun w hw9 => ?_)
          rw [nI_succ v] at ih9
          exact ih9 _
          · by_cases e : u = v
            · rw [e]
              refine ⟨ix (sCe S j (p + v)), by omega, ?_⟩
              show upd F v (sCe S j (p + v)) v = _
              rw [pk_us]; exact q1
            · obtain ⟨x, hx5, hx6⟩ := hu u hu4
              refine ⟨x, hx5, ?_⟩
              show upd F v (sCe S j (p + v)) u = _
              rw [pk_un e]; exact hx6
          · by_cases e : w = v
            · rw [e]
              refine ⟨hcl, ?_⟩
              show upd F v (sCe S j (p + v)) v = _
              rw [pk_us]; exact q1
            · refine ⟨(hw w (by omega)).1, ?_⟩
              show upd F v (sCe S j (p + v)) w = _
              rw [pk_un e]; exact (hw w (by omega)).2
        · exact bad (fun r => d r.2)
    exact loop (vn (sL S)) 0 (by omega) h1 (B 3) hF0 hO hx hFM.2.2.2.2.1 (fun w hw => absurd hw (Nat.not_lt_zero w)) none
  · have c : ¬ agst (sSo S j) (sLe S j) lane i (nI (vn (sL S))) = 0 := c
    rw [if_neg c] at hK
    refine y_call1 hF.1 (k_fallen hF (fun h2 hF2 x2 => ?_))
    have hO2 := hO.ex b1 x2 (by omega)
    have hx2 := hx.trs (fcx x2 (by omega))
    have hF3 : FcH g rl h2 a f (upd I 1 (agst (sSo S j) (sLe S j) lane i (nI (vn (sL S))))) ca sv (va_up B 3 (B 3)) := by
      rw [same]
      have e9 : upd (upd I 1 0) 1 (agst (sSo S j) (sLe S j) lane i (nI (vn (sL S)))) = upd I 1 (agst (sSo S j) (sLe S j) lane i (nI (vn (sL S)))) := by
        funext q
        by_cases e : q = 1
        · rw [e, pk_us, pk_us]
        · rw [pk_un e, pk_un e, pk_un e]
      rw [← e9]
      exact hF2
    exact hK h2 (B 3) hF3 (fin h2 (B 3) 0 _ hF3 hO2 hFM.2.2.2.2.1 hx2) hO2 hx2 (fun e => absurd e (agst_ne c))
theorem cc_cut {sh lane i w : Int32} (hok : StOk S) (hC : ClsH g rl h a S) (hK : ∀ h1, ClsH g rl h1 a (st_cut S sh lane i w) → Ex CXp rl h rl h1 → K (some (.int (sp_cut S sh lane i w))) h1) : Run l g d_X9_cut [.ref a, .int sh, .int lane, .int i, .int w] h 0 0 K := by
  obtain ⟨f, I, ca, sv, B, β, ad, A, hF, hFM, hO⟩ := hC
  obtain ⟨hβ, hH, hm, hl, hN, hfr, hdn, hsv⟩ := id hO
  have hL := hok.2.1
  have hB := hL.b
  have b1 := hL.1
  have hT := hok.2.2.2.2.1.1
  have hNd := hok.2.2.2.2.1.2.1
  unfold st_cut sp_cut at hK
  refine vc_X9_cut (fun G hG => ?_)
  refine hG 0 _ _ _ _ _ ?_
  refine y_callS (k_isQuestion ?_)
  refine y_call1 hF.1 (k_takeCut hok hF hFM hO (fun h1 F hF hFM hO hx hRw => ?_))
  have hH := hO.2.1
  have hK0 := hK
  have hK := fun h2 => hK h2
  refine b_cases (fun c => ?_) (fun c => ?_)
  · have c : (tkr S sh lane i (Ask w)).1 = 0 := c
    have hRw := hRw c
    rw [if_pos c] at hK
    have hask : Ask w := by
      refine Classical.byContradiction fun hn => ?_
      unfold tkr at c
      by_cases q1 : vn (sL S) = 0
      · rw [if_pos q1] at c; exact absurd c (by decide)
      rw [if_neg q1] at c
      by_cases q2 : InR sh 0 3
      · rw [if_pos q2] at c
        by_cases q3 : InR lane 0 2
        · rw [if_pos q3, if_neg hn] at c; exact absurd c (by decide)
        · rw [if_neg q3] at c; exact absurd c (by decide)
      · rw [if_neg q2] at c; exact absurd c (by decide)
    have hC1 : ClsH g rl h1 a (setFa S (tkr S sh lane i (Ask w)).2) := ⟨f, _, ca, sv, _, β, ad, A, hF, hFM, hO⟩
    generalize hcc : ctk S sh i = c9 at hK hRw
    unfold rcut at hK
    have b5 : ∀ u, u < 4 → ∃ x, x ≤ 5 ∧ F u = nI x := hFM.2.2.2.2.1
    -- the least cut that can be
    have cls : ∀ (P9 : PT), (∀ (h2 : Hp) (F2 : Nat → Int32), FcH g rl h2 a f (upd I 1 (tkr S sh lane i (Ask w)).2) ca sv (va_up (va_up B 3 F) 4 F2) → ClsH g rl h2 a (setFa S (tkr S sh lane i (Ask w)).2) → Ex CXp rl h rl h2 → LnH g rl h2 β ca ad (nI (sm (tn (sL S)) (vn (sL S)))) (sL S) A → RwC F2 (sL S) (Cl (sL S) (sN S) c9) → P9 none h2) → Run l g d_X2_close [.ref ca, .ref (f 3), .ref (f 4)] h1 0 0 P9 := fun P9 hP9 => by
      let c8 : Nat → Nat := fun u => if u < vn (sL S) then c9 u else ix (F u)
      have e8 : ∀ u, u < vn (sL S) → c8 u = c9 u := fun u hu => if_pos hu
      have hF5 : ∀ u, u < 4 → F u = nI (c8 u) ∧ c8 u ≤ 5 := fun u hu => by
        obtain ⟨x, x5, ex⟩ := b5 u hu
        by_cases q : u < vn (sL S)
        · rw [e8 u q]
          have b6 := (hB.2 u q).2.1
          have := hRw.1 u q
          exact ⟨hRw.2 u q, by omega⟩
        · have : c8 u = ix (F u) := if_neg q
          rw [this, ex, ix_nI (by omega)]
          exact ⟨rfl, x5⟩
      have hR8 : RwC F (sL S) c8 := ⟨fun v hv => by rw [e8 v hv]; exact hRw.1 v hv, fun v hv => by rw [e8 v hv]; exact hRw.2 v hv⟩
      refine c_close (by omega) (fun i hi => by omega) hH hN hL hNd hF.tc hF.wk hR8 hF5 (fun h2 F2 e2 x2 hF2 => ?_)
      have hF3 := hF.up 4 x2 (by omega) (fun _ => e2) (fun z => by omega) (fun i hi z => by omega) (fun i hi z => by omega) (fun i hi z => by omega)
      have ecl : ∀ u, u < vn (sL S) → Cl (sL S) (sN S) c8 u = Cl (sL S) (sN S) c9 u := fun u hu => by
        unfold Cl
        rw [e8 u hu]
        congr 1
        have mc : ∀ n, n ≤ vn (sL S) → mxn (fun v => if 0 < c8 v then sN S v (c8 v - 1) u else 0) n = mxn (fun v => if 0 < c9 v then sN S v (c9 v - 1) u else 0) n := by
          intro n
          induction n with
          | zero => intro _; rfl
          | succ n ih =>
            intro hn
            show max (mxn _ n) _ = max (mxn _ n) _
            rw [ih (by omega)]
            dsimp only
            rw [e8 n (by omega)]
        exact mc _ (Nat.le_refl _)
      have hO2 := hO.ex b1 x2 (by omega)
      refine hP9 h2 F2 hF3 ⟨f, _, ca, sv, _, β, ad, A, hF3, ⟨hFM.1, hFM.2.1, hFM.2.2.1, fun k hk => ?_, hFM.2.2.2.2.1, fun r hr => ?_⟩, hO2⟩ (hx.trs (fcx x2 (by omega))) hO2.2.1 ⟨cl_ok hL hNd hRw.1, fun u hu => by rw [hF2 u hu, ecl u hu]⟩
      · rw [va_n (show 10 + k ≠ 4 by omega), va_n (show 20 + k ≠ 4 by omega)]; exact hFM.2.2.2.1 k hk
      · have hr : r < sRn S := hr
        rw [va_n (show 6 ≠ 4 by omega), va_n (show 30 + r ≠ 4 by omega)]; exact hFM.2.2.2.2.2 r hr
    refine b_cases (fun d => ?_) (fun d => ?_)
    · rw [if_pos d] at hK
      have hK := hK h1 hC1 hx
      refine y_get hF.1 (by decide) rfl ?_
      refine y_get hF.1 (by decide) rfl ?_
      refine y_call1 hH.1 (c_canBe hH hN hL hNd hF.tc hRw ?_)
      refine b_Z (fun e => ?_) (fun e => ?_)
      · rw [bP_0 e] at hK; exact hK
      · rw [bP_1 e] at hK; exact hK
    have d0 : ¬ w = 0 := d
    rw [if_neg d] at hK
    refine b_cases (fun d => ?_) (fun d => ?_)
    · rw [if_pos d] at hK
      refine y_get hF.1 (by decide) rfl ?_
      refine y_get hF.1 (by decide) rfl ?_
      refine y_call1 hH.1 (c_sumOf hH hm hB hF.tc hRw ?_)
      exact hK h1 hC1 hx
    have d1 : ¬ w = 1 := d
    rw [if_neg d] at hK
    refine b_cases (fun d => ?_) (fun d => ?_)
    · rw [if_pos d] at hK
      refine y_get hF.1 (by decide) rfl ?_
      refine y_get hF.1 (by decide) rfl ?_
      refine y_call1 hH.1 (c_underWay hH hB hT hl hF.tc hRw ?_)
      exact hK h1 hC1 hx
    have d2 : ¬ w = 2 := d
    rw [if_neg d] at hK
    refine b_cases (fun d => ?_) (fun d => ?_)
    · rw [if_pos d] at hK
      refine y_get hF.1 (by decide) rfl ?_
      refine y_get hF.1 (by decide) rfl ?_
      refine y_get hF.1 (by decide) rfl ?_
      refine y_call1 hH.1 (cls _ (fun h2 F2 hF2 hC2 hx2 hH2 hR2 => ?_))
      refine y_get hF2.1 (by decide) rfl ?_
      refine y_get hF2.1 (by decide) rfl ?_
      refine y_call1 hH2.1 (c_thingsIn hH2 hB hF2.wk hR2 ?_)
      exact hK h2 hC2 hx2
    · rw [if_neg d] at hK
      refine y_get hF.1 (by decide) rfl ?_
      refine y_get hF.1 (by decide) rfl ?_
      refine y_get hF.1 (by decide) rfl ?_
      refine y_call1 hH.1 (cls _ (fun h2 F2 hF2 hC2 hx2 hH2 hR2 => ?_))
      refine y_get hF2.1 (by decide) rfl ?_
      refine y_call1 hF2.1 (k_countOf (y := nI (Cl (sL S) (sN S) c9 (ix (w - 10)))) hF2 hH2 b1 hF2.wk (fun v hv ev => ?_) ?_)
      · have ev : w - 10 = nI v := ev
        rw [ev, ix_nI (by omega)]
        exact hR2.2 v hv
      · exact hK h2 hC2 hx2
  · have c : ¬ (tkr S sh lane i (Ask w)).1 = 0 := c
    rw [if_neg c] at hK
    exact hK h1 ⟨f, _, ca, sv, _, β, ad, A, hF, hFM, hO⟩ hx
theorem cc_reading {sh lane i w : Int32} (hok : StOk S) (hC : ClsH g rl h a S) (hK : ∀ h1, ClsH g rl h1 a (st_reading S sh lane i w) → Ex CXp rl h rl h1 → K (some (.int (sp_reading S sh lane i w))) h1) : Run l g d_X9_reading [.ref a, .int sh, .int lane, .int i, .int w] h 0 0 K := by
  obtain ⟨f, I, ca, sv, B, β, ad, A, hF, hFM, hO⟩ := hC
  obtain ⟨hβ, hH, hm, hl, hN, hfr, hdn, hsv⟩ := id hO
  have hL := hok.2.1
  have hB := hL.b
  have b1 := hL.1
  have rn8 := hok.2.2.2.2.2.1
  unfold st_reading sp_reading at hK
  refine vc_X9_reading (fun G hG => ?_)
  refine hG 0 _ _ _ _ _ ?_
  refine y_callS (k_isSum ?_)
  refine y_call1 hF.1 (k_takeCut hok hF hFM hO (fun h1 F hF hFM hO hx hRw => ?_))
  refine b_cases (fun c => ?_) (fun c => ?_)
  · have c : (tkr S sh lane i (InR w 0 99)).1 = 0 := c
    have hRw9 := hRw c
    rw [if_pos c] at hK
    have hask : InR w 0 99 ∧ (tkr S sh lane i (InR w 0 99)).2 = 0 := by
      unfold tkr at c ⊢
      by_cases q1 : vn (sL S) = 0
      · rw [if_pos q1] at c; exact absurd c (by decide)
      rw [if_neg q1] at c ⊢
      by_cases q2 : InR sh 0 3
      · rw [if_pos q2] at c ⊢
        by_cases q3 : InR lane 0 2
        · rw [if_pos q3] at c ⊢
          by_cases q4 : InR w 0 99
          · rw [if_pos q4] at c ⊢
            by_cases q5 : agst (sSo S (ix sh)) (sLe S (ix sh)) lane i (nI (vn (sL S))) = 0
            · rw [if_pos q5]
              refine ⟨q4, ?_⟩
              split <;> rfl
            · rw [if_neg q5] at c; exact absurd c (agst_ne q5)
          · rw [if_neg q4] at c; exact absurd c (by decide)
        · rw [if_neg q3] at c; exact absurd c (by decide)
      · rw [if_neg q2] at c; exact absurd c (by decide)
    rw [hask.2] at hF hFM hK
    have hC1 : ClsH g rl h1 a (setFa S 0) := ⟨f, _, ca, sv, _, β, ad, A, hF, hFM, hO⟩
    refine y_get hF.1 (by decide) rfl ?_
    rw [show upd I 1 0 0 = nI (sRn S) from hFM.1]
    refine pk_lt (sRn S) 8 (fun d => ?_) (fun d => ?_)
    · have d8 : ¬ sRn S = 8 := by omega
      have cd8 : (tkr S sh lane i (InR w 0 99)).1 = 0 ∧ ¬ sRn S = 8 := ⟨c, d8⟩
      rw [if_neg d8, if_pos cd8] at hK
      obtain ⟨j, hj, rfl⟩ := inR_of (n := 99) (by omega) hask.1
      rw [ix_nI (show j < 2 ^ 31 by omega)] at hK
      refine y_get hF.1 (by decide) rfl ?_
      rw [show upd I 1 0 0 = nI (sRn S) from hFM.1]
      refine y_get hF.1 (by decide) rfl ?_
      refine y_get hF.1 (by decide) rfl ?_
      refine y_ra (sRn S) hF.rc (by omega) rfl ?_
      refine y_copy 0 0 4 hF.tc (hF.rr d) (by omega) (by omega) (fun h2 e2 x2 => ?_)
      have hF := hF.up (30 + sRn S) x2 (by omega) (fun z => by omega) (fun z => by omega) (fun i hi z => by omega) (fun i hi z => by omega) (fun i hi z => e2)
      refine y_get hF.1 (by decide) rfl ?_
      refine y_is (sRn S) hF.rs (by omega) (fun h3 e3 x3 => ?_)
      have hF := hF.up 6 x3 (by omega) (fun z => by omega) (fun z => e3) (fun i hi z => by omega) (fun i hi z => by omega) (fun i hi z => by omega)
      refine y_putI hF.1 (by decide) (Nat.le_of_ble_eq_true rfl) rfl (fun h4 e4 x4 => ?_)
      have hF := hF.ob (I2 := upd (upd I 1 0) 0 (nI (sRn S + 1))) (by rw [nI_succ]; exact e4) x4 rfl
      refine hK h4 ⟨f, _, ca, sv, _, β, ad, A, hF, ⟨rfl, rfl, hFM.2.2.1, fun k hk => ?_, fun u hu => ?_, fun r hr => ?_⟩, ((hO.ex b1 x2 (by omega)).ex b1 x3 (by omega)).ex b1 x4 (by omega)⟩ (((hx.trs (fcx x2 (by omega))).trs (fcx x3 (by omega))).trs (fcx x4 (by omega)))
      · rw [va_n (show 10 + k ≠ 6 by omega), va_n (show 10 + k ≠ 30 + sRn S by omega), va_n (show 20 + k ≠ 6 by omega), va_n (show 20 + k ≠ 30 + sRn S by omega)]
        exact hFM.2.2.2.1 k hk
      · rw [va_n (show 3 ≠ 6 by omega), va_n (show 3 ≠ 30 + sRn S by omega)]
        exact hFM.2.2.2.2.1 u hu
      · have hr : r < sRn S + 1 := hr
        show _ = nI (updN (sRs S) (sRn S) j r) ∧ ∀ v, v < vn (sL S) → _ = nI (va_up (sRc S) (sRn S) (ctk S sh i) r v)
        rw [va_s, va_n (show 30 + r ≠ 6 by omega)]
        by_cases e : r = sRn S
        · rw [e, updN_s, va_s, va_s, pk_us]
          refine ⟨rfl, fun v hv => ?_⟩
          unfold va_cpy
          rw [if_pos (by omega), Nat.sub_zero, Nat.zero_add]
          rw [va_s]
          exact hRw9.2 v hv
        · rw [updN_n e, va_n e, va_n (show 30 + r ≠ 30 + sRn S by omega), pk_un e, va_n (show 6 ≠ 30 + sRn S by omega)]
          exact hFM.2.2.2.2.2 r (by show r < sRn S; omega)
    · have e8 : sRn S = 8 := by omega
      rw [if_pos e8, if_neg (fun r => r.2 e8)] at hK
      exact hK h1 hC1 hx
  · have c : ¬ (tkr S sh lane i (InR w 0 99)).1 = 0 := c
    rw [if_neg c, if_neg (fun r => c r.1)] at hK
    exact hK h1 ⟨f, _, ca, sv, _, β, ad, A, hF, hFM, hO⟩ hx
end CC4

