section ORD2
variable {l : Launch} {g : Gm} {rl rl1 : Nat → Nat} {h h1 : Hp} {K : PT} {β a : Nat} {ad : Nat → Nat} {th : Int32} {L : Ld} {A : Nat → Nat → Int32} {N : NT} {c : Nat → Nat}
theorem lt_snd {v k : Nat} {s : Nat → Nat} (hT : LtOk L) (hL : LdOk L) (hc : CutOk L c) (hv : v < vn L) (hg : GoR L c v) (h2 : wh L v (c v) = 2) (hk : k = dg L v (c v)) (l1 : LtS L 1 k (s 0) (s 1) (s 2)) : Snd L v (c v) (s 1) (s 2) ∧ s 2 < c (s 1) ∧ s 1 ≠ v ∧ ∀ a' b', Snd L v (c v) a' b' → a' = s 1 ∧ b' = s 2 := by
  subst hk
  have hb := (byB_lt (by decide) hT hc l1).mp (hg.2 h2)
  rcases l1 with ⟨e, -⟩ | ⟨-, m1, u⟩ | ⟨-, tt⟩
  · omega
  · have hun : ∀ a' b', Snd L v (c v) a' b' → a' = s 1 ∧ b' = s 2 := fun a' b' hs => u a' b' ⟨hs.2.1, hs.2.2.1, hs.2.2.2.1, hs.2.2.2.2⟩
    refine ⟨⟨h2, m1.1, m1.2.1, m1.2.2.1, m1.2.2.2⟩, hb.2, ?_, hun⟩
    obtain ⟨x, y, q1, q2, q3, q4, q5⟩ := hT.2 v (c v) hv hg.1 h2
    have := hun x y ⟨h2, q1, q2, q3, q4⟩
    omega
  · exact absurd tt (ltok_noT hT (by decide))
theorem c_noteNeed {v : Nat} {x1 x2 : Int32} (hH : LnH g rl h β a ad th L A) (hm : LnM A L) (hL : LdOk L) (hT : LtOk L) (hl : LnT A L) (hc : CutOk L c) (hv : v < vn L) (hg : GoR L c v) (hN : ∀ x y u, x < vn L → y < c x → u < 4 → A (60 + 10 * x + y) u = nI (N x y u) ∧ N x y u ≤ 5) (hz : ∀ u, u < 4 → A (60 + 10 * v + c v) u = 0)
    (hK : ∀ (h1 : Hp) (F : Nat → Int32) (x y : Nat) (got : Bool), (got = true ↔ wh L v (c v) = 2) → (got = true → Snd L v (c v) x y ∧ y < c x ∧ x ≠ v ∧ ∀ a' b', Snd L v (c v) a' b' → a' = x ∧ b' = y) → LnH g rl h1 β a ad th L (va_up A (60 + 10 * v + c v) F) → (∀ u, u < 4 → F u = nI (nX N got v (c v) x y u)) → Ex (LX β) rl h rl h1 → K none h1) (e1 : x1 = nI v := by rfl) (e2 : x2 = nI (c v) := by rfl) : Run l g d_X2_noteNeed [.ref a, .int x1, .int x2] h 0 0 K := by
  subst e1 e2
  have b1 := hL.1
  have b5 := (hL.2 v hv).2.2.1
  have ht := hg.1
  have hr := hH.nr hv (t := c v) (by omega)
  obtain ⟨-, -, m2, -⟩ := hm v hv
  obtain ⟨w1, w2⟩ := m2 (c v) ht
  obtain ⟨l1, l2, l3⟩ := (hL.2 v hv).2.2.2 (c v) ht
  have lx : ∀ i, i = β + (60 + 10 * v + c v) → LX β i := fun i z => ⟨by omega, by omega⟩
  have up9 : ∀ {h2 : Hp} {F : Nat → Int32}, Ex (fun i => i = β + (60 + 10 * v + c v)) rl h rl h2 → Ia g rl h2 (ad (60 + 10 * v + c v)) (β + (60 + 10 * v + c v)) 4 F → LnH g rl h2 β a ad th L (va_up A (60 + 10 * v + c v) F) := fun {h2 F} x2 e2 => hH.up (60 + 10 * v + c v) x2 b1 (by omega) (fun z => by omega) (fun z => by omega) (fun j _ z => by omega) (fun v _ z => by omega) (fun v _ z => by omega) (fun _ _ _ _ _ => e2)
  refine vc_X2_noteNeed (fun G hG => ?_)
  have g1 : ∀ (h2 : Hp) (F : Nat → Int32), Ia g rl h2 (ad (60 + 10 * v + c v)) (β + (60 + 10 * v + c v)) 4 F → Ex (fun i => i = β + (60 + 10 * v + c v)) rl h rl h2 → (∀ u, u < 4 → F u = nI (if 0 < c v then N v (c v - 1) u else 0)) → G 1 h2 0 0 [some (.ref a), some (.int (nI v)), some (.int (nI (c v))), some (.ref (ad (20 + v))), some (.ref (ad (60 + 10 * v + c v))), none] [] := by
    intro h2 F e2 x2 hF
    have q0 : ∀ u, u < 4 → (if 0 < c v then N v (c v - 1) u else 0) ≤ 5 := fun u hu => by
      by_cases h0 : 0 < c v
      · rw [if_pos h0]; exact (hN v (c v - 1) u hv (by omega) hu).2
      · rw [if_neg h0]; exact Nat.zero_le _
    refine hG 1 _ _ _ _ _ ?_
    refine y_is v e2 (by omega) (fun h3 e3 x3 => ?_)
    have x3 := x2.trs x3
    have hF1 : ∀ u, u < 4 → upd F v (nI (c v)) u = nI (if u = v then c v else if 0 < c v then N v (c v - 1) u else 0) := fun u hu => by
      by_cases e : u = v
      · rw [e, pk_us, if_pos rfl]
      · rw [pk_un e, if_neg e]; exact hF u hu
    have hH := up9 x3 e3
    refine y_get (hH.vo (hv)) (cls_in _) rfl ?_
    refine y_ia (c v) (hH.wa hv) (by omega) ((congrFun (va_n (by omega)) _).trans w1) ?_
    refine pk_eq (wh L v (c v)) 2 (fun e => ?_) (fun e => ?_)
    · have hd : dg L v (c v) < 8 := by have := l3 (by omega); omega
      obtain ⟨s, hs, s0, s3, s1, s4, s2, s5, t1, t2⟩ := hl (dg L v (c v)) hd
      have hsn := lt_snd hT hL hc hv hg e rfl t1
      obtain ⟨sn, sb, sv, su⟩ := hsn
      have sB : ∀ i, i < 6 → va_up A (60 + 10 * v + c v) (upd F v (nI (c v))) (10 + dg L v (c v)) i = nI (s i) := fun i hi => (congrFun (va_n (by omega)) _).trans (hs i hi)
      refine y_get hH.1 (by decide) rfl ?_
      refine y_get (hH.vo (hv)) (cls_in _) rfl ?_
      refine y_ia (c v) (hH.da hv) (by omega) ((congrFun (va_n (by omega)) _).trans w2) ?_
      refine y_ra (dg L v (c v)) hH.2.2.1 (by omega) rfl ?_
      refine y_get hH.1 (by decide) rfl ?_
      refine y_get (hH.lt hd) (by decide) rfl ?_
      refine y_ra (s 1) hH.2.1 (by omega) (if_pos (sn.2.1)) ?_ (sB 1 (by omega))
      refine y_get (hH.vo (sn.2.1)) (cls_in _) rfl ?_
      refine y_get (hH.lt hd) (by decide) rfl ?_
      refine y_ra (s 2) (hH.no sn.2.1) (by omega) rfl ?_ (sB 2 (by omega))
      have hrow := hH.nr sn.2.1 (t := s 2) (by omega)
      rw [va_n (show 60 + 10 * s 1 + s 2 ≠ 60 + 10 * v + c v by omega)] at hrow
      refine y_callS (c_raise (c1 := fun u => if u = v then c v else if 0 < c v then N v (c v - 1) u else 0) (c2 := N (s 1) (s 2)) (by omega) e3 hrow (fun u hu => ⟨hF1 u hu, ?_⟩) (fun u hu => ?_) (fun h5 F5 e5 x5 hF5 => ?_))
      · show (if u = v then c v else if 0 < c v then N v (c v - 1) u else 0) < 100
        have := q0 u hu
        by_cases eu : u = v
        · rw [if_pos eu]; omega
        · rw [if_neg eu]; omega
      · have := hN (s 1) (s 2) u sn.2.1 sb hu
        exact ⟨this.1, by omega⟩
      · have x5 := x3.trs x5
        have hH := up9 x5 e5
        have sB : ∀ i, i < 6 → va_up A (60 + 10 * v + c v) F5 (10 + dg L v (c v)) i = nI (s i) := fun i hi => (congrFun (va_n (by omega)) _).trans (hs i hi)
        have sa : s 1 < 4 := by omega
        refine y_get (hH.lt hd) (by decide) rfl ?_
        refine y_get (hH.lt hd) (by decide) rfl ?_
        refine y_ia (s 1) e5 (by omega) (hF5 (s 1) sa) ?_ (sB 1 (by omega))
        refine y_get (hH.lt hd) (by decide) rfl ?_
        have ba := (hN (s 1) (s 2) (s 1) sn.2.1 sb sa).2
        have bb := q0 (s 1) sa
        refine y_max (a := max (if s 1 = v then c v else if 0 < c v then N v (c v - 1) (s 1) else 0) (N (s 1) (s 2) (s 1))) (b := s 2 + 1) ?_ rfl (by show _ + 1 = _; rw [sB 2 (by omega), nI_succ]) (by rw [if_neg sv]; omega)
        refine y_is (s 1) e5 (by omega) (fun h6 e6 x6 => ?_) (sB 1 (by omega))
        have x6 := x5.trs x6
        refine hK h6 _ (s 1) (s 2) true ⟨fun _ => e, fun _ => rfl⟩ (fun _ => ⟨sn, sb, sv, su⟩) (up9 x6 e6) (fun u hu => ?_) (x6.mono lx)
        unfold nX
        rw [if_pos rfl]
        by_cases eu : u = s 1
        · rw [eu, pk_us, if_pos rfl]
        · rw [pk_un eu, if_neg eu]; exact hF5 u hu
    · refine hK h3 _ 0 0 false ⟨fun z => (by cases z), fun z => absurd z e⟩ (fun z => by cases z) hH (fun u hu => ?_) (x3.mono lx)
      unfold nX
      rw [if_neg (by decide)]
      exact hF1 u hu
  refine hG 0 _ _ _ _ _ ?_
  refine y_get hH.1 (by decide) rfl ?_
  refine y_ra (v) hH.2.1 (by omega) (if_pos (hv)) ?_
  refine y_get (hH.vo (hv)) (cls_in _) rfl ?_
  refine y_ra (c v) (hH.no hv) (by omega) rfl ?_
  refine pk_le (c v) 0 (fun z => ?_) (fun z => ?_)
  · refine g1 h _ hr Ex.rf (fun u hu => ?_)
    rw [if_neg (by omega)]
    exact hz u hu
  · refine y_get (hH.vo (hv)) (cls_in _) rfl ?_
    refine y_ra (c v - 1) (hH.no hv) (by omega) rfl ?_ (pk_sub (b := 1) (by omega))
    refine y_copy 0 0 4 (hH.nr hv (t := c v - 1) (by omega)) hr (by omega) (by omega) (fun h2 e2 x2 => ?_)
    refine g1 h2 _ e2 x2 (fun u hu => ?_)
    unfold va_cpy
    rw [if_pos (by omega), if_pos (by omega), Nat.sub_zero, Nat.zero_add]
    exact (hN v (c v - 1) u hv (by omega) hu).1
/-- a land that is there: its rows tell what is ahead, the first run -/
def FrM (A : Nat → Nat → Int32) (L : Ld) (nd : NT) : Prop := ∀ k, k < sm (tn L) (vn L) → A 3 k = nI (lv1 L nd (fcut L nd k))
theorem c_isOrdered (hP : PlH g rl h β a ad L A) (hL : LdOk L) (hT : LtOk L) (hK : ∀ (rl1 : Nat → Nat) (h1 : Hp) (A1 : Nat → Nat → Int32), Ex (fun i => β ≤ i ∧ i < β + 102) rl h rl1 h1 → (cirB L = false → LnH g rl1 h1 β a ad (nI (sm (tn L) (vn L))) L A1 ∧ LnM A1 L ∧ LnT A1 L ∧ LnN A1 L (ndOf L) ∧ FrM A1 L (ndOf L) ∧ ∀ u, u < 4 → A1 4 u = 0) → K (some (.int (bP (cirB L = false)))) h1) : Run l g d_X2_isOrdered [.ref a] h 1 4 K := by
  obtain ⟨hH, hm, hl, hz, hz2⟩ := hP
  have b1 := hL.1
  have b9 := things_le hL.b
  have ty : ∀ i, (fun i => β ≤ i ∧ i < β + 102) i → (fun i => β ≤ i ∧ i < β + 102) i := fun i z => z
  have tlx : ∀ i, LX β i → (fun i => β ≤ i ∧ i < β + 102) i := fun i z => ⟨z.1, by have := z.2; omega⟩
  have t1 : ∀ k, k < 102 → ∀ i, i = β + k → (fun i => β ≤ i ∧ i < β + 102) i := fun k hk i z => ⟨by omega, by omega⟩
  refine vc_X2_isOrdered (fun G hG => ?_)
  have loop : ∀ j k, k + j = sm (tn L) (vn L) → ∀ (rl2 : Nat → Nat) (h2 : Hp) (A2 : Nat → Nat → Int32) (b : Nat) (C : Nat → Int32) (N : NT) (rk : Nat → Nat → Nat) (cb sb : Nat) (o3 : Option Value), LnH g rl2 h2 β a ad (nI (sm (tn L) (vn L))) L A2 → LnM A2 L → LnT A2 L → (∀ u, u < 4 → A2 4 u = 0) → Ia g rl2 h2 b (β + 101) 4 C → RwC C L (gcut L k) → cntC L (gcut L k) = k → NdI L (gcut L k) N rk k → (∀ x y u, x < vn L → y < gcut L k x → u < 4 → A2 (60 + 10 * x + y) u = nI (N x y u)) → (∀ x y u, x < vn L → gcut L k x ≤ y → y < 5 → u < 4 → A2 (60 + 10 * x + y) u = 0) → (∀ i, i < k → A2 3 i = nI (glv L (gcut L i))) → Ex (fun i => β ≤ i ∧ i < β + 102) rl h rl2 h2 → G 1 h2 cb sb [some (.ref a), some (.ref b), some (.int (nI k)), o3] [] := by
    intro j
    induction j with
    | zero =>
      intro k hk rl2 h2 A2 b C N rk cb sb o3 hH hm hl hz hb hC hcnt hI hN1 hN2 hfr hx
      have ek : k = sm (tn L) (vn L) := by omega
      have hfull := cut_full hC.1 (by omega)
      have hNeed := ndi_need hI hfull
      have hc0 : cirB L = false := by
        cases e : cirB L with
        | false => rfl
        | true => exact absurd ⟨N, hNeed⟩ (cirB_iff.mp e)
      have hNo := ndOf_ok ⟨N, hNeed⟩
      refine hG 1 _ _ _ _ _ ?_
      refine y_get hH.1 (by decide) rfl ?_
      refine b_ge k (sm (tn L) (vn L)) (fun _ => ?_) (fun _ => by omega)
      refine z1 hc0 (hK rl2 h2 A2 hx (fun _ => ⟨hH, hm, hl, fun x y u hx hy hu => ?_, fun i hi => ?_, hz⟩))
      · rw [ndOf_eq hNeed hx hy hu]
        exact hN1 x y u hx (by rw [hfull x hx]; exact hy) hu
      · rw [hfr i (by omega), gf_eq hL hT hNo i (by omega)]
        have o := fcut_ok hL hNo i (by omega)
        rw [glv_lv1 hL hT hNo o.1 o.2.1]
    | succ j ih =>
      intro k hk rl2 h2 A2 b C N rk cb sb o3 hH hm hl hz hb hC hcnt hI hN1 hN2 hfr hx
      refine hG 1 _ _ _ _ _ ?_
      refine y_get hH.1 (by decide) rfl ?_
      refine b_ge k (sm (tn L) (vn L)) (fun _ => by omega) (fun _ => ?_)
      refine y_call1 hH.1 (c_firstThatGoesOn hH hm hL.b hT hl hb hC ?_)
      by_cases hgl : glv L (gcut L k) < vn L
      · rw [if_pos hgl]
        refine b_no (ne9 (by omega)) ?_
        have hg := glv_spec hgl
        have hstep := gcut_s L k
        generalize hv9 : glv L (gcut L k) = v at *
        have b5 := (hL.2 v hgl).2.2.1
        have hgt := hg.1
        refine y_get hH.1 (by decide) rfl ?_
        refine y_is k hH.fr (by omega) (fun h3 e3 x3 => ?_)
        have hH := hH.up 3 x3 b1 (by omega) (fun _ => e3) (fun z => by omega) (fun j _ z => by omega) (fun v _ z => by omega) (fun v _ z => by omega) (fun v t _ _ z => by omega)
        have hb := hb.ex x3 (by omega)
        refine y_ia v hb (by omega) (hC.2 v hgl) ?_
        refine y_call1 hH.1 (c_noteNeed (c := gcut L k) (N := N) hH (fun x hx => by rw [va_n (by omega), va_n (by omega), va_n (by omega), va_n (by omega)]; exact hm x hx) hL hT (fun i hi => by rw [va_n (by omega)]; exact hl i hi) hC.1 hgl hg (fun x y u hx hy hu => by rw [va_n (by omega)]; exact ⟨hN1 x y u hx hy hu, (hI x y hx hy).2.2.2.1 u hu⟩) (fun u hu => by rw [va_n (by omega)]; exact hN2 v _ u hgl (Nat.le_refl _) (by omega) hu) (fun h4 F4 x4 y4 got q1 q2 hH4 hF4 xx4 => ?_))
        have hb := hb.ex xx4 (fun z => by have := z.2; omega)
        refine y_ia v hb (by omega) (hC.2 v hgl) ?_
        refine y_is v hb (by omega) (fun h5 e5 x5 => ?_)
        have hH5 := hH4.ex x5 b1 (fun i hi => by omega)
        have hI5 := ndi_step hL hC.1 hI hgl hgt q1 q2
        rw [← hstep] at hI5
        have hC5 : RwC (upd C v (nI (gcut L k v) + 1)) L (gcut L (k + 1)) := by
          rw [hstep]
          refine ⟨fun x hx => ?_, fun x hx => ?_⟩
          · by_cases e : x = v
            · rw [e, updN_s]; exact hgt
            · rw [updN_n e]; exact hC.1 x hx
          · by_cases e : x = v
            · rw [e, updN_s, pk_us, nI_succ]
            · rw [updN_n e, pk_un e]; exact hC.2 x hx
        have hcnt5 : cntC L (gcut L (k + 1)) = k + 1 := by
          have := sm_updN (c := gcut L k) (v := v) (x := gcut L k v + 1) hgl
          rw [hstep]
          unfold cntC at hcnt ⊢
          omega
        have ih9 := ih (k + 1) (by omega) rl2 h5 _ b _ _ _ cb sb (some (.int (nI v))) hH5 (fun x hx => ?_) (fun i hi => ?_) (fun u hu => ?_) e5 hC5 hcnt5 hI5 (fun x y u hx hy hu => ?_) (fun x y u hx hy hy5 hu => ?_) (fun i hi => ?_) (((hx.tr x3 ty (t1 3 (by omega))).tr xx4 ty tlx).tr x5 ty (t1 101 (by omega)))
        rw [nI_succ k] at ih9
        exact ih9 
        · rw [va_n (by omega), va_n (by omega), va_n (by omega), va_n (by omega), va_n (by omega), va_n (by omega), va_n (by omega), va_n (by omega)]; exact hm x hx
        · rw [va_n (by omega), va_n (by omega)]; exact hl i hi
        · rw [va_n (by omega), va_n (by omega)]; exact hz u hu
        · rw [hstep] at hy
          by_cases e : x = v ∧ y = gcut L k v
          · rw [e.1, e.2, va_s]
            show F4 u = nI (upR N v (gcut L k v) _ v (gcut L k v) u)
            unfold upR
            rw [if_pos ⟨rfl, rfl⟩]
            exact hF4 u hu
          · have hy2 : y < gcut L k x := by
              by_cases ex : x = v
              · subst ex; rw [updN_s] at hy; have : y ≠ gcut L k x := fun z => e ⟨rfl, z⟩; omega
              · rw [updN_n ex] at hy; exact hy
            have b6 := hC.1 x hx
            have b7 := (hL.2 x hx).2.2.1
            rw [va_n (by omega), va_n (by omega)]
            show _ = nI (upR N v (gcut L k v) _ x y u)
            unfold upR
            rw [if_neg e]
            exact hN1 x y u hx hy2 hu
        · rw [hstep] at hy
          have hne : ¬ (x = v ∧ y = gcut L k v) := fun z => by rw [z.1, z.2, updN_s] at hy; omega
          have hy2 : gcut L k x ≤ y := Nat.le_trans (updN_ge _ _ _) hy
          rw [va_n (by omega), va_n (by omega)]
          exact hN2 x y u hx hy2 hy5 hu
        · rw [va_n (by omega)]
          by_cases e : i = k
          · rw [e, va_s, pk_us, hv9]
          · rw [va_s, pk_un e]; exact hfr i (by omega)
      · rw [if_neg hgl]
        refine b_yes rfl ?_
        have hc1 : ¬ cirB L = false := fun e => by
          have hex : ∃ nd, Need L nd := Classical.byContradiction fun z => by rw [cirB_iff.mpr z] at e; cases e
          obtain ⟨nd, hNd⟩ := hex
          have o := fcut_ok hL hNd k (by omega)
          rw [← gf_eq hL hT hNd k (by omega)] at o
          have := (lv1_spec (rdy_ex hL hNd o.1 (by omega))).1
          rw [← glv_lv1 hL hT hNd o.1 o.2.1] at this
          exact hgl this
        exact z0 hc1 (hK rl2 h2 A2 hx (fun e => absurd e hc1))
  refine hG 0 _ _ _ _ _ ?_
  refine y_newI (rl := rl) (β + 101) 4 (fun rl2 h2 b n2 y2 => ?_)
  exact loop (sm (tn L) (vn L)) 0 (by omega) rl2 h2 A b (fun _ => 0) (fun _ _ _ => 0) (fun _ _ => 0) _ _ _ (hH.ex y2 b1 (fun _ _ z => z)) hm hl hz n2 ⟨fun v _ => Nat.zero_le _, fun v _ => rfl⟩ (sm_z (fun _ _ => rfl)) (fun v t _ ht => absurd ht (Nat.not_lt_zero t)) (fun x y u _ hy => absurd hy (Nat.not_lt_zero y)) (fun x y u hx _ hy hu => hz2 x y u hx hy hu) (fun i hi => absurd hi (Nat.not_lt_zero i)) (y2.mono (fun _ z => z.elim))
end ORD2

