section CC7
variable {l : Launch} {g : Gm} {rl rl1 : Nat → Nat} {h h1 : Hp} {K : PT} {a : Nat} {S : St} {f : Nat → Nat} {I : Nat → Int32} {ca : Nat} {sv : Nat × Int32} {B : Nat → Nat → Int32} {β : Nat} {ad : Nat → Nat} {A : Nat → Nat → Int32}
theorem CoH.exb {X : Nat → Prop} {L : Ld} {nd : NT} {c : Nat → Nat} (hO : CoH g rl h β ca ad A sv L nd c) (h4 : vn L ≤ 4) (hx : Ex X rl h rl1 h1) (hn : ∀ i, 2000 ≤ i → i < β + 120 → ¬ X i) : CoH g rl1 h1 β ca ad A sv L nd c := by
  obtain ⟨hβ, hH, hm, hl, hN, hfr, hdn, hsv⟩ := hO
  exact ⟨hβ, hH.ex hx h4 (fun i _ => hn _ (by omega) (by omega)), hm, hl, hN, hfr, hdn, hsv.ex hx (fun i _ _ => hn _ (by omega) (by omega))⟩
theorem k_textInit {y s : Nat} {o1 o2 : Int32} {ρ : Nat} (e : Ob rl h y ρ (.inr (7, [.null, .int 0, .int 0, .int 0]))) (hK : ∀ h1, Ob rl h1 y ρ (.inr (7, [.ref s, .int o1, .int o2, .int 0])) → Ex (fun i => i = ρ) rl h rl h1 → K none h1) : Run l g d_X7_init [.ref y, .ref s, .int o1, .int o2] h 0 0 K := by
  refine vc_X7_init (fun G hG => ?_)
  refine hG 0 _ _ _ _ _ ?_
  refine y_putR e (by decide) (Nat.le_of_ble_eq_true rfl) rfl (fun h2 e2 x2 => ?_)
  refine y_putI e2 (by decide) (Nat.le_of_ble_eq_true rfl) rfl (fun h3 e3 x3 => ?_)
  refine y_putI e3 (by decide) (Nat.le_of_ble_eq_true rfl) rfl (fun h4 e4 x4 => ?_)
  exact hK h4 e4 ((x2.trs x3).trs x4)
theorem cc_land {sh lane i n : Int32} (hok : StOk S) (hC : ClsH g rl h a S) (hK : ∀ rl1 h1, ClsH g rl1 h1 a (st_land S sh lane i n) → Ex CXp rl h rl1 h1 → K (some (.int (sp_land S sh lane i n))) h1) : Run l g d_X9_land [.ref a, .int sh, .int lane, .int i, .int n] h 55 340 K := by
  obtain ⟨f, I, ca, sv, B, β, ad, A, hF, hFM, hO⟩ := hC
  obtain ⟨hβ, hH, hm, hl, hN, hfr, hdn, hsv⟩ := id hO
  have hL := hok.2.1
  have hB := hL.b
  have b1 := hL.1
  unfold st_land sp_land ldr at hK
  refine vc_X9_land (fun G hG => ?_)
  refine hG 0 _ _ _ _ _ ?_
  refine y_putI hF.1 (by decide) (Nat.le_of_ble_eq_true rfl) rfl (fun h1 e1 x1 => ?_)
  have hF := hF.ob (I2 := upd I 1 0) e1 x1 rfl
  have hFM := hFM.fa 0
  have hO := hO.ex b1 x1 (by omega)
  have hx := fcx x1 (by omega)
  have hC1 : ClsH g rl h1 a (setFa S 0) := ⟨f, _, ca, sv, B, β, ad, A, hF, hFM, hO⟩
  refine y_callS (k_isSheet ?_)
  refine b_Z (fun z => ?_) (fun z => ?_)
  · rw [if_neg z] at hK
    exact hK rl h1 hC1 hx
  rw [if_pos z] at hK
  refine y_callS (k_isLane ?_)
  refine b_Z (fun y => ?_) (fun y => ?_)
  · rw [if_neg y] at hK
    exact hK rl h1 hC1 hx
  rw [if_pos y] at hK
  obtain ⟨j, hj, rfl, ej⟩ := shx z
  rw [ej] at hK
  have hle : sLe S j ≤ 60 := (hok.1 j hj).2
  refine y_get hF.1 (by decide) rfl ?_
  refine y_ra j hF.2.1 (by omega) rfl ?_
  refine y_call1 (hF.so hj) (k_faultOfTaking hF hFM hj ?_)
  refine b_cases (fun c => ?_) (fun c => ?_)
  · have c : agst (sSo S j) (sLe S j) lane i n = 0 := c
    rw [if_pos c] at hK
    obtain ⟨p, q, rfl, rfl, hpq, -, -⟩ := agst_1 hle c
    rw [ix_nI (show q < 2 ^ 31 by omega)] at hK
    have htxt : ∀ k, k < q → B (20 + j) (p + k) = txt S (nI j) (nI p) k := fun k hk => by
      unfold txt
      rw [ix_nI (show j < 2 ^ 31 by omega), ix_nI (show p < 2 ^ 31 by omega)]
      exact (hFM.2.2.2.1 j hj).2.2.2 _ (by omega)
    generalize txt S (nI j) (nI p) = t at hK htxt
    -- a new land
    refine y_new (rl := rl) (β + 1000) (fun rl2 h2 a2 e2 y2 => ?_)
    have hF := hF.ex y2 (fun _ _ z => z)
    have hO := hO.exb b1 y2 (fun _ _ _ z => z)
    have hx := hx.tr y2 (fun _ z => z) (fun _ z => z.elim)
    refine x_callI rfl rfl (c_landInit e2 (fun rl3 h3 ad3 A3 hP y3 => ?_))
    have hF := hF.ex y3 (fun i hi z => by have := z.1; omega)
    have hO := hO.exb b1 y3 (fun i _ hi z => by have := z.1; omega)
    have hx := hx.tr y3 (fun _ z => z) (fun i z => by have := z.1; omega)
    -- its reader
    refine y_new (rl := rl3) (β + 1000 + 100) (fun rl4 h4 ty e4 y4 => ?_)
    have hF := hF.ex y4 (fun _ _ z => z)
    have hO := hO.exb b1 y4 (fun _ _ _ z => z)
    have hP := PlH.mk9 hP y4 (by decide) (fun _ _ z => z)
    have hx := hx.tr y4 (fun _ z => z) (fun _ z => z.elim)
    refine y_get hF.1 (by decide) rfl ?_
    refine y_ra j hF.2.1 (by omega) rfl ?_
    refine x_callI rfl rfl (k_textInit e4 (fun h5 e5 y5 => ?_))
    have hF := hF.ex y5 (fun i hi z => by omega)
    have hO := hO.exb b1 y5 (fun i _ hi z => by omega)
    have hP := PlH.mk9 hP y5 (by decide) (fun i hi z => by omega)
    have hx := hx.tr y5 (fun _ z => z) (fun i z => by omega)
    have hTx : TxH g rl4 h5 (β + 1000) ty (f (10 + j)) (f (20 + j)) (100 + (10 + j)) (100 + (20 + j)) _ _ _ p q 0 t := ⟨e5, hF.so hj, _, hF.sc hj, by omega, htxt, by omega, by omega⟩
    refine y_call1 e5 (c_isReadInto hTx hP (fun rl6 h6 ad6 A6 hT6 y6 hP6 => ?_))
    have hF := hF.ex y6 (fun i hi z => by have := z.1; omega)
    have hO := hO.exb b1 y6 (fun i _ hi z => by have := z.1; omega)
    have hx := hx.tr y6 (fun _ z => z) (fun i z => by have := z.1; omega)
    have hC6 : ClsH g rl6 h6 a (setFa S 0) := ⟨f, _, ca, sv, B, β, ad, A, hF, hFM, hO⟩
    have hpo := parse_ok (t := t) (n := q)
    unfold ldp at hK
    generalize parse t q = P at hK hT6 hP6 hpo
    refine b_Z (fun d => ?_) (fun d => ?_)
    · rw [if_neg d] at hK
      refine y_get hT6.1 (by decide) rfl ?_
      exact hK rl6 h6 hC6 hx
    rw [if_pos d] at hK
    have hP6 := hP6 d
    obtain ⟨hL9, h29⟩ := hpo.2 d
    refine y_call1 hP6.1.1 (c_leastAmiss hP6.1 hL9.b hP6.2.2.1 ?_)
    unfold amI
    by_cases e : amN P.2.2 < 8
    · rw [if_pos e] at hK ⊢
      refine b_no (ne9 (by omega)) ?_
      exact hK rl6 h6 hC6 hx
    rw [if_neg e] at hK ⊢
    refine b_yes rfl ?_
    have hT9 := am_ok hL9 e
    refine y_call1 hP6.1.1 (c_isOrdered hP6 hL9 hT9 (fun rl7 h7 A7 y7 hA7 => ?_))
    have hF := hF.ex y7 (fun i hi z => by have := z.1; omega)
    have hO := hO.exb b1 y7 (fun i _ hi z => by have := z.1; omega)
    have hx := hx.tr y7 (fun _ z => z) (fun i z => by have := z.1; omega)
    refine b_Z (fun r => ?_) (fun r => ?_)
    · have r : cirB P.2.2 = true := by cases q9 : cirB P.2.2 with | true => rfl | false => exact absurd q9 r
      rw [if_pos r] at hK
      exact hK rl7 h7 ⟨f, _, ca, sv, B, β, ad, A, hF, hFM, hO⟩ hx
    · rw [if_neg (by rw [r]; decide)] at hK
      obtain ⟨k1, k2, k3, k4, k5, k6⟩ := hA7 r
      have b9 := hL9.1
      refine y_putR hF.1 (by decide) (Nat.le_of_ble_eq_true rfl) rfl (fun h8 e8 y8 => ?_)
      have hF := hF.ob (I2 := upd I 1 0) (ca2 := a2) (sv2 := sv) e8 y8 rfl
      refine y_putZ (Or.inl rfl) hF.1 (by decide) (Nat.le_of_ble_eq_true rfl) rfl (fun h9 e9 y9 => ?_)
      have hF := hF.ob (I2 := upd I 1 0) (ca2 := a2) (sv2 := (sv.1, 0)) e9 y9 rfl
      refine y_putI hF.1 (by decide) (Nat.le_of_ble_eq_true rfl) rfl (fun h10 e10 y10 => ?_)
      have hF := hF.ob (I2 := upd (upd I 1 0) 0 0) (ca2 := a2) (sv2 := (sv.1, 0)) e10 y10 rfl
      have yy := (y8.trs y9).trs y10
      have k1 := k1.ex yy b9 (fun i hi => by omega)
      refine y_get hF.1 (by decide) rfl ?_
      refine y_get k1.1 (by decide) rfl ?_
      refine hK rl7 h10 ⟨f, _, a2, (sv.1, 0), B, β + 1000, ad6, A7, hF, ⟨rfl, rfl, hFM.2.2.1, hFM.2.2.2.1, hFM.2.2.2.2.1, fun r hr => absurd hr (Nat.not_lt_zero r)⟩, ⟨by omega, k1, k2, k3, k4, k5, fun v hv => k6 v (Nat.lt_of_lt_of_le hv b9), (SvO.un hO.2.2.2.2.2.2.2).ex yy (fun i _ _ => by omega)⟩⟩ (hx.trs (fcx yy (by omega)))
  · have c : ¬ agst (sSo S j) (sLe S j) lane i n = 0 := c
    rw [if_neg c] at hK
    refine y_call1 hF.1 (k_fallen hF (fun h2 hF2 x2 => ?_))
    exact hK rl h2 ⟨f, _, ca, sv, B, β, ad, A, hF2, ⟨hFM.1, rfl, hFM.2.2⟩, hO.ex b1 x2 (by omega)⟩ (hx.trs (fcx x2 (by omega)))
theorem k_traceInit {q : Nat} (hK : K none h) : Run l g d_X8_init [.ref q] h 0 0 K := by
  refine vc_X8_init (fun G hG => ?_)
  refine hG 0 _ _ _ _ _ ?_
  exact hK
theorem k_sheetInit {q ρ ρ2 : Nat} (hne : ρ ≠ ρ2) (e : Ob rl h q ρ (.inr (5, [.null, .int 0, .int 0, .int 0]))) (hK : ∀ rl1 h1 x, Ob rl1 h1 q ρ (.inr (5, [.ref x, .int 0, .int 0, .int 0])) → Ia g rl1 h1 x ρ2 60 (fun _ => 0) → Ex (fun i => i = ρ) rl h rl1 h1 → K none h1) : Run l g d_X5_init [.ref q] h 1 60 K := by
  refine vc_X5_init (fun G hG => ?_)
  refine hG 0 _ _ _ _ _ ?_
  refine y_newI (rl := rl) ρ2 60 (fun rl2 h2 x n2 y2 => ?_)
  have e := e.ex y2 (fun z => z)
  refine y_putR e (by decide) (Nat.le_of_ble_eq_true rfl) rfl (fun h3 e3 y3 => ?_)
  exact hK rl2 h3 x e3 (n2.ex y3 (Ne.symm hne)) (y2.tr y3 (fun _ z => z.elim) (fun _ z => z))
theorem cc_init (e : Ob rl h a 100 (.inr (9, [.null, .null, .null, .null, .null, .null, .int 0, .int 0, .null, .null, .int 0]))) (hK : ∀ rl1 h1, ClsH g rl1 h1 a S0 → Ex CXp rl h rl1 h1 → K none h1) : Run l g d_X9_init [.ref a] h 48 7000 K := by
  have x0 : ∀ i, X0 i → CXp i := fun i z => z.elim
  have xi : ∀ i, CXp i → CXp i := fun i z => z
  have xk : ∀ k, k < 1000 ∨ 2000 ≤ k → ∀ i, i = k → CXp i := fun k hk i z => by omega
  have rfX : ∀ i, LX 3000 i → CXp i := fun i z w => by have := z.1; omega
  refine vc_X9_init (fun G hG => ?_)
  refine hG 0 _ _ _ _ _ ?_
  refine y_newR (rl := rl) 101 4 (fun rl1 h1 f1 n1 y1 => ?_)
  have e := e.ex y1 (fun z => z)
  refine y_putR e (by decide) (Nat.le_of_ble_eq_true rfl) rfl (fun h2 e y2 => ?_)
  have n1 := n1.ex y2 (by omega)
  have hx := (y1.mono x0).tr y2 xi (xk 100 (by omega))
  refine y_new (rl := rl1) 102 (fun rl3 h3 f2 n2 y3 => ?_)
  have e := e.ex y3 (fun z => z)
  have n1 := n1.ex y3 (fun z => z)
  refine x_callI rfl rfl (k_traceInit ?_)
  refine y_putR e (by decide) (Nat.le_of_ble_eq_true rfl) rfl (fun h4 e y4 => ?_)
  have n1 := n1.ex y4 (by omega)
  have n2 := n2.ex y4 (by omega)
  have hx := (hx.tr y3 xi x0).tr y4 xi (xk 100 (by omega))
  refine y_newI (rl := rl3) 103 4 (fun rl5 h5 f3 n3 y5 => ?_)
  have e := e.ex y5 (fun z => z)
  have n1 := n1.ex y5 (fun z => z)
  have n2 := n2.ex y5 (fun z => z)
  refine y_putR e (by decide) (Nat.le_of_ble_eq_true rfl) rfl (fun h6 e y6 => ?_)
  have n1 := n1.ex y6 (by omega)
  have n2 := n2.ex y6 (by omega)
  have n3 := n3.ex y6 (by omega)
  have hx := (hx.tr y5 xi x0).tr y6 xi (xk 100 (by omega))
  refine y_newI (rl := rl5) 104 4 (fun rl7 h7 f4 n4 y7 => ?_)
  have e := e.ex y7 (fun z => z)
  have n1 := n1.ex y7 (fun z => z)
  have n2 := n2.ex y7 (fun z => z)
  have n3 := n3.ex y7 (fun z => z)
  refine y_putR e (by decide) (Nat.le_of_ble_eq_true rfl) rfl (fun h8 e y8 => ?_)
  have n1 := n1.ex y8 (by omega)
  have n2 := n2.ex y8 (by omega)
  have n3 := n3.ex y8 (by omega)
  have n4 := n4.ex y8 (by omega)
  have hx := (hx.tr y7 xi x0).tr y8 xi (xk 100 (by omega))
  refine y_newII (rl := rl7) (N := 8) (M := 4) 105 (fun r => 100 + (30 + r)) (fun rl9 h9 f5 rw5 n5 n5b y9 => ?_)
  have e := e.ex y9 (fun z => z)
  have n1 := n1.ex y9 (fun z => z)
  have n2 := n2.ex y9 (fun z => z)
  have n3 := n3.ex y9 (fun z => z)
  have n4 := n4.ex y9 (fun z => z)
  refine y_putR e (by decide) (Nat.le_of_ble_eq_true rfl) rfl (fun h10 e y10 => ?_)
  have n1 := n1.ex y10 (by omega)
  have n2 := n2.ex y10 (by omega)
  have n3 := n3.ex y10 (by omega)
  have n4 := n4.ex y10 (by omega)
  have n5 := n5.ex y10 (by omega)
  have n5b : ∀ r, r < 8 → Ia g rl9 h10 (rw5 r) (100 + (30 + r)) 4 (fun _ => 0) := fun r hr => (n5b r hr).ex y10 (by omega)
  have hx := (hx.tr y9 xi x0).tr y10 xi (xk 100 (by omega))
  refine y_newI (rl := rl9) 106 8 (fun rl11 h11 f6 n6 y11 => ?_)
  have e := e.ex y11 (fun z => z)
  have n1 := n1.ex y11 (fun z => z)
  have n2 := n2.ex y11 (fun z => z)
  have n3 := n3.ex y11 (fun z => z)
  have n4 := n4.ex y11 (fun z => z)
  have n5 := n5.ex y11 (fun z => z)
  have n5b : ∀ r, r < 8 → Ia g rl11 h11 (rw5 r) (100 + (30 + r)) 4 (fun _ => 0) := fun r hr => (n5b r hr).ex y11 (fun z => z)
  refine y_putR e (by decide) (Nat.le_of_ble_eq_true rfl) rfl (fun h12 e y12 => ?_)
  have n1 := n1.ex y12 (by omega)
  have n2 := n2.ex y12 (by omega)
  have n3 := n3.ex y12 (by omega)
  have n4 := n4.ex y12 (by omega)
  have n5 := n5.ex y12 (by omega)
  have n5b : ∀ r, r < 8 → Ia g rl11 h12 (rw5 r) (100 + (30 + r)) 4 (fun _ => 0) := fun r hr => (n5b r hr).ex y12 (by omega)
  have n6 := n6.ex y12 (by omega)
  have hx := (hx.tr y11 xi x0).tr y12 xi (xk 100 (by omega))
  -- the land that is none
  refine y_new (rl := rl11) 3000 (fun rl13 h13 ca e13 y13 => ?_)
  have e := e.ex y13 (fun z => z)
  have n1 := n1.ex y13 (fun z => z)
  have n2 := n2.ex y13 (fun z => z)
  have n3 := n3.ex y13 (fun z => z)
  have n4 := n4.ex y13 (fun z => z)
  have n5 := n5.ex y13 (fun z => z)
  have n5b : ∀ r, r < 8 → Ia g rl13 h13 (rw5 r) (100 + (30 + r)) 4 (fun _ => 0) := fun r hr => (n5b r hr).ex y13 (fun z => z)
  have n6 := n6.ex y13 (fun z => z)
  have hx := hx.tr y13 xi x0
  refine x_callI rfl rfl (c_landInit e13 (fun rl14 h14 ad A hP y14 => ?_))
  have nl : ∀ k, k < 1000 → ¬ LX 3000 k := fun k hk z => by have := z.1; omega
  have e := e.ex y14 (nl _ (by omega))
  have n1 := n1.ex y14 (nl _ (by omega))
  have n2 := n2.ex y14 (nl _ (by omega))
  have n3 := n3.ex y14 (nl _ (by omega))
  have n4 := n4.ex y14 (nl _ (by omega))
  have n5 := n5.ex y14 (nl _ (by omega))
  have n5b : ∀ r, r < 8 → Ia g rl14 h14 (rw5 r) (100 + (30 + r)) 4 (fun _ => 0) := fun r hr => (n5b r hr).ex y14 (nl _ (by omega))
  have n6 := n6.ex y14 (nl _ (by omega))
  have hx := hx.tr y14 xi rfX
  refine y_putR e (by decide) (Nat.le_of_ble_eq_true rfl) rfl (fun h15 e y15 => ?_)
  have n1 := n1.ex y15 (by omega)
  have n2 := n2.ex y15 (by omega)
  have n3 := n3.ex y15 (by omega)
  have n4 := n4.ex y15 (by omega)
  have n5 := n5.ex y15 (by omega)
  have n5b : ∀ r, r < 8 → Ia g rl14 h15 (rw5 r) (100 + (30 + r)) 4 (fun _ => 0) := fun r hr => (n5b r hr).ex y15 (by omega)
  have n6 := n6.ex y15 (by omega)
  have hP := PlH.mk9 hP y15 (by decide) (fun i hi => by omega)
  have hx := hx.tr y15 xi (xk 100 (by omega))
  -- the survey
  refine y_new (rl := rl14) (2000 + 110) (fun rl16 h16 s9 e16 y16 => ?_)
  have e := e.ex y16 (fun z => z)
  have n1 := n1.ex y16 (fun z => z)
  have n2 := n2.ex y16 (fun z => z)
  have n3 := n3.ex y16 (fun z => z)
  have n4 := n4.ex y16 (fun z => z)
  have n5 := n5.ex y16 (fun z => z)
  have n5b : ∀ r, r < 8 → Ia g rl16 h16 (rw5 r) (100 + (30 + r)) 4 (fun _ => 0) := fun r hr => (n5b r hr).ex y16 (fun z => z)
  have n6 := n6.ex y16 (fun z => z)
  have hP := PlH.mk9 hP y16 (by decide) (fun _ _ z => z)
  have hx := hx.tr y16 xi x0
  refine x_callI rfl rfl (c_surveyInit (σ := 2000) e16 (fun rl17 h17 sd9 hB9 hc9 y17 => ?_))
  have ns : ∀ k, k < 1000 → ¬ XS 2000 k := fun k hk z => by have := z.1; omega
  have e := e.ex y17 (ns _ (by omega))
  have n1 := n1.ex y17 (ns _ (by omega))
  have n2 := n2.ex y17 (ns _ (by omega))
  have n3 := n3.ex y17 (ns _ (by omega))
  have n4 := n4.ex y17 (ns _ (by omega))
  have n5 := n5.ex y17 (ns _ (by omega))
  have n5b : ∀ r, r < 8 → Ia g rl17 h17 (rw5 r) (100 + (30 + r)) 4 (fun _ => 0) := fun r hr => (n5b r hr).ex y17 (ns _ (by omega))
  have n6 := n6.ex y17 (ns _ (by omega))
  have hP := PlH.mk9 hP y17 (by decide) (fun i hi z => by have := z.2; omega)
  have hx := hx.tr y17 xi (fun i z w => by have := z.1; omega)
  have hv9 : SvO g rl17 h17 (s9, 0) (sL S0) (sN S0) := ⟨sd9, _, _, _, _, _, _, hB9, hc9, Or.inl rfl⟩
  refine y_putR e (by decide) (Nat.le_of_ble_eq_true rfl) rfl (fun h18 e y18 => ?_)
  have n1 := n1.ex y18 (by omega)
  have n2 := n2.ex y18 (by omega)
  have n3 := n3.ex y18 (by omega)
  have n4 := n4.ex y18 (by omega)
  have n5 := n5.ex y18 (by omega)
  have n5b : ∀ r, r < 8 → Ia g rl17 h18 (rw5 r) (100 + (30 + r)) 4 (fun _ => 0) := fun r hr => (n5b r hr).ex y18 (by omega)
  have n6 := n6.ex y18 (by omega)
  have hP := PlH.mk9 hP y18 (by decide) (fun i hi => by omega)
  have hv9 := hv9.ex y18 (fun i _ _ => by omega)
  have hx := hx.tr y18 xi (xk 100 (by omega))
  -- the sheets
  have loop : ∀ j k, k + j = 4 → ∀ (rl2 : Nat → Nat) (h2 : Hp) (so sc : Nat → Nat) (cb sb : Nat), 2 * j ≤ cb → 64 * j ≤ sb → Ob rl2 h2 a 100 (.inr (9, [.ref f1, .ref f2, .ref f3, .ref f4, .ref f5, .ref f6, .int 0, .int 0, .ref ca, .ref s9, .int 0])) → Ra g 5 rl2 h2 f1 101 4 (fun i => if i < k then some (so i) else none) → Ob rl2 h2 f2 102 (.inr (8, [.int 0])) → Ia g rl2 h2 f3 103 4 (fun _ => 0) → Ia g rl2 h2 f4 104 4 (fun _ => 0) → Ra g 6 rl2 h2 f5 105 8 (fun r => some (rw5 r)) → (∀ r, r < 8 → Ia g rl2 h2 (rw5 r) (100 + (30 + r)) 4 (fun _ => 0)) → Ia g rl2 h2 f6 106 8 (fun _ => 0) → PlH g rl2 h2 3000 ca ad L0 A → SvO g rl2 h2 (s9, 0) (sL S0) (sN S0) → (∀ i, i < k → Ob rl2 h2 (so i) (100 + (10 + i)) (.inr (5, [.ref (sc i), .int 0, .int 0, .int 0])) ∧ Ia g rl2 h2 (sc i) (100 + (20 + i)) 60 (fun _ => 0)) → Ex CXp rl h rl2 h2 → G 1 h2 cb sb [some (.ref a), some (.int (nI k))] [] := by
    intro j
    induction j with
    | zero =>
      intro k hk rl2 h2 so sc cb sb hcb hsb e n1 n2 n3 n4 n5 n5b n6 hP hv9 hs hx
      refine hG 1 _ _ _ _ _ ?_
      refine b_ge k 4 (fun _ => ?_) (fun _ => by omega)
      obtain ⟨hH, hm, hl, hz, hz2⟩ := hP
      have eA : ∀ i, (fun i => if i = 1 then f1 else if i = 2 then f2 else if i = 3 then f3 else if i = 4 then f4 else if i = 5 then f5 else if i = 6 then f6 else if i < 14 then so (i - 10) else if i < 24 then sc (i - 20) else rw5 (i - 30)) i = if i = 1 then f1 else if i = 2 then f2 else if i = 3 then f3 else if i = 4 then f4 else if i = 5 then f5 else if i = 6 then f6 else if i < 14 then so (i - 10) else if i < 24 then sc (i - 20) else rw5 (i - 30) := fun _ => rfl
      refine hK rl2 h2 ⟨fun i => if i = 1 then f1 else if i = 2 then f2 else if i = 3 then f3 else if i = 4 then f4 else if i = 5 then f5 else if i = 6 then f6 else if i < 14 then so (i - 10) else if i < 24 then sc (i - 20) else rw5 (i - 30), fun _ => 0, ca, (s9, 0), fun _ _ => 0, 3000, ad, A, ⟨e, n1.eq (fun i hi => ?_), n2, n3, n4, n5.eq (fun r hr => ?_), n6, fun i hi => ?_, fun r hr => ?_⟩, ⟨rfl, rfl, rfl, fun i hi => ⟨rfl, fun z => absurd rfl z, rfl, fun _ _ => rfl⟩, fun u hu => ⟨0, by omega, rfl⟩, fun r hr => absurd hr (Nat.not_lt_zero r)⟩, ⟨by omega, hH, hm, hl, fun v _ _ hv => absurd hv (Nat.not_lt_zero v), fun k hk => absurd hk (Nat.not_lt_zero k), fun v hv => absurd hv (Nat.not_lt_zero v), hv9⟩⟩ hx
      · rw [if_pos (by omega), eA, if_neg (by omega), if_neg (by omega), if_neg (by omega), if_neg (by omega), if_neg (by omega), if_neg (by omega), if_pos (by omega), show 10 + i - 10 = i by omega]
      · rw [eA, if_neg (by omega), if_neg (by omega), if_neg (by omega), if_neg (by omega), if_neg (by omega), if_neg (by omega), if_neg (by omega), if_neg (by omega), show 30 + r - 30 = r by omega]
      · unfold shF
        rw [eA, eA, if_neg (by omega), if_neg (by omega), if_neg (by omega), if_neg (by omega), if_neg (by omega), if_neg (by omega), if_pos (by omega), if_neg (by omega), if_neg (by omega), if_neg (by omega), if_neg (by omega), if_neg (by omega), if_neg (by omega), if_neg (by omega), if_pos (by omega), show 10 + i - 10 = i by omega, show 20 + i - 20 = i by omega]
        exact hs i (by omega)
      · rw [eA, if_neg (by omega), if_neg (by omega), if_neg (by omega), if_neg (by omega), if_neg (by omega), if_neg (by omega), if_neg (by omega), if_neg (by omega), show 30 + r - 30 = r by omega]
        exact n5b r hr
    | succ j ih =>
      intro k hk rl2 h2 so sc cb sb hcb hsb e n1 n2 n3 n4 n5 n5b n6 hP hv9 hs hx
      refine hG 1 _ _ _ _ _ ?_
      refine b_ge k 4 (fun _ => by omega) (fun _ => ?_)
      refine y_get e (by decide) rfl ?_
      refine y_new (rl := rl2) (100 + (10 + k)) (fun rl3 h3 q3 e3 y3 => ?_)
      refine x_callI rfl rfl (k_sheetInit (ρ2 := 100 + (20 + k)) (by omega) e3 (fun rl4 h4 x4 e4 n7 y4 => ?_))
      have tI : ∀ {b ρ n : Nat} {F : Nat → Int32}, Ia g rl2 h2 b ρ n F → ρ ≠ 100 + (10 + k) → Ia g rl4 h4 b ρ n F := fun z hr => (z.ex y3 (fun z => z)).ex y4 hr
      have tO : ∀ {b ρ : Nat} {E : va_E}, Ob rl2 h2 b ρ E → ρ ≠ 100 + (10 + k) → Ob rl4 h4 b ρ E := fun z hr => (z.ex y3 (fun z => z)).ex y4 hr
      have tR : ∀ {b ρ n t : Nat} {F : Nat → Option Nat}, Ra g t rl2 h2 b ρ n F → ρ ≠ 100 + (10 + k) → Ra g t rl4 h4 b ρ n F := fun z hr => (z.ex y3 (fun z => z)).ex y4 hr
      have n1' := tR n1 (by omega)
      refine y_rs k n1' (by omega) e4 (by decide) (fun h5 e5 y5 => ?_)
      have ih9 := ih (k + 1) (by omega) rl4 h5 (updN so k q3) (updN sc k x4) (cb - 1 - 1) (sb - 4 - 60) (by omega) (by omega) ((tO e (by omega)).ex y5 (by omega)) (e5.eq (fun i hi => ?_)) ((tO n2 (by omega)).ex y5 (by omega)) ((tI n3 (by omega)).ex y5 (by omega)) ((tI n4 (by omega)).ex y5 (by omega)) ((tR n5 (by omega)).ex y5 (by omega)) (fun r hr => (tI (n5b r hr) (by omega)).ex y5 (by omega)) ((tI n6 (by omega)).ex y5 (by omega)) (PlH.mk9 (PlH.mk9 (PlH.mk9 hP y3 (by decide) (fun _ _ z => z)) y4 (by decide) (fun i hi => by omega)) y5 (by decide) (fun i hi => by omega)) (((hv9.ex y3 (fun _ _ _ z => z)).ex y4 (fun i _ _ => by omega)).ex y5 (fun i _ _ => by omega)) (fun i hi => ?_) (((hx.tr y3 xi x0).tr y4 xi (xk _ (by omega))).tr y5 xi (xk 101 (by omega)))
      rw [nI_succ k] at ih9
      exact ih9 
      · by_cases e9 : i = k
        · rw [e9, va_s, if_pos (by omega), updN_s]
        · rw [va_n e9]
          by_cases e8 : i < k
          · rw [if_pos e8, if_pos (by omega), updN_n e9]
          · rw [if_neg e8, if_neg (by omega)]
      · by_cases e9 : i = k
        · rw [e9, updN_s, updN_s]; exact ⟨e4.ex y5 (by omega), n7.ex y5 (by omega)⟩
        · rw [updN_n e9, updN_n e9]
          obtain ⟨q1, q2⟩ := hs i (by omega)
          exact ⟨(tO q1 (by omega)).ex y5 (by omega), (tI q2 (by omega)).ex y5 (by omega)⟩
  refine loop 4 0 (by omega) rl17 h18 (fun _ => 0) (fun _ => 0) _ _ (by omega) (by omega) e (n1.eq (fun i hi => ?_)) n2 n3 n4 n5 n5b n6 hP hv9 (fun i hi => absurd hi (Nat.not_lt_zero i)) hx
  rw [if_neg (by omega)]
end CC7

