section CC1
variable {l : Launch} {g : Gm} {rl : Nat → Nat} {h : Hp} {K : PT} {a : Nat} {S : St}
theorem cc_trace (hok : StOk S) (hC : ClsH g rl h a S) (hK : K (some (.int (sp_trace S))) h) : Run l g d_X9_trace [.ref a] h 0 0 K := by
  obtain ⟨f, I, ca, sv, B, β, ad, A, hF, hFM, hO⟩ := hC
  obtain ⟨hβ, hH, hm, hl, hN, hfr, hdn, hsv⟩ := id hO
  have hL := hok.2.1
  have hB := hL.b
  have b1 := hL.1
  refine vc_X9_trace (fun G hG => ?_)
  refine hG 0 _ _ _ _ _ ?_
  refine y_get hF.1 (by decide) rfl ?_
  refine y_get hF.2.2.1 (by decide) rfl ?_
  rw [hFM.2.2.1]
  exact hK
theorem cc_fault (hok : StOk S) (hC : ClsH g rl h a S) (hK : K (some (.int (sp_fault S))) h) : Run l g d_X9_fault [.ref a] h 0 0 K := by
  obtain ⟨f, I, ca, sv, B, β, ad, A, hF, hFM, hO⟩ := hC
  obtain ⟨hβ, hH, hm, hl, hN, hfr, hdn, hsv⟩ := id hO
  have hL := hok.2.1
  have hB := hL.b
  have b1 := hL.1
  refine vc_X9_fault (fun G hG => ?_)
  refine hG 0 _ _ _ _ _ ?_
  refine y_get hF.1 (by decide) rfl ?_
  rw [hFM.2.1]
  exact hK
theorem cc_back {n : Int32} (hok : StOk S) (hC : ClsH g rl h a S) (hK : ∀ h1, ClsH g rl h1 a (st_back S n) → Ex CXp rl h rl h1 → K (some (.int (sp_back S n))) h1) : Run l g d_X9_back [.ref a, .int n] h 0 0 K := by
  have hC0 := hC
  obtain ⟨f, I, ca, sv, B, β, ad, A, hF, hFM, hO⟩ := hC
  obtain ⟨hβ, hH, hm, hl, hN, hfr, hdn, hsv⟩ := id hO
  have hL := hok.2.1
  have hB := hL.b
  have b1 := hL.1
  have rn8 := hok.2.2.2.2.2.1
  unfold st_back sp_back at hK
  refine vc_X9_back (fun G hG => ?_)
  refine hG 0 _ _ _ _ _ ?_
  refine b_cases (fun z => ?_) (fun z => ?_)
  · have hn : ¬ InR n 0 (nI (sRn S)) := fun r => nlt.mpr r.1 z
    rw [if_neg hn, if_neg hn] at hK
    exact hK h hC0 Ex.rf
  refine y_get hF.1 (by decide) rfl ?_
  rw [hFM.1]
  refine b_cases (fun y => ?_) (fun y => ?_)
  · have hn : InR n 0 (nI (sRn S)) := ⟨nlt.mp z, y⟩
    rw [if_pos hn, if_pos hn] at hK
    obtain ⟨j, hj, rfl⟩ := inR_of (n := sRn S) (by omega) hn
    rw [ix_nI (by omega)] at hK
    refine y_get hF.1 (by decide) rfl ?_
    rw [hFM.1]
    refine y_putI hF.1 (by decide) (Nat.le_of_ble_eq_true rfl) rfl (fun h1 e1 x1 => ?_)
    have e9 : nI (sRn S) - nI j = nI (sRn S - j) := pk_sub hj
    have hF := hF.ob (I2 := upd I 0 (nI (sRn S - j))) (by rw [← e9]; exact e1) x1 rfl
    refine y_get hF.1 (by decide) rfl ?_
    exact hK h1 ⟨f, _, ca, sv, B, β, ad, A, hF, ⟨rfl, hFM.2.1, hFM.2.2.1, hFM.2.2.2.1, hFM.2.2.2.2.1, fun r hr => hFM.2.2.2.2.2 r (Nat.lt_of_lt_of_le hr (Nat.sub_le _ _))⟩, hO.ex b1 x1 (by omega)⟩ (fcx x1 (by omega))
  · have hn : ¬ InR n 0 (nI (sRn S)) := fun r => y r.2
    rw [if_neg hn, if_neg hn] at hK
    exact hK h hC0 Ex.rf
theorem shx {k : Int32} (y : InR k 0 3) : ∃ j, j < 4 ∧ k = nI j ∧ ix k = j := by
  obtain ⟨j, hj, rfl⟩ := sh_of y
  exact ⟨j, hj, rfl, ix_nI (by omega)⟩
/-- sheets changed in one sheet alone -/
theorem FcM.sg {I : Nat → Int32} {B B' : Nat → Nat → Int32} {X : SgT} {j : Nat} (hM : FcM I B S) (h8 : sRn S ≤ 8) (hj : j < 4) (e : ∀ i, i ≠ 10 + j → i ≠ 20 + j → B' i = B i) (hX : ∀ i, i ≠ j → X.1 i = sSo S i ∧ X.2.1 i = sLe S i ∧ X.2.2 i = sCe S i) (hn : B' (10 + j) 0 = (if X.1 j = -9 then 0 else 1) ∧ (¬ X.1 j = -9 → B' (10 + j) 1 = X.1 j) ∧ B' (10 + j) 2 = nI (X.2.1 j) ∧ ∀ i, i < 60 → B' (20 + j) i = X.2.2 j i) : FcM I B' (setSg S X) := by
  refine ⟨hM.1, hM.2.1, hM.2.2.1, fun k hk => ?_, fun u hu => ?_, fun r hr => ?_⟩
  · by_cases ek : k = j
    · subst ek; exact hn
    · obtain ⟨x1, x2, x3⟩ := hX k ek
      show B' (10 + k) 0 = (if X.1 k = -9 then 0 else 1) ∧ (¬ X.1 k = -9 → B' (10 + k) 1 = X.1 k) ∧ B' (10 + k) 2 = nI (X.2.1 k) ∧ ∀ i, i < 60 → B' (20 + k) i = X.2.2 k i
      rw [e (10 + k) (by omega) (by omega), e (20 + k) (by omega) (by omega), x1, x2, x3]
      exact hM.2.2.2.1 k hk
  · rw [e 3 (by omega) (by omega)]; exact hM.2.2.2.2.1 u hu
  · have hr : r < sRn S := hr
    rw [e 6 (by omega) (by omega), e (30 + r) (by omega) (by omega)]
    exact hM.2.2.2.2.2 r hr
theorem cc_lose {k : Int32} (hok : StOk S) (hC : ClsH g rl h a S) (hK : ∀ h1, ClsH g rl h1 a (st_lose S k) → Ex CXp rl h rl h1 → K (some (.int (sp_lose S k))) h1) : Run l g d_X9_lose [.ref a, .int k] h 0 0 K := by
  have hC0 := hC
  obtain ⟨f, I, ca, sv, B, β, ad, A, hF, hFM, hO⟩ := hC
  obtain ⟨hβ, hH, hm, hl, hN, hfr, hdn, hsv⟩ := id hO
  have hL := hok.2.1
  have hB := hL.b
  have b1 := hL.1
  unfold st_lose sp_lose at hK
  refine vc_X9_lose (fun G hG => ?_)
  have g1 : ∀ y : Int32, InR k 0 3 → y = (if sSo S (ix k) = -9 then 0 else 1) → G 1 h 0 0 [some (.ref a), some (.int k), none] [.int y] := fun y hn ey => by
    rw [if_pos hn, if_pos hn] at hK
    obtain ⟨j, hj, rfl, ej⟩ := shx hn
    rw [ej] at hK ey
    refine hG 1 _ _ _ _ _ ?_
    refine y_get hF.1 (by decide) rfl ?_
    refine y_ra j hF.2.1 (by omega) rfl ?_
    refine y_putZ (Or.inl rfl) (hF.so hj) (by decide) (Nat.le_of_ble_eq_true rfl) rfl (fun h1 e1 x1 => ?_)
    have hF := hF.up (10 + j) (F := upd (B (10 + j)) 0 0) x1 (by omega) (fun z => by omega) (fun z => by omega) (fun i hi z => by have e9 : i = j := (by omega); rw [e9]; exact e1) (fun i hi z => by omega) (fun i hi z => by omega)
    rw [← ey] at hK
    obtain ⟨q0, q1, q2, q3⟩ := hFM.2.2.2.1 j hj
    refine hK h1 ⟨f, I, ca, sv, _, β, ad, A, hF, hFM.sg hok.2.2.2.2.2.1 hj (fun i e1 _ => va_n e1) (fun i hi => ⟨pk_un hi, rfl, rfl⟩) ?_, hO.ex b1 x1 (by omega)⟩ (fcx x1 (by omega))
    rw [va_s, va_n (show 20 + j ≠ 10 + j by omega)]
    have e9 : upd (sSo S) j (-9) j = -9 := pk_us ..
    exact ⟨(if_pos e9).symm, fun z => absurd e9 z, q2, q3⟩
  refine hG 0 _ _ _ _ _ ?_
  refine y_callS (k_isSheet ?_)
  refine b_Z (fun z => ?_) (fun z => ?_)
  · rw [if_neg z, if_neg z] at hK
    exact hK h hC0 Ex.rf
  · obtain ⟨j, hj, rfl, ej⟩ := shx z
    refine y_get hF.1 (by decide) rfl ?_
    refine y_ra j hF.2.1 (by omega) rfl ?_
    refine y_get (hF.so hj) (by decide) rfl ?_
    rw [(hFM.2.2.2.1 j hj).1]
    have g2 := fun y => g1 y z
    rw [ej] at g2
    by_cases e : sSo S j = -9
    · rw [if_pos e]
      exact b_yes rfl (g2 0 (if_pos e).symm)
    · rw [if_neg e]
      exact b_no (by decide) (g2 1 (if_neg e).symm)
theorem k_renew {f : Nat → Nat} {I : Nat → Int32} {ca : Nat} {sv : Nat × Int32} {B : Nat → Nat → Int32} {j : Nat} {x n : Int32} (hF : FcH g rl h a f I ca sv B) (hj : j < 4) (hK : ∀ h1, FcH g rl h1 a f I ca sv (va_up (va_up B (20 + j) (fun _ => 0)) (10 + j) (fun i => if i = 0 then 1 else if i = 1 then x else n)) → Ex (fun i => i = 100 + (20 + j) ∨ i = 100 + (10 + j)) rl h rl h1 → K none h1) : Run l g d_X5_renew [.ref (f (10 + j)), .int x, .int n] h 0 0 K := by
  refine vc_X5_renew (fun G hG => ?_)
  refine hG 0 _ _ _ _ _ ?_
  refine y_get (hF.so hj) (by decide) rfl ?_
  refine y_callS (k_fill (hF.sc hj) (by omega) (fun h1 e1 x1 => ?_))
  have hF := hF.up (20 + j) x1 (by omega) (fun z => by omega) (fun z => by omega) (fun i hi z => by omega) (fun i hi z => e1) (fun i hi z => by omega)
  have hso := hF.so hj
  rw [va_n (show 10 + j ≠ 20 + j by omega)] at hso
  refine y_putZ (Or.inr rfl) hso (by decide) (Nat.le_of_ble_eq_true rfl) rfl (fun h2 e2 x2 => ?_)
  refine y_putI e2 (by decide) (Nat.le_of_ble_eq_true rfl) rfl (fun h3 e3 x3 => ?_)
  refine y_putI e3 (by decide) (Nat.le_of_ble_eq_true rfl) rfl (fun h4 e4 x4 => ?_)
  have xx := (x2.trs x3).trs x4
  have hF := hF.up (10 + j) (F := fun i => if i = 0 then 1 else if i = 1 then x else n) xx (by omega) (fun z => by omega) (fun z => by omega) (fun i hi z => by have e9 : i = j := (by omega); rw [e9]; exact e4) (fun i hi z => by omega) (fun i hi z => by omega)
  exact hK h4 hF (x1.tr xx (fun _ z => Or.inl z) (fun _ z => Or.inr z))
theorem cc_sheet {k lane n : Int32} (hok : StOk S) (hC : ClsH g rl h a S) (hK : ∀ h1, ClsH g rl h1 a (st_sheet S k lane n) → Ex CXp rl h rl h1 → K (some (.int (sp_sheet k lane n))) h1) : Run l g d_X9_sheet [.ref a, .int k, .int lane, .int n] h 0 0 K := by
  obtain ⟨f, I, ca, sv, B, β, ad, A, hF, hFM, hO⟩ := hC
  obtain ⟨hβ, hH, hm, hl, hN, hfr, hdn, hsv⟩ := id hO
  have hL := hok.2.1
  have hB := hL.b
  have b1 := hL.1
  have rn8 := hok.2.2.2.2.2.1
  unfold st_sheet sp_sheet at hK
  refine vc_X9_sheet (fun G hG => ?_)
  refine hG 0 _ _ _ _ _ ?_
  refine y_putI hF.1 (by decide) (Nat.le_of_ble_eq_true rfl) rfl (fun h1 e1 x1 => ?_)
  have hF := hF.ob (I2 := upd I 1 0) e1 x1 rfl
  have hFM := hFM.fa 0
  have hO := hO.ex b1 x1 (by omega)
  have hx := fcx x1 (by omega)
  refine y_callS (k_isSheet ?_)
  refine b_Z (fun z => ?_) (fun z => ?_)
  · rw [if_neg z, if_neg (fun r => z r.1)] at hK
    exact hK h1 ⟨f, _, ca, sv, B, β, ad, A, hF, hFM, hO⟩ hx
  refine y_callS (k_isLane ?_)
  refine b_Z (fun y => ?_) (fun y => ?_)
  · rw [if_pos z, if_neg y, if_neg (fun r => y r.2.1)] at hK
    exact hK h1 ⟨f, _, ca, sv, B, β, ad, A, hF, hFM, hO⟩ hx
  refine b_cases (fun w => ?_) (fun w => ?_)
  · have w : n ≤ 60 := w
    rw [if_pos z, if_pos y, if_pos w, if_pos ⟨z, y, w⟩] at hK
    refine b_cases (fun v => ?_) (fun v => ?_)
    · have v : 0 ≤ n := v
      rw [if_pos v, if_pos v] at hK
      obtain ⟨j, hj, rfl, ej⟩ := shx z
      rw [ej] at hK
      obtain ⟨p, hp, rfl⟩ := inR_of (n := 60) (by omega) ⟨v, w⟩
      rw [ix_nI (by omega)] at hK
      refine y_get hF.1 (by decide) rfl ?_
      refine y_ra j hF.2.1 (by omega) rfl ?_
      refine y_call1 (hF.so hj) (k_renew hF hj (fun h2 hF2 x2 => ?_))
      have hx2 : Ex CXp rl h1 rl h2 := x2.mono (fun i z => by omega)
      have hl9 : ¬ lane = -9 := fun e => by rw [e] at y; exact absurd y.1 (by decide)
      refine hK h2 ⟨f, _, ca, sv, _, β, ad, A, hF2, FcM.sg (S := setFa S 0) hFM rn8 hj (fun i e1 e2 => by rw [va_n e1, va_n e2]) (fun i hi => ⟨pk_un hi, updN_n hi, va_n hi⟩) ?_, hO.ex b1 x2 (by omega)⟩ (hx.trs hx2)
      rw [va_s, va_n (show 20 + j ≠ 10 + j by omega), va_s]
      show (1 : Int32) = (if upd (sSo S) j lane j = -9 then 0 else 1) ∧ (¬ upd (sSo S) j lane j = -9 → lane = upd (sSo S) j lane j) ∧ nI p = nI (updN (sLe S) j p j) ∧ ∀ i, i < 60 → (0 : Int32) = va_up (sCe S) j (fun _ => 0) j i
      rw [pk_us, if_neg hl9, updN_s, va_s]
      exact ⟨rfl, fun _ => rfl, rfl, fun _ _ => rfl⟩
    · have v : ¬ 0 ≤ n := v
      rw [if_neg v, if_neg v] at hK
      refine y_call1 hF.1 (k_fallen hF (fun h2 hF2 x2 => ?_))
      exact hK h2 ⟨f, _, ca, sv, B, β, ad, A, hF2, hFM.fa 4, hO.ex b1 x2 (by omega)⟩ (hx.trs (fcx x2 (by omega)))
  · have w : ¬ n ≤ 60 := w
    rw [if_pos z, if_pos y, if_neg w, if_neg (fun r => w r.2.2)] at hK
    exact hK h1 ⟨f, _, ca, sv, B, β, ad, A, hF, hFM, hO⟩ hx
theorem hasC1 {le : Nat} {i : Int32} (hle : le ≤ 60) : HasC le i 1 ↔ InR i 0 (nI le - 1) := by
  constructor
  · rintro ⟨h1, h2, -, h4⟩
    obtain ⟨j, hj, rfl⟩ := nI_of h1
    have h3 : j ≤ le := by
      rcases Nat.lt_or_ge le j with q | q
      · exact absurd (nI_lt q hj) h2
      · exact q
    rw [pk_sub h3] at h4
    have h5 : 1 ≤ le - j := by
      rcases Nat.lt_or_ge (le - j) 1 with q | q
      · exact absurd (nI_lt q (by omega)) h4
      · exact q
    rw [show nI le - 1 = nI (le - 1) from pk_sub (b := 1) (by omega)]
    exact ⟨nI_pos' hj, nI_le (by omega) (by omega)⟩
  · intro h
    obtain ⟨j, hj, rfl⟩ := inR_m1 hle h
    refine ⟨nI_pos (by omega), nlt.mpr (nI_le (by omega) (by omega)), by decide, ?_⟩
    rw [pk_sub (by omega)]
    exact nlt.mpr (nI_le (a := 1) (by omega) (by omega))
theorem cc_put {k i v : Int32} (hok : StOk S) (hC : ClsH g rl h a S) (hK : ∀ h1, ClsH g rl h1 a (st_put S k i v) → Ex CXp rl h rl h1 → K (some (.int (sp_put S k i))) h1) : Run l g d_X9_put [.ref a, .int k, .int i, .int v] h 0 0 K := by
  obtain ⟨f, I, ca, sv, B, β, ad, A, hF, hFM, hO⟩ := hC
  obtain ⟨hβ, hH, hm, hl, hN, hfr, hdn, hsv⟩ := id hO
  have hL := hok.2.1
  have hB := hL.b
  have b1 := hL.1
  have rn8 := hok.2.2.2.2.2.1
  unfold st_put sp_put at hK
  refine vc_X9_put (fun G hG => ?_)
  refine hG 0 _ _ _ _ _ ?_
  refine y_putI hF.1 (by decide) (Nat.le_of_ble_eq_true rfl) rfl (fun h1 e1 x1 => ?_)
  have hF := hF.ob (I2 := upd I 1 0) e1 x1 rfl
  have hFM := hFM.fa 0
  have hO := hO.ex b1 x1 (by omega)
  have hx := fcx x1 (by omega)
  refine y_callS (k_isSheet ?_)
  refine b_Z (fun z => ?_) (fun z => ?_)
  · rw [if_neg z, if_neg z] at hK
    exact hK h1 ⟨f, _, ca, sv, B, β, ad, A, hF, hFM, hO⟩ hx
  rw [if_pos z, if_pos z] at hK
  obtain ⟨j, hj, rfl, ej⟩ := shx z
  unfold PutF at hK
  rw [ej] at hK
  obtain ⟨m0, m1, m2, m3⟩ := hFM.2.2.2.1 j hj
  have m0 : B (10 + j) 0 = (if sSo S j = -9 then 0 else 1) := m0
  have m1 : ¬ sSo S j = -9 → B (10 + j) 1 = sSo S j := m1
  have hle : sLe S j ≤ 60 := (hok.1 j hj).2
  refine y_get hF.1 (by decide) rfl ?_
  refine y_ra j hF.2.1 (by omega) rfl ?_
  refine y_get (hF.so hj) (by decide) rfl ?_
  rw [m0]
  by_cases s9 : sSo S j = -9
  · rw [if_pos s9]
    rw [if_pos s9, if_neg (by decide), if_neg (by decide)] at hK
    refine b_yes rfl ?_
    refine y_call1 hF.1 (k_fallen hF (fun h2 hF2 x2 => ?_))
    exact hK h2 ⟨f, _, ca, sv, B, β, ad, A, hF2, hFM.fa 1, hO.ex b1 x2 (by omega)⟩ (hx.trs (fcx x2 (by omega)))
  rw [if_neg s9]
  rw [if_neg s9] at hK
  refine b_no (by decide) ?_
  refine y_get hF.1 (by decide) rfl ?_
  refine y_ra j hF.2.1 (by omega) rfl ?_
  refine y_call1 (hF.so hj) (k_hasCells hF hFM hj ?_)
  have hiff : HasC (sLe S j) i 1 ↔ InR i 0 (nI (sLe S j) - 1) := hasC1 hle
  refine b_Z (fun w => ?_) (fun w => ?_)
  · have w : ¬ InR i 0 (nI (sLe S j) - 1) := fun r => w (hiff.mpr r)
    rw [if_neg w, if_neg (by decide), if_neg (by decide)] at hK
    refine y_call1 hF.1 (k_fallen hF (fun h2 hF2 x2 => ?_))
    exact hK h2 ⟨f, _, ca, sv, B, β, ad, A, hF2, hFM.fa 3, hO.ex b1 x2 (by omega)⟩ (hx.trs (fcx x2 (by omega)))
  · have w := hiff.mp w
    rw [if_pos w, if_pos rfl, if_pos rfl] at hK
    obtain ⟨p, hp, rfl⟩ := inR_m1 hle w
    rw [ix_nI (by omega)] at hK
    -- the cell is written
    have wr : ∀ h2, Ia g rl h2 (f (20 + j)) (100 + (20 + j)) 60 (upd (B (20 + j)) p (lan (sSo S j) v)) → Ex (fun i => i = 100 + (20 + j)) rl h1 rl h2 → K (some (.int 1)) h2 := fun h2 e2 x2 => by
      have hF2 := hF.up (20 + j) x2 (by omega) (fun z => by omega) (fun z => by omega) (fun i hi z => by omega) (fun i hi z => e2) (fun i hi z => by omega)
      refine hK h2 ⟨f, _, ca, sv, _, β, ad, A, hF2, FcM.sg (S := setFa S 0) hFM rn8 hj (fun i e1 e2 => va_n e2) (fun i hi => ⟨rfl, rfl, va_n hi⟩) ?_, hO.ex b1 x2 (by omega)⟩ (hx.trs (fcx x2 (by omega)))
      rw [va_n (show 10 + j ≠ 20 + j by omega), va_s]
      refine ⟨m0, m1, m2, fun i hi => ?_⟩
      show upd (B (20 + j)) p (lan (sSo S j) v) i = va_up (sCe S) j (upd (sCe S j) p (lan (sSo S j) v)) j i
      rw [va_s]
      by_cases e : i = p
      · rw [e, pk_us, pk_us]
      · rw [pk_un e, pk_un e]; exact m3 i hi
    refine y_get hF.1 (by decide) rfl ?_
    refine y_ra j hF.2.1 (by omega) rfl ?_
    unfold lan at wr
    refine y_call1 (hF.so hj) (vc_X5_write (mc := 0) (ms := 0) (fun G hG => ?_))
    refine hG 0 _ _ _ _ _ ?_
    refine y_get (hF.so hj) (by decide) rfl ?_
    rw [m1 s9]
    refine b_cases (fun c => ?_) (fun c => ?_)
    · have c : sSo S j = 0 := c
      rw [if_pos c] at wr
      refine y_get (hF.so hj) (by decide) rfl ?_
      exact y_is p (hF.sc hj) (by omega) (fun h2 e2 x2 => wr h2 e2 x2)
    have c : ¬ sSo S j = 0 := c
    rw [if_neg c] at wr
    refine y_get (hF.so hj) (by decide) rfl ?_
    rw [m1 s9]
    refine b_cases (fun c => ?_) (fun c => ?_)
    · have c : sSo S j = 1 := c
      rw [if_pos c] at wr
      refine y_get (hF.so hj) (by decide) rfl ?_
      exact y_is p (hF.sc hj) (by omega) (fun h2 e2 x2 => wr h2 e2 x2)
    · have c : ¬ sSo S j = 1 := c
      rw [if_neg c] at wr
      refine y_get (hF.so hj) (by decide) rfl ?_
      exact y_is p (hF.sc hj) (by omega) (fun h2 e2 x2 => wr h2 e2 x2)
end CC1

