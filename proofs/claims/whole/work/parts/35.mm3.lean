section MM3
variable {l : Launch} {g : Gm} {rl : Nat → Nat} {h : Hp} {K : PT} {m : Nat} {q : Nat → Nat} {I : Nat → Int32} {A : Nat → Nat → Int32} {Wy : Nat → Int64} {S : St}
theorem mm_thing {x y w : Int32} (hR : ModR g rl h m S) (hK : ∀ h1, ModR g rl h1 m S → MX rl h h1 → K (some (.int (sp_thing S x y w))) h1) : Run l g d_X10_thing [.ref m, .int x, .int y, .int w] h 0 0 K := by
  have hK := hK h hR Ex.rf
  obtain ⟨hok, q, I, A, Wy, hM, hS⟩ := hR
  have hL := hS.2.2.2.1
  have b1 := hL.1.1
  unfold sp_thing at hK
  refine vc_X10_thing (fun G hG => ?_)
  refine hG 0 _ _ _ _ _ ?_
  refine y_call1 hM.1 (m_isThing hM hL ?_)
  refine b_Z (fun z => ?_) (fun z => ?_)
  · rw [if_neg z] at hK
    exact hK
  rw [if_pos z] at hK
  obtain ⟨v, hv, rfl⟩ := isV_of z.1 (by omega)
  have ev : (nI v).toNatClampNeg = v := nI_clamp (by omega)
  have b2 := (hL.1.2 v hv).2.2.1
  obtain ⟨t, ht, rfl⟩ := isV_of z.2 (by rw [ev]; omega)
  rw [ev] at ht
  rw [ix_nI (by omega), ix_nI (by omega)] at hK
  obtain ⟨w1, w2, w3⟩ := (hL.2.2 v hv).2.2 t ht
  have g1 : (InR w 0 2 ∨ InR w 10 13) → G 1 h 0 0 [some (.ref m), some (.int (nI v)), some (.int (nI t)), some (.int w), none, none] [] := fun hz => by
    rw [if_pos hz] at hK
    refine hG 1 _ _ _ _ _ ?_
    refine b_cases (fun a => ?_) (fun a => ?_)
    · rw [if_neg (nle.mpr a)] at hK
      refine b_cases (fun b => ?_) (fun b => ?_)
      · have n0 : ¬ w = 0 := fun e => by rw [e] at b; exact absurd b (by decide)
        have n1 : ¬ w = 1 := fun e => by rw [e] at b; exact absurd b (by decide)
        rw [if_neg n0, if_neg n1] at hK
        have loop : ∀ k u, u + k = vn (sL S) → G 2 h 0 0 [some (.ref m), some (.int (nI v)), some (.int (nI t)), some (.int w), some (.int (nI (sm (sN S v t) u))), some (.int (nI u))] [] := by
          intro k
          induction k with
          | zero =>
            intro u hu
            refine hG 2 _ _ _ _ _ ?_
            refine y_get hM.1 (by decide) rfl ?_
            rw [hL.2.1]
            refine b_ge u (vn (sL S)) (fun _ => ?_) (fun _ => by omega)
            rw [show u = vn (sL S) by omega]
            exact hK
          | succ k ih =>
            intro u hu
            refine hG 2 _ _ _ _ _ ?_
            refine y_get hM.1 (by decide) rfl ?_
            rw [hL.2.1]
            refine b_ge u (vn (sL S)) (fun _ => by omega) (fun _ => ?_)
            refine y_call1 hM.1 (m_aheadOf hM (by omega) (w3 u (by omega)).1 ?_)
            have ih9 := ih (u + 1) (by omega)
            rw [nI_succ u, sm_succ, ← nI_add] at ih9
            exact ih9
        exact loop (vn (sL S)) 0 (by omega)
      · refine b_cases (fun c => ?_) (fun c => ?_)
        · rw [if_pos c] at hK
          refine y_get hM.1 (by decide) rfl ?_
          refine y_ia (5 * v + t) hM.a8 (by omega) (w1) ?_ (ix5 v t)
          exact hK
        · rw [if_neg c] at hK
          have n1 : w = 1 := by
            rcases hz with hz | hz
            · obtain ⟨j, hj, rfl⟩ := inR_of (n := 2) (by omega) hz
              have : ¬ 2 ≤ j := fun q2 => b (nI_le q2 (by omega))
              have : ¬ j = 0 := fun q2 => c (by rw [q2]; rfl)
              rw [show j = 1 by omega]; rfl
            · exact absurd hz.1 (nle.mpr a)
          rw [if_pos n1] at hK
          refine y_get hM.1 (by decide) rfl ?_
          refine y_ia (5 * v + t) hM.a9 (by omega) (w2) ?_ (ix5 v t)
          exact hK
    · rw [if_pos (nlt.mp a)] at hK
      refine y_call1 hM.1 (m_isVillage hM hL.2.1 ?_)
      refine b_Z (fun c => ?_) (fun c => ?_)
      · rw [if_neg c] at hK
        exact hK
      · rw [if_pos c] at hK
        obtain ⟨u, hu, eu⟩ := isV_of c (by omega)
        have eu : w - 10 = nI u := eu
        rw [eu, ix_nI (by omega)] at hK
        refine y_call1 hM.1 (m_aheadOf hM (by omega) (w3 u (by omega)).1 ?_ rfl rfl eu)
        exact hK
  refine y_callS (m_within ?_)
  refine b_Z (fun z => ?_) (fun z => ?_)
  · refine y_callS (m_within ?_)
    refine b_Z (fun z2 => ?_) (fun z2 => ?_)
    · rw [if_neg (fun r => r.elim z z2)] at hK
      exact hK
    · exact g1 (Or.inr z2)
  · exact g1 (Or.inl z)
theorem nI_inj {a b : Nat} (ha : a < 2 ^ 31) (hb : b < 2 ^ 31) (e : nI a = nI b) : a = b := (nI_eq ha hb).mp e
theorem mm_ahead {x y z w : Int32} (hR : ModR g rl h m S) (hK : ∀ h1, ModR g rl h1 m S → MX rl h h1 → K (some (.int (sp_ahead S x y z w))) h1) : Run l g d_X10_ahead [.ref m, .int x, .int y, .int z, .int w] h 0 0 K := by
  have hK := hK h hR Ex.rf
  obtain ⟨hok, q, I, A, Wy, hM, hS⟩ := hR
  have hL := hS.2.2.2.1
  have b1 := hL.1.1
  unfold sp_ahead at hK
  refine vc_X10_ahead (fun G hG => ?_)
  refine hG 0 _ _ _ _ _ ?_
  refine y_call1 hM.1 (m_isThing hM hL ?_)
  refine b_Z (fun p => ?_) (fun p => ?_)
  · rw [if_neg (fun r => p r.1)] at hK
    exact hK
  refine y_call1 hM.1 (m_isThing hM hL ?_)
  refine b_Z (fun p2 => ?_) (fun p2 => ?_)
  · rw [if_neg (fun r => p2 r.2)] at hK
    exact hK
  rw [if_pos ⟨p, p2⟩] at hK
  obtain ⟨v, hv, rfl⟩ := isV_of p.1 (by omega)
  have ev : (nI v).toNatClampNeg = v := nI_clamp (by omega)
  have b2 := (hL.1.2 v hv).2.2.1
  obtain ⟨t, ht, rfl⟩ := isV_of p.2 (by rw [ev]; omega)
  rw [ev] at ht
  obtain ⟨u, hu, rfl⟩ := isV_of p2.1 (by omega)
  have eu : (nI u).toNatClampNeg = u := nI_clamp (by omega)
  have b3 := (hL.1.2 u hu).2.2.1
  obtain ⟨o, ho, rfl⟩ := isV_of p2.2 (by rw [eu]; omega)
  rw [eu] at ho
  rw [ix_nI (by omega), ix_nI (by omega), ix_nI (by omega), ix_nI (by omega)] at hK
  obtain ⟨w1, b4⟩ := ((hL.2.2 v hv).2.2 t ht).2.2 u (by omega)
  obtain ⟨w2, b5⟩ := ((hL.2.2 u hu).2.2 o ho).2.2 v (by omega)
  have g1 : ¬ (nI v = nI u ∧ nI t = nI o) → G 1 h 0 0 [some (.ref m), some (.int (nI v)), some (.int (nI t)), some (.int (nI u)), some (.int (nI o))] [] := fun hz => by
    rw [if_neg hz] at hK
    refine hG 1 _ _ _ _ _ ?_
    refine y_call1 hM.1 (m_aheadOf hM (by omega) w2 ?_)
    refine pk_le (sN S u o v) t (fun a => ?_) (fun a => ?_)
    · rw [if_neg (by omega)] at hK
      refine y_call1 hM.1 (m_aheadOf hM (by omega) w1 ?_)
      refine pk_le (sN S v t u) o (fun c => ?_) (fun c => ?_)
      · rw [if_neg (by omega)] at hK
        exact hK
      · rw [if_pos (by omega)] at hK
        exact hK
    · rw [if_pos (by omega)] at hK
      exact hK
  refine b_cases (fun a => ?_) (fun a => ?_)
  · refine b_cases (fun c => ?_) (fun c => ?_)
    · rw [if_pos ⟨a, c⟩] at hK
      exact hK
    · exact g1 (fun r => c r.2)
  · exact g1 (fun r => a r.1)
/-- a sheet anew, cell by cell -/
theorem mm_sheet {k lane n : Int32} (hR : ModR g rl h m S) (hK : ∀ h1, ModR g rl h1 m (st_sheet S k lane n) → MX rl h h1 → K (some (.int (sp_sheet k lane n))) h1) : Run l g d_X10_sheet [.ref m, .int k, .int lane, .int n] h 0 0 K := by
  obtain ⟨hok, q, I, A, Wy, hM, hS⟩ := hR
  have hL := hS.2.2.2.1
  have b1 := hL.1.1
  unfold sp_sheet st_sheet at hK
  refine vc_X10_sheet (fun G hG => ?_)
  refine hG 0 _ _ _ _ _ ?_
  refine y_putI hM.1 (by decide) (Nat.le_of_ble_eq_true rfl) rfl (fun h1 e1 x1 => ?_)
  have hM := hM.setI (I' := upd I 0 0) e1 x1
  have hS1 := hS.fa 0
  have hx := MX.of x1
  refine y_callS (m_isSheet ?_)
  refine b_Z (fun z => ?_) (fun z => ?_)
  · rw [if_neg z, if_neg (fun r => z r.1)] at hK
    exact hK h1 ⟨hok, q, _, A, Wy, hM, hS1⟩ hx
  rw [if_pos z] at hK
  refine y_callS (m_isSort ?_)
  refine b_Z (fun y => ?_) (fun y => ?_)
  · rw [if_neg y, if_neg (fun r => y r.2.1)] at hK
    exact hK h1 ⟨hok, q, _, A, Wy, hM, hS1⟩ hx
  rw [if_pos y] at hK
  refine b_cases (fun w => ?_) (fun w => ?_)
  rotate_left
  · rw [if_neg w, if_neg (fun r => w r.2.2)] at hK
    exact hK h1 ⟨hok, q, _, A, Wy, hM, hS1⟩ hx
  rw [if_pos w, if_pos ⟨z, y, w⟩] at hK
  refine b_cases (fun u => ?_) (fun u => ?_)
  rotate_left
  · rw [if_neg u, if_neg u] at hK
    refine y_call1 hM.1 (m_fails hM (fun h2 hM2 hx2 => ?_))
    exact hK h2 ⟨hok, q, _, A, Wy, hM2, hS1.fa 4⟩ (hx.trs hx2)
  rw [if_pos u, if_pos u] at hK
  obtain ⟨j, hj, rfl⟩ := sh_of z
  obtain ⟨n2, hn2, rfl⟩ := inR_of (n := 60) (by omega) ⟨u, w⟩
  rw [ix_nI (by omega), ix_nI (by omega)] at hK
  refine y_get hM.1 (by decide) rfl ?_
  refine y_is j hM.a2 (by omega) (fun h2 e2 x2 => ?_)
  have hM := hM.setA 2 e2 x2
  have hx := hx.trs (MX.of x2)
  refine y_get hM.1 (by decide) rfl ?_
  refine y_is j hM.a3 (by omega) (fun h3 e3 x3 => ?_)
  have hM := hM.setA 3 e3 x3
  have hx := hx.trs (MX.of x3)
  have loop : ∀ kk i, i + kk = 60 → ∀ (h4 : Hp) (E : Nat → Int32), ModH g rl h4 m q (upd I 0 0) (va_up (va_up (va_up A 2 (upd (A 2) j lane)) 3 (upd (A 3) j (nI n2))) 4 E) Wy → (∀ w i2, w < 4 → i2 < 60 → E (60 * w + i2) = if w = j ∧ i2 < i then 0 else A 4 (60 * w + i2)) → MX rl h h4 → G 1 h4 0 0 [some (.ref m), some (.int (nI j)), some (.int lane), some (.int (nI n2)), some (.int (nI i))] [] := by
    intro kk
    induction kk with
    | zero =>
      intro i hi h4 E hM hE hx
      refine hG 1 _ _ _ _ _ ?_
      refine b_ge i 60 (fun _ => ?_) (fun _ => by omega)
      refine hK h4 ⟨⟨fun w hw => ?_, hok.2⟩, q, _, _, Wy, hM, ⟨fun w hw => ?_, hS1.2⟩⟩ hx
      · by_cases e : w = j
        · subst e
          refine ⟨?_, ?_⟩
          · show (fun y : Int32 => y = -9 ∨ y = 0 ∨ y = 1 ∨ y = 2) (upd (sSo S) w lane w)
            rw [pk_us]
            obtain ⟨l2, hl2, rfl⟩ := inR_of (n := 2) (by omega) y
            have : l2 = 0 ∨ l2 = 1 ∨ l2 = 2 := by omega
            rcases this with rfl | rfl | rfl
            · exact Or.inr (Or.inl rfl)
            · exact Or.inr (Or.inr (Or.inl rfl))
            · exact Or.inr (Or.inr (Or.inr rfl))
          · show updN (sLe S) w n2 w ≤ 60
            rw [updN_s]; exact hn2
        · refine ⟨?_, ?_⟩
          · show (fun y : Int32 => y = -9 ∨ y = 0 ∨ y = 1 ∨ y = 2) (upd (sSo S) j lane w)
            rw [pk_un e]
            exact (hok.1 w hw).1
          · show updN (sLe S) j n2 w ≤ 60
            rw [updN_n e]; exact (hok.1 w hw).2
      · obtain ⟨s1, s2, s3⟩ := hS.1 w hw
        refine ⟨?_, ?_, fun i2 hi2 => ?_⟩
        · show upd (A 2) j lane w = upd (sSo S) j lane w
          by_cases e : w = j
          · rw [e, pk_us, pk_us]
          · rw [pk_un e, pk_un e]; exact s1
        · show upd (A 3) j (nI n2) w = nI (updN (sLe S) j n2 w)
          by_cases e : w = j
          · rw [e, pk_us, updN_s]
          · rw [pk_un e, updN_n e]; exact s2
        · show E (60 * w + i2) = va_up (sCe S) j (fun _ => 0) w i2
          rw [hE w i2 hw hi2]
          unfold va_up
          by_cases e : w = j
          · rw [if_pos ⟨e, by omega⟩, if_pos e]
          · rw [if_neg (fun r => e r.1), if_neg e]; exact s3 i2 hi2
    | succ kk ih =>
      intro i hi h4 E hM hE hx
      refine hG 1 _ _ _ _ _ ?_
      refine b_ge i 60 (fun _ => by omega) (fun _ => ?_)
      refine y_get hM.1 (by decide) rfl ?_
      refine y_is (60 * j + i) hM.a4 (by omega) (fun h5 e5 x5 => ?_) (ix60 j i)
      have hM2 := hM.setA 4 e5 x5
      rw [up_up] at hM2
      refine (fun z => by rw [nI_succ i] at z; exact z) (ih (i + 1) (by omega) h5 _ hM2 (fun w i2 hw hi2 => ?_) (hx.trs (MX.of x5)))
      by_cases e : 60 * w + i2 = 60 * j + i
      · have e1 : w = j := by omega
        have e2 : i2 = i := by omega
        rw [e, show upd (va_up (va_up (va_up A 2 (upd (A 2) j lane)) 3 (upd (A 3) j (nI n2))) 4 E 4) (60 * j + i) 0 (60 * j + i) = 0 from pk_us, if_pos ⟨e1, by omega⟩]
      · rw [show upd (va_up (va_up (va_up A 2 (upd (A 2) j lane)) 3 (upd (A 3) j (nI n2))) 4 E 4) (60 * j + i) 0 (60 * w + i2) = E (60 * w + i2) from pk_un e, hE w i2 hw hi2]
        by_cases e3 : w = j ∧ i2 < i
        · rw [if_pos e3, if_pos ⟨e3.1, by omega⟩]
        · rw [if_neg e3, if_neg (fun r => e3 ⟨r.1, by have := r.1; omega⟩)]
  refine loop 60 0 (by omega) h3 (A 4) ?_ (fun w i2 _ _ => by rw [if_neg (fun r => by omega)]) hx
  have e9 : va_up (va_up (va_up A 2 (upd (A 2) j lane)) 3 (upd (A 3) j (nI n2))) 4 (A 4) = va_up (va_up A 2 (upd (A 2) j lane)) 3 (upd (A 3) j (nI n2)) := up_id (va_up (va_up A 2 (upd (A 2) j lane)) 3 (upd (A 3) j (nI n2))) 4
  rw [e9]
  exact hM
end MM3

