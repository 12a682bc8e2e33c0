section MM2
variable {l : Launch} {g : Gm} {rl : Nat → Nat} {h : Hp} {K : PT} {m : Nat} {q : Nat → Nat} {I : Nat → Int32} {A : Nat → Nat → Int32} {Wy : Nat → Int64} {S : St}
theorem ix_nI {v : Nat} (h : v < 2 ^ 31) : ix (nI v) = v := nI_clamp h
theorem inR_of {x : Int32} {n : Nat} (hn : n < 2 ^ 31) (h : InR x 0 (nI n)) : ∃ v, v ≤ n ∧ x = nI v := by
  obtain ⟨j, hj, rfl⟩ := nI_of (nlt.mpr h.1)
  exact ⟨j, (nI_leI hj hn).mp h.2, rfl⟩
theorem inR_nI {v n : Nat} (h : v ≤ n) (hn : n < 2 ^ 31) : InR (nI v) 0 (nI n) := ⟨nI_pos' (by omega), nI_le h hn⟩
/-- the fault's field alone -/
theorem MSt.fa (hS : MSt I A S) (x : Int32) : MSt (upd I 0 x) A (setFa S x) := ⟨hS.1, rfl, hS.2.2.1, hS.2.2.2.1, hS.2.2.2.2.1, hS.2.2.2.2.2⟩
theorem MSt.tr (hS : MSt I A S) (x : Int32) : MSt (upd I 1 x) A (setTr S x) := ⟨hS.1, hS.2.1, rfl, hS.2.2.2.1, hS.2.2.2.2.1, hS.2.2.2.2.2⟩
theorem mm_anew (hR : ModR g rl h m S) (hK : ∀ h1, ModR g rl h1 m (st_anew S) → MX rl h h1 → K (some (.int (sp_anew S))) h1) : Run l g d_X10_anew [.ref m] h 0 0 K := by
  have hR0 := hR
  obtain ⟨hok, q, I, A, Wy, hM, hS⟩ := hR
  have hL := hS.2.2.2.1
  have b1 := hL.1.1
  refine vc_X10_anew (fun G hG => ?_)
  refine hG 0 _ _ _ _ _ ?_
  refine y_get hM.1 (by decide) rfl ?_
  rw [hL.2.1]
  unfold sp_anew st_anew at hK
  have hok2 : StOk (setD S (fun _ => 0)) := ⟨hok.1, hok.2.1, hok.2.2.1, fun w _ => Nat.zero_le _, ⟨hok.2.2.2.2.1.1, hok.2.2.2.2.1.2.1, cbe_0⟩, hok.2.2.2.2.2⟩
  refine pk_eq (vn (sL S)) 0 (fun z => ?_) (fun z => ?_)
  · rw [if_pos z] at hK
    refine hK h ⟨hok2, q, I, A, Wy, hM, hS.1, hS.2.1, hS.2.2.1, hL, fun w hw => ?_, hS.2.2.2.2.2⟩ Ex.rf
    have hw : w < vn (sL S) := hw
    omega
  · rw [if_neg z] at hK
    refine y_call1 hM.1 (m_takeNow hM hL.2.1 b1 (fun h1 F hM hF hx => ?_))
    have hc := now_cut hok hS hF
    have loop : ∀ k v, v + k = vn (sL S) → ∀ (h1 : Hp) (E : Nat → Int32), ModH g rl h1 m q I (va_up (va_up A 21 F) 11 E) Wy → (∀ w, w < v → E w = 0) → MX rl h h1 → G 1 h1 0 0 [some (.ref m), some (.int (nI v))] [] := by
      intro k
      induction k with
      | zero =>
        intro v hv h1 E hM hE hx
        refine hG 1 _ _ _ _ _ ?_
        refine y_get hM.1 (by decide) rfl ?_
        rw [hL.2.1]
        refine b_ge v (vn (sL S)) (fun _ => ?_) (fun _ => by omega)
        have hL2 : MLand I (va_up (va_up A 21 F) 11 E) (sL S) (sN S) := hL
        have hc2 : MCut (va_up (va_up A 21 F) 11 E) (sL S) (sD S) := hc
        refine y_call1 hM.1 (m_inCut hM hL2 hc2 ?_)
        exact hK h1 ⟨hok2, q, I, _, Wy, hM, hS.1, hS.2.1, hS.2.2.1, hL, fun w hw => hE w (by have hw : w < vn (sL S) := hw; omega), hS.2.2.2.2.2⟩ hx
      | succ k ih =>
        intro v hv h1 E hM hE hx
        refine hG 1 _ _ _ _ _ ?_
        refine y_get hM.1 (by decide) rfl ?_
        rw [hL.2.1]
        refine b_ge v (vn (sL S)) (fun _ => by omega) (fun _ => ?_)
        refine y_get hM.1 (by decide) rfl ?_
        refine y_is v hM.a11 (by omega) (fun h2 e2 x2 => ?_)
        have hM2 := hM.setA 11 e2 x2
        rw [up_up] at hM2
        refine (fun z => by rw [nI_succ v] at z; exact z) (ih (v + 1) (by omega) h2 _ hM2 (fun w hw => ?_) (hx.trs (MX.of x2)))
        by_cases e : w = v
        · rw [e]; exact pk_us
        · rw [pk_un e]; exact hE w (by omega)
    refine loop (vn (sL S)) 0 (by omega) h1 (A 11) ?_ (fun w hw => by omega) hx
    exact (up_id (va_up A 21 F) 11).symm ▸ hM
theorem mm_back {n : Int32} (hR : ModR g rl h m S) (hK : ∀ h1, ModR g rl h1 m (st_back S n) → MX rl h h1 → K (some (.int (sp_back S n))) h1) : Run l g d_X10_back [.ref m, .int n] h 0 0 K := by
  have hR0 := hR
  obtain ⟨hok, q, I, A, Wy, hM, hS⟩ := hR
  have hL := hS.2.2.2.1
  have b1 := hL.1.1
  have hrn := hok.2.2.2.2.2.1
  have h24 := hS.2.2.2.2.2.1
  unfold sp_back st_back at hK
  refine vc_X10_back (fun G hG => ?_)
  refine hG 0 _ _ _ _ _ ?_
  refine y_get hM.1 (by decide) rfl ?_
  rw [h24]
  refine y_callS (m_within ?_)
  refine b_Z (fun z => ?_) (fun z => ?_)
  · rw [if_neg z, if_neg z] at hK
    exact hK h hR0 Ex.rf
  · rw [if_pos z, if_pos z] at hK
    obtain ⟨j, hj, rfl⟩ := inR_of (by omega) z
    rw [ix_nI (by omega)] at hK
    refine y_get hM.1 (by decide) rfl ?_
    rw [h24]
    refine y_putI hM.1 (by decide) (Nat.le_of_ble_eq_true rfl) rfl (fun h1 e1 x1 => ?_)
    have e9 : nI (sRn S) - nI j = nI (sRn S - j) := pk_sub hj
    have hM1 := hM.setI (I' := upd I 24 (nI (sRn S - j))) (by rw [← e9]; exact e1) x1
    refine y_get hM1.1 (by decide) rfl ?_
    refine hK h1 ⟨⟨hok.1, hok.2.1, hok.2.2.1, hok.2.2.2.1, hok.2.2.2.2.1, by show sRn S - j ≤ 8; omega, fun r hr => hok.2.2.2.2.2.2 r (by have hr : r < sRn S - j := hr; omega)⟩, q, _, A, Wy, hM1, hS.1, hS.2.1, hS.2.2.1, hL, hS.2.2.2.2.1, rfl, fun r hr => hS.2.2.2.2.2.2 r (by have hr : r < sRn S - j := hr; omega)⟩ (MX.of x1)
theorem sh_of {k : Int32} (h : InR k 0 3) : ∃ j, j < 4 ∧ k = nI j := by
  obtain ⟨v, hv, e⟩ := inR_of (x := k) (n := 3) (by omega) h
  exact ⟨v, by omega, e⟩
theorem mm_lose {k : Int32} (hR : ModR g rl h m S) (hK : ∀ h1, ModR g rl h1 m (st_lose S k) → MX rl h h1 → K (some (.int (sp_lose S k))) h1) : Run l g d_X10_lose [.ref m, .int k] h 0 0 K := by
  have hR0 := hR
  obtain ⟨hok, q, I, A, Wy, hM, hS⟩ := hR
  have hL := hS.2.2.2.1
  have b1 := hL.1.1
  unfold sp_lose st_lose at hK
  refine vc_X10_lose (fun G hG => ?_)
  refine hG 0 _ _ _ _ _ ?_
  refine y_callS (m_isSheet ?_)
  refine b_Z (fun z => ?_) (fun z => ?_)
  · rw [if_neg z, if_neg z] at hK
    exact hK h hR0 Ex.rf
  · rw [if_pos z, if_pos z] at hK
    obtain ⟨j, hj, rfl⟩ := sh_of z
    rw [ix_nI (by omega)] at hK
    have g1 : ∀ o, G 1 h 0 0 [some (.ref m), some (.int (nI j)), o] [.int (if sSo S j = -9 then 0 else 1)] := fun o => by
      refine hG 1 _ _ _ _ _ ?_
      refine y_get hM.1 (by decide) rfl ?_
      refine y_is j hM.a2 (by omega) (fun h1 e1 x1 => ?_)
      refine hK h1 ⟨⟨fun w hw => ?_, hok.2⟩, q, I, _, Wy, hM.setA 2 e1 x1, ⟨fun w hw => ?_, hS.2⟩⟩ (MX.of x1)
      · by_cases e : w = j
        · subst e; exact ⟨Or.inl pk_us, (hok.1 w hw).2⟩
        · refine ⟨?_, (hok.1 w hw).2⟩
          show (fun y : Int32 => y = -9 ∨ y = 0 ∨ y = 1 ∨ y = 2) (upd (sSo S) j (-9) w)
          rw [show upd (sSo S) j (-9) w = sSo S w from pk_un e]
          exact (hok.1 w hw).1
      · by_cases e : w = j
        · subst e; exact ⟨by show upd (A 2) w (-9) w = upd (sSo S) w (-9) w; rw [pk_us, pk_us], (hS.1 w hw).2⟩
        · exact ⟨by show upd (A 2) j (-9) w = upd (sSo S) j (-9) w; rw [pk_un e, pk_un e]; exact (hS.1 w hw).1, (hS.1 w hw).2⟩
    refine y_get hM.1 (by decide) rfl ?_
    refine y_ia (j) hM.a2 (by omega) ((hS.1 j hj).1) ?_
    refine b_cases (fun y => ?_) (fun y => ?_)
    · have g1 := g1 none
      rw [if_pos y] at g1
      exact g1
    · have g1 := g1 none
      rw [if_neg y] at g1
      exact g1
theorem m_begins {x : Int32} (hM : ModH g rl h m q I A Wy) (hS : MSt I A S) (hK : ∀ h1, ModH g rl h1 m q (upd I 1 (bgn (sTr S) x)) A Wy → MSt (upd I 1 (bgn (sTr S) x)) A (setTr S (bgn (sTr S) x)) → MX rl h h1 → K none h1) : Run l g d_X10_begins [.ref m, .int x] h 0 0 K := by
  refine vc_X10_begins (fun G hG => ?_)
  refine hG 0 _ _ _ _ _ ?_
  refine y_get hM.1 (by decide) rfl ?_
  rw [hS.2.2.1]
  refine y_putI hM.1 (by decide) (Nat.le_of_ble_eq_true rfl) rfl (fun h1 e1 x1 => ?_)
  exact hK h1 (hM.setI e1 x1) (hS.tr _) (MX.of x1)
theorem mm_tell {x : Int32} (hR : ModR g rl h m S) (hK : ∀ h1, ModR g rl h1 m (st_tell S x) → MX rl h h1 → K (some (.int (sp_tell S x))) h1) : Run l g d_X10_tell [.ref m, .int x] h 0 0 K := by
  have hR0 := hR
  obtain ⟨hok, q, I, A, Wy, hM, hS⟩ := hR
  have hL := hS.2.2.2.1
  have b1 := hL.1.1
  unfold sp_tell st_tell at hK
  refine vc_X10_tell (fun G hG => ?_)
  refine hG 0 _ _ _ _ _ ?_
  refine y_call1 hM.1 (m_isVillage hM hL.2.1 ?_)
  refine b_Z (fun z => ?_) (fun z => ?_)
  · rw [if_neg z, if_neg z] at hK
    exact hK h hR0 Ex.rf
  · obtain ⟨v, hv, rfl⟩ := isV_of z (by omega)
    rw [if_pos z, if_pos z, ix_nI (by omega)] at hK
    refine y_call1 hM.1 (m_takeNow hM hL.2.1 b1 (fun h1 F hM hF hx => ?_))
    have hc := now_cut hok hS hF
    have hL2 : MLand I (va_up A 21 F) (sL S) (sN S) := hL
    have hS2 : MSt I (va_up A 21 F) S := hS
    have b3 := (hL.1.2 v hv).1
    refine y_call1 hM.1 (m_valueOf hM hL2 hc hv ?_)
    refine y_get hM.1 (by decide) rfl ?_
    refine y_ia (v) hM.a6 (by omega) ((hL.2.2 v hv).1) ?_
    refine pk_eq (kd (sL S) v) 1 (fun y => ?_) (fun y => ?_)
    · rw [if_pos y, if_pos y] at hK
      refine y_call1 hM.1 (m_begins hM hS2 (fun h2 hM hS2 hx2 => ?_))
      refine y_call1 hM.1 (m_begins hM hS2 (fun h3 hM hS2 hx3 => ?_))
      exact hK h3 ⟨hok, q, _, _, Wy, hM, hS2⟩ ((hx.trs hx2).trs hx3)
    · rw [if_neg y, if_neg y] at hK
      refine pk_eq (kd (sL S) v) 2 (fun y => ?_) (fun y => ?_)
      · rw [if_pos y, if_pos y] at hK
        refine y_call1 hM.1 (m_begins hM hS2 (fun h2 hM hS2 hx2 => ?_))
        refine y_call1 hM.1 (m_begins hM hS2 (fun h3 hM hS2 hx3 => ?_))
        refine y_call1 hM.1 (m_begins hM hS2 (fun h4 hM hS2 hx4 => ?_))
        refine y_call1 hM.1 (m_begins hM hS2 (fun h5 hM hS2 hx5 => ?_))
        exact hK h5 ⟨hok, q, _, _, Wy, hM, hS2⟩ ((((hx.trs hx2).trs hx3).trs hx4).trs hx5)
      · rw [if_neg y, if_neg y] at hK
        refine y_call1 hM.1 (m_begins hM hS2 (fun h2 hM hS2 hx2 => ?_))
        exact hK h2 ⟨hok, q, _, _, Wy, hM, hS2⟩ (hx.trs hx2)
theorem mm_ring {x : Int32} (hR : ModR g rl h m S) (hK : ∀ h1, ModR g rl h1 m (st_ring S x) → MX rl h h1 → K (some (.int (sp_ring S x))) h1) : Run l g d_X10_ring [.ref m, .int x] h 0 0 K := by
  have hR0 := hR
  obtain ⟨hok, q, I, A, Wy, hM, hS⟩ := hR
  have hL := hS.2.2.2.1
  have b1 := hL.1.1
  unfold sp_ring st_ring at hK
  refine vc_X10_ring (fun G hG => ?_)
  refine hG 0 _ _ _ _ _ ?_
  refine y_call1 hM.1 (m_isVillage hM hL.2.1 ?_)
  refine b_Z (fun z => ?_) (fun z => ?_)
  · rw [if_neg z, if_neg z] at hK
    exact hK h hR0 Ex.rf
  · obtain ⟨v, hv, rfl⟩ := isV_of z (by omega)
    rw [if_pos z, if_pos z, ix_nI (by omega)] at hK
    have b3 := (hL.1.2 v hv).1
    refine y_get hM.1 (by decide) rfl ?_
    refine y_ia (v) hM.a6 (by omega) ((hL.2.2 v hv).1) ?_
    refine pk_eq (kd (sL S) v) 2 (fun y => ?_) (fun y => ?_)
    · rw [if_pos y, if_pos y] at hK
      refine hG 1 _ _ _ _ _ ?_
      refine y_call1 hM.1 (m_begins hM hS (fun h1 hM hS2 hx => ?_))
      refine y_get hM.1 (by decide) rfl ?_
      refine y_ia (v) hM.a6 (by omega) ((hL.2.2 v hv).1) ?_
      refine pk_eq (kd (sL S) v) 2 (fun _ => ?_) (fun w => absurd y w)
      exact hK h1 ⟨hok, q, _, _, Wy, hM, hS2⟩ hx
    · rw [if_neg y, if_neg y] at hK
      refine hG 1 _ _ _ _ _ ?_
      refine y_call1 hM.1 (m_begins hM hS (fun h1 hM hS2 hx => ?_))
      refine y_get hM.1 (by decide) rfl ?_
      refine y_ia (v) hM.a6 (by omega) ((hL.2.2 v hv).1) ?_
      refine pk_eq (kd (sL S) v) 2 (fun w => absurd w y) (fun _ => ?_)
      refine y_get hM.1 (by decide) rfl ?_
      refine y_ia (v) hM.a11 (by omega) (hS.2.2.2.2.1 v hv) ?_
      exact hK h1 ⟨hok, q, _, _, Wy, hM, hS2⟩ hx
theorem mm_as {x k : Int32} (hR : ModR g rl h m S) (hK : ∀ h1, ModR g rl h1 m (st_as S x k) → MX rl h h1 → K (some (.int (sp_as S x k))) h1) : Run l g d_X10_as [.ref m, .int x, .int k] h 0 0 K := by
  obtain ⟨hok, q, I, A, Wy, hM, hS⟩ := hR
  have hL := hS.2.2.2.1
  have b1 := hL.1.1
  unfold sp_as st_as at hK
  refine vc_X10_as (fun G hG => ?_)
  refine hG 0 _ _ _ _ _ ?_
  refine y_putI hM.1 (by decide) (Nat.le_of_ble_eq_true rfl) rfl (fun h1 e1 x1 => ?_)
  have hM := hM.setI (I' := upd I 0 0) e1 x1
  have hS1 := hS.fa 0
  have hx := MX.of x1
  refine y_call1 hM.1 (m_isVillage hM hL.2.1 ?_)
  refine b_Z (fun z => ?_) (fun z => ?_)
  · rw [if_neg z, if_neg (fun r => z r.1)] at hK
    exact hK h1 ⟨hok, q, _, A, Wy, hM, hS1⟩ hx
  · obtain ⟨v, hv, rfl⟩ := isV_of z (by omega)
    rw [if_pos z, ix_nI (by omega)] at hK
    refine y_callS (m_within ?_)
    refine b_Z (fun y => ?_) (fun y => ?_)
    · rw [if_neg y, if_neg (fun r => y r.2.1)] at hK
      exact hK h1 ⟨hok, q, _, A, Wy, hM, hS1⟩ hx
    · rw [if_pos y] at hK
      refine y_get hM.1 (by decide) rfl ?_
      refine y_ia (v) hM.a6 (by omega) ((hL.2.2 v hv).1) ?_
      refine b_cases (fun w => ?_) (fun w => ?_)
      · rw [if_pos w, if_pos ⟨z, y, w⟩] at hK
        refine y_call1 hM.1 (m_fails hM (fun h2 hM2 hx2 => ?_))
        exact hK h2 ⟨hok, q, _, A, Wy, hM2, hS1.fa 2⟩ (hx.trs hx2)
      · rw [if_neg w, if_neg (fun r => w r.2.2)] at hK
        exact hK h1 ⟨hok, q, _, A, Wy, hM, hS1⟩ hx
end MM2

