theorem if_iff {α : Sort _} {c : Prop} [Decidable c] {a b : α} (h : c) {x : α} (e : (if c then a else b) = x) : a = x := by rw [if_pos h] at e; exact e
section MM1
variable {l : Launch} {g : Gm} {rl : Nat → Nat} {h : Hp} {K : PT} {m : Nat} {q : Nat → Nat} {I : Nat → Int32} {A : Nat → Nat → Int32} {Wy : Nat → Int64} {S : St}
theorem mm_trace (hR : ModR g rl h m S) (hK : K (some (.int (sp_trace S))) h) : Run l g d_X10_trace [.ref m] h 0 0 K := by
  obtain ⟨hok, q, I, A, Wy, hM, hS⟩ := hR
  have hL := hS.2.2.2.1
  have b1 := hL.1.1
  refine vc_X10_trace (fun G hG => ?_)
  refine hG 0 _ _ _ _ _ ?_
  refine y_get hM.1 (by decide) rfl ?_
  rw [hS.2.2.1]
  exact hK
theorem mm_fault (hR : ModR g rl h m S) (hK : K (some (.int (sp_fault S))) h) : Run l g d_X10_fault [.ref m] h 0 0 K := by
  obtain ⟨hok, q, I, A, Wy, hM, hS⟩ := hR
  have hL := hS.2.2.2.1
  have b1 := hL.1.1
  refine vc_X10_fault (fun G hG => ?_)
  refine hG 0 _ _ _ _ _ ?_
  refine y_get hM.1 (by decide) rfl ?_
  rw [hS.2.1]
  exact hK
theorem now_cut (hok : StOk S) (hS : MSt I A S) {F : Nat → Int32} (hF : ∀ v, v < vn (sL S) → F v = A 11 v) : MCut (va_up A 21 F) (sL S) (sD S) := ⟨hok.2.2.2.1, fun v hv => (hF v hv).trans (hS.2.2.2.2.1 v hv)⟩
theorem mm_ofVillage {x w : Int32} (hR : ModR g rl h m S) (hK : ∀ h1, ModR g rl h1 m S → MX rl h h1 → K (some (.int (sp_ofVillage S x w))) h1) : Run l g d_X10_ofVillage [.ref m, .int x, .int w] h 0 0 K := by
  have hR0 := hR
  obtain ⟨hok, q, I, A, Wy, hM, hS⟩ := hR
  have hL := hS.2.2.2.1
  have b1 := hL.1.1
  refine vc_X10_ofVillage (fun G hG => ?_)
  refine hG 0 _ _ _ _ _ ?_
  refine y_call1 hM.1 (m_isVillage hM hL.2.1 ?_)
  unfold sp_ofVillage at hK
  refine b_Z (fun z => ?_) (fun z => ?_)
  · rw [if_neg z] at hK
    exact hK h hR0 Ex.rf
  · rw [if_pos z] at hK
    obtain ⟨v, hv, rfl⟩ := isV_of z (by omega)
    rw [show ix (nI v) = v from nI_clamp (by omega)] at hK
    refine y_call1 hM.1 (m_takeNow hM hL.2.1 b1 (fun h1 F hM hF hx => ?_))
    have hK := hK h1 ⟨hok, q, I, _, Wy, hM, hS⟩ hx
    have hc := now_cut hok hS hF
    have hL2 : MLand I (va_up A 21 F) (sL S) (sN S) := hL
    refine b_cases (fun y => ?_) (fun y => ?_)
    · rw [if_pos y] at hK
      refine y_get hM.1 (by decide) rfl ?_
      refine y_ia (v) hM.a6 (by omega) ((hL.2.2 v hv).1) ?_
      exact hK
    rw [if_neg y] at hK
    refine b_cases (fun y => ?_) (fun y => ?_)
    · rw [if_pos y] at hK
      refine y_get hM.1 (by decide) rfl ?_
      refine y_ia (v) hM.a7 (by omega) ((hL.2.2 v hv).2.1) ?_
      exact hK
    rw [if_neg y] at hK
    refine b_cases (fun y => ?_) (fun y => ?_)
    · rw [if_pos y] at hK
      refine y_get hM.1 (by decide) rfl ?_
      refine y_ia (v) hM.a11 (by omega) (hS.2.2.2.2.1 v hv) ?_
      exact hK
    rw [if_neg y] at hK
    refine b_cases (fun y => ?_) (fun y => ?_)
    · rw [if_pos y] at hK
      refine y_call1 hM.1 (m_valueOf hM hL2 hc hv ?_)
      exact hK
    rw [if_neg y] at hK
    refine b_cases (fun y => ?_) (fun y => ?_)
    · rw [if_pos y] at hK
      refine y_call1 hM.1 (m_worthOf hM hL2 hc hv ?_)
      exact hK
    rw [if_neg y] at hK
    refine b_cases (fun y => ?_) (fun y => ?_)
    · rw [if_pos y] at hK
      refine y_call1 hM.1 (m_isReady hM hL2 hc hv ?_)
      refine b_Z (fun z => ?_) (fun z => ?_)
      · rw [bP_0 z] at hK
        exact hK
      · rw [bP_1 z] at hK
        exact hK
    · rw [if_neg y] at hK
      exact hK
theorem mm_happen {x : Int32} (hR : ModR g rl h m S) (hK : ∀ h1, ModR g rl h1 m (st_happen S x) → MX rl h h1 → K (some (.int (sp_happen S x))) h1) : Run l g d_X10_happen [.ref m, .int x] h 0 0 K := by
  have hR0 := hR
  obtain ⟨hok, q, I, A, Wy, hM, hS⟩ := hR
  have hL := hS.2.2.2.1
  have b1 := hL.1.1
  refine vc_X10_happen (fun G hG => ?_)
  refine hG 0 _ _ _ _ _ ?_
  refine y_call1 hM.1 (m_isVillage hM hL.2.1 ?_)
  unfold sp_happen st_happen at hK
  refine b_Z (fun z => ?_) (fun z => ?_)
  · rw [if_neg z, if_neg (fun r => z r.1)] at hK
    exact hK h hR0 Ex.rf
  · obtain ⟨v, hv, rfl⟩ := isV_of z (by omega)
    rw [show ix (nI v) = v from nI_clamp (by omega)] at hK
    refine y_call1 hM.1 (m_takeNow hM hL.2.1 b1 (fun h1 F hM hF hx => ?_))
    have hc := now_cut hok hS hF
    have hL2 : MLand I (va_up A 21 F) (sL S) (sN S) := hL
    have bD := hok.2.2.2.1 v hv
    have b2 := (hL.1.2 v hv).2.2.1
    refine y_call1 hM.1 (m_isReady hM hL2 hc hv ?_)
    refine b_Z (fun y => ?_) (fun y => ?_)
    · rw [if_pos z, if_neg y, if_neg (fun r => y r.2)] at hK
      exact hK h1 ⟨hok, q, I, _, Wy, hM, hS⟩ hx
    · rw [if_pos z, if_pos y, if_pos ⟨z, y⟩] at hK
      refine y_get hM.1 (by decide) rfl ?_
      refine y_ia (v) hM.a11 (by omega) (hS.2.2.2.2.1 v hv) ?_
      refine y_is v hM.a11 (by omega) (fun h2 e2 x2 => ?_)
      have hM2 := hM.setA 11 e2 x2
      refine y_get hM2.1 (by decide) rfl ?_
      refine y_ia v hM2.a11 (by omega) (show upd (A 11) v (nI (sD S v) + 1) v = nI (sD S v + 1) by rw [pk_us, nI_1]) ?_
      rw [← nI_pred (sD S v)] at hK
      refine hK h2 ⟨⟨hok.1, hok.2.1, hok.2.2.1, fun w hw => ?_, ⟨hok.2.2.2.2.1.1, hok.2.2.2.2.1.2.1, cbe_up hok.2.2.2.2.1.2.2 y⟩, hok.2.2.2.2.2⟩, q, I, _, Wy, hM2, hS.1, hS.2.1, hS.2.2.1, hL, fun w hw => ?_, hS.2.2.2.2.2⟩ (hx.trs (MX.of x2))
      · by_cases e : w = v
        · rw [e]; show updN (sD S) v (sD S v + 1) v ≤ _; rw [updN_s]; exact y.1
        · show updN (sD S) v (sD S v + 1) w ≤ _; rw [updN_n e]; exact hok.2.2.2.1 w hw
      · by_cases e : w = v
        · rw [e]; show upd (A 11) v _ v = nI (updN (sD S) v _ v); rw [pk_us, updN_s, nI_1]
        · show upd (A 11) v _ w = nI (updN (sD S) v _ w); rw [pk_un e, updN_n e]; exact hS.2.2.2.2.1 w hw
end MM1

