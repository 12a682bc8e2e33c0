section MM4
variable {l : Launch} {g : Gm} {rl : Nat → Nat} {h : Hp} {K : PT} {m : Nat} {q : Nat → Nat} {I : Nat → Int32} {A : Nat → Nat → Int32} {Wy : Nat → Int64} {S : St}
theorem ub_succ (p : Nat → Bool) (k : Nat) : ub p (k + 1) = ub p k ||| (if p k then (1 : Int32) <<< (nI k &&& 31) else 0) := rfl
theorem mm_now {w : Int32} (hR : ModR g rl h m S) (hK : ∀ h1, ModR g rl h1 m S → MX rl h h1 → K (some (.int (sp_now S w))) h1) : Run l g d_X10_now [.ref m, .int w] h 0 0 K := by
  have hR0 := hR
  obtain ⟨hok, q, I, A, Wy, hM, hS⟩ := hR
  have hL := hS.2.2.2.1
  have b1 := hL.1.1
  unfold sp_now at hK
  refine vc_X10_now (fun G hG => ?_)
  refine hG 0 _ _ _ _ _ ?_
  refine y_callS (m_within ?_)
  refine b_Z (fun z => ?_) (fun z => ?_)
  · rw [if_neg z] at hK
    exact hK h hR0 Ex.rf
  rw [if_pos z] at hK
  refine y_get hM.1 (by decide) rfl ?_
  rw [hL.2.1]
  refine pk_eq (vn (sL S)) 0 (fun y => ?_) (fun y => ?_)
  · rw [if_pos y] at hK
    exact hK h hR0 Ex.rf
  rw [if_neg y] at hK
  refine y_call1 hM.1 (m_takeNow hM hL.2.1 b1 (fun h1 F hM hF hx => ?_))
  have hK := hK h1 ⟨hok, q, I, _, Wy, hM, hS⟩ hx
  have hc := now_cut hok hS hF
  have hL2 : MLand I (va_up A 21 F) (sL S) (sN S) := hL
  refine b_cases (fun a => ?_) (fun a => ?_)
  · have n0 : ¬ w = 0 := fun e => by rw [e] at a; exact absurd a (by decide)
    have n1 : ¬ w = 1 := fun e => by rw [e] at a; exact absurd a (by decide)
    rw [if_neg n0, if_neg n1] at hK
    have loop : ∀ k v, v + k = vn (sL S) → G 1 h1 0 0 [some (.ref m), some (.int w), some (.int (ub (fun v => decide (Rdy (sL S) (sN S) (sD S) v)) v)), some (.int (nI v))] [] := by
      intro k
      induction k with
      | zero =>
        intro v hv
        refine hG 1 _ _ _ _ _ ?_
        refine y_get hM.1 (by decide) rfl ?_
        rw [hL.2.1]
        refine b_ge v (vn (sL S)) (fun _ => ?_) (fun _ => by omega)
        rw [show v = vn (sL S) by omega]
        exact hK
      | succ k ih =>
        intro v hv
        refine hG 1 _ _ _ _ _ ?_
        refine y_get hM.1 (by decide) rfl ?_
        rw [hL.2.1]
        refine b_ge v (vn (sL S)) (fun _ => by omega) (fun _ => ?_)
        have ih9 := ih (v + 1) (by omega)
        rw [nI_succ v, ub_succ] at ih9
        refine y_call1 hM.1 (m_isReady hM hL2 hc (by omega) ?_)
        refine b_Z (fun c => ?_) (fun c => ?_)
        · rw [if_neg (by rw [decide_eq_true_eq]; exact c)] at ih9
          refine hG 2 _ _ _ _ _ ?_
          exact ih9
        · rw [if_pos (by rw [decide_eq_true_eq]; exact c)] at ih9
          refine hG 2 _ _ _ _ _ ?_
          exact ih9
    exact loop (vn (sL S)) 0 (by omega)
  · refine b_cases (fun b => ?_) (fun b => ?_)
    · rw [if_pos b] at hK
      refine y_call1 hM.1 (m_sumOf hM hL2 hc ?_)
      exact hK
    · rw [if_neg b] at hK
      have n1 : w = 1 := by
        obtain ⟨j, hj, rfl⟩ := inR_of (n := 2) (by omega) z
        have : ¬ 2 ≤ j := fun q2 => a (nI_le q2 (by omega))
        have : ¬ j = 0 := fun q2 => b (by rw [q2]; rfl)
        rw [show j = 1 by omega]; rfl
      rw [if_pos n1] at hK
      refine y_call1 hM.1 (m_underWay hM hL2 hc ?_)
      exact hK
theorem lane_cases (hok : StOk S) {k : Nat} (hk : k < 4) (hn : ¬ sSo S k = -9) : sSo S k = 0 ∨ sSo S k = 1 ∨ sSo S k = 2 := ((hok.1 k hk).1).resolve_left hn
theorem inR_m1 {i : Int32} {n : Nat} (hn : n ≤ 60) (h : InR i 0 (nI n - 1)) : ∃ j, j < n ∧ i = nI j := by
  obtain ⟨j, hj, rfl⟩ := nI_of (nlt.mpr h.1)
  refine ⟨j, ?_, rfl⟩
  rcases Nat.eq_zero_or_pos n with h0 | h0
  · subst h0
    exfalso
    have h2 := h.2
    have h3 := (Int32.le_iff_toInt_le.mp h2)
    rw [nI_toInt hj] at h3
    have : (nI 0 - 1).toInt = -1 := by decide
    omega
  · have e : nI n - 1 = nI (n - 1) := pk_sub (b := 1) h0
    have h2 := h.2
    rw [e] at h2
    have := (nI_leI hj (by omega)).mp h2
    omega
theorem mm_put {k i v : Int32} (hR : ModR g rl h m S) (hK : ∀ h1, ModR g rl h1 m (st_put S k i v) → MX rl h h1 → K (some (.int (sp_put S k i))) h1) : Run l g d_X10_put [.ref m, .int k, .int i, .int v] h 0 0 K := by
  obtain ⟨hok, q, I, A, Wy, hM, hS⟩ := hR
  have hL := hS.2.2.2.1
  have b1 := hL.1.1
  unfold sp_put st_put at hK
  refine vc_X10_put (fun G hG => ?_)
  refine hG 0 _ _ _ _ _ ?_
  refine y_putI hM.1 (by decide) (Nat.le_of_ble_eq_true rfl) rfl (fun h1 e1 x1 => ?_)
  have hM := hM.setI (I' := upd I 0 0) e1 x1
  have hS1 := hS.fa 0
  have hx := MX.of x1
  refine y_callS (m_isSheet ?_)
  refine b_Z (fun z => ?_) (fun z => ?_)
  · rw [if_neg z, if_neg z] at hK
    exact hK h1 ⟨hok, q, _, A, Wy, hM, hS1⟩ hx
  rw [if_pos z, if_pos z] at hK
  obtain ⟨j, hj, rfl⟩ := sh_of z
  obtain ⟨s1, s2, s3⟩ := hS.1 j hj
  rw [show PutF S (nI j) i = if sSo S j = -9 then 1 else if InR i 0 (nI (sLe S j) - 1) then 0 else 3 by unfold PutF; rw [ix_nI (by omega)], ix_nI (by omega)] at hK
  refine y_get hM.1 (by decide) rfl ?_
  refine y_ia (j) hM.a2 (by omega) (s1) ?_
  refine b_cases (fun y => ?_) (fun y => ?_)
  · rw [if_pos y] at hK
    rw [if_neg (show ¬ (1 : Int32) = 0 by decide), if_neg (show ¬ (1 : Int32) = 0 by decide)] at hK
    refine y_call1 hM.1 (m_fails hM (fun h2 hM2 hx2 => ?_))
    exact hK h2 ⟨hok, q, _, A, Wy, hM2, hS1.fa 1⟩ (hx.trs hx2)
  rw [if_neg y] at hK
  refine y_get hM.1 (by decide) rfl ?_
  refine y_ia (j) hM.a3 (by omega) (s2) ?_
  refine y_callS (m_within ?_)
  refine b_Z (fun w => ?_) (fun w => ?_)
  · have w : ¬ InR i 0 (nI (sLe S j) - 1) := w
    rw [if_neg w] at hK
    rw [if_neg (show ¬ (3 : Int32) = 0 by decide), if_neg (show ¬ (3 : Int32) = 0 by decide)] at hK
    refine y_call1 hM.1 (m_fails hM (fun h2 hM2 hx2 => ?_))
    exact hK h2 ⟨hok, q, _, A, Wy, hM2, hS1.fa 3⟩ (hx.trs hx2)
  have w : InR i 0 (nI (sLe S j) - 1) := w
  rw [if_pos w, if_pos rfl, if_pos rfl] at hK
  have b6 := (hok.1 j hj).2
  obtain ⟨n2, hn2, rfl⟩ := inR_m1 b6 w
  rw [ix_nI (by omega)] at hK
  have fin : ∀ x : Int32, x = lan (sSo S j) v → oIAS g (oPush (.int 1) (oIRet K)) h1 0 0 [some (.ref m), some (.int (nI j)), some (.int (nI n2)), some (.int v)] [.int x, .int ((60 : Int32) * nI j + nI n2), .ref (q 4)] := fun x ex => by
    subst ex
    refine y_is (60 * j + n2) hM.a4 (by omega) (fun h2 e2 x2 => ?_) (ix60 j n2)
    refine hK h2 ⟨hok, q, _, _, Wy, hM.setA 4 e2 x2, ⟨fun w9 hw => ⟨(hS.1 w9 hw).1, (hS.1 w9 hw).2.1, fun i2 hi2 => ?_⟩, hS1.2⟩⟩ (hx.trs (MX.of x2))
    show upd (A 4) (60 * j + n2) (lan (sSo S j) v) (60 * w9 + i2) = va_up (sCe S) j (upd (sCe S j) n2 (lan (sSo S j) v)) w9 i2
    unfold va_up
    by_cases e : w9 = j
    · rw [if_pos e, e]
      by_cases e2 : i2 = n2
      · rw [e2, pk_us, pk_us]
      · rw [pk_un (by omega), pk_un e2]; exact s3 i2 hi2
    · rw [if_neg e, pk_un (by omega)]; exact (hS.1 w9 hw).2.2 i2 hi2
  refine y_get hM.1 (by decide) rfl ?_
  refine y_get hM.1 (by decide) rfl ?_
  refine y_ia (j) hM.a2 (by omega) (s1) ?_
  refine b_cases (fun a => ?_) (fun a => ?_)
  · exact fin _ (by unfold lan; rw [if_pos a])
  · refine y_get hM.1 (by decide) rfl ?_
    refine y_ia (j) hM.a2 (by omega) (s1) ?_
    refine b_cases (fun b => ?_) (fun b => ?_)
    · exact fin _ (by unfold lan; rw [if_neg a, if_pos b])
    · exact fin _ (by unfold lan; rw [if_neg a, if_neg b])
theorem m_lost {x : Int32} (hM : ModH g rl h m q I A Wy) (hK : ∀ h1, ModH g rl h1 m q (upd I 0 x) A Wy → MX rl h h1 → K (some (.long (-9223372036854775808))) h1) : Run l g d_X10_lost [.ref m, .int x] h 0 0 K := by
  refine vc_X10_lost (fun G hG => ?_)
  refine hG 0 _ _ _ _ _ ?_
  refine y_putI hM.1 (by decide) (Nat.le_of_ble_eq_true rfl) rfl (fun h1 e1 x1 => ?_)
  exact hK h1 (hM.setI e1 x1) (MX.of x1)
theorem mm_cell {k i lane : Int32} (hR : ModR g rl h m S) (hK : ∀ h1, ModR g rl h1 m (st_cell S k i lane) → MX rl h h1 → K (some (.long (sp_cell S k i lane))) h1) : Run l g d_X10_cell [.ref m, .int k, .int i, .int lane] h 0 0 K := by
  obtain ⟨hok, q, I, A, Wy, hM, hS⟩ := hR
  have hL := hS.2.2.2.1
  have b1 := hL.1.1
  unfold sp_cell st_cell at hK
  refine vc_X10_cell (fun G hG => ?_)
  refine hG 0 _ _ _ _ _ ?_
  refine y_putI hM.1 (by decide) (Nat.le_of_ble_eq_true rfl) rfl (fun h1 e1 x1 => ?_)
  have hM := hM.setI (I' := upd I 0 0) e1 x1
  have hS1 := hS.fa 0
  have hx := MX.of x1
  refine y_callS (m_isSheet ?_)
  refine b_Z (fun z => ?_) (fun z => ?_)
  · rw [if_neg (fun r => z r.1), if_neg (fun r => z r.1)] at hK
    exact hK h1 ⟨hok, q, _, A, Wy, hM, hS1⟩ hx
  refine y_callS (m_isSort ?_)
  refine b_Z (fun y => ?_) (fun y => ?_)
  · rw [if_neg (fun r => y r.2), if_neg (fun r => y r.2)] at hK
    exact hK h1 ⟨hok, q, _, A, Wy, hM, hS1⟩ hx
  rw [if_pos (show InR k 0 3 ∧ InR lane 0 2 from ⟨z, y⟩), if_pos (show InR k 0 3 ∧ InR lane 0 2 from ⟨z, y⟩)] at hK
  obtain ⟨j, hj, rfl⟩ := sh_of z
  obtain ⟨s1, s2, s3⟩ := hS.1 j hj
  rw [show CelF S (nI j) i lane = if sSo S j = -9 then 1 else if sSo S j = lane then (if InR i 0 (nI (sLe S j) - 1) then 0 else 3) else 2 by unfold CelF; rw [ix_nI (by omega)], ix_nI (by omega)] at hK
  have g1 : (sSo S j = -9 ∨ sSo S j = lane) → G 1 h1 0 0 [some (.ref m), some (.int (nI j)), some (.int i), some (.int lane)] [] := fun hz => by
    refine hG 1 _ _ _ _ _ ?_
    refine y_get hM.1 (by decide) rfl ?_
    refine y_ia (j) hM.a2 (by omega) (s1) ?_
    refine b_cases (fun a => ?_) (fun a => ?_)
    · rw [if_pos a] at hK
      rw [if_neg (show ¬ (1 : Int32) = 0 by decide)] at hK
      refine y_call1 hM.1 (m_lost hM (fun h2 hM2 hx2 => ?_))
      exact hK h2 ⟨hok, q, _, A, Wy, hM2, hS1.fa 1⟩ (hx.trs hx2)
    rw [if_neg a, if_pos (hz.resolve_left a)] at hK
    refine y_get hM.1 (by decide) rfl ?_
    refine y_ia (j) hM.a3 (by omega) (s2) ?_
    refine y_callS (m_within ?_)
    refine b_Z (fun w => ?_) (fun w => ?_)
    · have w : ¬ InR i 0 (nI (sLe S j) - 1) := w
      rw [if_neg w] at hK
      rw [if_neg (show ¬ (3 : Int32) = 0 by decide)] at hK
      refine y_call1 hM.1 (m_lost hM (fun h2 hM2 hx2 => ?_))
      exact hK h2 ⟨hok, q, _, A, Wy, hM2, hS1.fa 3⟩ (hx.trs hx2)
    have w : InR i 0 (nI (sLe S j) - 1) := w
    rw [if_pos w, if_pos rfl] at hK
    have b6 := (hok.1 j hj).2
    obtain ⟨n2, hn2, rfl⟩ := inR_m1 b6 w
    rw [ix_nI (by omega)] at hK
    refine y_get hM.1 (by decide) rfl ?_
    refine y_ia (60 * j + n2) hM.a4 (by omega) (s3 n2 (by omega)) ?_ (ix60 j n2)
    exact hK h1 ⟨hok, q, _, A, Wy, hM, hS1⟩ hx
  refine y_get hM.1 (by decide) rfl ?_
  refine y_ia (j) hM.a2 (by omega) (s1) ?_
  refine b_cases (fun a => ?_) (fun a => ?_)
  · exact g1 (Or.inl a)
  · refine y_get hM.1 (by decide) rfl ?_
    refine y_ia (j) hM.a2 (by omega) (s1) ?_
    refine b_cases (fun b => ?_) (fun b => ?_)
    · exact g1 (Or.inr b)
    · rw [if_neg a, if_neg b] at hK
      rw [if_neg (show ¬ (2 : Int32) = 0 by decide)] at hK
      refine y_call1 hM.1 (m_lost hM (fun h2 hM2 hx2 => ?_))
      exact hK h2 ⟨hok, q, _, A, Wy, hM2, hS1.fa 2⟩ (hx.trs hx2)
end MM4

