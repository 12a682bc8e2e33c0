/-! ===== what is ahead, found by going on; a circle ===== -/
abbrev NT : Type := Nat → Nat → Nat → Nat
def Clo (L : Ld) (D : NT) : Prop := ∀ v t, v < vn L → t < tn L v → t ≤ D v t v ∧ (∀ a b, Snd L v t a b → b + 1 ≤ D v t a) ∧ (∀ w, w < 4 → (0 < t → D v (t - 1) w ≤ D v t w) ∧ ∀ u, u < vn L → 0 < D v t u → D u (D v t u - 1) w ≤ D v t w) ∧ ∀ u, u < vn L → D v t u ≤ tn L u
def JC (L : Ld) (C : NT) : Prop := (∀ v t, v < vn L → t < tn L v → t ≤ C v t v ∧ (∀ a b, Snd L v t a b → b + 1 ≤ C v t a) ∧ ∀ u, u < 4 → C v t u ≤ 5 ∧ (u < vn L → C v t u ≤ tn L u)) ∧ ∀ D, Clo L D → ∀ v t u, v < vn L → t < tn L v → u < 4 → C v t u ≤ D v t u
/-- closed at (v, t) -/
def ClA (L : Ld) (C : NT) (v t : Nat) : Prop := ∀ u, u < vn L → 0 < C v t u → ∀ w, w < 4 → C u (C v t u - 1) w ≤ C v t w
section CIRC
variable {L : Ld} {C D nd : NT}
theorem clo_mn (hD : Clo L D) {v w : Nat} (hv : v < vn L) (hw : w < 4) : ∀ k t, t + k < tn L v → D v t w ≤ D v (t + k) w
  | 0, _, _ => Nat.le_refl _
  | k + 1, t, h => by
    have h1 := clo_mn hD hv hw k t (by omega)
    have h2 := ((hD v (t + k + 1) hv (by omega)).2.2.1 w hw).1 (by omega)
    rw [show t + k + 1 - 1 = t + k by omega] at h2
    exact Nat.le_trans h1 h2
theorem clo_mn2 (hD : Clo L D) {v w t o : Nat} (hv : v < vn L) (hw : w < 4) (h : t ≤ o) (ho : o < tn L v) : D v t w ≤ D v o w := by
  have := clo_mn hD hv hw (o - t) t (by omega)
  rwa [show t + (o - t) = o by omega] at this
theorem need_clo (hL : LdOk L) (hN : Need L nd) : Clo L nd := fun v t hv ht => by
  have b1 := hL.1
  obtain ⟨h1, h2⟩ := hN.1 v t hv ht
  refine ⟨by omega, fun a b hs => ?_, fun w hw => ⟨(h2 w hw).1, fun u hu h0 => nd_tr hL hN hv ht hu hw h0⟩, fun u hu => (nd_bd hL hN hv ht (by omega)).2 hu⟩
  have := ((h2 v (by omega)).2.1 a b hs).1
  omega
/-- one step on -/
def upC (C : NT) (v t w x : Nat) : NT := fun a b c => if a = v ∧ b = t ∧ c = w then x else C a b c
theorem upC_s {v t w x : Nat} : upC C v t w x v t w = x := if_pos ⟨rfl, rfl, rfl⟩
theorem upC_n {v t w x a b c : Nat} (h : ¬ (a = v ∧ b = t ∧ c = w)) : upC C v t w x a b c = C a b c := if_neg h
theorem jc_up (hL : LdOk L) (hJ : JC L C) {v t u w s : Nat} (hv : v < vn L) (ht : t < tn L v) (hu : u < vn L) (hw : w < 4) (hs : s + 1 ≤ C v t u) (hgt : C v t w < C u s w) : JC L (upC C v t w (C u s w)) := by
  have b1 := hL.1
  have hsu : s < tn L u := by have := ((hJ.1 v t hv ht).2.2 u (by omega)).2 hu; omega
  have hge : ∀ a b c, C a b c ≤ upC C v t w (C u s w) a b c := fun a b c => by
    unfold upC
    by_cases e : a = v ∧ b = t ∧ c = w
    · rw [if_pos e, e.1, e.2.1, e.2.2]; omega
    · rw [if_neg e]; exact Nat.le_refl _
  refine ⟨fun x y hx hy => ?_, fun D hD x y z hx hy hz => ?_⟩
  · obtain ⟨j1, j2, j3⟩ := hJ.1 x y hx hy
    refine ⟨Nat.le_trans j1 (hge _ _ _), fun a b hs => Nat.le_trans (j2 a b hs) (hge _ _ _), fun c hc => ?_⟩
    by_cases e : x = v ∧ y = t ∧ c = w
    · rw [e.1, e.2.1, e.2.2, upC_s]
      exact (hJ.1 u s hu hsu).2.2 w hw
    · rw [upC_n e]; exact j3 c hc
  · by_cases e : x = v ∧ y = t ∧ z = w
    · rw [e.1, e.2.1, e.2.2, upC_s]
      have d1 := hJ.2 D hD u s w hu hsu hw
      have d2 := hJ.2 D hD v t u hv ht (by omega)
      have d3 := (hD v t hv ht).2.2.2 u hu
      have d4 := clo_mn2 hD hu hw (t := s) (o := D v t u - 1) (by omega) (by omega)
      have d5 := ((hD v t hv ht).2.2.1 w hw).2 u hu (by omega)
      omega
    · rw [upC_n e]; exact hJ.2 D hD x y z hx hy hz
/-- all of them together -/
def TC (L : Ld) (C : NT) : Nat := sm (fun v => sm (fun t => sm (C v t) 4) (tn L v)) (vn L)
theorem tc_le (hL : LdOk L) (hJ : JC L C) : TC L C ≤ 400 := by
  have b1 := hL.1
  have h1 : TC L C ≤ vn L * 100 := sm_le _ (fun v hv => by
    have b2 := (hL.2 v hv).2.2.1
    have h2 : sm (fun t => sm (C v t) 4) (tn L v) ≤ tn L v * 20 := sm_le _ (fun t ht => sm_le (b := 5) 4 (fun u hu => ((hJ.1 v t hv ht).2.2 u hu).1))
    omega)
  omega
theorem tc_up {v t w x : Nat} (hv : v < vn L) (ht : t < tn L v) (hw : w < 4) (hgt : C v t w < x) : TC L C < TC L (upC C v t w x) := by
  have hge : ∀ a b c, C a b c ≤ upC C v t w x a b c := fun a b c => by
    unfold upC
    by_cases e : a = v ∧ b = t ∧ c = w
    · rw [if_pos e, e.1, e.2.1, e.2.2]; omega
    · rw [if_neg e]; exact Nat.le_refl _
  refine sm_lt2 (u := v) _ (fun a _ => sm_le2 _ (fun b _ => sm_le2 _ (fun c _ => hge a b c))) hv ?_
  refine sm_lt2 (u := t) _ (fun b _ => sm_le2 _ (fun c _ => hge v b c)) ht ?_
  refine sm_lt2 (u := w) _ (fun c _ => hge v t c) hw ?_
  rw [upC_s]
  exact hgt
/-- a circle: what is ahead has no numbers -/
theorem circ_no (hL : LdOk L) (hJ : JC L C) {v t : Nat} (hv : v < vn L) (ht : t < tn L v) (hgt : t < C v t v) : ¬ ∃ nd, Need L nd := by
  rintro ⟨nd, hN⟩
  have b1 := hL.1
  have h1 := hJ.2 nd (need_clo hL hN) v t v hv ht (by omega)
  have h2 := nd_self hN hv ht
  omega
theorem jc_clo (hJ : JC L C) (hL : LdOk L) (hcl : ∀ v t, v < vn L → t < tn L v → ClA L C v t) (hno : ∀ v t, v < vn L → t < tn L v → C v t v ≤ t) : Clo L C := fun v t hv ht => by
  have b1 := hL.1
  obtain ⟨j1, j2, j3⟩ := hJ.1 v t hv ht
  have e : C v t v = t := Nat.le_antisymm (hno v t hv ht) j1
  refine ⟨j1, j2, fun w hw => ⟨fun h0 => ?_, fun u hu h0 => hcl v t hv ht u hu h0 w hw⟩, fun u hu => (j3 u (by omega)).2 hu⟩
  have := hcl v t hv ht v hv (by omega) w hw
  rw [e] at this
  exact this
theorem circ_yes (hL : LdOk L) (hT : LtOk L) (hJ : JC L C) (hcl : ∀ v t, v < vn L → t < tn L v → ClA L C v t) (hno : ∀ v t, v < vn L → t < tn L v → C v t v ≤ t) : Need L C := by
  have b1 := hL.1
  have hC := jc_clo hJ hL hcl hno
  have self : ∀ v t, v < vn L → t < tn L v → C v t v = t := fun v t hv ht => Nat.le_antisymm (hno v t hv ht) (hJ.1 v t hv ht).1
  have snd : ∀ v t a b, v < vn L → t < tn L v → Snd L v t a b → ∀ u, u < 4 → C a b u ≤ C v t u := fun v t a b hv ht hs u hu => by
    have h1 := (hC v t hv ht).2.1 a b hs
    have h2 := (hC v t hv ht).2.2.2 a hs.2.1
    have h3 := clo_mn2 hC hs.2.1 hu (t := b) (o := C v t a - 1) (by omega) (by omega)
    have h4 := ((hC v t hv ht).2.2.1 u hu).2 a hs.2.1 (by omega)
    omega
  have sun : ∀ v t a b a' b', Snd L v t a b → Snd L v t a' b' → a = a' ∧ b = b' := fun v t a b a' b' h1 h2 => hT.1 a b a' b' h1.2.1 h1.2.2.1 h2.2.1 h2.2.2.1 (by rw [h1.2.2.2.1]; decide) (by rw [h1.2.2.2.1, h2.2.2.2.1]) (by rw [h1.2.2.2.2, h2.2.2.2.2])
  -- the greatest of what must be ahead
  let T : Nat → Nat → Nat → Nat → Prop := fun v t u x => (u = v ∧ x = t) ∨ x = 0 ∨ (0 < t ∧ x = C v (t - 1) u) ∨ ∃ a b, Snd L v t a b ∧ (x = C a b u ∨ (u = a ∧ x = b + 1))
  have Tle : ∀ v t u x, v < vn L → t < tn L v → u < 4 → T v t u x → x ≤ C v t u := fun v t u x hv ht hu h => by
    rcases h with ⟨e1, e2⟩ | e | ⟨e1, e2⟩ | ⟨a, b, hs, e | ⟨e1, e2⟩⟩
    · subst e1; have := self u t hv ht; omega
    · omega
    · rw [e2]; exact ((hC v t hv ht).2.2.1 u hu).1 e1
    · rw [e]; exact snd v t a b hv ht hs u hu
    · subst e1; have := (hC v t hv ht).2.1 u b hs; omega
  have mx : ∀ v t u, v < vn L → t < tn L v → u < 4 → ∃ x, T v t u x ∧ ∀ y, T v t u y → y ≤ x := fun v t u hv ht hu => by
    obtain ⟨x, hx, hmin⟩ := min_ex (P := fun x => T v t u x) (f := fun x => C v t u - x) (C v t u + 1) ⟨0, Or.inr (Or.inl rfl), by omega⟩
    refine ⟨x, hx, fun y hy => ?_⟩
    have h1 := hmin y hy
    have h2 := Tle v t u x hv ht hu hx
    have h3 := Tle v t u y hv ht hu hy
    omega
  let D : NT := fun v t u => Classical.epsilon (fun x => T v t u x ∧ ∀ y, T v t u y → y ≤ x)
  have hD : ∀ v t u, v < vn L → t < tn L v → u < 4 → T v t u (D v t u) ∧ ∀ y, T v t u y → y ≤ D v t u := fun v t u hv ht hu => Classical.epsilon_spec (mx v t u hv ht hu)
  have DC : ∀ v t u, v < vn L → t < tn L v → u < 4 → D v t u ≤ C v t u := fun v t u hv ht hu => Tle v t u _ hv ht hu (hD v t u hv ht hu).1
  have cloD : Clo L D := fun v t hv ht => by
    refine ⟨(hD v t v hv ht (by omega)).2 t (Or.inl ⟨rfl, rfl⟩), fun a b hs => (hD v t a hv ht (by have := hs.2.1; omega)).2 _ (Or.inr (Or.inr (Or.inr ⟨a, b, hs, Or.inr ⟨rfl, rfl⟩⟩))), fun w hw => ⟨fun h0 => ?_, fun u hu h0 => ?_⟩, fun u hu => Nat.le_trans (DC v t u hv ht (by omega)) ((hC v t hv ht).2.2.2 u hu)⟩
    · exact Nat.le_trans (DC v (t - 1) w hv (by omega) hw) ((hD v t w hv ht hw).2 _ (Or.inr (Or.inr (Or.inl ⟨h0, rfl⟩))))
    · have up := (hD v t w hv ht hw).2
      rcases (hD v t u hv ht (by omega)).1 with ⟨e1, e2⟩ | e | ⟨e1, e2⟩ | ⟨a, b, hs, e | ⟨e1, e2⟩⟩
      · subst e1
        rw [e2] at h0 ⊢
        exact Nat.le_trans (DC u (t - 1) w hv (by omega) hw) (up _ (Or.inr (Or.inr (Or.inl ⟨h0, rfl⟩))))
      · omega
      · rw [e2] at h0 ⊢
        have h2 := (hC v (t - 1) hv (by omega)).2.2.2 u hu
        exact Nat.le_trans (DC u _ w hu (by omega) hw) (Nat.le_trans (((hC v (t - 1) hv (by omega)).2.2.1 w hw).2 u hu h0) (up _ (Or.inr (Or.inr (Or.inl ⟨e1, rfl⟩)))))
      · rw [e] at h0 ⊢
        have h2 := (hC a b hs.2.1 hs.2.2.1).2.2.2 u hu
        exact Nat.le_trans (DC u _ w hu (by omega) hw) (Nat.le_trans (((hC a b hs.2.1 hs.2.2.1).2.2.1 w hw).2 u hu h0) (up _ (Or.inr (Or.inr (Or.inr ⟨a, b, hs, Or.inl rfl⟩)))))
      · subst e1
        rw [e2, Nat.add_sub_cancel]
        exact Nat.le_trans (DC u b w hs.2.1 hs.2.2.1 hw) (up _ (Or.inr (Or.inr (Or.inr ⟨u, b, hs, Or.inl rfl⟩))))
  have CD : ∀ v t u, v < vn L → t < tn L v → u < 4 → T v t u (C v t u) := fun v t u hv ht hu => by
    have e : C v t u = D v t u := Nat.le_antisymm (hJ.2 D cloD v t u hv ht hu) (DC v t u hv ht hu)
    rw [e]
    exact (hD v t u hv ht hu).1
  refine ⟨fun v t hv ht => ⟨self v t hv ht, fun u hu => ⟨((hC v t hv ht).2.2.1 u hu).1, fun a b hs => ⟨(hC v t hv ht).2.1 a b hs, snd v t a b hv ht hs u hu⟩, CD v t u hv ht hu⟩⟩, fun v t => sm (C v t) 4, fun v t hv ht => ⟨fun h0 => ?_, fun a b hs => ?_⟩⟩
  · refine sm_lt2 (u := v) 4 (fun w hw => ((hC v t hv ht).2.2.1 w hw).1 h0) (by omega) ?_
    rw [self v t hv ht, self v (t - 1) hv (by omega)]
    omega
  · refine sm_lt2 (u := a) 4 (fun w hw => snd v t a b hv ht hs w hw) (by have := hs.2.1; omega) ?_
    rw [self a b hs.2.1 hs.2.2.1]
    exact (hC v t hv ht).2.1 a b hs
theorem nd_un {nd2 : NT} (hN : Need L nd) (hN2 : Need L nd2) : ∀ v t, v < vn L → t < tn L v → ∀ u, u < 4 → nd v t u = nd2 v t u := by
  refine nd_ind hN (fun v t hv ht h1 h2 u hu => ?_)
  refine Nat.le_antisymm ?_ ?_
  · obtain ⟨k1, k2, -⟩ := (hN2.1 v t hv ht).2 u hu
    rcases ((hN.1 v t hv ht).2 u hu).2.2 with ⟨e1, e2⟩ | e | ⟨e1, e2⟩ | ⟨a, b, hs, e | ⟨e1, e2⟩⟩
    · subst e1; rw [e2]; have := (hN2.1 u t hv ht).1; omega
    · omega
    · rw [e2, h1 e1 u hu]; exact k1 e1
    · rw [e, h2 a b hs u hu]; exact (k2 a b hs).2
    · subst e1; rw [e2]; exact (k2 u b hs).1
  · obtain ⟨k1, k2, -⟩ := (hN.1 v t hv ht).2 u hu
    rcases ((hN2.1 v t hv ht).2 u hu).2.2 with ⟨e1, e2⟩ | e | ⟨e1, e2⟩ | ⟨a, b, hs, e | ⟨e1, e2⟩⟩
    · subst e1; rw [e2]; have := (hN.1 u t hv ht).1; omega
    · omega
    · rw [e2, ← h1 e1 u hu]; exact k1 e1
    · rw [e, ← h2 a b hs u hu]; exact (k2 a b hs).2
    · subst e1; rw [e2]; exact (k2 u b hs).1
end CIRC
/-- what is ahead in a land without a circle -/
noncomputable def ndOf (L : Ld) : NT := Classical.epsilon (fun nd => Need L nd)
theorem ndOf_ok {L : Ld} (h : ∃ nd, Need L nd) : Need L (ndOf L) := Classical.epsilon_spec h
theorem ndOf_eq {L : Ld} {nd : NT} (h : Need L nd) {v t u : Nat} (hv : v < vn L) (ht : t < tn L v) (hu : u < 4) : ndOf L v t u = nd v t u := nd_un (ndOf_ok ⟨nd, h⟩) h v t hv ht u hu
noncomputable def cirB (L : Ld) : Bool := @decide (¬ ∃ nd, Need L nd) (Classical.propDecidable _)
theorem cirB_iff {L : Ld} : cirB L = true ↔ ¬ ∃ nd, Need L nd := @decide_eq_true_iff _ (Classical.propDecidable _)
/-- the start -/
def Bs (F1 : Nat → Int32) (L : Ld) : NT := fun v t u => if wh L v t = 2 ∧ u = ix (F1 (dg L v t)) / 5 then ix (F1 (dg L v t)) % 5 + 1 else if u = v then t else 0
theorem snd_of {L : Ld} {F1 : Nat → Int32} (hL : LdOk L) (hT : LtOk L) (hF : ∀ k, k < 8 → Lst (Mt L) 1 k (F1 k)) {v t : Nat} (hv : v < vn L) (ht : t < tn L v) (h2 : wh L v t = 2) : ∃ a b, Snd L v t a b ∧ F1 (dg L v t) = nI (5 * a + b) ∧ a ≠ v ∧ b < 5 ∧ ∀ a' b', Snd L v t a' b' → a' = a ∧ b' = b := by
  have hk := ((hL.2 v hv).2.2.2 t ht).2.2 (by omega)
  obtain ⟨a0, b0, h3, h4, h5, h6, h7⟩ := hT.2 v t hv ht h2
  rcases hF (dg L v t) (by omega) with ⟨-, n⟩ | ⟨w, o, hw, ho, e, m1⟩
  · exact absurd ⟨h3, h4, h5, h6⟩ (n a0 b0)
  · have hu : ∀ a' b', Snd L v t a' b' → a' = w ∧ b' = o := fun a' b' hs => hT.1 a' b' w o hs.2.1 hs.2.2.1 m1.1 m1.2.1 (by rw [hs.2.2.2.1]; decide) (by rw [hs.2.2.2.1, m1.2.2.1]) (by rw [hs.2.2.2.2, m1.2.2.2])
    have e0 := hu a0 b0 ⟨h2, h3, h4, h5, h6⟩
    exact ⟨w, o, ⟨h2, m1.1, m1.2.1, m1.2.2.1, m1.2.2.2⟩, e, by rw [← e0.1]; exact h7, ho, hu⟩
theorem jc_bs {L : Ld} {F1 : Nat → Int32} (hL : LdOk L) (hT : LtOk L) (hF : ∀ k, k < 8 → Lst (Mt L) 1 k (F1 k)) : JC L (Bs F1 L) := by
  have b1 := hL.1
  have bs2 : ∀ v t, v < vn L → t < tn L v → wh L v t = 2 → ∃ a b, Snd L v t a b ∧ a ≠ v ∧ b < 5 ∧ (∀ a' b', Snd L v t a' b' → a' = a ∧ b' = b) ∧ ∀ u, Bs F1 L v t u = if u = a then b + 1 else if u = v then t else 0 := fun v t hv ht h2 => by
    obtain ⟨a, b, hs, e, hne, hb5, hu⟩ := snd_of hL hT hF hv ht h2
    refine ⟨a, b, hs, hne, hb5, hu, fun u => ?_⟩
    have ha := hs.2.1
    unfold Bs
    rw [e, show ix (nI (5 * a + b)) = 5 * a + b from nI_clamp (by omega), show (5 * a + b) / 5 = a by omega, show (5 * a + b) % 5 = b by omega]
    by_cases q : u = a
    · rw [if_pos ⟨h2, q⟩, if_pos q]
    · rw [if_neg (fun z => q z.2), if_neg q]
  have bs1 : ∀ v t, wh L v t ≠ 2 → ∀ u, Bs F1 L v t u = if u = v then t else 0 := fun v t h2 u => if_neg (fun z => h2 z.1)
  refine ⟨fun v t hv ht => ?_, fun D hD v t u hv ht hu => ?_⟩
  · have b2 := (hL.2 v hv).2.2.1
    by_cases h2 : wh L v t = 2
    · obtain ⟨a, b, hs, hne, hb5, hun, hB⟩ := bs2 v t hv ht h2
      refine ⟨by rw [hB, if_neg (Ne.symm hne), if_pos rfl]; exact Nat.le_refl _, fun a' b' hs' => ?_, fun u hu => ?_⟩
      · obtain ⟨rfl, rfl⟩ := hun a' b' hs'
        rw [hB, if_pos rfl]
        exact Nat.le_refl _
      · rw [hB]
        have := hs.2.2.1
        by_cases q : u = a
        · rw [if_pos q, q]; exact ⟨by omega, fun _ => by omega⟩
        · rw [if_neg q]
          by_cases q2 : u = v
          · rw [if_pos q2, q2]; exact ⟨by omega, fun _ => by omega⟩
          · rw [if_neg q2]; exact ⟨by omega, fun _ => by omega⟩
    · have hB := bs1 v t h2
      refine ⟨by rw [hB, if_pos rfl]; exact Nat.le_refl _, fun a' b' hs' => absurd hs'.1 h2, fun u hu => ?_⟩
      rw [hB]
      by_cases q2 : u = v
      · rw [if_pos q2, q2]; exact ⟨by omega, fun _ => by omega⟩
      · rw [if_neg q2]; exact ⟨by omega, fun _ => by omega⟩
  · obtain ⟨d1, d2, -⟩ := hD v t hv ht
    by_cases h2 : wh L v t = 2
    · obtain ⟨a, b, hs, hne, hb5, hun, hB⟩ := bs2 v t hv ht h2
      rw [hB]
      by_cases q : u = a
      · rw [if_pos q, q]; exact d2 a b hs
      · rw [if_neg q]
        by_cases q2 : u = v
        · rw [if_pos q2, q2]; exact d1
        · rw [if_neg q2]; exact Nat.zero_le _
    · rw [bs1 v t h2]
      by_cases q2 : u = v
      · rw [if_pos q2, q2]; exact d1
      · rw [if_neg q2]; exact Nat.zero_le _

