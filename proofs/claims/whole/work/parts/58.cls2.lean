/-! ===== letters of the class ===== -/
def LtS (L : Ld) (a k c v t : Nat) : Prop := (c = 0 ∧ ∀ w o, ¬ Mt L a k w o) ∨ (c = 1 ∧ Mt L a k v t ∧ ∀ w o, Mt L a k w o → w = v ∧ o = t) ∨ (2 ≤ c ∧ Tp (Mt L) a k)
def LtR (L : Ld) (k : Nat) (B : Nat → Int32) : Prop := ∃ s : Nat → Nat, (∀ i, i < 6 → B i = nI (s i)) ∧ s 0 ≤ sm (tn L) (vn L) ∧ s 3 ≤ sm (tn L) (vn L) ∧ s 1 < 4 ∧ s 4 < 4 ∧ s 2 < 5 ∧ s 5 < 5 ∧ LtS L 1 k (s 0) (s 1) (s 2) ∧ LtS L 2 k (s 3) (s 4) (s 5)
def LnT (A : Nat → Nat → Int32) (L : Ld) : Prop := ∀ k, k < 8 → LtR L k (A (10 + k))
section LTP
variable {L : Ld} {c : Nat → Nat}
theorem ams_lt {k c1 v1 t1 c2 v2 t2 : Nat} (h1 : LtS L 1 k c1 v1 t1) (h2 : LtS L 2 k c2 v2 t2) : Ams L k ↔ (1 < c1 ∨ 1 < c2 ∨ (c2 = 1 ∧ (c1 = 0 ∨ v1 = v2))) := by
  unfold Ams
  have noT : ∀ a c v t, LtS L a k c v t → (Tp (Mt L) a k ↔ 1 < c) := fun a c v t h => by
    rcases h with ⟨e, n⟩ | ⟨e, m1, u⟩ | ⟨e, tt⟩
    · exact ⟨fun ⟨x, y, _, _, z, _⟩ => absurd z (n x y), fun z => by omega⟩
    · refine ⟨fun ⟨x, y, w, o, z1, z2, z3⟩ => ?_, fun z => by omega⟩
      have q1 := u x y z1
      have q2 := u w o z2
      exact absurd ⟨by omega, by omega⟩ z3
    · exact ⟨fun _ => by omega, fun _ => tt⟩
  rw [noT 1 c1 v1 t1 h1, noT 2 c2 v2 t2 h2]
  by_cases hA : 1 < c1
  · exact ⟨fun _ => Or.inl hA, fun _ => Or.inl hA⟩
  by_cases hB : 1 < c2
  · exact ⟨fun _ => Or.inr (Or.inl hB), fun _ => Or.inr (Or.inl hB)⟩
  refine or_congr Iff.rfl (or_congr Iff.rfl ?_)
  rcases h2 with ⟨e, n⟩ | ⟨e, m1, u⟩ | ⟨e, tt⟩
  · exact ⟨fun ⟨x, y, z, _⟩ => absurd z (n x y), fun z => by omega⟩
  · rcases h1 with ⟨e', n'⟩ | ⟨e', m1', u'⟩ | ⟨e', tt'⟩
    · exact ⟨fun _ => ⟨e, Or.inl e'⟩, fun _ => ⟨v2, t2, m1, fun x y z => absurd z (n' x y)⟩⟩
    · refine ⟨fun ⟨x, y, z, hall⟩ => ⟨e, Or.inr ?_⟩, fun z => ⟨v2, t2, m1, fun x y q => ?_⟩⟩
      · have q1 := u x y z
        have q2 := hall v1 t1 m1'
        omega
      · have q1 := u' x y q
        omega
    · omega
  · omega
theorem ltok_noT (hT : LtOk L) {a k : Nat} (ha : a ≠ 0) : ¬ Tp (Mt L) a k := by
  rintro ⟨v, t, w, o, m1, m2, hne⟩
  exact hne (hT.1 v t w o m1.1 m1.2.1 m2.1 m2.2.1 (by rw [m1.2.2.1]; exact ha) (by rw [m1.2.2.1, m2.2.2.1]) (by rw [m1.2.2.2, m2.2.2.2]))
theorem byB_iff {a k : Nat} : byB L c a k = true ↔ ∃ v t, v < vn L ∧ t < c v ∧ wh L v t = a ∧ dg L v t = k := by
  unfold byB
  rw [anyB_iff]
  constructor
  · rintro ⟨v, hv, h⟩
    obtain ⟨t, ht, h2⟩ := anyB_iff.mp h
    rw [Bool.and_eq_true, decide_eq_true_eq, decide_eq_true_eq] at h2
    exact ⟨v, t, hv, ht, h2.1, h2.2⟩
  · rintro ⟨v, t, hv, ht, h1, h2⟩
    exact ⟨v, hv, anyB_iff.mpr ⟨t, ht, by rw [Bool.and_eq_true, decide_eq_true_eq, decide_eq_true_eq]; exact ⟨h1, h2⟩⟩⟩
theorem byB_lt {a k n v t : Nat} (ha : a ≠ 0) (hT : LtOk L) (hc : CutOk L c) (hs : LtS L a k n v t) : byB L c a k = true ↔ (0 < n ∧ t < c v) := by
  rw [byB_iff]
  rcases hs with ⟨e, n1⟩ | ⟨e, m1, u⟩ | ⟨e, tt⟩
  · exact ⟨fun ⟨x, y, h1, h2, h3, h4⟩ => absurd ⟨h1, Nat.lt_of_lt_of_le h2 (hc x h1), h3, h4⟩ (n1 x y), fun z => by omega⟩
  · refine ⟨fun ⟨x, y, h1, h2, h3, h4⟩ => ?_, fun z => ⟨v, t, m1.1, z.2, m1.2.2.1, m1.2.2.2⟩⟩
    obtain ⟨rfl, rfl⟩ := u x y ⟨h1, Nat.lt_of_lt_of_le h2 (hc x h1), h3, h4⟩
    exact ⟨by omega, h2⟩
  · exact absurd tt (ltok_noT hT ha)
/-- what the class asks: the letter alone -/
abbrev GoR (L : Ld) (c : Nat → Nat) (v : Nat) : Prop := c v < tn L v ∧ (wh L v (c v) = 2 → byB L c 1 (dg L v (c v)) = true)
theorem go_rdy {nd : NT} (hL : LdOk L) (hT : LtOk L) (hN : Need L nd) (hc : CutOk L c) (hb : Cbe L nd c) {v : Nat} (hv : v < vn L) : GoR L c v ↔ Rdy L nd c v := by
  have b1 := hL.1
  refine and_congr_right (fun ht => ?_)
  constructor
  · intro hg u hu
    obtain ⟨-, -, h4⟩ := (hN.1 v (c v) hv ht).2 u (by omega)
    have hsnd : ∀ x y, Snd L v (c v) x y → y < c x := fun x y hs => by
      obtain ⟨w, o, hw, ho, e1, e2⟩ := byB_iff.mp (hg hs.1)
      obtain ⟨rfl, rfl⟩ := hT.1 w o x y hw (Nat.lt_of_lt_of_le ho (hc w hw)) hs.2.1 hs.2.2.1 (by rw [e1]; decide) (by rw [e1, hs.2.2.2.1]) (by rw [e2, hs.2.2.2.2])
      exact ho
    rcases h4 with ⟨e1, e2⟩ | e2 | ⟨e1, e2⟩ | ⟨x, y, hs, e2 | ⟨e1, e2⟩⟩
    · subst e1; omega
    · omega
    · rw [e2]; exact hb v hv u hu e1
    · have hy := hsnd x y hs
      have hcx := hc x hs.2.1
      rw [e2]
      exact Nat.le_trans (nd_mn hN hs.2.1 (by omega) (t := y) (o := c x - 1) (by omega) (by omega)) (hb x hs.2.1 u hu (by omega))
    · subst e1
      have := hsnd u y hs
      omega
  · intro hr h2
    obtain ⟨x, y, h3, h4, h5, h6, -⟩ := hT.2 v (c v) hv ht h2
    have h9 := ((hN.1 v (c v) hv ht).2 v (by omega)).2.1 x y ⟨h2, h3, h4, h5, h6⟩
    have := hr x h3
    exact byB_iff.mpr ⟨x, y, h3, by omega, h5, h6⟩
theorem things_le (hB : LdB L) : sm (tn L) (vn L) ≤ 20 := by
  have h1 := sm_le (f := tn L) (b := 5) (vn L) (fun v hv => (hB.2 v hv).2.1)
  have h2 := hB.1
  omega
end LTP
section CL2
variable {l : Launch} {g : Gm} {rl rl1 : Nat → Nat} {h h1 : Hp} {K : PT} {β a b ρ : Nat} {ad : Nat → Nat} {th : Int32} {L : Ld} {A : Nat → Nat → Int32} {nd : NT} {C : Nat → Int32} {c : Nat → Nat}
theorem c_close {b2 ρ2 : Nat} {C2 : Nat → Int32} (hne : ρ ≠ ρ2) (hfr : ∀ i, i < 100 → β + i ≠ ρ2) (hH : LnH g rl h β a ad th L A) (hN : LnN A L nd) (hL : LdOk L) (hNd : Need L nd) (hc : Ia g rl h b ρ 4 C) (hc2 : Ia g rl h b2 ρ2 4 C2) (hC : RwC C L c) (h5 : ∀ u, u < 4 → C u = nI (c u) ∧ c u ≤ 5) (hK : ∀ (h1 : Hp) (F : Nat → Int32), Ia g rl h1 b2 ρ2 4 F → Ex (fun i => i = ρ2) rl h rl h1 → (∀ u, u < vn L → F u = nI (Cl L nd c u)) → K none h1) : Run l g d_X2_close [.ref a, .ref b, .ref b2] h 0 0 K := by
  have b1 := hL.1
  refine vc_X2_close (fun G hG => ?_)
  have loop : ∀ j v, v + j = vn L → ∀ (h1 : Hp) (F : Nat → Int32), Ia g rl h1 b2 ρ2 4 F → Ex (fun i => i = ρ2) rl h rl h1 → (∀ u, u < 4 → F u = nI (max (c u) (mxn (fun v => if 0 < c v then nd v (c v - 1) u else 0) v)) ∧ max (c u) (mxn (fun v => if 0 < c v then nd v (c v - 1) u else 0) v) ≤ 5) → G 1 h1 0 0 [some (.ref a), some (.ref b), some (.ref b2), some (.int (nI v))] [] := by
    intro j
    induction j with
    | zero =>
      intro v hv h1 F hF hx hf
      have hH := hH.ex hx b1 hfr
      refine hG 1 _ _ _ _ _ ?_
      refine y_get hH.1 (by decide) rfl ?_
      refine b_ge v (vn L) (fun _ => ?_) (fun _ => by omega)
      refine hK h1 F hF hx (fun u hu => ?_)
      rw [(hf u (by omega)).1, show v = vn L by omega]
      rfl
    | succ j ih =>
      intro v hv h3 F hF hx hf
      have hH := hH.ex hx b1 hfr
      have hc := hc.ex hx hne
      have hvn : v < vn L := by omega
      have hcv := hC.1 v hvn
      have b2' := (hL.2 v hvn).2.2.1
      refine hG 1 _ _ _ _ _ ?_
      refine y_get hH.1 (by decide) rfl ?_
      refine b_ge v (vn L) (fun _ => by omega) (fun _ => ?_)
      refine y_ia v hc (by omega) (hC.2 v hvn) ?_
      refine pk_le (c v) 0 (fun y => ?_) (fun y => ?_)
      · have ih9 := ih (v + 1) (by omega) h3 F hF hx (fun u hu => ?_)
        rw [nI_succ v] at ih9
        exact ih9 
        have := hf u hu
        show _ = nI (max (c u) (max _ (if 0 < c v then _ else 0))) ∧ max (c u) (max _ (if 0 < c v then _ else 0)) ≤ 5
        rw [if_neg (show ¬ 0 < c v by omega), Nat.max_zero]
        exact this
      · refine y_get hH.1 (by decide) rfl ?_
        refine y_ra (v) hH.2.1 (by omega) (if_pos (hvn)) ?_
        refine y_get (hH.vo (hvn)) (cls_in _) rfl ?_
        refine y_ia v hc (by omega) (hC.2 v hvn) ?_
        have e9 : nI (c v) - 1 = nI (c v - 1) := pk_sub (b := 1) (by omega)
        refine y_ra (c v - 1) (hH.no hvn) (by omega) rfl ?_ e9
        have hbd : ∀ u, u < 4 → nd v (c v - 1) u ≤ 5 := fun u hu => (nd_bd hL hNd hvn (show c v - 1 < tn L v by omega) hu).1
        refine y_callS (c_raise (c1 := fun u => max (c u) (mxn (fun v => if 0 < c v then nd v (c v - 1) u else 0) v)) (c2 := nd v (c v - 1)) (Ne.symm (hfr _ (by omega))) hF (hH.nr hvn (t := c v - 1) (by omega)) (fun u hu => ⟨(hf u hu).1, by have := (hf u hu).2; omega⟩) (fun u hu => ⟨hN v (c v - 1) u hvn (by omega) hu, by have := hbd u hu; omega⟩) (fun h4 F4 hF4 x4 hf4 => ?_))
        have ih9 := ih (v + 1) (by omega) h4 F4 hF4 (hx.trs x4) (fun u hu => ?_)
        rw [nI_succ v] at ih9
        exact ih9 
        have h1 := hf u hu
        have h2 := hbd u hu
        show _ = nI (max (c u) (max _ (if 0 < c v then _ else 0))) ∧ max (c u) (max _ (if 0 < c v then _ else 0)) ≤ 5
        rw [if_pos (show 0 < c v by omega), ← Nat.max_assoc]
        exact ⟨hf4 u hu, by omega⟩
  refine hG 0 _ _ _ _ _ ?_
  refine y_copy 0 0 4 hc hc2 (by omega) (by omega) (fun h2 e2 x2 => ?_)
  refine loop (vn L) 0 (by omega) h2 _ e2 x2 (fun u hu => ?_)
  show va_cpy C C2 0 0 4 u = nI (max (c u) 0) ∧ max (c u) 0 ≤ 5
  rw [Nat.max_zero]
  refine ⟨?_, (h5 u hu).2⟩
  unfold va_cpy
  rw [if_pos (by omega), Nat.sub_zero, Nat.zero_add]
  exact (h5 u hu).1
theorem c_isSentIn {k : Nat} (hk : k < 8) (hH : LnH g rl h β a ad th L A) (hB : LdB L) (hT : LtOk L) (hl : LnT A L) (hc : Ia g rl h b ρ 4 C) (hC : RwC C L c) (hK : K (some (.int (bP (byB L c 1 k = true)))) h) : Run l g d_X3_isSentIn [.ref (ad (10 + k)), .ref b] h 0 0 K := by
  obtain ⟨s, hs, s0, s3, s1, s4, s2, s5, l1, l2⟩ := hl k hk
  have b9 := things_le hB
  have hiff := byB_lt (by decide) hT hC.1 l1
  refine vc_X3_isSentIn (fun G hG => ?_)
  refine hG 0 _ _ _ _ _ ?_
  refine y_get (hH.lt hk) (by decide) rfl ?_
  rw [hs 0 (by omega)]
  refine pk_le (s 0) 0 (fun z => ?_) (fun z => ?_)
  · exact z0 (fun e => by have := hiff.mp e; omega) hK
  · have hs1 : s 1 < vn L := by
      rcases l1 with ⟨e, -⟩ | ⟨-, m1, -⟩ | ⟨-, tt⟩
      · omega
      · exact m1.1
      · exact absurd tt (ltok_noT hT (by decide))
    have hcs := hC.1 _ hs1
    have b5 := (hB.2 _ hs1).2.1
    refine y_get (hH.lt hk) (by decide) rfl ?_
    rw [hs 1 (by omega)]
    refine y_ia (s 1) hc (by omega) (hC.2 _ hs1) ?_
    refine y_get (hH.lt hk) (by decide) rfl ?_
    rw [hs 2 (by omega)]
    refine pk_le (c (s 1)) (s 2) (fun w => ?_) (fun w => ?_)
    · exact z0 (fun e => by have := hiff.mp e; omega) hK
    · exact z1 (hiff.mpr ⟨by omega, by omega⟩) hK
theorem c_isGotIn {k : Nat} (hk : k < 8) (hH : LnH g rl h β a ad th L A) (hB : LdB L) (hT : LtOk L) (hl : LnT A L) (hc : Ia g rl h b ρ 4 C) (hC : RwC C L c) (hK : K (some (.int (bP (byB L c 2 k = true)))) h) : Run l g d_X3_isGotIn [.ref (ad (10 + k)), .ref b] h 0 0 K := by
  obtain ⟨s, hs, s0, s3, s1, s4, s2, s5, l1, l2⟩ := hl k hk
  have b9 := things_le hB
  have hiff := byB_lt (by decide) hT hC.1 l2
  refine vc_X3_isGotIn (fun G hG => ?_)
  refine hG 0 _ _ _ _ _ ?_
  refine y_get (hH.lt hk) (by decide) rfl ?_
  rw [hs 3 (by omega)]
  refine pk_le (s 3) 0 (fun z => ?_) (fun z => ?_)
  · exact z0 (fun e => by have := hiff.mp e; omega) hK
  · have hs1 : s 4 < vn L := by
      rcases l2 with ⟨e, -⟩ | ⟨-, m1, -⟩ | ⟨-, tt⟩
      · omega
      · exact m1.1
      · exact absurd tt (ltok_noT hT (by decide))
    have hcs := hC.1 _ hs1
    have b5 := (hB.2 _ hs1).2.1
    refine y_get (hH.lt hk) (by decide) rfl ?_
    rw [hs 4 (by omega)]
    refine y_ia (s 4) hc (by omega) (hC.2 _ hs1) ?_
    refine y_get (hH.lt hk) (by decide) rfl ?_
    rw [hs 5 (by omega)]
    refine pk_le (c (s 4)) (s 5) (fun w => ?_) (fun w => ?_)
    · exact z0 (fun e => by have := hiff.mp e; omega) hK
    · exact z1 (hiff.mpr ⟨by omega, by omega⟩) hK
theorem c_goesOn {v : Nat} {x : Int32} (hH : LnH g rl h β a ad th L A) (hm : LnM A L) (hB : LdB L) (hT : LtOk L) (hl : LnT A L) (hc : Ia g rl h b ρ 4 C) (hC : RwC C L c) (hv : v < vn L) (hK : K (some (.int (bP (GoR L c v)))) h) (ex : x = nI v := by rfl) : Run l g d_X2_goesOn [.ref a, .ref b, .int x] h 0 0 K := by
  subst ex
  have b1 := hB.1
  obtain ⟨-, b2, b3⟩ := hB.2 v hv
  obtain ⟨-, m1, m2, -⟩ := hm v hv
  have hcv := hC.1 v hv
  refine vc_X2_goesOn (fun G hG => ?_)
  refine hG 0 _ _ _ _ _ ?_
  refine y_get hH.1 (by decide) rfl ?_
  refine y_ra (v) hH.2.1 (by omega) (if_pos (hv)) ?_
  refine y_ia v hc (by omega) (hC.2 v hv) ?_
  refine y_get (hH.vo (hv)) (cls_in _) rfl ?_
  rw [m1]
  refine pk_lt (c v) (tn L v) (fun z => ?_) (fun z => ?_)
  · obtain ⟨w1, w2⟩ := m2 (c v) z
    obtain ⟨q1, q2, q3⟩ := b3 (c v) z
    refine y_get (hH.vo (hv)) (cls_in _) rfl ?_
    refine y_ia (c v) (hH.wa hv) (by omega) w1 ?_
    refine pk_eq (wh L v (c v)) 2 (fun e => ?_) (fun e => ?_)
    · have hd : dg L v (c v) < 8 := by have := q3 (by omega); omega
      refine y_get hH.1 (by decide) rfl ?_
      refine y_get (hH.vo (hv)) (cls_in _) rfl ?_
      refine y_ia (c v) (hH.da hv) (by omega) w2 ?_
      refine y_ra (dg L v (c v)) hH.2.2.1 (by omega) rfl ?_
      refine y_call1 (hH.lt hd) (c_isSentIn hd hH hB hT hl hc hC ?_)
      refine b_Z (fun y => ?_) (fun y => ?_)
      · exact z0 (fun r => y (r.2 e)) hK
      · exact z1 ⟨z, fun _ => y⟩ hK
    · exact z1 ⟨z, fun q => absurd q e⟩ hK
  · exact z0 (fun r => by have := r.1; omega) hK
theorem c_thatGoOn (hH : LnH g rl h β a ad th L A) (hm : LnM A L) (hB : LdB L) (hT : LtOk L) (hl : LnT A L) (hc : Ia g rl h b ρ 4 C) (hC : RwC C L c) (hK : K (some (.int (ub (fun v => decide (GoR L c v)) (vn L)))) h) : Run l g d_X2_thatGoOn [.ref a, .ref b] h 0 0 K := by
  have b1 := hB.1
  refine vc_X2_thatGoOn (fun G hG => ?_)
  have loop : ∀ k v, v + k = vn L → G 1 h 0 0 [some (.ref a), some (.ref b), some (.int (ub (fun v => decide (GoR L c v)) v)), some (.int (nI v))] [] := by
    intro k
    induction k with
    | zero =>
      intro v hv
      refine hG 1 _ _ _ _ _ ?_
      refine y_get hH.1 (by decide) rfl ?_
      refine b_ge v (vn L) (fun _ => ?_) (fun _ => by omega)
      rw [show v = vn L by omega]
      exact hK
    | succ k ih =>
      intro v hv
      have hvn : v < vn L := by omega
      refine hG 1 _ _ _ _ _ ?_
      refine y_get hH.1 (by decide) rfl ?_
      refine b_ge v (vn L) (fun _ => by omega) (fun _ => ?_)
      have ih9 := ih (v + 1) (by omega)
      rw [nI_succ v, ub_succ] at ih9
      refine y_call1 hH.1 (c_goesOn hH hm hB hT hl hc hC hvn ?_)
      refine b_Z (fun y => ?_) (fun y => ?_)
      · rw [if_neg (by rw [decide_eq_true_eq]; exact y), or_0] at ih9
        exact ih9
      · rw [if_pos (by rw [decide_eq_true_eq]; exact y)] at ih9
        exact ih9
  refine hG 0 _ _ _ _ _ ?_
  exact loop (vn L) 0 (by omega)
def glv (L : Ld) (c : Nat → Nat) : Nat := fst (fun v => !decide (GoR L c v)) (vn L)
theorem c_firstThatGoesOn (hH : LnH g rl h β a ad th L A) (hm : LnM A L) (hB : LdB L) (hT : LtOk L) (hl : LnT A L) (hc : Ia g rl h b ρ 4 C) (hC : RwC C L c) (hK : K (some (.int (if glv L c < vn L then nI (glv L c) else -9))) h) : Run l g d_X2_firstThatGoesOn [.ref a, .ref b] h 0 0 K := by
  have b1 := hB.1
  refine vc_X2_firstThatGoesOn (fun G hG => ?_)
  have loop : ∀ k v, v + k = vn L → (∀ w, w < v → ¬ GoR L c w) → G 1 h 0 0 [some (.ref a), some (.ref b), some (.int (nI v))] [] := by
    intro k
    induction k with
    | zero =>
      intro v hv hno
      refine hG 1 _ _ _ _ _ ?_
      refine y_get hH.1 (by decide) rfl ?_
      refine b_ge v (vn L) (fun _ => ?_) (fun _ => by omega)
      have e9 : glv L c = vn L := fst_all (fun w hw => by rw [decide_eq_false (hno w (by omega))]; rfl)
      rw [if_neg (by omega)] at hK
      exact hK
    | succ k ih =>
      intro v hv hno
      have hvn : v < vn L := by omega
      refine hG 1 _ _ _ _ _ ?_
      refine y_get hH.1 (by decide) rfl ?_
      refine b_ge v (vn L) (fun _ => by omega) (fun _ => ?_)
      refine y_call1 hH.1 (c_goesOn hH hm hB hT hl hc hC hvn ?_)
      refine b_Z (fun y => ?_) (fun y => ?_)
      · have ih9 := ih (v + 1) (by omega) (lt_s hno y)
        rw [nI_succ v] at ih9
        exact ih9 
      · have e9 : glv L c = v := fst_no (fun w hw => by rw [decide_eq_false (hno w hw)]; rfl) (by rw [decide_eq_true y]; rfl) hvn
        rw [e9, if_pos hvn] at hK
        exact hK
  refine hG 0 _ _ _ _ _ ?_
  exact loop (vn L) 0 (by omega) (fun w hw => absurd hw (Nat.not_lt_zero w))
theorem c_underWay (hH : LnH g rl h β a ad th L A) (hB : LdB L) (hT : LtOk L) (hl : LnT A L) (hc : Ia g rl h b ρ 4 C) (hC : RwC C L c) (hK : K (some (.int (uwB L c))) h) : Run l g d_X2_underWay [.ref a, .ref b] h 0 0 K := by
  have b1 := hB.1
  refine vc_X2_underWay (fun G hG => ?_)
  have loop : ∀ j k, k + j = 8 → G 1 h 0 0 [some (.ref a), some (.ref b), some (.int (ub (fun k => byB L c 1 k && !byB L c 2 k) k)), some (.int (nI k))] [] := by
    intro j
    induction j with
    | zero =>
      intro k hk
      refine hG 1 _ _ _ _ _ ?_
      refine b_ge k 8 (fun _ => ?_) (fun _ => by omega)
      rw [show k = 8 by omega]
      exact hK
    | succ j ih =>
      intro k hk
      have hk8 : k < 8 := by omega
      refine hG 1 _ _ _ _ _ ?_
      refine b_ge k 8 (fun _ => by omega) (fun _ => ?_)
      have ih9 := ih (k + 1) (by omega)
      rw [nI_succ k, ub_succ] at ih9
      refine y_get hH.1 (by decide) rfl ?_
      refine y_ra k hH.2.2.1 (by omega) rfl ?_
      refine y_call1 (hH.lt hk8) (c_isSentIn hk8 hH hB hT hl hc hC ?_)
      refine b_Z (fun y => ?_) (fun y => ?_)
      · rw [if_neg (by rw [Bool.and_eq_true]; exact fun z => y z.1), or_0] at ih9
        exact ih9
      · refine y_get hH.1 (by decide) rfl ?_
        refine y_ra k hH.2.2.1 (by omega) rfl ?_
        refine y_call1 (hH.lt hk8) (c_isGotIn hk8 hH hB hT hl hc hC ?_)
        refine b_Z (fun w => ?_) (fun w => ?_)
        · rw [if_pos (by rw [Bool.and_eq_true, Bool.not_eq_true', y]; exact ⟨rfl, by rw [Bool.not_eq_true] at w; exact w⟩)] at ih9
          exact ih9
        · rw [if_neg (by rw [Bool.and_eq_true, w]; exact fun z => by cases z.2), or_0] at ih9
          exact ih9
  refine hG 0 _ _ _ _ _ ?_
  exact loop 8 0 (by omega)
theorem c_isAmiss {k : Nat} (hk : k < 8) (hH : LnH g rl h β a ad th L A) (hB : LdB L) (hl : LnT A L) (hK : K (some (.int (bP (amB L k = true)))) h) : Run l g d_X3_isAmiss [.ref (ad (10 + k))] h 0 0 K := by
  obtain ⟨s, hs, s0, s3, s1, s4, s2, s5, l1, l2⟩ := hl k hk
  have b9 := things_le hB
  have hiff := ams_lt l1 l2
  rw [← amB_iff] at hiff
  refine vc_X3_isAmiss (fun G hG => ?_)
  refine hG 0 _ _ _ _ _ ?_
  refine y_get (hH.lt hk) (by decide) rfl ?_
  rw [hs 0 (by omega)]
  refine b_gt (s 0) 1 (fun z => ?_) (fun z => ?_)
  · exact z1 (hiff.mpr (Or.inl z)) hK
  refine y_get (hH.lt hk) (by decide) rfl ?_
  rw [hs 3 (by omega)]
  refine b_gt (s 3) 1 (fun y => ?_) (fun y => ?_)
  · exact z1 (hiff.mpr (Or.inr (Or.inl y))) hK
  refine y_get (hH.lt hk) (by decide) rfl ?_
  rw [hs 3 (by omega)]
  refine pk_eq (s 3) 1 (fun x => ?_) (fun x => ?_)
  · refine y_get (hH.lt hk) (by decide) rfl ?_
    rw [hs 0 (by omega)]
    refine pk_eq (s 0) 0 (fun w => ?_) (fun w => ?_)
    · exact z1 (hiff.mpr (Or.inr (Or.inr ⟨x, Or.inl w⟩))) hK
    · refine y_get (hH.lt hk) (by decide) rfl ?_
      refine y_get (hH.lt hk) (by decide) rfl ?_
      rw [hs 1 (by omega), hs 4 (by omega)]
      refine pk_eq (s 1) (s 4) (fun u => ?_) (fun u => ?_)
      · exact z1 (hiff.mpr (Or.inr (Or.inr ⟨x, Or.inr u⟩))) hK
      · exact z0 (fun e => by have := hiff.mp e; omega) hK
  · exact z0 (fun e => by have := hiff.mp e; omega) hK
theorem c_leastAmiss (hH : LnH g rl h β a ad th L A) (hB : LdB L) (hl : LnT A L) (hK : K (some (.int (amI L))) h) : Run l g d_X2_leastAmiss [.ref a] h 0 0 K := by
  unfold amI at hK
  refine vc_X2_leastAmiss (fun G hG => ?_)
  have loop : ∀ j k, k + j = 8 → (∀ i, i < k → ¬ amB L i = true) → G 1 h 0 0 [some (.ref a), some (.int (nI k))] [] := by
    intro j
    induction j with
    | zero =>
      intro k hk hno
      refine hG 1 _ _ _ _ _ ?_
      refine b_ge k 8 (fun _ => ?_) (fun _ => by omega)
      have e8 : amN L = 8 := fst_all (fun i hi => by have := hno i (by omega); rw [Bool.not_eq_true] at this; rw [this]; rfl)
      rw [if_neg (by omega)] at hK
      exact hK
    | succ j ih =>
      intro k hk hno
      have hk8 : k < 8 := by omega
      refine hG 1 _ _ _ _ _ ?_
      refine b_ge k 8 (fun _ => by omega) (fun _ => ?_)
      refine y_get hH.1 (by decide) rfl ?_
      refine y_ra k hH.2.2.1 (by omega) rfl ?_
      refine y_call1 (hH.lt hk8) (c_isAmiss hk8 hH hB hl ?_)
      refine b_Z (fun y => ?_) (fun y => ?_)
      · have ih9 := ih (k + 1) (by omega) (lt_s hno y)
        rw [nI_succ k] at ih9
        exact ih9 
      · have ek : amN L = k := fst_no (fun i hi => by have := hno i hi; rw [Bool.not_eq_true] at this; rw [this]; rfl) (by rw [y]; rfl) hk8
        rw [ek, if_pos hk8] at hK
        exact hK
  refine hG 0 _ _ _ _ _ ?_
  exact loop 8 0 (by omega) (fun i hi => absurd hi (Nat.not_lt_zero i))
end CL2

