/-! ===== the class: a land in the heap; the part k has the role β + k ===== -/
def clsOf (k : Nat) : Nat := if k = 0 then 4 else if k = 1 then 0 else 1
theorem cls_in (k : Nat) : clsOf k ∈ [4, 0, 1] := by
  unfold clsOf
  split
  · decide
  · split <;> decide
theorem cls_tab (k : Nat) (d : MD) : (clsOf k, d) ∈ [(4, d), (0, d), (1, d)] := by
  unfold clsOf
  split
  · exact List.mem_cons_self
  · split
    · exact List.mem_cons_of_mem _ List.mem_cons_self
    · exact List.mem_cons_of_mem _ (List.mem_cons_of_mem _ List.mem_cons_self)
def ltF (B : Nat → Int32) : List Value := [.int (B 0), .int (B 1), .int (B 2), .int (B 3), .int (B 4), .int (B 5)]
def vlF (ad : Nat → Nat) (B : Nat → Int32) (v : Nat) : List Value := [.int (B 0), .ref (ad (30 + v)), .ref (ad (40 + v)), .ref (ad (50 + v)), .ref (ad (65 + 10 * v)), .int (B 1)]
def ViH (g : Gm) (rl : Nat → Nat) (h : Hp) (β : Nat) (ad : Nat → Nat) (k : Nat) (A : Nat → Nat → Int32) (v : Nat) : Prop := Ob rl h (ad (20 + v)) (β + (20 + v)) (.inr (clsOf k, vlF ad (A (20 + v)) v)) ∧ Ia g rl h (ad (30 + v)) (β + (30 + v)) 5 (A (30 + v)) ∧ Ia g rl h (ad (40 + v)) (β + (40 + v)) 5 (A (40 + v)) ∧ Ra g 6 rl h (ad (50 + v)) (β + (50 + v)) 5 (fun t => some (ad (60 + 10 * v + t))) ∧ Ia g rl h (ad (65 + 10 * v)) (β + (65 + 10 * v)) 6 (A (65 + 10 * v)) ∧ ∀ t, t < 5 → Ia g rl h (ad (60 + 10 * v + t)) (β + (60 + 10 * v + t)) 4 (A (60 + 10 * v + t))
def LnH (g : Gm) (rl : Nat → Nat) (h : Hp) (β a : Nat) (ad : Nat → Nat) (th : Int32) (L : Ld) (A : Nat → Nat → Int32) : Prop := Ob rl h a β (.inr (2, [.ref (ad 1), .ref (ad 2), .ref (ad 3), .ref (ad 4), .int (nI (vn L)), .int th])) ∧ Ra g 3 rl h (ad 1) (β + 1) 4 (fun v => if v < vn L then some (ad (20 + v)) else none) ∧ Ra g 4 rl h (ad 2) (β + 2) 8 (fun k => some (ad (10 + k))) ∧ Ia g rl h (ad 3) (β + 3) 20 (A 3) ∧ Ia g rl h (ad 4) (β + 4) 4 (A 4) ∧ (∀ k, k < 8 → Ob rl h (ad (10 + k)) (β + (10 + k)) (.inr (3, ltF (A (10 + k))))) ∧ ∀ v, v < vn L → ViH g rl h β ad (kd L v) A v
section LNH
variable {l : Launch} {g : Gm} {rl rl1 : Nat → Nat} {h h1 : Hp} {K : PT} {β a : Nat} {ad : Nat → Nat} {th : Int32} {L : Ld} {A : Nat → Nat → Int32}
theorem LnH.fr (hH : LnH g rl h β a ad th L A) : Ia g rl h (ad 3) (β + 3) 20 (A 3) := hH.2.2.2.1
theorem LnH.dn (hH : LnH g rl h β a ad th L A) : Ia g rl h (ad 4) (β + 4) 4 (A 4) := hH.2.2.2.2.1
theorem LnH.lt (hH : LnH g rl h β a ad th L A) {k : Nat} (hk : k < 8) : Ob rl h (ad (10 + k)) (β + (10 + k)) (.inr (3, ltF (A (10 + k)))) := hH.2.2.2.2.2.1 k hk
theorem LnH.vo (hH : LnH g rl h β a ad th L A) {v : Nat} (hv : v < vn L) : Ob rl h (ad (20 + v)) (β + (20 + v)) (.inr (clsOf (kd L v), vlF ad (A (20 + v)) v)) := (hH.2.2.2.2.2.2 v hv).1
theorem LnH.wa (hH : LnH g rl h β a ad th L A) {v : Nat} (hv : v < vn L) : Ia g rl h (ad (30 + v)) (β + (30 + v)) 5 (A (30 + v)) := (hH.2.2.2.2.2.2 v hv).2.1
theorem LnH.da (hH : LnH g rl h β a ad th L A) {v : Nat} (hv : v < vn L) : Ia g rl h (ad (40 + v)) (β + (40 + v)) 5 (A (40 + v)) := (hH.2.2.2.2.2.2 v hv).2.2.1
theorem LnH.no (hH : LnH g rl h β a ad th L A) {v : Nat} (hv : v < vn L) : Ra g 6 rl h (ad (50 + v)) (β + (50 + v)) 5 (fun t => some (ad (60 + 10 * v + t))) := (hH.2.2.2.2.2.2 v hv).2.2.2.1
theorem LnH.nr (hH : LnH g rl h β a ad th L A) {v t : Nat} (hv : v < vn L) (ht : t < 5) : Ia g rl h (ad (60 + 10 * v + t)) (β + (60 + 10 * v + t)) 4 (A (60 + 10 * v + t)) := (hH.2.2.2.2.2.2 v hv).2.2.2.2.2 t ht
theorem LnH.vr (hH : LnH g rl h β a ad th L A) {v : Nat} (hv : v < vn L) : Ia g rl h (ad (65 + 10 * v)) (β + (65 + 10 * v)) 6 (A (65 + 10 * v)) := (hH.2.2.2.2.2.2 v hv).2.2.2.2.1
theorem ViH.ex {X : Nat → Prop} {v k : Nat} (hH : ViH g rl h β ad k A v) (hx : Ex X rl h rl1 h1) (h4 : v < 4) (hn : ∀ i, i < 100 → ¬ X (β + i)) : ViH g rl1 h1 β ad k A v := ⟨hH.1.ex hx (hn _ (by omega)), hH.2.1.ex hx (hn _ (by omega)), hH.2.2.1.ex hx (hn _ (by omega)), hH.2.2.2.1.ex hx (hn _ (by omega)), hH.2.2.2.2.1.ex hx (hn _ (by omega)), fun t ht => (hH.2.2.2.2.2 t ht).ex hx (hn _ (by omega))⟩
theorem LnH.ex {X : Nat → Prop} (hH : LnH g rl h β a ad th L A) (hx : Ex X rl h rl1 h1) (h4 : vn L ≤ 4) (hn : ∀ i, i < 100 → ¬ X (β + i)) : LnH g rl1 h1 β a ad th L A := ⟨hH.1.ex hx (hn 0 (by omega)), hH.2.1.ex hx (hn _ (by omega)), hH.2.2.1.ex hx (hn _ (by omega)), hH.2.2.2.1.ex hx (hn _ (by omega)), hH.2.2.2.2.1.ex hx (hn _ (by omega)), fun k hk => (hH.2.2.2.2.2.1 k hk).ex hx (hn _ (by omega)), fun v hv => (hH.2.2.2.2.2.2 v hv).ex hx (by omega) hn⟩
/-- one part changed -/
theorem LnH.up (hH : LnH g rl h β a ad th L A) (k : Nat) {F : Nat → Int32} (x1 : Ex (fun i => i = β + k) rl h rl h1) (h4 : vn L ≤ 4) (hk : k = 3 ∨ k = 4 ∨ (10 ≤ k ∧ k < 50) ∨ 60 ≤ k) (n3 : k = 3 → Ia g rl h1 (ad k) (β + k) 20 F) (n4 : k = 4 → Ia g rl h1 (ad k) (β + k) 4 F) (n10 : ∀ j, j < 8 → k = 10 + j → Ob rl h1 (ad k) (β + k) (.inr (3, ltF F))) (n20 : ∀ v, v < vn L → k = 20 + v → Ob rl h1 (ad k) (β + k) (.inr (clsOf (kd L v), vlF ad F v))) (n30 : ∀ v, v < vn L → k = 30 + v ∨ k = 40 + v → Ia g rl h1 (ad k) (β + k) 5 F) (n60 : ∀ v t, v < vn L → t < 5 → k = 60 + 10 * v + t → Ia g rl h1 (ad k) (β + k) 4 F) (n65 : ∀ v, v < vn L → k = 65 + 10 * v → Ia g rl h1 (ad k) (β + k) 6 F := by intros; omega) : LnH g rl h1 β a ad th L (va_up A k F) := by
  refine ⟨hH.1.ex x1 (by omega), hH.2.1.ex x1 (by omega), hH.2.2.1.ex x1 (by omega), ?_, ?_, fun j hj => ?_, fun v hv => ⟨?_, ?_, ?_, (hH.2.2.2.2.2.2 v hv).2.2.2.1.ex x1 (by omega), ?_, fun t ht => ?_⟩⟩
  · by_cases e : k = 3
    · subst e; exact n3 rfl
    · rw [show va_up A k F 3 = A 3 from if_neg (Ne.symm e)]; exact hH.2.2.2.1.ex x1 (by omega)
  · by_cases e : k = 4
    · subst e; exact n4 rfl
    · rw [show va_up A k F 4 = A 4 from if_neg (Ne.symm e)]; exact hH.2.2.2.2.1.ex x1 (by omega)
  · by_cases e : k = 10 + j
    · rw [show va_up A k F (10 + j) = F from if_pos e.symm, ← e]; exact n10 j hj e
    · rw [show va_up A k F (10 + j) = A (10 + j) from if_neg (Ne.symm e)]; exact (hH.2.2.2.2.2.1 j hj).ex x1 (by omega)
  · by_cases e : k = 20 + v
    · rw [show va_up A k F (20 + v) = F from if_pos e.symm, ← e]; exact n20 v hv e
    · rw [show va_up A k F (20 + v) = A (20 + v) from if_neg (Ne.symm e)]; exact (hH.vo hv).ex x1 (by omega)
  · by_cases e : k = 30 + v
    · rw [show va_up A k F (30 + v) = F from if_pos e.symm, ← e]; exact n30 v hv (Or.inl e)
    · rw [show va_up A k F (30 + v) = A (30 + v) from if_neg (Ne.symm e)]; exact (hH.wa hv).ex x1 (by omega)
  · by_cases e : k = 40 + v
    · rw [show va_up A k F (40 + v) = F from if_pos e.symm, ← e]; exact n30 v hv (Or.inr e)
    · rw [show va_up A k F (40 + v) = A (40 + v) from if_neg (Ne.symm e)]; exact (hH.da hv).ex x1 (by omega)
  · by_cases e : k = 65 + 10 * v
    · rw [show va_up A k F (65 + 10 * v) = F from if_pos e.symm, ← e]; exact n65 v hv e
    · rw [show va_up A k F (65 + 10 * v) = A (65 + 10 * v) from if_neg (Ne.symm e)]; exact (hH.vr hv).ex x1 (by omega)
  · by_cases e : k = 60 + 10 * v + t
    · rw [show va_up A k F (60 + 10 * v + t) = F from if_pos e.symm, ← e]; exact n60 v t hv ht e
    · rw [show va_up A k F (60 + 10 * v + t) = A (60 + 10 * v + t) from if_neg (Ne.symm e)]; exact (hH.nr hv ht).ex x1 (by omega)
/-- what the rows of a land tell -/
def LnM (A : Nat → Nat → Int32) (L : Ld) : Prop := ∀ v, v < vn L → A (20 + v) 0 = nI (kd L v) ∧ A (20 + v) 1 = nI (tn L v) ∧ (∀ t, t < tn L v → A (30 + v) t = nI (wh L v t) ∧ A (40 + v) t = nI (dg L v t)) ∧ ∀ t, t ≤ tn L v → A (65 + 10 * v) t = nI (val L v t)
def LnN (A : Nat → Nat → Int32) (L : Ld) (nd : NT) : Prop := ∀ v t u, v < vn L → t < tn L v → u < 4 → A (60 + 10 * v + t) u = nI (nd v t u)
theorem c_hasVillage {x : Int32} (hH : LnH g rl h β a ad th L A) (hK : K (some (.int (bP (IsV x (vn L))))) h) : Run l g d_X2_hasVillage [.ref a, .int x] h 0 0 K := by
  refine vc_X2_hasVillage (fun G hG => ?_)
  refine hG 0 _ _ _ _ _ ?_
  refine b_cases (fun z => ?_) (fun z => ?_)
  · exact z0 (fun q => q.1 z) hK
  · refine y_get hH.1 (by decide) rfl ?_
    refine b_cases (fun y => ?_) (fun y => ?_)
    · exact z0 (fun q => q.2 y) hK
    · exact z1 ⟨z, y⟩ hK
theorem c_hasThing {x y : Int32} (hH : LnH g rl h β a ad th L A) (hm : LnM A L) (b1 : vn L ≤ 4) (hK : K (some (.int (bP (IsT x y L)))) h) : Run l g d_X2_hasThing [.ref a, .int x, .int y] h 0 0 K := by
  refine vc_X2_hasThing (fun G hG => ?_)
  refine hG 0 _ _ _ _ _ ?_
  refine y_call1 hH.1 (c_hasVillage hH ?_)
  refine b_Z (fun z => ?_) (fun z => ?_)
  · exact z0 (fun r => z r.1) hK
  · obtain ⟨v, hv, rfl⟩ := isV_of z (by omega)
    have ec : (nI v).toNatClampNeg = v := nI_clamp (by omega)
    unfold IsT at hK
    refine b_cases (fun w => ?_) (fun w => ?_)
    · exact z0 (fun r => r.2.1 w) hK
    · refine y_get hH.1 (by decide) rfl ?_
      refine y_ra (v) hH.2.1 (by omega) (if_pos (hv)) ?_
      refine y_get (hH.vo (hv)) (cls_in _) rfl ?_
      rw [(hm v hv).2.1]
      refine b_cases (fun u => ?_) (fun u => ?_)
      · exact z0 (fun r => by have h9 := r.2.2; rw [ec] at h9; exact h9 u) hK
      · exact z1 ⟨z, w, by rw [ec]; exact u⟩ hK
theorem LdOk.b (hL : LdOk L) : LdB L := ⟨hL.1, fun v hv => ⟨(hL.2 v hv).1, (hL.2 v hv).2.2⟩⟩
theorem y_minL {K : CT} {cb sb : Nat} {ls : LocS} {r : List Value} {x1 x2 : Int32} (x y : Nat) (hx : x ≤ y) (hy : y < 2 ^ 31) (k : K h cb sb ls (.int (nI x) :: r)) (e1 : x1 = nI x := by rfl) (e2 : x2 = nI y := by rfl) (hr : Nat.ble r.length 4 = true := by rfl) : Nat.ble r.length 4 = true ∧ K h cb sb ls (.int (if x2 < x1 then x2 else x1) :: r) := by
  subst e1 e2
  rw [if_neg (nlt.mpr (nI_le hx hy))]
  exact ⟨hr, k⟩
theorem c_valueAt {v c : Nat} {x : Int32} (hH : LnH g rl h β a ad th L A) (hm : LnM A L) (hB : LdB L) (hv : v < vn L) (hc : c ≤ tn L v) (hK : K (some (.int (nI (val L v c)))) h) (ex : x = nI c := by rfl) : Run l g d_X4_valueAt [.ref (ad (20 + v)), .int x] h 0 0 K := by
  subst ex
  obtain ⟨-, m1, -, m3⟩ := hm v hv
  have b2 := (hB.2 v hv).2.1
  refine vc_X4_valueAt (fun G hG => ?_)
  refine hG 0 _ _ _ _ _ ?_
  refine y_get (hH.vo (hv)) (cls_in _) rfl ?_
  refine y_get (hH.vo (hv)) (cls_in _) rfl ?_
  rw [m1]
  refine y_minL c (tn L v) hc (by omega) ?_
  refine y_max (a := 0) (b := c) ?_
  rw [Nat.zero_max]
  refine y_ia c (hH.vr hv) (by omega) (m3 c hc) ?_
  exact hK
theorem c_worthAs {k x : Nat} {y1 y2 : Int32} (hk : k ≤ 2) (hK : K (some (.int (nI (wor k x)))) h) (e1 : y1 = nI k := by rfl) (e2 : y2 = nI x := by rfl) : Run l g d_X4_worthAs [.int y1, .int y2] h 0 0 K := by
  subst e1 e2
  unfold wor at hK
  refine vc_X4_worthAs (fun G hG => ?_)
  refine hG 0 _ _ _ _ _ ?_
  refine pk_eq k 2 (fun z => ?_) (fun z => ?_)
  · rw [if_pos z, ← pk_mul] at hK
    exact hK
  · rw [if_neg z] at hK
    refine pk_eq k 1 (fun y => ?_) (fun y => ?_)
    · rw [if_pos y, nI_succ] at hK
      exact hK
    · rw [if_neg y] at hK
      exact hK
theorem c_worthAt {v c : Nat} {x : Int32} (hH : LnH g rl h β a ad th L A) (hm : LnM A L) (hB : LdB L) (hv : v < vn L) (hc : c ≤ tn L v) (hK : K (some (.int (nI (wor (kd L v) (val L v c))))) h) (ex : x = nI c := by rfl) : Run l g d_X4_worthAt [.ref (ad (20 + v)), .int x] h 0 0 K := by
  refine vc_X4_worthAt (fun G hG => ?_)
  refine hG 0 _ _ _ _ _ ?_
  refine y_get (hH.vo (hv)) (cls_in _) rfl ?_
  rw [(hm v hv).1]
  refine y_callV rfl (hH.vo (hv)) (cls_tab _ _) (c_valueAt hH hm hB hv hc ?_ ex)
  refine y_callS (c_worthAs (hB.2 v hv).1 ?_)
  exact hK
theorem c_needInAll {v t : Nat} {nd : NT} {x : Int32} (hH : LnH g rl h β a ad th L A) (hN : LnN A L nd) (hB : LdB L) (hv : v < vn L) (ht : t < tn L v) (hK : K (some (.int (nI (sm (nd v t) 4)))) h) (ex : x = nI t := by rfl) : Run l g d_X4_needInAll [.ref (ad (20 + v)), .int x] h 0 0 K := by
  subst ex
  obtain ⟨-, b2, b3⟩ := hB.2 v hv
  refine vc_X4_needInAll (fun G hG => ?_)
  have loop : ∀ k u, u + k = 4 → G 1 h 0 0 [some (.ref (ad (20 + v))), some (.int (nI t)), some (.int (nI (sm (nd v t) u))), some (.int (nI u))] [] := by
    intro k
    induction k with
    | zero =>
      intro u hu
      refine hG 1 _ _ _ _ _ ?_
      refine b_ge u 4 (fun _ => ?_) (fun _ => by omega)
      rw [show u = 4 by omega]
      exact hK
    | succ k ih =>
      intro u hu
      refine hG 1 _ _ _ _ _ ?_
      refine b_ge u 4 (fun _ => by omega) (fun _ => ?_)
      refine y_get (hH.vo (hv)) (cls_in _) rfl ?_
      refine y_ra t (hH.no hv) (by omega) rfl ?_
      refine y_ia u (hH.nr hv (by omega)) (by omega) (hN v t u hv ht (by omega)) ?_
      have ih9 := ih (u + 1) (by omega)
      rw [nI_succ u, sm_succ, ← nI_add] at ih9
      exact ih9
  refine hG 0 _ _ _ _ _ ?_
  exact loop 4 0 (by omega)
end LNH
section LNC
variable {l : Launch} {g : Gm} {rl rl1 : Nat → Nat} {h h1 : Hp} {K : PT} {β a b ρ : Nat} {ad : Nat → Nat} {th : Int32} {L : Ld} {A : Nat → Nat → Int32} {nd : NT} {C : Nat → Int32} {c : Nat → Nat}
/-- a cut in a row of the heap -/
def RwC (C : Nat → Int32) (L : Ld) (c : Nat → Nat) : Prop := CutOk L c ∧ ∀ v, v < vn L → C v = nI (c v)
theorem c_sumOf (hH : LnH g rl h β a ad th L A) (hm : LnM A L) (hB : LdB L) (hc : Ia g rl h b ρ 4 C) (hC : RwC C L c) (hK : K (some (.int (nI (sumC L c)))) h) : Run l g d_X2_sumOf [.ref a, .ref b] h 0 0 K := by
  have b1 := hB.1
  refine vc_X2_sumOf (fun G hG => ?_)
  have loop : ∀ k v, v + k = vn L → G 1 h 0 0 [some (.ref a), some (.ref b), some (.int (nI (sm (fun v => wor (kd L v) (val L v (c v))) v))), some (.int (nI v))] [] := by
    intro k
    induction k with
    | zero =>
      intro v hv
      refine hG 1 _ _ _ _ _ ?_
      refine y_get hH.1 (by decide) rfl ?_
      refine b_ge v (vn L) (fun _ => ?_) (fun _ => by omega)
      rw [show v = vn L by omega]
      exact hK
    | succ k ih =>
      intro v hv
      have hvn : v < vn L := by omega
      refine hG 1 _ _ _ _ _ ?_
      refine y_get hH.1 (by decide) rfl ?_
      refine b_ge v (vn L) (fun _ => by omega) (fun _ => ?_)
      refine y_get hH.1 (by decide) rfl ?_
      refine y_ra (v) hH.2.1 (by omega) (if_pos (hvn)) ?_
      refine y_ia v hc (by omega) (hC.2 v hvn) ?_
      refine y_callV rfl (hH.vo (hvn)) (cls_tab _ _) (c_worthAt hH hm hB hvn (hC.1 v hvn) ?_)
      have ih9 := ih (v + 1) (by omega)
      rw [nI_succ v, sm_succ, ← nI_add] at ih9
      exact ih9
  refine hG 0 _ _ _ _ _ ?_
  exact loop (vn L) 0 (by omega)
theorem c_thingsIn (hH : LnH g rl h β a ad th L A) (hB : LdB L) (hc : Ia g rl h b ρ 4 C) (hC : RwC C L c) (hK : K (some (.int (nI (cntC L c)))) h) : Run l g d_X2_thingsIn [.ref a, .ref b] h 0 0 K := by
  have b1 := hB.1
  refine vc_X2_thingsIn (fun G hG => ?_)
  have loop : ∀ k v, v + k = vn L → G 1 h 0 0 [some (.ref a), some (.ref b), some (.int (nI (sm c v))), some (.int (nI v))] [] := by
    intro k
    induction k with
    | zero =>
      intro v hv
      refine hG 1 _ _ _ _ _ ?_
      refine y_get hH.1 (by decide) rfl ?_
      refine b_ge v (vn L) (fun _ => ?_) (fun _ => by omega)
      rw [show v = vn L by omega]
      exact hK
    | succ k ih =>
      intro v hv
      have hvn : v < vn L := by omega
      refine hG 1 _ _ _ _ _ ?_
      refine y_get hH.1 (by decide) rfl ?_
      refine b_ge v (vn L) (fun _ => by omega) (fun _ => ?_)
      refine y_ia v hc (by omega) (hC.2 v hvn) ?_
      have ih9 := ih (v + 1) (by omega)
      rw [nI_succ v, sm_succ, ← nI_add] at ih9
      exact ih9
  refine hG 0 _ _ _ _ _ ?_
  exact loop (vn L) 0 (by omega)
theorem c_canBe (hH : LnH g rl h β a ad th L A) (hN : LnN A L nd) (hL : LdOk L) (hNd : Need L nd) (hc : Ia g rl h b ρ 4 C) (hC : RwC C L c) (hK : K (some (.int (bP (Cbe L nd c)))) h) : Run l g d_X2_canBe [.ref a, .ref b] h 0 0 K := by
  have b1 := hL.1
  refine vc_X2_canBe (fun G hG => ?_)
  have loop : ∀ k v, v + k = vn L → (∀ w, w < v → ∀ u, u < vn L → 0 < c w → nd w (c w - 1) u ≤ c u) → ∀ o9 : Option Value, G 1 h 0 0 [some (.ref a), some (.ref b), some (.int (nI v)), o9] [] := by
    intro k
    induction k with
    | zero =>
      intro v hv hw o9
      refine hG 1 _ _ _ _ _ ?_
      refine y_get hH.1 (by decide) rfl ?_
      refine b_ge v (vn L) (fun _ => ?_) (fun _ => by omega)
      exact z1 (fun w hw2 => hw w (by omega)) hK
    | succ k ih =>
      intro v hv hw o9
      have hvn : v < vn L := by omega
      have hcv := hC.1 v hvn
      have b2 := (hL.2 v hvn).2.2.1
      refine hG 1 _ _ _ _ _ ?_
      refine y_get hH.1 (by decide) rfl ?_
      refine b_ge v (vn L) (fun _ => by omega) (fun _ => ?_)
      have inner : ∀ j u, u + j = vn L → (∀ w, w < u → 0 < c v → nd v (c v - 1) w ≤ c w) → G 2 h 0 0 [some (.ref a), some (.ref b), some (.int (nI v)), some (.int (nI u))] [] := by
        intro j
        induction j with
        | zero =>
          intro u hu hw2
          refine hG 2 _ _ _ _ _ ?_
          refine y_get hH.1 (by decide) rfl ?_
          refine b_ge u (vn L) (fun _ => ?_) (fun _ => by omega)
          have ih9 := ih (v + 1) (by omega) (lt_s hw (fun w hw3 => hw2 w (by omega)))
          rw [nI_succ v] at ih9
          exact ih9 _
        | succ j ih2 =>
          intro u hu hw2
          have hun : u < vn L := by omega
          refine hG 2 _ _ _ _ _ ?_
          refine y_get hH.1 (by decide) rfl ?_
          refine b_ge u (vn L) (fun _ => by omega) (fun _ => ?_)
          refine y_ia v hc (by omega) (hC.2 v hvn) ?_
          refine pk_le (c v) 0 (fun y => ?_) (fun y => ?_)
          · have ih9 := ih2 (u + 1) (by omega) (lt_s hw2 (fun h0 => by omega))
            rw [nI_succ u] at ih9
            exact ih9 
          · refine y_get hH.1 (by decide) rfl ?_
            refine y_ra (v) hH.2.1 (by omega) (if_pos (hvn)) ?_
            refine y_get (hH.vo (hvn)) (cls_in _) rfl ?_
            refine y_ia v hc (by omega) (hC.2 v hvn) ?_
            have e9 : nI (c v) - 1 = nI (c v - 1) := pk_sub (b := 1) (by omega)
            refine y_ra (c v - 1) (hH.no hvn) (by omega) rfl ?_ e9
            have hbd := (nd_bd hL hNd hvn (show c v - 1 < tn L v by omega) (u := u) (by omega)).1
            refine y_ia u (hH.nr hvn (by omega)) (by omega) (hN v (c v - 1) u hvn (by omega) (by omega)) ?_
            refine y_ia u hc (by omega) (hC.2 u hun) ?_
            have hcu := hC.1 u hun
            have b3 := (hL.2 u hun).2.2.1
            refine pk_le (nd v (c v - 1) u) (c u) (fun w => ?_) (fun w => ?_)
            · have ih9 := ih2 (u + 1) (by omega) (lt_s hw2 (fun _ => w))
              rw [nI_succ u] at ih9
              exact ih9 
            · exact z0 (fun r => by have := r v hvn u hun (by omega); omega) hK
      exact inner (vn L) 0 (by omega) (fun w hw => absurd hw (Nat.not_lt_zero w))
  refine hG 0 _ _ _ _ _ ?_
  exact loop (vn L) 0 (by omega) (fun w hw => absurd hw (Nat.not_lt_zero w)) _
theorem c_isAhead {v t u o : Nat} {x1 x2 x3 x4 : Int32} (hH : LnH g rl h β a ad th L A) (hN : LnN A L nd) (hL : LdOk L) (hNd : Need L nd) (hv : v < vn L) (hu : u < vn L) (ho : o < tn L u) (ht : t < tn L v) (hK : K (some (.int (bP (t < nd u o v)))) h) (e1 : x1 = nI v := by rfl) (e2 : x2 = nI t := by rfl) (e3 : x3 = nI u := by rfl) (e4 : x4 = nI o := by rfl) : Run l g d_X2_isAhead [.ref a, .int x1, .int x2, .int x3, .int x4] h 0 0 K := by
  subst e1 e2 e3 e4
  have b1 := hL.1
  have b2 := (hL.2 u hu).2.2.1
  have b3 := (hL.2 v hv).2.2.1
  have hbd := (nd_bd hL hNd hu ho (u := v) (by omega)).1
  refine vc_X2_isAhead (fun G hG => ?_)
  refine hG 0 _ _ _ _ _ ?_
  refine y_get hH.1 (by decide) rfl ?_
  refine y_ra (u) hH.2.1 (by omega) (if_pos (hu)) ?_
  refine y_get (hH.vo (hu)) (cls_in _) rfl ?_
  refine y_ra o (hH.no hu) (by omega) rfl ?_
  refine y_ia v (hH.nr hu (by omega)) (by omega) (hN u o v hu ho (by omega)) ?_
  refine pk_le (nd u o v) t (fun w => ?_) (fun w => ?_)
  · exact z0 (by omega) hK
  · exact z1 (by omega) hK
theorem c_raise {b2 ρ2 : Nat} {C2 : Nat → Int32} {c1 c2 : Nat → Nat} (hne : ρ ≠ ρ2) (hc : Ia g rl h b ρ 4 C) (hc2 : Ia g rl h b2 ρ2 4 C2) (h1 : ∀ u, u < 4 → C u = nI (c1 u) ∧ c1 u < 100) (h2 : ∀ u, u < 4 → C2 u = nI (c2 u) ∧ c2 u < 100) (hK : ∀ (h1 : Hp) (F : Nat → Int32), Ia g rl h1 b ρ 4 F → Ex (fun i => i = ρ) rl h rl h1 → (∀ u, u < 4 → F u = nI (max (c1 u) (c2 u))) → K none h1) : Run l g d_X2_raise [.ref b, .ref b2] h 0 0 K := by
  refine vc_X2_raise (fun G hG => ?_)
  have loop : ∀ j u, u + j = 4 → ∀ (h1 : Hp) (F : Nat → Int32), Ia g rl h1 b ρ 4 F → Ex (fun i => i = ρ) rl h rl h1 → (∀ w, w < u → F w = nI (max (c1 w) (c2 w))) → (∀ w, u ≤ w → w < 4 → F w = nI (c1 w)) → G 1 h1 0 0 [some (.ref b), some (.ref b2), some (.int (nI u))] [] := by
    intro j
    induction j with
    | zero =>
      intro u hu h1 F hF hx f1 f2
      refine hG 1 _ _ _ _ _ ?_
      refine b_ge u 4 (fun _ => ?_) (fun _ => by omega)
      exact hK h1 F hF hx (fun w hw => f1 w (by omega))
    | succ j ih =>
      intro u hu h3 F hF hx f1 f2
      have a1 := (h1 u (by omega)).2
      have a2 := (h2 u (by omega)).2
      refine hG 1 _ _ _ _ _ ?_
      refine b_ge u 4 (fun _ => by omega) (fun _ => ?_)
      refine y_ia u hF (by omega) (f2 u (by omega) (by omega)) ?_
      refine y_ia u (hc2.ex hx (Ne.symm hne)) (by omega) (h2 u (by omega)).1 ?_
      refine y_max (a := c1 u) (b := c2 u) ?_
      refine y_is u hF (by omega) (fun h4 e4 x4 => ?_)
      have ih9 := ih (u + 1) (by omega) h4 _ e4 (hx.trs x4) (fun w hw => ?_) (fun w hw hw4 => ?_)
      rw [nI_succ u] at ih9
      exact ih9 
      · by_cases e : w = u
        · rw [e, pk_us]
        · rw [pk_un e]; exact f1 w (by omega)
      · rw [pk_un (by omega)]; exact f2 w (by omega) hw4
  refine hG 0 _ _ _ _ _ ?_
  exact loop 4 0 (by omega) h C hc Ex.rf (fun w hw => absurd hw (Nat.not_lt_zero w)) (fun w _ hw => (h1 w hw).1)
end LNC

