/-! ===== the class's face in the heap: the part k has the role 100 + k ===== -/
def fcF (f : Nat → Nat) (I : Nat → Int32) (ca : Nat) (sv : Nat × Int32) : List Value := [.ref (f 1), .ref (f 2), .ref (f 3), .ref (f 4), .ref (f 5), .ref (f 6), .int (I 0), .int (I 1), .ref ca, .ref sv.1, .int sv.2]
def shF (f : Nat → Nat) (B : Nat → Int32) (k : Nat) : List Value := [.ref (f (20 + k)), .int (B 0), .int (B 1), .int (B 2)]
def FcH (g : Gm) (rl : Nat → Nat) (h : Hp) (a : Nat) (f : Nat → Nat) (I : Nat → Int32) (ca : Nat) (sv : Nat × Int32) (B : Nat → Nat → Int32) : Prop := Ob rl h a 100 (.inr (9, fcF f I ca sv)) ∧ Ra g 5 rl h (f 1) 101 4 (fun k => some (f (10 + k))) ∧ Ob rl h (f 2) 102 (.inr (8, [.int (I 2)])) ∧ Ia g rl h (f 3) 103 4 (B 3) ∧ Ia g rl h (f 4) 104 4 (B 4) ∧ Ra g 6 rl h (f 5) 105 8 (fun r => some (f (30 + r))) ∧ Ia g rl h (f 6) 106 8 (B 6) ∧ (∀ k, k < 4 → Ob rl h (f (10 + k)) (100 + (10 + k)) (.inr (5, shF f (B (10 + k)) k)) ∧ Ia g rl h (f (20 + k)) (100 + (20 + k)) 60 (B (20 + k))) ∧ ∀ r, r < 8 → Ia g rl h (f (30 + r)) (100 + (30 + r)) 4 (B (30 + r))
def FcM (I : Nat → Int32) (B : Nat → Nat → Int32) (S : St) : Prop := I 0 = nI (sRn S) ∧ I 1 = sFa S ∧ I 2 = sTr S ∧ (∀ k, k < 4 → B (10 + k) 0 = (if sSo S k = -9 then 0 else 1) ∧ (¬ sSo S k = -9 → B (10 + k) 1 = sSo S k) ∧ B (10 + k) 2 = nI (sLe S k) ∧ ∀ i, i < 60 → B (20 + k) i = sCe S k i) ∧ (∀ u, u < 4 → ∃ x, x ≤ 5 ∧ B 3 u = nI x) ∧ ∀ r, r < sRn S → B 6 r = nI (sRs S r) ∧ ∀ v, v < vn (sL S) → B (30 + r) v = nI (sRc S r v)
/-- the survey, at sv.1: sv.2 tells whether it is of this land; its part k has the role 2000 + (110 + k) -/
def SvO (g : Gm) (rl : Nat → Nat) (h : Hp) (sv : Nat × Int32) (L : Ld) (nd : NT) : Prop := ∃ (sd : Nat → Nat) (vi pl : Int32) (B : Nat → Nat → Int32) (W : Nat → Int64) (Re C : Nat → Int32), SvB g rl h 2000 sv.1 sd vi pl B W Re ∧ Ia g rl h (sd 1) (2000 + 118) 4 C ∧ (sv.2 = 0 ∨ (sv.2 = 1 ∧ SvH g rl h 2000 sv.1 sd L B W Re ∧ SvM L nd B W (pls L)))
def CoH (g : Gm) (rl : Nat → Nat) (h : Hp) (β ca : Nat) (ad : Nat → Nat) (A : Nat → Nat → Int32) (sv : Nat × Int32) (L : Ld) (nd : NT) (c : Nat → Nat) : Prop := 3000 ≤ β ∧ LnH g rl h β ca ad (nI (sm (tn L) (vn L))) L A ∧ LnM A L ∧ LnT A L ∧ LnN A L nd ∧ FrM A L nd ∧ (∀ v, v < vn L → A 4 v = nI (c v)) ∧ SvO g rl h sv L nd
def ClsH (g : Gm) (rl : Nat → Nat) (h : Hp) (a : Nat) (S : St) : Prop := ∃ (f : Nat → Nat) (I : Nat → Int32) (ca : Nat) (sv : Nat × Int32) (B : Nat → Nat → Int32) (β : Nat) (ad : Nat → Nat) (A : Nat → Nat → Int32), FcH g rl h a f I ca sv B ∧ FcM I B S ∧ CoH g rl h β ca ad A sv (sL S) (sN S) (sD S)
/-- what a call of the class changes: nothing of the reference -/
abbrev CXp : Nat → Prop := fun i => ¬ (1000 ≤ i ∧ i < 1100)
section FACE
variable {l : Launch} {g : Gm} {rl rl1 : Nat → Nat} {h h1 : Hp} {K : PT} {a : Nat} {f : Nat → Nat} {I : Nat → Int32} {ca : Nat} {sv : Nat × Int32} {B : Nat → Nat → Int32} {β : Nat} {ad : Nat → Nat} {A : Nat → Nat → Int32} {S : St} {L : Ld} {nd : NT} {c : Nat → Nat}
theorem SvO.ex {X : Nat → Prop} (hs : SvO g rl h sv L nd) (hx : Ex X rl h rl1 h1) (hn : ∀ i, 110 ≤ i → i < 120 → ¬ X (2000 + i)) : SvO g rl1 h1 sv L nd := by
  obtain ⟨sd, vi, pl, B, W, Re, C, hB, hc, e⟩ := hs
  refine ⟨sd, vi, pl, B, W, Re, C, hB.ex hx (fun i h1 h2 => hn i h1 (by omega)), hc.ex hx (hn _ (by omega) (by omega)), ?_⟩
  rcases e with e | ⟨e, hV, hM⟩
  · exact Or.inl e
  · exact Or.inr ⟨e, hV.ex hx (fun i h1 h2 => hn i h1 (by omega)), hM⟩
/-- it is of no land, or of another one -/
theorem SvO.un {L2 : Ld} {nd2 : NT} (hs : SvO g rl h sv L nd) : SvO g rl h (sv.1, 0) L2 nd2 := by
  obtain ⟨sd, vi, pl, B, W, Re, C, hB, hc, -⟩ := hs
  exact ⟨sd, vi, pl, B, W, Re, C, hB, hc, Or.inl rfl⟩
theorem CoH.ex {X : Nat → Prop} (hO : CoH g rl h β ca ad A sv L nd c) (h4 : vn L ≤ 4) (hx : Ex X rl h rl1 h1) (hn : ∀ i, 2000 ≤ i → ¬ X i) : CoH g rl1 h1 β ca ad A sv L nd c := by
  obtain ⟨hβ, hH, hm, hl, hN, hfr, hdn, hsv⟩ := hO
  exact ⟨hβ, hH.ex hx h4 (fun i _ => hn _ (by omega)), hm, hl, hN, hfr, hdn, hsv.ex hx (fun i _ _ => hn _ (by omega))⟩
theorem FcH.ex {X : Nat → Prop} (hF : FcH g rl h a f I ca sv B) (hx : Ex X rl h rl1 h1) (hn : ∀ i, i < 1000 → ¬ X i) : FcH g rl1 h1 a f I ca sv B := by
  obtain ⟨h1, h2, h3, h4, h5, h6, h7, h8, h9⟩ := hF
  exact ⟨h1.ex hx (hn _ (by omega)), h2.ex hx (hn _ (by omega)), h3.ex hx (hn _ (by omega)), h4.ex hx (hn _ (by omega)), h5.ex hx (hn _ (by omega)), h6.ex hx (hn _ (by omega)), h7.ex hx (hn _ (by omega)), fun k hk => ⟨(h8 k hk).1.ex hx (hn _ (by omega)), (h8 k hk).2.ex hx (hn _ (by omega))⟩, fun r hr => (h9 r hr).ex hx (hn _ (by omega))⟩
theorem ClsH.ex {X : Nat → Prop} (h4 : vn (sL S) ≤ 4) (hC : ClsH g rl h a S) (hx : Ex X rl h rl1 h1) (hn : ∀ i, i < 1000 ∨ 2000 ≤ i → ¬ X i) : ClsH g rl1 h1 a S := by
  obtain ⟨f, I, ca, sv, B, β, ad, A, hF, hFM, hO⟩ := hC
  exact ⟨f, I, ca, sv, B, β, ad, A, hF.ex hx (fun i hi => hn i (Or.inl hi)), hFM, hO.ex h4 hx (fun i hi => hn i (Or.inr hi))⟩
theorem FcH.so (hF : FcH g rl h a f I ca sv B) {k : Nat} (hk : k < 4) : Ob rl h (f (10 + k)) (100 + (10 + k)) (.inr (5, shF f (B (10 + k)) k)) := (hF.2.2.2.2.2.2.2.1 k hk).1
theorem FcH.sc (hF : FcH g rl h a f I ca sv B) {k : Nat} (hk : k < 4) : Ia g rl h (f (20 + k)) (100 + (20 + k)) 60 (B (20 + k)) := (hF.2.2.2.2.2.2.2.1 k hk).2
theorem FcH.tc (hF : FcH g rl h a f I ca sv B) : Ia g rl h (f 3) 103 4 (B 3) := hF.2.2.2.1
theorem FcH.wk (hF : FcH g rl h a f I ca sv B) : Ia g rl h (f 4) 104 4 (B 4) := hF.2.2.2.2.1
theorem FcH.rc (hF : FcH g rl h a f I ca sv B) : Ra g 6 rl h (f 5) 105 8 (fun r => some (f (30 + r))) := hF.2.2.2.2.2.1
theorem FcH.rs (hF : FcH g rl h a f I ca sv B) : Ia g rl h (f 6) 106 8 (B 6) := hF.2.2.2.2.2.2.1
theorem FcH.rr (hF : FcH g rl h a f I ca sv B) {r : Nat} (hr : r < 8) : Ia g rl h (f (30 + r)) (100 + (30 + r)) 4 (B (30 + r)) := hF.2.2.2.2.2.2.2.2 r hr
/-- the object itself changed -/
theorem FcH.ob {I2 : Nat → Int32} {ca2 : Nat} {sv2 : Nat × Int32} (hF : FcH g rl h a f I ca sv B) (e : Ob rl h1 a 100 (.inr (9, fcF f I2 ca2 sv2))) (hx : Ex (fun i => i = 100) rl h rl h1) (h2 : I2 2 = I 2) : FcH g rl h1 a f I2 ca2 sv2 B := by
  obtain ⟨g1, g2, g3, g4, g5, g6, g7, g8, g9⟩ := hF
  refine ⟨e, g2.ex hx (by omega), ?_, g4.ex hx (by omega), g5.ex hx (by omega), g6.ex hx (by omega), g7.ex hx (by omega), fun k hk => ⟨(g8 k hk).1.ex hx (by omega), (g8 k hk).2.ex hx (by omega)⟩, fun r hr => (g9 r hr).ex hx (by omega)⟩
  rw [h2]
  exact g3.ex hx (by omega)
theorem FcH.tr {x : Int32} (hF : FcH g rl h a f I ca sv B) (e : Ob rl h1 (f 2) 102 (.inr (8, [.int x]))) (hx : Ex (fun i => i = 102) rl h rl h1) : FcH g rl h1 a f (upd I 2 x) ca sv B := by
  obtain ⟨g1, g2, g3, g4, g5, g6, g7, g8, g9⟩ := hF
  exact ⟨g1.ex hx (by omega), g2.ex hx (by omega), e, g4.ex hx (by omega), g5.ex hx (by omega), g6.ex hx (by omega), g7.ex hx (by omega), fun k hk => ⟨(g8 k hk).1.ex hx (by omega), (g8 k hk).2.ex hx (by omega)⟩, fun r hr => (g9 r hr).ex hx (by omega)⟩
/-- one row, one sheet changed -/
theorem FcH.up (hF : FcH g rl h a f I ca sv B) (k : Nat) {F : Nat → Int32} (x1 : Ex (fun i => i = 100 + k) rl h rl h1) (hk : k = 3 ∨ k = 4 ∨ k = 6 ∨ (10 ≤ k ∧ k < 14) ∨ (20 ≤ k ∧ k < 24) ∨ (30 ≤ k ∧ k < 38)) (n4 : k = 3 ∨ k = 4 → Ia g rl h1 (f k) (100 + k) 4 F) (n6 : k = 6 → Ia g rl h1 (f k) (100 + k) 8 F) (n10 : ∀ j, j < 4 → k = 10 + j → Ob rl h1 (f k) (100 + k) (.inr (5, shF f F j))) (n20 : ∀ j, j < 4 → k = 20 + j → Ia g rl h1 (f k) (100 + k) 60 F) (n30 : ∀ j, j < 8 → k = 30 + j → Ia g rl h1 (f k) (100 + k) 4 F) : FcH g rl h1 a f I ca sv (va_up B k F) := by
  obtain ⟨g1, g2, g3, g4, g5, g6, g7, g8, g9⟩ := hF
  refine ⟨g1.ex x1 (by omega), g2.ex x1 (by omega), g3.ex x1 (by omega), ?_, ?_, g6.ex x1 (by omega), ?_, fun j hj => ⟨?_, ?_⟩, fun j hj => ?_⟩
  · by_cases e : k = 3
    · subst e; exact n4 (Or.inl rfl)
    · rw [va_n (Ne.symm e)]; exact g4.ex x1 (by omega)
  · by_cases e : k = 4
    · subst e; exact n4 (Or.inr rfl)
    · rw [va_n (Ne.symm e)]; exact g5.ex x1 (by omega)
  · by_cases e : k = 6
    · subst e; exact n6 rfl
    · rw [va_n (Ne.symm e)]; exact g7.ex x1 (by omega)
  · by_cases e : k = 10 + j
    · rw [show va_up B k F (10 + j) = F from if_pos e.symm, ← e]; exact n10 j hj e
    · rw [va_n (Ne.symm e)]; exact (g8 j hj).1.ex x1 (by omega)
  · by_cases e : k = 20 + j
    · rw [show va_up B k F (20 + j) = F from if_pos e.symm, ← e]; exact n20 j hj e
    · rw [va_n (Ne.symm e)]; exact (g8 j hj).2.ex x1 (by omega)
  · by_cases e : k = 30 + j
    · rw [show va_up B k F (30 + j) = F from if_pos e.symm, ← e]; exact n30 j hj e
    · rw [va_n (Ne.symm e)]; exact (g9 j hj).ex x1 (by omega)
theorem fcx {ρ : Nat} (x : Ex (fun i => i = ρ) rl h rl1 h1) (hρ : ρ < 1000 ∨ 2000 ≤ ρ) : Ex CXp rl h rl1 h1 := x.mono (fun i z => by omega)
theorem FcM.fa (hM : FcM I B S) (x : Int32) : FcM (upd I 1 x) B (setFa S x) := ⟨hM.1, rfl, hM.2.2⟩
/-! calls that need no object -/
theorem le_c {x a b : Int32} (h : a.toInt + 1 = b.toInt) : ¬ b ≤ x ↔ x ≤ a := by
  rw [nle, Int32.lt_iff_toInt_lt, Int32.le_iff_toInt_le]
  omega
theorem k_isSheet {x : Int32} (hK : K (some (.int (bP (InR x 0 3)))) h) : Run l g d_X9_isSheet [.int x] h 0 0 K := by
  refine vc_X9_isSheet (fun G hG => ?_)
  refine hG 0 _ _ _ _ _ ?_
  refine b_cases (fun z => ?_) (fun z => ?_)
  · exact z0 (fun r => nlt.mpr r.1 z) hK
  · refine b_cases (fun y => ?_) (fun y => ?_)
    · exact z0 (fun r => (le_c (a := 3) (b := 4) (by decide)).mpr r.2 y) hK
    · exact z1 ⟨nlt.mp z, (le_c (a := 3) (b := 4) (by decide)).mp y⟩ hK
theorem k_isLane {x : Int32} (hK : K (some (.int (bP (InR x 0 2)))) h) : Run l g d_X9_isLane [.int x] h 0 0 K := by
  refine vc_X9_isLane (fun G hG => ?_)
  refine hG 0 _ _ _ _ _ ?_
  refine b_cases (fun z => ?_) (fun z => ?_)
  · exact z0 (fun r => nlt.mpr r.1 z) hK
  · refine b_cases (fun y => ?_) (fun y => ?_)
    · exact z0 (fun r => (le_c (a := 2) (b := 3) (by decide)).mpr r.2 y) hK
    · exact z1 ⟨nlt.mp z, (le_c (a := 2) (b := 3) (by decide)).mp y⟩ hK
theorem k_isSum {x : Int32} (hK : K (some (.int (bP (InR x 0 99)))) h) : Run l g d_X9_isSum [.int x] h 0 0 K := by
  refine vc_X9_isSum (fun G hG => ?_)
  refine hG 0 _ _ _ _ _ ?_
  refine b_cases (fun z => ?_) (fun z => ?_)
  · exact z0 (fun r => nlt.mpr r.1 z) hK
  · refine b_cases (fun y => ?_) (fun y => ?_)
    · exact z0 (fun r => nlt.mpr r.2 y) hK
    · exact z1 ⟨nlt.mp z, nlt.mp y⟩ hK
theorem k_isOfVillage {x : Int32} (hK : K (some (.int (bP (InR x 10 13)))) h) : Run l g d_X9_isOfVillage [.int x] h 0 0 K := by
  refine vc_X9_isOfVillage (fun G hG => ?_)
  refine hG 0 _ _ _ _ _ ?_
  refine b_cases (fun z => ?_) (fun z => ?_)
  · exact z0 (fun r => nlt.mpr r.1 z) hK
  · refine b_cases (fun y => ?_) (fun y => ?_)
    · exact z0 (fun r => (le_c (a := 13) (b := 14) (by decide)).mpr r.2 y) hK
    · exact z1 ⟨nlt.mp z, (le_c (a := 13) (b := 14) (by decide)).mp y⟩ hK
theorem k_isQuestion {x : Int32} (hK : K (some (.int (bP (Ask x)))) h) : Run l g d_X9_isQuestion [.int x] h 0 0 K := by
  refine vc_X9_isQuestion (fun G hG => ?_)
  have g1 : ¬ InR x 0 3 → G 1 h 0 0 [some (.int x)] [] := fun hn => by
    refine hG 1 _ _ _ _ _ ?_
    refine y_callS (k_isOfVillage ?_)
    refine b_Z (fun z => ?_) (fun z => ?_)
    · exact z0 (fun r => r.elim hn z) hK
    · exact z1 (Or.inr z) hK
  refine hG 0 _ _ _ _ _ ?_
  refine b_cases (fun z => ?_) (fun z => ?_)
  · exact g1 (fun r => nlt.mpr r.1 z)
  · refine b_cases (fun y => ?_) (fun y => ?_)
    · exact z1 (Or.inl ⟨nlt.mp z, y⟩) hK
    · exact g1 (fun r => y r.2)
theorem k_fallen {x : Int32} (hF : FcH g rl h a f I ca sv B) (hK : ∀ h1, FcH g rl h1 a f (upd I 1 x) ca sv B → Ex (fun i => i = 100) rl h rl h1 → K (some (.int (-10 - x))) h1) : Run l g d_X9_fallen [.ref a, .int x] h 0 0 K := by
  refine vc_X9_fallen (fun G hG => ?_)
  refine hG 0 _ _ _ _ _ ?_
  refine y_putI hF.1 (by decide) (Nat.le_of_ble_eq_true rfl) rfl (fun h1 e1 x1 => ?_)
  exact hK h1 (hF.ob (I2 := upd I 1 x) e1 x1 rfl) x1
/-! sheets -/
abbrev HasC (le : Nat) (i n : Int32) : Prop := ¬ i < 0 ∧ ¬ nI le < i ∧ ¬ n < 0 ∧ ¬ nI le - i < n
theorem k_hasCells {k : Nat} {i n : Int32} (hF : FcH g rl h a f I ca sv B) (hM : FcM I B S) (hk : k < 4) (hK : K (some (.int (bP (HasC (sLe S k) i n)))) h) : Run l g d_X5_hasCells [.ref (f (10 + k)), .int i, .int n] h 0 0 K := by
  have e2 := (hM.2.2.2.1 k hk).2.2.1
  refine vc_X5_hasCells (fun G hG => ?_)
  refine hG 0 _ _ _ _ _ ?_
  refine b_cases (fun z => ?_) (fun z => ?_)
  · exact z0 (fun r => r.1 z) hK
  refine y_get (hF.so hk) (by decide) rfl ?_
  rw [e2]
  refine b_cases (fun y => ?_) (fun y => ?_)
  · exact z0 (fun r => r.2.1 y) hK
  refine b_cases (fun x => ?_) (fun x => ?_)
  · exact z0 (fun r => r.2.2.1 x) hK
  refine y_get (hF.so hk) (by decide) rfl ?_
  rw [e2]
  refine b_cases (fun w => ?_) (fun w => ?_)
  · exact z0 (fun r => r.2.2.2 w) hK
  · exact z1 ⟨z, y, x, w⟩ hK
theorem k_faultOfTaking {k : Nat} {lane i n : Int32} (hF : FcH g rl h a f I ca sv B) (hM : FcM I B S) (hk : k < 4) (hK : K (some (.int (agst (sSo S k) (sLe S k) lane i n))) h) : Run l g d_X5_faultOfTaking [.ref (f (10 + k)), .int lane, .int i, .int n] h 0 0 K := by
  obtain ⟨m0, m1, m2, -⟩ := hM.2.2.2.1 k hk
  unfold agst at hK
  refine vc_X5_faultOfTaking (fun G hG => ?_)
  refine hG 0 _ _ _ _ _ ?_
  refine y_get (hF.so hk) (by decide) rfl ?_
  rw [m0]
  by_cases s9 : sSo S k = -9
  · rw [if_pos s9] at hK ⊢
    exact b_yes rfl hK
  rw [if_neg s9] at hK ⊢
  refine b_no (by decide) ?_
  refine y_get (hF.so hk) (by decide) rfl ?_
  rw [m1 s9]
  refine b_cases (fun z => ?_) (fun z => ?_)
  · have z : sSo S k = lane := z
    rw [if_pos z] at hK
    refine b_cases (fun y => ?_) (fun y => ?_)
    · rw [if_neg (nlt.mpr y)] at hK
      refine y_call1 (hF.so hk) (k_hasCells hF hM hk ?_)
      refine b_Z (fun w => ?_) (fun w => ?_)
      · rw [if_pos] at hK
        · exact hK
        · refine Classical.byContradiction fun q => w ⟨fun e => q (Or.inl e), fun e => q (Or.inr (Or.inl e)), nlt.mpr y, fun e => q (Or.inr (Or.inr e))⟩
      · rw [if_neg (fun r => r.elim w.1 (fun r => r.elim w.2.1 w.2.2.2))] at hK
        exact hK
    · rw [if_pos (nle.mp y)] at hK
      exact hK
  · have z : ¬ sSo S k = lane := z
    rw [if_neg z] at hK
    exact hK
end FACE

