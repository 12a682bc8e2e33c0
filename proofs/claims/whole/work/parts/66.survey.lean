/-! ===== the class surveys a land ===== -/
theorem lcmpP {y : Nat} (hy : y < 2 ^ 63) : lg_cmp (lN y) 0 ≤ 0 ↔ y = 0 := by
  constructor
  · intro h
    refine Classical.byContradiction fun h0 => ?_
    have e0 : (0 : Int64) = lN 0 := rfl
    have h1 : lN y > lN 0 := (pk_lLT (by omega) hy).mpr (by omega)
    rw [e0] at h
    unfold lg_cmp at h
    rw [if_pos h1] at h
    exact absurd h (by decide)
  · intro h
    subst h
    decide
theorem bit_and {x : Int32} {n : Nat} (hn : n < 32) : x &&& ((1 : Int32) <<< (nI n &&& 31)) = 0 ↔ bt x n = false := by
  constructor
  · intro h
    have := b_and x ((1 : Int32) <<< (nI n &&& 31)) n
    rw [h, b_0, b_one n hn n hn] at this
    simpa using this.symm
  · intro h
    refine b_ext (fun i hi => ?_)
    rw [b_and, b_one n hn i hi, b_0]
    by_cases e : i = n
    · subst e; simp [h]
    · simp [e]
abbrev XS (σ : Nat) : Nat → Prop := fun i => σ + 110 ≤ i ∧ i < σ + 120
/-- the survey's object: sd 0 strides, 1 counts, 3 ways, 4 sums, 5 sizes, 6 onward, 7 reached; its rows are as long as any land wants -/
def svF (sd : Nat → Nat) (vi pl : Int32) : List Value := [.ref (sd 0), .ref (sd 1), .ref (sd 3), .ref (sd 4), .ref (sd 5), .ref (sd 6), .ref (sd 7), .int vi, .int pl]
def SvB (g : Gm) (rl : Nat → Nat) (h : Hp) (σ s : Nat) (sd : Nat → Nat) (vi pl : Int32) (B : Nat → Nat → Int32) (W : Nat → Int64) (Re : Nat → Int32) : Prop := Ob rl h s (σ + 110) (.inr (6, svF sd vi pl)) ∧ Ia g rl h (sd 0) (σ + 111) 4 (B 0) ∧ Ja g rl h (sd 3) (σ + 113) 1296 W ∧ (∀ k, k = 4 ∨ k = 5 ∨ k = 6 → Ia g rl h (sd k) (σ + (110 + k)) 1296 (B k)) ∧ Za g rl h (sd 7) (σ + 117) 1296 Re
def SvH (g : Gm) (rl : Nat → Nat) (h : Hp) (σ s : Nat) (sd : Nat → Nat) (L : Ld) (B : Nat → Nat → Int32) (W : Nat → Int64) (Re : Nat → Int32) : Prop := Ob rl h s (σ + 110) (.inr (6, svF sd (nI (vn L)) (nI (pls L)))) ∧ Ia g rl h (sd 0) (σ + 111) 4 (B 0) ∧ Ja g rl h (sd 3) (σ + 113) 1296 W ∧ (∀ k, k = 4 ∨ k = 5 ∨ k = 6 → Ia g rl h (sd k) (σ + (110 + k)) 1296 (B k)) ∧ Za g rl h (sd 7) (σ + 117) 1296 Re ∧ ∀ v, v < vn L → B 0 v = nI (strd L v)
section SURVEY
variable {l : Launch} {g : Gm} {rl rl1 : Nat → Nat} {h h1 : Hp} {K : PT} {β σ a s : Nat} {ad sd : Nat → Nat} {th vi pl : Int32} {L : Ld} {A B : Nat → Nat → Int32} {W : Nat → Int64} {Re : Nat → Int32} {nd : NT}
theorem SvB.ex {X : Nat → Prop} (hV : SvB g rl h σ s sd vi pl B W Re) (hx : Ex X rl h rl1 h1) (hn : ∀ i, 110 ≤ i → i < 118 → ¬ X (σ + i)) : SvB g rl1 h1 σ s sd vi pl B W Re := ⟨hV.1.ex hx (hn _ (by omega) (by omega)), hV.2.1.ex hx (hn _ (by omega) (by omega)), hV.2.2.1.ex hx (hn _ (by omega) (by omega)), fun k hk => (hV.2.2.2.1 k hk).ex hx (hn _ (by omega) (by omega)), hV.2.2.2.2.ex hx (hn _ (by omega) (by omega))⟩
theorem SvB.ob {vi2 pl2 : Int32} (hV : SvB g rl h σ s sd vi pl B W Re) (e : Ob rl h1 s (σ + 110) (.inr (6, svF sd vi2 pl2))) (x1 : Ex (fun i => i = σ + 110) rl h rl h1) : SvB g rl h1 σ s sd vi2 pl2 B W Re := ⟨e, hV.2.1.ex x1 (by omega), hV.2.2.1.ex x1 (by omega), fun k hk => (hV.2.2.2.1 k hk).ex x1 (by omega), hV.2.2.2.2.ex x1 (by omega)⟩
theorem SvB.set0 {F : Nat → Int32} (hV : SvB g rl h σ s sd vi pl B W Re) (e : Ia g rl h1 (sd 0) (σ + 111) 4 F) (x1 : Ex (fun i => i = σ + 111) rl h rl h1) : SvB g rl h1 σ s sd vi pl (va_up B 0 F) W Re := ⟨hV.1.ex x1 (by omega), by rw [va_s]; exact e, hV.2.2.1.ex x1 (by omega), fun k hk => by rw [va_n (by omega)]; exact (hV.2.2.2.1 k hk).ex x1 (by omega), hV.2.2.2.2.ex x1 (by omega)⟩
theorem SvH.b (hV : SvH g rl h σ s sd L B W Re) : SvB g rl h σ s sd (nI (vn L)) (nI (pls L)) B W Re := ⟨hV.1, hV.2.1, hV.2.2.1, hV.2.2.2.1, hV.2.2.2.2.1⟩
theorem SvH.ex {X : Nat → Prop} (hV : SvH g rl h σ s sd L B W Re) (hx : Ex X rl h rl1 h1) (hn : ∀ i, 110 ≤ i → i < 118 → ¬ X (σ + i)) : SvH g rl1 h1 σ s sd L B W Re := ⟨hV.1.ex hx (hn _ (by omega) (by omega)), hV.2.1.ex hx (hn _ (by omega) (by omega)), hV.2.2.1.ex hx (hn _ (by omega) (by omega)), fun k hk => (hV.2.2.2.1 k hk).ex hx (hn _ (by omega) (by omega)), hV.2.2.2.2.1.ex hx (hn _ (by omega) (by omega)), hV.2.2.2.2.2⟩
theorem SvH.i4 (hV : SvH g rl h σ s sd L B W Re) : Ia g rl h (sd 4) (σ + 114) 1296 (B 4) := hV.2.2.2.1 4 (by omega)
theorem SvH.i5 (hV : SvH g rl h σ s sd L B W Re) : Ia g rl h (sd 5) (σ + 115) 1296 (B 5) := hV.2.2.2.1 5 (by omega)
theorem SvH.i6 (hV : SvH g rl h σ s sd L B W Re) : Ia g rl h (sd 6) (σ + 116) 1296 (B 6) := hV.2.2.2.1 6 (by omega)
theorem SvH.setB {F : Nat → Int32} (hV : SvH g rl h σ s sd L B W Re) (k : Nat) (hk : k = 4 ∨ k = 5 ∨ k = 6) (e : Ia g rl h1 (sd k) (σ + (110 + k)) 1296 F) (x1 : Ex (fun i => i = σ + (110 + k)) rl h rl h1) : SvH g rl h1 σ s sd L (va_up B k F) W Re := by
  refine ⟨hV.1.ex x1 (by omega), ?_, hV.2.2.1.ex x1 (by omega), fun j hj => ?_, hV.2.2.2.2.1.ex x1 (by omega), fun v hv => ?_⟩
  · rw [va_n (show 0 ≠ k by omega)]; exact hV.2.1.ex x1 (by omega)
  · by_cases e9 : j = k
    · subst e9; rw [va_s]; exact e
    · rw [va_n e9]; exact (hV.2.2.2.1 j hj).ex x1 (by omega)
  · rw [va_n (show 0 ≠ k by omega)]; exact hV.2.2.2.2.2 v hv
theorem SvH.setW {F : Nat → Int64} (hV : SvH g rl h σ s sd L B W Re) (e : Ja g rl h1 (sd 3) (σ + 113) 1296 F) (x1 : Ex (fun i => i = σ + 113) rl h rl h1) : SvH g rl h1 σ s sd L B F Re := ⟨hV.1.ex x1 (by omega), hV.2.1.ex x1 (by omega), e, fun j hj => (hV.2.2.2.1 j hj).ex x1 (by omega), hV.2.2.2.2.1.ex x1 (by omega), hV.2.2.2.2.2⟩
theorem SvH.setR {F : Nat → Int32} (hV : SvH g rl h σ s sd L B W Re) (e : Za g rl h1 (sd 7) (σ + 117) 1296 F) (x1 : Ex (fun i => i = σ + 117) rl h rl h1) : SvH g rl h1 σ s sd L B W F := ⟨hV.1.ex x1 (by omega), hV.2.1.ex x1 (by omega), hV.2.2.1.ex x1 (by omega), fun j hj => (hV.2.2.2.1 j hj).ex x1 (by omega), e, hV.2.2.2.2.2⟩
theorem c_goesOnward {p v : Nat} {x1 x2 : Int32} (hV : SvH g rl h σ s sd L B W Re) (hB : LdB L) (hp : p < pls L) (hv : v < vn L) (hK : K (some (.int (bP (bt (B 6 p) v = true ∧ p + strd L v < pls L)))) h) (e1 : x1 = nI p := by rfl) (e2 : x2 = nI v := by rfl) : Run l g d_X6_goesOnward [.ref s, .int x1, .int x2] h 0 0 K := by
  subst e1 e2
  have b1 := hB.1
  have b2 := pls_le hB (Nat.le_refl (vn L))
  have b3 := pls_le hB (n := v) (by omega)
  have b2 : pls L ≤ 1296 := b2
  have b3 : strd L v ≤ 1296 := b3
  refine vc_X6_goesOnward (fun G hG => ?_)
  refine hG 0 _ _ _ _ _ ?_
  refine y_get hV.1 (by decide) rfl ?_
  refine y_ia p hV.i6 (by omega) rfl ?_
  refine b_cases (fun z => ?_) (fun z => ?_)
  · have z := (bit_and (x := B 6 p) (n := v) (by omega)).mp z
    exact z0 (fun r => by rw [z] at r; cases r.1) hK
  · have z : bt (B 6 p) v = true := by
      cases e : bt (B 6 p) v with
      | true => rfl
      | false => exact absurd ((bit_and (x := B 6 p) (n := v) (by omega)).mpr e) z
    refine y_get hV.1 (by decide) rfl ?_
    refine y_ia v hV.2.1 (by omega) (hV.2.2.2.2.2 v hv) ?_
    refine y_get hV.1 (by decide) rfl ?_
    refine b_ge (p + strd L v) (pls L) (fun y => ?_) (fun y => ?_) (nI_add p (strd L v)) rfl
    · exact z0 (fun r => by have := r.2; omega) hK
    · exact z1 ⟨z, y⟩ hK
theorem c_passWays {p : Nat} {x : Int32} (hV : SvH g rl h σ s sd L B W Re) (hB : LdB L) (hp : p < pls L) (hW : ∀ q, p < q → q < pls L → W q = lN (Wq L nd p 0 q)) (hWp : W p = lN (Wn L nd okT (pcut L p))) (hO : B 6 p = ub (fun v => decide (Rdy L nd (pcut L p) v)) (vn L)) (hK : ∀ (h1 : Hp) (F : Nat → Int64), SvH g rl h1 σ s sd L B F Re → Ex (fun i => i = σ + 113) rl h rl h1 → (∀ q, q ≤ p → F q = W q) → (∀ q, p < q → q < pls L → F q = lN (Wq L nd (p + 1) 0 q)) → K none h1) (ex : x = nI p := by rfl) : Run l g d_X6_passWays [.ref s, .int x] h 0 0 K := by
  subst ex
  have b1 := hB.1
  have b2 : pls L ≤ 1296 := pls_le hB (Nat.le_refl (vn L))
  refine vc_X6_passWays (fun G hG => ?_)
  have loop : ∀ j v, v + j = vn L → ∀ (h1 : Hp) (F : Nat → Int64), SvH g rl h1 σ s sd L B F Re → Ex (fun i => i = σ + 113) rl h rl h1 → (∀ q, q ≤ p → F q = W q) → (∀ q, p < q → q < pls L → F q = lN (Wq L nd p v q)) → G 1 h1 0 0 [some (.ref s), some (.int (nI p)), some (.int (nI v))] [] := by
    intro j
    induction j with
    | zero =>
      intro v hv h1 F hV hx hF1 hF2
      refine hG 1 _ _ _ _ _ ?_
      refine y_get hV.1 (by decide) rfl ?_
      refine b_ge v (vn L) (fun _ => ?_) (fun _ => by omega)
      have ev : v = vn L := by omega
      refine hK h1 F hV hx hF1 (fun q h2 h3 => ?_)
      rw [hF2 q h2 h3, ev, wq_end]
    | succ j ih =>
      intro v hv h1 F hV hx hF1 hF2
      have hvn : v < vn L := by omega
      have b3 : strd L v ≤ 1296 := pls_le hB (n := v) (by omega)
      have hbit : bt (B 6 p) v = decide (Rdy L nd (pcut L p) v) := by
        rw [hO, bt_ub _ _ (by omega) v (by omega), decide_eq_true hvn, Bool.true_and]
      refine hG 1 _ _ _ _ _ ?_
      refine y_get hV.1 (by decide) rfl ?_
      refine b_ge v (vn L) (fun _ => by omega) (fun _ => ?_)
      refine y_call1 hV.1 (c_goesOnward hV hB hp hvn ?_)
      rw [hbit]
      refine b_Z (fun z => ?_) (fun z => ?_)
      · have hnr : ¬ Rdy L nd (pcut L p) v := fun r => z ⟨decide_eq_true r, (pl_up hp hvn r.1).1⟩
        have ih9 := ih (v + 1) (by omega) h1 F hV hx hF1 (fun q h2 h3 => ?_)
        rw [nI_succ v] at ih9
        exact ih9 
        rw [hF2 q h2 h3, wq_same h3 (fun r => absurd r hnr)]
      · have hr : Rdy L nd (pcut L p) v := of_decide_eq_true z.1
        have hlt := z.2
        have hs : 0 < strd L v := gst_pos (tn L) v
        refine y_get hV.1 (by decide) rfl ?_
        refine y_get hV.1 (by decide) rfl ?_
        refine y_ia v hV.2.1 (by omega) (hV.2.2.2.2.2 v hvn) ?_
        refine y_ja (p + strd L v) hV.2.2.1 (by omega) (hF2 _ (by omega) hlt) ?_ (nI_add p (strd L v))
        refine y_get hV.1 (by decide) rfl ?_
        refine y_ja p hV.2.2.1 (by omega) ((hF1 p (Nat.le_refl _)).trans hWp) ?_
        refine y_js (p + strd L v) hV.2.2.1 (by omega) (fun h2 e2 x2 => ?_) (nI_add p (strd L v))
        have hV2 := hV.setW e2 x2
        have ih9 := ih (v + 1) (by omega) h2 _ hV2 (hx.trs x2) (fun q h2 => ?_) (fun q h2 h3 => ?_)
        rw [nI_succ v] at ih9
        exact ih9 
        · rw [pk_uLn (by omega)]; exact hF1 q h2
        · by_cases e : q = p + strd L v
          · rw [e, pk_uLs, lN_add, wq_step hp hvn hr]
          · rw [pk_uLn e, hF2 q h2 h3, wq_same h3 (fun _ => e)]
  refine hG 0 _ _ _ _ _ ?_
  exact loop (vn L) 0 (by omega) h W hV Ex.rf (fun _ _ => rfl) hW
theorem turn_ok {p v : Nat} (hp : p < pls L) (hv : v < vn L) (h1 : ∀ w, w < v → pcut L p w = tn L w) (h2 : pcut L p v < tn L v) : p + 1 < pls L ∧ ∀ w, w < vn L → pcut L (p + 1) w = if w < v then 0 else if w = v then pcut L p v + 1 else pcut L p w := by
  have e9 : ∀ k, v + 1 + k ≤ vn L → gnum (tn L) (fun w => if w < v then 0 else if w = v then pcut L p v + 1 else pcut L p w) (v + 1 + k) = gnum (tn L) (pcut L p) (v + 1 + k) + 1 := by
    intro k
    induction k with
    | zero =>
      intro _
      show gnum _ _ (v + 1) = gnum _ _ (v + 1) + 1
      rw [gnum_s, gnum_s, if_neg (Nat.lt_irrefl v), if_pos rfl, Nat.succ_mul]
      have z1 : gnum (tn L) (fun w => if w < v then 0 else if w = v then pcut L p v + 1 else pcut L p w) v = 0 := sm_z (fun w hw => by dsimp only; rw [if_pos hw, Nat.zero_mul])
      have z2 : gnum (tn L) (pcut L p) v + 1 = gst (tn L) v := by rw [gnum_congr (d := tn L) (fun w hw => h1 w hw)]; exact gnum_full v
      rw [z1]
      omega
    | succ k ih =>
      intro hk
      show gnum _ _ (v + 1 + k + 1) = gnum _ _ (v + 1 + k + 1) + 1
      rw [gnum_s, gnum_s, ih (by omega), if_neg (by omega), if_neg (by omega)]
      omega
  have e := e9 (vn L - (v + 1)) (by omega)
  rw [show v + 1 + (vn L - (v + 1)) = vn L by omega, gnum_dig hp] at e
  have hc : ∀ w, w < vn L → (fun w => if w < v then 0 else if w = v then pcut L p v + 1 else pcut L p w) w ≤ tn L w := fun w hw => by
    dsimp only
    by_cases q1 : w < v
    · rw [if_pos q1]; exact Nat.zero_le _
    · rw [if_neg q1]
      by_cases q2 : w = v
      · rw [if_pos q2, q2]; exact h2
      · rw [if_neg q2]; exact gdig_le p w
  rw [← e]
  exact ⟨gnum_lt hc, fun w hw => gdig_num hc hw⟩
theorem turn_end {p : Nat} (hp : p < pls L) (h1 : ∀ w, w < vn L → pcut L p w = tn L w) : ¬ p + 1 < pls L := by
  have e1 := gnum_dig hp
  have e2 := gnum_full (r := tn L) (vn L)
  rw [gnum_congr (d := tn L) h1] at e1
  show ¬ p + 1 < gst (tn L) (vn L)
  omega
theorem c_turn {p : Nat} {C : Nat → Int32} (hσ : σ + 120 ≤ β) (hV : SvH g rl h σ s sd L B W Re) (hH : LnH g rl h β a ad th L A) (hm : LnM A L) (hB : LdB L) (hp : p < pls L) (hc : Ia g rl h (sd 1) (σ + 118) 4 C) (hC : ∀ v, v < vn L → C v = nI (pcut L p v)) (hK : ∀ (h1 : Hp) (F : Nat → Int32), Ia g rl h1 (sd 1) (σ + 118) 4 F → Ex (fun i => i = σ + 118) rl h rl h1 → (p + 1 < pls L → ∀ v, v < vn L → F v = nI (pcut L (p + 1) v)) → K none h1) : Run l g d_X6_turn [.ref s, .ref a] h 0 0 K := by
  have b1 := hB.1
  refine vc_X6_turn (fun G hG => ?_)
  have loop : ∀ j v, v + j = vn L → ∀ (h1 : Hp) (F : Nat → Int32), Ia g rl h1 (sd 1) (σ + 118) 4 F → Ex (fun i => i = σ + 118) rl h rl h1 → (∀ w, w < v → pcut L p w = tn L w ∧ F w = nI 0) → (∀ w, v ≤ w → w < vn L → F w = nI (pcut L p w)) → G 1 h1 0 0 [some (.ref s), some (.ref a), some (.int (nI v))] [] := by
    intro j
    induction j with
    | zero =>
      intro v hv h1 F hF hx f1 f2
      have hV := hV.ex hx (fun i h1 h2 => by omega)
      refine hG 1 _ _ _ _ _ ?_
      refine y_get hV.1 (by decide) rfl ?_
      refine b_ge v (vn L) (fun _ => ?_) (fun _ => by omega)
      exact hK h1 F hF hx (fun z => absurd z (turn_end hp (fun w hw => (f1 w (by omega)).1)))
    | succ j ih =>
      intro v hv h1 F hF hx f1 f2
      have hV := hV.ex hx (fun i h1 h2 => by omega)
      have hH := hH.ex hx b1 (fun i hi => by omega)
      have hvn : v < vn L := by omega
      have b5 := (hB.2 v hvn).2.1
      have hle : pcut L p v ≤ tn L v := gdig_le p v
      refine hG 1 _ _ _ _ _ ?_
      refine y_get hV.1 (by decide) rfl ?_
      refine b_ge v (vn L) (fun _ => by omega) (fun _ => ?_)
      refine y_get hV.1 (by decide) rfl ?_
      refine y_ia v hF (by omega) (f2 v (Nat.le_refl _) hvn) ?_
      refine y_get hH.1 (by decide) rfl ?_
      refine y_ra (v) hH.2.1 (by omega) (if_pos (hvn)) ?_
      refine y_get (hH.vo (hvn)) (cls_in _) rfl ?_
      rw [(hm v hvn).2.1]
      refine b_ge (pcut L p v) (tn L v) (fun z => ?_) (fun z => ?_)
      · refine y_get hV.1 (by decide) rfl ?_
        refine y_is v hF (by omega) (fun h2 e2 x2 => ?_)
        have ih9 := ih (v + 1) (by omega) h2 _ e2 (hx.trs x2) (fun w hw => ?_) (fun w hw hw2 => ?_)
        rw [nI_succ v] at ih9
        exact ih9 
        · by_cases e : w = v
          · rw [e, pk_us]; exact ⟨by omega, rfl⟩
          · rw [pk_un e]; exact f1 w (by omega)
        · rw [pk_un (by omega)]; exact f2 w (by omega) hw2
      · refine y_get hV.1 (by decide) rfl ?_
        refine y_ia v hF (by omega) (f2 v (Nat.le_refl _) hvn) ?_
        refine y_is v hF (by omega) (fun h2 e2 x2 => ?_)
        have ht := turn_ok hp hvn (fun w hw => (f1 w hw).1) z
        refine hK h2 _ e2 (hx.trs x2) (fun _ w hw => ?_)
        rw [ht.2 w hw]
        by_cases e : w = v
        · rw [e, pk_us, if_neg (Nat.lt_irrefl v), if_pos rfl, nI_succ]
        · rw [pk_un e]
          by_cases e2 : w < v
          · rw [if_pos e2]; exact (f1 w e2).2
          · rw [if_neg e2, if_neg e]; exact f2 w (by omega) hw
  refine hG 0 _ _ _ _ _ ?_
  exact loop (vn L) 0 (by omega) h C hc Ex.rf (fun w hw => absurd hw (Nat.not_lt_zero w)) (fun w _ hw => hC w hw)
theorem y_min {K : CT} {cb sb : Nat} {ls : LocS} {r : List Value} {x1 x2 : Int32} (x y : Nat) (hx : x < 2 ^ 31) (hy : y ≤ x) (k : K h cb sb ls (.int (nI y) :: r)) (e1 : x1 = nI x := by rfl) (e2 : x2 = nI y := by rfl) (hr : Nat.ble r.length 4 = true := by rfl) : Nat.ble r.length 4 = true ∧ K h cb sb ls (.int (if x2 < x1 then x2 else x1) :: r) := by
  subst e1 e2
  have e9 : (if nI y < nI x then nI y else nI x) = nI y := by
    by_cases c : nI y < nI x
    · rw [if_pos c]
    · rw [if_neg c]
      have h9 : x ≤ y := (pk_lt (A := True) (B := x ≤ y) y x (fun _ => trivial) (fun z => z) rfl rfl (by omega) (by omega)).2 c
      rw [show x = y by omega]
  rw [e9]
  exact ⟨hr, k⟩
theorem c_measure (hσ : σ + 120 ≤ β) (hV : SvB g rl h σ s sd vi pl B W Re) (hH : LnH g rl h β a ad th L A) (hm : LnM A L) (hB : LdB L) (hK : ∀ (h1 : Hp) (F : Nat → Int32), SvH g rl h1 σ s sd L (va_up B 0 F) W Re → Ex (fun i => i = σ + 110 ∨ i = σ + 111) rl h rl h1 → K none h1) : Run l g d_X6_measure [.ref s, .ref a] h 0 0 K := by
  have b1 := hB.1
  have si : ∀ i, (fun i => i = σ + 110 ∨ i = σ + 111) i → (fun i => i = σ + 110 ∨ i = σ + 111) i := fun i z => z
  have s0 : ∀ i, (fun i => i = σ + 110) i → (fun i => i = σ + 110 ∨ i = σ + 111) i := fun i z => Or.inl z
  have s1 : ∀ i, (fun i => i = σ + 111) i → (fun i => i = σ + 110 ∨ i = σ + 111) i := fun i z => Or.inr z
  refine vc_X6_measure (fun G hG => ?_)
  have loop : ∀ j v, v + j = vn L → ∀ (h1 : Hp) (F : Nat → Int32), SvB g rl h1 σ s sd (nI (vn L)) (nI (gst (tn L) v)) (va_up B 0 F) W Re → Ex (fun i => i = σ + 110 ∨ i = σ + 111) rl h rl h1 → (∀ w, w < v → F w = nI (strd L w)) → G 1 h1 0 0 [some (.ref s), some (.ref a), some (.int (nI v))] [] := by
    intro j
    induction j with
    | zero =>
      intro v hv h1 F hV hx hF
      have ev : v = vn L := by omega
      subst ev
      refine hG 1 _ _ _ _ _ ?_
      refine y_get hV.1 (by decide) rfl ?_
      refine b_ge (vn L) (vn L) (fun _ => ?_) (fun _ => by omega)
      exact hK h1 F ⟨hV.1, hV.2.1, hV.2.2.1, hV.2.2.2.1, hV.2.2.2.2, fun w hw => by rw [va_s]; exact hF w hw⟩ hx
    | succ j ih =>
      intro v hv h1 F hV hx hF
      have hvn : v < vn L := by omega
      have hH := hH.ex hx b1 (fun i hi => by omega)
      have b6 := pls_le hB (n := v + 1) (by omega)
      refine hG 1 _ _ _ _ _ ?_
      refine y_get hV.1 (by decide) rfl ?_
      refine b_ge v (vn L) (fun _ => by omega) (fun _ => ?_)
      refine y_get hV.1 (by decide) rfl ?_
      refine y_get hV.1 (by decide) rfl ?_
      have n0 := hV.2.1
      rw [va_s] at n0
      refine y_is v n0 (by omega) (fun h2 e2 x2 => ?_)
      have hV := hV.set0 e2 x2
      have hH := hH.ex x2 b1 (fun i hi => by omega)
      refine y_get hV.1 (by decide) rfl ?_
      refine y_get hH.1 (by decide) rfl ?_
      refine y_ra (v) hH.2.1 (by omega) (if_pos (hvn)) ?_
      refine y_get (hH.vo (hvn)) (cls_in _) rfl ?_
      rw [(hm v hvn).2.1]
      refine y_min 1296 (gst (tn L) (v + 1)) (by omega) b6 ?_ rfl (by rw [gst_s, ← pk_mul, nI_succ])
      refine y_putI hV.1 (by decide) (Nat.le_of_ble_eq_true rfl) rfl (fun h3 e3 x3 => ?_)
      have hV := hV.ob (vi2 := nI (vn L)) (pl2 := nI (gst (tn L) (v + 1))) e3 x3
      have eB : va_up (va_up B 0 F) 0 (upd F v (nI (gst (tn L) v))) = va_up B 0 (upd F v (nI (gst (tn L) v))) := by
        funext k
        by_cases e9 : k = 0
        · rw [e9, va_s, va_s]
        · rw [va_n e9, va_n e9, va_n e9]
      rw [eB] at hV
      have ih9 := ih (v + 1) (by omega) h3 _ hV ((hx.tr x2 si s1).tr x3 si s0) (fun w hw => ?_)
      rw [nI_succ v] at ih9
      exact ih9 
      by_cases e9 : w = v
      · rw [e9, pk_us]
      · rw [pk_un e9]; exact hF w (by omega)
  refine hG 0 _ _ _ _ _ ?_
  refine y_get hH.1 (by decide) rfl ?_
  refine y_putI hV.1 (by decide) (Nat.le_of_ble_eq_true rfl) rfl (fun h1 e1 x1 => ?_)
  have hV := hV.ob (vi2 := nI (vn L)) (pl2 := pl) e1 x1
  refine y_putI hV.1 (by decide) (Nat.le_of_ble_eq_true rfl) rfl (fun h2 e2 x2 => ?_)
  have hV := hV.ob (vi2 := nI (vn L)) (pl2 := nI (gst (tn L) 0)) e2 x2
  have eB : va_up B 0 (B 0) = B := by
    funext k
    by_cases e9 : k = 0
    · rw [e9, va_s]
    · rw [va_n e9]
  rw [← eB] at hV
  exact loop (vn L) 0 (by omega) h2 (B 0) hV ((x1.trs x2).mono s0) (fun w hw => absurd hw (Nat.not_lt_zero w))
theorem k_fill {b ρ n : Nat} {F : Nat → Int32} {x : Int32} (e : Ia g rl h b ρ n F) (hn : n ≤ 1000) (hK : ∀ h1, Ia g rl h1 b ρ n (fun _ => x) → Ex (fun i => i = ρ) rl h rl h1 → K none h1) : Run l g d_J7_fill_53178 [.ref b, .int x] h 0 0 K := by
  refine vc_J7_fill_53178 (fun G hG => ?_)
  have loop : ∀ j k, k + j = n → ∀ (h1 : Hp) (F1 : Nat → Int32), Ia g rl h1 b ρ n F1 → Ex (fun i => i = ρ) rl h rl h1 → (∀ i, i < k → F1 i = x) → G 1 h1 0 0 [some (.ref b), some (.int x), some (.int (nI k)), some (.int (nI n))] [] := by
    intro j
    induction j with
    | zero =>
      intro k hk h1 F1 e1 x1 hF
      refine hG 1 _ _ _ _ _ ?_
      refine b_ge k n (fun _ => ?_) (fun _ => by omega)
      exact hK h1 (e1.eq (fun i hi => hF i (by omega))) x1
    | succ j ih =>
      intro k hk h1 F1 e1 x1 hF
      refine hG 1 _ _ _ _ _ ?_
      refine b_ge k n (fun _ => by omega) (fun _ => ?_)
      refine y_is k e1 (by omega) (fun h2 e2 x2 => ?_)
      have ih9 := ih (k + 1) (by omega) h2 _ e2 (x1.trs x2) (fun i hi => ?_)
      rw [nI_succ k] at ih9
      exact ih9 
      by_cases e9 : i = k
      · rw [e9, pk_us]
      · rw [pk_un e9]; exact hF i (by omega)
  refine hG 0 _ _ _ _ _ ?_
  have hx := loop n 0 (by omega) h F e Ex.rf (fun i hi => absurd hi (Nat.not_lt_zero i))
  obtain ⟨⟨f9, e9, -⟩, -⟩ := e
  exact x_len e9 hx
/-- what the survey tells -/
def SvM (L : Ld) (nd : NT) (B : Nat → Nat → Int32) (W : Nat → Int64) (n : Nat) : Prop := ∀ p, p < n → W p = lN (Wn L nd okT (pcut L p)) ∧ (0 < Wn L nd okT (pcut L p) → B 4 p = nI (sumC L (pcut L p)) ∧ B 5 p = nI (cntC L (pcut L p)) ∧ B 6 p = ub (fun v => decide (Rdy L nd (pcut L p) v)) (vn L))
theorem ub_congr {p q : Nat → Bool} : ∀ {n : Nat}, (∀ k, k < n → p k = q k) → ub p n = ub q n
  | 0, _ => rfl
  | n + 1, h => by rw [ub_succ, ub_succ, ub_congr (n := n) (fun k hk => h k (by omega)), h n (by omega)]
theorem c_walk {C0 : Nat → Int32} (hσ : σ + 120 ≤ β) (hV : SvB g rl h σ s sd vi pl B W Re) (hb : Ia g rl h (sd 1) (σ + 118) 4 C0) (hH : LnH g rl h β a ad th L A) (hm : LnM A L) (hL : LdOk L) (hT : LtOk L) (hl : LnT A L) (hNd : Need L nd) (hK : ∀ (h1 : Hp) (B1 : Nat → Nat → Int32) (W1 : Nat → Int64) (C1 : Nat → Int32), SvH g rl h1 σ s sd L B1 W1 Re → Ia g rl h1 (sd 1) (σ + 118) 4 C1 → Ex (XS σ) rl h rl h1 → SvM L nd B1 W1 (pls L) → K none h1) : Run l g d_X6_walk [.ref s, .ref a] h 0 0 K := by
  have hB := hL.b
  have b1 := hL.1
  have b2 : pls L ≤ 1296 := pls_le hB (Nat.le_refl (vn L))
  have p0 : 0 < pls L := gst_pos (tn L) (vn L)
  have sx : ∀ k, 110 ≤ k → k < 120 → ∀ i, i = σ + k → XS σ i := fun k h1 h2 i z => ⟨by omega, by omega⟩
  have si : ∀ i, XS σ i → XS σ i := fun i z => z
  refine vc_X6_walk (fun G hG => ?_)
  have loop : ∀ j p, p + j = pls L → ∀ (h2 : Hp) (B2 : Nat → Nat → Int32) (W2 : Nat → Int64) (C : Nat → Int32), SvH g rl h2 σ s sd L B2 W2 Re → LnH g rl h2 β a ad th L A → Ia g rl h2 (sd 1) (σ + 118) 4 C → (p < pls L → ∀ v, v < vn L → C v = nI (pcut L p v)) → SvM L nd B2 W2 p → (∀ q, p ≤ q → q < pls L → W2 q = lN (Wq L nd p 0 q)) → Ex (XS σ) rl h rl h2 → G 1 h2 0 0 [some (.ref s), some (.ref a), some (.int (nI p))] [] := by
    intro j
    induction j with
    | zero =>
      intro p hp h2 B2 W2 C hV hH hb hC hM hW hx
      refine hG 1 _ _ _ _ _ ?_
      refine y_get hV.1 (by decide) rfl ?_
      refine b_ge p (pls L) (fun _ => ?_) (fun _ => by omega)
      rw [show p = pls L by omega] at hM
      exact hK h2 B2 W2 C hV hb hx hM
    | succ j ih =>
      intro p hp h2 B2 W2 C hV hH hb hC hM hW hx
      have hpl : p < pls L := by omega
      have hC := hC hpl
      have hWp : W2 p = lN (Wn L nd okT (pcut L p)) := by rw [hW p (Nat.le_refl _) hpl, wq_at hL hNd hpl]
      have bW : Wn L nd okT (pcut L p) < 2 ^ 63 := by have : Wn L nd okT (pcut L p) ≤ 95367431640625 := Wn_le b1; omega
      have hRw : RwC C L (pcut L p) := ⟨pl_cut p, hC⟩
      -- behind: the next place
      have g2 : ∀ (h3 : Hp) (B3 : Nat → Nat → Int32) (W3 : Nat → Int64), SvH g rl h3 σ s sd L B3 W3 Re → LnH g rl h3 β a ad th L A → Ia g rl h3 (sd 1) (σ + 118) 4 C → SvM L nd B3 W3 (p + 1) → (∀ q, p + 1 ≤ q → q < pls L → W3 q = lN (Wq L nd (p + 1) 0 q)) → Ex (XS σ) rl h rl h3 → G 2 h3 0 0 [some (.ref s), some (.ref a), some (.int (nI p))] [] := by
        intro h3 B3 W3 hV hH hb hM hW hx
        refine hG 2 _ _ _ _ _ ?_
        refine y_call1 hV.1 (c_turn hσ hV hH hm hB hpl hb hC (fun h4 F4 e4 x4 hF4 => ?_))
        have ih9 := ih (p + 1) (by omega) h4 B3 W3 F4 (hV.ex x4 (fun i h1 h2 => by omega)) (hH.ex x4 b1 (fun i hi => by omega)) e4 hF4 hM hW (hx.tr x4 si (sx 118 (by omega) (by omega)))
        rw [nI_succ p] at ih9
        exact ih9 
      have smS : ∀ (B3 : Nat → Nat → Int32) (W3 : Nat → Int64), SvM L nd B2 W2 p → (∀ q, q < p → W3 q = W2 q) → (∀ k q, k = 4 ∨ k = 5 ∨ k = 6 → q < p → B3 k q = B2 k q) → W3 p = lN (Wn L nd okT (pcut L p)) → (0 < Wn L nd okT (pcut L p) → B3 4 p = nI (sumC L (pcut L p)) ∧ B3 5 p = nI (cntC L (pcut L p)) ∧ B3 6 p = ub (fun v => decide (Rdy L nd (pcut L p) v)) (vn L)) → SvM L nd B3 W3 (p + 1) := fun B3 W3 hM e1 e2 e3 e4 q hq => by
        by_cases e : q = p
        · rw [e]; exact ⟨e3, e4⟩
        · have hq : q < p := by omega
          rw [e1 q hq, e2 4 q (by omega) hq, e2 5 q (by omega) hq, e2 6 q (by omega) hq]
          exact hM q hq
      refine hG 1 _ _ _ _ _ ?_
      refine y_get hV.1 (by decide) rfl ?_
      refine b_ge p (pls L) (fun _ => by omega) (fun _ => ?_)
      refine y_get hV.1 (by decide) rfl ?_
      refine y_ja p hV.2.2.1 (by omega) hWp ?_
      refine b_cases (fun z => ?_) (fun z => ?_)
      · have z : Wn L nd okT (pcut L p) = 0 := (lcmpP bW).mp z
        refine g2 h2 B2 W2 hV hH hb (smS B2 W2 hM (fun _ _ => rfl) (fun _ _ _ _ => rfl) hWp (fun h0 => by omega)) (fun q h3 h4 => ?_) hx
        rw [hW q (by omega) h4, ← wq_end]
        -- no way over p
        have : ∀ v, Wq L nd p v q = Wq L nd p 0 q := by
          intro v
          unfold Wq
          congr 1
          refine sm_congr _ (fun w hw => ?_)
          by_cases e : q - strd L w = p
          · have e0 : ∀ c : Prop, ∀ [Decidable c], (if c then Wn L nd okT (pcut L (q - strd L w)) else 0) = 0 := fun c _ => by
              rw [e, z]
              split <;> rfl
            rw [e0, e0]
          · have e9 : (0 < pcut L q w ∧ (q - strd L w < p ∨ (q - strd L w = p ∧ w < v))) ↔ (0 < pcut L q w ∧ (q - strd L w < p ∨ (q - strd L w = p ∧ w < 0))) := and_congr_right (fun _ => by omega)
            by_cases h3 : (0 < pcut L q w ∧ (q - strd L w < p ∨ (q - strd L w = p ∧ w < 0))) ∧ Rdy L nd (pcut L (q - strd L w)) w
            · rw [if_pos h3, if_pos ⟨e9.mpr h3.1, h3.2⟩]
            · rw [if_neg h3, if_neg (fun z => h3 ⟨e9.mp z.1, z.2⟩)]
        rw [this (vn L)]
      · have z : 0 < Wn L nd okT (pcut L p) := by
          rcases Nat.eq_zero_or_pos (Wn L nd okT (pcut L p)) with y | y
          · exact absurd ((lcmpP bW).mpr y) z
          · exact y
        have hcb := (wn_iff hL hNd (pl_cut p)).mp z
        refine y_get hV.1 (by decide) rfl ?_
        refine y_get hV.1 (by decide) rfl ?_
        refine y_call1 hH.1 (c_sumOf hH hm hB hb hRw ?_)
        refine y_is p hV.i4 (by omega) (fun h3 e3 x3 => ?_)
        have hV := hV.setB 4 (by omega) e3 x3
        have hH := hH.ex x3 b1 (fun i hi => by omega)
        have hb := hb.ex x3 (by omega)
        refine y_get hV.1 (by decide) rfl ?_
        refine y_get hV.1 (by decide) rfl ?_
        refine y_call1 hH.1 (c_thingsIn hH hB hb hRw ?_)
        refine y_is p hV.i5 (by omega) (fun h4 e4 x4 => ?_)
        have hV := hV.setB 5 (by omega) e4 x4
        have hH := hH.ex x4 b1 (fun i hi => by omega)
        have hb := hb.ex x4 (by omega)
        refine y_get hV.1 (by decide) rfl ?_
        refine y_get hV.1 (by decide) rfl ?_
        refine y_call1 hH.1 (c_thatGoOn hH hm hB hT hl hb hRw ?_)
        refine y_is p hV.i6 (by omega) (fun h5 e5 x5 => ?_)
        have hV := hV.setB 6 (by omega) e5 x5
        have hH := hH.ex x5 b1 (fun i hi => by omega)
        have hb := hb.ex x5 (by omega)
        have eO : ub (fun v => decide (GoR L (pcut L p) v)) (vn L) = ub (fun v => decide (Rdy L nd (pcut L p) v)) (vn L) := ub_congr (fun v hv => by
          have := go_rdy hL hT hNd (pl_cut p) hcb hv
          by_cases e : GoR L (pcut L p) v
          · rw [decide_eq_true e, decide_eq_true (this.mp e)]
          · rw [decide_eq_false e, decide_eq_false (fun w => e (this.mpr w))])
        refine y_call1 hV.1 (c_passWays (nd := nd) hV hB hpl (fun q h6 h7 => hW q (by omega) h7) hWp (by rw [va_s, pk_us]; exact eO) (fun h6 F6 hV6 x6 f1 f2 => ?_))
        have hx6 : Ex (XS σ) rl h rl h6 := (((hx.tr x3 si (sx 114 (by omega) (by omega))).tr x4 si (sx 115 (by omega) (by omega))).tr x5 si (sx 116 (by omega) (by omega))).tr x6 si (sx 113 (by omega) (by omega))
        refine g2 h6 _ F6 hV6 (hH.ex x6 b1 (fun i hi => by omega)) (hb.ex x6 (by omega)) (smS _ F6 hM (fun q hq => f1 q (by omega)) (fun k q hk hq => ?_) ((f1 p (Nat.le_refl _)).trans hWp) (fun _ => ⟨?_, ?_, ?_⟩)) (fun q h7 h8 => f2 q (by omega) h8) hx6
        · rcases hk with rfl | rfl | rfl
          · exact pk_un (by omega)
          · exact pk_un (by omega)
          · exact pk_un (by omega)
        · exact pk_us ..
        · exact pk_us ..
        · exact (pk_us ..).trans eO
  refine hG 0 _ _ _ _ _ ?_
  refine y_call1 hV.1 (c_measure hσ hV hH hm hB (fun h1 F1 hV x1 => ?_))
  have hH := hH.ex x1 b1 (fun i hi => by omega)
  have hb := hb.ex x1 (by omega)
  have hx : Ex (XS σ) rl h rl h1 := x1.mono (fun i z => ⟨by omega, by omega⟩)
  refine y_get hV.1 (by decide) rfl ?_
  refine y_callS (k_fillL hV.2.2.1 (by omega) (fun h2 e2 x2 => ?_))
  have hV := hV.setW e2 x2
  have hH := hH.ex x2 b1 (fun i hi => by omega)
  have hb := hb.ex x2 (by omega)
  have hx := hx.tr x2 si (sx 113 (by omega) (by omega))
  refine y_get hV.1 (by decide) rfl ?_
  refine y_callS (k_fill hb (by omega) (fun h3 hb x3 => ?_))
  have hV := hV.ex x3 (fun i h1 h2 => by omega)
  have hH := hH.ex x3 b1 (fun i hi => by omega)
  have hx := hx.tr x3 si (sx 118 (by omega) (by omega))
  refine y_get hV.1 (by decide) rfl ?_
  refine y_js 0 hV.2.2.1 (by omega) (fun h4 e4 x4 => ?_)
  have hV := hV.setW e4 x4
  refine loop (pls L) 0 (by omega) h4 _ _ (fun _ => 0) hV (hH.ex x4 b1 (fun i hi => by omega)) (hb.ex x4 (by omega)) (fun _ v _ => by rw [pl_0]; rfl) (fun p hp => absurd hp (Nat.not_lt_zero p)) (fun q _ hq => ?_) (hx.tr x4 si (sx 113 (by omega) (by omega)))
  rw [wq_0]
  by_cases e : q = 0
  · rw [e, pk_uLs, if_pos rfl]; rfl
  · rw [pk_uLn e, if_neg e]; rfl
end SURVEY

