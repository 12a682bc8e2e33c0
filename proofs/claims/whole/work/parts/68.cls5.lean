/-! ===== letters that are sent; going around ===== -/
theorem sm_single {f : Nat → Nat} {v n : Nat} (h : ∀ w, w < n → w ≠ v → f w = 0) (hv : v < n) : sm f n = f v := by
  have := sm_one (f := fun _ => 0) (f' := f) (v := v) (n := n) (fun w hw hne => h w hw hne) hv
  have z : sm (fun _ => 0) n = 0 := sm_z (fun _ _ => rfl)
  omega
theorem sm_add {f k : Nat → Nat} : ∀ n, sm (fun v => f v + k v) n = sm f n + sm k n
  | 0 => rfl
  | n + 1 => by rw [sm_succ, sm_succ, sm_succ, sm_add n]; omega
theorem sm_swap {F : Nat → Nat → Nat} : ∀ (m n : Nat), sm (fun v => sm (fun k => F v k) n) m = sm (fun k => sm (fun v => F v k) m) n
  | 0, n => (sm_z (fun _ _ => rfl)).symm
  | m + 1, n => by
    rw [sm_succ, sm_swap m n]
    have : sm (fun k => sm (fun v => F v k) (m + 1)) n = sm (fun k => sm (fun v => F v k) m + F m k) n := rfl
    rw [this, sm_add]
theorem cntB_sm (p : Nat → Bool) : ∀ n, cntB p n = sm (fun k => if p k = true then 1 else 0) n
  | 0 => rfl
  | n + 1 => by rw [cntB_succ, sm_succ, cntB_sm p n]
section CL5
variable {l : Launch} {g : Gm} {rl rl1 : Nat → Nat} {h h1 : Hp} {K : PT} {β σ a s : Nat} {ad sd : Nat → Nat} {th : Int32} {L : Ld} {A B : Nat → Nat → Int32} {W : Nat → Int64} {Re : Nat → Int32} {nd : NT}
theorem sent_eq (hB : LdB L) (hT : LtOk L) {q : Nat → Bool} (hq : ∀ k, k < 8 → (q k = true ↔ ∃ v t, Mt L 1 k v t)) : cntB q 8 = sm (fun v => sm (fun t => if wh L v t = 1 then 1 else 0) (tn L v)) (vn L) := by
  have e1 : sm (fun v => sm (fun t => if wh L v t = 1 then 1 else 0) (tn L v)) (vn L) = sm (fun v => sm (fun t => sm (fun k => if wh L v t = 1 ∧ dg L v t = k then 1 else 0) 8) (tn L v)) (vn L) := by
    refine sm_congr _ (fun v hv => sm_congr _ (fun t ht => ?_))
    obtain ⟨-, -, l3⟩ := (hB.2 v hv).2.2 t ht
    by_cases e : wh L v t = 1
    · rw [if_pos e, sm_single (v := dg L v t) (fun w _ hne => if_neg (fun z => hne z.2.symm)) (by have := l3 (by omega); omega), if_pos ⟨e, rfl⟩]
    · rw [if_neg e, sm_z (fun w _ => if_neg (fun z => e z.1))]
  have e2 : sm (fun v => sm (fun t => sm (fun k => if wh L v t = 1 ∧ dg L v t = k then 1 else 0) 8) (tn L v)) (vn L) = sm (fun k => sm (fun v => sm (fun t => if wh L v t = 1 ∧ dg L v t = k then 1 else 0) (tn L v)) (vn L)) 8 := by
    rw [← sm_swap]
    exact sm_congr _ (fun v hv => sm_swap _ _)
  rw [e1, e2, cntB_sm]
  refine sm_congr _ (fun k hk => ?_)
  by_cases e : q k = true
  · rw [if_pos e]
    obtain ⟨v0, t0, m0⟩ := (hq k hk).mp e
    have hun : ∀ v t, v < vn L → t < tn L v → wh L v t = 1 ∧ dg L v t = k → v = v0 ∧ t = t0 := fun v t hv ht z => hT.1 v t v0 t0 hv ht m0.1 m0.2.1 (by rw [z.1]; decide) (by rw [z.1, m0.2.2.1]) (by rw [z.2, m0.2.2.2])
    rw [sm_single (v := v0) (fun w hw hne => sm_z (fun t ht => if_neg (fun z => hne (hun w t hw ht z).1))) m0.1, sm_single (v := t0) (fun t ht hne => if_neg (fun z => hne (hun v0 t m0.1 ht z).2)) m0.2.1, if_pos m0.2.2]
  · rw [if_neg e, sm_z]
    intro v hv
    refine sm_z (fun t ht => if_neg (fun z => e ((hq k hk).mpr ⟨v, t, hv, ht, z.1, z.2⟩)))
theorem c_lettersSent (hH : LnH g rl h β a ad th L A) (hB : LdB L) (hT : LtOk L) (hl : LnT A L) (hK : K (some (.int (nI (sm (fun v => sm (fun t => if wh L v t = 1 then 1 else 0) (tn L v)) (vn L))))) h) : Run l g d_X2_lettersSent [.ref a] h 0 0 K := by
  have b9 := things_le hB
  have hex : ∀ k, k < 8 → ∃ x : Nat, A (10 + k) 0 = nI x ∧ x ≤ 20 ∧ (0 < x ↔ ∃ v t, Mt L 1 k v t) := fun k hk => by
    obtain ⟨s, hs, s0, s3, s1, s4, s2, s5, l1, l2⟩ := hl k hk
    refine ⟨s 0, hs 0 (by omega), by omega, ?_⟩
    rcases l1 with ⟨e, n⟩ | ⟨e, m1, -⟩ | ⟨-, tt⟩
    · exact ⟨fun z => by omega, fun ⟨v, t, z⟩ => absurd z (n v t)⟩
    · exact ⟨fun _ => ⟨_, _, m1⟩, fun _ => by omega⟩
    · exact absurd tt (ltok_noT hT (by decide))
  let q : Nat → Bool := fun k => @decide (∃ v t, Mt L 1 k v t) (Classical.propDecidable _)
  have hq : ∀ k, k < 8 → (q k = true ↔ ∃ v t, Mt L 1 k v t) := fun k _ => @decide_eq_true_iff _ (Classical.propDecidable _)
  rw [← sent_eq hB hT hq] at hK
  clear_value q
  refine vc_X2_lettersSent (fun G hG => ?_)
  have loop : ∀ j k, k + j = 8 → G 1 h 0 0 [some (.ref a), some (.int (nI (cntB q k))), some (.int (nI k))] [] := by
    intro j
    induction j with
    | zero =>
      intro k hk
      refine hG 1 _ _ _ _ _ ?_
      refine b_ge k 8 (fun _ => ?_) (fun _ => by omega)
      rw [show k = 8 by omega]
      exact hK
    | succ j ih =>
      intro k hk
      have hk8 : k < 8 := by omega
      obtain ⟨x, x1, x2, x3⟩ := hex k hk8
      have ih9 := ih (k + 1) (by omega)
      rw [nI_succ k, cntB_succ] at ih9
      refine hG 1 _ _ _ _ _ ?_
      refine b_ge k 8 (fun _ => by omega) (fun _ => ?_)
      refine y_get hH.1 (by decide) rfl ?_
      refine y_ra k hH.2.2.1 (by omega) rfl ?_
      refine y_get (hH.lt hk8) (by decide) rfl ?_
      rw [x1]
      refine pk_le x 0 (fun z => ?_) (fun z => ?_)
      · rw [if_neg (fun e => by have := x3.mpr ((hq k hk8).mp e); omega)] at ih9
        exact ih9
      · rw [if_pos ((hq k hk8).mpr (x3.mp (by omega))), nI_succ] at ih9
        exact ih9
  refine hG 0 _ _ _ _ _ ?_
  exact loop 8 0 (by omega)
/-- come to q around a sum, over places below p, or over p by a village below v -/
def Rw (L : Ld) (nd : NT) (x p v q : Nat) : Prop := okN L x (pcut L q) = true ∧ (q = 0 ∨ ∃ w, w < vn L ∧ 0 < pcut L q w ∧ (q - strd L w < p ∨ (q - strd L w = p ∧ w < v)) ∧ Rdy L nd (pcut L (q - strd L w)) w ∧ 0 < Wn L nd (okN L x) (pcut L (q - strd L w)))
theorem okN_x (x : Nat) : okExt L (okN L x) := fun c d e => by unfold okN; rw [sumC_congr e]
theorem rw_end {x p q : Nat} : Rw L nd x p (vn L) q ↔ Rw L nd x (p + 1) 0 q := by
  unfold Rw
  refine and_congr_right (fun _ => or_congr Iff.rfl ?_)
  constructor
  · rintro ⟨w, h1, h2, h3, h4⟩; exact ⟨w, h1, h2, by omega, h4⟩
  · rintro ⟨w, h1, h2, h3, h4⟩; exact ⟨w, h1, h2, by omega, h4⟩
theorem sm_pos {f : Nat → Nat} : ∀ {n : Nat}, 0 < sm f n ↔ ∃ w, w < n ∧ 0 < f w
  | 0 => ⟨fun z => absurd z (Nat.lt_irrefl 0), fun ⟨w, hw, _⟩ => absurd hw (Nat.not_lt_zero w)⟩
  | n + 1 => by
    rw [sm_succ]
    constructor
    · intro z
      by_cases e : 0 < f n
      · exact ⟨n, by omega, e⟩
      · obtain ⟨w, hw, h2⟩ := (sm_pos (f := f) (n := n)).mp (by omega)
        exact ⟨w, by omega, h2⟩
    · rintro ⟨w, hw, h2⟩
      by_cases e : w = n
      · subst e; omega
      · have := (sm_pos (f := f) (n := n)).mpr ⟨w, by omega, h2⟩; omega
theorem rw_at (hL : LdOk L) (hN : Need L nd) {x p q : Nat} (hq : q < pls L) (hp : q ≤ p) : Rw L nd x p 0 q ↔ 0 < Wn L nd (okN L x) (pcut L q) := by
  rw [wn_fwd hL hN (pl_cut q)]
  unfold Rw
  by_cases ho : okN L x (pcut L q) = true
  · rw [if_pos ho]
    refine ⟨fun z => ?_, fun z => ⟨ho, ?_⟩⟩
    · rcases z.2 with z | ⟨w, h1, h2, h3, h4, h5⟩
      · rw [if_pos ((pl_c0 hq).mpr z)]; omega
      · obtain ⟨d1, d2⟩ := pl_dn hq h1 h2
        have := (sm_pos (n := vn L) (f := fun v => if 0 < pcut L q v ∧ Rdy L nd (updN (pcut L q) v (pcut L q v - 1)) v then Wn L nd (okN L x) (updN (pcut L q) v (pcut L q v - 1)) else 0)).mpr ⟨w, h1, by
          rw [if_pos ⟨h2, (rdy_congr d2 h1).mp h4⟩, ← wn_congr (okN_x x) d2]
          exact h5⟩
        omega
    · by_cases e : q = 0
      · exact Or.inl e
      · rw [if_neg (fun w => e ((pl_c0 hq).mp w))] at z
        obtain ⟨w, h1, h2⟩ := (sm_pos (n := vn L) (f := fun v => if 0 < pcut L q v ∧ Rdy L nd (updN (pcut L q) v (pcut L q v - 1)) v then Wn L nd (okN L x) (updN (pcut L q) v (pcut L q v - 1)) else 0)).mp (by omega)
        by_cases h3 : 0 < pcut L q w ∧ Rdy L nd (updN (pcut L q) w (pcut L q w - 1)) w
        · rw [if_pos h3] at h2
          obtain ⟨d1, d2⟩ := pl_dn hq h1 h3.1
          have hs : 0 < strd L w := gst_pos (tn L) w
          exact Or.inr ⟨w, h1, h3.1, Or.inl (by omega), (rdy_congr d2 h1).mpr h3.2, by rw [wn_congr (okN_x x) d2]; exact h2⟩
        · rw [if_neg h3] at h2; omega
  · rw [if_neg ho]
    exact ⟨fun z => absurd z.1 ho, fun z => absurd z (Nat.lt_irrefl 0)⟩
theorem rw_same {x p v q : Nat} (hq : q < pls L) (h : Rdy L nd (pcut L p) v → 0 < Wn L nd (okN L x) (pcut L p) → q ≠ p + strd L v) : Rw L nd x p (v + 1) q ↔ Rw L nd x p v q := by
  unfold Rw
  refine and_congr_right (fun _ => or_congr Iff.rfl ?_)
  constructor
  · rintro ⟨w, h1, h2, h3, h4, h5⟩
    refine ⟨w, h1, h2, ?_, h4, h5⟩
    by_cases e : q - strd L w = p ∧ w = v
    · exfalso
      obtain ⟨e1, rfl⟩ := e
      obtain ⟨d1, -⟩ := pl_dn hq h1 h2
      rw [e1] at h4 h5
      exact h h4 h5 (by omega)
    · omega
  · rintro ⟨w, h1, h2, h3, h4⟩; exact ⟨w, h1, h2, by omega, h4⟩
theorem rw_new {x p v : Nat} (hp : p < pls L) (hv : v < vn L) (hr : Rdy L nd (pcut L p) v) (hw : 0 < Wn L nd (okN L x) (pcut L p)) : Rw L nd x p (v + 1) (p + strd L v) ↔ (Rw L nd x p v (p + strd L v) ∨ okN L x (pcut L (p + strd L v)) = true) := by
  obtain ⟨u1, u2⟩ := pl_up hp hv hr.1
  constructor
  · intro z; exact Or.inr z.1
  · intro z
    refine ⟨z.elim (fun z => z.1) id, Or.inr ⟨v, hv, ?_, Or.inr ⟨by omega, by omega⟩, ?_, ?_⟩⟩
    · rw [u2 v hv, updN_s]; omega
    · rw [show p + strd L v - strd L v = p by omega]; exact hr
    · rw [show p + strd L v - strd L v = p by omega]; exact hw
/-- a row of truth values -/
def ReI (Re : Nat → Int32) (n : Nat) (P : Nat → Prop) : Prop := ∀ q, q < n → (Re q = 0 ∨ Re q = 1) ∧ (Re q = 1 ↔ P q)
theorem c_passAround {x1 x2 : Int32} {v p : Nat} (hV : SvH g rl h σ s sd L B W Re) (hM : SvM L nd B W (pls L)) (hL : LdOk L) (hNd : Need L nd) (hv : v ≤ 99) (hpl : p < pls L) (hWp : 0 < Wn L nd (okN L v) (pcut L p)) (hR : ReI Re (pls L) (Rw L nd v p 0)) (hK : ∀ (h1 : Hp) (Re1 : Nat → Int32), SvH g rl h1 σ s sd L B W Re1 → Ex (fun i => i = σ + 117) rl h rl h1 → ReI Re1 (pls L) (Rw L nd v (p + 1) 0) → K none h1) (e1 : x1 = nI p := by rfl) (e2 : x2 = nI v := by rfl) : Run l g d_X6_passAround [.ref s, .int x1, .int x2] h 0 0 K := by
  subst e1 e2
  have hB := hL.b
  have b1 := hL.1
  have b2 : pls L ≤ 1296 := pls_le hB (Nat.le_refl (vn L))
  have sx : ∀ i, (fun i => i = σ + 117) i → (fun i => i = σ + 117) i := fun i z => z
  have okn : ∀ p, okN L v (pcut L p) = true ↔ ¬ sumC L (pcut L p) = v := fun p => by unfold okN; rw [decide_eq_true_eq]
  have hcb := (wn_ok (cut20 hL (pl_cut p)) hWp).1
  have hWt := (wn_iff hL hNd (pl_cut p)).mpr hcb
  refine vc_X6_passAround (fun G hG => ?_)
  have inner : ∀ i w, w + i = vn L → ∀ (h1 : Hp) (R1 : Nat → Int32), SvH g rl h1 σ s sd L B W R1 → Ex (fun i => i = σ + 117) rl h rl h1 → ReI R1 (pls L) (Rw L nd v p w) → G 1 h1 0 0 [some (.ref s), some (.int (nI p)), some (.int (nI v)), some (.int (nI w))] [] := by
    intro i
    induction i with
    | zero =>
      intro w hw h1 R1 hV hx hR
      refine hG 1 _ _ _ _ _ ?_
      refine y_get hV.1 (by decide) rfl ?_
      refine b_ge w (vn L) (fun _ => ?_) (fun _ => by omega)
      refine hK h1 R1 hV hx (fun q hq => ?_)
      obtain ⟨r1, r2⟩ := hR q hq
      refine ⟨r1, ?_⟩
      rw [r2, show w = vn L by omega, rw_end]
    | succ i ih =>
      intro w hw h1 R1 hV hx hR
      have hwn : w < vn L := by omega
      have b3 : strd L w ≤ 1296 := pls_le hB (n := w) (by omega)
      have stay : (∀ q, q < pls L → (Rw L nd v p (w + 1) q ↔ Rw L nd v p w q)) → G 1 h1 0 0 [some (.ref s), some (.int (nI p)), some (.int (nI v)), some (.int (nI w + 1))] [] := fun hno => by
        have ih9 := ih (w + 1) (by omega) h1 R1 hV hx (fun q hq => ?_)
        rw [nI_succ w] at ih9
        exact ih9 
        obtain ⟨q1, q2⟩ := hR q hq
        exact ⟨q1, by rw [q2, hno q hq]⟩
      have hbit : bt (B 6 p) w = decide (Rdy L nd (pcut L p) w) := by
        rw [((hM p hpl).2 hWt).2.2, bt_ub _ _ (by omega) w (by omega), decide_eq_true hwn, Bool.true_and]
      refine hG 1 _ _ _ _ _ ?_
      refine y_get hV.1 (by decide) rfl ?_
      refine b_ge w (vn L) (fun _ => by omega) (fun _ => ?_)
      refine y_call1 hV.1 (c_goesOnward hV hB hpl hwn ?_)
      rw [hbit]
      refine b_Z (fun z => ?_) (fun z => ?_)
      · exact stay (fun q hq => rw_same hq (fun r _ => absurd ⟨decide_eq_true r, (pl_up hpl hwn r.1).1⟩ z))
      · have hr : Rdy L nd (pcut L p) w := of_decide_eq_true z.1
        have hlt := z.2
        obtain ⟨u1, u2⟩ := pl_up hpl hwn hr.1
        have hcb2 : Cbe L nd (pcut L (p + strd L w)) := (cbe_cg u2).mpr (cbe_up hcb hr)
        have hWt2 := (wn_iff hL hNd (pl_cut _)).mpr hcb2
        have hsum := ((hM _ hlt).2 hWt2).1
        have bS := sumC_le hL (pl_cut (L := L) (p + strd L w))
        have hnew := rw_new hpl hwn hr hWp
        refine y_get hV.1 (by decide) rfl ?_
        refine y_get hV.1 (by decide) rfl ?_
        refine y_ia w hV.2.1 (by omega) (hV.2.2.2.2.2 w hwn) ?_
        refine y_ia (p + strd L w) hV.i4 (by omega) hsum ?_ (nI_add p (strd L w))
        refine pk_eq (sumC L (pcut L (p + strd L w))) v (fun w1 => ?_) (fun w1 => ?_)
        · refine stay (fun q hq => ?_)
          by_cases e9 : q = p + strd L w
          · rw [e9]
            exact ⟨fun y => absurd w1 ((okn _).mp y.1), fun y => absurd w1 ((okn _).mp y.1)⟩
          · exact rw_same hq (fun _ _ => e9)
        · refine y_get hV.1 (by decide) rfl ?_
          refine y_get hV.1 (by decide) rfl ?_
          refine y_ia w hV.2.1 (by omega) (hV.2.2.2.2.2 w hwn) ?_
          refine y_zs (p + strd L w) (Or.inr rfl) hV.2.2.2.2.1 (by omega) (fun h2 e2 x2 => ?_) (nI_add p (strd L w))
          have ih9 := ih (w + 1) (by omega) h2 _ (hV.setR e2 x2) (hx.tr x2 sx sx) (fun q hq => ?_)
          rw [nI_succ w] at ih9
          exact ih9 
          by_cases e9 : q = p + strd L w
          · rw [e9, pk_us]
            exact ⟨Or.inr rfl, fun _ => hnew.mpr (Or.inr ((okn _).mpr w1)), fun _ => rfl⟩
          · rw [pk_un e9]
            obtain ⟨q1, q2⟩ := hR q hq
            exact ⟨q1, by rw [q2, rw_same hq (fun _ _ => e9)]⟩
  refine hG 0 _ _ _ _ _ ?_
  exact inner (vn L) 0 (by omega) h Re hV Ex.rf hR
theorem c_canGoAround {x : Int32} {v : Nat} (hV : SvH g rl h σ s sd L B W Re) (hM : SvM L nd B W (pls L)) (hL : LdOk L) (hNd : Need L nd) (hv : v ≤ 99) (hK : ∀ (h1 : Hp) (Re1 : Nat → Int32), SvH g rl h1 σ s sd L B W Re1 → Ex (fun i => i = σ + 117) rl h rl h1 → K (some (.int (bP (0 < Wn L nd (okN L v) (tn L))))) h1) (ex : x = nI v := by rfl) : Run l g d_X6_canGoAround [.ref s, .int x] h 0 0 K := by
  subst ex
  have hB := hL.b
  have b1 := hL.1
  have b2 : pls L ≤ 1296 := pls_le hB (Nat.le_refl (vn L))
  have p0 : 0 < pls L := gst_pos (tn L) (vn L)
  have sx : ∀ i, (fun i => i = σ + 117) i → (fun i => i = σ + 117) i := fun i z => z
  have si : ∀ i, (fun i => i = σ + 117) i → (fun i => i = σ + 117) i := fun i z => z
  refine vc_X6_canGoAround (fun G hG => ?_)
  have okn : ∀ p, okN L v (pcut L p) = true ↔ ¬ sumC L (pcut L p) = v := fun p => by unfold okN; rw [decide_eq_true_eq]
  have main : ∀ j p, p + j = pls L → ∀ (h1 : Hp) (R1 : Nat → Int32), SvH g rl h1 σ s sd L B W R1 → Ex (fun i => i = σ + 117) rl h rl h1 → ReI R1 (pls L) (Rw L nd v p 0) → G 3 h1 0 0 [some (.ref s), some (.int (nI v)), some (.int (nI p))] [] := by
    intro j
    induction j with
    | zero =>
      intro p hp h1 R1 hV hx hR
      have ep : p = pls L := by omega
      refine hG 3 _ _ _ _ _ ?_
      refine y_get hV.1 (by decide) rfl ?_
      refine b_ge p (pls L) (fun _ => ?_) (fun _ => by omega)
      refine y_get hV.1 (by decide) rfl ?_
      refine y_get hV.1 (by decide) rfl ?_
      refine y_za (pls L - 1) hV.2.2.2.2.1 (by omega) rfl ?_ (pk_sub (b := 1) p0)
      obtain ⟨r1, r2⟩ := hR (pls L - 1) (by omega)
      rw [rw_at hL hNd (by omega) (by omega), wn_congr (okN_x v) (fun w hw => pl_last hw)] at r2
      have hk9 := hK h1 R1 hV hx
      refine ⟨r1, ?_⟩
      rcases r1 with e | e
      · rw [bP_0 (fun z => by rw [r2.mpr z] at e; exact absurd e (by decide))] at hk9
        rw [e]; exact hk9
      · rw [bP_1 (r2.mp e)] at hk9
        rw [e]; exact hk9
    | succ j ih =>
      intro p hp h1 R1 hV hx hR
      have hpl : p < pls L := by omega
      obtain ⟨r1, r2⟩ := hR p hpl
      rw [rw_at hL hNd hpl (Nat.le_refl p)] at r2
      refine hG 3 _ _ _ _ _ ?_
      refine y_get hV.1 (by decide) rfl ?_
      refine b_ge p (pls L) (fun _ => by omega) (fun _ => ?_)
      refine y_get hV.1 (by decide) rfl ?_
      refine y_za p hV.2.2.2.2.1 (by omega) rfl ?_
      rcases r1 with e | e
      · rw [e]
        refine b_yes rfl ?_
        have hno : ¬ 0 < Wn L nd (okN L v) (pcut L p) := fun z => by rw [r2.mpr z] at e; exact absurd e (by decide)
        have ih9 := ih (p + 1) (by omega) h1 R1 hV hx (fun q hq => ?_)
        rw [nI_succ p] at ih9
        exact ih9 
        obtain ⟨q1, q2⟩ := hR q hq
        refine ⟨q1, ?_⟩
        rw [q2, ← rw_end]
        unfold Rw
        refine and_congr_right (fun _ => or_congr Iff.rfl ?_)
        constructor
        · rintro ⟨u, k1, k2, k3, k4⟩; exact ⟨u, k1, k2, by omega, k4⟩
        · rintro ⟨u, k1, k2, k3, k4, k5⟩
          refine ⟨u, k1, k2, ?_, k4, k5⟩
          rcases k3 with k3 | k3
          · exact Or.inl k3
          · rw [k3.1] at k5; exact absurd k5 hno
      · rw [e]
        refine b_no (by decide) ?_
        refine y_call1 hV.1 (c_passAround hV hM hL hNd hv hpl (r2.mp e) hR (fun h2 R2 hV2 x2 hR2 => ?_))
        have ih9 := ih (p + 1) (by omega) h2 R2 hV2 (hx.tr x2 si sx) hR2
        rw [nI_succ p] at ih9
        exact ih9 
  have strt : ∀ j p, p + j = pls L → ∀ (h1 : Hp) (R1 : Nat → Int32), SvH g rl h1 σ s sd L B W R1 → Ex (fun i => i = σ + 117) rl h rl h1 → (∀ q, q < p → R1 q = 0) → G 1 h1 0 0 [some (.ref s), some (.int (nI v)), some (.int (nI p))] [] := by
    intro j
    induction j with
    | zero =>
      intro p hp h1 R1 hV hx hR
      have hW0 : 0 < Wt L nd 0 := (wn_iff hL hNd (pl_cut 0)).mpr ((cbe_cg (fun w _ => pl_0 w)).mpr cbe_0)
      have hsum := ((hM 0 p0).2 hW0).1
      have bS := sumC_le hL (pl_cut (L := L) 0)
      have g2 : ∀ y : Int32, (y = 0 ∨ y = 1) → (y = 1 ↔ okN L v (pcut L 0) = true) → ∀ o2 : Option Value, G 2 h1 0 0 [some (.ref s), some (.int (nI v)), o2] [.int y, .int 0, .ref (sd 7)] := fun y hy1 hy2 o2 => by
        refine hG 2 _ _ _ _ _ ?_
        refine y_zs 0 hy1 hV.2.2.2.2.1 (by omega) (fun h2 e2 x2 => ?_)
        refine main (pls L) 0 (by omega) h2 _ (hV.setR e2 x2) (hx.tr x2 si sx) (fun q hq => ?_)
        by_cases e : q = 0
        · rw [e, pk_us]
          refine ⟨hy1, hy2.trans ?_⟩
          exact ⟨fun z => ⟨z, Or.inl rfl⟩, fun z => z.1⟩
        · rw [pk_un e, hR q (by omega)]
          refine ⟨Or.inl rfl, fun z => absurd z (by decide), fun z => ?_⟩
          rcases z.2 with z | ⟨w, h1, h2, h3, -⟩
          · exact absurd z e
          · omega
      refine hG 1 _ _ _ _ _ ?_
      refine y_get hV.1 (by decide) rfl ?_
      refine b_ge p (pls L) (fun _ => ?_) (fun _ => by omega)
      refine y_get hV.1 (by decide) rfl ?_
      refine y_get hV.1 (by decide) rfl ?_
      refine y_ia 0 hV.i4 (by omega) hsum ?_
      refine pk_eq (sumC L (pcut L 0)) v (fun w => ?_) (fun w => ?_)
      · exact g2 0 (Or.inl rfl) ⟨fun z => absurd z (by decide), fun z => absurd w ((okn 0).mp z)⟩ _
      · exact g2 1 (Or.inr rfl) ⟨fun _ => (okn 0).mpr w, fun _ => rfl⟩ _
    | succ j ih =>
      intro p hp h1 R1 hV hx hR
      refine hG 1 _ _ _ _ _ ?_
      refine y_get hV.1 (by decide) rfl ?_
      refine b_ge p (pls L) (fun _ => by omega) (fun _ => ?_)
      refine y_get hV.1 (by decide) rfl ?_
      refine y_zs p (Or.inl rfl) hV.2.2.2.2.1 (by omega) (fun h2 e2 x2 => ?_)
      have ih9 := ih (p + 1) (by omega) h2 _ (hV.setR e2 x2) (hx.tr x2 si sx) (fun q hq => ?_)
      rw [nI_succ p] at ih9
      exact ih9 
      by_cases e : q = p
      · rw [e, pk_us]
      · rw [pk_un e]; exact hR q (by omega)
  refine hG 0 _ _ _ _ _ ?_
  exact strt (pls L) 0 (by omega) h Re hV Ex.rf (fun q hq => absurd hq (Nat.not_lt_zero q))
end CL5

