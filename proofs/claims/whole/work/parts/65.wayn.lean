/-! ===== ways, forward; places ===== -/
theorem sm_one {f f' : Nat → Nat} {v : Nat} : ∀ {n : Nat}, (∀ w, w < n → w ≠ v → f' w = f w) → v < n → sm f' n + f v = sm f n + f' v
  | n + 1, h, hv => by
    rw [sm_succ, sm_succ]
    by_cases e : v = n
    · subst e
      rw [sm_congr v (f := f') (k := f) (fun w hw => h w (by omega) (by omega))]
      omega
    · have := sm_one (f := f) (f' := f') (v := v) (n := n) (fun w hw => h w (by omega)) (by omega)
      rw [h n (by omega) (Ne.symm e)]
      omega
abbrev okT : (Nat → Nat) → Bool := fun _ => true
section WAYN
variable {L : Ld} {nd : NT} {c d : Nat → Nat}
theorem cbe_cg (h : ∀ v, v < vn L → c v = d v) : Cbe L nd c ↔ Cbe L nd d := by
  constructor
  · intro hc v hv u hu h0
    rw [← h v hv, ← h u hu]
    exact hc v hv u hu (by rw [h v hv]; exact h0)
  · intro hc v hv u hu h0
    rw [h v hv, h u hu]
    exact hc v hv u hu (by rw [← h v hv]; exact h0)
theorem rdy_congr (h : ∀ v, v < vn L → c v = d v) {v : Nat} (hv : v < vn L) : Rdy L nd c v ↔ Rdy L nd d v := by
  unfold Rdy
  rw [h v hv]
  refine and_congr_right (fun _ => ?_)
  exact ⟨fun z u hu => by rw [← h u hu]; exact z u hu, fun z u hu => by rw [h u hu]; exact z u hu⟩
theorem sumC_congr (h : ∀ v, v < vn L → c v = d v) : sumC L c = sumC L d := sm_congr _ (fun v hv => by rw [h v hv])
theorem cntC_congr (h : ∀ v, v < vn L → c v = d v) : cntC L c = cntC L d := sm_congr _ h
theorem wn_congr {ok : (Nat → Nat) → Bool} (hok : okExt L ok) (h : ∀ v, v < vn L → c v = d v) : Wn L nd ok c = Wn L nd ok d := Wf_congr hok 20 c d h
theorem okT_ext : okExt L okT := fun _ _ _ => rfl
theorem cut20 (hL : LdOk L) (hc : CutOk L c) : cntC L c ≤ 20 := cnt_part hL hc (Nat.le_refl _)
theorem wn_ok {ok : (Nat → Nat) → Bool} (h20 : cntC L c ≤ 20) (h : 0 < Wn L nd ok c) : Cbe L nd c ∧ ok c = true := by
  rw [Wn_eq h20] at h
  by_cases z : Cbe L nd c ∧ ok c = true
  · exact z
  · rw [if_neg z] at h; omega
/-- of a cut that can be one thing may be the last -/
theorem pred_ex (hL : LdOk L) (hN : Need L nd) (hc : CutOk L c) (hb : Cbe L nd c) (h0 : 0 < cntC L c) : ∃ v, v < vn L ∧ 0 < c v ∧ Cbe L nd (updN c v (c v - 1)) := by
  have b1 := hL.1
  have hex : ∃ v, v < vn L ∧ 0 < c v := Classical.byContradiction fun hno => by
    have : cntC L c = 0 := sm_z (fun v hv => by
      rcases Nat.eq_zero_or_pos (c v) with z | z
      · exact z
      · exact absurd ⟨v, hv, z⟩ hno)
    omega
  obtain ⟨-, rk, hr⟩ := id hN
  obtain ⟨v, ⟨hv, hcv⟩, hmin⟩ := min_ex (P := fun v => v < vn L ∧ 0 < c v) (f := fun v => mxn (fun v => rk v (c v - 1)) (vn L) - rk v (c v - 1)) (mxn (fun v => rk v (c v - 1)) (vn L) + 1) ⟨hex.choose, hex.choose_spec, by omega⟩
  have hmax : ∀ w, w < vn L → 0 < c w → rk w (c w - 1) ≤ rk v (c v - 1) := fun w hw hcw => by
    have h1 := hmin w ⟨hw, hcw⟩
    have h2 := mxn_ge (f := fun v => rk v (c v - 1)) hw
    have h3 := mxn_ge (f := fun v => rk v (c v - 1)) hv
    omega
  refine ⟨v, hv, hcv, fun w hw u hu hw0 => ?_⟩
  by_cases ew : w = v
  · subst ew
    rw [updN_s] at hw0 ⊢
    have hcw := hc w hw
    have h1 := nd_mn hN hw (u := u) (by omega) (t := c w - 1 - 1) (o := c w - 1) (by omega) (by omega)
    have h2 := hb w hw u hu hcv
    by_cases eu : u = w
    · subst eu
      rw [updN_s, nd_self hN hu (by omega)]
      omega
    · rw [updN_n eu]; omega
  · rw [updN_n ew] at hw0 ⊢
    have h2 := hb w hw u hu hw0
    by_cases eu : u = v
    · subst eu
      rw [updN_s]
      rcases Nat.lt_or_ge (c u - 1) (nd w (c w - 1) u) with z | z
      · exfalso
        have hcw := hc w hw
        have := nd_rk hL hN hr hw (show c w - 1 < tn L w by omega) hu z
        have := hmax w hw hw0
        omega
      · exact z
    · rw [updN_n eu]; exact h2
theorem cutOk_dn {v : Nat} (hc : CutOk L c) : CutOk L (updN c v (c v - 1)) := fun w hw => by
  by_cases e : w = v
  · subst e; rw [updN_s]; have := hc w hw; omega
  · rw [updN_n e]; exact hc w hw
theorem wn_pos (hL : LdOk L) (hN : Need L nd) : ∀ (k : Nat) (c : Nat → Nat), cntC L c = k → CutOk L c → Cbe L nd c → 0 < Wn L nd okT c
  | 0, c, hk, hc, hb => by
    rw [Wn_eq (by omega), if_pos ⟨hb, rfl⟩, if_pos hk]
    omega
  | k + 1, c, hk, hc, hb => by
    have h20 := cut20 hL hc
    obtain ⟨v, hv, h0, hb2⟩ := pred_ex hL hN hc hb (by omega)
    have h1 := wn_pos hL hN k (updN c v (c v - 1)) (by have := cnt_pred (L := L) hv h0; omega) (cutOk_dn hc) hb2
    rw [Wn_eq h20, if_pos ⟨hb, rfl⟩]
    have h2 := sm_lt2 (f := fun _ => 0) (k := fun v => if 0 < c v then Wn L nd okT (updN c v (c v - 1)) else 0) (u := v) (vn L) (fun _ _ => Nat.zero_le _) hv (by rw [if_pos h0]; exact h1)
    omega
theorem wn_iff (hL : LdOk L) (hN : Need L nd) (hc : CutOk L c) : 0 < Wn L nd okT c ↔ Cbe L nd c := ⟨fun h => (wn_ok (cut20 hL hc) h).1, fun h => wn_pos hL hN _ c rfl hc h⟩
/-- one step back from a cut that can be was a step that could be -/
theorem rdy_back (hL : LdOk L) (hN : Need L nd) (hc : CutOk L c) (hb : Cbe L nd c) {v : Nat} (hv : v < vn L) (h0 : 0 < c v) : Rdy L nd (updN c v (c v - 1)) v := by
  have hcv := hc v hv
  refine ⟨by rw [updN_s]; omega, fun u hu => ?_⟩
  rw [updN_s]
  by_cases e : u = v
  · subst e; rw [updN_s, nd_self hN hu (by omega)]; exact Nat.le_refl _
  · rw [updN_n e]; exact hb v hv u hu h0
theorem up_dn {v : Nat} (h0 : 0 < c v) : ∀ w, updN (updN c v (c v - 1)) v (updN c v (c v - 1) v + 1) w = c w := fun w => by
  by_cases e : w = v
  · rw [e, updN_s, updN_s]; omega
  · rw [updN_n e, updN_n e]
theorem wn_fwd {ok : (Nat → Nat) → Bool} (hL : LdOk L) (hN : Need L nd) (hc : CutOk L c) : Wn L nd ok c = if ok c = true then (if cntC L c = 0 then 1 else 0) + sm (fun v => if 0 < c v ∧ Rdy L nd (updN c v (c v - 1)) v then Wn L nd ok (updN c v (c v - 1)) else 0) (vn L) else 0 := by
  rw [Wn_eq (cut20 hL hc)]
  by_cases ho : ok c = true
  · rw [if_pos ho]
    by_cases hb : Cbe L nd c
    · rw [if_pos ⟨hb, ho⟩]
      congr 1
      refine sm_congr _ (fun v hv => ?_)
      by_cases h0 : 0 < c v
      · rw [if_pos h0, if_pos ⟨h0, rdy_back hL hN hc hb hv h0⟩]
      · rw [if_neg h0, if_neg (fun z => h0 z.1)]
    · rw [if_neg (fun z => hb z.1)]
      have h1 : ¬ cntC L c = 0 := fun z => hb (fun v hv u hu h0 => by have := sm_0 (f := c) (n := vn L) z v hv; omega)
      rw [if_neg h1, sm_z]
      intro v hv
      by_cases h2 : 0 < c v ∧ Rdy L nd (updN c v (c v - 1)) v
      · rw [if_pos h2]
        rcases Nat.eq_zero_or_pos (Wn L nd ok (updN c v (c v - 1))) with z | z
        · exact z
        · exfalso
          have h3 := (wn_ok (cut20 hL (cutOk_dn hc)) z).1
          exact hb ((cbe_cg (fun w _ => up_dn h2.1 w)).mp (cbe_up h3 h2.2))
      · rw [if_neg h2]
  · rw [if_neg ho, if_neg (fun z => ho z.2)]
/-! places -/
abbrev pcut (L : Ld) (p : Nat) : Nat → Nat := gdig (tn L) p
abbrev strd (L : Ld) (v : Nat) : Nat := gst (tn L) v
abbrev pls (L : Ld) : Nat := gst (tn L) (vn L)
theorem pl_cut (p : Nat) : CutOk L (pcut L p) := fun v _ => gdig_le p v
theorem pls_le (hB : LdB L) {n : Nat} (hn : n ≤ vn L) : gst (tn L) n ≤ 1296 := by
  have h1 := gst_mono (r := tn L) (d := fun _ => 5) (n := n) (fun v hv => (hB.2 v (by omega)).2.1)
  rw [gst6] at h1
  have h2 : 6 ^ n ≤ 6 ^ 4 := Nat.pow_le_pow_right (by omega) (by have := hB.1; omega)
  have h3 : 6 ^ 4 = 1296 := by decide
  omega
theorem pl_up {p v : Nat} (hp : p < pls L) (hv : v < vn L) (h : pcut L p v < tn L v) : p + strd L v < pls L ∧ ∀ w, w < vn L → pcut L (p + strd L v) w = updN (pcut L p) v (pcut L p v + 1) w := by
  have e := gnum_up (r := tn L) (c := pcut L p) (v := v) (x := pcut L p v + 1) hv
  rw [gnum_dig hp, Nat.succ_mul] at e
  have hc : ∀ w, w < vn L → updN (pcut L p) v (pcut L p v + 1) w ≤ tn L w := fun w hw => by
    by_cases ew : w = v
    · rw [ew, updN_s]; exact h
    · rw [updN_n ew]; exact gdig_le p w
  have e2 : p + strd L v = gnum (tn L) (updN (pcut L p) v (pcut L p v + 1)) (vn L) := by show p + gst (tn L) v = _; omega
  rw [e2]
  exact ⟨gnum_lt hc, fun w hw => gdig_num hc hw⟩
theorem pl_dn {q v : Nat} (hq : q < pls L) (hv : v < vn L) (h : 0 < pcut L q v) : strd L v ≤ q ∧ ∀ w, w < vn L → pcut L (q - strd L v) w = updN (pcut L q) v (pcut L q v - 1) w := by
  have e := gnum_up (r := tn L) (c := pcut L q) (v := v) (x := pcut L q v - 1) hv
  rw [gnum_dig hq] at e
  have e3 : pcut L q v * gst (tn L) v = (pcut L q v - 1) * gst (tn L) v + gst (tn L) v := by
    rw [← Nat.succ_mul]
    congr 1
    omega
  have hc : ∀ w, w < vn L → updN (pcut L q) v (pcut L q v - 1) w ≤ tn L w := cutOk_dn (pl_cut q)
  have e2 : q - strd L v = gnum (tn L) (updN (pcut L q) v (pcut L q v - 1)) (vn L) := by show q - gst (tn L) v = _; omega
  refine ⟨by show gst (tn L) v ≤ q; omega, fun w hw => ?_⟩
  rw [e2]
  exact gdig_num hc hw
theorem pl_0 (v : Nat) : pcut L 0 v = 0 := by show 0 / _ % _ = 0; rw [Nat.zero_div, Nat.zero_mod]
theorem pl_c0 {q : Nat} (hq : q < pls L) : cntC L (pcut L q) = 0 ↔ q = 0 := by
  constructor
  · intro h
    have := gnum_dig hq
    rw [← this]
    exact sm_z (fun v hv => by have h9 : gdig (tn L) q v = 0 := sm_0 (f := pcut L q) (n := vn L) h v hv; rw [h9, Nat.zero_mul])
  · rintro rfl
    exact sm_z (fun v _ => pl_0 v)
theorem pl_last {v : Nat} (hv : v < vn L) : pcut L (pls L - 1) v = tn L v := by
  have e := gnum_full (r := tn L) (vn L)
  rw [show pls L - 1 = gnum (tn L) (tn L) (vn L) by show gst (tn L) (vn L) - 1 = _; omega]
  exact gdig_num (fun w _ => Nat.le_refl _) hv
/-- the ways to q that come over places below p, or over p by a village below v -/
def Wq (L : Ld) (nd : NT) (p v q : Nat) : Nat := (if q = 0 then 1 else 0) + sm (fun w => if (0 < pcut L q w ∧ (q - strd L w < p ∨ (q - strd L w = p ∧ w < v))) ∧ Rdy L nd (pcut L (q - strd L w)) w then Wn L nd okT (pcut L (q - strd L w)) else 0) (vn L)
theorem wq_end {p q : Nat} : Wq L nd p (vn L) q = Wq L nd (p + 1) 0 q := by
  unfold Wq
  congr 1
  refine sm_congr _ (fun w hw => ?_)
  have e : (0 < pcut L q w ∧ (q - strd L w < p ∨ (q - strd L w = p ∧ w < vn L))) ↔ (0 < pcut L q w ∧ (q - strd L w < p + 1 ∨ (q - strd L w = p + 1 ∧ w < 0))) := by
    refine and_congr_right (fun _ => ?_)
    omega
  by_cases h : (0 < pcut L q w ∧ (q - strd L w < p ∨ (q - strd L w = p ∧ w < vn L))) ∧ Rdy L nd (pcut L (q - strd L w)) w
  · rw [if_pos h, if_pos ⟨e.mp h.1, h.2⟩]
  · rw [if_neg h, if_neg (fun z => h ⟨e.mpr z.1, z.2⟩)]
theorem wq_0 {q : Nat} : Wq L nd 0 0 q = if q = 0 then 1 else 0 := by
  unfold Wq
  rw [sm_z (fun w hw => if_neg (fun z => by have := z.1.2; omega)), Nat.add_zero]
theorem wq_at (hL : LdOk L) (hN : Need L nd) {q : Nat} (hq : q < pls L) : Wq L nd q 0 q = Wn L nd okT (pcut L q) := by
  rw [wn_fwd hL hN (pl_cut q), if_pos rfl]
  unfold Wq
  congr 1
  · by_cases e : q = 0
    · rw [if_pos e, if_pos ((pl_c0 hq).mpr e)]
    · rw [if_neg e, if_neg (fun z => e ((pl_c0 hq).mp z))]
  · refine sm_congr _ (fun w hw => ?_)
    by_cases h0 : 0 < pcut L q w
    · obtain ⟨d1, d2⟩ := pl_dn hq hw h0
      have hs := gst_pos (tn L) w
      have hc : 0 < pcut L q w ∧ (q - strd L w < q ∨ (q - strd L w = q ∧ w < 0)) := ⟨h0, Or.inl (by show q - gst (tn L) w < q; have : gst (tn L) w ≤ q := d1; omega)⟩
      have er := rdy_congr (nd := nd) d2 hw
      by_cases hr : Rdy L nd (pcut L (q - strd L w)) w
      · rw [if_pos ⟨hc, hr⟩, if_pos ⟨h0, er.mp hr⟩]
        exact wn_congr okT_ext d2
      · rw [if_neg (fun z => hr z.2), if_neg (fun z => hr (er.mpr z.2))]
    · rw [if_neg (fun z => h0 z.1.1), if_neg (fun z => h0 z.1)]
theorem wq_step {p v : Nat} (hp : p < pls L) (hv : v < vn L) (hr : Rdy L nd (pcut L p) v) : Wq L nd p (v + 1) (p + strd L v) = Wq L nd p v (p + strd L v) + Wn L nd okT (pcut L p) := by
  obtain ⟨u1, u2⟩ := pl_up hp hv hr.1
  have es : p + strd L v - strd L v = p := by omega
  have h0 : 0 < pcut L (p + strd L v) v := by rw [u2 v hv, updN_s]; omega
  have hs := gst_pos (tn L) v
  unfold Wq
  have := sm_one (v := v) (n := vn L) (f := fun w => if (0 < pcut L (p + strd L v) w ∧ (p + strd L v - strd L w < p ∨ (p + strd L v - strd L w = p ∧ w < v))) ∧ Rdy L nd (pcut L (p + strd L v - strd L w)) w then Wn L nd okT (pcut L (p + strd L v - strd L w)) else 0) (f' := fun w => if (0 < pcut L (p + strd L v) w ∧ (p + strd L v - strd L w < p ∨ (p + strd L v - strd L w = p ∧ w < v + 1))) ∧ Rdy L nd (pcut L (p + strd L v - strd L w)) w then Wn L nd okT (pcut L (p + strd L v - strd L w)) else 0) (fun w hw hne => ?_) hv
  · rw [es, if_neg (fun z => by have := z.1.2; omega), if_pos ⟨⟨h0, Or.inr ⟨rfl, by omega⟩⟩, hr⟩] at this
    omega
  · have e : (0 < pcut L (p + strd L v) w ∧ (p + strd L v - strd L w < p ∨ (p + strd L v - strd L w = p ∧ w < v + 1))) ↔ (0 < pcut L (p + strd L v) w ∧ (p + strd L v - strd L w < p ∨ (p + strd L v - strd L w = p ∧ w < v))) := and_congr_right (fun _ => by omega)
    by_cases h : (0 < pcut L (p + strd L v) w ∧ (p + strd L v - strd L w < p ∨ (p + strd L v - strd L w = p ∧ w < v))) ∧ Rdy L nd (pcut L (p + strd L v - strd L w)) w
    · rw [if_pos h, if_pos ⟨e.mpr h.1, h.2⟩]
    · rw [if_neg h, if_neg (fun z => h ⟨e.mp z.1, z.2⟩)]
theorem wq_same {p v q : Nat} (hq : q < pls L) (h : Rdy L nd (pcut L p) v → q ≠ p + strd L v) : Wq L nd p (v + 1) q = Wq L nd p v q := by
  unfold Wq
  congr 1
  refine sm_congr _ (fun w hw => ?_)
  by_cases ew : w = v
  · subst ew
    by_cases h1 : 0 < pcut L q w
    · obtain ⟨d1, d2⟩ := pl_dn hq hw h1
      by_cases h2 : q - strd L w = p
      · have hnr : ¬ Rdy L nd (pcut L (q - strd L w)) w := fun z => by rw [h2] at z; exact h z (by omega)
        rw [if_neg (fun z => hnr z.2), if_neg (fun z => hnr z.2)]
      · have e : (0 < pcut L q w ∧ (q - strd L w < p ∨ (q - strd L w = p ∧ w < w + 1))) ↔ (0 < pcut L q w ∧ (q - strd L w < p ∨ (q - strd L w = p ∧ w < w))) := and_congr_right (fun _ => by omega)
        by_cases h3 : (0 < pcut L q w ∧ (q - strd L w < p ∨ (q - strd L w = p ∧ w < w))) ∧ Rdy L nd (pcut L (q - strd L w)) w
        · rw [if_pos h3, if_pos ⟨e.mpr h3.1, h3.2⟩]
        · rw [if_neg h3, if_neg (fun z => h3 ⟨e.mp z.1, z.2⟩)]
    · rw [if_neg (fun z => h1 z.1.1), if_neg (fun z => h1 z.1.1)]
  · have e : (0 < pcut L q w ∧ (q - strd L w < p ∨ (q - strd L w = p ∧ w < v + 1))) ↔ (0 < pcut L q w ∧ (q - strd L w < p ∨ (q - strd L w = p ∧ w < v))) := and_congr_right (fun _ => by omega)
    by_cases h3 : (0 < pcut L q w ∧ (q - strd L w < p ∨ (q - strd L w = p ∧ w < v))) ∧ Rdy L nd (pcut L (q - strd L w)) w
    · rw [if_pos h3, if_pos ⟨e.mpr h3.1, h3.2⟩]
    · rw [if_neg h3, if_neg (fun z => h3 ⟨e.mp z.1, z.2⟩)]
end WAYN

