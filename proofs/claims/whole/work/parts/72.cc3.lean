section CC3
variable {l : Launch} {g : Gm} {rl rl1 : Nat → Nat} {h h1 : Hp} {K : PT} {a : Nat} {S : St}
/-- what has happened changed alone -/
theorem CoH.dn {β ca : Nat} {ad : Nat → Nat} {A : Nat → Nat → Int32} {sv : Nat × Int32} {L : Ld} {nd : NT} {c c2 : Nat → Nat} {F : Nat → Int32} (hO : CoH g rl h β ca ad A sv L nd c) (h4 : vn L ≤ 4) (e : Ia g rl h1 (ad 4) (β + 4) 4 F) (x1 : Ex (fun i => i = β + 4) rl h rl h1) (hF : ∀ v, v < vn L → F v = nI (c2 v)) : CoH g rl h1 β ca ad (va_up A 4 F) sv L nd c2 := by
  obtain ⟨hβ, hH, hm, hl, hN, hfr, hdn, hsv⟩ := hO
  refine ⟨hβ, hH.up 4 x1 h4 (by omega) (fun z => by omega) (fun _ => e) (fun j _ z => by omega) (fun v _ z => by omega) (fun v _ z => by omega) (fun v t _ _ z => by omega), fun v hv => ?_, fun k hk => ?_, fun v t u hv ht hu => ?_, fun k hk => ?_, hF, hsv.ex x1 (fun i _ _ => by omega)⟩
  · rw [va_n (by omega), va_n (by omega), va_n (by omega), va_n (by omega)]; exact hm v hv
  · rw [va_n (by omega)]; exact hl k hk
  · rw [va_n (by omega)]; exact hN v t u hv ht hu
  · exact hfr k hk
theorem cc_happen {x : Int32} (hok : StOk S) (hC : ClsH g rl h a S) (hK : ∀ h1, ClsH g rl h1 a (st_happen S x) → Ex CXp rl h rl h1 → K (some (.int (sp_happen S x))) h1) : Run l g d_X9_happen [.ref a, .int x] h 0 0 K := by
  have hC0 := hC
  obtain ⟨f, I, ca, sv, B, β, ad, A, hF, hFM, hO⟩ := hC
  obtain ⟨hβ, hH, hm, hl, hN, hfr, hdn, hsv⟩ := id hO
  have hL := hok.2.1
  have hB := hL.b
  have b1 := hL.1
  have hT := hok.2.2.2.2.1.1
  have hR := rw_done hok hO
  unfold st_happen sp_happen at hK
  refine vc_X9_happen (fun G hG => ?_)
  refine hG 0 _ _ _ _ _ ?_
  refine y_get hF.1 (by decide) rfl ?_
  refine y_call1 hH.1 (c_hasVillage hH ?_)
  refine b_Z (fun z => ?_) (fun z => ?_)
  · rw [if_neg z, if_neg (fun r => z r.1)] at hK
    exact hK h hC0 Ex.rf
  obtain ⟨v, hv, rfl⟩ := isV_of z (by omega)
  rw [ix_nI (by omega)] at hK
  refine y_get hF.1 (by decide) rfl ?_
  refine y_get hF.1 (by decide) rfl ?_
  refine y_get hH.1 (by decide) rfl ?_
  refine y_call1 hH.1 (c_goesOn hH hm hB hT hl hH.dn hR hv ?_)
  have hiff := go_done hok hv
  refine b_Z (fun y => ?_) (fun y => ?_)
  · have y : ¬ Rdy (sL S) (sN S) (sD S) v := fun r => y (hiff.mpr r)
    rw [if_pos z, if_neg y, if_neg (fun r => y r.2)] at hK
    exact hK h hC0 Ex.rf
  · have y := hiff.mp y
    rw [if_pos z, if_pos y, if_pos ⟨z, y⟩] at hK
    refine y_get hF.1 (by decide) rfl ?_
    refine y_get hH.1 (by decide) rfl ?_
    refine y_ia v hH.dn (by omega) (hdn v hv) ?_
    refine y_get hF.1 (by decide) rfl ?_
    refine y_get hH.1 (by decide) rfl ?_
    refine y_is v hH.dn (by omega) (fun h1 e1 x1 => ?_)
    refine hK h1 ⟨f, I, ca, sv, B, β, ad, _, hF.ex x1 (by omega), hFM, hO.dn b1 e1 x1 (fun w hw => ?_)⟩ (fcx x1 (by omega))
    show upd (A 4) v (nI (sD S v) + 1) w = nI (updN (sD S) v (sD S v + 1) w)
    by_cases e : w = v
    · rw [e, pk_us, updN_s, nI_succ]
    · rw [pk_un e, updN_n e]; exact hdn w hw
theorem cc_anew (hok : StOk S) (hC : ClsH g rl h a S) (hK : ∀ h1, ClsH g rl h1 a (st_anew S) → Ex CXp rl h rl h1 → K (some (.int (sp_anew S))) h1) : Run l g d_X9_anew [.ref a] h 0 0 K := by
  obtain ⟨f, I, ca, sv, B, β, ad, A, hF, hFM, hO⟩ := hC
  obtain ⟨hβ, hH, hm, hl, hN, hfr, hdn, hsv⟩ := id hO
  have hL := hok.2.1
  have hB := hL.b
  have b1 := hL.1
  have hR := rw_done hok hO
  unfold st_anew sp_anew at hK
  refine vc_X9_anew (fun G hG => ?_)
  refine hG 0 _ _ _ _ _ ?_
  refine y_get hF.1 (by decide) rfl ?_
  refine y_get hH.1 (by decide) rfl ?_
  refine pk_eq (vn (sL S)) 0 (fun z => ?_) (fun z => ?_)
  · rw [if_pos z] at hK
    exact hK h ⟨f, I, ca, sv, B, β, ad, A, hF, hFM, ⟨hβ, hH, hm, hl, hN, hfr, fun v hv => by rw [z] at hv; omega, hsv⟩⟩ Ex.rf
  rw [if_neg z] at hK
  refine y_get hF.1 (by decide) rfl ?_
  refine y_get hF.1 (by decide) rfl ?_
  refine y_get hH.1 (by decide) rfl ?_
  refine y_call1 hH.1 (c_thingsIn hH hB hH.dn hR ?_)
  refine y_get hF.1 (by decide) rfl ?_
  refine y_get hH.1 (by decide) rfl ?_
  refine y_callS (k_fill hH.dn (by omega) (fun h1 e1 x1 => ?_))
  exact hK h1 ⟨f, I, ca, sv, B, β, ad, _, hF.ex x1 (by omega), hFM, hO.dn b1 e1 x1 (fun w hw => rfl)⟩ (fcx x1 (by omega))
theorem cc_now {w : Int32} (hok : StOk S) (hC : ClsH g rl h a S) (hK : K (some (.int (sp_now S w))) h) : Run l g d_X9_now [.ref a, .int w] h 0 0 K := by
  obtain ⟨f, I, ca, sv, B, β, ad, A, hF, hFM, hO⟩ := hC
  obtain ⟨hβ, hH, hm, hl, hN, hfr, hdn, hsv⟩ := id hO
  have hL := hok.2.1
  have hB := hL.b
  have b1 := hL.1
  have hT := hok.2.2.2.2.1.1
  have hR := rw_done hok hO
  unfold sp_now at hK
  refine vc_X9_now (fun G hG => ?_)
  refine hG 0 _ _ _ _ _ ?_
  refine b_cases (fun z => ?_) (fun z => ?_)
  · rw [if_neg (fun r => nlt.mpr r.1 z)] at hK
    exact hK
  refine b_cases (fun y => ?_) (fun y => ?_)
  · rw [if_pos ⟨nlt.mp z, y⟩] at hK
    refine y_get hF.1 (by decide) rfl ?_
    refine y_get hH.1 (by decide) rfl ?_
    refine pk_eq (vn (sL S)) 0 (fun x => ?_) (fun x => ?_)
    · rw [if_pos x] at hK
      exact hK
    rw [if_neg x] at hK
    refine b_cases (fun c => ?_) (fun c => ?_)
    · rw [if_pos c] at hK
      refine y_get hF.1 (by decide) rfl ?_
      refine y_get hF.1 (by decide) rfl ?_
      refine y_get hH.1 (by decide) rfl ?_
      refine y_call1 hH.1 (c_sumOf hH hm hB hH.dn hR ?_)
      exact hK
    rw [if_neg c] at hK
    refine b_cases (fun d => ?_) (fun d => ?_)
    · rw [if_pos d] at hK
      refine y_get hF.1 (by decide) rfl ?_
      refine y_get hF.1 (by decide) rfl ?_
      refine y_get hH.1 (by decide) rfl ?_
      refine y_call1 hH.1 (c_underWay hH hB hT hl hH.dn hR ?_)
      exact hK
    · rw [if_neg d] at hK
      refine y_get hF.1 (by decide) rfl ?_
      refine y_get hF.1 (by decide) rfl ?_
      refine y_get hH.1 (by decide) rfl ?_
      refine y_call1 hH.1 (c_thatGoOn hH hm hB hT hl hH.dn hR ?_)
      unfold rdB at hK
      rw [ub_congr (q := fun v => decide (Rdy (sL S) (sN S) (sD S) v)) (fun v hv => by
        have := go_done hok hv
        by_cases e : GoR (sL S) (sD S) v
        · rw [decide_eq_true e, decide_eq_true (this.mp e)]
        · rw [decide_eq_false e, decide_eq_false (fun q => e (this.mpr q))])]
      exact hK
  · rw [if_neg (fun r => y r.2)] at hK
    exact hK
theorem cc_many {w : Int32} (hok : StOk S) (hC : ClsH g rl h a S) (hK : K (some (.int (sp_many S w))) h) : Run l g d_X9_many [.ref a, .int w] h 0 0 K := by
  obtain ⟨f, I, ca, sv, B, β, ad, A, hF, hFM, hO⟩ := hC
  obtain ⟨hβ, hH, hm, hl, hN, hfr, hdn, hsv⟩ := id hO
  have hL := hok.2.1
  have hB := hL.b
  have b1 := hL.1
  have hT := hok.2.2.2.2.1.1
  have hR := rw_done hok hO
  unfold sp_many at hK
  refine vc_X9_many (fun G hG => ?_)
  refine hG 0 _ _ _ _ _ ?_
  refine b_cases (fun c => ?_) (fun c => ?_)
  · rw [if_pos c] at hK
    refine y_get hF.1 (by decide) rfl ?_
    refine y_get hH.1 (by decide) rfl ?_
    exact hK
  rw [if_neg c] at hK
  refine b_cases (fun c => ?_) (fun c => ?_)
  · rw [if_pos c] at hK
    refine y_get hF.1 (by decide) rfl ?_
    refine y_get hH.1 (by decide) rfl ?_
    exact hK
  rw [if_neg c] at hK
  refine b_cases (fun c => ?_) (fun c => ?_)
  · rw [if_pos c] at hK
    refine y_get hF.1 (by decide) rfl ?_
    refine y_get hF.1 (by decide) rfl ?_
    refine y_get hH.1 (by decide) rfl ?_
    refine y_call1 hH.1 (c_thingsIn hH hB hH.dn hR ?_)
    exact hK
  rw [if_neg c] at hK
  refine b_cases (fun c => ?_) (fun c => ?_)
  · rw [if_pos c] at hK
    refine y_get hF.1 (by decide) rfl ?_
    refine y_call1 hH.1 (c_lettersSent hH hB hT hl ?_)
    exact hK
  rw [if_neg c] at hK
  refine b_cases (fun c => ?_) (fun c => ?_)
  · rw [if_pos c] at hK
    refine y_get hF.1 (by decide) rfl ?_
    rw [hFM.1]
    exact hK
  · rw [if_neg c] at hK
    exact hK
theorem cc_first {k : Int32} (hok : StOk S) (hC : ClsH g rl h a S) (hK : K (some (.int (sp_first S k))) h) : Run l g d_X9_first [.ref a, .int k] h 0 0 K := by
  obtain ⟨f, I, ca, sv, B, β, ad, A, hF, hFM, hO⟩ := hC
  obtain ⟨hβ, hH, hm, hl, hN, hfr, hdn, hsv⟩ := id hO
  have hL := hok.2.1
  have hB := hL.b
  have b1 := hL.1
  have b9 := things_le hB
  unfold sp_first at hK
  refine vc_X9_first (fun G hG => ?_)
  refine hG 0 _ _ _ _ _ ?_
  refine b_cases (fun z => ?_) (fun z => ?_)
  · rw [if_neg (fun r => nlt.mpr r.1 z)] at hK
    exact hK
  refine b_cases (fun y => ?_) (fun y => ?_)
  · have y : k ≤ 19 := (le_c (a := 19) (b := 20) (by decide)).mp (nle.mpr y)
    have hz : (-1 : Int32) ≤ k := nlt.mp z
    rw [if_pos ⟨hz, y⟩] at hK
    refine y_get hF.1 (by decide) rfl ?_
    refine y_get hH.1 (by decide) rfl ?_
    refine pk_eq (vn (sL S)) 0 (fun x => ?_) (fun x => ?_)
    · rw [if_pos x] at hK
      exact hK
    rw [if_neg x] at hK
    refine b_cases (fun c => ?_) (fun c => ?_)
    · rw [if_pos c] at hK
      refine y_get hF.1 (by decide) rfl ?_
      refine y_get hH.1 (by decide) rfl ?_
      exact hK
    have c : ¬ k = -1 := c
    rw [if_neg c] at hK
    have k0 : 0 ≤ k := by
      have h1 := Int32.le_iff_toInt_le.mp hz
      rw [Int32.le_iff_toInt_le]
      have h2 : (-1 : Int32).toInt = -1 := by decide
      have h3 : (0 : Int32).toInt = 0 := by decide
      have h4 : k.toInt ≠ -1 := fun e => c (Int32.toInt_inj.mp (e.trans h2.symm))
      omega
    obtain ⟨j, hj, rfl⟩ := inR_of (n := 19) (by omega) ⟨k0, y⟩
    rw [ix_nI (by omega)] at hK
    refine y_get hF.1 (by decide) rfl ?_
    refine y_get hH.1 (by decide) rfl ?_
    refine b_ge j (sm (tn (sL S)) (vn (sL S))) (fun d => ?_) (fun d => ?_)
    · rw [if_neg (by omega)] at hK
      exact hK
    · rw [if_pos d] at hK
      refine y_get hF.1 (by decide) rfl ?_
      refine y_get hH.1 (by decide) rfl ?_
      refine y_ia j hH.fr (by omega) (hfr j d) ?_
      exact hK
  · have y : ¬ k ≤ 19 := fun r => y (nle.mp ((le_c (a := 19) (b := 20) (by decide)).mpr r))
    rw [if_neg (fun r => y r.2)] at hK
    exact hK
/-! the trace -/
theorem k_leave {f : Nat → Nat} {I : Nat → Int32} {ca : Nat} {sv : Nat × Int32} {B : Nat → Nat → Int32} {x : Int32} (hF : FcH g rl h a f I ca sv B) (hK : ∀ h1, FcH g rl h1 a f (upd I 2 (bgn (I 2) x)) ca sv B → Ex (fun i => i = 102) rl h rl h1 → K none h1) : Run l g d_X8_leave [.ref (f 2), .int x] h 0 0 K := by
  refine vc_X8_leave (fun G hG => ?_)
  refine hG 0 _ _ _ _ _ ?_
  refine y_get hF.2.2.1 (by decide) rfl ?_
  refine y_putI hF.2.2.1 (by decide) (Nat.le_of_ble_eq_true rfl) rfl (fun h1 e1 x1 => ?_)
  exact hK h1 (hF.tr e1 x1) x1
theorem k_toldPlainly {f : Nat → Nat} {I : Nat → Int32} {ca q : Nat} {sv : Nat × Int32} {B : Nat → Nat → Int32} {x : Int32} (hF : FcH g rl h a f I ca sv B) (hK : ∀ h1, FcH g rl h1 a f (upd I 2 (bgn (I 2) 1)) ca sv B → Ex (fun i => i = 102) rl h rl h1 → K (some (.int x)) h1) : Run l g d_X4_toldPlainly [.ref q, .ref (f 2), .int x] h 0 0 K := by
  refine vc_X4_toldPlainly (fun G hG => ?_)
  refine hG 0 _ _ _ _ _ ?_
  refine y_call1 hF.2.2.1 (k_leave hF (fun h1 hF1 x1 => ?_))
  exact hK h1 hF1 x1
theorem k_toldOf4 {f : Nat → Nat} {I : Nat → Int32} {ca q k ρ : Nat} {fs : List Value} {sv : Nat × Int32} {B : Nat → Nat → Int32} {x : Int32} (hq : Ob rl h q ρ (.inr (clsOf k, fs))) (hF : FcH g rl h a f I ca sv B) (hK : ∀ h1, FcH g rl h1 a f (upd I 2 (bgn (I 2) 1)) ca sv B → Ex (fun i => i = 102) rl h rl h1 → K (some (.int x)) h1) : Run l g d_X4_toldOf [.ref q, .ref (f 2), .int x] h 0 0 K := by
  refine vc_X4_toldOf (fun G hG => ?_)
  refine hG 0 _ _ _ _ _ ?_
  exact y_callV rfl hq (cls_tab _ _) (k_toldPlainly hF hK)
theorem k_toldOf0 {f : Nat → Nat} {I : Nat → Int32} {ca q k ρ : Nat} {fs : List Value} {sv : Nat × Int32} {B : Nat → Nat → Int32} {x : Int32} (hk : k = 1 ∨ k = 2) (hρ : ρ ≠ 102) (hq : Ob rl h q ρ (.inr (clsOf k, fs))) (hF : FcH g rl h a f I ca sv B) (hK : ∀ h1, FcH g rl h1 a f (upd I 2 (bgn (bgn (I 2) 2) 1)) ca sv B → Ex (fun i => i = 102) rl h rl h1 → K (some (.int (x + 100))) h1) : Run l g d_X0_toldOf [.ref q, .ref (f 2), .int x] h 0 0 K := by
  refine vc_X0_toldOf (fun G hG => ?_)
  refine hG 0 _ _ _ _ _ ?_
  refine y_call1 hF.2.2.1 (k_leave hF (fun h1 hF1 x1 => ?_))
  have hq1 := hq.ex x1 hρ
  refine y_callV (ci := clsOf k) (d := d_X4_toldOf) rfl hq1 ?_ (k_toldOf4 hq1 hF1 (fun h2 hF2 x2 => ?_))
  · rcases hk with rfl | rfl
    · exact List.mem_cons_self
    · exact List.mem_cons_of_mem _ List.mem_cons_self
  · have e9 : upd (upd I 2 (bgn (I 2) 2)) 2 (bgn (upd I 2 (bgn (I 2) 2) 2) 1) = upd I 2 (bgn (bgn (I 2) 2) 1) := by
      funext j
      by_cases e : j = 2
      · rw [e, pk_us, pk_us, pk_us]
      · rw [pk_un e, pk_un e, pk_un e]
    rw [e9] at hF2
    exact hK h2 hF2 (x1.trs x2)
theorem k_toldOf1 {f : Nat → Nat} {I : Nat → Int32} {ca q ρ : Nat} {fs : List Value} {sv : Nat × Int32} {B : Nat → Nat → Int32} {x : Nat} (hρ : ρ ≠ 102) (hq : Ob rl h q ρ (.inr (clsOf 2, fs))) (hF : FcH g rl h a f I ca sv B) (hK : ∀ h1, FcH g rl h1 a f (upd I 2 (bgn (bgn (bgn (bgn (I 2) 3) 2) 1) 1)) ca sv B → Ex (fun i => i = 102) rl h rl h1 → K (some (.int (2 * nI x + 100))) h1) : Run l g d_X1_toldOf [.ref q, .ref (f 2), .int (nI x)] h 0 0 K := by
  refine vc_X1_toldOf (fun G hG => ?_)
  refine hG 0 _ _ _ _ _ ?_
  refine y_call1 hF.2.2.1 (k_leave hF (fun h1 hF1 x1 => ?_))
  have hq1 := hq.ex x1 hρ
  refine y_callV (ci := clsOf 2) (d := d_X0_toldOf) rfl hq1 List.mem_cons_self (k_toldOf0 (Or.inr rfl) hρ hq1 hF1 (fun h2 hF2 x2 => ?_))
  have hq2 := hq1.ex x2 hρ
  refine y_callV (ci := clsOf 2) (d := d_X4_toldPlainly) rfl hq2 List.mem_cons_self (k_toldPlainly hF2 (fun h3 hF3 x3 => ?_))
  have e9 : upd (upd (upd I 2 (bgn (I 2) 3)) 2 (bgn (bgn (upd I 2 (bgn (I 2) 3) 2) 2) 1)) 2 (bgn (upd (upd I 2 (bgn (I 2) 3)) 2 (bgn (bgn (upd I 2 (bgn (I 2) 3) 2) 2) 1) 2) 1) = upd I 2 (bgn (bgn (bgn (bgn (I 2) 3) 2) 1) 1) := by
    funext j
    by_cases e : j = 2
    · rw [e]; rfl
    · rw [pk_un e, pk_un e, pk_un e, pk_un e]
  rw [e9] at hF3
  have e8 : nI x + 100 + nI x = 2 * nI x + 100 := by
    rw [show (100 : Int32) = nI 100 from rfl, show (2 : Int32) = nI 2 from rfl, pk_mul, nI_add, nI_add, nI_add]
    congr 1
    omega
  have hk9 := hK h3 hF3 ((x1.trs x2).trs x3)
  rw [← e8] at hk9
  exact hk9
theorem FcM.trc {I : Nat → Int32} {B : Nat → Nat → Int32} (hM : FcM I B S) (x : Int32) : FcM (upd I 2 x) B (setTr S x) := ⟨hM.1, hM.2.1, rfl, hM.2.2.2⟩
theorem cc_tell {x : Int32} (hok : StOk S) (hC : ClsH g rl h a S) (hK : ∀ h1, ClsH g rl h1 a (st_tell S x) → Ex CXp rl h rl h1 → K (some (.int (sp_tell S x))) h1) : Run l g d_X9_tell [.ref a, .int x] h 0 0 K := by
  have hC0 := hC
  obtain ⟨f, I, ca, sv, B, β, ad, A, hF, hFM, hO⟩ := hC
  obtain ⟨hβ, hH, hm, hl, hN, hfr, hdn, hsv⟩ := id hO
  have hL := hok.2.1
  have hB := hL.b
  have b1 := hL.1
  have hR := rw_done hok hO
  unfold st_tell sp_tell at hK
  refine vc_X9_tell (fun G hG => ?_)
  refine hG 0 _ _ _ _ _ ?_
  refine y_get hF.1 (by decide) rfl ?_
  refine y_call1 hH.1 (c_hasVillage hH ?_)
  refine b_Z (fun z => ?_) (fun z => ?_)
  · rw [if_neg z, if_neg z] at hK
    exact hK h hC0 Ex.rf
  rw [if_pos z, if_pos z] at hK
  obtain ⟨v, hv, rfl⟩ := isV_of z (by omega)
  rw [ix_nI (by omega)] at hK
  have k2 := (hB.2 v hv).1
  have b8 := val_le hL hv (sD S v) (hR.1 v hv)
  refine y_get hF.1 (by decide) rfl ?_
  refine y_get hH.1 (by decide) rfl ?_
  refine y_ra (v) hH.2.1 (by omega) (if_pos (hv)) ?_
  refine y_get hF.1 (by decide) rfl ?_
  refine y_get hF.1 (by decide) rfl ?_
  refine y_get hH.1 (by decide) rfl ?_
  refine y_ia v hH.dn (by omega) (hdn v hv) ?_
  refine y_callV rfl (hH.vo (hv)) (cls_tab _ _) (c_valueAt hH hm hB hv (hR.1 v hv) ?_)
  have hvo := hH.vo hv
  rw [← hFM.2.2.1] at hK
  have done : ∀ (y : Int32) (h1 : Hp), FcH g rl h1 a f (upd I 2 y) ca sv B → Ex (fun i => i = 102) rl h rl h1 → ClsH g rl h1 a (setTr S y) ∧ Ex CXp rl h rl h1 := fun y h1 hF1 x1 => ⟨⟨f, _, ca, sv, B, β, ad, A, hF1, hFM.trc y, hO.ex b1 x1 (by omega)⟩, fcx x1 (by omega)⟩
  by_cases e1 : kd (sL S) v = 1
  · rw [if_pos e1, if_pos e1] at hK
    refine y_callV (ci := clsOf (kd (sL S) v)) (d := d_X0_toldOf) rfl hvo (by rw [e1]; exact List.mem_cons_of_mem _ List.mem_cons_self) (k_toldOf0 (k := kd (sL S) v) (Or.inl e1) (by omega) hvo hF (fun h1 hF1 x1 => ?_))
    obtain ⟨d1, d2⟩ := done _ h1 hF1 x1
    exact hK h1 d1 d2
  rw [if_neg e1, if_neg e1] at hK
  by_cases e2 : kd (sL S) v = 2
  · rw [if_pos e2, if_pos e2] at hK
    rw [e2] at hvo
    refine y_callV (ci := clsOf 2) (d := d_X1_toldOf) rfl hvo (List.mem_cons_of_mem _ (List.mem_cons_of_mem _ List.mem_cons_self)) (k_toldOf1 (by omega) hvo hF (fun h1 hF1 x1 => ?_))
    obtain ⟨d1, d2⟩ := done _ h1 hF1 x1
    exact hK h1 d1 d2
  · rw [if_neg e2, if_neg e2] at hK
    have e0 : kd (sL S) v = 0 := by omega
    refine y_callV (ci := clsOf (kd (sL S) v)) (d := d_X4_toldOf) rfl hvo (by rw [e0]; exact List.mem_cons_self) (k_toldOf4 hvo hF (fun h1 hF1 x1 => ?_))
    obtain ⟨d1, d2⟩ := done _ h1 hF1 x1
    exact hK h1 d1 d2
theorem cc_ring {x : Int32} (hok : StOk S) (hC : ClsH g rl h a S) (hK : ∀ h1, ClsH g rl h1 a (st_ring S x) → Ex CXp rl h rl h1 → K (some (.int (sp_ring S x))) h1) : Run l g d_X9_ring [.ref a, .int x] h 0 0 K := by
  have hC0 := hC
  obtain ⟨f, I, ca, sv, B, β, ad, A, hF, hFM, hO⟩ := hC
  obtain ⟨hβ, hH, hm, hl, hN, hfr, hdn, hsv⟩ := id hO
  have hL := hok.2.1
  have hB := hL.b
  have b1 := hL.1
  unfold st_ring sp_ring at hK
  refine vc_X9_ring (fun G hG => ?_)
  refine hG 0 _ _ _ _ _ ?_
  refine y_get hF.1 (by decide) rfl ?_
  refine y_call1 hH.1 (c_hasVillage hH ?_)
  refine b_Z (fun z => ?_) (fun z => ?_)
  · rw [if_neg z, if_neg z] at hK
    exact hK h hC0 Ex.rf
  rw [if_pos z, if_pos z] at hK
  obtain ⟨v, hv, rfl⟩ := isV_of z (by omega)
  rw [ix_nI (by omega)] at hK
  have k2 := (hB.2 v hv).1
  refine y_get hF.1 (by decide) rfl ?_
  refine y_get hH.1 (by decide) rfl ?_
  refine y_ra (v) hH.2.1 (by omega) (if_pos (hv)) ?_
  refine y_get hF.1 (by decide) rfl ?_
  refine y_get hF.1 (by decide) rfl ?_
  refine y_get hH.1 (by decide) rfl ?_
  refine y_ia v hH.dn (by omega) (hdn v hv) ?_
  have hvo := hH.vo hv
  rw [← hFM.2.2.1] at hK
  by_cases e2 : kd (sL S) v = 2
  · rw [if_pos e2, if_pos e2] at hK
    rw [e2] at hvo
    refine y_callV (ci := clsOf 2) (d := d_X1_rungAt) rfl hvo (List.mem_cons_of_mem _ (List.mem_cons_of_mem _ List.mem_cons_self)) (vc_X1_rungAt (mc := 0) (ms := 0) (fun G hG => ?_))
    refine hG 0 _ _ _ _ _ ?_
    refine y_call1 hF.2.2.1 (k_leave hF (fun h1 hF1 x1 => ?_))
    exact hK h1 ⟨f, _, ca, sv, B, β, ad, A, hF1, hFM.trc _, hO.ex b1 x1 (by omega)⟩ (fcx x1 (by omega))
  · rw [if_neg e2, if_neg e2] at hK
    refine y_callV (ci := clsOf (kd (sL S) v)) (d := d_X4_rungAt) rfl hvo ?_ (vc_X4_rungAt (mc := 0) (ms := 0) (fun G hG => ?_))
    · have : kd (sL S) v = 0 ∨ kd (sL S) v = 1 := by omega
      rcases this with e | e
      · rw [e]; exact List.mem_cons_self
      · rw [e]; exact List.mem_cons_of_mem _ List.mem_cons_self
    refine hG 0 _ _ _ _ _ ?_
    refine y_call1 hF.2.2.1 (k_leave hF (fun h1 hF1 x1 => ?_))
    exact hK h1 ⟨f, _, ca, sv, B, β, ad, A, hF1, hFM.trc _, hO.ex b1 x1 (by omega)⟩ (fcx x1 (by omega))
theorem k_isOfKind {q k j ρ : Nat} {fs : List Value} (hj : j ≤ 2) (hk : k ≤ 2) (hvo : Ob rl h q ρ (.inr (clsOf k, fs))) (hK : K (some (.int (bP (j ≤ k)))) h) : Run l g d_X9_isOfKind [.ref q, .int (nI j)] h 0 0 K := by
  refine vc_X9_isOfKind (fun G hG => ?_)
  refine hG 0 _ _ _ _ _ ?_
  have k3 : k = 0 ∨ k = 1 ∨ k = 2 := by omega
  refine pk_eq j 2 (fun e => ?_) (fun e => ?_)
  · subst e
    rcases k3 with e | e | e
    · subst e
      exact y_inst hvo List.mem_cons_self ⟨Or.inl rfl, hK⟩
    · subst e
      exact y_inst hvo (List.mem_cons_of_mem _ List.mem_cons_self) ⟨Or.inl rfl, hK⟩
    · subst e
      exact y_inst hvo (List.mem_cons_of_mem _ (List.mem_cons_of_mem _ List.mem_cons_self)) ⟨Or.inr rfl, hK⟩
  · refine pk_eq j 0 (fun e0 => ?_) (fun e0 => ?_)
    · subst e0
      exact z1 (Nat.zero_le _) hK
    · have e1 : j = 1 := by omega
      subst e1
      rcases k3 with e | e | e
      · subst e
        exact y_inst hvo List.mem_cons_self (b_yes rfl ⟨Or.inl rfl, hK⟩)
      · subst e
        exact y_inst hvo (List.mem_cons_of_mem _ List.mem_cons_self) (b_no (by decide) ⟨Or.inr rfl, hK⟩)
      · subst e
        exact y_inst hvo (List.mem_cons_of_mem _ (List.mem_cons_of_mem _ List.mem_cons_self)) (b_no (by decide) ⟨Or.inr rfl, hK⟩)
theorem cc_as {x k : Int32} (hok : StOk S) (hC : ClsH g rl h a S) (hK : ∀ h1, ClsH g rl h1 a (st_as S x k) → Ex CXp rl h rl h1 → K (some (.int (sp_as S x k))) h1) : Run l g d_X9_as [.ref a, .int x, .int k] h 0 0 K := by
  obtain ⟨f, I, ca, sv, B, β, ad, A, hF, hFM, hO⟩ := hC
  obtain ⟨hβ, hH, hm, hl, hN, hfr, hdn, hsv⟩ := id hO
  have hL := hok.2.1
  have hB := hL.b
  have b1 := hL.1
  unfold st_as sp_as at hK
  refine vc_X9_as (fun G hG => ?_)
  refine hG 0 _ _ _ _ _ ?_
  refine y_putI hF.1 (by decide) (Nat.le_of_ble_eq_true rfl) rfl (fun h1 e1 x1 => ?_)
  have hF := hF.ob (I2 := upd I 1 0) e1 x1 rfl
  have hFM := hFM.fa 0
  have hO := hO.ex b1 x1 (by omega)
  have hH := hO.2.1
  have hx := fcx x1 (by omega)
  refine y_get hF.1 (by decide) rfl ?_
  refine y_call1 hH.1 (c_hasVillage hH ?_)
  refine b_Z (fun z => ?_) (fun z => ?_)
  · rw [if_neg z, if_neg (fun r => z r.1)] at hK
    exact hK h1 ⟨f, _, ca, sv, B, β, ad, A, hF, hFM, hO⟩ hx
  rw [if_pos z] at hK
  refine b_cases (fun y => ?_) (fun y => ?_)
  · have hn : ¬ InR k 0 2 := fun r => nlt.mpr r.1 y
    rw [if_neg hn, if_neg (fun r => hn r.2.1)] at hK
    exact hK h1 ⟨f, _, ca, sv, B, β, ad, A, hF, hFM, hO⟩ hx
  refine b_cases (fun w => ?_) (fun w => ?_)
  · have hn : InR k 0 2 := ⟨nlt.mp y, (le_c (a := 2) (b := 3) (by decide)).mp (nle.mpr w)⟩
    rw [if_pos hn] at hK
    obtain ⟨v, hv, rfl⟩ := isV_of z (by omega)
    rw [ix_nI (by omega)] at hK
    obtain ⟨j, hj, rfl⟩ := inR_of (n := 2) (by omega) hn
    have k2 := (hB.2 v hv).1
    have hvo := hH.vo hv
    refine y_get hF.1 (by decide) rfl ?_
    refine y_get hH.1 (by decide) rfl ?_
    refine y_ra (v) hH.2.1 (by omega) (if_pos (hv)) ?_
    refine y_callS (k_isOfKind hj k2 hvo ?_)
    refine b_Z (fun e => ?_) (fun e => ?_)
    · have e9 : nI (kd (sL S) v) < nI j := nI_lt (by omega) (by omega)
      rw [if_pos e9, if_pos ⟨z, hn, e9⟩] at hK
      refine y_call1 hF.1 (k_fallen hF (fun h2 hF2 x2 => ?_))
      exact hK h2 ⟨f, _, ca, sv, B, β, ad, A, hF2, hFM.fa 2, hO.ex b1 x2 (by omega)⟩ (hx.trs (fcx x2 (by omega)))
    · have e9 : ¬ nI (kd (sL S) v) < nI j := nlt.mpr (nI_le e (by omega))
      rw [if_neg e9, if_neg (fun r => e9 r.2.2)] at hK
      exact hK h1 ⟨f, _, ca, sv, B, β, ad, A, hF, hFM, hO⟩ hx
  · have hn : ¬ InR k 0 2 := fun r => w (nle.mp ((le_c (a := 2) (b := 3) (by decide)).mpr r.2))
    rw [if_neg hn, if_neg (fun r => hn r.2.1)] at hK
    exact hK h1 ⟨f, _, ca, sv, B, β, ad, A, hF, hFM, hO⟩ hx
end CC3

