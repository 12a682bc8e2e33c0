section CC6
variable {l : Launch} {g : Gm} {rl rl1 : Nat → Nat} {h h1 : Hp} {K : PT} {a : Nat} {S : St} {f : Nat → Nat} {I : Nat → Int32} {ca : Nat} {sv : Nat × Int32} {B : Nat → Nat → Int32} {β : Nat} {ad : Nat → Nat} {A : Nat → Nat → Int32}
theorem one_ne : ¬ (1 : Int32) = 0 := by decide
theorem k_surveyed (hok : StOk S) (hF : FcH g rl h a f I ca sv B) (hO : CoH g rl h β ca ad A sv (sL S) (sN S) (sD S)) (hK : ∀ (rl1 : Nat → Nat) (h1 : Hp) (s : Nat) (sd : Nat → Nat) (B9 : Nat → Nat → Int32) (W : Nat → Int64) (Re : Nat → Int32), FcH g rl1 h1 a f I ca (s, 1) B → CoH g rl1 h1 β ca ad A (s, 1) (sL S) (sN S) (sD S) → SvH g rl1 h1 2000 s sd (sL S) B9 W Re → SvM (sL S) (sN S) B9 W (pls (sL S)) → Ex CXp rl h rl1 h1 → K (some (.ref s)) h1) : Run l g d_X9_surveyed [.ref a] h 0 0 K := by
  have hL := hok.2.1
  have b1 := hL.1
  obtain ⟨s, z⟩ := sv
  obtain ⟨hβ, hH, hm, hl, hN, hfr, hdn, sd, vi, pl, B9, W, Re, C, hB9, hc, e⟩ := id hO
  have hB9 : SvB g rl h 2000 s sd vi pl B9 W Re := hB9
  refine vc_X9_surveyed (fun G hG => ?_)
  refine hG 0 _ _ _ _ _ ?_
  refine y_get hF.1 (by decide) rfl ?_
  rcases e with e | ⟨e, hV, hM⟩
  · have e : z = 0 := e
    subst e
    refine b_yes rfl ?_
    refine y_get hF.1 (by decide) rfl ?_
    refine y_get hF.1 (by decide) rfl ?_
    refine y_call1 hB9.1 (c_walk (by omega) hB9 hc hH hm hL hok.2.2.2.2.1.1 hl hok.2.2.2.2.1.2.1 (fun h3 B3 W3 C3 hV hc y3 hM => ?_))
    have hF := hF.ex y3 (fun i hi z => by have := z.1; omega)
    have hH := hH.ex y3 b1 (fun i hi z => by have := z.2; omega)
    refine y_putZ (Or.inr rfl) hF.1 (by decide) (Nat.le_of_ble_eq_true rfl) rfl (fun h4 e4 y4 => ?_)
    have hF := hF.ob (I2 := I) (ca2 := ca) (sv2 := (s, 1)) e4 y4 rfl
    have hH := hH.ex y4 b1 (fun i hi => by omega)
    have hV := hV.ex y4 (fun i h1 h2 => by omega)
    have hc := hc.ex y4 (by omega)
    refine y_get hF.1 (by decide) rfl ?_
    exact hK rl h4 s sd B3 W3 Re hF ⟨hβ, hH, hm, hl, hN, hfr, hdn, sd, _, _, B3, W3, Re, C3, hV.b, hc, Or.inr ⟨rfl, hV, hM⟩⟩ hV hM ((y3.mono (fun i z => by have := z.1; omega)).tr y4 (fun _ z => z) (fun i z => by omega))
  · have e : z = 1 := e
    subst e
    refine b_no one_ne ?_
    refine y_get hF.1 (by decide) rfl ?_
    exact hK rl h s sd B9 W Re hF hO hV hM Ex.rf
theorem k_surveyed2 {s : Nat} (hF : FcH g rl h a f I ca (s, 1) B) (hK : K (some (.ref s)) h) : Run l g d_X9_surveyed [.ref a] h 0 0 K := by
  refine vc_X9_surveyed (fun G hG => ?_)
  refine hG 0 _ _ _ _ _ ?_
  refine y_get hF.1 (by decide) rfl ?_
  refine b_no one_ne ?_
  refine y_get hF.1 (by decide) rfl ?_
  exact hK
theorem cuts0 {L : Ld} {nd : NT} (hL : LdOk L) (hN : Need L nd) : cntB (fun p => decide (0 < Wt L nd p ∧ 0 ≤ sumC L (pcut L p))) (pls L) = cntB (fun k => decide (isC L nd k)) 1296 := by
  rw [cuts_eq hL hN]
  refine cntB_congr (fun k _ => ?_)
  by_cases e : isC L nd k
  · rw [decide_eq_true e, decide_eq_true ⟨e, Nat.zero_le _⟩]
  · rw [decide_eq_false e, decide_eq_false (fun r => e r.1)]
theorem cc_cuts (hok : StOk S) (hC : ClsH g rl h a S) (hK : ∀ rl1 h1, ClsH g rl1 h1 a S → Ex CXp rl h rl1 h1 → K (some (.int (sp_cuts S))) h1) : Run l g d_X9_cuts [.ref a] h 0 0 K := by
  have hC0 := hC
  obtain ⟨f, I, ca, sv, B, β, ad, A, hF, hFM, hO⟩ := hC
  obtain ⟨hβ, hH, hm, hl, hN, hfr, hdn, hsv⟩ := id hO
  have hL := hok.2.1
  have hB := hL.b
  have b1 := hL.1
  unfold sp_cuts at hK
  refine vc_X9_cuts (fun G hG => ?_)
  refine hG 0 _ _ _ _ _ ?_
  refine y_get hF.1 (by decide) rfl ?_
  refine y_get hH.1 (by decide) rfl ?_
  refine pk_eq (vn (sL S)) 0 (fun z => ?_) (fun z => ?_)
  · rw [if_pos z] at hK
    exact hK rl h hC0 Ex.rf
  rw [if_neg z] at hK
  refine y_call1 hF.1 (k_surveyed hok hF hO (fun rl1 h1 s sd B9 W Re hF hO hV hM hx => ?_))
  refine y_call1 hV.1 (c_cutsFrom (v := 0) hV hM hL (by omega) ?_)
  rw [cuts0 hL hok.2.2.2.2.1.2.1]
  exact hK rl1 h1 ⟨f, I, ca, _, B, β, ad, A, hF, hFM, hO⟩ hx
theorem cc_runs (hok : StOk S) (hC : ClsH g rl h a S) (hK : ∀ rl1 h1, ClsH g rl1 h1 a S → Ex CXp rl h rl1 h1 → K (some (.long (sp_runs S))) h1) : Run l g d_X9_runs [.ref a] h 0 0 K := by
  have hC0 := hC
  obtain ⟨f, I, ca, sv, B, β, ad, A, hF, hFM, hO⟩ := hC
  obtain ⟨hβ, hH, hm, hl, hN, hfr, hdn, hsv⟩ := id hO
  have hL := hok.2.1
  have hB := hL.b
  have b1 := hL.1
  unfold sp_runs at hK
  refine vc_X9_runs (fun G hG => ?_)
  refine hG 0 _ _ _ _ _ ?_
  refine y_get hF.1 (by decide) rfl ?_
  refine y_get hH.1 (by decide) rfl ?_
  refine pk_eq (vn (sL S)) 0 (fun z => ?_) (fun z => ?_)
  · rw [if_pos z] at hK
    exact hK rl h hC0 Ex.rf
  rw [if_neg z] at hK
  refine y_call1 hF.1 (k_surveyed hok hF hO (fun rl1 h1 s sd B9 W Re hF hO hV hM hx => ?_))
  refine y_call1 hV.1 (c_runsInAll hV hM hL ?_)
  exact hK rl1 h1 ⟨f, I, ca, _, B, β, ad, A, hF, hFM, hO⟩ hx
theorem cc_some {v : Int32} (hok : StOk S) (hC : ClsH g rl h a S) (hK : ∀ rl1 h1, ClsH g rl1 h1 a S → Ex CXp rl h rl1 h1 → K (some (.int (sp_some S v))) h1) : Run l g d_X9_some [.ref a, .int v] h 0 0 K := by
  have hC0 := hC
  obtain ⟨f, I, ca, sv, B, β, ad, A, hF, hFM, hO⟩ := hC
  obtain ⟨hβ, hH, hm, hl, hN, hfr, hdn, hsv⟩ := id hO
  have hL := hok.2.1
  have hB := hL.b
  have b1 := hL.1
  unfold sp_some at hK
  refine vc_X9_some (fun G hG => ?_)
  refine hG 0 _ _ _ _ _ ?_
  refine y_callS (k_isSum ?_)
  refine b_Z (fun y => ?_) (fun y => ?_)
  · rw [if_neg y] at hK
    exact hK rl h hC0 Ex.rf
  rw [if_pos y] at hK
  refine y_get hF.1 (by decide) rfl ?_
  refine y_get hH.1 (by decide) rfl ?_
  refine pk_eq (vn (sL S)) 0 (fun z => ?_) (fun z => ?_)
  · rw [if_pos z] at hK
    exact hK rl h hC0 Ex.rf
  rw [if_neg z] at hK
  obtain ⟨j, hj, rfl⟩ := inR_of (n := 99) (by omega) y
  rw [ix_nI (by omega)] at hK
  refine y_call1 hF.1 (k_surveyed hok hF hO (fun rl1 h1 s sd B9 W Re hF hO hV hM hx => ?_))
  refine y_call1 hV.1 (c_fewestOf (v := j) hV hM hL (by omega) ?_)
  rw [few_eq hL hok.2.2.2.2.1.2.1]
  exact hK rl1 h1 ⟨f, I, ca, _, B, β, ad, A, hF, hFM, hO⟩ hx
theorem cc_every {v : Int32} (hok : StOk S) (hC : ClsH g rl h a S) (hK : ∀ rl1 h1, ClsH g rl1 h1 a S → Ex CXp rl h rl1 h1 → K (some (.int (sp_every S v))) h1) : Run l g d_X9_every [.ref a, .int v] h 0 0 K := by
  have hC0 := hC
  obtain ⟨f, I, ca, sv, B, β, ad, A, hF, hFM, hO⟩ := hC
  obtain ⟨hβ, hH, hm, hl, hN, hfr, hdn, hsv⟩ := id hO
  have hL := hok.2.1
  have hB := hL.b
  have b1 := hL.1
  unfold sp_every at hK
  refine vc_X9_every (fun G hG => ?_)
  refine hG 0 _ _ _ _ _ ?_
  refine y_callS (k_isSum ?_)
  refine b_Z (fun y => ?_) (fun y => ?_)
  · rw [if_neg y] at hK
    exact hK rl h hC0 Ex.rf
  rw [if_pos y] at hK
  refine y_get hF.1 (by decide) rfl ?_
  refine y_get hH.1 (by decide) rfl ?_
  refine pk_eq (vn (sL S)) 0 (fun z => ?_) (fun z => ?_)
  · rw [if_pos z] at hK
    exact hK rl h hC0 Ex.rf
  rw [if_neg z] at hK
  obtain ⟨j, hj, rfl⟩ := inR_of (n := 99) (by omega) y
  rw [ix_nI (by omega)] at hK
  refine y_call1 hF.1 (k_surveyed hok hF hO (fun rl1 h1 s sd B9 W Re hF hO hV hM hx => ?_))
  obtain ⟨hβ, hH, hm, hl, hN, hfr, hdn, sd9, vi9, pl9, B8, W8, Re8, C8, -, hc8, e8⟩ := hO
  rcases e8 with e8 | ⟨-, hV8, hM8⟩
  · exact absurd e8 one_ne
  refine y_call1 hV.1 (c_canGoAround (v := j) hV8 hM8 hL hok.2.2.2.2.1.2.1 (by omega) (fun h2 Re2 hV2 y2 => ?_))
  have hC2 : ClsH g rl1 h2 a S := ⟨f, I, ca, _, B, β, ad, A, hF.ex y2 (fun i hi z => by omega), hFM, ⟨hβ, hH.ex y2 b1 (fun i hi z => by omega), hm, hl, hN, hfr, hdn, sd9, _, _, B8, W8, Re2, C8, hV2.b, hc8.ex y2 (by omega), Or.inr ⟨rfl, hV2, hM8⟩⟩⟩
  have hK := hK rl1 h2 hC2 (hx.tr y2 (fun _ z => z) (fun i z => by omega))
  refine b_Z (fun c => ?_) (fun c => ?_)
  · rw [bP_1 (show Wn (sL S) (sN S) (okN (sL S) j) (tn (sL S)) = 0 by omega)] at hK
    exact hK
  · rw [bP_0 (show ¬ Wn (sL S) (sN S) (okN (sL S) j) (tn (sL S)) = 0 by omega)] at hK
    exact hK
theorem k_commonDivisor {u d : Nat} (hu : u < 1300) (hd : d < 1300) (hK : K (some (.int (nI (Nat.gcd u d)))) h) : Run l g d_X9_commonDivisor [.int (nI u), .int (nI d)] h 0 0 K := by
  refine vc_X9_commonDivisor (fun G hG => ?_)
  have loop : ∀ (k x y s : Nat) (o5 : Option Value), y < 2 ^ k → s + 2 * k < 64 → x < 1300 → y < 1300 → Nat.gcd x y = Nat.gcd u d → G 1 h 0 0 [some (.int (nI u)), some (.int (nI d)), some (.int (nI x)), some (.int (nI y)), some (.int (nI s)), o5] [] := by
    intro k
    induction k with
    | zero =>
      intro x y s o5 hy hs hx hy2 hg
      have y0 : y = 0 := by simp at hy; exact hy
      subst y0
      refine hG 1 _ _ _ _ _ ?_
      refine b_ge s 64 (fun _ => by omega) (fun _ => ?_)
      refine b_yes rfl ?_
      rw [Nat.gcd_zero_right] at hg
      rw [hg]
      exact hK
    | succ k ih =>
      intro x y s o5 hy hs hx hy2 hg
      refine hG 1 _ _ _ _ _ ?_
      refine b_ge s 64 (fun _ => by omega) (fun _ => ?_)
      refine pk_eq y 0 (fun e => ?_) (fun e => ?_)
      · subst e
        rw [Nat.gcd_zero_right] at hg
        rw [hg]
        exact hK
      refine ⟨fun z => e ((nI_eq (a := y) (b := 0) (by omega) (by omega)).mp z), ?_⟩
      have r1 : nI x - nI x / nI y * nI y = nI (x % y) := pk_rem (by omega) (by omega) (by omega)
      have m1 := Nat.mod_lt x (show 0 < y by omega)
      have g1 : Nat.gcd y (x % y) = Nat.gcd u d := by rw [← hg, Nat.gcd_comm x y, Nat.gcd_rec y x, Nat.gcd_comm]
      have hg2 : G 1 h 0 0 [some (.int (nI u)), some (.int (nI d)), some (.int (nI y)), some (.int (nI (x % y))), some (.int (nI s + 1)), some (.int (nI (x % y)))] [] := by
        refine hG 1 _ _ _ _ _ ?_
        refine b_ge (s + 1) 64 (fun _ => by omega) (fun _ => ?_) (nI_1 s)
        refine pk_eq (x % y) 0 (fun e2 => ?_) (fun e2 => ?_)
        · rw [e2, Nat.gcd_zero_right] at g1
          rw [g1]
          exact hK
        refine ⟨fun z => e2 ((nI_eq (a := x % y) (b := 0) (by omega) (by omega)).mp z), ?_⟩
        have r2 : nI y - nI y / nI (x % y) * nI (x % y) = nI (y % (x % y)) := pk_rem (by omega) (by omega) (by omega)
        have m2 := Nat.mod_lt y (show 0 < x % y by omega)
        have m3 : y % (x % y) ≤ y - x % y := by
          rw [Nat.mod_eq_sub_mod (by omega : x % y ≤ y)]
          exact Nat.mod_le _ _
        have pw : 2 ^ (k + 1) = 2 * 2 ^ k := by rw [Nat.pow_succ, Nat.mul_comm]
        have g2 : Nat.gcd (x % y) (y % (x % y)) = Nat.gcd u d := by rw [← g1, Nat.gcd_comm y, Nat.gcd_rec (x % y) y, Nat.gcd_comm]
        have ih9 := ih (x % y) (y % (x % y)) (s + 2) (some (.int (nI (y % (x % y))))) (by omega) (by omega) (by omega) (by omega) g2
        rw [← r2, show s + 2 = s + 1 + 1 from rfl, nI_succ (s + 1), nI_succ s] at ih9
        exact ih9
      rw [← r1] at hg2
      have hg3 := hg2
      rw [r1] at hg3
      have e9 := hg2
      exact e9
  refine hG 0 _ _ _ _ _ ?_
  exact loop 11 u d 0 none (by omega) (by omega) hu hd rfl
theorem cc_odds {v w : Int32} (hok : StOk S) (hC : ClsH g rl h a S) (hK : ∀ rl1 h1, ClsH g rl1 h1 a S → Ex CXp rl h rl1 h1 → K (some (.long (sp_odds S v w))) h1) : Run l g d_X9_odds [.ref a, .int v, .int w] h 0 0 K := by
  have hC0 := hC
  obtain ⟨f, I, ca, sv, B, β, ad, A, hF, hFM, hO⟩ := hC
  obtain ⟨hβ, hH, hm, hl, hN, hfr, hdn, hsv⟩ := id hO
  have hL := hok.2.1
  have hB := hL.b
  have b1 := hL.1
  have hNd := hok.2.2.2.2.1.2.1
  unfold sp_odds at hK
  refine vc_X9_odds (fun G hG => ?_)
  refine hG 0 _ _ _ _ _ ?_
  refine y_callS (k_isSum ?_)
  refine b_Z (fun y => ?_) (fun y => ?_)
  · rw [if_neg (fun r => y r.1)] at hK
    exact hK rl h hC0 Ex.rf
  refine b_cases (fun c => ?_) (fun c => ?_)
  · rw [if_neg (fun r => nlt.mpr r.2.1.1 c)] at hK
    exact hK rl h hC0 Ex.rf
  refine b_cases (fun d => ?_) (fun d => ?_)
  · rw [if_neg (fun r => nlt.mpr r.2.1.2 d)] at hK
    exact hK rl h hC0 Ex.rf
  refine y_get hF.1 (by decide) rfl ?_
  refine y_get hH.1 (by decide) rfl ?_
  refine pk_eq (vn (sL S)) 0 (fun z => ?_) (fun z => ?_)
  · rw [if_neg (fun r => r.2.2 z)] at hK
    exact hK rl h hC0 Ex.rf
  have hall : InR v 0 99 ∧ InR w 0 1 ∧ ¬ vn (sL S) = 0 := ⟨y, ⟨nlt.mp c, nlt.mp d⟩, z⟩
  rw [if_pos hall] at hK
  clear hall
  obtain ⟨j, hj, rfl⟩ := inR_of (n := 99) (by omega) y
  rw [ix_nI (by omega)] at hK
  refine y_call1 hF.1 (k_surveyed hok hF hO (fun rl1 h1 s sd B9 W Re hF hO hV hM hx => ?_))
  refine y_call1 hV.1 (c_cutsFrom (v := j) hV hM hL (by omega) ?_)
  have eU : cntB (fun p => decide (0 < Wt (sL S) (sN S) p ∧ j ≤ sumC (sL S) (pcut (sL S) p))) (pls (sL S)) = oddU S j := cuts_eq hL hNd j
  rw [eU]
  refine y_call1 hF.1 (k_surveyed2 hF ?_)
  refine y_call1 hV.1 (c_cutsFrom (v := 0) hV hM hL (by omega) ?_)
  have eD : cntB (fun p => decide (0 < Wt (sL S) (sN S) p ∧ 0 ≤ sumC (sL S) (pcut (sL S) p))) (pls (sL S)) = oddD S := cuts0 hL hNd
  rw [eD]
  have bU : oddU S j ≤ 1296 := cntB_le _ _
  have bD : oddD S ≤ 1296 := cntB_le _ _
  have pD : 0 < oddD S := cntB_pos (k := 0) (by omega) (decide_eq_true isC_0)
  have hK := hK rl1 h1 ⟨f, I, ca, _, B, β, ad, A, hF, hFM, hO⟩ hx
  have pG : 0 < Nat.gcd (oddU S j) (oddD S) := Nat.gcd_pos_of_pos_right _ pD
  have lG : Nat.gcd (oddU S j) (oddD S) ≤ 1296 := Nat.le_trans (Nat.le_of_dvd pD (Nat.gcd_dvd_right _ _)) bD
  refine y_callS (k_commonDivisor (by omega) (by omega) ?_)
  have g0 : ¬ nI (Nat.gcd (oddU S j) (oddD S)) = 0 := fun e => by have := (nI_eq (b := 0) (by omega) (by omega)).mp e; omega
  refine b_no g0 ?_
  have d1 : oddU S j / Nat.gcd (oddU S j) (oddD S) ≤ 1296 := Nat.le_trans (Nat.div_le_self _ _) bU
  have d2 : oddD S / Nat.gcd (oddU S j) (oddD S) ≤ 1296 := Nat.le_trans (Nat.div_le_self _ _) bD
  refine b_cases (fun e => ?_) (fun e => ?_)
  · rw [if_pos e] at hK
    refine ⟨g0, ?_⟩
    have e9 : (nI (oddU S j) / nI (Nat.gcd (oddU S j) (oddD S))).toInt64 = lN (oddU S j / Nat.gcd (oddU S j) (oddD S)) := by rw [pk_div (by omega) (by omega) (by omega), nI_l (by omega)]
    rw [← e9] at hK
    exact hK
  · rw [if_neg e] at hK
    refine ⟨g0, ?_⟩
    have e9 : (nI (oddD S) / nI (Nat.gcd (oddU S j) (oddD S))).toInt64 = lN (oddD S / Nat.gcd (oddU S j) (oddD S)) := by rw [pk_div (by omega) (by omega) (by omega), nI_l (by omega)]
    rw [← e9] at hK
    exact hK
end CC6

