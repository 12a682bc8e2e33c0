theorem dX10_inLeastTerms_0 : decode cX10_inLeastTerms 0 = .ok (.lload_n 0, 1) := by decide +kernel
theorem dX10_inLeastTerms_1 : decode cX10_inLeastTerms 1 = .ok (.lstore 5, 2) := by decide +kernel
theorem dX10_inLeastTerms_3 : decode cX10_inLeastTerms 3 = .ok (.lload_n 2, 1) := by decide +kernel
theorem dX10_inLeastTerms_4 : decode cX10_inLeastTerms 4 = .ok (.lstore 7, 2) := by decide +kernel
theorem dX10_inLeastTerms_6 : decode cX10_inLeastTerms 6 = .ok (.lload 7, 2) := by decide +kernel
theorem dX10_inLeastTerms_8 : decode cX10_inLeastTerms 8 = .ok (.lconst 0, 1) := by decide +kernel
theorem dX10_inLeastTerms_9 : decode cX10_inLeastTerms 9 = .ok (.lcmp, 1) := by decide +kernel
theorem dX10_inLeastTerms_10 : decode cX10_inLeastTerms 10 = .ok (.ifCond .eq 21, 3) := by decide +kernel
theorem dX10_inLeastTerms_13 : decode cX10_inLeastTerms 13 = .ok (.lload 5, 2) := by decide +kernel
theorem dX10_inLeastTerms_15 : decode cX10_inLeastTerms 15 = .ok (.lload 7, 2) := by decide +kernel
theorem dX10_inLeastTerms_17 : decode cX10_inLeastTerms 17 = .ok (.lrem, 1) := by decide +kernel
theorem dX10_inLeastTerms_18 : decode cX10_inLeastTerms 18 = .ok (.lstore 9, 2) := by decide +kernel
theorem dX10_inLeastTerms_20 : decode cX10_inLeastTerms 20 = .ok (.lload 7, 2) := by decide +kernel
theorem dX10_inLeastTerms_22 : decode cX10_inLeastTerms 22 = .ok (.lstore 5, 2) := by decide +kernel
theorem dX10_inLeastTerms_24 : decode cX10_inLeastTerms 24 = .ok (.lload 9, 2) := by decide +kernel
theorem dX10_inLeastTerms_26 : decode cX10_inLeastTerms 26 = .ok (.lstore 7, 2) := by decide +kernel
theorem dX10_inLeastTerms_28 : decode cX10_inLeastTerms 28 = .ok (.goto (-22), 3) := by decide +kernel
theorem dX10_inLeastTerms_31 : decode cX10_inLeastTerms 31 = .ok (.iload 4, 2) := by decide +kernel
theorem dX10_inLeastTerms_33 : decode cX10_inLeastTerms 33 = .ok (.ifCond .ne 10, 3) := by decide +kernel
theorem dX10_inLeastTerms_36 : decode cX10_inLeastTerms 36 = .ok (.lload_n 0, 1) := by decide +kernel
theorem dX10_inLeastTerms_37 : decode cX10_inLeastTerms 37 = .ok (.lload 5, 2) := by decide +kernel
theorem dX10_inLeastTerms_39 : decode cX10_inLeastTerms 39 = .ok (.ldiv, 1) := by decide +kernel
theorem dX10_inLeastTerms_40 : decode cX10_inLeastTerms 40 = .ok (.goto 7, 3) := by decide +kernel
theorem dX10_inLeastTerms_43 : decode cX10_inLeastTerms 43 = .ok (.lload_n 2, 1) := by decide +kernel
theorem dX10_inLeastTerms_44 : decode cX10_inLeastTerms 44 = .ok (.lload 5, 2) := by decide +kernel
theorem dX10_inLeastTerms_46 : decode cX10_inLeastTerms 46 = .ok (.ldiv, 1) := by decide +kernel
theorem dX10_inLeastTerms_47 : decode cX10_inLeastTerms 47 = .ok (.lreturn, 1) := by decide +kernel
theorem lcmp0 {y : Nat} (hy : y < 2 ^ 63) : lg_cmp (lN y) 0 = 0 ↔ y = 0 := by
  have e0 : (0 : Int64) = lN 0 := rfl
  rw [e0]
  unfold lg_cmp
  constructor
  · intro h
    by_cases h1 : lN y > lN 0
    · rw [if_pos h1] at h; exact absurd h (by decide)
    · rw [if_neg h1] at h
      by_cases h2 : lN y = lN 0
      · exact (pk_lEQ hy (by omega)).mp h2
      · rw [if_neg h2] at h; exact absurd h (by decide)
  · intro h
    subst h
    decide
section MM11
variable {l : Launch} {g : Gm} {rl : Nat → Nat} {h : Hp} {K : PT} {m : Nat} {q : Nat → Nat} {I : Nat → Int32} {A : Nat → Nat → Int32} {Wy : Nat → Int64} {S : St} {L : Ld} {nd : Nat → Nat → Nat → Nat} {c : Nat → Nat}
set_option maxRecDepth 100000 in
theorem m_ilt {u d : Nat} {w : Int32} {x1 x2 : Int64} (hu : u < 2 ^ 31) (hd : d < 2 ^ 31) (hd0 : 0 < d) (hK : K (some (.long (if w = 0 then lN (u / Nat.gcd u d) else lN (d / Nat.gcd u d)))) h) (e1 : x1 = lN u := by rfl) (e2 : x2 = lN d := by rfl) : Run l g d_X10_inLeastTerms [.long x1, .long x2, .int w] h 0 0 K := by
  subst e1 e2
  intro sz
  refine Met.ofW (cc := cX10_inLeastTerms) (maxL := 11) (ret := some .long) (by decide) rfl ?_
  intro p e s m args below meth c s₁ B hml hv
  obtain ⟨rfl, rfl, hKK, hok⟩ := hv
  have hx := B.exec
  have hb : c.code = cX10_inLeastTerms := B.bytes
  have hr := B.returns
  have hlk := B.notSynchronized
  have hl := lv_entry ([.long (lN u), .long (lN d), .int w]) (n := 11) (Nat.le_of_ble_eq_true rfl)
  rw [lg_entry_eq]
  generalize (lg_sl ([.long (lN u), .long (lN d), .int w]) ++ List.replicate (11 - (lg_sl ([.long (lN u), .long (lN d), .int w])).length) Slot.unset).toArray = ls at hl ⊢
  have hl : lv_has ls 11 [(0, .long (lN u)), (2, .long (lN d)), (4, .int w)] := hl
  refine lv_lload_n hx hb dX10_inLeastTerms_0 rfl (lv_at hl 0 rfl) ?_
  refine lv_lstore (lv' := [(5, .long (lN u)), (0, .long (lN u)), (2, .long (lN d)), (4, .int w)]) hx hb dX10_inLeastTerms_1 hl (by decide) rfl (fun ls hl => ?_)
  refine lv_lload_n hx hb dX10_inLeastTerms_3 rfl (lv_at hl 2 rfl) ?_
  refine lv_lstore (lv' := [(7, .long (lN d)), (5, .long (lN u)), (0, .long (lN u)), (2, .long (lN d)), (4, .int w)]) hx hb dX10_inLeastTerms_4 hl (by decide) rfl (fun ls hl => ?_)
  have loop : ∀ n x y, y < n → x < 2 ^ 31 → y < 2 ^ 31 → Nat.gcd x y = Nat.gcd u d → ∀ ls : Array Slot, lv_has ls 11 [(7, .long (lN y)), (5, .long (lN x)), (0, .long (lN u)), (2, .long (lN d)), (4, .int w)] → W p l e (headSpec (mdW d_X10_inLeastTerms) (mdR d_X10_inLeastTerms 0 0)).room s m ([Value.long (lN u), Value.long (lN d), Value.int w].toArray) below meth c s.heap [] 0 0 (MQ below (QcR g h s.heap.size K) ([Value.long (lN u), Value.long (lN d), Value.int w].toArray) s 0 0 (Adom h s.heap.size)) (F0 m 6 ls []) := by
    intro n
    induction n with
    | zero => intro x y hy; exact absurd hy (Nat.not_lt_zero _)
    | succ n ih =>
      intro x y hyn hx2 hy2 hg ls hl
      refine lv_lload hx hb dX10_inLeastTerms_6 (lv_at hl 0 rfl) ?_
      refine lv_lconst hx hb dX10_inLeastTerms_8 rfl ?_
      refine W.lcmp hx hb dX10_inLeastTerms_9 ?_
      refine lv_if_eq (tgt := 31) hx hb dX10_inLeastTerms_10 (by decide) (fun z => ?_) (fun z => ?_)
      · have y0 : y = 0 := (lcmp0 (by omega)).mp z
        subst y0
        rw [Nat.gcd_zero_right] at hg
        have hx0 : 0 < x := by rw [hg]; exact Nat.gcd_pos_of_pos_right _ hd0
        have hne : ¬ lN x = 0 := fun e => by have := (pk_lEQ (a := x) (b := 0) (by omega) (by omega)).mp e; omega
        refine lv_iload hx hb dX10_inLeastTerms_31 (lv_at hl 4 rfl) ?_
        refine lv_if_ne (tgt := 43) hx hb dX10_inLeastTerms_33 (by decide) (fun v => ?_) (fun v => ?_)
        · rw [if_neg v, ← hg] at hK
          refine lv_lload_n hx hb dX10_inLeastTerms_43 rfl (lv_at hl 3 rfl) ?_
          refine lv_lload hx hb dX10_inLeastTerms_44 (lv_at hl 1 rfl) ?_
          refine lv_ldiv hx hb dX10_inLeastTerms_46 hne ?_
          rw [pk_lDiv (by omega) hx0 (by omega)]
          exact W.lret hx hb hr (fun t ht hW => ⟨⟨_, h, rfl, hK, by rw [ht]; exact hok.self _⟩, va_S.rf.F ht⟩) (fun _ h => by cases h) dX10_inLeastTerms_47 (hlocks := hlk)
        · rw [if_pos v, ← hg] at hK
          refine lv_lload_n hx hb dX10_inLeastTerms_36 rfl (lv_at hl 2 rfl) ?_
          refine lv_lload hx hb dX10_inLeastTerms_37 (lv_at hl 1 rfl) ?_
          refine lv_ldiv hx hb dX10_inLeastTerms_39 hne ?_
          refine lv_goto (tgt := 47) hx hb dX10_inLeastTerms_40 (by decide) ?_
          rw [pk_lDiv (by omega) hx0 (by omega)]
          exact W.lret hx hb hr (fun t ht hW => ⟨⟨_, h, rfl, hK, by rw [ht]; exact hok.self _⟩, va_S.rf.F ht⟩) (fun _ h => by cases h) dX10_inLeastTerms_47 (hlocks := hlk)
      · have y0 : ¬ y = 0 := fun e => z ((lcmp0 (by omega)).mpr e)
        have hne : ¬ lN y = 0 := fun e => y0 ((pk_lEQ (a := y) (b := 0) (by omega) (by omega)).mp e)
        refine lv_lload hx hb dX10_inLeastTerms_13 (lv_at hl 1 rfl) ?_
        refine lv_lload hx hb dX10_inLeastTerms_15 (lv_at hl 0 rfl) ?_
        refine lv_lrem hx hb dX10_inLeastTerms_17 hne ?_
        rw [pk_lRem (by omega) (by omega) (by omega)]
        have hm : x % y < y := Nat.mod_lt _ (by omega)
        refine lv_lstore (lv' := [(9, .long (lN (x % y))), (7, .long (lN y)), (5, .long (lN x)), (0, .long (lN u)), (2, .long (lN d)), (4, .int w)]) hx hb dX10_inLeastTerms_18 hl (by decide) rfl (fun ls hl => ?_)
        refine lv_lload hx hb dX10_inLeastTerms_20 (lv_at hl 1 rfl) ?_
        refine lv_lstore (lv' := [(5, .long (lN y)), (9, .long (lN (x % y))), (7, .long (lN y)), (0, .long (lN u)), (2, .long (lN d)), (4, .int w)]) hx hb dX10_inLeastTerms_22 hl (by decide) rfl (fun ls hl => ?_)
        refine lv_lload hx hb dX10_inLeastTerms_24 (lv_at hl 1 rfl) ?_
        refine lv_lstore (lv' := [(7, .long (lN (x % y))), (5, .long (lN y)), (9, .long (lN (x % y))), (0, .long (lN u)), (2, .long (lN d)), (4, .int w)]) hx hb dX10_inLeastTerms_26 hl (by decide) rfl (fun ls hl => ?_)
        refine lv_goto (tgt := 6) hx hb dX10_inLeastTerms_28 (by decide) ?_
        refine ih y (x % y) (by omega) hy2 (by omega) ?_ ls (lv_sub hl [0, 1, 3, 4, 5] rfl)
        rw [← hg, Nat.gcd_comm x y, Nat.gcd_rec y x, Nat.gcd_comm (x % y) y]
  exact loop (d + 1) u d (by omega) hu hd rfl ls hl
/-- the reference's row of ways -/
def Wm (L : Ld) (nd : Nat → Nat → Nat → Nat) (ok : (Nat → Nat) → Bool) (k : Nat) : Nat := if isC L nd k then Wn L nd ok (dgc k) else 0
def okExt (L : Ld) (ok : (Nat → Nat) → Bool) : Prop := ∀ c d : Nat → Nat, (∀ v, v < vn L → c v = d v) → ok c = ok d
theorem Wm_pred {ok : (Nat → Nat) → Bool} (hok : okExt L ok) (b1 : vn L ≤ 4) {k v : Nat} (hk : isC L nd k) (hv : v < vn L) (h0 : 0 < dgc k v) : Wm L nd ok (k - 6 ^ v) = Wn L nd ok (updN (dgc k) v (dgc k v - 1)) := by
  obtain ⟨p1, p2⟩ := dgc_pred (code := k) (v := v) (by omega) h0
  have ec : Wn L nd ok (dgc (k - 6 ^ v)) = Wn L nd ok (updN (dgc k) v (dgc k v - 1)) := Wf_congr hok 20 _ _ (fun w hw => p2 w (by omega))
  unfold Wm
  by_cases hc : isC L nd (k - 6 ^ v)
  · rw [if_pos hc, ec]
  · rw [if_neg hc, ← ec]
    have hd : ∀ w, w < vn L → dgc (k - 6 ^ v) w ≤ tn L w := fun w hw => by
      rw [p2 w (by omega)]
      by_cases e : w = v
      · subst e
        rw [updN_s]
        have := hk.1 w hw
        omega
      · rw [updN_n e]; exact hk.1 w hw
    have hz := dgc_div (w := 0) hv b1 h0 hk.2.1
    have hn : ¬ Cbe L nd (dgc (k - 6 ^ v)) := fun z => hc ⟨hd, hz, z⟩
    unfold Wn Wf
    rw [if_neg (fun z => hn z.1)]
theorem m_findWays {ok : (Nat → Nat) → Bool} {x : Int32} (hok9 : okExt L ok) (hbut : (x = -9 ∧ ∀ c, ok c = true) ∨ ∃ v, v ≤ 99 ∧ x = nI v ∧ ∀ c, ok c = decide (sumC L c ≠ v)) (hM : ModH g rl h m q I A Wy) (hL : MLand I A L nd) (hK : ∀ (h1 : Hp) (F : Nat → Int32) (E : Nat → Int64), ModH g rl h1 m q I (va_up A 21 F) E → MX rl h h1 → (∀ k, k < 1296 → E k = lN (Wm L nd ok k)) → K none h1) : Run l g d_X10_findWays [.ref m, .int x] h 0 0 K := by
  have h5 := hL.2.1
  have b1 := hL.1.1
  refine vc_X10_findWays (fun G hG => ?_)
  refine hG 0 _ _ _ _ _ ?_
  have loop : ∀ kk j, j + kk = 1296 → ∀ (h1 : Hp) (F : Nat → Int32) (E : Nat → Int64) (o3 o4 : Option Value), ModH g rl h1 m q I (va_up A 21 F) E → MX rl h h1 → (∀ k, k < j → E k = lN (Wm L nd ok k)) → G 1 h1 0 0 [some (.ref m), some (.int x), some (.int (nI j)), o3, o4] [] := by
    intro kk
    induction kk with
    | zero =>
      intro j hj h1 F E o3 o4 hM hx hE
      refine hG 1 _ _ _ _ _ ?_
      refine b_ge j 1296 (fun _ => ?_) (fun _ => by omega)
      exact hK h1 F E hM hx (fun k hk => hE k (by omega))
    | succ kk ih =>
      intro j hj h1 F E o3 o4 hM hx hE
      refine hG 1 _ _ _ _ _ ?_
      refine b_ge j 1296 (fun _ => by omega) (fun _ => ?_)
      refine y_get hM.1 (by decide) rfl ?_
      refine y_js j hM.2.2 (by omega) (fun h2 e2 x2 => ?_)
      have hM := hM.setW e2 x2
      have hx := hx.trs (MX.of x2)
      have hL2 : MLand I (va_up A 21 F) L nd := hL
      have next : ∀ (h3 : Hp) (F3 : Nat → Int32) (E3 : Nat → Int64) (o3 o4 : Option Value), ModH g rl h3 m q I (va_up A 21 F3) E3 → MX rl h h3 → (∀ k, k < j + 1 → E3 k = lN (Wm L nd ok k)) → G 1 h3 0 0 [some (.ref m), some (.int x), some (.int (nI j + 1)), o3, o4] [] := fun h3 F3 E3 o3 o4 hM3 hx3 hE3 => by
        have ih9 := ih (j + 1) (by omega) h3 F3 E3 o3 o4 hM3 hx3 hE3
        rw [nI_succ j] at ih9
        exact ih9 
      have hE2 : ∀ k, k < j → vp_updL E j 0 k = lN (Wm L nd ok k) := fun k hk => by rw [pk_uLn (by omega)]; exact hE k hk
      refine y_call1 hM.1 (m_isCut (by omega) hM hL2 (fun h3 F2 hM hx2 hcut => ?_))
      rw [up_up] at hM hcut
      have hx := hx.trs hx2
      have hL3 : MLand I (va_up A 21 F2) L nd := hL
      refine b_Z (fun c1 => ?_) (fun c1 => ?_)
      · refine next h3 F2 _ _ _ hM hx (lt_s hE2 ?_)
        unfold Wm
        rw [if_neg c1, pk_uLs]
        rfl
      have hc3 := hcut c1
      have s9 := sumC_le hL.1 hc3.1
      have c9 : cntC L (dgc j) ≤ 20 := cnt_part hL.1 (k := vn L) (c := dgc j) hc3.1 (Nat.le_refl _)
      -- the cut counts
      have go : ok (dgc j) = true → ∀ o3 o4, G 2 h3 0 0 [some (.ref m), some (.int x), some (.int (nI j)), o3, o4] [] := fun hok1 o3 o4 => by
        have base : ∀ z : Int64, z = lN (if cntC L (dgc j) = 0 then 1 else 0) → G 3 h3 0 0 [some (.ref m), some (.int x), some (.int (nI j)), o3, o4] [.long z, .int (nI j), .ref (q 23)] := fun z hz => by
          refine hG 3 _ _ _ _ _ ?_
          refine y_js j hM.2.2 (by omega) (fun h4 e4 x4 => ?_)
          have hM := hM.setW e4 x4
          have hx := hx.trs (MX.of x4)
          have inner : ∀ jj v, v + jj = vn L → ∀ (h5 : Hp) (E5 : Nat → Int64), ModH g rl h5 m q I (va_up A 21 F2) E5 → MX rl h h5 → (∀ k, k < j → E5 k = lN (Wm L nd ok k)) → E5 j = lN ((if cntC L (dgc j) = 0 then 1 else 0) + sm (fun v => if 0 < dgc j v then Wn L nd ok (updN (dgc j) v (dgc j v - 1)) else 0) v) → G 4 h5 0 0 [some (.ref m), some (.int x), some (.int (nI j)), some (.int (nI (6 ^ v))), some (.int (nI v))] [] := by
            intro jj
            induction jj with
            | zero =>
              intro v hv h5 E5 hM hx hE5 hEj
              refine hG 4 _ _ _ _ _ ?_
              refine y_get hM.1 (by decide) rfl ?_
              rw [hL.2.1]
              refine b_ge v (vn L) (fun _ => ?_) (fun _ => by omega)
              refine next h5 F2 E5 _ _ hM hx (lt_s hE5 ?_)
              rw [hEj]
              unfold Wm
              rw [if_pos c1, Wn_eq c9, if_pos (show Cbe L nd (dgc j) ∧ ok (dgc j) = true from ⟨c1.2.2, hok1⟩), show v = vn L by omega]
            | succ jj ih2 =>
              intro v hv h5 E5 hM hx hE5 hEj
              have hvn : v < vn L := by omega
              have hdl : dgc j v < 6 := Nat.mod_lt _ (by omega)
              have p6 := pow6 v (by omega)
              have g5 : ∀ z : Int64, z = lN (if 0 < dgc j v then Wn L nd ok (updN (dgc j) v (dgc j v - 1)) else 0) → G 5 h5 0 0 [some (.ref m), some (.int x), some (.int (nI j)), some (.int (nI (6 ^ v))), some (.int (nI v))] [.long z, .long (E5 j), .int (nI j), .ref (q 23)] := fun z hz => by
                refine hG 5 _ _ _ _ _ ?_
                refine y_js j hM.2.2 (by omega) (fun h6 e6 x6 => ?_)
                have hM6 := hM.setW e6 x6
                have ih9 := ih2 (v + 1) (by omega) h6 _ hM6 (hx.trs (MX.of x6)) (fun k hk => by rw [pk_uLn (by omega)]; exact hE5 k hk) (by rw [pk_uLs, hEj, hz, lN_add, sm_succ, Nat.add_assoc])
                rw [nI_succ v, Nat.pow_succ, ← pk_mul] at ih9
                exact ih9
              refine hG 4 _ _ _ _ _ ?_
              refine y_get hM.1 (by decide) rfl ?_
              rw [hL.2.1]
              refine b_ge v (vn L) (fun _ => by omega) (fun _ => ?_)
              refine y_get hM.1 (by decide) rfl ?_
              refine y_ja j hM.2.2 (by omega) rfl ?_
              refine y_get hM.1 (by decide) rfl ?_
              refine y_ia (v) hM.a21 (by omega) (hc3.2 v hvn) ?_
              refine pk_le (dgc j v) 0 (fun d => ?_) (fun d => ?_)
              · exact g5 0 (by rw [if_neg (by omega)]; rfl)
              · obtain ⟨p1, p2⟩ := dgc_pred (code := j) (v := v) (by omega) d
                have hpos : 0 < 6 ^ v := Nat.pow_pos (by omega)
                refine y_get hM.1 (by decide) rfl ?_
                refine y_ja (j - 6 ^ v) hM.2.2 (by omega) (hE5 (j - 6 ^ v) (by omega)) ?_ (pk_sub p1)
                exact g5 _ (by rw [if_pos d, Wm_pred hok9 b1 c1 hvn d])
          refine inner (vn L) 0 (by omega) h4 _ hM hx (fun k hk => by rw [pk_uLn (by omega)]; exact hE2 k hk) ?_
          rw [pk_uLs, hz]
          rfl
        refine hG 2 _ _ _ _ _ ?_
        refine y_get hM.1 (by decide) rfl ?_
        refine pk_eq j 0 (fun d => ?_) (fun d => ?_)
        · refine base 1 ?_
          rw [if_pos ((code0 b1 c1.2.1).mpr d)]
          rfl
        · refine base 0 ?_
          rw [if_neg (fun z => d ((code0 b1 c1.2.1).mp z))]
          rfl
      rcases hbut with ⟨rfl, hok1⟩ | ⟨v, hv, rfl, hok1⟩
      · refine b_yes rfl ?_
        exact go (hok1 _) _ _
      · refine b_no (fun e => ?_) ?_
        · have h9 := congrArg Int32.toInt e
          rw [nI_toInt (by omega)] at h9
          have : (-9 : Int32).toInt = -9 := by decide
          omega
        refine y_call1 hM.1 (m_sumOf hM hL3 hc3 ?_)
        refine pk_eq (sumC L (dgc j)) v (fun d => ?_) (fun d => ?_)
        · refine next h3 F2 _ _ _ hM hx (lt_s hE2 ?_)
          unfold Wm
          rw [if_pos c1, Wn_eq c9, if_neg (fun z => by have h9 := z.2; rw [hok1, decide_eq_true_eq] at h9; exact h9 d), pk_uLs]
          rfl
        · exact go (by rw [hok1, decide_eq_true_eq]; exact d) _ _
  exact loop 1296 0 (by omega) h (A 21) Wy _ _ (by rw [up_id]; exact hM) Ex.rf (fun k hk => by omega)
theorem sub1 (a b : Int32) : a - (b + 1) = a - b + -1 := by
  apply Int32.toBitVec_inj.mp
  simp only [Int32.toBitVec_sub, Int32.toBitVec_add, Int32.toBitVec_neg]
  generalize a.toBitVec = x
  generalize b.toBitVec = y
  rw [BitVec.sub_eq_add_neg, BitVec.sub_eq_add_neg, BitVec.neg_add, BitVec.sub_eq_add_neg, ← BitVec.add_assoc]
/-- the number of the last cut -/
def lch (L : Ld) : Nat → Nat
  | 0 => 0
  | k + 1 => 6 * lch L k + tn L (vn L - 1 - k)
theorem lch_ok (hL : LdOk L) : lch L (vn L) < 1296 ∧ (∀ v, v < vn L → dgc (lch L (vn L)) v = tn L v) ∧ lch L (vn L) / 6 ^ vn L = 0 ∧ ∀ k, k ≤ vn L → lch L k < 1296 := by
  have b1 := hL.1
  have hb : ∀ v, v < vn L → tn L v ≤ 5 := fun v hv => (hL.2 v hv).2.2.1
  have hn4 : vn L = 0 ∨ vn L = 1 ∨ vn L = 2 ∨ vn L = 3 ∨ vn L = 4 := by omega
  have key : ∀ n, n = vn L → (∀ v, v < n → tn L v ≤ 5) := fun n e => by rw [e]; exact hb
  rcases hn4 with e | e | e | e | e <;> rw [e] at hb ⊢ <;> simp only [lch, e] <;> refine ⟨?_, fun v hv => ?_, ?_, fun k hk => ?_⟩
  all_goals try (have h0 := hb 0 (by omega))
  all_goals try (have h1 := hb 1 (by omega))
  all_goals try (have h2 := hb 2 (by omega))
  all_goals try (have h3 := hb 3 (by omega))
  all_goals try simp only [Nat.reduceAdd, Nat.reduceSub, Nat.reducePow, Nat.sub_self, Nat.sub_zero, Nat.add_zero] at *
  all_goals try omega
  all_goals try (
    have hv4 : v = 0 ∨ v = 1 ∨ v = 2 ∨ v = 3 := by omega
    rcases hv4 with rfl | rfl | rfl | rfl <;> simp [dgc] <;> omega)
  all_goals (
    have hk4 : k = 0 ∨ k = 1 ∨ k = 2 ∨ k = 3 ∨ k = 4 := by omega
    rcases hk4 with rfl | rfl | rfl | rfl | rfl <;> simp [lch, e] <;> omega)
theorem m_lastCode (hM : ModH g rl h m q I A Wy) (hL : MLand I A L nd) (h0 : 0 < vn L) (hK : K (some (.int (nI (lch L (vn L))))) h) : Run l g d_X10_lastCode [.ref m] h 0 0 K := by
  have b1 := hL.1.1
  have hb := (lch_ok hL.1).2.2.2
  refine vc_X10_lastCode (fun G hG => ?_)
  refine hG 0 _ _ _ _ _ ?_
  refine y_get hM.1 (by decide) rfl ?_
  rw [hL.2.1]
  have e1 : nI (vn L) - 1 = nI (vn L - 1) := pk_sub (b := 1) h0
  have loop : ∀ k j, j + k = vn L → G 1 h 0 0 [some (.ref m), some (.int (nI (lch L j))), some (.int (nI (vn L) - 1 - nI j))] [] := by
    intro k
    induction k with
    | zero =>
      intro j hj
      refine hG 1 _ _ _ _ _ ?_
      refine b_yes (c := nI (vn L) - 1 - nI j < 0) ?_ ?_
      · rw [show j = vn L by omega, e1]
        exact pk_sneg (by omega) (by omega)
      · rw [show j = vn L by omega]
        exact hK
    | succ k ih =>
      intro j hj
      have e2 : nI (vn L) - 1 - nI j = nI (vn L - 1 - j) := by rw [e1, pk_sub (by omega)]
      have ih9 := ih (j + 1) (by omega)
      rw [e2]
      have e3 : nI (vn L) - 1 - nI (j + 1) = nI (vn L - 1 - j) + -1 := by rw [← e2, nI_succ]; exact sub1 _ _
      rw [e3] at ih9
      refine hG 1 _ _ _ _ _ ?_
      refine b_no (nI_pos (by omega)) ?_
      refine y_get hM.1 (by decide) rfl ?_
      refine y_ia (vn L - 1 - j) hM.a7 (by omega) ((hL.2.2 (vn L - 1 - j) (by omega)).2.1) ?_
      have e4 : nI (lch L (j + 1)) = 6 * nI (lch L j) + nI (tn L (vn L - 1 - j)) := by
        show nI (6 * lch L j + _) = _
        rw [← nI_add, ← pk_mul]
        rfl
      rw [e4] at ih9
      exact ih9
  have l0 := loop (vn L) 0 (by omega)
  rw [show nI 0 = 0 from rfl, Int32.sub_zero] at l0
  exact l0
end MM11

