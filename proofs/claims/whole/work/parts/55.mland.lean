/-! ===== land ===== -/
def txt (S : St) (sh i : Int32) : Nat → Int32 := fun k => sCe S (ix sh) (ix i + k)
noncomputable def newL (S : St) (L : Ld) : St := (S.1, 0, S.2.2.1, (L, ndOf L, fun _ => 0), (0, S.2.2.2.2.2))
noncomputable def ldp (S : St) (P : Bool × Nat × Ld) : Int32 × St := if P.1 = true then (if amN P.2.2 < 8 then (-200 - nI (amN P.2.2), setFa S 0) else if cirB P.2.2 = true then (-300, setFa S 0) else (nI (vn P.2.2), newL S P.2.2)) else (-100 - nI P.2.1, setFa S 0)
noncomputable def ldr (S : St) (sh lane i n : Int32) : Int32 × St := if InR sh 0 3 then (if InR lane 0 2 then (if agst (sSo S (ix sh)) (sLe S (ix sh)) lane i n = 0 then ldp S (parse (txt S sh i) (ix n)) else (-10 - agst (sSo S (ix sh)) (sLe S (ix sh)) lane i n, setFa S (agst (sSo S (ix sh)) (sLe S (ix sh)) lane i n))) else (-2, setFa S 0)) else (-1, setFa S 0)
noncomputable def sp_land (S : St) (sh lane i n : Int32) : Int32 := (ldr S sh lane i n).1
noncomputable def st_land (S : St) (sh lane i n : Int32) : St := (ldr S sh lane i n).2
theorem agst_1 {so lane i n : Int32} {le : Nat} (hle : le ≤ 60) (h : agst so le lane i n = 0) : ∃ j k, i = nI j ∧ n = nI k ∧ j + k ≤ le ∧ ¬ so = -9 ∧ so = lane := by
  have hn : ¬ n < 0 := fun z => by
    unfold agst at h
    by_cases a : so = -9
    · rw [if_pos a] at h; exact absurd h (by decide)
    rw [if_neg a] at h
    by_cases b : so = lane
    · rw [if_pos b, if_pos z] at h; exact absurd h (by decide)
    · rw [if_neg b] at h; exact absurd h (by decide)
  obtain ⟨k, hk, rfl⟩ := nI_of hn
  unfold agst at h
  by_cases a : so = -9
  · rw [if_pos a] at h; exact absurd h (by decide)
  rw [if_neg a] at h
  by_cases b : so = lane
  · rw [if_pos b, if_neg hn] at h
    by_cases c : i < 0 ∨ nI le < i ∨ nI le - i < nI k
    · rw [if_pos c] at h; exact absurd h (by decide)
    · obtain ⟨j, hj, rfl⟩ := nI_of (fun z => c (Or.inl z))
      have h1 : ¬ nI le < nI j := fun z => c (Or.inr (Or.inl z))
      have h2 : ¬ nI le - nI j < nI k := fun z => c (Or.inr (Or.inr z))
      have h3 : j ≤ le := by
        rcases Nat.lt_or_ge le j with q | q
        · exact absurd (nI_lt q hj) h1
        · exact q
      rw [pk_sub h3] at h2
      have h4 : k ≤ le - j := by
        rcases Nat.lt_or_ge (le - j) k with q | q
        · exact absurd (nI_lt q hk) h2
        · exact q
      exact ⟨j, k, rfl, rfl, by omega, a, b⟩
  · rw [if_neg b] at h; exact absurd h (by decide)
section MLANDC
variable {l : Launch} {g : Gm} {rl : Nat → Nat} {h : Hp} {K : PT} {m : Nat} {q : Nat → Nat} {I : Nat → Int32} {A : Nat → Nat → Int32} {Wy : Nat → Int64} {S : St} {L : Ld} {nd : NT}
def TkI (A A1 : Nat → Nat → Int32) (a b c : Nat) : Prop := (∀ k, k < 6 ∨ 11 < k → A1 k = A k) ∧ (∀ w, w < a → A1 6 w = A 14 w ∧ A1 7 w = A 15 w ∧ A1 11 w = 0) ∧ (∀ j, j < b → A1 8 j = A 16 j ∧ A1 9 j = A 17 j) ∧ ∀ j, j < c → A1 10 j = A 18 j
theorem m_takeLand (hM : ModH g rl h m q I A Wy) (h13 : I 13 = nI (vn L)) (b1 : vn L ≤ 4) (hK : ∀ (h1 : Hp) (A1 : Nat → Nat → Int32), ModH g rl h1 m q (upd (upd I 5 (nI (vn L))) 24 0) A1 Wy → MX rl h h1 → TkI A A1 (vn L) 20 80 → K none h1) : Run l g d_X10_takeLand [.ref m] h 0 0 K := by
  refine vc_X10_takeLand (fun G hG => ?_)
  have l3 : ∀ j k, k + j = 80 → ∀ (h1 : Hp) (A1 : Nat → Nat → Int32), ModH g rl h1 m q (upd I 5 (nI (vn L))) A1 Wy → MX rl h h1 → TkI A A1 (vn L) 20 k → G 3 h1 0 0 [some (.ref m), some (.int (nI k))] [] := by
    intro j
    induction j with
    | zero =>
      intro k hk h1 A1 hM hx hT
      refine hG 3 _ _ _ _ _ ?_
      refine b_ge k 80 (fun _ => ?_) (fun _ => by omega)
      refine y_putI hM.1 (by decide) (Nat.le_of_ble_eq_true rfl) rfl (fun h2 e2 x2 => ?_)
      have hM2 := hM.setI (I' := upd (upd I 5 (nI (vn L))) 24 0) e2 x2
      rw [show k = 80 by omega] at hT
      exact hK h2 A1 hM2 (hx.trs (MX.of x2)) hT
    | succ j ih =>
      intro k hk h1 A1 hM hx hT
      refine hG 3 _ _ _ _ _ ?_
      refine b_ge k 80 (fun _ => by omega) (fun _ => ?_)
      refine y_get hM.1 (by decide) rfl ?_
      refine y_get hM.1 (by decide) rfl ?_
      refine y_ia k hM.a18 (by omega) (congrFun (hT.1 18 (by omega)) k) ?_
      refine y_is k hM.a10 (by omega) (fun h2 e2 x2 => ?_)
      have hM2 := hM.setA 10 e2 x2
      have ih9 := ih (k + 1) (by omega) h2 _ hM2 (hx.trs (MX.of x2)) ⟨fun i hi => ?_, hT.2.1, hT.2.2.1, fun i hi => ?_⟩
      rw [nI_succ k] at ih9
      exact ih9 
      · exact (if_neg (by omega)).trans (hT.1 i hi)
      · show upd (A1 10) k (A 18 k) i = A 18 i
        by_cases e : i = k
        · rw [e, pk_us]
        · rw [pk_un e]; exact hT.2.2.2 i (by omega)
  have l2 : ∀ j k, k + j = 20 → ∀ (h1 : Hp) (A1 : Nat → Nat → Int32), ModH g rl h1 m q (upd I 5 (nI (vn L))) A1 Wy → MX rl h h1 → TkI A A1 (vn L) k 0 → G 2 h1 0 0 [some (.ref m), some (.int (nI k))] [] := by
    intro j
    induction j with
    | zero =>
      intro k hk h1 A1 hM hx hT
      refine hG 2 _ _ _ _ _ ?_
      refine b_ge k 20 (fun _ => ?_) (fun _ => by omega)
      rw [show k = 20 by omega] at hT
      exact l3 80 0 (by omega) h1 A1 hM hx hT
    | succ j ih =>
      intro k hk h1 A1 hM hx hT
      refine hG 2 _ _ _ _ _ ?_
      refine b_ge k 20 (fun _ => by omega) (fun _ => ?_)
      refine y_get hM.1 (by decide) rfl ?_
      refine y_get hM.1 (by decide) rfl ?_
      refine y_ia k hM.a16 (by omega) (congrFun (hT.1 16 (by omega)) k) ?_
      refine y_is k hM.a8 (by omega) (fun h2 e2 x2 => ?_)
      have hM := hM.setA 8 e2 x2
      refine y_get hM.1 (by decide) rfl ?_
      refine y_get hM.1 (by decide) rfl ?_
      refine y_ia k hM.a17 (by omega) (congrFun (hT.1 17 (by omega)) k) ?_
      refine y_is k hM.a9 (by omega) (fun h3 e3 x3 => ?_)
      have hM := hM.setA 9 e3 x3
      have ih9 := ih (k + 1) (by omega) h3 _ hM ((hx.trs (MX.of x2)).trs (MX.of x3)) ⟨fun i hi => ?_, hT.2.1, fun i hi => ?_, fun i hi => absurd hi (Nat.not_lt_zero i)⟩
      rw [nI_succ k] at ih9
      exact ih9 
      · exact (if_neg (by omega)).trans ((if_neg (by omega)).trans (hT.1 i hi))
      · show upd (A1 8) k (A 16 k) i = A 16 i ∧ upd (A1 9) k (A 17 k) i = A 17 i
        by_cases e : i = k
        · rw [e, pk_us, pk_us]; exact ⟨rfl, rfl⟩
        · rw [pk_un e, pk_un e]; exact hT.2.2.1 i (by omega)
  have l1 : ∀ j k, k + j = vn L → ∀ (h1 : Hp) (A1 : Nat → Nat → Int32), ModH g rl h1 m q (upd I 5 (nI (vn L))) A1 Wy → MX rl h h1 → TkI A A1 k 0 0 → G 1 h1 0 0 [some (.ref m), some (.int (nI k))] [] := by
    intro j
    induction j with
    | zero =>
      intro k hk h1 A1 hM hx hT
      refine hG 1 _ _ _ _ _ ?_
      refine y_get hM.1 (by decide) rfl ?_
      rw [show upd I 5 (nI (vn L)) 5 = nI (vn L) from rfl]
      refine b_ge k (vn L) (fun _ => ?_) (fun _ => by omega)
      rw [show k = vn L by omega] at hT
      exact l2 20 0 (by omega) h1 A1 hM hx hT
    | succ j ih =>
      intro k hk h1 A1 hM hx hT
      refine hG 1 _ _ _ _ _ ?_
      refine y_get hM.1 (by decide) rfl ?_
      rw [show upd I 5 (nI (vn L)) 5 = nI (vn L) from rfl]
      refine b_ge k (vn L) (fun _ => by omega) (fun _ => ?_)
      refine y_get hM.1 (by decide) rfl ?_
      refine y_get hM.1 (by decide) rfl ?_
      refine y_ia k hM.a14 (by omega) (congrFun (hT.1 14 (by omega)) k) ?_
      refine y_is k hM.a6 (by omega) (fun h2 e2 x2 => ?_)
      have hM := hM.setA 6 e2 x2
      refine y_get hM.1 (by decide) rfl ?_
      refine y_get hM.1 (by decide) rfl ?_
      refine y_ia k hM.a15 (by omega) (congrFun (hT.1 15 (by omega)) k) ?_
      refine y_is k hM.a7 (by omega) (fun h3 e3 x3 => ?_)
      have hM := hM.setA 7 e3 x3
      refine y_get hM.1 (by decide) rfl ?_
      refine y_is k hM.a11 (by omega) (fun h4 e4 x4 => ?_)
      have hM := hM.setA 11 e4 x4
      have ih9 := ih (k + 1) (by omega) h4 _ hM (((hx.trs (MX.of x2)).trs (MX.of x3)).trs (MX.of x4)) ⟨fun i hi => ?_, fun i hi => ?_, fun i hi => absurd hi (Nat.not_lt_zero i), fun i hi => absurd hi (Nat.not_lt_zero i)⟩
      rw [nI_succ k] at ih9
      exact ih9 
      · exact (if_neg (by omega)).trans ((if_neg (by omega)).trans ((if_neg (by omega)).trans (hT.1 i hi)))
      · show upd (A1 6) k (A 14 k) i = A 14 i ∧ upd (A1 7) k (A 15 k) i = A 15 i ∧ upd (A1 11) k 0 i = 0
        by_cases e : i = k
        · rw [e, pk_us, pk_us, pk_us]; exact ⟨rfl, rfl, rfl⟩
        · rw [pk_un e, pk_un e, pk_un e]; exact hT.2.1 i (by omega)
  refine hG 0 _ _ _ _ _ ?_
  refine y_get hM.1 (by decide) rfl ?_
  rw [h13]
  refine y_putI hM.1 (by decide) (Nat.le_of_ble_eq_true rfl) rfl (fun h1 e1 x1 => ?_)
  have hM1 := hM.setI (I' := upd I 5 (nI (vn L))) e1 x1
  exact l1 (vn L) 0 (by omega) h1 A hM1 (MX.of x1) ⟨fun _ _ => rfl, fun i hi => absurd hi (Nat.not_lt_zero i), fun i hi => absurd hi (Nat.not_lt_zero i), fun i hi => absurd hi (Nat.not_lt_zero i)⟩
theorem MSt.keep {I1 : Nat → Int32} {A1 : Nat → Nat → Int32} (hS : MSt I A S) (hI : ∀ k, k ≠ 12 → k ≠ 13 → I1 k = I k) (hA : ∀ k, k < 14 ∨ 20 < k → A1 k = A k) : MSt I1 A1 S := by
  unfold MSt MLand at hS ⊢
  rw [hI 0 (by omega) (by omega), hI 1 (by omega) (by omega), hI 5 (by omega) (by omega), hI 24 (by omega) (by omega), hA 2 (by omega), hA 3 (by omega), hA 4 (by omega), hA 6 (by omega), hA 7 (by omega), hA 8 (by omega), hA 9 (by omega), hA 10 (by omega), hA 11 (by omega), hA 25 (by omega), hA 26 (by omega)]
  exact hS
theorem newL_ok (hok : StOk S) (hL : LdOk L) (h2 : 2 ≤ vn L) (hT : LtOk L) (hN : ∃ nd, Need L nd) : StOk (newL S L) := ⟨hok.1, hL, Or.inr h2, fun v _ => Nat.zero_le _, ⟨hT, ndOf_ok hN, cbe_0⟩, Nat.zero_le _, fun r hr => absurd hr (Nat.not_lt_zero r)⟩
theorem mm_land {sh lane i n : Int32} (hR : ModR g rl h m S) (hK : ∀ h1, ModR g rl h1 m (st_land S sh lane i n) → MX rl h h1 → K (some (.int (sp_land S sh lane i n))) h1) : Run l g d_X10_land [.ref m, .int sh, .int lane, .int i, .int n] h 0 0 K := by
  obtain ⟨hok, q, I, A, Wy, hM, hS⟩ := hR
  have hL := hS.2.2.2.1
  have b1 := hL.1.1
  unfold st_land sp_land ldr at hK
  refine vc_X10_land (fun G hG => ?_)
  refine hG 0 _ _ _ _ _ ?_
  refine y_putI hM.1 (by decide) (Nat.le_of_ble_eq_true rfl) rfl (fun h1 e1 x1 => ?_)
  have hM := hM.setI (I' := upd I 0 0) e1 x1
  have hS := hS.fa 0
  have hx := MX.of x1
  refine y_callS (m_isSheet ?_)
  refine b_Z (fun y => ?_) (fun y => ?_)
  · rw [if_neg y] at hK
    exact hK h1 ⟨hok, q, _, _, Wy, hM, hS⟩ hx
  rw [if_pos y] at hK
  obtain ⟨k, hk, rfl⟩ := sh_of y
  refine y_callS (m_isSort ?_)
  refine b_Z (fun z => ?_) (fun z => ?_)
  · rw [if_neg z] at hK
    exact hK h1 ⟨hok, q, _, _, Wy, hM, hS⟩ hx
  rw [if_pos z] at hK
  refine y_call1 hM.1 (m_against hM hS hk ?_)
  rw [show ix (nI k) = k from nI_clamp (by omega)] at hK
  have hle := (hok.1 k hk).2
  refine b_cases (fun a => ?_) (fun a => ?_)
  · have a : agst (sSo S k) (sLe S k) lane i n = 0 := a
    rw [if_pos a] at hK
    obtain ⟨j, p, rfl, rfl, hjp, -, -⟩ := agst_1 hle a
    have hle : sLe S k ≤ 60 := hle
    rw [show ix (nI p) = p from nI_clamp (by omega)] at hK
    have hcells : ∀ i, i < p → A 4 (60 * k + j + i) = txt S (nI k) (nI j) i := fun i hi => by
      unfold txt
      rw [show ix (nI k) = k from nI_clamp (by omega), show ix (nI j) = j from nI_clamp (by omega), Nat.add_assoc]
      exact (hS.1 k hk).2.2 (j + i) (by omega)
    generalize txt S (nI k) (nI j) = t at hK hcells
    refine y_putI hM.1 (by decide) (Nat.le_of_ble_eq_true rfl) rfl (fun h2 e2 x2 => ?_)
    have hM := hM.setI (I' := upd (upd I 0 0) 12 (nI (60 * k + j))) (by rw [← ix60]; exact e2) x2
    have hx := hx.trs (MX.of x2)
    refine y_call1 hM.1 (m_readLand (t := t) (n := p) (first := 60 * k + j) hM rfl hcells (by omega) (fun h3 I3 A3 hM3 x3 f3 i3 r3 => ?_) (by show 60 * nI k + nI j + nI p = _; rw [ix60, nI_add]))
    have hx := hx.trs x3
    have hpo := parse_ok (t := t) (n := p)
    have hS3 : MSt I3 A3 (setFa S 0) := hS.keep (fun i h1 h2 => (f3.1 i h1 h2).trans (pk_un h1)) (fun i hi => f3.2 i (by omega))
    unfold ldp at hK
    generalize parse t p = P at hK i3 r3 hpo
    refine b_Z (fun c => ?_) (fun c => ?_)
    · rw [if_neg c] at hK
      refine y_get hM3.1 (by decide) rfl ?_
      rw [i3]
      have e9 : (-100 : Int32) - (nI (60 * k + j + P.2.1) - (60 * nI k + nI j)) = -100 - nI P.2.1 := by
        rw [ix60, pk_sub (by omega)]
        congr 2
        omega
      have hk9 := hK h3 ⟨hok, q, _, _, Wy, hM3, hS3⟩ hx
      rw [← e9] at hk9
      exact hk9
    rw [if_pos c] at hK
    obtain ⟨hL9, h29⟩ := hpo.2 c
    obtain ⟨r31, r32⟩ := r3 c
    refine y_call1 hM3.1 (m_firstAmiss hM3 r32 r31 hL9 (fun h4 F1 F2 hM4 x4 hF4 => ?_))
    have hx := hx.trs x4
    have hS4 : MSt I3 (va_up (va_up A3 19 F1) 20 F2) (setFa S 0) := hS3.keep (fun _ _ _ => rfl) (fun i hi => (if_neg (by omega)).trans (if_neg (by omega)))
    unfold amI
    by_cases d : amN P.2.2 < 8
    · rw [if_pos d] at hK ⊢
      refine b_no (ne9 (by omega)) ?_
      exact hK h4 ⟨hok, q, _, _, Wy, hM4, hS4⟩ hx
    · rw [if_neg d] at hK ⊢
      refine b_yes rfl ?_
      have hT9 := am_ok hL9 d
      refine y_call1 hM4.1 (m_isCircle hM4 r32 r31 hL9 hT9 hF4 (fun h5 F5 hM5 x5 hA5 => ?_))
      have hx := hx.trs x5
      have hS5 := hS4.keep (I1 := I3) (A1 := va_up (va_up (va_up A3 19 F1) 20 F2) 18 F5) (fun _ _ _ => rfl) (fun i hi => if_neg (by omega))
      refine b_Z (fun e => ?_) (fun e => ?_)
      · rw [if_neg e] at hK
        have e : cirB P.2.2 = false := by rw [Bool.not_eq_true] at e; exact e
        have hex : ∃ nd, Need P.2.2 nd := Classical.byContradiction fun z => by rw [cirB_iff.mpr z] at e; cases e
        have hA5 := hA5 e
        refine y_call1 hM5.1 (m_takeLand (L := P.2.2) hM5 r32 hL9.1 (fun h6 A6 hM6 x6 hT6 => ?_))
        have hx := hx.trs x6
        refine y_get hM6.1 (by decide) rfl ?_
        refine hK h6 ⟨newL_ok hok hL9 h29 hT9 hex, q, _, _, Wy, hM6, ?_⟩ hx
        obtain ⟨t1, t2, t3, t4⟩ := hT6
        refine ⟨fun i hi => ?_, hS5.2.1, hS5.2.2.1, ⟨hL9, rfl, fun v hv => ?_⟩, fun v hv => (t2 v hv).2.2, rfl, fun r hr => absurd hr (Nat.not_lt_zero r)⟩
        · rw [t1 2 (by omega), t1 3 (by omega), t1 4 (by omega)]
          exact hS5.1 i hi
        · have hv : v < vn P.2.2 := hv
          have b2 := (hL9.2 v hv).2.2.1
          have b3 := hL9.1
          obtain ⟨k1, k2, k3⟩ := r31 v hv
          refine ⟨(t2 v hv).1.trans k1, (t2 v hv).2.1.trans k2, fun tt htt => ?_⟩
          have htt : tt < tn P.2.2 v := htt
          exact ⟨(t3 _ (by omega)).1.trans (k3 tt htt).1, (t3 _ (by omega)).2.trans (k3 tt htt).2, fun u hu => ⟨(t4 _ (by omega)).trans (hA5 v tt u hv htt hu), (nd_bd hL9 (ndOf_ok hex) hv htt hu).1⟩⟩
      · rw [if_pos e] at hK
        exact hK h5 ⟨hok, q, _, _, Wy, hM5, hS5⟩ hx
  · have a : ¬ agst (sSo S k) (sLe S k) lane i n = 0 := a
    rw [if_neg a] at hK
    refine y_call1 hM.1 (m_fails hM (fun h2 hM2 x2 => ?_))
    have hS2 := hS.fa (agst (sSo S k) (sLe S k) lane i n)
    exact hK h2 ⟨hok, q, _, _, Wy, hM2, hS2⟩ (hx.trs x2)
end MLANDC

