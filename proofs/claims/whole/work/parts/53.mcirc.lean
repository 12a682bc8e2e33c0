def AhR (F : Nat → Int32) (L : Ld) (C : NT) : Prop := ∀ v t u, v < vn L → t < tn L v → u < 4 → F (4 * (5 * v + t) + u) = nI (C v t u)
section MCIRC
variable {l : Launch} {g : Gm} {rl : Nat → Nat} {h : Hp} {K : PT} {m : Nat} {q : Nat → Nat} {I : Nat → Int32} {A : Nat → Nat → Int32} {Wy : Nat → Int64} {L : Ld} {C : NT}
theorem m_startAheads {v t : Nat} (hM : ModH g rl h m q I A Wy) (hR : RdL A L) (hL : LdOk L) (hT : LtOk L) (hF : ∀ k, k < 8 → Lst (Mt L) 1 k (A 19 k)) (hv : v < vn L) (ht : t < tn L v) (hK : ∀ (h1 : Hp) (F : Nat → Int32), ModH g rl h1 m q I (va_up A 18 F) Wy → MX rl h h1 → (∀ u, u < 4 → F (4 * (5 * v + t) + u) = nI (Bs (A 19) L v t u)) → (∀ k, ¬ (4 * (5 * v + t) ≤ k ∧ k < 4 * (5 * v + t) + 4) → F k = A 18 k) → K none h1) : Run l g d_X10_startAheads [.ref m, .int (nI v), .int (nI t)] h 0 0 K := by
  have b1 := hL.1
  have b2 := (hL.2 v hv).2.2.1
  obtain ⟨r4, r5⟩ := (hR v hv).2.2 t ht
  obtain ⟨l1, l2, l3⟩ := (hL.2 v hv).2.2.2 t ht
  refine vc_X10_startAheads (fun G hG => ?_)
  have loop : ∀ j u, u + j = 4 → ∀ (h1 : Hp) (F : Nat → Int32), ModH g rl h1 m q I (va_up A 18 F) Wy → MX rl h h1 → (∀ w, w < u → F (4 * (5 * v + t) + w) = nI (if w = v then t else 0)) → (∀ k, ¬ (4 * (5 * v + t) ≤ k ∧ k < 4 * (5 * v + t) + 4) → F k = A 18 k) → G 1 h1 0 0 [some (.ref m), some (.int (nI v)), some (.int (nI t)), some (.int (nI (5 * v + t))), some (.int (nI u))] [] := by
    intro j
    induction j with
    | zero =>
      intro u hu h1 F hM hx hF1 hF2
      refine hG 1 _ _ _ _ _ ?_
      refine b_ge u 4 (fun _ => ?_) (fun _ => by omega)
      refine y_get hM.1 (by decide) rfl ?_
      refine y_ia (5 * v + t) hM.a16 (by omega) (r4) ?_
      refine pk_eq (wh L v t) 2 (fun e => ?_) (fun e => ?_)
      · obtain ⟨a, b, hs, e9, hne, hb5, hun⟩ := snd_of hL hT hF hv ht e
        have ha := hs.2.1
        have hd : dg L v t < 8 := by have := l3 (by omega); omega
        refine y_get hM.1 (by decide) rfl ?_
        refine y_get hM.1 (by decide) rfl ?_
        refine y_ia (5 * v + t) hM.a17 (by omega) (r5) ?_
        refine y_ia (dg L v t) hM.a19 (by omega) (e9) ?_
        refine y_get hM.1 (by decide) rfl ?_
        refine ⟨by decide, ?_⟩
        refine ⟨by decide, ?_⟩
        refine y_is (4 * (5 * v + t) + a) hM.a18 (by omega) (fun h2 e2 x2 => ?_) ?_
        · have hM2 := hM.setA 18 e2 x2
          rw [up_up] at hM2
          have e3 : nI (5 * a + b) - nI (5 * a + b) / 5 * 5 + 1 = nI (b + 1) := by
            rw [show (5 : Int32) = nI 5 from rfl, pk_rem (by omega) (by omega) (by omega), show (5 * a + b) % 5 = b by omega, nI_succ]
          refine hK h2 _ hM2 (hx.trs (MX.of x2)) (fun w hw => ?_) (fun k hk => ?_)
          · unfold Bs
            rw [e9, show ix (nI (5 * a + b)) = 5 * a + b from nI_clamp (by omega), show (5 * a + b) / 5 = a by omega, show (5 * a + b) % 5 = b by omega]
            by_cases q : w = a
            · rw [if_pos ⟨e, q⟩, q, pk_us]
              exact e3
            · rw [if_neg (fun z => q z.2), pk_un (by omega)]
              exact hF1 w (by omega)
          · rw [pk_un (by omega)]
            exact hF2 k hk
        · show 4 * nI (5 * v + t) + nI (5 * a + b) / 5 = _
          rw [show (5 : Int32) = nI 5 from rfl, pk_div (by omega) (by omega) (by omega), show (5 * a + b) / 5 = a by omega, ix4q]
      · refine hK h1 F hM hx (fun w hw => ?_) hF2
        unfold Bs
        rw [if_neg (fun z => e z.1)]
        exact hF1 w (by omega)
    | succ j ih =>
      intro u hu h1 F hM hx hF1 hF2
      have g2 : ∀ y9 : Int32, y9 = nI (if u = v then t else 0) → G 2 h1 0 0 [some (.ref m), some (.int (nI v)), some (.int (nI t)), some (.int (nI (5 * v + t))), some (.int (nI u))] [.int y9, .int (4 * nI (5 * v + t) + nI u), .ref (q 18)] := by
        intro y9 ey
        refine hG 2 _ _ _ _ _ ?_
        refine y_is (4 * (5 * v + t) + u) hM.a18 (by omega) (fun h2 e2 x2 => ?_) (ix4q _ _)
        have hM2 := hM.setA 18 e2 x2
        rw [up_up] at hM2
        have ih9 := ih (u + 1) (by omega) h2 _ hM2 (hx.trs (MX.of x2)) (fun w hw => ?_) (fun k hk => ?_)
        rw [nI_succ u] at ih9
        exact ih9 
        · by_cases q : w = u
          · rw [q, pk_us]; exact ey
          · rw [pk_un (by omega)]; exact hF1 w (by omega)
        · rw [pk_un (by omega)]; exact hF2 k hk
      refine hG 1 _ _ _ _ _ ?_
      refine b_ge u 4 (fun _ => by omega) (fun _ => ?_)
      refine y_get hM.1 (by decide) rfl ?_
      refine pk_eq u v (fun e => ?_) (fun e => ?_)
      · exact g2 _ (by rw [if_pos e])
      · exact g2 _ (by rw [if_neg e]; rfl)
  refine hG 0 _ _ _ _ _ ?_
  have := loop 4 0 (by omega) h (A 18) (by rw [up_id]; exact hM) Ex.rf (fun w hw => absurd hw (Nat.not_lt_zero w)) (fun _ _ => rfl)
  rw [← ix5] at this
  exact this
theorem m_takesFromAheads {v t : Nat} {x : Int32} (hM : ModH g rl h m q I A Wy) (h13 : I 13 = nI (vn L)) (hL : LdOk L) (hv : v < vn L) (ht : t < tn L v) (hJ : JC L C) (hA : AhR (A 18) L C) (hK : ∀ (h1 : Hp) (F : Nat → Int32) (C1 : NT) (c : Bool), ModH g rl h1 m q I (va_up A 18 F) Wy → MX rl h h1 → JC L C1 → AhR F L C1 → (c = false → C1 = C ∧ ClA L C v t) → (c = true → TC L C < TC L C1) → K (some (.int (bP (c = true)))) h1) (ex : x = nI (5 * v + t) := by rfl) : Run l g d_X10_takesFromAheads [.ref m, .int x] h 0 0 K := by
  subst ex
  have b1 := hL.1
  have b2 := (hL.2 v hv).2.2.1
  refine vc_X10_takesFromAheads (fun G hG => ?_)
  have loop : ∀ j u, u + j = vn L → ∀ (h1 : Hp) (F : Nat → Int32) (C1 : NT) (c : Bool), ModH g rl h1 m q I (va_up A 18 F) Wy → MX rl h h1 → JC L C1 → AhR F L C1 → (c = false → C1 = C ∧ ∀ u', u' < u → 0 < C v t u' → ∀ w, w < 4 → C u' (C v t u' - 1) w ≤ C v t w) → (c = true → TC L C < TC L C1) → ∀ o4 o5 o6 : Option Value, G 1 h1 0 0 [some (.ref m), some (.int (nI (5 * v + t))), some (.int (bP (c = true))), some (.int (nI u)), o4, o5, o6] [] := by
    intro j
    induction j with
    | zero =>
      intro u hu h1 F C1 c hM hx hJ1 hA1 c0 c1 o4 o5 o6
      refine hG 1 _ _ _ _ _ ?_
      refine y_get hM.1 (by decide) rfl ?_
      rw [h13]
      refine b_ge u (vn L) (fun _ => ?_) (fun _ => by omega)
      exact ⟨bP_or, hK h1 F C1 c hM hx hJ1 hA1 (fun e => ⟨(c0 e).1, fun u' hu' => (c0 e).2 u' (by omega)⟩) c1⟩
    | succ j ih =>
      intro u hu h1 F C1 c hM hx hJ1 hA1 c0 c1 o4 o5 o6
      have huv : u < vn L := by omega
      have bC := ((hJ1.1 v t hv ht).2.2 u (by omega)).2 huv
      have b3 := (hL.2 u huv).2.2.1
      -- the row of u: s is the last that is ahead
      have inner : ∀ i w, w + i = 4 → ∀ (h1 : Hp) (F : Nat → Int32) (C2 : NT) (c : Bool) (s : Nat), s + 1 = C1 v t u → s + 1 ≤ C2 v t u → ModH g rl h1 m q I (va_up A 18 F) Wy → MX rl h h1 → JC L C2 → AhR F L C2 → (c = false → C1 = C ∧ C2 = C ∧ (∀ u', u' < u → 0 < C v t u' → ∀ w, w < 4 → C u' (C v t u' - 1) w ≤ C v t w) ∧ ∀ w', w' < w → C u s w' ≤ C v t w') → (c = true → TC L C < TC L C2) → ∀ o6 : Option Value, G 2 h1 0 0 [some (.ref m), some (.int (nI (5 * v + t))), some (.int (bP (c = true))), some (.int (nI u)), some (.int (nI s)), some (.int (nI w)), o6] [] := by
        intro i
        induction i with
        | zero =>
          intro w hw h1 F C2 c s hs1 hs2 hM hx hJ2 hA2 c0 c1 o6
          refine hG 2 _ _ _ _ _ ?_
          refine b_ge w 4 (fun _ => ?_) (fun _ => by omega)
          have ih9 := ih (u + 1) (by omega) h1 F C2 c hM hx hJ2 hA2 (fun e => ⟨(c0 e).2.1, ?_⟩) c1
          rw [nI_succ u] at ih9
          exact ih9 _ _ _
          intro u' hu'
          by_cases e9 : u' = u
          · intro h0 w' hw'
            obtain ⟨q1, q2, q3, q4⟩ := c0 e
            rw [q1] at hs1
            rw [e9, ← hs1, Nat.add_sub_cancel]
            exact q4 w' (by omega)
          · exact (c0 e).2.2.1 u' (by omega)
        | succ i ih2 =>
          intro w hw h1 F C2 c s hs1 hs2 hM hx hJ2 hA2 c0 c1 o6
          have hsu : s < tn L u := by omega
          have e1 := hA2 u s w huv hsu (by omega)
          have e2 := hA2 v t w hv ht (by omega)
          have bb1 := ((hJ2.1 u s huv hsu).2.2 w (by omega)).1
          have bb2 := ((hJ2.1 v t hv ht).2.2 w (by omega)).1
          refine hG 2 _ _ _ _ _ ?_
          refine b_ge w 4 (fun _ => by omega) (fun _ => ?_)
          refine b_no (nI_pos (by omega)) ?_
          refine y_get hM.1 (by decide) rfl ?_
          refine y_ia (4 * (5 * u + s) + w) hM.a18 (by omega) e1 ?_ (ix4 u s w)
          refine y_get hM.1 (by decide) rfl ?_
          refine y_ia (4 * (5 * v + t) + w) hM.a18 (by omega) e2 ?_ (ix4q _ _)
          refine pk_le (C2 u s w) (C2 v t w) (fun y => ?_) (fun y => ?_)
          · have ih9 := ih2 (w + 1) (by omega) h1 F C2 c s hs1 hs2 hM hx hJ2 hA2 (fun e => ?_) c1
            rw [nI_succ w] at ih9
            exact ih9 _
            obtain ⟨q1, q2, q3, q4⟩ := c0 e
            refine ⟨q1, q2, q3, fun w' hw' => ?_⟩
            by_cases e9 : w' = w
            · rw [e9]; rw [q2] at y; exact y
            · exact q4 w' (by omega)
          · refine y_get hM.1 (by decide) rfl ?_
            refine y_is (4 * (5 * v + t) + w) hM.a18 (by omega) (fun h2 e3 x3 => ?_) (ix4q _ _)
            have hM2 := hM.setA 18 e3 x3
            rw [up_up] at hM2
            have hJ3 := jc_up hL hJ2 hv ht huv (by omega : w < 4) hs2 (by omega)
            have hT3 := tc_up (C := C2) (x := C2 u s w) hv ht (by omega : w < 4) (by omega)
            have hA3 : AhR (upd F (4 * (5 * v + t) + w) (nI (C2 u s w))) L (upC C2 v t w (C2 u s w)) := fun x y z hx hy hz => by
              have b4 := (hL.2 x hx).2.2.1
              by_cases e9 : x = v ∧ y = t ∧ z = w
              · rw [e9.1, e9.2.1, e9.2.2, pk_us, upC_s]
              · rw [upC_n e9, pk_un (by omega)]
                exact hA2 x y z hx hy hz
            have ih9 := ih2 (w + 1) (by omega) h2 _ _ true s hs1 ?_ hM2 (hx.trs (MX.of x3)) hJ3 hA3 (fun e => by cases e) (fun _ => ?_)
            rw [nI_succ w] at ih9
            exact ih9 _
            · unfold upC
              by_cases e9 : v = v ∧ t = t ∧ u = w
              · rw [if_pos e9, ← e9.2.2]; rw [← e9.2.2] at y; omega
              · rw [if_neg e9]; exact hs2
            · cases c with
              | false => rw [(c0 rfl).2.1] at hT3 ⊢; exact hT3
              | true => exact Nat.lt_trans (c1 rfl) hT3
      refine hG 1 _ _ _ _ _ ?_
      refine y_get hM.1 (by decide) rfl ?_
      rw [h13]
      refine b_ge u (vn L) (fun _ => by omega) (fun _ => ?_)
      refine y_get hM.1 (by decide) rfl ?_
      refine y_ia (4 * (5 * v + t) + u) hM.a18 (by omega) (hA1 v t u hv ht (by omega)) ?_ (ix4q _ _)
      rcases Nat.eq_zero_or_pos (C1 v t u) with h0 | h0
      · rw [h0]
        refine hG 2 _ _ _ _ _ ?_
        refine b_ge 0 4 (fun _ => by omega) (fun _ => ?_)
        refine b_yes (by decide) ?_
        have ih9 := ih (u + 1) (by omega) h1 F C1 c hM hx hJ1 hA1 (fun e => ⟨(c0 e).1, ?_⟩) c1
        rw [nI_succ u] at ih9
        exact ih9 _ _ _
        intro u' hu' h9
        by_cases e9 : u' = u
        · rw [e9, ← (c0 e).1] at h9; omega
        · exact (c0 e).2 u' (by omega) h9
      · have := inner 4 0 (by omega) h1 F C1 c (C1 v t u - 1) (by omega) (by omega) hM hx hJ1 hA1 (fun e => ⟨(c0 e).1, (c0 e).1, (c0 e).2, fun w hw => absurd hw (Nat.not_lt_zero w)⟩) c1 o6
        rw [← pk_sub (a := C1 v t u) (b := 1) h0] at this
        exact this
  refine hG 0 _ _ _ _ _ ?_
  have h9 := loop (vn L) 0 (by omega) h (A 18) C false (by rw [up_id]; exact hM) Ex.rf hJ hA (fun _ => ⟨rfl, fun u hu => absurd hu (Nat.not_lt_zero u)⟩) (fun e => by cases e) none none none
  exact h9
end MCIRC

