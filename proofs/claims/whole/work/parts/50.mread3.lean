section PARSE
variable {t : Nat → Int32} {n : Nat}
theorem pT_0 (p : Nat) (L : Ld) : pT t n 0 p L = (true, p, L) := rfl
theorem pT_s (f p : Nat) (L : Ld) : pT t n (f + 1) p L = if wof (cdI t n p) = 9 then (decide (tn L (vn L - 1) ≠ 0), p, L) else if dgo (cdI t n (p + 1)) (wof (cdI t n p)) then pT t n f (p + 2) (addT L (wof (cdI t n p)) (dgv (cdI t n (p + 1)))) else (false, p + 1, L) := rfl
theorem tn_addT (L : Ld) (w d : Nat) : tn (addT L w d) (vn L - 1) = tn L (vn L - 1) + 1 := updN_s
theorem pT_ok : ∀ (f p : Nat) (L : Ld), p ≤ n → LdB L → 0 < vn L → f + tn L (vn L - 1) = 5 → (pT t n f p L).2.1 ≤ n ∧ ((pT t n f p L).1 = true → LdB (pT t n f p L).2.2 ∧ vn (pT t n f p L).2.2 = vn L ∧ (∀ v, v < vn L - 1 → tn (pT t n f p L).2.2 v = tn L v) ∧ 1 ≤ tn (pT t n f p L).2.2 (vn L - 1))
  | 0, p, L, hp, hB, h0, hf => ⟨hp, fun _ => ⟨hB, rfl, fun _ _ => rfl, by show 1 ≤ tn L (vn L - 1); omega⟩⟩
  | f + 1, p, L, hp, hB, h0, hf => by
    rw [pT_s]
    by_cases a : wof (cdI t n p) = 9
    · rw [if_pos a]
      exact ⟨hp, fun z => ⟨hB, rfl, fun _ _ => rfl, by have z2 : tn L (vn L - 1) ≠ 0 := of_decide_eq_true z; show 1 ≤ tn L (vn L - 1); omega⟩⟩
    · rw [if_neg a]
      have i1 := wof_in a
      by_cases d : dgo (cdI t n (p + 1)) (wof (cdI t n p))
      · rw [if_pos d]
        have i2 := dgo_in d
        have hw : wof (cdI t n p) ≤ 2 := (wof_le _).resolve_left a
        have h9 := pT_ok f (p + 2) (addT L (wof (cdI t n p)) (dgv (cdI t n (p + 1)))) (by omega) (addT_ok hB h0 (by omega) hw (dgv_of d).2) h0 (by have := tn_addT L (wof (cdI t n p)) (dgv (cdI t n (p + 1))); show f + tn _ (vn L - 1) = 5; omega)
        refine ⟨h9.1, fun z => ?_⟩
        obtain ⟨k1, k2, k3, k4⟩ := h9.2 z
        exact ⟨k1, k2, fun v hv => (k3 v hv).trans (updN_n (by omega)), k4⟩
      · rw [if_neg d]
        exact ⟨by show p + 1 ≤ n; omega, fun z => by cases z⟩
def pW (t : Nat → Int32) (n p : Nat) (L : Ld) : Bool × Nat × Ld := if kof (cdI t n p) = 9 then (false, p, L) else pT t n 5 (p + 1) (addV L (kof (cdI t n p)))
theorem pV_W (p : Nat) (L : Ld) : pV t n p L = if cdI t n p = 59 then pW t n (p + 1) L else (false, p, L) := rfl
theorem addV_t (L : Ld) (k : Nat) : tn (addV L k) (vn L) = 0 := updN_s
theorem pW_ok {p : Nat} {L : Ld} (hp : p ≤ n) (hB : LdB L) (h4 : vn L < 4) (h1 : ∀ v, v < vn L → 1 ≤ tn L v) : (pW t n p L).2.1 ≤ n ∧ ((pW t n p L).1 = true → LdB (pW t n p L).2.2 ∧ vn (pW t n p L).2.2 = vn L + 1 ∧ ∀ v, v < vn L + 1 → 1 ≤ tn (pW t n p L).2.2 v) := by
  unfold pW
  by_cases a : kof (cdI t n p) = 9
  · rw [if_pos a]
    exact ⟨hp, fun z => by cases z⟩
  · rw [if_neg a]
    have i1 := kof_in a
    have h9 := pT_ok (t := t) (n := n) 5 (p + 1) (addV L (kof (cdI t n p))) (by omega) (addV_ok hB h4 ((kof_le _).resolve_left a)) (by show 0 < vn L + 1; omega) (by show 5 + tn (addV L _) (vn L + 1 - 1) = 5; rw [Nat.add_sub_cancel, addV_t])
    refine ⟨h9.1, fun z => ?_⟩
    obtain ⟨k1, k2, k3, k4⟩ := h9.2 z
    refine ⟨k1, k2, fun v hv => ?_⟩
    by_cases e : v = vn L
    · subst e; exact k4
    · rw [k3 v (by show v < vn L + 1 - 1; omega)]
      show 1 ≤ updN (tn L) (vn L) 0 v
      rw [updN_n e]
      exact h1 v (by omega)
theorem pV_ok {p : Nat} {L : Ld} (hp : p ≤ n) (hB : LdB L) (h4 : vn L < 4) (h1 : ∀ v, v < vn L → 1 ≤ tn L v) : (pV t n p L).2.1 ≤ n ∧ ((pV t n p L).1 = true → LdB (pV t n p L).2.2 ∧ vn (pV t n p L).2.2 = vn L + 1 ∧ ∀ v, v < vn L + 1 → 1 ≤ tn (pV t n p L).2.2 v) := by
  rw [pV_W]
  by_cases a : cdI t n p = 59
  · rw [if_pos a]
    have := (cd_in (by decide) a).1
    exact pW_ok (by omega) hB h4 h1
  · rw [if_neg a]
    exact ⟨hp, fun z => by cases z⟩
theorem pL_s (f p : Nat) (L : Ld) : pL t n (f + 1) p L = if vn L < 2 ∨ p < n then (if (pV t n p L).1 = true then pL t n f (pV t n p L).2.1 (pV t n p L).2.2 else (false, (pV t n p L).2.1, L)) else (decide (p = n), p, L) := rfl
theorem pL_ok : ∀ (f p : Nat) (L : Ld), p ≤ n → LdB L → f + vn L = 4 → (∀ v, v < vn L → 1 ≤ tn L v) → (pL t n f p L).2.1 ≤ n ∧ ((pL t n f p L).1 = true → LdB (pL t n f p L).2.2 ∧ 2 ≤ vn (pL t n f p L).2.2 ∧ ∀ v, v < vn (pL t n f p L).2.2 → 1 ≤ tn (pL t n f p L).2.2 v)
  | 0, p, L, hp, hB, hf, h1 => ⟨hp, fun _ => ⟨hB, by show 2 ≤ vn L; omega, h1⟩⟩
  | f + 1, p, L, hp, hB, hf, h1 => by
    rw [pL_s]
    have h9 := pV_ok (t := t) hp hB (by omega) h1
    by_cases a : vn L < 2 ∨ p < n
    · rw [if_pos a]
      by_cases b : (pV t n p L).1 = true
      · rw [if_pos b]
        obtain ⟨k1, k2, k3⟩ := h9.2 b
        exact pL_ok f _ _ h9.1 k1 (by omega) (by rw [k2]; exact k3)
      · rw [if_neg b]
        exact ⟨h9.1, fun z => by cases z⟩
    · rw [if_neg a]
      exact ⟨hp, fun _ => ⟨hB, by show 2 ≤ vn L; omega, h1⟩⟩
theorem L0_ok : LdB L0 := ⟨by decide, fun v hv => absurd hv (Nat.not_lt_zero v)⟩
theorem parse_ok : (parse t n).2.1 ≤ n ∧ ((parse t n).1 = true → LdOk (parse t n).2.2 ∧ 2 ≤ vn (parse t n).2.2) := by
  unfold parse
  by_cases a : cdI t n 0 = 118
  · rw [if_pos a]
    have := (cd_in (by decide) a).1
    have h9 := pL_ok (t := t) (n := n) 4 1 L0 (by omega) L0_ok rfl (fun v hv => absurd hv (Nat.not_lt_zero v))
    refine ⟨h9.1, fun z => ?_⟩
    obtain ⟨k1, k2, k3⟩ := h9.2 z
    exact ⟨⟨k1.1, fun v hv => ⟨(k1.2 v hv).1, k3 v hv, (k1.2 v hv).2⟩⟩, k2⟩
  · rw [if_neg a]
    exact ⟨Nat.zero_le _, fun z => by cases z⟩
end PARSE
section MREAD3
variable {l : Launch} {g : Gm} {rl : Nat → Nat} {h : Hp} {K : PT} {m : Nat} {q : Nat → Nat} {I : Nat → Int32} {A : Nat → Nat → Int32} {Wy : Nat → Int64} {t : Nat → Int32} {n first : Nat} {L : Ld}
theorem RdL.addV {A2 : Nat → Nat → Int32} {k : Nat} (hR : RdL A L) (h4 : vn L < 4) (e14 : ∀ v, v < 4 → A2 14 v = if v = vn L then nI k else A 14 v) (e15 : ∀ v, v < 4 → A2 15 v = if v = vn L then nI 0 else A 15 v) (e16 : A2 16 = A 16) (e17 : A2 17 = A 17) : RdL A2 (addV L k) := by
  intro v hv
  have hv : v < vn L + 1 := hv
  show A2 14 v = nI (updN (kd L) (vn L) k v) ∧ A2 15 v = nI (updN (tn L) (vn L) 0 v) ∧ ∀ t, t < updN (tn L) (vn L) 0 v → A2 16 (5 * v + t) = nI (wh L v t) ∧ A2 17 (5 * v + t) = nI (dg L v t)
  rw [e14 v (by omega), e15 v (by omega), e16, e17]
  by_cases e : v = vn L
  · rw [if_pos e, if_pos e, e, updN_s, updN_s]
    exact ⟨rfl, rfl, fun t ht => absurd ht (Nat.not_lt_zero t)⟩
  · rw [if_neg e, if_neg e, updN_n e, updN_n e]
    exact hR v (by omega)
theorem m_readVillage {p : Nat} {x : Int32} (hM : ModH g rl h m q I A Wy) (h12 : I 12 = nI (first + p)) (h13 : I 13 = nI (vn L)) (hc : ∀ k, k < n → A 4 (first + k) = t k) (hb : first + n ≤ 240) (hpn : p ≤ n) (hB : LdB L) (h4 : vn L < 4) (hR : RdL A L)
    (hK : ∀ (h1 : Hp) (I1 : Nat → Int32) (A1 : Nat → Nat → Int32), ModH g rl h1 m q I1 A1 Wy → MX rl h h1 → RdF I A I1 A1 → I1 12 = nI (first + (pW t n p L).2.1) → ((pW t n p L).1 = true → RdL A1 (pW t n p L).2.2 ∧ I1 13 = nI (vn L + 1)) → K (some (.int (bP ((pW t n p L).1 = true)))) h1) (ex : x = nI (first + n) := by rfl) : Run l g d_X10_readVillage [.ref m, .int x] h 0 0 K := by
  subst ex
  refine vc_X10_readVillage (fun G hG => ?_)
  have loop : ∀ (f p : Nat) (L : Ld) (h2 : Hp) (I2 : Nat → Int32) (A2 : Nat → Nat → Int32) (o2 o3 : Option Value), ModH g rl h2 m q I2 A2 Wy → f + tn L (vn L - 1) = 5 → I2 12 = nI (first + p) → I2 13 = nI (vn L - 1) → p ≤ n → LdB L → 0 < vn L → RdL A2 L → A2 4 = A 4 →
      (∀ (h1 : Hp) (I1 : Nat → Int32) (A1 : Nat → Nat → Int32), ModH g rl h1 m q I1 A1 Wy → MX rl h2 h1 → RdF I2 A2 I1 A1 → I1 12 = nI (first + (pT t n f p L).2.1) → ((pT t n f p L).1 = true → RdL A1 (pT t n f p L).2.2 ∧ I1 13 = nI (vn L - 1 + 1)) → K (some (.int (bP ((pT t n f p L).1 = true)))) h1) → G 3 h2 0 0 [some (.ref m), some (.int (nI (first + n))), o2, o3] [] := by
    intro f
    induction f with
    | zero =>
      intro p L h2 I2 A2 o2 o3 hM hf h12 h13 hp hB h0 hR e4 hK
      have b4 := hB.1
      have h15 : A2 15 (vn L - 1) = nI (tn L (vn L - 1)) := (hR _ (by omega)).2.1
      refine hG 3 _ _ _ _ _ ?_
      refine y_get hM.1 (by decide) rfl ?_
      refine y_get hM.1 (by decide) rfl ?_
      rw [h13]
      refine y_ia (vn L - 1) hM.a15 (by omega) (h15) ?_
      refine pk_eq (tn L (vn L - 1)) 0 (fun z => by omega) (fun z => ?_)
      refine y_get hM.1 (by decide) rfl ?_
      refine y_get hM.1 (by decide) rfl ?_
      rw [h13]
      refine y_ia (vn L - 1) hM.a15 (by omega) (h15) ?_
      refine b_ge (tn L (vn L - 1)) 5 (fun z => ?_) (fun z => by omega)
      refine hG 5 _ _ _ _ _ ?_
      refine y_get hM.1 (by decide) rfl ?_
      rw [h13]
      refine y_putI hM.1 (by decide) (Nat.le_of_ble_eq_true rfl) rfl (fun h3 e3 x3 => ?_)
      have hM3 := hM.setI (I' := upd I2 13 (nI (vn L - 1 + 1))) (by rw [nI_succ]; exact e3) x3
      have hk9 := hK h3 _ A2 hM3 (MX.of x3) (RdF.i (Or.inr rfl)) h12 (fun _ => ⟨hR, rfl⟩)
      exact ⟨Or.inr rfl, hk9⟩
    | succ f ih =>
      intro p L h2 I2 A2 o2 o3 hM hf h12 h13 hp hB h0 hR e4 hK
      have b4 := hB.1
      have h15 : A2 15 (vn L - 1) = nI (tn L (vn L - 1)) := (hR _ (by omega)).2.1
      have hc2 : ∀ k, k < n → A2 4 (first + k) = t k := fun k hk => by rw [e4]; exact hc k hk
      rw [pT_s] at hK
      have g4 : (wof (cdI t n p) = 9 → tn L (vn L - 1) = 0) → G 4 h2 0 0 [some (.ref m), some (.int (nI (first + n))), o2, o3] [] := fun hz => by
        refine hG 4 _ _ _ _ _ ?_
        refine y_call1 hM.1 (m_isThingNext hM h12 hc2 hb hp ?_)
        refine b_Z (fun y => ?_) (fun y => ?_)
        · have y : wof (cdI t n p) = 9 := Classical.byContradiction y
          rw [if_pos y, hz y] at hK
          exact ⟨Or.inl rfl, hK h2 I2 A2 hM Ex.rf RdF.rf h12 (fun z => by cases z)⟩
        · rw [if_neg y] at hK
          refine y_call1 hM.1 (m_readThing hM h12 h13 hc2 hb y hB h0 (by omega) hR (fun h3 I3 A3 hM3 x3 f3 i3 e3 r3 => ?_))
          have i1 := wof_in y
          refine b_Z (fun d => ?_) (fun d => ?_)
          · rw [if_neg d] at hK e3
            exact ⟨Or.inl rfl, hK h3 I3 A3 hM3 x3 f3 e3 (fun z => by cases z)⟩
          · rw [if_pos d] at hK e3
            have i2 := dgo_in d
            refine ih (p + 2) (addT L (wof (cdI t n p)) (dgv (cdI t n (p + 1)))) h3 I3 A3 o2 o3 hM3 ?_ e3 (i3.trans h13) (by omega) (addT_ok hB h0 (by omega) ((wof_le _).resolve_left y) (dgv_of d).2) h0 (r3 d) ((f3.2 4 (by omega)).trans e4) (fun h9 I9 A9 hM9 x9 f9 e9 r9 => hK h9 I9 A9 hM9 (x3.trs x9) (f3.tr f9) e9 r9)
            have := tn_addT L (wof (cdI t n p)) (dgv (cdI t n (p + 1)))
            show f + tn _ (vn L - 1) = 5
            omega
      refine hG 3 _ _ _ _ _ ?_
      refine y_get hM.1 (by decide) rfl ?_
      refine y_get hM.1 (by decide) rfl ?_
      rw [h13]
      refine y_ia (vn L - 1) hM.a15 (by omega) (h15) ?_
      refine pk_eq (tn L (vn L - 1)) 0 (fun z => g4 (fun _ => z)) (fun z => ?_)
      refine y_get hM.1 (by decide) rfl ?_
      refine y_get hM.1 (by decide) rfl ?_
      rw [h13]
      refine y_ia (vn L - 1) hM.a15 (by omega) (h15) ?_
      refine b_ge (tn L (vn L - 1)) 5 (fun z => by omega) (fun _ => ?_)
      refine y_call1 hM.1 (m_isThingNext hM h12 hc2 hb hp ?_)
      refine b_Z (fun y => ?_) (fun y => ?_)
      · have y : wof (cdI t n p) = 9 := Classical.byContradiction y
        rw [if_pos y, decide_eq_true z] at hK
        refine hG 5 _ _ _ _ _ ?_
        refine y_get hM.1 (by decide) rfl ?_
        rw [h13]
        refine y_putI hM.1 (by decide) (Nat.le_of_ble_eq_true rfl) rfl (fun h3 e3 x3 => ?_)
        have hM3 := hM.setI (I' := upd I2 13 (nI (vn L - 1 + 1))) (by rw [nI_succ]; exact e3) x3
        have hk9 := hK h3 _ A2 hM3 (MX.of x3) (RdF.i (Or.inr rfl)) h12 (fun _ => ⟨hR, rfl⟩)
        exact ⟨Or.inr rfl, hk9⟩
      · exact g4 (fun z => absurd z y)
  have g2 : ∀ (cd y9 : Int32), (kof (cdI t n p) = 9 → y9 = -9) → (kof (cdI t n p) ≠ 9 → y9 = nI (kof (cdI t n p))) → G 2 h 0 0 [some (.ref m), some (.int (nI (first + n))), some (.int cd), none] [.int y9] := by
    intro cd y9 hy1 hy2
    unfold pW at hK
    refine hG 2 _ _ _ _ _ ?_
    refine b_cases (fun z => ?_) (fun z => ?_)
    · have hz : kof (cdI t n p) = 9 := Classical.byContradiction fun w => by
        have e1 := hy2 w
        have e2 := (kof_le (cdI t n p)).resolve_left w
        rw [z] at e1
        exact absurd (e1 ▸ nI_pos' (show kof (cdI t n p) < 2 ^ 31 by omega)) (by decide)
      rw [if_pos hz] at hK
      exact ⟨Or.inl rfl, hK h I A hM Ex.rf RdF.rf h12 (fun z => by cases z)⟩
    · have hz : kof (cdI t n p) ≠ 9 := fun w => z (hy1 w)
      rw [if_neg hz] at hK
      rw [hy2 hz]
      have i1 := kof_in hz
      have kk := (kof_le (cdI t n p)).resolve_left hz
      refine y_get hM.1 (by decide) rfl ?_
      rw [h12]
      refine y_putI hM.1 (by decide) (Nat.le_of_ble_eq_true rfl) rfl (fun h1 e1 x1 => ?_)
      have hM := hM.setI (I' := upd I 12 (nI (first + p + 1))) (by rw [nI_succ]; exact e1) x1
      refine y_get hM.1 (by decide) rfl ?_
      refine y_get hM.1 (by decide) rfl ?_
      rw [show upd I 12 (nI (first + p + 1)) 13 = nI (vn L) from h13]
      refine y_is (vn L) hM.a14 (by omega) (fun h2 e2 x2 => ?_)
      have hM := hM.setA 14 e2 x2
      refine y_get hM.1 (by decide) rfl ?_
      refine y_get hM.1 (by decide) rfl ?_
      rw [show upd I 12 (nI (first + p + 1)) 13 = nI (vn L) from h13]
      refine y_is (vn L) hM.a15 (by omega) (fun h3 e3 x3 => ?_)
      have hM := hM.setA 15 e3 x3
      have hF : ∀ F1 F2, RdF I A (upd I 12 (nI (first + p + 1))) (va_up (va_up A 14 F1) 15 F2) := fun F1 F2 => ((RdF.i (k := 12) (Or.inl rfl)).tr (RdF.a (k := 14) (by omega))).tr (RdF.a (k := 15) (by omega))
      refine loop 5 (p + 1) (addV L (kof (cdI t n p))) h3 _ _ _ _ hM (by show 5 + tn (addV L _) (vn L + 1 - 1) = 5; rw [Nat.add_sub_cancel, addV_t]) rfl h13 (by omega) (addV_ok hB h4 kk) (by show 0 < vn L + 1; omega) ?_ rfl (fun h9 I9 A9 hM9 x9 f9 e9 r9 => hK h9 I9 A9 hM9 (((MX.of x1).trs (MX.of x2)).trs ((MX.of x3).trs x9)) ((hF _ _).tr f9) e9 r9)
      exact RdL.addV hR h4 (fun v _ => rfl) (fun v _ => rfl) rfl rfl
  have g1 : ∀ cd : Int32, kof cd = kof (cdI t n p) → G 1 h 0 0 [some (.ref m), some (.int (nI (first + n))), none, none] [.int cd] := by
    intro cd ek
    have g2 := fun y9 => g2 cd y9
    rw [← ek] at g2
    unfold kof at g2
    refine hG 1 _ _ _ _ _ ?_
    refine b_cases (fun a => ?_) (fun a => ?_)
    · simp only [if_pos a] at g2
      exact g2 _ (fun z => absurd z (by decide)) (fun _ => rfl)
    simp only [if_neg a] at g2
    refine b_cases (fun a => ?_) (fun a => ?_)
    · simp only [if_pos a] at g2
      exact g2 _ (fun z => absurd z (by decide)) (fun _ => rfl)
    simp only [if_neg a] at g2
    refine b_cases (fun a => ?_) (fun a => ?_)
    · simp only [if_pos a] at g2
      exact g2 _ (fun z => absurd z (by decide)) (fun _ => rfl)
    simp only [if_neg a] at g2
    exact g2 _ (fun _ => rfl) (fun z => absurd rfl z)
  refine hG 0 _ _ _ _ _ ?_
  refine y_get hM.1 (by decide) rfl ?_
  rw [h12]
  refine b_ge (first + p) (first + n) (fun z => ?_) (fun z => ?_)
  · refine g1 _ ?_
    unfold cdI
    rw [if_neg (by omega)]
    decide
  · refine y_get hM.1 (by decide) rfl ?_
    refine y_get hM.1 (by decide) rfl ?_
    rw [h12]
    refine y_ia (first + p) hM.a4 (by omega) (hc p (by omega)) ?_
    refine g1 _ ?_
    unfold cdI
    rw [if_pos (by omega)]
theorem m_readLand {x : Int32} (hM : ModH g rl h m q I A Wy) (h12 : I 12 = nI first) (hc : ∀ k, k < n → A 4 (first + k) = t k) (hb : first + n ≤ 240)
    (hK : ∀ (h1 : Hp) (I1 : Nat → Int32) (A1 : Nat → Nat → Int32), ModH g rl h1 m q I1 A1 Wy → MX rl h h1 → RdF I A I1 A1 → I1 12 = nI (first + (parse t n).2.1) → ((parse t n).1 = true → RdL A1 (parse t n).2.2 ∧ I1 13 = nI (vn (parse t n).2.2)) → K (some (.int (bP ((parse t n).1 = true)))) h1) (ex : x = nI (first + n) := by rfl) : Run l g d_X10_readLand [.ref m, .int x] h 0 0 K := by
  subst ex
  refine vc_X10_readLand (fun G hG => ?_)
  have loop : ∀ (f p : Nat) (L : Ld) (h2 : Hp) (I2 : Nat → Int32) (A2 : Nat → Nat → Int32), ModH g rl h2 m q I2 A2 Wy → f + vn L = 4 → I2 12 = nI (first + p) → I2 13 = nI (vn L) → p ≤ n → LdB L → (∀ v, v < vn L → 1 ≤ tn L v) → RdL A2 L → A2 4 = A 4 →
      (∀ (h1 : Hp) (I1 : Nat → Int32) (A1 : Nat → Nat → Int32), ModH g rl h1 m q I1 A1 Wy → MX rl h2 h1 → RdF I2 A2 I1 A1 → I1 12 = nI (first + (pL t n f p L).2.1) → ((pL t n f p L).1 = true → RdL A1 (pL t n f p L).2.2 ∧ I1 13 = nI (vn (pL t n f p L).2.2)) → K (some (.int (bP ((pL t n f p L).1 = true)))) h1) → G 1 h2 0 0 [some (.ref m), some (.int (nI (first + n)))] [] := by
    intro f
    have g3 : ∀ (p : Nat) (L : Ld) (h2 : Hp) (I2 : Nat → Int32) (A2 : Nat → Nat → Int32), ModH g rl h2 m q I2 A2 Wy → I2 12 = nI (first + p) → I2 13 = nI (vn L) → p ≤ n → RdL A2 L → 
      (∀ (h1 : Hp) (I1 : Nat → Int32) (A1 : Nat → Nat → Int32), ModH g rl h1 m q I1 A1 Wy → MX rl h2 h1 → RdF I2 A2 I1 A1 → I1 12 = nI (first + p) → (decide (p = n) = true → RdL A1 L ∧ I1 13 = nI (vn L)) → K (some (.int (bP (decide (p = n) = true)))) h1) → G 3 h2 0 0 [some (.ref m), some (.int (nI (first + n)))] [] := by
      intro p L h2 I2 A2 hM h12 h13 hp hR hK
      have hk9 := hK h2 I2 A2 hM Ex.rf RdF.rf h12 (fun _ => ⟨hR, h13⟩)
      refine hG 3 _ _ _ _ _ ?_
      refine y_get hM.1 (by decide) rfl ?_
      rw [h12]
      refine pk_eq (first + p) (first + n) (fun z => ?_) (fun z => ?_)
      · exact z1 (decide_eq_true (by omega)) hk9
      · exact z0 (fun w => z (by have := of_decide_eq_true w; omega)) hk9
    induction f with
    | zero =>
      intro p L h2 I2 A2 hM hf h12 h13 hp hB h1 hR e4 hK
      refine hG 1 _ _ _ _ _ ?_
      refine y_get hM.1 (by decide) rfl ?_
      rw [h13]
      refine pk_lt (vn L) 2 (fun z => by omega) (fun z => ?_)
      refine y_get hM.1 (by decide) rfl ?_
      rw [h13]
      refine b_ge (vn L) 4 (fun z => ?_) (fun z => by omega)
      exact g3 p L h2 I2 A2 hM h12 h13 hp hR hK
    | succ f ih =>
      intro p L h2 I2 A2 hM hf h12 h13 hp hB h1 hR e4 hK
      have hc2 : ∀ k, k < n → A2 4 (first + k) = t k := fun k hk => by rw [e4]; exact hc k hk
      rw [pL_s] at hK
      have g2 : (vn L < 2 ∨ p < n) → G 2 h2 0 0 [some (.ref m), some (.int (nI (first + n)))] [] := fun hz => by
        rw [if_pos hz] at hK
        have h9 := pV_ok (t := t) hp hB (by omega) h1
        rw [pV_W] at hK h9
        refine hG 2 _ _ _ _ _ ?_
        refine y_call1 hM.1 (m_isSign hM h12 hc2 hb hp (by decide) (fun h3 I3 hM3 x3 f3 i3 e3 => ?_))
        refine b_Z (fun y => ?_) (fun y => ?_)
        · rw [if_neg y] at hK e3
          exact ⟨Or.inl rfl, hK h3 I3 A2 hM3 x3 f3 e3 (fun z => by cases z)⟩
        · rw [if_pos y] at hK e3 h9
          have i1 := (cd_in (by decide) y).1
          refine y_call1 hM3.1 (m_readVillage hM3 e3 (i3.trans h13) hc2 hb (by omega) hB (by omega) hR (fun h5 I5 A5 hM5 x5 f5 e5 r5 => ?_))
          refine b_Z (fun w => ?_) (fun w => ?_)
          · rw [if_neg w] at hK
            exact ⟨Or.inl rfl, hK h5 I5 A5 hM5 (x3.trs x5) (f3.tr f5) e5 (fun z => by cases z)⟩
          · rw [if_pos w] at hK
            obtain ⟨k1, k2, k3⟩ := h9.2 w
            obtain ⟨k4, k5⟩ := r5 w
            exact ih _ _ h5 I5 A5 hM5 (by omega) e5 (by rw [k2]; exact k5) h9.1 k1 (by rw [k2]; exact k3) k4 ((f5.2 4 (by omega)).trans e4) (fun h9 I9 A9 hM9 x9 f9 e9 r9 => hK h9 I9 A9 hM9 ((x3.trs x5).trs x9) ((f3.tr f5).tr f9) e9 r9)
      refine hG 1 _ _ _ _ _ ?_
      refine y_get hM.1 (by decide) rfl ?_
      rw [h13]
      refine pk_lt (vn L) 2 (fun z => g2 (Or.inl z)) (fun z => ?_)
      refine y_get hM.1 (by decide) rfl ?_
      rw [h13]
      refine b_ge (vn L) 4 (fun z => by omega) (fun z => ?_)
      refine y_get hM.1 (by decide) rfl ?_
      rw [h12]
      refine b_ge (first + p) (first + n) (fun y => ?_) (fun y => g2 (Or.inr (by omega)))
      rw [if_neg (by omega)] at hK
      exact g3 p L h2 I2 A2 hM h12 h13 hp hR hK
  unfold parse at hK
  refine hG 0 _ _ _ _ _ ?_
  refine y_putI hM.1 (by decide) (Nat.le_of_ble_eq_true rfl) rfl (fun h1 e1 x1 => ?_)
  have hM := hM.setI (I' := upd I 13 (nI 0)) e1 x1
  have f1 : RdF I A (upd I 13 (nI 0)) A := RdF.i (Or.inr rfl)
  refine y_call1 hM.1 (m_isSign (p := 0) hM h12 hc hb (by omega) (by decide) (fun h3 I3 hM3 x3 f3 i3 e3 => ?_))
  refine b_Z (fun y => ?_) (fun y => ?_)
  · rw [if_neg y] at hK e3
    exact ⟨Or.inl rfl, hK h3 I3 A hM3 ((MX.of x1).trs x3) (f1.tr f3) e3 (fun z => by cases z)⟩
  · rw [if_pos y] at hK e3
    have i1 := (cd_in (by decide) y).1
    exact loop 4 1 L0 h3 I3 A hM3 rfl e3 i3 (by omega) L0_ok (fun v hv => absurd hv (Nat.not_lt_zero v)) (fun v hv => absurd hv (Nat.not_lt_zero v)) rfl (fun h9 I9 A9 hM9 x9 f9 e9 r9 => hK h9 I9 A9 hM9 (((MX.of x1).trs x3).trs x9) ((f1.tr f3).tr f9) e9 r9)
end MREAD3

