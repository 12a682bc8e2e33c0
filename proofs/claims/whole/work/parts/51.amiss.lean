/-! ===== letters that are amiss ===== -/
theorem ne9 {j : Nat} (h : j < 2 ^ 31) : ¬ nI j = -9 := fun e => absurd (e ▸ nI_pos' h) (by decide)
def Mt (L : Ld) (a k w o : Nat) : Prop := w < vn L ∧ o < tn L w ∧ wh L w o = a ∧ dg L w o = k
def Tp (P : Nat → Nat → Nat → Nat → Prop) (a k : Nat) : Prop := ∃ v t w o, P a k v t ∧ P a k w o ∧ ¬ (v = w ∧ t = o)
def Lst (P : Nat → Nat → Nat → Nat → Prop) (a k : Nat) (x : Int32) : Prop := (x = -9 ∧ ∀ w o, ¬ P a k w o) ∨ ∃ w o, w < 4 ∧ o < 5 ∧ x = nI (5 * w + o) ∧ P a k w o
def Ams (L : Ld) (k : Nat) : Prop := Tp (Mt L) 1 k ∨ Tp (Mt L) 2 k ∨ ∃ v t, Mt L 2 k v t ∧ ∀ a b, Mt L 1 k a b → a = v
noncomputable def amB (L : Ld) (k : Nat) : Bool := @decide (Ams L k) (Classical.propDecidable _)
theorem amB_iff {L : Ld} {k : Nat} : amB L k = true ↔ Ams L k := @decide_eq_true_iff _ (Classical.propDecidable _)
noncomputable def amN (L : Ld) : Nat := fst (fun k => !amB L k) 8
noncomputable def amI (L : Ld) : Int32 := if amN L < 8 then nI (amN L) else -9
theorem am_ok {L : Ld} (hL : LdOk L) (h : ¬ amN L < 8) : LtOk L := by
  have hno : ∀ k, k < 8 → ¬ Ams L k := fun k hk ha => by
    apply h
    obtain ⟨j, hj, hmin⟩ := min_ex (P := fun j => Ams L j) (f := fun j => j) (k + 1) ⟨k, ha, by omega⟩
    have := hmin k ha
    unfold amN
    rw [fst_no (p := fun k => !amB L k) (k := j) (fun i hi => by
      cases hq : amB L i with
      | false => rfl
      | true => exact absurd (hmin i (amB_iff.mp hq)) (by omega)) (by rw [amB_iff.mpr hj]; rfl) (n := 8) (by omega)]
    omega
  refine ⟨fun v t w o hv ht hw ho h0 e1 e2 => ?_, fun v t hv ht h2 => ?_⟩
  · refine Classical.byContradiction fun hne => ?_
    obtain ⟨l1, -, l3⟩ := (hL.2 v hv).2.2.2 t ht
    have hk := l3 h0
    have hT : Tp (Mt L) (wh L v t) (dg L v t) := ⟨v, t, w, o, ⟨hv, ht, rfl, rfl⟩, ⟨hw, ho, e1.symm, e2.symm⟩, hne⟩
    have : wh L v t = 1 ∨ wh L v t = 2 := by omega
    rcases this with e | e
    · rw [e] at hT; exact hno _ (by omega) (Or.inl hT)
    · rw [e] at hT; exact hno _ (by omega) (Or.inr (Or.inl hT))
  · have hk := ((hL.2 v hv).2.2.2 t ht).2.2 (by omega)
    refine Classical.byContradiction fun hne => hno (dg L v t) (by omega) (Or.inr (Or.inr ⟨v, t, ⟨hv, ht, h2, rfl⟩, fun a b hm => ?_⟩))
    refine Classical.byContradiction fun hav => hne ⟨a, b, hm.1, hm.2.1, hm.2.2.1, hm.2.2.2, hav⟩
theorem am_iff {L : Ld} {k : Nat} {x1 x2 bad : Int32} (h1 : Lst (Mt L) 1 k x1) (h2 : Lst (Mt L) 2 k x2) (hb : bt bad k = true ↔ Tp (Mt L) 1 k ∨ Tp (Mt L) 2 k) : Ams L k ↔ (bt bad k = true ∨ ¬ (x2 = -9 ∨ (¬ x1 = -9 ∧ ¬ x1 / 5 = x2 / 5))) := by
  unfold Ams
  rw [hb, ← or_assoc]
  by_cases hT : Tp (Mt L) 1 k ∨ Tp (Mt L) 2 k
  · exact ⟨fun _ => Or.inl hT, fun _ => Or.inl hT⟩
  have h9 : ∀ A B : Prop, (A ↔ B) → (((Tp (Mt L) 1 k ∨ Tp (Mt L) 2 k) ∨ A) ↔ ((Tp (Mt L) 1 k ∨ Tp (Mt L) 2 k) ∨ B)) := fun A B h => or_congr Iff.rfl h
  apply h9
  rcases h2 with ⟨e2, n2⟩ | ⟨v, t, hv, ht, e2, m2⟩
  · constructor
    · rintro ⟨v, t, hm, -⟩; exact absurd hm (n2 v t)
    · intro hz; exact absurd (Or.inl e2) hz
  · have e29 : ¬ x2 = -9 := by rw [e2]; exact ne9 (by omega)
    rcases h1 with ⟨e1, n1⟩ | ⟨w, o, hw, ho, e1, m1⟩
    · constructor
      · intro _ hz
        rcases hz with hz | hz
        · exact e29 hz
        · exact hz.1 e1
      · intro _; exact ⟨v, t, m2, fun a b hm => absurd hm (n1 a b)⟩
    · have e19 : ¬ x1 = -9 := by rw [e1]; exact ne9 (by omega)
      have d1 : x1 / 5 = nI w := by rw [e1, show (5 : Int32) = nI 5 from rfl, pk_div (by omega) (by omega) (by omega)]; congr 1; omega
      have d2 : x2 / 5 = nI v := by rw [e2, show (5 : Int32) = nI 5 from rfl, pk_div (by omega) (by omega) (by omega)]; congr 1; omega
      rw [d1, d2, nI_eq (by omega) (by omega)]
      constructor
      · rintro ⟨v', t', m3, hall⟩ hz
        rcases hz with hz | hz
        · exact e29 hz
        · apply hz.2
          have a1 := hall w o m1
          refine Classical.byContradiction fun hne => hT (Or.inr ⟨v, t, v', t', m2, m3, fun z => hne (by omega)⟩)
      · intro hz
        have hwv : w = v := Classical.byContradiction fun hne => hz (Or.inr ⟨e19, hne⟩)
        refine ⟨v, t, m2, fun a b m3 => ?_⟩
        refine Classical.byContradiction fun hne => hT (Or.inl ⟨w, o, a, b, m1, m3, fun z => hne (by omega)⟩)
theorem b_shr {x : Int32} {n : Nat} (hn : n < 32) : bt (x >>> (nI n &&& 31)) 0 = bt x n := by
  unfold bt
  rw [Int32.toBitVec_shiftRight]
  show (x.toBitVec.sshiftRight ((nI n &&& 31).toBitVec.smod 32).toNat).getLsbD 0 = _
  rw [b_sl n hn, BitVec.getLsbD_sshiftRight]
  simp [hn]
theorem and1 {x : Int32} : x &&& 1 = 1 ↔ bt x 0 = true := by
  have h1 : ∀ i, i < 32 → bt 1 i = decide (i = 0) := by decide +kernel
  constructor
  · intro h
    have := b_and x 1 0
    rw [h, h1 0 (by omega)] at this
    simpa using this
  · intro h
    refine b_ext (fun i hi => ?_)
    rw [b_and, h1 i hi]
    by_cases e : i = 0
    · subst e; simp [h]
    · simp [e]
def ScI (P : Nat → Nat → Nat → Nat → Prop) (F1 F2 : Nat → Int32) (bad : Int32) : Prop := ∀ k, k < 8 → Lst P 1 k (F1 k) ∧ Lst P 2 k (F2 k) ∧ (bt bad k = true ↔ Tp P 1 k ∨ Tp P 2 k)
theorem Lst.ne {P : Nat → Nat → Nat → Nat → Prop} {a k : Nat} {x : Int32} (h : Lst P a k x) : x = -9 ↔ ∀ w o, ¬ P a k w o := by
  rcases h with ⟨e, n⟩ | ⟨w, o, hw, ho, e, p⟩
  · exact ⟨fun _ => n, fun _ => e⟩
  · exact ⟨fun z => absurd (e.symm.trans z) (ne9 (by omega)), fun z => absurd p (z w o)⟩
theorem Lst.congr {P P' : Nat → Nat → Nat → Nat → Prop} {a k : Nat} {x : Int32} (h : Lst P a k x) (he : ∀ w o, P' a k w o ↔ P a k w o) : Lst P' a k x := by
  rcases h with ⟨e, n⟩ | ⟨w, o, hw, ho, e, p⟩
  · exact Or.inl ⟨e, fun w o z => n w o ((he w o).mp z)⟩
  · exact Or.inr ⟨w, o, hw, ho, e, (he w o).mpr p⟩
theorem Tp.congr {P P' : Nat → Nat → Nat → Nat → Prop} {a k : Nat} (he : ∀ w o, P' a k w o ↔ P a k w o) : Tp P' a k ↔ Tp P a k :=
  ⟨fun ⟨v, t, w, o, h1, h2, h3⟩ => ⟨v, t, w, o, (he _ _).mp h1, (he _ _).mp h2, h3⟩, fun ⟨v, t, w, o, h1, h2, h3⟩ => ⟨v, t, w, o, (he _ _).mpr h1, (he _ _).mpr h2, h3⟩⟩
section SC
variable {P P' : Nat → Nat → Nat → Nat → Prop} {F1 F2 : Nat → Int32} {bad : Int32}
theorem ScI.congr (h : ScI P F1 F2 bad) (he : ∀ a k w o, k < 8 → (P' a k w o ↔ P a k w o)) : ScI P' F1 F2 bad := fun k hk => by
  obtain ⟨h1, h2, h3⟩ := h k hk
  refine ⟨h1.congr (fun w o => he 1 k w o hk), h2.congr (fun w o => he 2 k w o hk), ?_⟩
  rw [h3, Tp.congr (P := P) (fun w o => he 1 k w o hk), Tp.congr (P := P) (fun w o => he 2 k w o hk)]
theorem Tp_new {a d v t : Nat} (hnew : ¬ P a d v t) (he : ∀ w o, P' a d w o ↔ P a d w o ∨ (w = v ∧ o = t)) : Tp P' a d ↔ (Tp P a d ∨ ¬ ∀ w o, ¬ P a d w o) := by
  constructor
  · rintro ⟨x, y, w, o, h1, h2, h3⟩
    rcases (he _ _).mp h1 with h1 | ⟨rfl, rfl⟩
    · exact Or.inr (fun z => z _ _ h1)
    · rcases (he _ _).mp h2 with h2 | ⟨rfl, rfl⟩
      · exact Or.inr (fun z => z _ _ h2)
      · exact absurd ⟨rfl, rfl⟩ h3
  · rintro (⟨x, y, w, o, h1, h2, h3⟩ | h)
    · exact ⟨x, y, w, o, (he _ _).mpr (Or.inl h1), (he _ _).mpr (Or.inl h2), h3⟩
    · have : ∃ w o, P a d w o := Classical.byContradiction fun z => h (fun w o p => z ⟨w, o, p⟩)
      obtain ⟨w, o, p⟩ := this
      exact ⟨w, o, v, t, (he _ _).mpr (Or.inl p), (he _ _).mpr (Or.inr ⟨rfl, rfl⟩), fun ⟨z1, z2⟩ => by subst z1 z2; exact hnew p⟩
theorem bad_new {x : Int32} {d k : Nat} (hd : d < 8) (hk : k < 8) (c : Prop) [Decidable c] (hx : x = if c then 0 else (1 : Int32) <<< (nI d &&& 31)) : bt (bad ||| x) k = true ↔ (bt bad k = true ∨ (k = d ∧ ¬ c)) := by
  rw [b_or, Bool.or_eq_true, hx]
  refine or_congr Iff.rfl ?_
  by_cases h : c
  · rw [if_pos h, b_0]; simp [h]
  · rw [if_neg h, b_one d (by omega) k (by omega), decide_eq_true_eq]; simp [h]
theorem ScI.s1 {d v t : Nat} {x : Int32} (h : ScI P F1 F2 bad) (hd : d < 8) (hv : v < 4) (ht : t < 5) (hnew : ¬ P 1 d v t) (he : ∀ b k w o, P' b k w o ↔ P b k w o ∨ (w = v ∧ o = t ∧ b = 1 ∧ k = d)) (hx : x = if F1 d = -9 then 0 else (1 : Int32) <<< (nI d &&& 31)) : ScI P' (upd F1 d (nI (5 * v + t))) F2 (bad ||| x) := fun k hk => by
  obtain ⟨h1, h2, h3⟩ := h k hk
  have e2 : ∀ w o, P' 2 k w o ↔ P 2 k w o := fun w o => by rw [he]; simp
  rw [bad_new hd hk _ hx]
  refine ⟨?_, h2.congr e2, ?_⟩
  · by_cases e : k = d
    · subst e
      rw [pk_us]
      exact Or.inr ⟨v, t, hv, ht, rfl, (he _ _ _ _).mpr (Or.inr ⟨rfl, rfl, rfl, rfl⟩)⟩
    · rw [pk_un e]
      exact h1.congr (fun w o => by rw [he]; simp [e])
  · rw [h3, Tp.congr e2]
    by_cases e : k = d
    · subst e
      rw [Tp_new (P := P) (P' := P') hnew (fun w o => by rw [he]; simp), h1.ne]
      constructor
      · rintro ((h | h) | ⟨-, h⟩)
        · exact Or.inl (Or.inl h)
        · exact Or.inr h
        · exact Or.inl (Or.inr h)
      · rintro ((h | h) | h)
        · exact Or.inl (Or.inl h)
        · exact Or.inr ⟨rfl, h⟩
        · exact Or.inl (Or.inr h)
    · rw [Tp.congr (P := P) (P' := P') (a := 1) (k := k) (fun w o => by rw [he]; simp [e])]
      exact ⟨fun h => h.elim id (fun h => absurd h.1 e), Or.inl⟩
theorem ScI.s2 {d v t : Nat} {x : Int32} (h : ScI P F1 F2 bad) (hd : d < 8) (hv : v < 4) (ht : t < 5) (hnew : ¬ P 2 d v t) (he : ∀ b k w o, P' b k w o ↔ P b k w o ∨ (w = v ∧ o = t ∧ b = 2 ∧ k = d)) (hx : x = if F2 d = -9 then 0 else (1 : Int32) <<< (nI d &&& 31)) : ScI P' F1 (upd F2 d (nI (5 * v + t))) (bad ||| x) := fun k hk => by
  obtain ⟨h1, h2, h3⟩ := h k hk
  have e2 : ∀ w o, P' 1 k w o ↔ P 1 k w o := fun w o => by rw [he]; simp
  rw [bad_new hd hk _ hx]
  refine ⟨h1.congr e2, ?_, ?_⟩
  · by_cases e : k = d
    · subst e
      rw [pk_us]
      exact Or.inr ⟨v, t, hv, ht, rfl, (he _ _ _ _).mpr (Or.inr ⟨rfl, rfl, rfl, rfl⟩)⟩
    · rw [pk_un e]
      exact h2.congr (fun w o => by rw [he]; simp [e])
  · rw [h3, Tp.congr e2]
    by_cases e : k = d
    · subst e
      rw [Tp_new (P := P) (P' := P') hnew (fun w o => by rw [he]; simp), h2.ne]
      constructor
      · rintro ((h | h) | ⟨-, h⟩)
        · exact Or.inl h
        · exact Or.inr (Or.inl h)
        · exact Or.inr (Or.inr h)
      · rintro (h | h | h)
        · exact Or.inl (Or.inl h)
        · exact Or.inl (Or.inr h)
        · exact Or.inr ⟨rfl, h⟩
    · rw [Tp.congr (P := P) (P' := P') (a := 2) (k := k) (fun w o => by rw [he]; simp [e])]
      exact ⟨fun h => h.elim id (fun h => absurd h.1 e), Or.inl⟩
end SC
def Mp (L : Ld) (v t : Nat) (a k w o : Nat) : Prop := (w < v ∨ (w = v ∧ o < t)) ∧ Mt L a k w o
section MAMISS
variable {l : Launch} {g : Gm} {rl : Nat → Nat} {h : Hp} {K : PT} {m : Nat} {q : Nat → Nat} {I : Nat → Int32} {A : Nat → Nat → Int32} {Wy : Nat → Int64} {L : Ld}
theorem m_firstAmiss (hM : ModH g rl h m q I A Wy) (h13 : I 13 = nI (vn L)) (hR : RdL A L) (hL : LdOk L) (hK : ∀ (h1 : Hp) (F1 F2 : Nat → Int32), ModH g rl h1 m q I (va_up (va_up A 19 F1) 20 F2) Wy → MX rl h h1 → (∀ k, k < 8 → Lst (Mt L) 1 k (F1 k)) → K (some (.int (amI L))) h1) : Run l g d_X10_firstAmiss [.ref m] h 0 0 K := by
  have b1 := hL.1
  refine vc_X10_firstAmiss (fun G hG => ?_)
  -- the last loop: letters
  have fin : ∀ (h1 : Hp) (F1 F2 : Nat → Int32) (bad : Int32), ModH g rl h1 m q I (va_up (va_up A 19 F1) 20 F2) Wy → MX rl h h1 → ScI (Mt L) F1 F2 bad → ∀ j k, k + j = 8 → (∀ i, i < k → ¬ Ams L i) → ∀ o3 o4 o5 : Option Value, G 7 h1 0 0 [some (.ref m), some (.int bad), some (.int (nI k)), o3, o4, o5] [] := by
    intro h1 F1 F2 bad hM hx hs j
    have hK := hK h1 F1 F2 hM hx (fun k hk => (hs k hk).1)
    unfold amI at hK
    induction j with
    | zero =>
      intro k hk hno o3 o4 o5
      refine hG 7 _ _ _ _ _ ?_
      refine b_ge k 8 (fun _ => ?_) (fun _ => by omega)
      have e8 : amN L = 8 := fst_all (fun i hi => by
        cases hq : amB L i with
        | false => rfl
        | true => exact absurd (amB_iff.mp hq) (hno i (by omega)))
      rw [if_neg (by omega)] at hK
      exact hK
    | succ j ih =>
      intro k hk hno o3 o4 o5
      obtain ⟨s1, s2, s3⟩ := hs k (by omega)
      have hiff := am_iff s1 s2 s3
      have hit : Ams L k → K (some (.int (nI k))) h1 := fun ha => by
        have ek : amN L = k := fst_no (fun i hi => by
          cases hq : amB L i with
          | false => rfl
          | true => exact absurd (amB_iff.mp hq) (hno i hi)) (by rw [amB_iff.mpr ha]; rfl) (by omega)
        rw [ek, if_pos (by omega)] at hK
        exact hK
      have g9 : ∀ (y3 y9 : Int32), y9 = bP (F2 k = -9 ∨ (¬ F1 k = -9 ∧ ¬ F1 k / 5 = F2 k / 5)) → G 9 h1 0 0 [some (.ref m), some (.int bad), some (.int (nI k)), some (.int y3), o4, o5] [.int y9] := by
        intro y3 y9 ey
        subst ey
        refine hG 9 _ _ _ _ _ ?_
        refine b_cases (fun e => ?_) (fun e => ?_)
        · have e := (b_shr (x := bad) (n := k) (by omega)).symm.trans (and1.mp e)
          exact hit (hiff.mpr (Or.inl e))
        · have e : ¬ bt bad k = true := fun z => e (and1.mpr ((b_shr (x := bad) (n := k) (by omega)).trans z))
          refine b_Z (fun w => ?_) (fun w => ?_)
          · exact hit (hiff.mpr (Or.inr w))
          · have hn : ¬ Ams L k := fun z => (hiff.mp z).elim e (fun z => z w)
            have ih9 := ih (k + 1) (by omega) (lt_s hno hn)
            rw [nI_succ k] at ih9
            exact ih9 _ _ _
      have g8 : ∀ y9 : Int32, y9 = bP (¬ F2 k = -9) → G 8 h1 0 0 [some (.ref m), some (.int bad), some (.int (nI k)), o3, o4, o5] [.int y9] := by
        intro y9 ey
        subst ey
        refine hG 8 _ _ _ _ _ ?_
        refine b_Z (fun e => ?_) (fun e => ?_)
        · have e : F2 k = -9 := Classical.byContradiction e
          exact g9 _ _ (bP_1 (Or.inl e)).symm
        · refine y_get hM.1 (by decide) rfl ?_
          refine y_ia k hM.a19 (by omega) rfl ?_
          refine b_cases (fun w => ?_) (fun w => ?_)
          · exact g9 _ _ (bP_0 (fun z => z.elim e (fun z => z.1 w))).symm
          · refine y_get hM.1 (by decide) rfl ?_
            refine y_ia k hM.a19 (by omega) rfl ?_
            refine ⟨by decide, ?_⟩
            refine y_get hM.1 (by decide) rfl ?_
            refine y_ia k hM.a20 (by omega) rfl ?_
            refine ⟨by decide, ?_⟩
            refine b_cases (fun u => ?_) (fun u => ?_)
            · exact g9 _ _ (bP_0 (fun z => z.elim e (fun z => z.2 u))).symm
            · exact g9 _ _ (bP_1 (Or.inr ⟨w, u⟩)).symm
      refine hG 7 _ _ _ _ _ ?_
      refine b_ge k 8 (fun _ => by omega) (fun _ => ?_)
      refine y_get hM.1 (by decide) rfl ?_
      refine y_ia k hM.a20 (by omega) rfl ?_
      refine b_cases (fun e => ?_) (fun e => ?_)
      · exact g8 _ (bP_0 (fun z => z e)).symm
      · exact g8 _ (bP_1 e).symm
  -- the loop over villages
  have vill : ∀ j v, v + j = vn L → ∀ (h1 : Hp) (F1 F2 : Nat → Int32) (bad : Int32), ModH g rl h1 m q I (va_up (va_up A 19 F1) 20 F2) Wy → MX rl h h1 → ScI (Mp L v 0) F1 F2 bad → ∀ o3 o4 o5 : Option Value, G 2 h1 0 0 [some (.ref m), some (.int bad), some (.int (nI v)), o3, o4, o5] [] := by
    intro j
    induction j with
    | zero =>
      intro v hv h1 F1 F2 bad hM hx hs o3 o4 o5
      refine hG 2 _ _ _ _ _ ?_
      refine y_get hM.1 (by decide) rfl ?_
      rw [h13]
      refine b_ge v (vn L) (fun _ => ?_) (fun _ => by omega)
      exact fin h1 F1 F2 bad hM hx (hs.congr (fun a k w o _ => ⟨fun z => ⟨Or.inl (by have := z.1; omega), z⟩, fun z => z.2⟩)) 8 0 (by omega) (fun i hi => absurd hi (Nat.not_lt_zero i)) _ _ _
    | succ j ih =>
      intro v hv h1 F1 F2 bad hM hx hs o3 o4 o5
      have hvn : v < vn L := by omega
      obtain ⟨r1, r2, r3⟩ := hR v hvn
      have b2 := (hL.2 v hvn).2.2.1
      have things : ∀ i t, t + i = tn L v → ∀ (h1 : Hp) (F1 F2 : Nat → Int32) (bad : Int32), ModH g rl h1 m q I (va_up (va_up A 19 F1) 20 F2) Wy → MX rl h h1 → ScI (Mp L v t) F1 F2 bad → ∀ o4 o5 : Option Value, G 3 h1 0 0 [some (.ref m), some (.int bad), some (.int (nI v)), some (.int (nI t)), o4, o5] [] := by
        intro i
        induction i with
        | zero =>
          intro t ht h1 F1 F2 bad hM hx hs o4 o5
          refine hG 3 _ _ _ _ _ ?_
          refine y_get hM.1 (by decide) rfl ?_
          refine y_ia (v) hM.a15 (by omega) (r2) ?_
          refine b_ge t (tn L v) (fun _ => ?_) (fun _ => by omega)
          have hs2 : ScI (Mp L (v + 1) 0) F1 F2 bad := hs.congr (fun a k w o _ => ⟨fun z => ⟨by
            have z1 := z.1
            rcases z1 with z1 | z1
            · by_cases e : w = v
              · exact Or.inr ⟨e, by have := z.2.2.1; subst e; omega⟩
              · exact Or.inl (by omega)
            · omega, z.2⟩, fun z => ⟨Or.inl (by have := z.1; omega), z.2⟩⟩)
          have ih9 := ih (v + 1) (by omega) h1 F1 F2 bad hM hx hs2
          rw [nI_succ v] at ih9
          exact ih9 _ _ _
        | succ i ih2 =>
          intro t ht h1 F1 F2 bad hM hx hs o4 o5
          have htn : t < tn L v := by omega
          obtain ⟨r4, r5⟩ := r3 t htn
          obtain ⟨l1, l2, l3⟩ := (hL.2 v hvn).2.2.2 t htn
          have hnew : ∀ a k, ¬ Mp L v t a k v t := fun a k z => by have := z.1; omega
          have hp : ∀ b k w o, Mp L v (t + 1) b k w o ↔ Mp L v t b k w o ∨ (w = v ∧ o = t ∧ b = wh L v t ∧ k = dg L v t) := fun b k w o => by
            constructor
            · rintro ⟨z1, z2⟩
              by_cases e : w = v ∧ o = t
              · obtain ⟨rfl, rfl⟩ := e
                exact Or.inr ⟨rfl, rfl, z2.2.2.1.symm, z2.2.2.2.symm⟩
              · exact Or.inl ⟨by omega, z2⟩
            · rintro (⟨z1, z2⟩ | ⟨rfl, rfl, rfl, rfl⟩)
              · exact ⟨by omega, z2⟩
              · exact ⟨by omega, hvn, htn, rfl, rfl⟩
          -- what comes behind: next thing
          have next : ∀ (h2 : Hp) (F1 F2 : Nat → Int32) (bad : Int32) (o4 o5 : Option Value), ModH g rl h2 m q I (va_up (va_up A 19 F1) 20 F2) Wy → MX rl h h2 → ScI (Mp L v (t + 1)) F1 F2 bad → G 3 h2 0 0 [some (.ref m), some (.int bad), some (.int (nI v)), some (.int (nI t + 1)), o4, o5] [] := fun h2 F1 F2 bad o4 o5 hM hx hs => by
            have ih9 := ih2 (t + 1) (by omega) h2 F1 F2 bad hM hx hs o4 o5
            rw [nI_succ t] at ih9
            exact ih9 
          have g5 : ∀ (h2 : Hp) (F1 F2 : Nat → Int32) (bad z9 : Int32), z9 = nI (5 * v + t) → ModH g rl h2 m q I (va_up (va_up A 19 F1) 20 F2) Wy → MX rl h h2 → (wh L v t ≠ 2 → ScI (Mp L v (t + 1)) F1 F2 bad) → (wh L v t = 2 → ScI (Mp L v t) F1 F2 bad) → G 5 h2 0 0 [some (.ref m), some (.int bad), some (.int (nI v)), some (.int (nI t)), some (.int z9), some (.int (nI (dg L v t)))] [] := by
            intro h2 F1 F2 bad z9 ez hM hx hs1 hs2
            subst ez
            refine hG 5 _ _ _ _ _ ?_
            refine y_get hM.1 (by decide) rfl ?_
            refine y_ia (5 * v + t) hM.a16 (by omega) (r4) ?_
            refine pk_eq (wh L v t) 2 (fun e => ?_) (fun e => ?_)
            · have hd : dg L v t < 8 := by have := l3 (by omega); omega
              have g6 : ∀ y9 : Int32, (y9 = if F2 (dg L v t) = -9 then 0 else (1 : Int32) <<< (nI (dg L v t) &&& 31)) → G 6 h2 0 0 [some (.ref m), some (.int bad), some (.int (nI v)), some (.int (nI t)), some (.int (nI (5 * v + t))), some (.int (nI (dg L v t)))] [.int y9, .int bad] := by
                intro y9 ey
                refine hG 6 _ _ _ _ _ ?_
                refine y_get hM.1 (by decide) rfl ?_
                refine y_is (dg L v t) hM.a20 (by omega) (fun h3 e3 x3 => ?_)
                have hM3 := hM.setA 20 e3 x3
                rw [up_up] at hM3
                exact next h3 F1 _ _ _ _ hM3 (hx.trs (MX.of x3)) ((hs2 e).s2 hd (by omega) (by omega) (hnew _ _) (fun b k w o => by rw [hp, e]) ey)
              refine y_get hM.1 (by decide) rfl ?_
              refine y_ia (dg L v t) hM.a20 (by omega) rfl ?_
              refine b_cases (fun w => ?_) (fun w => ?_)
              · exact g6 _ (if_pos w).symm
              · exact g6 _ (if_neg w).symm
            · exact next h2 F1 F2 bad _ _ hM hx (hs1 e)
          refine hG 3 _ _ _ _ _ ?_
          refine y_get hM.1 (by decide) rfl ?_
          refine y_ia (v) hM.a15 (by omega) (r2) ?_
          refine b_ge t (tn L v) (fun _ => by omega) (fun _ => ?_)
          refine y_get hM.1 (by decide) rfl ?_
          refine y_ia (5 * v + t) hM.a17 (by omega) (r5) ?_ (ix5 v t)
          refine y_get hM.1 (by decide) rfl ?_
          refine y_ia (5 * v + t) hM.a16 (by omega) (r4) ?_ (ix5 v t)
          refine pk_eq (wh L v t) 1 (fun e => ?_) (fun e => ?_)
          · have hd : dg L v t < 8 := by have := l3 (by omega); omega
            have g4 : ∀ y9 z9 : Int32, z9 = nI (5 * v + t) → (y9 = if F1 (dg L v t) = -9 then 0 else (1 : Int32) <<< (nI (dg L v t) &&& 31)) → G 4 h1 0 0 [some (.ref m), some (.int bad), some (.int (nI v)), some (.int (nI t)), some (.int z9), some (.int (nI (dg L v t)))] [.int y9, .int bad] := by
              intro y9 z9 ez ey
              subst ez
              refine hG 4 _ _ _ _ _ ?_
              refine y_get hM.1 (by decide) rfl ?_
              refine y_is (dg L v t) hM.a19 (by omega) (fun h3 e3 x3 => ?_)
              have hM3 := hM.setA 19 e3 x3
              have hM3 : ModH g rl h3 m q I (va_up (va_up A 19 (upd F1 (dg L v t) (nI (5 * v + t)))) 20 F2) Wy := hM3.eqA (fun k j _ => by
                unfold va_up
                by_cases k1 : k = 19
                · subst k1; simp
                · by_cases k2 : k = 20
                  · subst k2; simp
                  · simp [k1, k2])
              exact g5 h3 _ F2 _ _ rfl hM3 (hx.trs (MX.of x3)) (fun _ => hs.s1 hd (by omega) (by omega) (hnew _ _) (fun b k w o => by rw [hp, e]) ey) (fun z => by omega)
            refine y_get hM.1 (by decide) rfl ?_
            refine y_ia (dg L v t) hM.a19 (by omega) rfl ?_
            refine b_cases (fun w => ?_) (fun w => ?_)
            · exact g4 _ _ (ix5 v t) (if_pos w).symm
            · exact g4 _ _ (ix5 v t) (if_neg w).symm
          · refine g5 h1 F1 F2 bad _ (ix5 v t) hM hx (fun e2 => ?_) (fun _ => hs)
            refine fun k hk => (hs.congr (P' := fun a k w o => Mp L v t a k w o) (fun _ _ _ _ _ => Iff.rfl)) k hk |>.elim (fun s1 s2 => ?_)
            obtain ⟨s2, s3⟩ := s2
            have q1 : ∀ w o, Mp L v (t + 1) 1 k w o ↔ Mp L v t 1 k w o := fun w o => by rw [hp]; exact ⟨fun z => z.elim id (fun z => absurd z.2.2.1.symm e), Or.inl⟩
            have q2 : ∀ w o, Mp L v (t + 1) 2 k w o ↔ Mp L v t 2 k w o := fun w o => by rw [hp]; exact ⟨fun z => z.elim id (fun z => absurd z.2.2.1.symm e2), Or.inl⟩
            exact ⟨s1.congr q1, s2.congr q2, by rw [s3, Tp.congr q1, Tp.congr q2]⟩
      refine hG 2 _ _ _ _ _ ?_
      refine y_get hM.1 (by decide) rfl ?_
      rw [h13]
      refine b_ge v (vn L) (fun _ => by omega) (fun _ => ?_)
      exact things (tn L v) 0 (by omega) h1 F1 F2 bad hM hx hs _ _
  -- the first loop
  have strt : ∀ j k, k + j = 8 → ∀ (h1 : Hp) (F1 F2 : Nat → Int32), ModH g rl h1 m q I (va_up (va_up A 19 F1) 20 F2) Wy → MX rl h h1 → (∀ i, i < k → F1 i = -9 ∧ F2 i = -9) → G 1 h1 0 0 [some (.ref m), some (.int 0), some (.int (nI k)), none, none, none] [] := by
    intro j
    induction j with
    | zero =>
      intro k hk h1 F1 F2 hM hx hF
      refine hG 1 _ _ _ _ _ ?_
      refine b_ge k 8 (fun _ => ?_) (fun _ => by omega)
      refine vill (vn L) 0 (by omega) h1 F1 F2 0 hM hx (fun i hi => ?_) _ _ _
      obtain ⟨f1, f2⟩ := hF i (by omega)
      have hno : ∀ a w o, ¬ Mp L 0 0 a i w o := fun a w o z => by have := z.1; omega
      refine ⟨Or.inl ⟨f1, hno 1⟩, Or.inl ⟨f2, hno 2⟩, ?_⟩
      rw [b_0]
      exact ⟨fun z => absurd z (by decide), fun z => z.elim (fun ⟨_, _, _, _, z, _⟩ => absurd z (hno _ _ _)) (fun ⟨_, _, _, _, z, _⟩ => absurd z (hno _ _ _))⟩
    | succ j ih =>
      intro k hk h1 F1 F2 hM hx hF
      refine hG 1 _ _ _ _ _ ?_
      refine b_ge k 8 (fun _ => by omega) (fun _ => ?_)
      refine y_get hM.1 (by decide) rfl ?_
      refine y_is k hM.a19 (by omega) (fun h2 e2 x2 => ?_)
      have hM := hM.setA 19 e2 x2
      refine y_get hM.1 (by decide) rfl ?_
      refine y_is k hM.a20 (by omega) (fun h3 e3 x3 => ?_)
      have hM := hM.setA 20 e3 x3
      have hM : ModH g rl h3 m q I (va_up (va_up A 19 (upd F1 k (-9))) 20 (upd F2 k (-9))) Wy := hM.eqA (fun k j _ => by
        unfold va_up
        by_cases k1 : k = 19
        · subst k1; simp
        · by_cases k2 : k = 20
          · subst k2; simp
          · simp [k1, k2])
      have ih9 := ih (k + 1) (by omega) h3 _ _ hM ((hx.trs (MX.of x2)).trs (MX.of x3)) (fun i hi => by by_cases e : i = k; (subst e; rw [pk_us, pk_us]; exact ⟨rfl, rfl⟩); (rw [pk_un e, pk_un e]; exact hF i (by omega)))
      rw [nI_succ k] at ih9
      exact ih9 
  refine hG 0 _ _ _ _ _ ?_
  refine strt 8 0 (by omega) h (A 19) (A 20) ?_ Ex.rf (fun i hi => absurd hi (Nat.not_lt_zero i))
  rw [up_id, up_id]
  exact hM
end MAMISS

