/-! ===== the class finds the first run, and by it what is ahead ===== -/
def gcut (L : Ld) : Nat → Nat → Nat
  | 0 => fun _ => 0
  | k + 1 => updN (gcut L k) (glv L (gcut L k)) (gcut L k (glv L (gcut L k)) + 1)
theorem gcut_s (L : Ld) (k : Nat) : gcut L (k + 1) = updN (gcut L k) (glv L (gcut L k)) (gcut L k (glv L (gcut L k)) + 1) := rfl
theorem fst_congr {p q : Nat → Bool} : ∀ {n : Nat}, (∀ k, k < n → p k = q k) → fst p n = fst q n
  | 0, _ => rfl
  | n + 1, h => by
    unfold fst
    rw [fst_congr (n := n) (fun k hk => h k (by omega)), h n (by omega)]
def nX (N : NT) (got : Bool) (v t a b u : Nat) : Nat := if got = true then (if u = a then max (max (if u = v then t else if 0 < t then N v (t - 1) u else 0) (N a b u)) (b + 1) else max (if u = v then t else if 0 < t then N v (t - 1) u else 0) (N a b u)) else (if u = v then t else if 0 < t then N v (t - 1) u else 0)
def upR (N : NT) (v t : Nat) (X : Nat → Nat) : NT := fun x y => if x = v ∧ y = t then X else N x y
def NdI (L : Ld) (c : Nat → Nat) (N : NT) (rk : Nat → Nat → Nat) (k : Nat) : Prop := ∀ v t, v < vn L → t < c v → N v t v = t ∧ (∀ u, u < 4 → (0 < t → N v (t - 1) u ≤ N v t u) ∧ (∀ a b, Snd L v t a b → b < N v t a ∧ N a b u ≤ N v t u) ∧ ((u = v ∧ N v t u = t) ∨ N v t u = 0 ∨ (0 < t ∧ N v t u = N v (t - 1) u) ∨ ∃ a b, Snd L v t a b ∧ (N v t u = N a b u ∨ (u = a ∧ N v t u = b + 1)))) ∧ (∀ u, u < vn L → N v t u ≤ c u) ∧ (∀ u, u < 4 → N v t u ≤ 5) ∧ rk v t < k ∧ (0 < t → rk v (t - 1) < rk v t) ∧ ∀ a b, Snd L v t a b → b < c a ∧ rk a b < rk v t
section ORD
variable {L : Ld} {c : Nat → Nat} {N : NT} {rk : Nat → Nat → Nat} {k : Nat}
theorem ndi_step (hL : LdOk L) (hc : CutOk L c) (hI : NdI L c N rk k) {v a b : Nat} {got : Bool} (hv : v < vn L) (ht : c v < tn L v) (hg : got = true ↔ wh L v (c v) = 2) (hs : got = true → Snd L v (c v) a b ∧ b < c a ∧ a ≠ v ∧ ∀ a' b', Snd L v (c v) a' b' → a' = a ∧ b' = b) : NdI L (updN c v (c v + 1)) (upR N v (c v) (nX N got v (c v) a b)) (upd2 rk v (c v) k) (k + 1) := by
  have b1 := hL.1
  have old : ∀ x y, y < c x → upR N v (c v) (nX N got v (c v) a b) x y = N x y := fun x y h => if_neg (fun z => by rw [z.1, z.2] at h; omega)
  have new : upR N v (c v) (nX N got v (c v) a b) v (c v) = nX N got v (c v) a b := if_pos ⟨rfl, rfl⟩
  have rold : ∀ x y, y < c x → upd2 rk v (c v) k x y = rk x y := fun x y h => upd2_n (fun z => by rw [z.1, z.2] at h; omega)
  intro x y hx hy
  by_cases e : x = v ∧ y = c v
  · obtain ⟨rfl, rfl⟩ := e
    rw [new]
    have b5 := (hL.2 x hx).2.2.1
    have eself : nX N got x (c x) a b x = c x := by
      unfold nX
      by_cases hgt : got = true
      · obtain ⟨s1, s2, s3, s4⟩ := hs hgt
        have h9 := (hI a b s1.2.1 s2).2.2.1 x hx
        rw [if_pos hgt, if_neg (Ne.symm s3), if_pos rfl]
        exact Nat.max_eq_left h9
      · rw [if_neg hgt, if_pos rfl]
    have ebase : ∀ u, u ≠ x → nX N got x (c x) a b u = if got = true then (if u = a then max (max (if 0 < c x then N x (c x - 1) u else 0) (N a b u)) (b + 1) else max (if 0 < c x then N x (c x - 1) u else 0) (N a b u)) else (if 0 < c x then N x (c x - 1) u else 0) := fun u hu => by
      unfold nX
      rw [if_neg hu]
    refine ⟨eself, fun u hu => ⟨fun h0 => ?_, fun a' b' hs' => ?_, ?_⟩, fun u hu => ?_, fun u hu => ?_, by rw [upd2_s]; omega, fun h0 => ?_, fun a' b' hs' => ?_⟩
    · rw [old x (c x - 1) (by omega)]
      by_cases eu : u = x
      · subst eu; rw [eself, (hI u (c u - 1) hx (by omega)).1]; omega
      · rw [ebase u eu, if_pos h0]
        by_cases hgt : got = true
        · rw [if_pos hgt]
          by_cases ea : u = a
          · rw [if_pos ea]; omega
          · rw [if_neg ea]; omega
        · rw [if_neg hgt]; exact Nat.le_refl _
    · have hgt : got = true := hg.mpr hs'.1
      obtain ⟨s1, s2, s3, s4⟩ := hs hgt
      obtain ⟨rfl, rfl⟩ := s4 a' b' hs'
      rw [old _ _ s2]
      refine ⟨?_, ?_⟩
      · rw [ebase a' s3, if_pos hgt, if_pos rfl]; omega
      · by_cases eu : u = x
        · subst eu; rw [eself]; exact (hI a' b' s1.2.1 s2).2.2.1 u hx
        · rw [ebase u eu, if_pos hgt]
          by_cases ea : u = a'
          · rw [if_pos ea]; omega
          · rw [if_neg ea]; omega
    · by_cases eu : u = x
      · exact Or.inl ⟨eu, by rw [eu]; exact eself⟩
      · refine Or.inr ?_
        rw [ebase u eu]
        by_cases h0 : 0 < c x
        · rw [if_pos h0, old x (c x - 1) (by omega)]
          by_cases hgt : got = true
          · obtain ⟨s1, s2, s3, s4⟩ := hs hgt
            rw [if_pos hgt]
            by_cases ea : u = a
            · rw [if_pos ea]
              by_cases q1 : b + 1 ≤ max (N x (c x - 1) u) (N a b u)
              · rw [Nat.max_eq_left q1]
                by_cases q2 : N a b u ≤ N x (c x - 1) u
                · rw [Nat.max_eq_left q2]; exact Or.inr (Or.inl ⟨h0, rfl⟩)
                · rw [Nat.max_eq_right (by omega)]; exact Or.inr (Or.inr ⟨a, b, s1, Or.inl (by rw [old a b s2])⟩)
              · rw [Nat.max_eq_right (by omega)]; exact Or.inr (Or.inr ⟨a, b, s1, Or.inr ⟨ea, rfl⟩⟩)
            · rw [if_neg ea]
              by_cases q2 : N a b u ≤ N x (c x - 1) u
              · rw [Nat.max_eq_left q2]; exact Or.inr (Or.inl ⟨h0, rfl⟩)
              · rw [Nat.max_eq_right (by omega)]; exact Or.inr (Or.inr ⟨a, b, s1, Or.inl (by rw [old a b s2])⟩)
          · rw [if_neg hgt]; exact Or.inr (Or.inl ⟨h0, rfl⟩)
        · rw [if_neg h0]
          by_cases hgt : got = true
          · obtain ⟨s1, s2, s3, s4⟩ := hs hgt
            rw [if_pos hgt, Nat.max_eq_right (Nat.zero_le _)]
            by_cases ea : u = a
            · rw [if_pos ea]
              by_cases q1 : b + 1 ≤ N a b u
              · rw [Nat.max_eq_left q1]; exact Or.inr (Or.inr ⟨a, b, s1, Or.inl (by rw [old a b s2])⟩)
              · rw [Nat.max_eq_right (by omega)]; exact Or.inr (Or.inr ⟨a, b, s1, Or.inr ⟨ea, rfl⟩⟩)
            · rw [if_neg ea]; exact Or.inr (Or.inr ⟨a, b, s1, Or.inl (by rw [old a b s2])⟩)
          · rw [if_neg hgt]; exact Or.inl rfl
    · by_cases eu : u = x
      · rw [eu, eself, updN_s]; omega
      · rw [ebase u eu, updN_n eu]
        have q0 : (if 0 < c x then N x (c x - 1) u else 0) ≤ c u := by
          by_cases h0 : 0 < c x
          · rw [if_pos h0]; exact (hI x (c x - 1) hx (by omega)).2.2.1 u hu
          · rw [if_neg h0]; exact Nat.zero_le _
        by_cases hgt : got = true
        · obtain ⟨s1, s2, s3, s4⟩ := hs hgt
          have q1 := (hI a b s1.2.1 s2).2.2.1 u hu
          rw [if_pos hgt]
          by_cases ea : u = a
          · rw [if_pos ea]; rw [← ea] at s2; omega
          · rw [if_neg ea]; omega
        · rw [if_neg hgt]; exact q0
    · by_cases eu : u = x
      · rw [eu, eself]; omega
      · rw [ebase u eu]
        have q0 : (if 0 < c x then N x (c x - 1) u else 0) ≤ 5 := by
          by_cases h0 : 0 < c x
          · rw [if_pos h0]; exact (hI x (c x - 1) hx (by omega)).2.2.2.1 u hu
          · rw [if_neg h0]; exact Nat.zero_le _
        by_cases hgt : got = true
        · obtain ⟨s1, s2, s3, s4⟩ := hs hgt
          have q1 := (hI a b s1.2.1 s2).2.2.2.1 u hu
          have q2 := (hL.2 a s1.2.1).2.2.1
          have q3 := s1.2.2.1
          rw [if_pos hgt]
          by_cases ea : u = a
          · rw [if_pos ea]; omega
          · rw [if_neg ea]; omega
        · rw [if_neg hgt]; exact q0
    · rw [upd2_s, rold x (c x - 1) (by omega)]
      exact (hI x (c x - 1) hx (by omega)).2.2.2.2.1
    · have hgt : got = true := hg.mpr hs'.1
      obtain ⟨s1, s2, s3, s4⟩ := hs hgt
      obtain ⟨rfl, rfl⟩ := s4 a' b' hs'
      rw [upd2_s, rold _ _ s2, updN_n s3]
      exact ⟨s2, (hI _ _ s1.2.1 s2).2.2.2.2.1⟩
  · have hy2 : y < c x := by
      by_cases ex : x = v
      · subst ex; rw [updN_s] at hy; have : y ≠ c x := fun z => e ⟨rfl, z⟩; omega
      · rw [updN_n ex] at hy; exact hy
    obtain ⟨i1, i2, i3, i4, i5, i6, i7⟩ := hI x y hx hy2
    rw [old x y hy2, rold x y hy2]
    refine ⟨i1, fun u hu => ⟨fun h0 => ?_, fun a' b' hs' => ?_, ?_⟩, fun u hu => Nat.le_trans (i3 u hu) (updN_ge c v u), i4, by omega, fun h0 => ?_, fun a' b' hs' => ?_⟩
    · rw [old x (y - 1) (by omega)]; exact (i2 u hu).1 h0
    · rw [old a' b' (i7 a' b' hs').1]; exact (i2 u hu).2.1 a' b' hs'
    · rcases (i2 u hu).2.2 with z | z | ⟨z1, z2⟩ | ⟨a', b', s', z⟩
      · exact Or.inl z
      · exact Or.inr (Or.inl z)
      · exact Or.inr (Or.inr (Or.inl ⟨z1, by rw [old x (y - 1) (by omega)]; exact z2⟩))
      · exact Or.inr (Or.inr (Or.inr ⟨a', b', s', by rw [old a' b' (i7 a' b' s').1]; exact z⟩))
    · rw [rold x (y - 1) (by omega)]; exact i6 h0
    · rw [rold a' b' (i7 a' b' hs').1]; exact ⟨Nat.lt_of_lt_of_le (i7 a' b' hs').1 (updN_ge c v a'), (i7 a' b' hs').2⟩
theorem ndi_need (hI : NdI L c N rk k) (hc : ∀ v, v < vn L → c v = tn L v) : Need L N := by
  refine ⟨fun v t hv ht => ?_, rk, fun v t hv ht => ?_⟩
  · obtain ⟨i1, i2, -⟩ := hI v t hv (by rw [hc v hv]; exact ht)
    exact ⟨i1, i2⟩
  · obtain ⟨-, -, -, -, -, i6, i7⟩ := hI v t hv (by rw [hc v hv]; exact ht)
    exact ⟨i6, fun a b hs => (i7 a b hs).2⟩
theorem glv_lv1 {nd : NT} (hL : LdOk L) (hT : LtOk L) (hN : Need L nd) (hc : CutOk L c) (hb : Cbe L nd c) : glv L c = lv1 L nd c := fst_congr (fun v hv => by
  have := go_rdy hL hT hN hc hb hv
  by_cases e : GoR L c v
  · rw [decide_eq_true e, decide_eq_true (this.mp e)]
  · rw [decide_eq_false e, decide_eq_false (fun z => e (this.mpr z))])
theorem gf_eq {nd : NT} (hL : LdOk L) (hT : LtOk L) (hN : Need L nd) : ∀ k, k ≤ sm (tn L) (vn L) → gcut L k = fcut L nd k
  | 0, _ => rfl
  | k + 1, h => by
    have e := gf_eq hL hT hN k (by omega)
    have o := fcut_ok hL hN k (by omega)
    show updN (gcut L k) (glv L (gcut L k)) (gcut L k (glv L (gcut L k)) + 1) = updN (fcut L nd k) (lv1 L nd (fcut L nd k)) (fcut L nd k (lv1 L nd (fcut L nd k)) + 1)
    rw [e, glv_lv1 hL hT hN o.1 o.2.1]
theorem glv_spec (h : glv L c < vn L) : GoR L c (glv L c) := by
  have := (fst_spec h).1
  have h2 : (!decide (GoR L c (glv L c))) = false := this
  rw [Bool.not_eq_false'] at h2
  exact of_decide_eq_true h2
theorem cut_full (hc : CutOk L c) (he : cntC L c = sm (tn L) (vn L)) : ∀ v, v < vn L → c v = tn L v := by
  intro v hv
  refine Nat.le_antisymm (hc v hv) ?_
  rcases Nat.lt_or_ge (c v) (tn L v) with z | z
  · have := sm_lt2 (u := v) (vn L) hc hv z
    unfold cntC at he
    omega
  · exact z
end ORD

