/-! ===== the reference in the heap: its numbers I, its rows A (both by the places of the fields), its long row ===== -/
def mlen (k : Nat) : Nat := match k with
  | 2 => 4
  | 3 => 4
  | 4 => 240
  | 6 => 4
  | 7 => 4
  | 8 => 20
  | 9 => 20
  | 10 => 80
  | 11 => 4
  | 14 => 4
  | 15 => 4
  | 16 => 20
  | 17 => 20
  | 18 => 80
  | 19 => 8
  | 20 => 8
  | 21 => 4
  | 25 => 32
  | 26 => 8
  | _ => 0
def mFs (q : Nat → Nat) (I : Nat → Int32) : List Value := [.int (I 0), .int (I 1), .ref (q 2), .ref (q 3), .ref (q 4), .int (I 5), .ref (q 6), .ref (q 7), .ref (q 8), .ref (q 9), .ref (q 10), .ref (q 11), .int (I 12), .int (I 13), .ref (q 14), .ref (q 15), .ref (q 16), .ref (q 17), .ref (q 18), .ref (q 19), .ref (q 20), .ref (q 21), .int (I 22), .ref (q 23), .int (I 24), .ref (q 25), .ref (q 26)]
def ModH (g : Gm) (rl : Nat → Nat) (h : Hp) (m : Nat) (q : Nat → Nat) (I : Nat → Int32) (A : Nat → Nat → Int32) (Wy : Nat → Int64) : Prop := Ob rl h m 1000 (.inr (10, mFs q I)) ∧ (∀ k, mlen k ≠ 0 → Ia g rl h (q k) (1000 + k) (mlen k) (A k)) ∧ Ja g rl h (q 23) 1023 1296 Wy
section MOD
variable {g : Gm} {rl rl2 : Nat → Nat} {h h1 : Hp} {m : Nat} {q : Nat → Nat} {I : Nat → Int32} {A : Nat → Nat → Int32} {Wy : Nat → Int64}
theorem ModH.a2 (hM : ModH g rl h m q I A Wy) : Ia g rl h (q 2) 1002 4 (A 2) := hM.2.1 2 (by decide)
theorem ModH.a3 (hM : ModH g rl h m q I A Wy) : Ia g rl h (q 3) 1003 4 (A 3) := hM.2.1 3 (by decide)
theorem ModH.a4 (hM : ModH g rl h m q I A Wy) : Ia g rl h (q 4) 1004 240 (A 4) := hM.2.1 4 (by decide)
theorem ModH.a6 (hM : ModH g rl h m q I A Wy) : Ia g rl h (q 6) 1006 4 (A 6) := hM.2.1 6 (by decide)
theorem ModH.a7 (hM : ModH g rl h m q I A Wy) : Ia g rl h (q 7) 1007 4 (A 7) := hM.2.1 7 (by decide)
theorem ModH.a8 (hM : ModH g rl h m q I A Wy) : Ia g rl h (q 8) 1008 20 (A 8) := hM.2.1 8 (by decide)
theorem ModH.a9 (hM : ModH g rl h m q I A Wy) : Ia g rl h (q 9) 1009 20 (A 9) := hM.2.1 9 (by decide)
theorem ModH.a10 (hM : ModH g rl h m q I A Wy) : Ia g rl h (q 10) 1010 80 (A 10) := hM.2.1 10 (by decide)
theorem ModH.a11 (hM : ModH g rl h m q I A Wy) : Ia g rl h (q 11) 1011 4 (A 11) := hM.2.1 11 (by decide)
theorem ModH.a14 (hM : ModH g rl h m q I A Wy) : Ia g rl h (q 14) 1014 4 (A 14) := hM.2.1 14 (by decide)
theorem ModH.a15 (hM : ModH g rl h m q I A Wy) : Ia g rl h (q 15) 1015 4 (A 15) := hM.2.1 15 (by decide)
theorem ModH.a16 (hM : ModH g rl h m q I A Wy) : Ia g rl h (q 16) 1016 20 (A 16) := hM.2.1 16 (by decide)
theorem ModH.a17 (hM : ModH g rl h m q I A Wy) : Ia g rl h (q 17) 1017 20 (A 17) := hM.2.1 17 (by decide)
theorem ModH.a18 (hM : ModH g rl h m q I A Wy) : Ia g rl h (q 18) 1018 80 (A 18) := hM.2.1 18 (by decide)
theorem ModH.a19 (hM : ModH g rl h m q I A Wy) : Ia g rl h (q 19) 1019 8 (A 19) := hM.2.1 19 (by decide)
theorem ModH.a20 (hM : ModH g rl h m q I A Wy) : Ia g rl h (q 20) 1020 8 (A 20) := hM.2.1 20 (by decide)
theorem ModH.a21 (hM : ModH g rl h m q I A Wy) : Ia g rl h (q 21) 1021 4 (A 21) := hM.2.1 21 (by decide)
theorem ModH.a25 (hM : ModH g rl h m q I A Wy) : Ia g rl h (q 25) 1025 32 (A 25) := hM.2.1 25 (by decide)
theorem ModH.a26 (hM : ModH g rl h m q I A Wy) : Ia g rl h (q 26) 1026 8 (A 26) := hM.2.1 26 (by decide)
theorem ModH.ex {X : Nat → Prop} (hM : ModH g rl h m q I A Wy) (hx : Ex X rl h rl2 h1) (hn : ∀ i, 1000 ≤ i → i < 1100 → ¬ X i) : ModH g rl2 h1 m q I A Wy := by
  refine ⟨hM.1.ex hx (hn _ (by omega) (by omega)), fun k hk => (hM.2.1 k hk).ex hx (hn _ (by omega) ?_), hM.2.2.ex hx (hn _ (by omega) (by omega))⟩
  have : k < 100 := by
    rcases Nat.lt_or_ge k 100 with h1 | h1
    · exact h1
    · exfalso
      apply hk
      obtain ⟨j, rfl⟩ : ∃ j, k = j + 100 := ⟨k - 100, by omega⟩
      rfl
  omega
theorem ModH.setA {F : Nat → Int32} (hM : ModH g rl h m q I A Wy) (k : Nat) (e1 : Ia g rl h1 (q k) (1000 + k) (mlen k) F) (x1 : Ex (fun i => i = 1000 + k) rl h rl h1) (hk0 : k ≠ 0 := by decide) (hk : k ≠ 23 := by decide) : ModH g rl h1 m q I (va_up A k F) Wy := by
  refine ⟨hM.1.ex x1 (by omega), fun j hj => ?_, hM.2.2.ex x1 (by omega)⟩
  by_cases z : j = k
  · subst z
    unfold va_up
    rw [if_pos rfl]
    exact e1
  · unfold va_up
    rw [if_neg z]
    exact (hM.2.1 j hj).ex x1 (by omega)
theorem ModH.setW {F : Nat → Int64} (hM : ModH g rl h m q I A Wy) (e1 : Ja g rl h1 (q 23) 1023 1296 F) (x1 : Ex (fun i => i = 1023) rl h rl h1) : ModH g rl h1 m q I A F := by
  refine ⟨hM.1.ex x1 (by omega), fun j hj => (hM.2.1 j hj).ex x1 ?_, e1⟩
  intro z
  have : j = 23 := by omega
  subst this
  exact hj rfl
theorem ModH.setI {I' : Nat → Int32} (hM : ModH g rl h m q I A Wy) (e1 : Ob rl h1 m 1000 (.inr (10, mFs q I'))) (x1 : Ex (fun i => i = 1000) rl h rl h1) : ModH g rl h1 m q I' A Wy := by
  refine ⟨e1, fun j hj => (hM.2.1 j hj).ex x1 ?_, hM.2.2.ex x1 (by omega)⟩
  intro z
  have : j = 0 := by omega
  subst this
  exact hj rfl
theorem ModH.eqA {A' : Nat → Nat → Int32} (hM : ModH g rl h m q I A Wy) (he : ∀ k j, j < mlen k → A k j = A' k j) : ModH g rl h m q I A' Wy := ⟨hM.1, fun k hk => (hM.2.1 k hk).eq (he k), hM.2.2⟩
/-- what a run of the reference changed: its own cells alone -/
abbrev MX (rl : Nat → Nat) (h h1 : Hp) : Prop := Ex (fun i => 1000 ≤ i ∧ i < 1100) rl h rl h1
theorem MX.of {ρ : Nat} (x1 : Ex (fun i => i = ρ) rl h rl h1) (hk : 1000 ≤ ρ ∧ ρ < 1100 := by decide) : MX rl h h1 := x1.mono (fun i hi => by omega)
end MOD

