/-! ===== new cells, copies ===== -/
section NEW
variable {l : Launch} {g : Gm} {rl : Nat → Nat} {h : Hp} {cb sb : Nat} {ls : LocS} {r st : List Value} {K : CT}
def rlU (rl : Nat → Nat) (a ρ : Nat) : Nat → Nat := fun b => if b = a then ρ else rl b
abbrev X0 : Nat → Prop := fun _ => False
theorem y_new {ci N : Nat} {ds : List Value} (ρ : Nat) (k : ∀ (rl1 : Nat → Nat) (h1 : Hp) (q : Nat), Ob rl1 h1 q ρ (.inr (ci, ds)) → Ex X0 rl h rl1 h1 → K h1 (cb - 1) (sb - N) ls (.ref q :: st)) (h1 : 1 ≤ cb := by omega) (h2 : N ≤ sb := by omega) : 1 ≤ cb ∧ N ≤ sb ∧ ∀ q : Nat, h q = none → K (hup h q (.inr (ci, ds))) (cb - 1) (sb - N) ls (.ref q :: st) := ⟨h1, h2, fun q hq => k (rlU rl q ρ) _ q ⟨hup_same, if_pos rfl⟩ (Ex.new hq)⟩
theorem y_newI {n : Int32} (ρ N : Nat) (k : ∀ (rl1 : Nat → Nat) (h1 : Hp) (q : Nat), Ia g rl1 h1 q ρ N (fun _ => 0) → Ex X0 rl h rl1 h1 → K h1 (cb - 1) (sb - N) ls (.ref q :: r)) (hn : n = nI N := by rfl) (hN : N ≤ 2000 := by omega) (h1 : 1 ≤ cb := by omega) (h2 : N ≤ sb := by omega) : ∃ N : Nat, n = nI N ∧ N ≤ 2000 ∧ 1 ≤ cb ∧ N ≤ sb ∧ ∀ q : Nat, h q = none → K (hup h q (aI g N (fun _ => 0))) (cb - 1) (sb - N) ls (.ref q :: r) := ⟨N, hn, hN, h1, h2, fun q hq => k (rlU rl q ρ) _ q ⟨⟨_, hup_same, fun _ _ => rfl⟩, if_pos rfl⟩ (Ex.new hq)⟩
theorem y_newJ {n : Int32} (ρ N : Nat) (k : ∀ (rl1 : Nat → Nat) (h1 : Hp) (q : Nat), Ja g rl1 h1 q ρ N (fun _ => 0) → Ex X0 rl h rl1 h1 → K h1 (cb - 1) (sb - N) ls (.ref q :: r)) (hn : n = nI N := by rfl) (hN : N ≤ 2000 := by omega) (h1 : 1 ≤ cb := by omega) (h2 : N ≤ sb := by omega) : ∃ N : Nat, n = nI N ∧ N ≤ 2000 ∧ 1 ≤ cb ∧ N ≤ sb ∧ ∀ q : Nat, h q = none → K (hup h q (aJ g N (fun _ => 0))) (cb - 1) (sb - N) ls (.ref q :: r) := ⟨N, hn, hN, h1, h2, fun q hq => k (rlU rl q ρ) _ q ⟨⟨_, hup_same, fun _ _ => rfl⟩, if_pos rfl⟩ (Ex.new hq)⟩
theorem y_newZ {n : Int32} (ρ N : Nat) (k : ∀ (rl1 : Nat → Nat) (h1 : Hp) (q : Nat), Za g rl1 h1 q ρ N (fun _ => 0) → Ex X0 rl h rl1 h1 → K h1 (cb - 1) (sb - N) ls (.ref q :: r)) (hn : n = nI N := by rfl) (hN : N ≤ 2000 := by omega) (h1 : 1 ≤ cb := by omega) (h2 : N ≤ sb := by omega) : ∃ N : Nat, n = nI N ∧ N ≤ 2000 ∧ 1 ≤ cb ∧ N ≤ sb ∧ ∀ q : Nat, h q = none → K (hup h q (aZ g N (fun _ => 0))) (cb - 1) (sb - N) ls (.ref q :: r) := ⟨N, hn, hN, h1, h2, fun q hq => k (rlU rl q ρ) _ q ⟨⟨_, hup_same, fun _ _ => rfl⟩, if_pos rfl⟩ (Ex.new hq)⟩
theorem y_newR {n : Int32} {t : Nat} (ρ N : Nat) (k : ∀ (rl1 : Nat → Nat) (h1 : Hp) (q : Nat), Ra g t rl1 h1 q ρ N (fun _ => none) → Ex X0 rl h rl1 h1 → K h1 (cb - 1) (sb - N) ls (.ref q :: r)) (hn : n = nI N := by rfl) (hN : N ≤ 2000 := by omega) (h1 : 1 ≤ cb := by omega) (h2 : N ≤ sb := by omega) : ∃ N : Nat, n = nI N ∧ N ≤ 2000 ∧ 1 ≤ cb ∧ N ≤ sb ∧ ∀ q : Nat, h q = none → K (hup h q (aR g t N (fun _ => none))) (cb - 1) (sb - N) ls (.ref q :: r) := ⟨N, hn, hN, h1, h2, fun q hq => k (rlU rl q ρ) _ q ⟨⟨_, hup_same, fun _ _ => rfl⟩, if_pos rfl⟩ (Ex.new hq)⟩
/-- rows of a new int[N][M]: the role of row i is ρ1 i -/
theorem y_newII {n m : Int32} {N M : Nat} (ρ : Nat) (ρ1 : Nat → Nat) (k : ∀ (rl1 : Nat → Nat) (h1 : Hp) (q : Nat) (rw1 : Nat → Nat), Ra g 6 rl1 h1 q ρ N (fun i => some (rw1 i)) → (∀ i, i < N → Ia g rl1 h1 (rw1 i) (ρ1 i) M (fun _ => 0)) → Ex X0 rl h rl1 h1 → K h1 (cb - (1 + N)) (sb - (N + N * M)) ls (.ref q :: r)) (hn : n = nI N := by rfl) (hm : m = nI M := by rfl) (hN : N ≤ 100 := by omega) (hM : M ≤ 100 := by omega) (h1 : 1 + N ≤ cb := by omega) (h2 : N + N * M ≤ sb := by omega) : n = nI N ∧ m = nI M ∧ N ≤ 100 ∧ M ≤ 100 ∧ 1 + N ≤ cb ∧ N + N * M ≤ sb ∧ ∀ (q : Nat) (r1 : Nat → Nat), h q = none → (∀ i, i < N → h (r1 i) = none) → (∀ i, i < N → r1 i ≠ q) → (∀ i j, i < N → j < N → r1 i = r1 j → i = j) →
      K (hrows (hup h q (aR g 6 N (fun i => if i < N then some (r1 i) else none))) N r1 (aI g M (fun _ => 0))) (cb - (1 + N)) (sb - (N + N * M)) ls (.ref q :: r) := by
  refine ⟨hn, hm, hN, hM, h1, h2, fun q r1 hq hr1 hne hinj => ?_⟩
  have hmem : ∀ b, b ∈ (List.range N).map r1 ↔ ∃ i, i < N ∧ r1 i = b := fun b => by
    rw [List.mem_map]
    exact ⟨fun ⟨i, hi, e⟩ => ⟨i, List.mem_range.mp hi, e⟩, fun ⟨i, hi, e⟩ => ⟨i, List.mem_range.mpr hi, e⟩⟩
  -- the roles: a row's by its number
  have hex : ∀ b, b ∈ (List.range N).map r1 → ∃ i, i < N ∧ r1 i = b := fun b hb => (hmem b).mp hb
  let num : Nat → Nat := fun b => Classical.epsilon (fun i => i < N ∧ r1 i = b)
  have hnum : ∀ i, i < N → num (r1 i) = i := fun i hi => by
    have := Classical.epsilon_spec (p := fun j => j < N ∧ r1 j = r1 i) ⟨i, hi, rfl⟩
    exact hinj _ _ this.1 hi this.2
  refine k (fun b => if b ∈ (List.range N).map r1 then ρ1 (num b) else if b = q then ρ else rl b) _ q r1 ⟨⟨fun i => if i < N then some (r1 i) else none, ?_, fun j hj => if_pos hj⟩, ?_⟩ (fun i hi => ⟨⟨fun _ => 0, ?_, fun _ _ => rfl⟩, ?_⟩) (fun b hb => ?_)
  · unfold hrows
    rw [if_neg (fun z => by obtain ⟨i, hi, e⟩ := (hmem q).mp z; exact hne i hi e)]
    exact hup_same
  · dsimp only
    rw [if_neg (fun z => by obtain ⟨i, hi, e⟩ := (hmem q).mp z; exact hne i hi e), if_pos rfl]
  · exact if_pos ((hmem _).mpr ⟨i, hi, rfl⟩)
  · dsimp only
    rw [if_pos ((hmem _).mpr ⟨i, hi, rfl⟩), hnum i hi]
  · have hn1 : ¬ b ∈ (List.range N).map r1 := fun z => by obtain ⟨i, hi, e⟩ := (hmem b).mp z; rw [← e] at hb; exact hb (hr1 i hi)
    have hn2 : b ≠ q := fun e => by rw [e] at hb; exact hb hq
    refine ⟨?_, fun _ => ?_, ?_⟩
    · dsimp only
      rw [if_neg hn1, if_neg hn2]
    · unfold hrows; rw [if_neg hn1, hup_ne hn2]
    · unfold hrows; rw [if_neg hn1, hup_ne hn2]; exact hb
theorem y_copy {a b ρ ρ' n0 n1 : Nat} {F F1 : Nat → Int32} {n dp sp : Int32} (s d c : Nat) (e : Ia g rl h a ρ n0 F) (e1 : Ia g rl h b ρ' n1 F1) (hs : s + c ≤ n0) (hd : d + c ≤ n1) (k : ∀ h1, Ia g rl h1 b ρ' n1 (va_cpy F F1 s d c) → Ex (fun i => i = ρ') rl h rl h1 → K h1 cb sb ls []) (es : sp = nI s := by rfl) (ed : dp = nI d := by rfl) (en : n = nI c := by rfl) (b0 : n0 < 2 ^ 31 := by omega) (b1 : n1 < 2 ^ 31 := by omega) : ∃ (n0 n1 : Nat) (f f1 : Nat → Int32), h a = some (aI g n0 f) ∧ h b = some (aI g n1 f1) ∧ ¬ sp < 0 ∧ ¬ dp < 0 ∧ ¬ n < 0 ∧ sp.toNatClampNeg + n.toNatClampNeg ≤ n0 ∧ dp.toNatClampNeg + n.toNatClampNeg ≤ n1 ∧ K (hup h b (aI g n1 (va_cpy f f1 sp.toNatClampNeg dp.toNatClampNeg n.toNatClampNeg))) cb sb ls [] := by
  subst es ed en
  obtain ⟨⟨f, e2, hf⟩, hr⟩ := e
  obtain ⟨⟨f1, e3, hf1⟩, hr1⟩ := e1
  refine ⟨n0, n1, f, f1, e2, e3, nI_pos (by omega), nI_pos (by omega), nI_pos (by omega), ?_, ?_, ?_⟩
  · rw [nI_clamp (by omega), nI_clamp (by omega)]; exact hs
  · rw [nI_clamp (by omega), nI_clamp (by omega)]; exact hd
  · rw [nI_clamp (by omega), nI_clamp (by omega), nI_clamp (by omega)]
    refine k _ ⟨⟨_, hup_same, fun j hj => ?_⟩, hr1⟩ (Ex.put e3 hr1)
    unfold va_cpy
    by_cases z : d ≤ j ∧ j < d + c
    · rw [if_pos z, if_pos z]; exact hf _ (by omega)
    · rw [if_neg z, if_neg z]; exact hf1 j hj
theorem y_max {a b : Nat} {x y : Int32} (k : K h cb sb ls (.int (nI (max a b)) :: r)) (hx : x = nI a := by rfl) (hy : y = nI b := by rfl) (ha : a < 2 ^ 31 := by omega) (hb : b < 2 ^ 31 := by omega) (hl : Nat.ble r.length 4 = true := by rfl) : Nat.ble r.length 4 = true ∧ K h cb sb ls (.int (if x < y then y else x) :: r) := by
  subst hx hy
  refine ⟨hl, ?_⟩
  by_cases z : a < b
  · rw [if_pos (nI_lt z hb)]; rw [Nat.max_eq_right (by omega)] at k; exact k
  · rw [if_neg (nlt.mpr (nI_le (by omega) ha))]; rw [Nat.max_eq_left (by omega)] at k; exact k
theorem y_inst {a ρ ci : Nat} {fs : List Value} {b : Int32} {tab : List (Nat × Int32)} (e : Ob rl h a ρ (.inr (ci, fs))) (ht : (ci, b) ∈ tab) (k : K h cb sb ls (.int b :: r)) : ∃ (ci : Nat) (fs : List Value) (b : Int32), h a = some (.inr (ci, fs)) ∧ (ci, b) ∈ tab ∧ K h cb sb ls (.int b :: r) := ⟨ci, fs, b, e.1, ht, k⟩
end NEW

/-! ===== the reference, new ===== -/
def mI0 : Nat → Int32 := fun _ => 0
def mA0 : Nat → Nat → Int32 := fun k _ => if k = 2 then -9 else 0
def mV (j : Nat) (q : Nat → Nat) (k : Nat) : Value := if k < j then .ref (q k) else .null
def mFp (j : Nat) (q : Nat → Nat) : List Value := [.int 0, .int 0, mV j q 2, mV j q 3, mV j q 4, .int 0, mV j q 6, mV j q 7, mV j q 8, mV j q 9, mV j q 10, mV j q 11, .int 0, .int 0, mV j q 14, mV j q 15, mV j q 16, mV j q 17, mV j q 18, mV j q 19, mV j q 20, mV j q 21, .int 0, mV j q 23, .int 0, mV j q 25, mV j q 26]
/-- the fields below j are made -/
def Mi (g : Gm) (rl : Nat → Nat) (h : Hp) (m j : Nat) (q : Nat → Nat) : Prop := Ob rl h m 1000 (.inr (10, mFp j q)) ∧ (∀ k, k < j → mlen k ≠ 0 → Ia g rl h (q k) (1000 + k) (mlen k) (mA0 k)) ∧ (23 < j → Ja g rl h (q 23) 1023 1296 (fun _ => 0))
section MINIT
variable {l : Launch} {g : Gm} {rl : Nat → Nat} {h : Hp} {cb sb : Nat} {ls : LocS} {r st : List Value} {K : CT} {m j : Nat} {q : Nat → Nat} {h0 : Hp} {rl0 : Nat → Nat}
abbrev XM : Nat → Prop := fun i => 1000 ≤ i ∧ i < 1100
def MiX (rl0 : Nat → Nat) (h0 : Hp) (rl : Nat → Nat) (h : Hp) : Prop := Ex XM rl0 h0 rl h
theorem mi_put {k x : Nat} {h1 : Hp} {rl1 : Nat → Nat} (hj : j ≤ k) (hg : ∀ i, i < k → j ≤ i → mlen i = 0 ∧ i ≠ 23) (hM : Mi g rl1 h1 m j q) (hn : (k ≠ 23 ∧ Ia g rl1 h1 x (1000 + k) (mlen k) (mA0 k)) ∨ (k = 23 ∧ Ja g rl1 h1 x 1023 1296 (fun _ => 0))) (hf : (mFp j q).set k (.ref x) = mFp (k + 1) (updN q k x)) (hk : k < 27) (hk0 : k ≠ 0) (kk : ∀ h2, Mi g rl1 h2 m (k + 1) (updN q k x) → Ex (fun i => i = 1000) rl1 h1 rl1 h2 → K h2 cb sb ls r) : ∃ (ci : Nat) (fs : List Value), h1 m = some (.inr (ci, fs)) ∧ ci ∈ [10] ∧ k < fs.length ∧ K (hup h1 m (.inr (ci, fs.set k (.ref x)))) cb sb ls r := by
  refine y_putR hM.1 (by decide) hk hf (fun h2 e2 x2 => kk h2 ⟨e2, fun i hi hm => ?_, fun hi => ?_⟩ x2)
  · by_cases e : i = k
    · subst e
      rw [updN_s]
      rcases hn with ⟨-, hn⟩ | ⟨hn, -⟩
      · exact hn.ex x2 (by omega)
      · subst hn; exact absurd rfl hm
    · rw [updN_n e]
      refine (hM.2.1 i ?_ hm).ex x2 ?_
      · rcases Nat.lt_or_ge i j with z | z
        · exact z
        · exact absurd (hg i (by omega) z).1 hm
      · intro z
        have : i = 0 := by omega
        subst this
        exact hm rfl
  · by_cases e : k = 23
    · subst e
      rw [updN_s]
      rcases hn with ⟨hn, -⟩ | ⟨-, hn⟩
      · exact absurd rfl hn
      · exact hn.ex x2 (by omega)
    · rw [updN_n (Ne.symm e)]
      refine (hM.2.2 ?_).ex x2 (by omega)
      rcases Nat.lt_or_ge 23 j with z | z
      · exact z
      · exact absurd rfl (hg 23 (by omega) z).2
theorem Mi.ex {X : Nat → Prop} {rl1 : Nat → Nat} {h1 : Hp} (hM : Mi g rl h m j q) (hx : Ex X rl h rl1 h1) (hn : ∀ i, ¬ X i) : Mi g rl1 h1 m j q := ⟨hM.1.ex hx (hn _), fun k hk hm => (hM.2.1 k hk hm).ex hx (hn _), fun hk => (hM.2.2 hk).ex hx (hn _)⟩
/-- a row of ints, made and put -/
theorem mi_new {n : Int32} (k N : Nat) (hM : Mi g rl h m j q) (hX : MiX rl0 h0 rl h) (kk : ∀ (x : Nat) (rl1 : Nat → Nat) (h2 : Hp), Mi g rl1 h2 m (k + 1) (updN q k x) → MiX rl0 h0 rl1 h2 → K h2 (cb - 1) (sb - N) ls r) (hf : ∀ x, (mFp j q).set k (.ref x) = mFp (k + 1) (updN q k x) := by intro x; rfl) (hN : mlen k = N := by rfl) (hA : mA0 k = fun _ => 0 := by rfl) (hn : n = nI N := by rfl) (hN2 : N ≤ 2000 := by omega) (h1 : 1 ≤ cb := by omega) (h2 : N ≤ sb := by omega) (hj : j ≤ k := by omega) (hg : ∀ i, i < k → j ≤ i → mlen i = 0 ∧ i ≠ 23 := by decide) (hk : k < 27 := by omega) (hk0 : k ≠ 0 ∧ k ≠ 23 := by omega) : ∃ N : Nat, n = nI N ∧ N ≤ 2000 ∧ 1 ≤ cb ∧ N ≤ sb ∧ ∀ x : Nat, h x = none → ∃ (ci : Nat) (fs : List Value), (hup h x (aI g N (fun _ => 0))) m = some (.inr (ci, fs)) ∧ ci ∈ [10] ∧ k < fs.length ∧ K (hup (hup h x (aI g N (fun _ => 0))) m (.inr (ci, fs.set k (.ref x)))) (cb - 1) (sb - N) ls r := by
  refine y_newI (rl := rl) (K := oPutR [10] k K) (r := .ref m :: r) (1000 + k) N (fun rl1 h1 x e1 x1 => ?_) hn hN2 h1 h2
  have hM1 := hM.ex x1 (fun _ z => z)
  refine mi_put hj hg hM1 (Or.inl ⟨hk0.2, ?_⟩) (hf x) hk hk0.1 (fun h2 hM2 x2 => kk x rl1 h2 hM2 ((Ex.tr hX x1 (fun _ z => z) (fun _ z => z.elim)).tr x2 (fun _ z => z) (fun i z => ⟨by omega, by omega⟩)))
  rw [hN, hA]
  exact e1
end MINIT
/-- the state at the start -/
def S0 : St := ((fun _ => -9, fun _ => 0, fun _ _ => 0), 0, 0, (L0, fun _ _ _ => 0, fun _ => 0), (0, fun _ _ => 0, fun _ => 0))
theorem need_L0 : Need L0 (fun _ _ _ => 0) := ⟨fun v t hv => absurd hv (Nat.not_lt_zero v), fun _ _ => 0, fun v t hv => absurd hv (Nat.not_lt_zero v)⟩
theorem S0_ok : StOk S0 := ⟨fun k _ => ⟨Or.inl rfl, Nat.zero_le _⟩, ⟨Nat.zero_le _, fun v hv => absurd hv (Nat.not_lt_zero v)⟩, Or.inl rfl, fun v _ => Nat.zero_le _, ⟨⟨fun v _ _ _ hv => absurd hv (Nat.not_lt_zero v), fun v _ hv => absurd hv (Nat.not_lt_zero v)⟩, need_L0, cbe_0⟩, Nat.zero_le _, fun r hr => absurd hr (Nat.not_lt_zero r)⟩
section MINIT2
variable {l : Launch} {g : Gm} {rl : Nat → Nat} {h : Hp} {m : Nat} {K : PT}
theorem mm_init (e0 : Ob rl h m 1000 (.inr (10, mFp 0 (fun _ => 0)))) (hK : ∀ rl1 h1, ModR g rl1 h1 m S0 → Ex XM rl h rl1 h1 → K none h1) : Run l g d_X10_init [.ref m] h 20 2000 K := by
  refine vc_X10_init (fun G hG => ?_)
  refine hG 0 _ _ _ _ _ ?_
  -- row 2: four cells that say 'nothing'
  refine y_newI (rl := rl) 1002 4 (fun rl1 h1 x e1 x1 => ?_)
  have e0 := e0.ex x1 (fun z => z)
  refine y_is 0 e1 (by omega) (fun h2 e1 x2 => ?_)
  have e0 := e0.ex x2 (by omega)
  refine y_is 1 e1 (by omega) (fun h3 e1 x3 => ?_)
  have e0 := e0.ex x3 (by omega)
  refine y_is 2 e1 (by omega) (fun h4 e1 x4 => ?_)
  have e0 := e0.ex x4 (by omega)
  refine y_is 3 e1 (by omega) (fun h5 e1 x5 => ?_)
  have e0 := e0.ex x5 (by omega)
  have e1 : Ia g rl1 h5 x (1000 + 2) (mlen 2) (mA0 2) := e1.eq (fun j hj => by
    have : j = 0 ∨ j = 1 ∨ j = 2 ∨ j = 3 := by omega
    rcases this with rfl | rfl | rfl | rfl <;> rfl)
  have xi : ∀ i, i = 1002 → XM i := fun i z => ⟨by omega, by omega⟩
  have hX : MiX rl h rl1 h5 := (((x1.tr x2 (fun _ z => z.elim) xi).tr x3 (fun _ z => z) xi).tr x4 (fun _ z => z) xi).tr x5 (fun _ z => z) xi
  have hM : Mi g rl1 h5 m 0 (fun _ => 0) := ⟨e0, fun k hk => absurd hk (Nat.not_lt_zero k), fun hk => absurd hk (Nat.not_lt_zero 23)⟩
  refine mi_put (k := 2) (by omega) (by decide) hM (Or.inl ⟨by decide, e1⟩) rfl (by omega) (by decide) (fun h6 hM x6 => ?_)
  have hX : MiX rl h rl1 h6 := Ex.tr hX x6 (fun _ z => z) (fun i z => ⟨by omega, by omega⟩)
  refine mi_new 3 4 hM hX (fun _ _ _ hM hX => ?_)
  refine mi_new 4 240 hM hX (fun _ _ _ hM hX => ?_)
  refine mi_new 6 4 hM hX (fun _ _ _ hM hX => ?_)
  refine mi_new 7 4 hM hX (fun _ _ _ hM hX => ?_)
  refine mi_new 8 20 hM hX (fun _ _ _ hM hX => ?_)
  refine mi_new 9 20 hM hX (fun _ _ _ hM hX => ?_)
  refine mi_new 10 80 hM hX (fun _ _ _ hM hX => ?_)
  refine mi_new 11 4 hM hX (fun _ _ _ hM hX => ?_)
  refine mi_new 14 4 hM hX (fun _ _ _ hM hX => ?_)
  refine mi_new 15 4 hM hX (fun _ _ _ hM hX => ?_)
  refine mi_new 16 20 hM hX (fun _ _ _ hM hX => ?_)
  refine mi_new 17 20 hM hX (fun _ _ _ hM hX => ?_)
  refine mi_new 18 80 hM hX (fun _ _ _ hM hX => ?_)
  refine mi_new 19 8 hM hX (fun _ _ _ hM hX => ?_)
  refine mi_new 20 8 hM hX (fun _ _ _ hM hX => ?_)
  refine mi_new 21 4 hM hX (fun _ rl2 h7 hM hX => ?_)
  refine y_newJ (rl := rl2) 1023 1296 (fun rl3 h8 x8 e8 x9 => ?_)
  have hM := hM.ex x9 (fun _ z => z)
  have hX : MiX rl h rl3 h8 := Ex.tr hX x9 (fun _ z => z) (fun _ z => z.elim)
  refine mi_put (k := 23) (by omega) (by decide) hM (Or.inr ⟨rfl, e8⟩) rfl (by omega) (by decide) (fun h9 hM x10 => ?_)
  have hX : MiX rl h rl3 h9 := Ex.tr hX x10 (fun _ z => z) (fun i z => ⟨by omega, by omega⟩)
  refine mi_new 25 32 hM hX (fun _ _ _ hM hX => ?_)
  refine mi_new 26 8 hM hX (fun _ rl4 h10 hM hX => ?_)
  refine hK rl4 h10 ⟨S0_ok, _, mI0, mA0, fun _ => 0, ⟨hM.1, fun k hk => hM.2.1 k ?_ hk, hM.2.2 (by decide)⟩, ?_⟩ hX
  · rcases Nat.lt_or_ge k 27 with z | z
    · exact z
    · exfalso
      apply hk
      obtain ⟨j, rfl⟩ : ∃ j, k = j + 27 := ⟨k - 27, by omega⟩
      rfl
  · exact ⟨fun k hk => ⟨rfl, rfl, fun i hi => rfl⟩, rfl, rfl, ⟨S0_ok.2.1, rfl, fun v hv => absurd hv (Nat.not_lt_zero v)⟩, fun v hv => absurd hv (Nat.not_lt_zero v), rfl, fun r hr => absurd hr (Nat.not_lt_zero r)⟩
end MINIT2

