/-! ===== a village, a land, new ===== -/
section VNEW
variable {l : Launch} {g : Gm} {rl rl1 : Nat → Nat} {h h1 : Hp} {K : PT} {β a q : Nat} {ad : Nat → Nat} {th : Int32} {L : Ld} {A : Nat → Nat → Int32}
/-- what a new village is: its rows at x1, x2, x3, x4 and r 0 .. r 4 -/
def VnH (g : Gm) (rl : Nat → Nat) (h : Hp) (β v q ci : Nat) (k : Int32) (x1 x2 x3 x4 : Nat) (r : Nat → Nat) : Prop := Ob rl h q (β + (20 + v)) (.inr (ci, [.int k, .ref x1, .ref x2, .ref x3, .ref x4, .int 0])) ∧ Ia g rl h x1 (β + (30 + v)) 5 (fun _ => 0) ∧ Ia g rl h x2 (β + (40 + v)) 5 (fun _ => 0) ∧ Ra g 6 rl h x3 (β + (50 + v)) 5 (fun t => some (r t)) ∧ Ia g rl h x4 (β + (65 + 10 * v)) 6 (fun _ => 0) ∧ ∀ t, t < 5 → Ia g rl h (r t) (β + (60 + 10 * v + t)) 4 (fun _ => 0)
theorem c_plainInit {v ci : Nat} {k : Int32} (h4 : v < 4) (hci : ci ∈ [4, 0, 1]) (e : Ob rl h q (β + (20 + v)) (.inr (ci, [.int 0, .null, .null, .null, .null, .int 0]))) (hK : ∀ (rl1 : Nat → Nat) (h1 : Hp) (x1 x2 x3 x4 : Nat) (r : Nat → Nat), VnH g rl1 h1 β v q ci k x1 x2 x3 x4 r → Ex (fun i => i = β + (20 + v)) rl h rl1 h1 → K none h1) : Run l g d_X4_init [.ref q, .int k] h 9 46 K := by
  have xe : ∀ i, X0 i → i = β + (20 + v) := fun i z => z.elim
  have xi : ∀ i, i = β + (20 + v) → i = β + (20 + v) := fun i z => z
  refine vc_X4_init (fun G hG => ?_)
  refine hG 0 _ _ _ _ _ ?_
  refine y_newI (rl := rl) (β + (30 + v)) 5 (fun rl2 h2 x1 n1 y1 => ?_)
  have e := e.ex y1 (fun z => z)
  refine y_putR e hci (Nat.le_of_ble_eq_true rfl) rfl (fun h3 e y2 => ?_)
  have n1 := n1.ex y2 (by omega)
  refine y_newI (rl := rl2) (β + (40 + v)) 5 (fun rl4 h4 x2 n2 y3 => ?_)
  have e := e.ex y3 (fun z => z)
  have n1 := n1.ex y3 (fun z => z)
  refine y_putR e hci (Nat.le_of_ble_eq_true rfl) rfl (fun h5 e y4 => ?_)
  have n1 := n1.ex y4 (by omega)
  have n2 := n2.ex y4 (by omega)
  refine y_newII (rl := rl4) (N := 5) (M := 4) (β + (50 + v)) (fun t => β + (60 + 10 * v + t)) (fun rl6 h6 x3 r n3 n4 y5 => ?_)
  have e := e.ex y5 (fun z => z)
  have n1 := n1.ex y5 (fun z => z)
  have n2 := n2.ex y5 (fun z => z)
  refine y_putR e hci (Nat.le_of_ble_eq_true rfl) rfl (fun h7 e y6 => ?_)
  have n1 := n1.ex y6 (by omega)
  have n2 := n2.ex y6 (by omega)
  have n3 := n3.ex y6 (by omega)
  have n4 : ∀ t, t < 5 → Ia g rl6 h7 (r t) (β + (60 + 10 * v + t)) 4 (fun _ => 0) := fun t ht => (n4 t ht).ex y6 (by omega)
  refine y_newI (rl := rl6) (β + (65 + 10 * v)) 6 (fun rl8 h8 x4 n5 y7 => ?_)
  have e := e.ex y7 (fun z => z)
  have n1 := n1.ex y7 (fun z => z)
  have n2 := n2.ex y7 (fun z => z)
  have n3 := n3.ex y7 (fun z => z)
  refine y_putR e hci (Nat.le_of_ble_eq_true rfl) rfl (fun h9 e y8 => ?_)
  have n1 := n1.ex y8 (by omega)
  have n2 := n2.ex y8 (by omega)
  have n3 := n3.ex y8 (by omega)
  have n5 := n5.ex y8 (by omega)
  refine y_putI e hci (Nat.le_of_ble_eq_true rfl) rfl (fun h10 e y9 => ?_)
  exact hK rl8 h10 x1 x2 x3 x4 r ⟨e, n1.ex y9 (by omega), n2.ex y9 (by omega), n3.ex y9 (by omega), n5.ex y9 (by omega), fun t ht => (((n4 t ht).ex y7 (fun z => z)).ex y8 (by omega)).ex y9 (by omega)⟩ ((((((((y1.tr y2 xe xi).tr y3 xi xe).tr y4 xi xi).tr y5 xi xe).tr y6 xi xi).tr y7 xi xe).tr y8 xi xi).tr y9 xi xi)
theorem c_broadInit {v ci : Nat} {k : Int32} (h4 : v < 4) (hci : ci ∈ [4, 0, 1]) (e : Ob rl h q (β + (20 + v)) (.inr (ci, [.int 0, .null, .null, .null, .null, .int 0]))) (hK : ∀ (rl1 : Nat → Nat) (h1 : Hp) (x1 x2 x3 x4 : Nat) (r : Nat → Nat), VnH g rl1 h1 β v q ci k x1 x2 x3 x4 r → Ex (fun i => i = β + (20 + v)) rl h rl1 h1 → K none h1) : Run l g d_X0_init [.ref q, .int k] h 9 46 K := by
  refine vc_X0_init (fun G hG => ?_)
  refine hG 0 _ _ _ _ _ ?_
  exact x_callI rfl rfl (c_plainInit h4 hci e hK)
theorem c_doubledInit {v ci : Nat} (h4 : v < 4) (hci : ci ∈ [4, 0, 1]) (e : Ob rl h q (β + (20 + v)) (.inr (ci, [.int 0, .null, .null, .null, .null, .int 0]))) (hK : ∀ (rl1 : Nat → Nat) (h1 : Hp) (x1 x2 x3 x4 : Nat) (r : Nat → Nat), VnH g rl1 h1 β v q ci 2 x1 x2 x3 x4 r → Ex (fun i => i = β + (20 + v)) rl h rl1 h1 → K none h1) : Run l g d_X1_init [.ref q] h 9 46 K := by
  refine vc_X1_init (fun G hG => ?_)
  refine hG 0 _ _ _ _ _ ?_
  exact x_callI rfl rfl (c_broadInit h4 hci e hK)
/-- the addresses, the rows with a village more -/
def adV (ad : Nat → Nat) (v q x1 x2 x3 x4 : Nat) (r : Nat → Nat) : Nat → Nat := fun i => if i = 20 + v then q else if i = 30 + v then x1 else if i = 40 + v then x2 else if i = 50 + v then x3 else if i = 65 + 10 * v then x4 else if 60 + 10 * v ≤ i ∧ i < 60 + 10 * v + 5 then r (i - (60 + 10 * v)) else ad i
def roV (A : Nat → Nat → Int32) (v : Nat) (k : Int32) : Nat → Nat → Int32 := fun i => if i = 20 + v then (fun j => if j = 0 then k else 0) else if i = 30 + v then (fun _ => 0) else if i = 40 + v then (fun _ => 0) else if 60 + 10 * v ≤ i ∧ i < 60 + 10 * v + 6 then (fun _ => 0) else A i
theorem adV_o {v q x1 x2 x3 x4 i : Nat} {r : Nat → Nat} (h : i ≠ 20 + v) (h1 : i ≠ 30 + v) (h2 : i ≠ 40 + v) (h3 : i ≠ 50 + v) (h5 : i ≠ 65 + 10 * v) (h4 : ¬ (60 + 10 * v ≤ i ∧ i < 60 + 10 * v + 5)) : adV ad v q x1 x2 x3 x4 r i = ad i := by unfold adV; rw [if_neg h, if_neg h1, if_neg h2, if_neg h3, if_neg h5, if_neg h4]
theorem roV_o {v i : Nat} {k : Int32} (h : i ≠ 20 + v) (h1 : i ≠ 30 + v) (h2 : i ≠ 40 + v) (h4 : ¬ (60 + 10 * v ≤ i ∧ i < 60 + 10 * v + 6)) : roV A v k i = A i := by unfold roV; rw [if_neg h, if_neg h1, if_neg h2, if_neg h4]
theorem LnH.ex2 {X : Nat → Prop} (hH : LnH g rl h β a ad th L A) (hx : Ex X rl h rl1 h1) (h4 : vn L < 4) (hn : ∀ i, i < 100 → i ≠ 20 + vn L → ¬ X (β + i)) : LnH g rl1 h1 β a ad th L A := ⟨hH.1.ex hx (hn 0 (by omega) (by omega)), hH.2.1.ex hx (hn _ (by omega) (by omega)), hH.2.2.1.ex hx (hn _ (by omega) (by omega)), hH.2.2.2.1.ex hx (hn _ (by omega) (by omega)), hH.2.2.2.2.1.ex hx (hn _ (by omega) (by omega)), fun k hk => (hH.2.2.2.2.2.1 k hk).ex hx (hn _ (by omega) (by omega)), fun v hv => ⟨(hH.vo hv).ex hx (hn _ (by omega) (by omega)), (hH.wa hv).ex hx (hn _ (by omega) (by omega)), (hH.da hv).ex hx (hn _ (by omega) (by omega)), (hH.no hv).ex hx (hn _ (by omega) (by omega)), (hH.vr hv).ex hx (hn _ (by omega) (by omega)), fun t ht => (hH.nr hv ht).ex hx (hn _ (by omega) (by omega))⟩⟩
theorem c_settle {k : Nat} {x : Int32} (hP : PlH g rl h β a ad L A) (hB : LdB L) (h4 : vn L < 4) (hk : k ≤ 2) (hK : ∀ rl1 h1 ad1 A1, PlH g rl1 h1 β a ad1 (addV L k) A1 → Ex (LX β) rl h rl1 h1 → K none h1) (ex : x = nI k := by rfl) : Run l g d_X2_settle [.ref a, .int x] h 10 52 K := by
  subst ex
  obtain ⟨hH, hm, hl, hz, hz2⟩ := hP
  refine vc_X2_settle (fun G hG => ?_)
  have lx : ∀ k, k < 100 → ∀ i, i = β + k → LX β i := fun k hk i z => ⟨by omega, by omega⟩
  -- behind the row's new cell
  have g1 : ∀ (rl1 : Nat → Nat) (h1 : Hp) (q x1 x2 x3 x4 : Nat) (r : Nat → Nat) (cb sb : Nat), LnH g rl1 h1 β a ad (nI (sm (tn L) (vn L))) L A → VnH g rl1 h1 β (vn L) q (clsOf k) (nI k) x1 x2 x3 x4 r → Ex (LX β) rl h rl1 h1 → ∀ (h2 : Hp), Ra g 3 rl1 h2 (ad 1) (β + 1) 4 (va_up (fun v => if v < vn L then some (ad (20 + v)) else none) (vn L) (some q)) → Ex (fun i => i = β + 1) rl1 h1 rl1 h2 → G 1 h2 cb sb [some (.ref a), some (.int (nI k))] [] := by
    intro rl1 h1 q x1 x2 x3 x4 r cb sb hH hV hx h2 e2 y2
    refine hG 1 _ _ _ _ _ ?_
    refine y_get (hH.1.ex y2 (by omega)) (by decide) rfl ?_
    refine y_putI (hH.1.ex y2 (by omega)) (by decide) (Nat.le_of_ble_eq_true rfl) rfl (fun h3 e3 y3 => ?_)
    have tt : ∀ {b ρ n : Nat} {F : Nat → Int32}, Ia g rl1 h1 b (β + ρ) n F → 2 ≤ ρ → Ia g rl1 h3 b (β + ρ) n F := fun e hr => (e.ex y2 (by omega)).ex y3 (by omega)
    have to : ∀ {b ρ : Nat} {E : va_E}, Ob rl1 h1 b (β + ρ) E → 2 ≤ ρ → Ob rl1 h3 b (β + ρ) E := fun e hr => (e.ex y2 (by omega)).ex y3 (by omega)
    have tr : ∀ {b ρ n t : Nat} {F : Nat → Option Nat}, Ra g t rl1 h1 b (β + ρ) n F → 2 ≤ ρ → Ra g t rl1 h3 b (β + ρ) n F := fun e hr => (e.ex y2 (by omega)).ex y3 (by omega)
    have a0 : ∀ i, i < 20 → adV ad (vn L) q x1 x2 x3 x4 r i = ad i := fun i hi => adV_o (by omega) (by omega) (by omega) (by omega) (by omega) (by omega)
    have r0 : ∀ i, i < 20 → roV A (vn L) (nI k) i = A i := fun i hi => roV_o (by omega) (by omega) (by omega) (by omega)
    refine hK rl1 h3 (adV ad (vn L) q x1 x2 x3 x4 r) (roV A (vn L) (nI k)) ⟨⟨?_, ?_, ?_, ?_, ?_, fun j hj => ?_, fun v hv => ?_⟩, fun v hv => ?_, fun j hj => ?_, fun u hu => ?_, fun v t u hv ht hu => ?_⟩ ((hx.tr y2 (fun _ z => z) (lx 1 (by omega))).tr y3 (fun _ z => z) (lx 0 (by omega)))
    · rw [a0 1 (by omega), a0 2 (by omega), a0 3 (by omega), a0 4 (by omega), sm_addV]
      show Ob rl1 h3 a β (.inr (2, [_, _, _, _, .int (nI (vn L + 1)), _]))
      rw [nI_succ]
      exact e3
    · rw [a0 1 (by omega)]
      refine (e2.ex y3 (by omega)).eq (fun v hv => ?_)
      show va_up _ (vn L) (some q) v = if v < vn L + 1 then some (adV ad (vn L) q x1 x2 x3 x4 r (20 + v)) else none
      by_cases e : v = vn L
      · rw [e, va_s, if_pos (by omega)]
        unfold adV
        rw [if_pos rfl]
      · rw [va_n e]
        by_cases e9 : v < vn L
        · rw [if_pos e9, if_pos (by omega), adV_o (by omega) (by omega) (by omega) (by omega) (by omega) (by omega)]
        · rw [if_neg e9, if_neg (by omega)]
    · rw [a0 2 (by omega)]
      refine (tr hH.2.2.1 (by omega)).eq (fun j hj => ?_)
      show some (ad (10 + j)) = some (adV ad (vn L) q x1 x2 x3 x4 r (10 + j))
      rw [a0 _ (by omega)]
    · rw [a0 3 (by omega), r0 3 (by omega)]; exact tt hH.fr (by omega)
    · rw [a0 4 (by omega), r0 4 (by omega)]; exact tt hH.dn (by omega)
    · rw [a0 _ (by omega), r0 _ (by omega)]; exact to (hH.lt hj) (by omega)
    · have hv : v < vn L + 1 := hv
      show ViH g rl1 h3 β _ (updN (kd L) (vn L) k v) _ v
      by_cases e : v = vn L
      · subst e
        rw [updN_s]
        have c0 : adV ad (vn L) q x1 x2 x3 x4 r (20 + vn L) = q := if_pos rfl
        have c1 : adV ad (vn L) q x1 x2 x3 x4 r (30 + vn L) = x1 := by unfold adV; rw [if_neg (by omega), if_pos rfl]
        have c2 : adV ad (vn L) q x1 x2 x3 x4 r (40 + vn L) = x2 := by unfold adV; rw [if_neg (by omega), if_neg (by omega), if_pos rfl]
        have c3 : adV ad (vn L) q x1 x2 x3 x4 r (50 + vn L) = x3 := by unfold adV; rw [if_neg (by omega), if_neg (by omega), if_neg (by omega), if_pos rfl]
        have c4 : ∀ t, t < 5 → adV ad (vn L) q x1 x2 x3 x4 r (60 + 10 * vn L + t) = r t := fun t ht => by unfold adV; rw [if_neg (by omega), if_neg (by omega), if_neg (by omega), if_neg (by omega), if_neg (by omega), if_pos (by omega)]; congr 1; omega
        have c5 : adV ad (vn L) q x1 x2 x3 x4 r (65 + 10 * vn L) = x4 := by unfold adV; rw [if_neg (by omega), if_neg (by omega), if_neg (by omega), if_neg (by omega), if_pos rfl]
        refine ⟨?_, ?_, ?_, ?_, ?_, fun t ht => ?_⟩
        · unfold vlF
          rw [c0, c1, c2, c3, c5]
          have : roV A (vn L) (nI k) (20 + vn L) = fun j => if j = 0 then nI k else 0 := if_pos rfl
          rw [this]
          exact to hV.1 (by omega)
        · rw [c1]
          refine (tt hV.2.1 (by omega)).eq (fun j hj => ?_)
          unfold roV; rw [if_neg (by omega), if_pos rfl]
        · rw [c2]
          refine (tt hV.2.2.1 (by omega)).eq (fun j hj => ?_)
          unfold roV; rw [if_neg (by omega), if_neg (by omega), if_pos rfl]
        · rw [c3]
          refine (tr hV.2.2.2.1 (by omega)).eq (fun t ht => ?_)
          show some (r t) = some _
          rw [c4 t ht]
        · rw [c5]
          refine (tt hV.2.2.2.2.1 (by omega)).eq (fun j hj => ?_)
          unfold roV; rw [if_neg (by omega), if_neg (by omega), if_neg (by omega), if_pos (by omega)]
        · rw [c4 t ht]
          refine (tt (hV.2.2.2.2.2 t ht) (by omega)).eq (fun j hj => ?_)
          unfold roV; rw [if_neg (by omega), if_neg (by omega), if_neg (by omega), if_pos (by omega)]
      · have hvn : v < vn L := by omega
        rw [updN_n e]
        have av : ∀ i, i = 20 + v ∨ i = 30 + v ∨ i = 40 + v ∨ i = 50 + v ∨ i = 65 + 10 * v ∨ (∃ t, t < 5 ∧ i = 60 + 10 * v + t) → adV ad (vn L) q x1 x2 x3 x4 r i = ad i := fun i hi => by
          rcases hi with hi | hi | hi | hi | hi | ⟨t, ht, hi⟩ <;> exact adV_o (by omega) (by omega) (by omega) (by omega) (by omega) (by omega)
        have rv : ∀ i, i = 20 + v ∨ i = 30 + v ∨ i = 40 + v ∨ i = 65 + 10 * v ∨ (∃ t, t < 5 ∧ i = 60 + 10 * v + t) → roV A (vn L) (nI k) i = A i := fun i hi => by
          rcases hi with hi | hi | hi | hi | ⟨t, ht, hi⟩ <;> exact roV_o (by omega) (by omega) (by omega) (by omega)
        refine ⟨?_, ?_, ?_, ?_, ?_, fun t ht => ?_⟩
        · unfold vlF
          rw [av (20 + v) (by omega), av (30 + v) (by omega), av (40 + v) (by omega), av (50 + v) (by omega), av (65 + 10 * v) (by omega), rv (20 + v) (by omega)]
          exact to (hH.vo hvn) (by omega)
        · rw [av (30 + v) (by omega), rv (30 + v) (by omega)]; exact tt (hH.wa hvn) (by omega)
        · rw [av (40 + v) (by omega), rv (40 + v) (by omega)]; exact tt (hH.da hvn) (by omega)
        · rw [av (50 + v) (by omega)]
          refine (tr (hH.no hvn) (by omega)).eq (fun t ht => ?_)
          show some _ = some _
          rw [av _ (Or.inr (Or.inr (Or.inr (Or.inr (Or.inr ⟨t, ht, rfl⟩)))))]
        · rw [av (65 + 10 * v) (by omega), rv (65 + 10 * v) (by omega)]; exact tt (hH.vr hvn) (by omega)
        · rw [av _ (Or.inr (Or.inr (Or.inr (Or.inr (Or.inr ⟨t, ht, rfl⟩))))), rv _ (Or.inr (Or.inr (Or.inr (Or.inr ⟨t, ht, rfl⟩))))]; exact tt (hH.nr hvn ht) (by omega)
    · have hv : v < vn L + 1 := hv
      show _ = nI (updN (kd L) (vn L) k v) ∧ _ = nI (updN (tn L) (vn L) 0 v) ∧ (∀ t, t < updN (tn L) (vn L) 0 v → _ = nI (wh L v t) ∧ _ = nI (dg L v t)) ∧ ∀ t, t ≤ updN (tn L) (vn L) 0 v → _ = nI (val (addV L k) v t)
      by_cases e : v = vn L
      · subst e
        rw [updN_s, updN_s]
        have : roV A (vn L) (nI k) (20 + vn L) = fun j => if j = 0 then nI k else 0 := if_pos rfl
        rw [this]
        refine ⟨rfl, rfl, fun t ht => absurd ht (Nat.not_lt_zero t), fun t ht => ?_⟩
        obtain rfl : t = 0 := by omega
        unfold roV
        rw [if_neg (by omega), if_neg (by omega), if_neg (by omega), if_pos (by omega)]
        rfl
      · rw [updN_n e, updN_n e, roV_o (by omega) (by omega) (by omega) (by omega), roV_o (by omega) (by omega) (by omega) (by omega), roV_o (by omega) (by omega) (by omega) (by omega), roV_o (by omega) (by omega) (by omega) (by omega)]
        obtain ⟨q0, q1, q2, q3⟩ := hm v (by omega)
        exact ⟨q0, q1, q2, fun t ht => by rw [val_addV]; exact q3 t ht⟩
    · rw [r0 _ (by omega)]
      obtain ⟨s, hs, s0, s3, s1, s4, s2, s5, l1, l2⟩ := hl j hj
      exact ⟨s, hs, by rw [sm_addV]; exact s0, by rw [sm_addV]; exact s3, s1, s4, s2, s5, lts_congr l1 (fun _ _ => mt_addV), lts_congr l2 (fun _ _ => mt_addV)⟩
    · rw [r0 4 (by omega)]; exact hz u hu
    · have hv : v < vn L + 1 := hv
      by_cases e : v = vn L
      · subst e
        unfold roV
        rw [if_neg (by omega), if_neg (by omega), if_neg (by omega), if_pos (by omega)]
      · rw [roV_o (by omega) (by omega) (by omega) (by omega)]
        exact hz2 v t u (by omega) ht hu
  have xx : ∀ {rl1 rl2 : Nat → Nat} {h1 h2 : Hp}, Ex X0 rl h rl1 h1 → Ex (fun i => i = β + (20 + vn L)) rl1 h1 rl2 h2 → Ex (LX β) rl h rl2 h2 := fun y1 y2 => y1.tr y2 (fun _ z => z.elim) (lx _ (by omega))
  refine hG 0 _ _ _ _ _ ?_
  refine y_get hH.1 (by decide) rfl ?_
  refine pk_lt (vn L) 4 (fun _ => ?_) (fun _ => by omega)
  refine pk_eq k 2 (fun z => ?_) (fun z => ?_)
  · subst z
    refine y_get hH.1 (by decide) rfl ?_
    refine y_get hH.1 (by decide) rfl ?_
    refine y_new (rl := rl) (β + (20 + vn L)) (fun rl1 h1 q e1 y1 => ?_)
    refine x_callI rfl rfl (c_doubledInit h4 (by decide) e1 (fun rl2 h2 x1 x2 x3 x4 r hV y2 => ?_))
    have hH2 := (hH.ex2 y1 h4 (fun _ _ _ z => z)).ex2 y2 h4 (fun i _ hi => by omega)
    exact y_rs (vn L) hH2.2.1 (by omega) hV.1 (by decide) (fun h3 e3 y3 => g1 rl2 h2 q x1 x2 x3 x4 r _ _ hH2 hV (xx y1 y2) h3 e3 y3)
  · refine y_get hH.1 (by decide) rfl ?_
    refine y_get hH.1 (by decide) rfl ?_
    refine pk_eq k 1 (fun y => ?_) (fun y => ?_)
    · subst y
      refine y_new (rl := rl) (β + (20 + vn L)) (fun rl1 h1 q e1 y1 => ?_)
      refine x_callI rfl rfl (c_broadInit h4 (by decide) e1 (fun rl2 h2 x1 x2 x3 x4 r hV y2 => ?_))
      have hH2 := (hH.ex2 y1 h4 (fun _ _ _ z => z)).ex2 y2 h4 (fun i _ hi => by omega)
      exact y_rs (vn L) hH2.2.1 (by omega) hV.1 (by decide) (fun h3 e3 y3 => g1 rl2 h2 q x1 x2 x3 x4 r _ _ hH2 hV (xx y1 y2) h3 e3 y3)
    · obtain rfl : k = 0 := by omega
      refine y_new (rl := rl) (β + (20 + vn L)) (fun rl1 h1 q e1 y1 => ?_)
      refine x_callI rfl rfl (c_plainInit h4 (by decide) e1 (fun rl2 h2 x1 x2 x3 x4 r hV y2 => ?_))
      have hH2 := (hH.ex2 y1 h4 (fun _ _ _ z => z)).ex2 y2 h4 (fun i _ hi => by omega)
      exact y_rs (vn L) hH2.2.1 (by omega) hV.1 (by decide) (fun h3 e3 y3 => g1 rl2 h2 q x1 x2 x3 x4 r _ _ hH2 hV (xx y1 y2) h3 e3 y3)
theorem c_letInit (hK : K none h) : Run l g d_X3_init [.ref q] h 0 0 K := by
  refine vc_X3_init (fun G hG => ?_)
  refine hG 0 _ _ _ _ _ ?_
  exact hK
theorem c_landInit (e : Ob rl h a β (.inr (2, [.null, .null, .null, .null, .int 0, .int 0]))) (hK : ∀ rl1 h1 ad1 A1, PlH g rl1 h1 β a ad1 L0 A1 → Ex (LX β) rl h rl1 h1 → K none h1) : Run l g d_X2_init [.ref a] h 12 90 K := by
  have x0 : ∀ i, X0 i → LX β i := fun i z => z.elim
  have lx : ∀ k, k < 100 → ∀ i, i = β + k → LX β i := fun k hk i z => ⟨by omega, by omega⟩
  have xi : ∀ i, LX β i → LX β i := fun i z => z
  refine vc_X2_init (fun G hG => ?_)
  refine hG 0 _ _ _ _ _ ?_
  refine y_newR (rl := rl) (β + 1) 4 (fun rl1 h1 x1 n1 y1 => ?_)
  have e := e.ex y1 (fun z => z)
  refine y_putR e (by decide) (Nat.le_of_ble_eq_true rfl) rfl (fun h2 e y2 => ?_)
  have n1 := n1.ex y2 (by omega)
  refine y_newR (rl := rl1) (β + 2) 8 (fun rl3 h3 x2 n2 y3 => ?_)
  have e := e.ex y3 (fun z => z)
  have n1 := n1.ex y3 (fun z => z)
  refine y_putR e (by decide) (Nat.le_of_ble_eq_true rfl) rfl (fun h4 e y4 => ?_)
  have n1 := n1.ex y4 (by omega)
  have n2 := n2.ex y4 (by omega)
  refine y_newI (rl := rl3) (β + 3) 20 (fun rl5 h5 x3 n3 y5 => ?_)
  have e := e.ex y5 (fun z => z)
  have n1 := n1.ex y5 (fun z => z)
  have n2 := n2.ex y5 (fun z => z)
  refine y_putR e (by decide) (Nat.le_of_ble_eq_true rfl) rfl (fun h6 e y6 => ?_)
  have n1 := n1.ex y6 (by omega)
  have n2 := n2.ex y6 (by omega)
  have n3 := n3.ex y6 (by omega)
  refine y_newI (rl := rl5) (β + 4) 4 (fun rl7 h7 x4 n4 y7 => ?_)
  have e := e.ex y7 (fun z => z)
  have n1 := n1.ex y7 (fun z => z)
  have n2 := n2.ex y7 (fun z => z)
  have n3 := n3.ex y7 (fun z => z)
  refine y_putR e (by decide) (Nat.le_of_ble_eq_true rfl) rfl (fun h8 e y8 => ?_)
  have n1 := n1.ex y8 (by omega)
  have n2 := n2.ex y8 (by omega)
  have n3 := n3.ex y8 (by omega)
  have n4 := n4.ex y8 (by omega)
  have hx : Ex (LX β) rl h rl7 h8 := (((((((y1.tr y2 x0 (lx 0 (by omega))).tr y3 xi x0).tr y4 xi (lx 0 (by omega))).tr y5 xi x0).tr y6 xi (lx 0 (by omega))).tr y7 xi x0).tr y8 xi (lx 0 (by omega)))
  -- the letters
  have loop : ∀ j k, k + j = 8 → ∀ (rl9 : Nat → Nat) (h9 : Hp) (z : Nat → Nat) (cb sb : Nat), j ≤ cb → 6 * j ≤ sb → Ob rl9 h9 a β (.inr (2, [.ref x1, .ref x2, .ref x3, .ref x4, .int 0, .int 0])) → Ra g 3 rl9 h9 x1 (β + 1) 4 (fun _ => none) → Ra g 4 rl9 h9 x2 (β + 2) 8 (fun i => if i < k then some (z i) else none) → Ia g rl9 h9 x3 (β + 3) 20 (fun _ => 0) → Ia g rl9 h9 x4 (β + 4) 4 (fun _ => 0) → (∀ i, i < k → Ob rl9 h9 (z i) (β + (10 + i)) (.inr (3, ltF (fun _ => 0)))) → Ex (LX β) rl h rl9 h9 → G 1 h9 cb sb [some (.ref a), some (.int (nI k))] [] := by
    intro j
    induction j with
    | zero =>
      intro k hk rl9 h9 z cb sb hcb hsb e n1 n2 n3 n4 n5 hx
      refine hG 1 _ _ _ _ _ ?_
      refine b_ge k 8 (fun _ => ?_) (fun _ => by omega)
      refine hK rl9 h9 (fun i => if i = 1 then x1 else if i = 2 then x2 else if i = 3 then x3 else if i = 4 then x4 else z (i - 10)) (fun _ _ => 0) ⟨⟨e, n1, ?_, n3, n4, fun i hi => ?_, fun v hv => absurd hv (Nat.not_lt_zero v)⟩, fun v hv => absurd hv (Nat.not_lt_zero v), fun i hi => ?_, fun _ _ => rfl, fun v _ _ hv => absurd hv (Nat.not_lt_zero v)⟩ hx
      · refine n2.eq (fun i hi => ?_)
        rw [if_pos (by omega)]
        show some (z i) = some (if 10 + i = 1 then x1 else if 10 + i = 2 then x2 else if 10 + i = 3 then x3 else if 10 + i = 4 then x4 else z (10 + i - 10))
        rw [if_neg (by omega), if_neg (by omega), if_neg (by omega), if_neg (by omega), show 10 + i - 10 = i by omega]
      · show Ob rl9 h9 (if 10 + i = 1 then x1 else if 10 + i = 2 then x2 else if 10 + i = 3 then x3 else if 10 + i = 4 then x4 else z (10 + i - 10)) _ _
        rw [if_neg (by omega), if_neg (by omega), if_neg (by omega), if_neg (by omega), show 10 + i - 10 = i by omega]
        exact n5 i (by omega)
      · refine ⟨fun _ => 0, fun _ _ => rfl, Nat.zero_le _, Nat.zero_le _, by decide, by decide, by decide, by decide, Or.inl ⟨rfl, fun w o z => ?_⟩, Or.inl ⟨rfl, fun w o z => ?_⟩⟩ <;> exact absurd z.1 (Nat.not_lt_zero w)
    | succ j ih =>
      intro k hk rl9 h9 z cb sb hcb hsb e n1 n2 n3 n4 n5 hx
      refine hG 1 _ _ _ _ _ ?_
      refine b_ge k 8 (fun _ => by omega) (fun _ => ?_)
      refine y_get e (by decide) rfl ?_
      refine y_new (rl := rl9) (β + (10 + k)) (fun rl10 h10 q10 e10 y10 => ?_)
      have e := e.ex y10 (fun z => z)
      have n1 := n1.ex y10 (fun z => z)
      have n2 := n2.ex y10 (fun z => z)
      have n3 := n3.ex y10 (fun z => z)
      have n4 := n4.ex y10 (fun z => z)
      refine x_callI rfl rfl (c_letInit ?_)
      refine y_rs k n2 (by omega) e10 (by decide) (fun h11 e11 y11 => ?_)
      have ih9 := ih (k + 1) (by omega) rl10 h11 (updN z k q10) (cb - 1 - 0) (sb - 6 - 0) (by omega) (by omega) (e.ex y11 (by omega)) (n1.ex y11 (by omega)) (e11.eq (fun i hi => ?_)) (n3.ex y11 (by omega)) (n4.ex y11 (by omega)) (fun i hi => ?_) ((hx.tr y10 xi x0).tr y11 xi (lx 2 (by omega)))
      rw [nI_succ k] at ih9
      exact ih9 
      · by_cases e9 : i = k
        · rw [e9, va_s, if_pos (by omega), updN_s]
        · rw [va_n e9]
          by_cases e8 : i < k
          · rw [if_pos e8, if_pos (by omega), updN_n e9]
          · rw [if_neg e8, if_neg (by omega)]
      · by_cases e9 : i = k
        · rw [e9, updN_s]; exact e10.ex y11 (by omega)
        · rw [updN_n e9]; exact ((n5 i (by omega)).ex y10 (fun z => z)).ex y11 (by omega)
  refine loop 8 0 (by omega) rl7 h8 (fun _ => 0) _ _ (by omega) (by omega) e n1 (n2.eq (fun i hi => ?_)) n3 n4 (fun i hi => absurd hi (Nat.not_lt_zero i)) hx
  rw [if_neg (by omega)]
end VNEW

