/-! ===== a land that is being told ===== -/
abbrev LX (β : Nat) : Nat → Prop := fun i => β ≤ i ∧ i < β + 100
def PlH (g : Gm) (rl : Nat → Nat) (h : Hp) (β a : Nat) (ad : Nat → Nat) (L : Ld) (A : Nat → Nat → Int32) : Prop := LnH g rl h β a ad (nI (sm (tn L) (vn L))) L A ∧ LnM A L ∧ LnT A L ∧ (∀ u, u < 4 → A 4 u = 0) ∧ ∀ v t u, v < vn L → t < 5 → u < 4 → A (60 + 10 * v + t) u = 0
section ADD
variable {L : Ld}
theorem mt_addT (h0 : 0 < vn L) {w d a k x y : Nat} : Mt (addT L w d) a k x y ↔ Mt L a k x y ∨ (x = vn L - 1 ∧ y = tn L (vn L - 1) ∧ a = w ∧ k = d) := by
  unfold Mt
  show x < vn L ∧ y < updN (tn L) (vn L - 1) (tn L (vn L - 1) + 1) x ∧ upd2 (wh L) (vn L - 1) (tn L (vn L - 1)) w x y = a ∧ upd2 (dg L) (vn L - 1) (tn L (vn L - 1)) d x y = k ↔ _
  by_cases e : x = vn L - 1 ∧ y = tn L (vn L - 1)
  · obtain ⟨rfl, rfl⟩ := e
    rw [updN_s, upd2_s, upd2_s]
    constructor
    · rintro ⟨-, -, rfl, rfl⟩; exact Or.inr ⟨rfl, rfl, rfl, rfl⟩
    · rintro (⟨-, h, -⟩ | ⟨-, -, rfl, rfl⟩)
      · omega
      · exact ⟨by omega, by omega, rfl, rfl⟩
  · rw [upd2_n e, upd2_n e]
    constructor
    · rintro ⟨h1, h2, h3, h4⟩
      refine Or.inl ⟨h1, ?_, h3, h4⟩
      by_cases ex : x = vn L - 1
      · rw [ex, updN_s] at h2
        have : y ≠ tn L (vn L - 1) := fun z => e ⟨ex, z⟩
        rw [ex]; omega
      · rw [updN_n ex] at h2; exact h2
    · rintro (⟨h1, h2, h3, h4⟩ | ⟨h1, h2, -⟩)
      · refine ⟨h1, ?_, h3, h4⟩
        by_cases ex : x = vn L - 1
        · rw [ex, updN_s]; rw [ex] at h2; omega
        · rw [updN_n ex]; exact h2
      · exact absurd ⟨h1, h2⟩ e
theorem lts_congr {L' : Ld} {a k c v t : Nat} (h : LtS L a k c v t) (he : ∀ x y, Mt L' a k x y ↔ Mt L a k x y) : LtS L' a k c v t := by
  rcases h with ⟨e, n⟩ | ⟨e, m1, u⟩ | ⟨e, tt⟩
  · exact Or.inl ⟨e, fun x y z => n x y ((he x y).mp z)⟩
  · exact Or.inr (Or.inl ⟨e, (he v t).mpr m1, fun x y z => u x y ((he x y).mp z)⟩)
  · exact Or.inr (Or.inr ⟨e, (Tp.congr he).mpr tt⟩)
theorem lts_other (h0 : 0 < vn L) {w d a k c v t : Nat} (h : LtS L a k c v t) (hne : ¬ (a = w ∧ k = d)) : LtS (addT L w d) a k c v t := lts_congr h (fun x y => by rw [mt_addT h0]; exact ⟨fun z => z.elim id (fun z => absurd ⟨z.2.2.1, z.2.2.2⟩ hne), Or.inl⟩)
theorem lts_new (h0 : 0 < vn L) {w d c v t : Nat} (h : LtS L w d c v t) : LtS (addT L w d) w d (c + 1) (vn L - 1) (tn L (vn L - 1)) := by
  have hnew : Mt (addT L w d) w d (vn L - 1) (tn L (vn L - 1)) := (mt_addT h0).mpr (Or.inr ⟨rfl, rfl, rfl, rfl⟩)
  have hold : ¬ Mt L w d (vn L - 1) (tn L (vn L - 1)) := fun z => by have := z.2.1; omega
  rcases h with ⟨e, n⟩ | ⟨e, m1, u⟩ | ⟨e, tt⟩
  · refine Or.inr (Or.inl ⟨by omega, hnew, fun x y z => ?_⟩)
    rcases (mt_addT h0).mp z with z | z
    · exact absurd z (n x y)
    · exact ⟨z.1, z.2.1⟩
  · exact Or.inr (Or.inr ⟨by omega, v, t, vn L - 1, tn L (vn L - 1), (mt_addT h0).mpr (Or.inl m1), hnew, fun z => by rw [z.1, z.2] at m1; exact hold m1⟩)
  · obtain ⟨x, y, z, o, h1, h2, h3⟩ := tt
    exact Or.inr (Or.inr ⟨by omega, x, y, z, o, (mt_addT h0).mpr (Or.inl h1), (mt_addT h0).mpr (Or.inl h2), h3⟩)
theorem sm_addT (h0 : 0 < vn L) (w d : Nat) : sm (tn (addT L w d)) (vn (addT L w d)) = sm (tn L) (vn L) + 1 := by
  have := sm_updN (c := tn L) (v := vn L - 1) (x := tn L (vn L - 1) + 1) (n := vn L) (by omega)
  show sm (updN (tn L) (vn L - 1) (tn L (vn L - 1) + 1)) (vn L) = _
  omega
theorem sm_addV (L : Ld) (k : Nat) : sm (tn (addV L k)) (vn (addV L k)) = sm (tn L) (vn L) := by
  show sm (updN (tn L) (vn L) 0) (vn L + 1) = _
  rw [sm_succ, updN_s, sm_congr (vn L) (f := updN (tn L) (vn L) 0) (k := tn L) (fun v hv => updN_n (by omega))]
  omega
theorem mt_addV {k a i x y : Nat} : Mt (addV L k) a i x y ↔ Mt L a i x y := by
  unfold Mt
  show x < vn L + 1 ∧ y < updN (tn L) (vn L) 0 x ∧ wh L x y = a ∧ dg L x y = i ↔ _
  by_cases e : x = vn L
  · subst e
    rw [updN_s]
    exact ⟨fun z => by omega, fun z => by have := z.1; omega⟩
  · rw [updN_n e]
    exact ⟨fun z => ⟨by omega, z.2⟩, fun z => ⟨by omega, z.2⟩⟩
end ADD
section CADD
variable {l : Launch} {g : Gm} {rl rl1 : Nat → Nat} {h h1 : Hp} {K : PT} {β a : Nat} {ad : Nat → Nat} {th : Int32} {L : Ld} {A : Nat → Nat → Int32}
def ltU (B : Nat → Int32) (w v t : Nat) : Nat → Int32 := if w = 1 then upd (upd (upd B 0 (B 0 + 1)) 1 (nI v)) 2 (nI t) else upd (upd (upd B 3 (B 3 + 1)) 4 (nI v)) 5 (nI t)
theorem c_noteLetter {w d t : Nat} {x1 x2 x3 : Int32} (hH : LnH g rl h β a ad th L A) (h4 : vn L ≤ 4) (h0 : 0 < vn L) (hw : w = 1 ∨ w = 2) (hd : d < 8) (hK : ∀ h1, LnH g rl h1 β a ad th L (va_up A (10 + d) (ltU (A (10 + d)) w (vn L - 1) t)) → Ex (LX β) rl h rl h1 → K none h1) (e1 : x1 = nI w := by rfl) (e2 : x2 = nI d := by rfl) (e3 : x3 = nI t := by rfl) : Run l g d_X2_noteLetter [.ref a, .int x1, .int x2, .int x3] h 0 0 K := by
  subst e1 e2 e3
  unfold ltU at hK
  have ev : nI (vn L) - 1 = nI (vn L - 1) := pk_sub (b := 1) h0
  refine vc_X2_noteLetter (fun G hG => ?_)
  refine hG 0 _ _ _ _ _ ?_
  refine b_no (nI_pos (by omega)) ?_
  refine pk_lt d 8 (fun _ => ?_) (fun _ => by omega)
  refine y_get hH.1 (by decide) rfl ?_
  refine y_ra d hH.2.2.1 (by omega) rfl ?_
  refine pk_eq w 1 (fun z => ?_) (fun z => ?_)
  · rw [if_pos z] at hK
    refine y_get (hH.lt hd) (by decide) rfl ?_
    refine y_putI (hH.lt hd) (by decide) (Nat.le_of_ble_eq_true rfl) rfl (fun h2 e2 x2 => ?_)
    refine y_get (hH.1.ex x2 (by omega)) (by decide) rfl ?_
    refine y_putI e2 (by decide) (Nat.le_of_ble_eq_true rfl) rfl (fun h3 e3 x3 => ?_)
    refine y_putI e3 (by decide) (Nat.le_of_ble_eq_true rfl) rfl (fun h5 e5 x5 => ?_)
    have xx := (x2.trs x3).trs x5
    refine hK h5 (hH.up (10 + d) xx h4 (by omega) (fun z => by omega) (fun z => by omega) (fun j _ _ => ?_) (fun v _ z => by omega) (fun v _ z => by omega) (fun v t _ _ z => by omega)) (xx.mono (fun i z => ⟨by omega, by omega⟩))
    rw [← ev]
    exact e5
  · rw [if_neg z] at hK
    refine y_get (hH.lt hd) (by decide) rfl ?_
    refine y_putI (hH.lt hd) (by decide) (Nat.le_of_ble_eq_true rfl) rfl (fun h2 e2 x2 => ?_)
    refine y_get (hH.1.ex x2 (by omega)) (by decide) rfl ?_
    refine y_putI e2 (by decide) (Nat.le_of_ble_eq_true rfl) rfl (fun h3 e3 x3 => ?_)
    refine y_putI e3 (by decide) (Nat.le_of_ble_eq_true rfl) rfl (fun h5 e5 x5 => ?_)
    have xx := (x2.trs x3).trs x5
    refine hK h5 (hH.up (10 + d) xx h4 (by omega) (fun z => by omega) (fun z => by omega) (fun j _ _ => ?_) (fun v _ z => by omega) (fun v _ z => by omega) (fun v t _ _ z => by omega)) (xx.mono (fun i z => ⟨by omega, by omega⟩))
    rw [← ev]
    exact e5
theorem LnH.tg {th2 : Int32} (hH : LnH g rl h β a ad th L A) (h4 : vn L ≤ 4) (x1 : Ex (fun i => i = β) rl h rl h1) (e : Ob rl h1 a β (.inr (2, [.ref (ad 1), .ref (ad 2), .ref (ad 3), .ref (ad 4), .int (nI (vn L)), .int th2]))) : LnH g rl h1 β a ad th2 L A := ⟨e, hH.2.1.ex x1 (by omega), hH.2.2.1.ex x1 (by omega), hH.fr.ex x1 (by omega), hH.dn.ex x1 (by omega), fun k hk => (hH.lt hk).ex x1 (by omega), fun v hv => ⟨(hH.vo hv).ex x1 (by omega), (hH.wa hv).ex x1 (by omega), (hH.da hv).ex x1 (by omega), (hH.no hv).ex x1 (by omega), (hH.vr hv).ex x1 (by omega), fun t ht => (hH.nr hv ht).ex x1 (by omega)⟩⟩
theorem va_s {α : Type} {f : Nat → α} {k : Nat} {x : α} : va_up f k x k = x := if_pos rfl
theorem va_n {α : Type} {f : Nat → α} {k j : Nat} {x : α} (h : j ≠ k) : va_up f k x j = f j := if_neg h
theorem val_cg {L L' : Ld} {v : Nat} : ∀ t, (∀ s, s < t → wh L' v s = wh L v s ∧ dg L' v s = dg L v s) → val L' v t = val L v t
  | 0, _ => rfl
  | t + 1, h => by
    have h1 := h t (by omega)
    rw [val_succ, val_succ, h1.1, h1.2, val_cg t (fun s hs => h s (by omega))]
theorem val_addT {w d x t : Nat} (h : x = vn L - 1 → t ≤ tn L (vn L - 1)) : val (addT L w d) x t = val L x t := val_cg t (fun s hs => by
  have hne : ¬ (x = vn L - 1 ∧ s = tn L (vn L - 1)) := fun z => by have := h z.1; omega
  show upd2 (wh L) (vn L - 1) (tn L (vn L - 1)) w x s = _ ∧ upd2 (dg L) (vn L - 1) (tn L (vn L - 1)) d x s = _
  rw [upd2_n hne, upd2_n hne]
  exact ⟨rfl, rfl⟩)
theorem val_addV {k x t : Nat} : val (addV L k) x t = val L x t := val_cg t (fun _ _ => ⟨rfl, rfl⟩)
/-- the rows with a thing more -/
def roA (A : Nat → Nat → Int32) (v t w d y : Nat) : Nat → Nat → Int32 := va_up (va_up (va_up (va_up A (30 + v) (upd (A (30 + v)) t (nI w))) (40 + v) (upd (A (40 + v)) t (nI d))) (65 + 10 * v) (upd (A (65 + 10 * v)) (t + 1) (nI y))) (20 + v) (upd (A (20 + v)) 1 (nI (t + 1)))
theorem roA_o {v t w d y i : Nat} (h : i ≠ 20 + v) (h1 : i ≠ 30 + v) (h2 : i ≠ 40 + v) (h3 : i ≠ 65 + 10 * v) : roA A v t w d y i = A i := by unfold roA; rw [va_n h, va_n h3, va_n h2, va_n h1]
theorem roA_20 {v t w d y : Nat} : roA A v t w d y (20 + v) = upd (A (20 + v)) 1 (nI (t + 1)) := by unfold roA; rw [va_s]
theorem roA_30 {v t w d y : Nat} : roA A v t w d y (30 + v) = upd (A (30 + v)) t (nI w) := by unfold roA; rw [va_n (by omega), va_n (by omega), va_n (by omega), va_s]
theorem roA_40 {v t w d y : Nat} : roA A v t w d y (40 + v) = upd (A (40 + v)) t (nI d) := by unfold roA; rw [va_n (by omega), va_n (by omega), va_s]
theorem roA_65 {v t w d y : Nat} : roA A v t w d y (65 + 10 * v) = upd (A (65 + 10 * v)) (t + 1) (nI y) := by unfold roA; rw [va_n (by omega), va_s]
theorem c_add {v t w d y : Nat} {x1 x2 : Int32} (hH : LnH g rl h β a ad th L A) (h4 : vn L ≤ 4) (hv : v < vn L) (k1 : A (20 + v) 1 = nI t) (kv : A (65 + 10 * v) t = nI y) (ht : t < 5) (hw : w ≤ 2) (hK : ∀ h1, LnH g rl h1 β a ad th L (roA A v t w d (if w = 0 then d else y)) → Ex (LX β) rl h rl h1 → K none h1) (e1 : x1 = nI w := by rfl) (e2 : x2 = nI d := by rfl) : Run l g d_X4_add [.ref (ad (20 + v)), .int x1, .int x2] h 0 0 K := by
  subst e1 e2
  have lx : ∀ k, k < 100 → ∀ i, i = β + k → LX β i := fun k hk i z => ⟨by omega, by omega⟩
  refine vc_X4_add (fun G hG => ?_)
  refine hG 0 _ _ _ _ _ ?_
  refine y_get (hH.vo (hv)) (cls_in _) rfl ?_
  rw [k1]
  refine pk_lt t 5 (fun _ => ?_) (fun _ => by omega)
  refine y_get (hH.vo (hv)) (cls_in _) rfl ?_
  refine y_get (hH.vo (hv)) (cls_in _) rfl ?_
  rw [k1]
  refine y_is t (hH.wa hv) (by omega) (fun h3 e3 x3 => ?_)
  have hH := hH.up (30 + v) x3 h4 (by omega) (fun z => by omega) (fun z => by omega) (fun j _ z => by omega) (fun v _ z => by omega) (fun v _ z => e3) (fun v t _ _ z => by omega)
  have hda := hH.da hv
  rw [va_n (show 40 + v ≠ 30 + v by omega)] at hda
  refine y_get (hH.vo (hv)) (cls_in _) rfl ?_
  refine y_get (hH.vo (hv)) (cls_in _) rfl ?_
  rw [va_n (show 20 + v ≠ 30 + v by omega), k1]
  refine y_is t hda (by omega) (fun h5 e5 x5 => ?_)
  have hH := hH.up (40 + v) x5 h4 (by omega) (fun z => by omega) (fun z => by omega) (fun j _ z => by omega) (fun v _ z => by omega) (fun v _ z => e5) (fun v t _ _ z => by omega)
  have hvr := hH.vr hv
  rw [va_n (show 65 + 10 * v ≠ 40 + v by omega), va_n (show 65 + 10 * v ≠ 30 + v by omega)] at hvr
  have g1 : G 1 h5 0 0 [some (.ref (ad (20 + v))), some (.int (nI w)), some (.int (nI d))] [.int (nI (if w = 0 then d else y)), .int (nI t + 1), .ref (ad (65 + 10 * v))] := by
    refine hG 1 _ _ _ _ _ ?_
    refine y_is (t + 1) hvr (by omega) (fun h6 e6 x6 => ?_) (nI_succ t).symm
    have hH := hH.up (65 + 10 * v) x6 h4 (by omega) (fun z => by omega) (fun z => by omega) (fun j _ z => by omega) (fun v _ z => by omega) (fun v _ z => by omega) (fun v t _ _ z => by omega) (fun v _ z => e6)
    have hvo := hH.vo hv
    rw [va_n (show 20 + v ≠ 65 + 10 * v by omega), va_n (show 20 + v ≠ 40 + v by omega), va_n (show 20 + v ≠ 30 + v by omega)] at hvo
    refine y_get hvo (cls_in _) rfl ?_
    rw [k1]
    refine y_putI hvo (cls_in _) (Nat.le_of_ble_eq_true rfl) rfl (fun h7 e7 x7 => ?_)
    have hH := hH.up (20 + v) (F := upd (A (20 + v)) 1 (nI (t + 1))) x7 h4 (by omega) (fun z => by omega) (fun z => by omega) (fun j _ z => by omega) (fun v' hv' z => by
      obtain rfl : v' = v := by omega
      rw [nI_succ]
      exact e7) (fun v _ z => by omega) (fun v t _ _ z => by omega)
    exact hK h7 hH ((((x3.mono (lx _ (by omega))).tr x5 (fun _ z => z) (lx _ (by omega))).tr x6 (fun _ z => z) (lx _ (by omega))).tr x7 (fun _ z => z) (lx _ (by omega)))
  refine y_get (hH.vo (hv)) (cls_in _) rfl ?_
  refine y_get (hH.vo (hv)) (cls_in _) rfl ?_
  rw [va_n (show 20 + v ≠ 40 + v by omega), va_n (show 20 + v ≠ 30 + v by omega), k1]
  refine pk_eq w 0 (fun z => ?_) (fun z => ?_)
  · rw [if_pos z] at g1
    exact g1
  · rw [if_neg z] at g1
    refine y_get (hH.vo (hv)) (cls_in _) rfl ?_
    refine y_get (hH.vo (hv)) (cls_in _) rfl ?_
    rw [va_n (show 20 + v ≠ 40 + v by omega), va_n (show 20 + v ≠ 30 + v by omega), k1]
    refine y_ia t hvr (by omega) kv ?_
    exact g1
theorem c_addThing {w d : Nat} {x1 x2 : Int32} (hP : PlH g rl h β a ad L A) (hB : LdB L) (h0 : 0 < vn L) (ht : tn L (vn L - 1) < 5) (hw : w ≤ 2) (hd : w ≠ 0 → d ≤ 7) (hK : ∀ h1 A1, PlH g rl h1 β a ad (addT L w d) A1 → Ex (LX β) rl h rl h1 → K none h1) (e1 : x1 = nI w := by rfl) (e2 : x2 = nI d := by rfl) : Run l g d_X2_addThing [.ref a, .int x1, .int x2] h 0 0 K := by
  subst e1 e2
  obtain ⟨hH, hm, hl, hz, hz2⟩ := hP
  have h4 := hB.1
  have hvn : vn L - 1 < vn L := by omega
  have ev : nI (vn L) - 1 = nI (vn L - 1) := pk_sub (b := 1) h0
  obtain ⟨k0, k1, k2, k3⟩ := hm _ hvn
  have b9 := things_le hB
  refine vc_X2_addThing (fun G hG => ?_)
  have g1 : ∀ (h2 : Hp) (A2 : Nat → Nat → Int32), LnH g rl h2 β a ad (nI (sm (tn L) (vn L))) L A2 → Ex (LX β) rl h rl h2 → (∀ i, ¬ (10 ≤ i ∧ i < 18) → A2 i = A i) → LnT A2 (addT L w d) → G 1 h2 0 0 [some (.ref a), some (.int (nI w)), some (.int (nI d)), some (.ref (ad (20 + (vn L - 1))))] [] := by
    intro h2 A2 hH hx hA hT
    have k1' : A2 (20 + (vn L - 1)) 1 = nI (tn L (vn L - 1)) := by rw [hA _ (by omega)]; exact k1
    have kv' : A2 (65 + 10 * (vn L - 1)) (tn L (vn L - 1)) = nI (val L (vn L - 1) (tn L (vn L - 1))) := by rw [hA _ (by omega)]; exact k3 _ (Nat.le_refl _)
    refine hG 1 _ _ _ _ _ ?_
    refine y_callV rfl (hH.vo (hvn)) (cls_tab _ _) (c_add hH h4 hvn k1' kv' ht hw (fun h6 hH6 x6 => ?_))
    have hH := hH6
    refine y_get hH.1 (by decide) rfl ?_
    refine y_putI hH.1 (by decide) (Nat.le_of_ble_eq_true rfl) rfl (fun h7 e7 x7 => ?_)
    have hH := hH.tg (th2 := nI (sm (tn L) (vn L) + 1)) h4 x7 (by rw [nI_succ]; exact e7)
    rw [← sm_addT h0 w d] at hH
    have lx : ∀ k, k < 100 → ∀ i, i = β + k → LX β i := fun k hk i z => ⟨by omega, by omega⟩
    refine hK h7 _ ⟨hH, fun v hv => ?_, fun k hk => ?_, fun u hu => ?_, fun v t u hv ht hu => ?_⟩ ((hx.tr x6 (fun _ z => z) (fun _ z => z)).tr x7 (fun _ z => z) (lx 0 (by omega)))
    · have hv : v < vn L := hv
      obtain ⟨q0, q1, q2, q3⟩ := hm v hv
      show _ = nI (kd L v) ∧ _ = nI (updN (tn L) (vn L - 1) (tn L (vn L - 1) + 1) v) ∧ (∀ t, t < updN (tn L) (vn L - 1) (tn L (vn L - 1) + 1) v → _ = nI (upd2 (wh L) (vn L - 1) (tn L (vn L - 1)) w v t) ∧ _ = nI (upd2 (dg L) (vn L - 1) (tn L (vn L - 1)) d v t)) ∧ ∀ t, t ≤ updN (tn L) (vn L - 1) (tn L (vn L - 1) + 1) v → _ = nI (val (addT L w d) v t)
      by_cases e : v = vn L - 1
      · subst e
        rw [roA_20, roA_30, roA_40, roA_65, updN_s, hA (20 + (vn L - 1)) (by omega), hA (30 + (vn L - 1)) (by omega), hA (40 + (vn L - 1)) (by omega), hA (65 + 10 * (vn L - 1)) (by omega)]
        refine ⟨by rw [pk_un (by decide)]; exact q0, pk_us .., fun t ht => ?_, fun t ht => ?_⟩
        · by_cases et : t = tn L (vn L - 1)
          · rw [et, pk_us, pk_us, upd2_s, upd2_s]; exact ⟨rfl, rfl⟩
          · rw [pk_un et, pk_un et, upd2_n (fun z => et z.2), upd2_n (fun z => et z.2)]
            exact q2 t (by omega)
        · by_cases et : t = tn L (vn L - 1) + 1
          · rw [et, pk_us, val_succ]
            show _ = nI (if upd2 (wh L) (vn L - 1) (tn L (vn L - 1)) w (vn L - 1) (tn L (vn L - 1)) = 0 then upd2 (dg L) (vn L - 1) (tn L (vn L - 1)) d (vn L - 1) (tn L (vn L - 1)) else val (addT L w d) (vn L - 1) (tn L (vn L - 1)))
            rw [upd2_s, upd2_s, val_addT (fun _ => Nat.le_refl _)]
          · rw [pk_un et, val_addT (fun _ => by omega)]
            exact q3 t (by omega)
      · rw [roA_o (i := 20 + v) (by omega) (by omega) (by omega) (by omega), roA_o (i := 30 + v) (by omega) (by omega) (by omega) (by omega), roA_o (i := 40 + v) (by omega) (by omega) (by omega) (by omega), roA_o (i := 65 + 10 * v) (by omega) (by omega) (by omega) (by omega), hA (20 + v) (by omega), hA (30 + v) (by omega), hA (40 + v) (by omega), hA (65 + 10 * v) (by omega), updN_n e]
        refine ⟨q0, q1, fun t ht => ?_, fun t ht => ?_⟩
        · rw [upd2_n (fun z => e z.1), upd2_n (fun z => e z.1)]
          exact q2 t ht
        · rw [val_addT (fun z => absurd z e)]
          exact q3 t ht
    · rw [roA_o (by omega) (by omega) (by omega) (by omega)]
      exact hT k hk
    · rw [roA_o (by omega) (by omega) (by omega) (by omega), hA 4 (by omega)]
      exact hz u hu
    · have hv : v < vn L := hv
      rw [roA_o (by omega) (by omega) (by omega) (by omega), hA _ (by omega)]
      exact hz2 v t u hv ht hu
  refine hG 0 _ _ _ _ _ ?_
  refine y_get hH.1 (by decide) rfl ?_
  refine pk_eq (vn L) 0 (fun z => by omega) (fun _ => ?_)
  refine y_get hH.1 (by decide) rfl ?_
  refine y_get hH.1 (by decide) rfl ?_
  refine y_ra (vn L - 1) hH.2.1 (by omega) (if_pos (hvn)) ?_ (ev)
  refine y_get (hH.vo (hvn)) (cls_in _) rfl ?_
  rw [k1]
  refine pk_lt (tn L (vn L - 1)) 5 (fun _ => ?_) (fun _ => by omega)
  refine y_get hH.1 (by decide) rfl ?_
  refine y_get hH.1 (by decide) rfl ?_
  refine y_ra (vn L - 1) hH.2.1 (by omega) (if_pos (hvn)) ?_ (ev)
  refine pk_eq w 0 (fun z => ?_) (fun z => ?_)
  · refine g1 h A hH Ex.rf (fun _ _ => rfl) (fun k hk => ?_)
    obtain ⟨s, hs, s0, s3, s1, s4, s2, s5, l1, l2⟩ := hl k hk
    have sm9 := sm_addT h0 w d
    exact ⟨s, hs, by omega, by omega, s1, s4, s2, s5, lts_other h0 l1 (by omega), lts_other h0 l2 (by omega)⟩
  · refine y_get (hH.vo (hvn)) (cls_in _) rfl ?_
    rw [k1]
    refine y_call1 hH.1 (c_noteLetter hH h4 h0 (w := w) (d := d) (t := tn L (vn L - 1)) (by omega) (by have := hd z; omega) (fun h2 hH2 x2 => ?_))
    refine g1 h2 _ hH2 x2 (fun i hi => va_n (by have := hd z; omega)) (fun k hk => ?_)
    obtain ⟨s, hs, s0, s3, s1, s4, s2, s5, l1, l2⟩ := hl k hk
    have sm9 := sm_addT h0 w d
    by_cases e : k = d
    · subst e
      rw [va_s]
      unfold ltU
      by_cases w1 : w = 1
      · subst w1
        rw [if_pos rfl]
        refine ⟨fun i => if i = 0 then s 0 + 1 else if i = 1 then vn L - 1 else if i = 2 then tn L (vn L - 1) else s i, fun i hi => ?_, by show s 0 + 1 ≤ _; omega, by show s 3 ≤ _; omega, by show vn L - 1 < 4; omega, s4, ht, s5, lts_new h0 l1, lts_other h0 l2 (by omega)⟩
        have hi6 : i = 0 ∨ i = 1 ∨ i = 2 ∨ i = 3 ∨ i = 4 ∨ i = 5 := by omega
        rcases hi6 with rfl | rfl | rfl | rfl | rfl | rfl
        · show A (10 + k) 0 + 1 = nI (s 0 + 1); rw [hs 0 (by omega), nI_succ]
        · rfl
        · rfl
        · exact hs 3 (by omega)
        · exact hs 4 (by omega)
        · exact hs 5 (by omega)
      · have w2 : w = 2 := by omega
        subst w2
        rw [if_neg w1]
        refine ⟨fun i => if i = 3 then s 3 + 1 else if i = 4 then vn L - 1 else if i = 5 then tn L (vn L - 1) else s i, fun i hi => ?_, by show s 0 ≤ _; omega, by show s 3 + 1 ≤ _; omega, s1, by show vn L - 1 < 4; omega, s2, ht, lts_other h0 l1 (by omega), lts_new h0 l2⟩
        have hi6 : i = 0 ∨ i = 1 ∨ i = 2 ∨ i = 3 ∨ i = 4 ∨ i = 5 := by omega
        rcases hi6 with rfl | rfl | rfl | rfl | rfl | rfl
        · exact hs 0 (by omega)
        · exact hs 1 (by omega)
        · exact hs 2 (by omega)
        · show A (10 + k) 3 + 1 = nI (s 3 + 1); rw [hs 3 (by omega), nI_succ]
        · rfl
        · rfl
    · rw [va_n (by omega)]
      exact ⟨s, hs, by omega, by omega, s1, s4, s2, s5, lts_other h0 l1 (fun z => e z.2), lts_other h0 l2 (fun z => e z.2)⟩
end CADD

