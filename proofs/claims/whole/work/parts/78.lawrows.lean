/-! ===== the law: its script, its end ===== -/
def oSLen (b L : Nat) (K : CT) : CT := fun h cb sb ls st => match st with
  | .ref a :: r => a = b ∧ K h cb sb ls (.int (nI L) :: r)
  | _ => False
def oSLd (b L : Nat) (xs : Nat → Int32) (K : CT) : CT := fun h cb sb ls st => match st with
  | .int i :: .ref a :: r => a = b ∧ vp_in i L ∧ K h cb sb ls (.int (xs i.toNatClampNeg) :: r)
  | _ => False
def oLRet : CT := fun _ _ _ _ st => st = [.int 1]
abbrev GL (g : Gm) (p : Program) (l : Launch) (e : Env) (s : State) (m : MethodId) (b : Nat) (below : List Frame) (meth : Method) (c : Code) (pc : Nat) : CT := GM g p l e room_1 s m #[Value.ref b] below meth c (fun q => s.heap.size ≤ q) 4 (lw_Z below #[Value.ref b] s) pc
abbrev SL (g : Gm) (p : Program) (l : Launch) (e : Env) (s : State) (m : MethodId) (b : Nat) (below : List Frame) (meth : Method) (c : Code) (K : CT) (pc : Nat) : Prop := Sd g p l e room_1 s m #[Value.ref b] below meth c (fun q => s.heap.size ≤ q) 4 (lw_Z below #[Value.ref b] s) K pc
section LROW
variable {p : Program} {l : Launch} {e : Env} {s : State} {m : MethodId} {below : List Frame} {meth : Method} {c : Code}
variable {g : Gm} {b L pc : Nat} {xs : Nat → Int32} {K : CT}
theorem s_slen (X : Cx g p s m #[Value.ref b] meth c (fun q => s.heap.size ≤ q) code RL 4) (hX : va_X b L xs s s.heap) (hbl : b < s.heap.size) (d : decode code pc = .ok (.arraylength, 1)) (nx : SL g p l e s m b below meth c K (pc + 1)) : SL g p l e s m b below meth c (oSLen b L K) pc := by
  intro h cb sb ls st H HH locs cells slots arr hok hS hc hs hl
  obtain ⟨hx, hb, hml, hown, hts, hK, hlk, hA⟩ := X
  unfold oSLen at H
  split at H
  next a r =>
    obtain ⟨rfl, H⟩ := H
    exact va_slen hx hb hX hbl (Nat.not_le.mpr hbl) hS d (nx _ _ _ _ _ H HH locs cells slots arr hok hS hc hs hl)
  next => exact H.elim
theorem s_sld (X : Cx g p s m #[Value.ref b] meth c (fun q => s.heap.size ≤ q) code RL 4) (hX : va_X b L xs s s.heap) (hbl : b < s.heap.size) (d : decode code pc = .ok (.iaload, 1)) (nx : SL g p l e s m b below meth c K (pc + 1)) : SL g p l e s m b below meth c (oSLd b L xs K) pc := by
  intro h cb sb ls st H HH locs cells slots arr hok hS hc hs hl
  obtain ⟨hx, hb, hml, hown, hts, hK, hlk, hA⟩ := X
  unfold oSLd at H
  split at H
  next i a r =>
    obtain ⟨rfl, hi, H⟩ := H
    exact va_sld hx hb hX hbl (Nat.not_le.mpr hbl) hS hi d (nx _ _ _ _ _ H HH locs cells slots arr hok hS hc hs hl)
  next => exact H.elim
theorem s_lret (X : Cx g p s m #[Value.ref b] meth c (fun q => s.heap.size ≤ q) code RL 4) (hr : meth.sig.returnType = ret) (d : decode code pc = .ok (.ireturn, 1)) : SL g p l e s m b below meth c oLRet pc := by
  intro h cb sb ls st H HH locs cells slots arr hok hS hc hs hl
  obtain ⟨hx, hb, hml, hown, hts, hK, hlk, hA⟩ := X
  have H : st = [.int 1] := H
  subst H
  have hc : cells + cb ≤ 600000 := hc
  have hs : slots + sb ≤ 7302250 := hs
  refine va_forget (fun q hq => hS.2.2 q hq) ?_
  refine W.widen (k := 600000) (n := 7302250) (by omega) (by omega) ?_
  exact lw_ret hx hb hr hlk d
end LROW
section LROW2
variable {g : Gm} {b L : Nat} {xs : Nat → Int32} {h : Hp} {cb sb : Nat} {ls : LocS} {r : List Value} {K : CT} {rl rl1 : Nat → Nat} {a m : Nat} {S : St}
/-- a place of the script -/
theorem y_sld {x : Int32} (j : Nat) (hi : x = nI j) (k : K h cb sb ls (.int (xs j) :: r)) (hj : j < L := by omega) (hn : L < 2 ^ 31 := by omega) : b = b ∧ vp_in x L ∧ K h cb sb ls (.int (xs x.toNatClampNeg) :: r) := by
  subst hi
  exact ⟨rfl, vp_in_nI hj hn, by rw [nI_clamp (by omega)]; exact k⟩
theorem ClsH.obj (hC : ClsH g rl h a S) : ∃ fs, Ob rl h a 100 (.inr (9, fs)) := by
  obtain ⟨f, I, ca, sv, B, β, ad, A, hF, -⟩ := hC
  exact ⟨_, hF.1⟩
theorem ModR.obj (hR : ModR g rl h m S) : ∃ fs, Ob rl h m 1000 (.inr (10, fs)) := by
  obtain ⟨-, q, I, A, Wy, hM, -⟩ := hR
  exact ⟨_, hM.1⟩
theorem cx_m : ∀ i, 1000 ≤ i → i < 1100 → ¬ CXp i := fun i h1 h2 z => z ⟨h1, h2⟩
theorem mx_c : ∀ i, i < 1000 ∨ 2000 ≤ i → ¬ (1000 ≤ i ∧ i < 1100) := fun i h z => by omega
end LROW2
theorem lw_sub6 {i L : Nat} (hL : L ≤ 3072) (hi : i ≤ 4000) (z : ¬ nI L - 6 < nI i) : i + 6 ≤ L := by
  rcases Nat.lt_or_ge L 6 with h | h
  · exfalso
    apply z
    have h0 : nI L - 6 < 0 := by
      have : L = 0 ∨ L = 1 ∨ L = 2 ∨ L = 3 ∨ L = 4 ∨ L = 5 := by omega
      rcases this with rfl | rfl | rfl | rfl | rfl | rfl <;> decide
    exact Int32.lt_of_lt_of_le h0 (nI_pos' (by omega))
  · obtain ⟨k, rfl⟩ : ∃ k, L = k + 6 := ⟨L - 6, by omega⟩
    have e : nI (k + 6) - 6 = nI k := by
      rw [← nI_add k 6]
      show nI k + 6 - 6 = nI k
      rw [Int32.add_sub_cancel]
    rw [e, nI_ltI (by omega) (by omega)] at z
    omega

