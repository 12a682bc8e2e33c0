def oMin (K : CT) : CT := fun h cb sb ls st => match st with
  | .int y :: .int x :: r => Nat.ble r.length 4 = true ∧ K h cb sb ls (.int (if y < x then y else x) :: r)
  | _ => False
section SNDM
variable {p : Program} {l : Launch} {e : Env} {R : Room} {s : State} {m : MethodId} {args : Array Value} {below : List Frame} {meth : Method} {c : Code} {Q : State → Prop}
variable {g : Gm} {A : Nat → Prop} {cc : ByteArray} {own : String} {nL pc : Nat} {K : CT}
theorem s_min (X : Cx g p s m args meth c A cc own nL) {index : Nat} (hlnk : Cond.methodLink own index Lib.Math.min.name ∈ UW) (hst : Cond.static Lib.Math.min.name ∈ UW) (hin : Cond.initialized "java/lang/Math" ∈ UW) (hcd : Cond.code Lib.Math.min.name Lib.Math.min.code 2 (some .int) ∈ UW) (hfr : 1 ≤ R.frames) (hlo : 21 ≤ R.locals) (d : decode cc pc = .ok (.invokestatic index, 3)) (nx : Sd g p l e R s m args below meth c A nL Q K (pc + 3)) : Sd g p l e R s m args below meth c A nL Q (oMin K) pc := by
  intro h cb sb ls st H HH locs cells slots arr hok hS hc hs hl
  obtain ⟨hx, hb, hml, hown, hts, hK, hlk, hA⟩ := X
  unfold oMin at H
  split at H
  next y x r =>
    have h8 := cat_sum r (Nat.le_of_ble_eq_true H.1)
    exact va_mmin hx hb (by rw [hml]; exact hl.2.1.symm) hown (hts _ hlnk) (hts _ hst) (hts _ hin) (hts _ hcd) hfr (by omega) (by omega) (by omega) d (nx _ _ _ _ _ H.2 HH locs cells slots arr hok hS hc hs hl)
  next => exact H.elim
end SNDM
