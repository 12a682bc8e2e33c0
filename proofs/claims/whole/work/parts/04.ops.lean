/-! ===== instructions as transformers of what must hold ===== -/
def oILd (i : Nat) (K : CT) : CT := fun h cb sb ls st => match ls[i]? with
  | some (some (.int x)) => K h cb sb ls (.int x :: st)
  | _ => False
def oALd (i : Nat) (K : CT) : CT := fun h cb sb ls st => match ls[i]? with
  | some (some (.ref x)) => K h cb sb ls (.ref x :: st)
  | _ => False
def oISt (i : Nat) (K : CT) : CT := fun h cb sb ls st => match st with
  | .int x :: r => K h cb sb (ls.set i (some (.int x))) r
  | _ => False
def oASt (i : Nat) (K : CT) : CT := fun h cb sb ls st => match st with
  | .ref x :: r => K h cb sb (ls.set i (some (.ref x))) r
  | _ => False
def oInc (i : Nat) (d : Int32) (K : CT) : CT := fun h cb sb ls st => match ls[i]? with
  | some (some (.int x)) => K h cb sb (ls.set i (some (.int (x + d)))) st
  | _ => False
def oPush (v : Value) (K : CT) : CT := fun h cb sb ls st => K h cb sb ls (v :: st)
def oBin (f : Int32 → Int32 → Int32) (K : CT) : CT := fun h cb sb ls st => match st with
  | .int y :: .int x :: r => K h cb sb ls (.int (f x y) :: r)
  | _ => False
def oBinZ (f : Int32 → Int32 → Int32) (K : CT) : CT := fun h cb sb ls st => match st with
  | .int y :: .int x :: r => ¬ y = 0 ∧ K h cb sb ls (.int (f x y) :: r)
  | _ => False
def oUn (f : Int32 → Int32) (K : CT) : CT := fun h cb sb ls st => match st with
  | .int x :: r => K h cb sb ls (.int (f x) :: r)
  | _ => False
def oI2L (K : CT) : CT := fun h cb sb ls st => match st with
  | .int x :: r => K h cb sb ls (.long x.toInt64 :: r)
  | _ => False
def oLAdd (K : CT) : CT := fun h cb sb ls st => match st with
  | .long y :: .long x :: r => K h cb sb ls (.long (x + y) :: r)
  | _ => False
def oLCmp (K : CT) : CT := fun h cb sb ls st => match st with
  | .long y :: .long x :: r => K h cb sb ls (.int (lg_cmp x y) :: r)
  | _ => False
def oDup (K : CT) : CT := fun h cb sb ls st => match st with
  | .int x :: r => K h cb sb ls (.int x :: .int x :: r)
  | .ref x :: r => K h cb sb ls (.ref x :: .ref x :: r)
  | _ => False
def oDup2 (K : CT) : CT := fun h cb sb ls st => match st with
  | .int x :: .ref y :: r => K h cb sb ls (.int x :: .ref y :: .int x :: .ref y :: r)
  | _ => False
def oGo (K : CT) : CT := fun h cb sb ls st => K h cb sb ls st
def oCmp (f : Int32 → Int32 → Prop) (T N : CT) : CT := fun h cb sb ls st => match st with
  | .int y :: .int x :: r => (f x y → T h cb sb ls r) ∧ (¬ f x y → N h cb sb ls r)
  | _ => False
def oIf (f : Int32 → Prop) (T N : CT) : CT := fun h cb sb ls st => match st with
  | .int x :: r => (f x → T h cb sb ls r) ∧ (¬ f x → N h cb sb ls r)
  | _ => False
def oNonNull (T N : CT) : CT := fun h cb sb ls st => match st with
  | .ref _ :: r => T h cb sb ls r
  | .null :: r => N h cb sb ls r
  | _ => False
def oSwL (x : Int32) : List (Int32 × CT) → CT → CT
  | [], D => D
  | (k, T) :: ts, D => fun h cb sb ls st => (x = k → T h cb sb ls st) ∧ (¬ x = k → oSwL x ts D h cb sb ls st)
def oSw (ts : List (Int32 × CT)) (D : CT) : CT := fun h cb sb ls st => match st with
  | .int x :: r => oSwL x ts D h cb sb ls r
  | _ => False
def oGet (cs : List Nat) (i : Nat) (K : CT) : CT := fun h cb sb ls st => match st with
  | .ref a :: r => ∃ (ci : Nat) (fs : List Value) (v : Value), h a = some (.inr (ci, fs)) ∧ ci ∈ cs ∧ fs[i]? = some v ∧ K h cb sb ls (v :: r)
  | _ => False
def oPutI (cs : List Nat) (i : Nat) (K : CT) : CT := fun h cb sb ls st => match st with
  | .int x :: .ref a :: r => ∃ (ci : Nat) (fs : List Value), h a = some (.inr (ci, fs)) ∧ ci ∈ cs ∧ i < fs.length ∧ K (hup h a (.inr (ci, fs.set i (.int x)))) cb sb ls r
  | _ => False
def oPutZ (cs : List Nat) (i : Nat) (K : CT) : CT := fun h cb sb ls st => match st with
  | .int x :: .ref a :: r => (x = 0 ∨ x = 1) ∧ ∃ (ci : Nat) (fs : List Value), h a = some (.inr (ci, fs)) ∧ ci ∈ cs ∧ i < fs.length ∧ K (hup h a (.inr (ci, fs.set i (.int x)))) cb sb ls r
  | _ => False
def oPutR (cs : List Nat) (i : Nat) (K : CT) : CT := fun h cb sb ls st => match st with
  | .ref x :: .ref a :: r => ∃ (ci : Nat) (fs : List Value), h a = some (.inr (ci, fs)) ∧ ci ∈ cs ∧ i < fs.length ∧ K (hup h a (.inr (ci, fs.set i (.ref x)))) cb sb ls r
  | .null :: .ref a :: r => ∃ (ci : Nat) (fs : List Value), h a = some (.inr (ci, fs)) ∧ ci ∈ cs ∧ i < fs.length ∧ K (hup h a (.inr (ci, fs.set i .null))) cb sb ls r
  | _ => False
abbrev aI (g : Gm) (n : Nat) (f : Nat → Int32) : va_E := .inl (g.2 0, n, .inl f)
abbrev aJ (g : Gm) (n : Nat) (f : Nat → Int64) : va_E := .inl (g.2 1, n, .inr (.inl f))
abbrev aZ (g : Gm) (n : Nat) (f : Nat → Int32) : va_E := .inl (g.2 2, n, .inl f)
abbrev aR (g : Gm) (t : Nat) (n : Nat) (f : Nat → Option Nat) : va_E := .inl (g.2 t, n, .inr (.inr (.inr (.inr f))))
def oLen (g : Gm) (K : CT) : CT := fun h cb sb ls st => match st with
  | .ref a :: r => ∃ (n : Nat) (f : Nat → Int32), h a = some (aI g n f) ∧ K h cb sb ls (.int (nI n) :: r)
  | _ => False
def oIAL (g : Gm) (K : CT) : CT := fun h cb sb ls st => match st with
  | .int i :: .ref a :: r => ∃ (n : Nat) (f : Nat → Int32), h a = some (aI g n f) ∧ vp_in i n ∧ K h cb sb ls (.int (f i.toNatClampNeg) :: r)
  | _ => False
def oIAS (g : Gm) (K : CT) : CT := fun h cb sb ls st => match st with
  | .int x :: .int i :: .ref a :: r => ∃ (n : Nat) (f : Nat → Int32), h a = some (aI g n f) ∧ vp_in i n ∧ K (hup h a (aI g n (upd f i.toNatClampNeg x))) cb sb ls r
  | _ => False
def oJAL (g : Gm) (K : CT) : CT := fun h cb sb ls st => match st with
  | .int i :: .ref a :: r => ∃ (n : Nat) (f : Nat → Int64), h a = some (aJ g n f) ∧ vp_in i n ∧ K h cb sb ls (.long (f i.toNatClampNeg) :: r)
  | _ => False
def oJAS (g : Gm) (K : CT) : CT := fun h cb sb ls st => match st with
  | .long x :: .int i :: .ref a :: r => ∃ (n : Nat) (f : Nat → Int64), h a = some (aJ g n f) ∧ vp_in i n ∧ K (hup h a (aJ g n (vp_updL f i.toNatClampNeg x))) cb sb ls r
  | _ => False
def oZAL (g : Gm) (K : CT) : CT := fun h cb sb ls st => match st with
  | .int i :: .ref a :: r => ∃ (n : Nat) (f : Nat → Int32), h a = some (aZ g n f) ∧ vp_in i n ∧ K h cb sb ls (.int (f i.toNatClampNeg) :: r)
  | _ => False
def oZAS (g : Gm) (K : CT) : CT := fun h cb sb ls st => match st with
  | .int x :: .int i :: .ref a :: r => (x = 0 ∨ x = 1) ∧ ∃ (n : Nat) (f : Nat → Int32), h a = some (aZ g n f) ∧ vp_in i n ∧ K (hup h a (aZ g n (upd f i.toNatClampNeg x))) cb sb ls r
  | _ => False
def oRAL (g : Gm) (t : Nat) (K : CT) : CT := fun h cb sb ls st => match st with
  | .int i :: .ref a :: r => ∃ (n : Nat) (f : Nat → Option Nat) (y : Nat), h a = some (aR g t n f) ∧ vp_in i n ∧ f i.toNatClampNeg = some y ∧ K h cb sb ls (.ref y :: r)
  | _ => False
def oRAS (g : Gm) (t : Nat) (cs : List Nat) (K : CT) : CT := fun h cb sb ls st => match st with
  | .ref v :: .int i :: .ref a :: r => ∃ (n : Nat) (f : Nat → Option Nat) (ci : Nat) (fs : List Value), h a = some (aR g t n f) ∧ h v = some (.inr (ci, fs)) ∧ ci ∈ cs ∧ vp_in i n ∧ K (hup h a (aR g t n (va_up f i.toNatClampNeg (some v)))) cb sb ls r
  | _ => False
def oNew (ci N : Nat) (ds : List Value) (K : CT) : CT := fun h cb sb ls st => 1 ≤ cb ∧ N ≤ sb ∧ ∀ q : Nat, h q = none → K (hup h q (.inr (ci, ds))) (cb - 1) (sb - N) ls (.ref q :: st)
def oNewI (g : Gm) (K : CT) : CT := fun h cb sb ls st => match st with
  | .int n :: r => ∃ N : Nat, n = nI N ∧ N ≤ 2000 ∧ 1 ≤ cb ∧ N ≤ sb ∧ ∀ q : Nat, h q = none → K (hup h q (aI g N (fun _ => 0))) (cb - 1) (sb - N) ls (.ref q :: r)
  | _ => False
def oNewJ (g : Gm) (K : CT) : CT := fun h cb sb ls st => match st with
  | .int n :: r => ∃ N : Nat, n = nI N ∧ N ≤ 2000 ∧ 1 ≤ cb ∧ N ≤ sb ∧ ∀ q : Nat, h q = none → K (hup h q (aJ g N (fun _ => 0))) (cb - 1) (sb - N) ls (.ref q :: r)
  | _ => False
def oNewZ (g : Gm) (K : CT) : CT := fun h cb sb ls st => match st with
  | .int n :: r => ∃ N : Nat, n = nI N ∧ N ≤ 2000 ∧ 1 ≤ cb ∧ N ≤ sb ∧ ∀ q : Nat, h q = none → K (hup h q (aZ g N (fun _ => 0))) (cb - 1) (sb - N) ls (.ref q :: r)
  | _ => False
def oNewR (g : Gm) (t : Nat) (K : CT) : CT := fun h cb sb ls st => match st with
  | .int n :: r => ∃ N : Nat, n = nI N ∧ N ≤ 2000 ∧ 1 ≤ cb ∧ N ≤ sb ∧ ∀ q : Nat, h q = none → K (hup h q (aR g t N (fun _ => none))) (cb - 1) (sb - N) ls (.ref q :: r)
  | _ => False
/-- new int[N][M]: the outer array at q, the rows at r 0, r 1 .. -/
def hrows (h : Hp) (N : Nat) (r : Nat → Nat) (e : va_E) : Hp := fun b => if b ∈ (List.range N).map r then some e else h b
def oNewII (g : Gm) (N M : Nat) (K : CT) : CT := fun h cb sb ls st => match st with
  | .int m :: .int n :: rs => n = nI N ∧ m = nI M ∧ N ≤ 100 ∧ M ≤ 100 ∧ 1 + N ≤ cb ∧ N + N * M ≤ sb ∧ ∀ (q : Nat) (r : Nat → Nat), h q = none → (∀ i, i < N → h (r i) = none) → (∀ i, i < N → r i ≠ q) → (∀ i j, i < N → j < N → r i = r j → i = j) →
      K (hrows (hup h q (aR g 6 N (fun i => if i < N then some (r i) else none))) N r (aI g M (fun _ => 0))) (cb - (1 + N)) (sb - (N + N * M)) ls (.ref q :: rs)
  | _ => False
def oInst (tab : List (Nat × Int32)) (K : CT) : CT := fun h cb sb ls st => match st with
  | .ref a :: r => ∃ (ci : Nat) (fs : List Value) (b : Int32), h a = some (.inr (ci, fs)) ∧ (ci, b) ∈ tab ∧ K h cb sb ls (.int b :: r)
  | _ => False
def oObj (K : CT) : CT := fun h cb sb ls st => match st with
  | .ref _ :: r => K h cb sb ls r
  | _ => False
def oMax (K : CT) : CT := fun h cb sb ls st => match st with
  | .int y :: .int x :: r => Nat.ble r.length 4 = true ∧ K h cb sb ls (.int (if x < y then y else x) :: r)
  | _ => False
def oCopy (g : Gm) (K : CT) : CT := fun h cb sb ls st => match st with
  | [.int n, .int dp, .ref b, .int sp, .ref a] => ∃ (n0 n1 : Nat) (f f1 : Nat → Int32), h a = some (aI g n0 f) ∧ h b = some (aI g n1 f1) ∧ ¬ sp < 0 ∧ ¬ dp < 0 ∧ ¬ n < 0 ∧ sp.toNatClampNeg + n.toNatClampNeg ≤ n0 ∧ dp.toNatClampNeg + n.toNatClampNeg ≤ n1 ∧ K (hup h b (aI g n1 (va_cpy f f1 sp.toNatClampNeg dp.toNatClampNeg n.toNatClampNeg))) cb sb ls []
  | _ => False
def chkS (n : Nat) (st : List Value) : Bool := Nat.ble n st.length && Nat.ble st.length (n + 4)
/-- a call that is bound to its method: static, constructor -/
def oCall (l : Launch) (g : Gm) (d : MD) (n : Nat) (K : CT) : CT := fun h cb sb ls st => chkS n st = true ∧ ∃ mc ms : Nat, mc ≤ cb ∧ ms ≤ sb ∧ Run l g d (st.take n).reverse h mc ms (fun r h' => K h' (cb - mc) (sb - ms) ls (r.toList ++ st.drop n))
/-- a call on an object: by its class, which method -/
def oCallV (l : Launch) (g : Gm) (tab : List (Nat × MD)) (n : Nat) (K : CT) : CT := fun h cb sb ls st => chkS n st = true ∧ ∃ (b ci : Nat) (fs : List Value) (d : MD), (st.take n).getLast? = some (.ref b) ∧ h b = some (.inr (ci, fs)) ∧ (ci, d) ∈ tab ∧
  ∃ mc ms : Nat, mc ≤ cb ∧ ms ≤ sb ∧ Run l g d (st.take n).reverse h mc ms (fun r h' => K h' (cb - mc) (sb - ms) ls (r.toList ++ st.drop n))
abbrev PT : Type := Option Value → Hp → Prop
def oIRet (P : PT) : CT := fun h _ _ _ st => match st with
  | [.int r] => P (some (.int r)) h
  | _ => False
def oZRet (P : PT) : CT := fun h _ _ _ st => match st with
  | [.int r] => (r = 0 ∨ r = 1) ∧ P (some (.int r)) h
  | _ => False
def oJRet (P : PT) : CT := fun h _ _ _ st => match st with
  | [.long r] => P (some (.long r)) h
  | _ => False
def oARet (P : PT) : CT := fun h _ _ _ st => match st with
  | [.ref r] => P (some (.ref r)) h
  | _ => False
def oVRet (P : PT) : CT := fun h _ _ _ st => match st with
  | [] => P none h
  | _ => False
