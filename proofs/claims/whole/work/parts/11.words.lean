/-- membership, by rows -/
theorem mnl {α : Type} {P : α → Prop} : ∀ a ∈ ([] : List α), P a := fun _ h => absurd h List.not_mem_nil
theorem mcn {α : Type} {P : α → Prop} {a : α} {l : List α} (ha : P a) (hl : ∀ b ∈ l, P b) : ∀ b ∈ a :: l, P b := fun b hb => (List.mem_cons.mp hb).elim (fun e => e ▸ ha) (hl b)
theorem mi0 {Q : Nat → Int32 → Prop} : ∀ (ci : Nat) (b : Int32), (ci, b) ∈ ([] : List (Nat × Int32)) → Q ci b := fun _ _ h => absurd h List.not_mem_nil
theorem mi {Q : Nat → Int32 → Prop} {c0 : Nat} {b0 : Int32} {t : List (Nat × Int32)} (h0 : Q c0 b0) (h : ∀ (ci : Nat) (b : Int32), (ci, b) ∈ t → Q ci b) : ∀ (ci : Nat) (b : Int32), (ci, b) ∈ (c0, b0) :: t → Q ci b := fun ci b hb => (List.mem_cons.mp hb).elim (fun e => by cases e; exact h0) (h ci b)
theorem mv0 {Q : Nat → MD → Prop} : ∀ (ci : Nat) (d : MD), (ci, d) ∈ ([] : List (Nat × MD)) → Q ci d := fun _ _ h => absurd h List.not_mem_nil
theorem mv {Q : Nat → MD → Prop} {c0 : Nat} {d0 : MD} {t : List (Nat × MD)} (h0 : Q c0 d0) (h : ∀ (ci : Nat) (d : MD), (ci, d) ∈ t → Q ci d) : ∀ (ci : Nat) (d : MD), (ci, d) ∈ (c0, d0) :: t → Q ci d := fun ci d hd => (List.mem_cons.mp hd).elim (fun e => by cases e; exact h0) (h ci d)
abbrev GX (g : Gm) (p : Program) (l : Launch) (e : Env) (s : State) (m : MethodId) (args : Array Value) (below : List Frame) (meth : Method) (c : Code) (d : MD) (nL mc ms : Nat) (h0 : Hp) (P : PT) (pc : Nat) : CT := GM g p l e (mdR d mc ms) s m args below meth c (Adom h0 s.heap.size) nL (MQ below (QcR g h0 s.heap.size P) args s mc ms (Adom h0 s.heap.size)) pc
abbrev SX (g : Gm) (p : Program) (l : Launch) (e : Env) (s : State) (m : MethodId) (args : Array Value) (below : List Frame) (meth : Method) (c : Code) (d : MD) (nL mc ms : Nat) (h0 : Hp) (P : PT) (K : CT) (pc : Nat) : Prop := Sd g p l e (mdR d mc ms) s m args below meth c (Adom h0 s.heap.size) nL (MQ below (QcR g h0 s.heap.size P) args s mc ms (Adom h0 s.heap.size)) K pc
def oObj1 (K : CT) : CT := fun h cb sb ls st => match st with
  | [.ref _] => K h cb sb ls []
  | _ => False
def oCallI (l : Launch) (g : Gm) (d : MD) (n : Nat) (K : CT) : CT := fun h cb sb ls st => (∃ b, (st.take (n + 1)).getLast? = some (.ref b)) ∧ oCall l g d (n + 1) K h cb sb ls st
section SOB
variable {p : Program} {l : Launch} {e : Env} {R : Room} {s : State} {m : MethodId} {args : Array Value} {below : List Frame} {meth : Method} {c : Code} {Q : State → Prop}
variable {g : Gm} {A : Nat → Prop} {cc : ByteArray} {own : String} {nL pc : Nat} {K : CT}
theorem s_obj1 (X : Cx g p s m args meth c A cc own nL) {index : Nat} (hlnk : Cond.methodLink own index objectInit ∈ UW) (hin : Cond.instanceMethod objectInit ∈ UW) (hcd : Cond.code objectInit ⟨#[0xb1]⟩ 1 none ∈ UW) (hfr : 1 ≤ R.frames) (hlo : 20 ≤ R.locals) (d : decode cc pc = .ok (.invokespecial index, 3)) (nx : Sd g p l e R s m args below meth c A nL Q K (pc + 3)) : Sd g p l e R s m args below meth c A nL Q (oObj1 K) pc := by
  intro h cb sb ls st H
  refine s_obj X hlnk hin hcd hfr hlo d nx h cb sb ls st ?_
  unfold oObj1 at H
  split at H
  next a => exact ⟨rfl, H⟩
  next => exact H.elim
theorem asgC {C : String} {T1 : u_T} {N1 ci : Nat} {E : String} (hc : va_Nw (.castable C E) s) (h : vwCl[ci]? = some (C, T1, N1)) : AsgOk g s E ci := ⟨_, h, fun comp c0 h1 h2 => by
  obtain ⟨a, b, e1, e2, e3⟩ := Cond.castable_spec hc
  have e4 : some b = some comp := e2.symm.trans h1
  have e5 : some a = some c0 := e1.symm.trans h2
  cases e4
  cases e5
  exact e3⟩
end SOB
set_option maxRecDepth 100000 in
theorem uw_1 : (Jvm.Cond.initialized "VillageCuts") ∈ UW := UW_in 1 rfl rfl
set_option maxRecDepth 100000 in
theorem uw_2 : (Jvm.Cond.initialized "VillageCuts$Trace") ∈ UW := UW_in 2 rfl rfl
set_option maxRecDepth 100000 in
theorem uw_3 : (Jvm.Cond.initialized "VillageCuts$Land") ∈ UW := UW_in 3 rfl rfl
set_option maxRecDepth 100000 in
theorem uw_4 : (Jvm.Cond.initialized "VillageCuts$Letter") ∈ UW := UW_in 4 rfl rfl
set_option maxRecDepth 100000 in
theorem uw_5 : (Jvm.Cond.initialized "VillageCuts$Survey") ∈ UW := UW_in 5 rfl rfl
set_option maxRecDepth 100000 in
theorem uw_6 : (Jvm.Cond.initialized "VillageCuts$Sheet") ∈ UW := UW_in 6 rfl rfl
set_option maxRecDepth 100000 in
theorem uw_7 : (Jvm.Cond.initialized "VillageCutsModel") ∈ UW := UW_in 7 rfl rfl
set_option maxRecDepth 100000 in
theorem uw_8 : (Jvm.Cond.initialized "VillageCuts$Text") ∈ UW := UW_in 8 rfl rfl
set_option maxRecDepth 100000 in
theorem uw_9 : (Jvm.Cond.initialized "VillageCuts$Plain") ∈ UW := UW_in 9 rfl rfl
set_option maxRecDepth 100000 in
theorem uw_10 : (Jvm.Cond.initialized "VillageCuts$Broad") ∈ UW := UW_in 10 rfl rfl
set_option maxRecDepth 100000 in
theorem uw_11 : (Jvm.Cond.initialized "VillageCuts$Doubled") ∈ UW := UW_in 11 rfl rfl
set_option maxRecDepth 100000 in
theorem uw_12 : (Jvm.Cond.initialized "java/lang/System") ∈ UW := UW_in 12 rfl rfl
set_option maxRecDepth 100000 in
theorem uw_13 : (Jvm.Cond.initialized "java/lang/Math") ∈ UW := UW_in 13 rfl rfl
set_option maxRecDepth 100000 in
theorem uw_14 : (Jvm.Cond.initialized "java/util/Arrays") ∈ UW := UW_in 14 rfl rfl
set_option maxRecDepth 100000 in
theorem uw_20 : (Jvm.Cond.methodLink "VillageCuts" (3 : Nat) ({ cls := "java/lang/Object", name := "<init>", desc := "()V" } : Jvm.MethodName)) ∈ UW := UW_in 20 rfl rfl
set_option maxRecDepth 100000 in
theorem uw_21 : (Jvm.Cond.instanceMethod ({ cls := "java/lang/Object", name := "<init>", desc := "()V" } : Jvm.MethodName)) ∈ UW := UW_in 21 rfl rfl
set_option maxRecDepth 100000 in
theorem uw_22 : (Jvm.Cond.code ({ cls := "java/lang/Object", name := "<init>", desc := "()V" } : Jvm.MethodName) object_method_1_code (1 : Nat) (Option.none : Option Jvm.ClassFile.FieldType)) ∈ UW := UW_in 22 rfl rfl
set_option maxRecDepth 100000 in
theorem uw_23 : (Jvm.Cond.classLink "VillageCuts" (11 : Nat) "VillageCuts$Sheet") ∈ UW := UW_in 23 rfl rfl
set_option maxRecDepth 100000 in
theorem uw_25 : (Jvm.Cond.classLink "VillageCuts" (17 : Nat) "VillageCuts$Trace") ∈ UW := UW_in 25 rfl rfl
set_option maxRecDepth 100000 in
theorem uw_26 : (Jvm.Cond.instantiable "VillageCuts$Trace" (1 : Nat)) ∈ UW := UW_in 26 rfl rfl
set_option maxRecDepth 100000 in
theorem uw_28 : (Jvm.Cond.instanceMethod ({ cls := "VillageCuts$Trace", name := "<init>", desc := "()V" } : Jvm.MethodName)) ∈ UW := UW_in 28 rfl rfl
set_option maxRecDepth 100000 in
theorem uw_30 : (Jvm.Cond.methodLink "VillageCuts$Trace" (1 : Nat) ({ cls := "java/lang/Object", name := "<init>", desc := "()V" } : Jvm.MethodName)) ∈ UW := UW_in 30 rfl rfl
set_option maxRecDepth 100000 in
theorem uw_31 : (Jvm.Cond.fieldLink "VillageCuts$Trace" (7 : Nat) "VillageCuts$Trace" "mark" "I") ∈ UW := UW_in 31 rfl rfl
set_option maxRecDepth 100000 in
theorem uw_32 : (Jvm.Cond.fieldLink "VillageCuts" (265 : Nat) "VillageCuts$Trace" "mark" "I") ∈ UW := UW_in 32 rfl rfl
set_option maxRecDepth 100000 in
theorem uw_36 : (Jvm.Cond.classLink "VillageCuts" (31 : Nat) "[[I") ∈ UW := UW_in 36 rfl rfl
set_option maxRecDepth 100000 in
theorem uw_38 : (Jvm.Cond.classLink "VillageCuts" (39 : Nat) "VillageCuts$Land") ∈ UW := UW_in 38 rfl rfl
set_option maxRecDepth 100000 in
theorem uw_39 : (Jvm.Cond.instantiable "VillageCuts$Land" (6 : Nat)) ∈ UW := UW_in 39 rfl rfl
set_option maxRecDepth 100000 in
theorem uw_40 : (Jvm.Cond.methodLink "VillageCuts" (41 : Nat) ({ cls := "VillageCuts$Land", name := "<init>", desc := "()V" } : Jvm.MethodName)) ∈ UW := UW_in 40 rfl rfl
set_option maxRecDepth 100000 in
theorem uw_41 : (Jvm.Cond.instanceMethod ({ cls := "VillageCuts$Land", name := "<init>", desc := "()V" } : Jvm.MethodName)) ∈ UW := UW_in 41 rfl rfl
set_option maxRecDepth 100000 in
theorem uw_43 : (Jvm.Cond.methodLink "VillageCuts$Land" (3 : Nat) ({ cls := "java/lang/Object", name := "<init>", desc := "()V" } : Jvm.MethodName)) ∈ UW := UW_in 43 rfl rfl
set_option maxRecDepth 100000 in
theorem uw_44 : (Jvm.Cond.classLink "VillageCuts$Land" (9 : Nat) "VillageCuts$Plain") ∈ UW := UW_in 44 rfl rfl
set_option maxRecDepth 100000 in
theorem uw_46 : (Jvm.Cond.classLink "VillageCuts$Land" (17 : Nat) "VillageCuts$Letter") ∈ UW := UW_in 46 rfl rfl
set_option maxRecDepth 100000 in
theorem uw_48 : (Jvm.Cond.instantiable "VillageCuts$Letter" (6 : Nat)) ∈ UW := UW_in 48 rfl rfl
set_option maxRecDepth 100000 in
theorem uw_50 : (Jvm.Cond.instanceMethod ({ cls := "VillageCuts$Letter", name := "<init>", desc := "()V" } : Jvm.MethodName)) ∈ UW := UW_in 50 rfl rfl
set_option maxRecDepth 100000 in
theorem uw_52 : (Jvm.Cond.methodLink "VillageCuts$Letter" (1 : Nat) ({ cls := "java/lang/Object", name := "<init>", desc := "()V" } : Jvm.MethodName)) ∈ UW := UW_in 52 rfl rfl
set_option maxRecDepth 100000 in
theorem uw_53 : (Jvm.Cond.fieldLink "VillageCuts$Letter" (7 : Nat) "VillageCuts$Letter" "sent" "I") ∈ UW := UW_in 53 rfl rfl
set_option maxRecDepth 100000 in
theorem uw_54 : (Jvm.Cond.fieldLink "VillageCuts$Land" (60 : Nat) "VillageCuts$Letter" "sent" "I") ∈ UW := UW_in 54 rfl rfl
set_option maxRecDepth 100000 in
theorem uw_55 : (Jvm.Cond.fieldLink "VillageCuts$Letter" (16 : Nat) "VillageCuts$Letter" "sender" "I") ∈ UW := UW_in 55 rfl rfl
set_option maxRecDepth 100000 in
theorem uw_56 : (Jvm.Cond.fieldLink "VillageCuts$Land" (63 : Nat) "VillageCuts$Letter" "sender" "I") ∈ UW := UW_in 56 rfl rfl
set_option maxRecDepth 100000 in
theorem uw_57 : (Jvm.Cond.fieldLink "VillageCuts$Letter" (22 : Nat) "VillageCuts$Letter" "sentAs" "I") ∈ UW := UW_in 57 rfl rfl
set_option maxRecDepth 100000 in
theorem uw_58 : (Jvm.Cond.fieldLink "VillageCuts$Land" (66 : Nat) "VillageCuts$Letter" "sentAs" "I") ∈ UW := UW_in 58 rfl rfl
set_option maxRecDepth 100000 in
theorem uw_59 : (Jvm.Cond.fieldLink "VillageCuts$Letter" (13 : Nat) "VillageCuts$Letter" "got" "I") ∈ UW := UW_in 59 rfl rfl
set_option maxRecDepth 100000 in
theorem uw_60 : (Jvm.Cond.fieldLink "VillageCuts$Land" (69 : Nat) "VillageCuts$Letter" "got" "I") ∈ UW := UW_in 60 rfl rfl
set_option maxRecDepth 100000 in
theorem uw_61 : (Jvm.Cond.fieldLink "VillageCuts$Letter" (19 : Nat) "VillageCuts$Letter" "getter" "I") ∈ UW := UW_in 61 rfl rfl
set_option maxRecDepth 100000 in
theorem uw_62 : (Jvm.Cond.fieldLink "VillageCuts$Land" (72 : Nat) "VillageCuts$Letter" "getter" "I") ∈ UW := UW_in 62 rfl rfl
set_option maxRecDepth 100000 in
theorem uw_63 : (Jvm.Cond.fieldLink "VillageCuts$Letter" (25 : Nat) "VillageCuts$Letter" "gotAs" "I") ∈ UW := UW_in 63 rfl rfl
set_option maxRecDepth 100000 in
theorem uw_64 : (Jvm.Cond.fieldLink "VillageCuts$Land" (75 : Nat) "VillageCuts$Letter" "gotAs" "I") ∈ UW := UW_in 64 rfl rfl
set_option maxRecDepth 100000 in
theorem uw_78 : (Jvm.Cond.arrayClass Jvm.ClassFile.FieldType.int) ∈ UW := UW_in 78 rfl rfl
set_option maxRecDepth 100000 in
theorem uw_79 : (Jvm.Cond.fieldLink "VillageCuts$Land" (11 : Nat) "VillageCuts$Land" "villages" "[LVillageCuts$Plain;") ∈ UW := UW_in 79 rfl rfl
set_option maxRecDepth 100000 in
theorem uw_80 : (Jvm.Cond.fieldLink "VillageCuts" (106 : Nat) "VillageCuts$Land" "villages" "[LVillageCuts$Plain;") ∈ UW := UW_in 80 rfl rfl
set_option maxRecDepth 100000 in
theorem uw_81 : (Jvm.Cond.fieldLink "VillageCuts$Survey" (77 : Nat) "VillageCuts$Land" "villages" "[LVillageCuts$Plain;") ∈ UW := UW_in 81 rfl rfl
set_option maxRecDepth 100000 in
theorem uw_82 : (Jvm.Cond.fieldLink "VillageCuts$Land" (19 : Nat) "VillageCuts$Land" "letters" "[LVillageCuts$Letter;") ∈ UW := UW_in 82 rfl rfl
set_option maxRecDepth 100000 in
theorem uw_83 : (Jvm.Cond.fieldLink "VillageCuts$Land" (23 : Nat) "VillageCuts$Land" "firstRun" "[I") ∈ UW := UW_in 83 rfl rfl
set_option maxRecDepth 100000 in
theorem uw_84 : (Jvm.Cond.fieldLink "VillageCuts" (213 : Nat) "VillageCuts$Land" "firstRun" "[I") ∈ UW := UW_in 84 rfl rfl
set_option maxRecDepth 100000 in
theorem uw_85 : (Jvm.Cond.fieldLink "VillageCuts$Land" (27 : Nat) "VillageCuts$Land" "done" "[I") ∈ UW := UW_in 85 rfl rfl
set_option maxRecDepth 100000 in
theorem uw_86 : (Jvm.Cond.fieldLink "VillageCuts" (110 : Nat) "VillageCuts$Land" "done" "[I") ∈ UW := UW_in 86 rfl rfl
set_option maxRecDepth 100000 in
theorem uw_87 : (Jvm.Cond.fieldLink "VillageCuts$Land" (31 : Nat) "VillageCuts$Land" "size" "I") ∈ UW := UW_in 87 rfl rfl
set_option maxRecDepth 100000 in
theorem uw_88 : (Jvm.Cond.fieldLink "VillageCuts$Text" (33 : Nat) "VillageCuts$Land" "size" "I") ∈ UW := UW_in 88 rfl rfl
set_option maxRecDepth 100000 in
theorem uw_89 : (Jvm.Cond.fieldLink "VillageCuts" (100 : Nat) "VillageCuts$Land" "size" "I") ∈ UW := UW_in 89 rfl rfl
set_option maxRecDepth 100000 in
theorem uw_90 : (Jvm.Cond.fieldLink "VillageCuts$Survey" (71 : Nat) "VillageCuts$Land" "size" "I") ∈ UW := UW_in 90 rfl rfl
set_option maxRecDepth 100000 in
theorem uw_91 : (Jvm.Cond.fieldLink "VillageCuts$Land" (59 : Nat) "VillageCuts$Land" "things" "I") ∈ UW := UW_in 91 rfl rfl
set_option maxRecDepth 100000 in
theorem uw_92 : (Jvm.Cond.fieldLink "VillageCuts" (212 : Nat) "VillageCuts$Land" "things" "I") ∈ UW := UW_in 92 rfl rfl
set_option maxRecDepth 100000 in
theorem uw_106 : (Jvm.Cond.classLink "VillageCuts" (46 : Nat) "VillageCuts$Survey") ∈ UW := UW_in 106 rfl rfl
set_option maxRecDepth 100000 in
theorem uw_107 : (Jvm.Cond.instantiable "VillageCuts$Survey" (9 : Nat)) ∈ UW := UW_in 107 rfl rfl
set_option maxRecDepth 100000 in
theorem uw_109 : (Jvm.Cond.instanceMethod ({ cls := "VillageCuts$Survey", name := "<init>", desc := "()V" } : Jvm.MethodName)) ∈ UW := UW_in 109 rfl rfl
set_option maxRecDepth 100000 in
theorem uw_111 : (Jvm.Cond.methodLink "VillageCuts$Survey" (3 : Nat) ({ cls := "java/lang/Object", name := "<init>", desc := "()V" } : Jvm.MethodName)) ∈ UW := UW_in 111 rfl rfl
set_option maxRecDepth 100000 in
theorem uw_112 : (Jvm.Cond.fieldLink "VillageCuts$Survey" (9 : Nat) "VillageCuts$Survey" "strides" "[I") ∈ UW := UW_in 112 rfl rfl
set_option maxRecDepth 100000 in
theorem uw_113 : (Jvm.Cond.fieldLink "VillageCuts$Survey" (15 : Nat) "VillageCuts$Survey" "counts" "[I") ∈ UW := UW_in 113 rfl rfl
set_option maxRecDepth 100000 in
theorem uw_114 : (Jvm.Cond.fieldLink "VillageCuts$Survey" (18 : Nat) "VillageCuts$Survey" "ways" "[J") ∈ UW := UW_in 114 rfl rfl
set_option maxRecDepth 100000 in
theorem uw_115 : (Jvm.Cond.fieldLink "VillageCuts$Survey" (22 : Nat) "VillageCuts$Survey" "sums" "[I") ∈ UW := UW_in 115 rfl rfl
set_option maxRecDepth 100000 in
theorem uw_116 : (Jvm.Cond.fieldLink "VillageCuts$Survey" (25 : Nat) "VillageCuts$Survey" "sizes" "[I") ∈ UW := UW_in 116 rfl rfl
set_option maxRecDepth 100000 in
theorem uw_117 : (Jvm.Cond.fieldLink "VillageCuts$Survey" (28 : Nat) "VillageCuts$Survey" "onward" "[I") ∈ UW := UW_in 117 rfl rfl
set_option maxRecDepth 100000 in
theorem uw_118 : (Jvm.Cond.fieldLink "VillageCuts$Survey" (31 : Nat) "VillageCuts$Survey" "reached" "[Z") ∈ UW := UW_in 118 rfl rfl
set_option maxRecDepth 100000 in
theorem uw_119 : (Jvm.Cond.fieldLink "VillageCuts$Survey" (74 : Nat) "VillageCuts$Survey" "villages" "I") ∈ UW := UW_in 119 rfl rfl
set_option maxRecDepth 100000 in
theorem uw_120 : (Jvm.Cond.fieldLink "VillageCuts$Survey" (35 : Nat) "VillageCuts$Survey" "places" "I") ∈ UW := UW_in 120 rfl rfl
set_option maxRecDepth 100000 in
theorem uw_140 : (Jvm.Cond.arrayClass Jvm.ClassFile.FieldType.long) ∈ UW := UW_in 140 rfl rfl
set_option maxRecDepth 100000 in
theorem uw_141 : (Jvm.Cond.arrayClass Jvm.ClassFile.FieldType.boolean) ∈ UW := UW_in 141 rfl rfl
set_option maxRecDepth 100000 in
theorem uw_142 : (Jvm.Cond.instantiable "VillageCuts$Sheet" (4 : Nat)) ∈ UW := UW_in 142 rfl rfl
set_option maxRecDepth 100000 in
theorem uw_144 : (Jvm.Cond.instanceMethod ({ cls := "VillageCuts$Sheet", name := "<init>", desc := "()V" } : Jvm.MethodName)) ∈ UW := UW_in 144 rfl rfl
set_option maxRecDepth 100000 in
theorem uw_146 : (Jvm.Cond.methodLink "VillageCuts$Sheet" (3 : Nat) ({ cls := "java/lang/Object", name := "<init>", desc := "()V" } : Jvm.MethodName)) ∈ UW := UW_in 146 rfl rfl
set_option maxRecDepth 100000 in
theorem uw_147 : (Jvm.Cond.fieldLink "VillageCuts$Sheet" (9 : Nat) "VillageCuts$Sheet" "cells" "[I") ∈ UW := UW_in 147 rfl rfl
set_option maxRecDepth 100000 in
theorem uw_148 : (Jvm.Cond.fieldLink "VillageCuts$Text" (56 : Nat) "VillageCuts$Sheet" "cells" "[I") ∈ UW := UW_in 148 rfl rfl
set_option maxRecDepth 100000 in
theorem uw_149 : (Jvm.Cond.fieldLink "VillageCuts" (192 : Nat) "VillageCuts$Sheet" "cells" "[I") ∈ UW := UW_in 149 rfl rfl
set_option maxRecDepth 100000 in
theorem uw_150 : (Jvm.Cond.fieldLink "VillageCuts$Sheet" (21 : Nat) "VillageCuts$Sheet" "hasRow" "Z") ∈ UW := UW_in 150 rfl rfl
set_option maxRecDepth 100000 in
theorem uw_151 : (Jvm.Cond.fieldLink "VillageCuts" (242 : Nat) "VillageCuts$Sheet" "hasRow" "Z") ∈ UW := UW_in 151 rfl rfl
set_option maxRecDepth 100000 in
theorem uw_152 : (Jvm.Cond.fieldLink "VillageCuts$Sheet" (25 : Nat) "VillageCuts$Sheet" "lane" "I") ∈ UW := UW_in 152 rfl rfl
set_option maxRecDepth 100000 in
theorem uw_153 : (Jvm.Cond.fieldLink "VillageCuts" (251 : Nat) "VillageCuts$Sheet" "lane" "I") ∈ UW := UW_in 153 rfl rfl
set_option maxRecDepth 100000 in
theorem uw_154 : (Jvm.Cond.fieldLink "VillageCuts$Sheet" (29 : Nat) "VillageCuts$Sheet" "length" "I") ∈ UW := UW_in 154 rfl rfl
set_option maxRecDepth 100000 in
theorem uw_164 : (Jvm.Cond.fieldLink "VillageCuts" (13 : Nat) "VillageCuts" "sheets" "[LVillageCuts$Sheet;") ∈ UW := UW_in 164 rfl rfl
set_option maxRecDepth 100000 in
theorem uw_165 : (Jvm.Cond.fieldLink "VillageCuts" (20 : Nat) "VillageCuts" "footprints" "LVillageCuts$Trace;") ∈ UW := UW_in 165 rfl rfl
set_option maxRecDepth 100000 in
theorem uw_166 : (Jvm.Cond.fieldLink "VillageCuts" (24 : Nat) "VillageCuts" "toldCut" "[I") ∈ UW := UW_in 166 rfl rfl
set_option maxRecDepth 100000 in
theorem uw_167 : (Jvm.Cond.fieldLink "VillageCuts" (28 : Nat) "VillageCuts" "work" "[I") ∈ UW := UW_in 167 rfl rfl
set_option maxRecDepth 100000 in
theorem uw_168 : (Jvm.Cond.fieldLink "VillageCuts" (33 : Nat) "VillageCuts" "readingCuts" "[[I") ∈ UW := UW_in 168 rfl rfl
set_option maxRecDepth 100000 in
theorem uw_169 : (Jvm.Cond.fieldLink "VillageCuts" (36 : Nat) "VillageCuts" "readingSums" "[I") ∈ UW := UW_in 169 rfl rfl
set_option maxRecDepth 100000 in
theorem uw_170 : (Jvm.Cond.fieldLink "VillageCuts" (97 : Nat) "VillageCuts" "readings" "I") ∈ UW := UW_in 170 rfl rfl
set_option maxRecDepth 100000 in
theorem uw_171 : (Jvm.Cond.fieldLink "VillageCuts" (54 : Nat) "VillageCuts" "lastFault" "I") ∈ UW := UW_in 171 rfl rfl
set_option maxRecDepth 100000 in
theorem uw_172 : (Jvm.Cond.fieldLink "VillageCuts" (42 : Nat) "VillageCuts" "country" "LVillageCuts$Land;") ∈ UW := UW_in 172 rfl rfl
set_option maxRecDepth 100000 in
theorem uw_173 : (Jvm.Cond.fieldLink "VillageCuts" (49 : Nat) "VillageCuts" "survey" "LVillageCuts$Survey;") ∈ UW := UW_in 173 rfl rfl
set_option maxRecDepth 100000 in
theorem uw_174 : (Jvm.Cond.fieldLink "VillageCuts" (93 : Nat) "VillageCuts" "isSurveyed" "Z") ∈ UW := UW_in 174 rfl rfl
set_option maxRecDepth 100000 in
theorem uw_202 : (Jvm.Cond.methodLink "VillageCuts" (58 : Nat) ({ cls := "VillageCuts", name := "isSheet", desc := "(I)Z" } : Jvm.MethodName)) ∈ UW := UW_in 202 rfl rfl
set_option maxRecDepth 100000 in
theorem uw_203 : (Jvm.Cond.static ({ cls := "VillageCuts", name := "isSheet", desc := "(I)Z" } : Jvm.MethodName)) ∈ UW := UW_in 203 rfl rfl
set_option maxRecDepth 100000 in
theorem uw_205 : (Jvm.Cond.methodLink "VillageCuts" (62 : Nat) ({ cls := "VillageCuts", name := "isLane", desc := "(I)Z" } : Jvm.MethodName)) ∈ UW := UW_in 205 rfl rfl
set_option maxRecDepth 100000 in
theorem uw_206 : (Jvm.Cond.static ({ cls := "VillageCuts", name := "isLane", desc := "(I)Z" } : Jvm.MethodName)) ∈ UW := UW_in 206 rfl rfl
set_option maxRecDepth 100000 in
theorem uw_208 : (Jvm.Cond.methodLink "VillageCuts" (65 : Nat) ({ cls := "VillageCuts$Sheet", name := "faultOfTaking", desc := "(III)I" } : Jvm.MethodName)) ∈ UW := UW_in 208 rfl rfl
set_option maxRecDepth 100000 in
theorem uw_209 : (Jvm.Cond.instanceMethod ({ cls := "VillageCuts$Sheet", name := "faultOfTaking", desc := "(III)I" } : Jvm.MethodName)) ∈ UW := UW_in 209 rfl rfl
set_option maxRecDepth 100000 in
theorem uw_210 : (Jvm.Cond.selects "VillageCuts$Sheet" ({ cls := "VillageCuts$Sheet", name := "faultOfTaking", desc := "(III)I" } : Jvm.MethodName) ({ cls := "VillageCuts$Sheet", name := "faultOfTaking", desc := "(III)I" } : Jvm.MethodName)) ∈ UW := UW_in 210 rfl rfl
set_option maxRecDepth 100000 in
theorem uw_212 : (Jvm.Cond.methodLink "VillageCuts$Sheet" (32 : Nat) ({ cls := "VillageCuts$Sheet", name := "hasCells", desc := "(II)Z" } : Jvm.MethodName)) ∈ UW := UW_in 212 rfl rfl
set_option maxRecDepth 100000 in
theorem uw_213 : (Jvm.Cond.instanceMethod ({ cls := "VillageCuts$Sheet", name := "hasCells", desc := "(II)Z" } : Jvm.MethodName)) ∈ UW := UW_in 213 rfl rfl
set_option maxRecDepth 100000 in
theorem uw_214 : (Jvm.Cond.selects "VillageCuts$Sheet" ({ cls := "VillageCuts$Sheet", name := "hasCells", desc := "(II)Z" } : Jvm.MethodName) ({ cls := "VillageCuts$Sheet", name := "hasCells", desc := "(II)Z" } : Jvm.MethodName)) ∈ UW := UW_in 214 rfl rfl
set_option maxRecDepth 100000 in
theorem uw_216 : (Jvm.Cond.methodLink "VillageCuts" (69 : Nat) ({ cls := "VillageCuts", name := "fallen", desc := "(I)I" } : Jvm.MethodName)) ∈ UW := UW_in 216 rfl rfl
set_option maxRecDepth 100000 in
theorem uw_218 : (Jvm.Cond.instanceMethod ({ cls := "VillageCuts", name := "fallen", desc := "(I)I" } : Jvm.MethodName)) ∈ UW := UW_in 218 rfl rfl
set_option maxRecDepth 100000 in
theorem uw_220 : (Jvm.Cond.classLink "VillageCuts" (73 : Nat) "VillageCuts$Text") ∈ UW := UW_in 220 rfl rfl
set_option maxRecDepth 100000 in
theorem uw_221 : (Jvm.Cond.instantiable "VillageCuts$Text" (4 : Nat)) ∈ UW := UW_in 221 rfl rfl
set_option maxRecDepth 100000 in
theorem uw_222 : (Jvm.Cond.methodLink "VillageCuts" (75 : Nat) ({ cls := "VillageCuts$Text", name := "<init>", desc := "(LVillageCuts$Sheet;II)V" } : Jvm.MethodName)) ∈ UW := UW_in 222 rfl rfl
set_option maxRecDepth 100000 in
theorem uw_223 : (Jvm.Cond.instanceMethod ({ cls := "VillageCuts$Text", name := "<init>", desc := "(LVillageCuts$Sheet;II)V" } : Jvm.MethodName)) ∈ UW := UW_in 223 rfl rfl
set_option maxRecDepth 100000 in
theorem uw_225 : (Jvm.Cond.methodLink "VillageCuts$Text" (3 : Nat) ({ cls := "java/lang/Object", name := "<init>", desc := "()V" } : Jvm.MethodName)) ∈ UW := UW_in 225 rfl rfl
set_option maxRecDepth 100000 in
theorem uw_226 : (Jvm.Cond.fieldLink "VillageCuts$Text" (9 : Nat) "VillageCuts$Text" "sheet" "LVillageCuts$Sheet;") ∈ UW := UW_in 226 rfl rfl
set_option maxRecDepth 100000 in
theorem uw_227 : (Jvm.Cond.fieldLink "VillageCuts$Text" (15 : Nat) "VillageCuts$Text" "from" "I") ∈ UW := UW_in 227 rfl rfl
set_option maxRecDepth 100000 in
theorem uw_228 : (Jvm.Cond.fieldLink "VillageCuts$Text" (19 : Nat) "VillageCuts$Text" "length" "I") ∈ UW := UW_in 228 rfl rfl
set_option maxRecDepth 100000 in
theorem uw_229 : (Jvm.Cond.fieldLink "VillageCuts$Text" (26 : Nat) "VillageCuts$Text" "place" "I") ∈ UW := UW_in 229 rfl rfl
set_option maxRecDepth 100000 in
theorem uw_230 : (Jvm.Cond.fieldLink "VillageCuts" (82 : Nat) "VillageCuts$Text" "place" "I") ∈ UW := UW_in 230 rfl rfl
set_option maxRecDepth 100000 in
theorem uw_240 : (Jvm.Cond.methodLink "VillageCuts" (78 : Nat) ({ cls := "VillageCuts$Text", name := "isReadInto", desc := "(LVillageCuts$Land;)Z" } : Jvm.MethodName)) ∈ UW := UW_in 240 rfl rfl
set_option maxRecDepth 100000 in
theorem uw_241 : (Jvm.Cond.instanceMethod ({ cls := "VillageCuts$Text", name := "isReadInto", desc := "(LVillageCuts$Land;)Z" } : Jvm.MethodName)) ∈ UW := UW_in 241 rfl rfl
set_option maxRecDepth 100000 in
theorem uw_242 : (Jvm.Cond.selects "VillageCuts$Text" ({ cls := "VillageCuts$Text", name := "isReadInto", desc := "(LVillageCuts$Land;)Z" } : Jvm.MethodName) ({ cls := "VillageCuts$Text", name := "isReadInto", desc := "(LVillageCuts$Land;)Z" } : Jvm.MethodName)) ∈ UW := UW_in 242 rfl rfl
set_option maxRecDepth 100000 in
theorem uw_244 : (Jvm.Cond.methodLink "VillageCuts$Text" (22 : Nat) ({ cls := "VillageCuts$Text", name := "code", desc := "()I" } : Jvm.MethodName)) ∈ UW := UW_in 244 rfl rfl
set_option maxRecDepth 100000 in
theorem uw_246 : (Jvm.Cond.instanceMethod ({ cls := "VillageCuts$Text", name := "code", desc := "()I" } : Jvm.MethodName)) ∈ UW := UW_in 246 rfl rfl
set_option maxRecDepth 100000 in
theorem uw_248 : (Jvm.Cond.methodLink "VillageCuts$Text" (29 : Nat) ({ cls := "VillageCuts$Text", name := "isVillageRead", desc := "(LVillageCuts$Land;)Z" } : Jvm.MethodName)) ∈ UW := UW_in 248 rfl rfl
set_option maxRecDepth 100000 in
theorem uw_250 : (Jvm.Cond.instanceMethod ({ cls := "VillageCuts$Text", name := "isVillageRead", desc := "(LVillageCuts$Land;)Z" } : Jvm.MethodName)) ∈ UW := UW_in 250 rfl rfl
set_option maxRecDepth 100000 in
theorem uw_252 : (Jvm.Cond.methodLink "VillageCuts$Text" (38 : Nat) ({ cls := "VillageCuts$Text", name := "kindOf", desc := "(I)I" } : Jvm.MethodName)) ∈ UW := UW_in 252 rfl rfl
set_option maxRecDepth 100000 in
theorem uw_253 : (Jvm.Cond.static ({ cls := "VillageCuts$Text", name := "kindOf", desc := "(I)I" } : Jvm.MethodName)) ∈ UW := UW_in 253 rfl rfl
set_option maxRecDepth 100000 in
theorem uw_255 : (Jvm.Cond.methodLink "VillageCuts$Text" (42 : Nat) ({ cls := "VillageCuts$Land", name := "settle", desc := "(I)V" } : Jvm.MethodName)) ∈ UW := UW_in 255 rfl rfl
set_option maxRecDepth 100000 in
theorem uw_256 : (Jvm.Cond.instanceMethod ({ cls := "VillageCuts$Land", name := "settle", desc := "(I)V" } : Jvm.MethodName)) ∈ UW := UW_in 256 rfl rfl
set_option maxRecDepth 100000 in
theorem uw_257 : (Jvm.Cond.selects "VillageCuts$Land" ({ cls := "VillageCuts$Land", name := "settle", desc := "(I)V" } : Jvm.MethodName) ({ cls := "VillageCuts$Land", name := "settle", desc := "(I)V" } : Jvm.MethodName)) ∈ UW := UW_in 257 rfl rfl
set_option maxRecDepth 100000 in
theorem uw_259 : (Jvm.Cond.classLink "VillageCuts$Land" (42 : Nat) "VillageCuts$Doubled") ∈ UW := UW_in 259 rfl rfl
set_option maxRecDepth 100000 in
theorem uw_260 : (Jvm.Cond.instantiable "VillageCuts$Doubled" (6 : Nat)) ∈ UW := UW_in 260 rfl rfl
set_option maxRecDepth 100000 in
theorem uw_261 : (Jvm.Cond.methodLink "VillageCuts$Land" (44 : Nat) ({ cls := "VillageCuts$Doubled", name := "<init>", desc := "()V" } : Jvm.MethodName)) ∈ UW := UW_in 261 rfl rfl
set_option maxRecDepth 100000 in
theorem uw_262 : (Jvm.Cond.instanceMethod ({ cls := "VillageCuts$Doubled", name := "<init>", desc := "()V" } : Jvm.MethodName)) ∈ UW := UW_in 262 rfl rfl
set_option maxRecDepth 100000 in
theorem uw_264 : (Jvm.Cond.methodLink "VillageCuts$Doubled" (3 : Nat) ({ cls := "VillageCuts$Broad", name := "<init>", desc := "(I)V" } : Jvm.MethodName)) ∈ UW := UW_in 264 rfl rfl
set_option maxRecDepth 100000 in
theorem uw_265 : (Jvm.Cond.instanceMethod ({ cls := "VillageCuts$Broad", name := "<init>", desc := "(I)V" } : Jvm.MethodName)) ∈ UW := UW_in 265 rfl rfl
set_option maxRecDepth 100000 in
theorem uw_267 : (Jvm.Cond.methodLink "VillageCuts$Broad" (1 : Nat) ({ cls := "VillageCuts$Plain", name := "<init>", desc := "(I)V" } : Jvm.MethodName)) ∈ UW := UW_in 267 rfl rfl
set_option maxRecDepth 100000 in
theorem uw_268 : (Jvm.Cond.instanceMethod ({ cls := "VillageCuts$Plain", name := "<init>", desc := "(I)V" } : Jvm.MethodName)) ∈ UW := UW_in 268 rfl rfl
set_option maxRecDepth 100000 in
theorem uw_270 : (Jvm.Cond.methodLink "VillageCuts$Plain" (3 : Nat) ({ cls := "java/lang/Object", name := "<init>", desc := "()V" } : Jvm.MethodName)) ∈ UW := UW_in 270 rfl rfl
set_option maxRecDepth 100000 in
theorem uw_271 : (Jvm.Cond.classLink "VillageCuts$Plain" (18 : Nat) "[[I") ∈ UW := UW_in 271 rfl rfl
set_option maxRecDepth 100000 in
theorem uw_272 : (Jvm.Cond.fieldLink "VillageCuts$Plain" (26 : Nat) "VillageCuts$Plain" "kind" "I") ∈ UW := UW_in 272 rfl rfl
set_option maxRecDepth 100000 in
theorem uw_273 : (Jvm.Cond.fieldLink "VillageCuts" (113 : Nat) "VillageCuts$Plain" "kind" "I") ∈ UW := UW_in 273 rfl rfl
set_option maxRecDepth 100000 in
theorem uw_274 : (Jvm.Cond.fieldLink "VillageCuts$Plain" (9 : Nat) "VillageCuts$Plain" "what" "[I") ∈ UW := UW_in 274 rfl rfl
set_option maxRecDepth 100000 in
theorem uw_275 : (Jvm.Cond.fieldLink "VillageCuts" (138 : Nat) "VillageCuts$Plain" "what" "[I") ∈ UW := UW_in 275 rfl rfl
set_option maxRecDepth 100000 in
theorem uw_276 : (Jvm.Cond.fieldLink "VillageCuts$Land" (103 : Nat) "VillageCuts$Plain" "what" "[I") ∈ UW := UW_in 276 rfl rfl
set_option maxRecDepth 100000 in
theorem uw_277 : (Jvm.Cond.fieldLink "VillageCuts$Plain" (15 : Nat) "VillageCuts$Plain" "digit" "[I") ∈ UW := UW_in 277 rfl rfl
set_option maxRecDepth 100000 in
theorem uw_278 : (Jvm.Cond.fieldLink "VillageCuts" (141 : Nat) "VillageCuts$Plain" "digit" "[I") ∈ UW := UW_in 278 rfl rfl
set_option maxRecDepth 100000 in
theorem uw_279 : (Jvm.Cond.fieldLink "VillageCuts$Land" (106 : Nat) "VillageCuts$Plain" "digit" "[I") ∈ UW := UW_in 279 rfl rfl
set_option maxRecDepth 100000 in
theorem uw_280 : (Jvm.Cond.fieldLink "VillageCuts$Plain" (20 : Nat) "VillageCuts$Plain" "need" "[[I") ∈ UW := UW_in 280 rfl rfl
set_option maxRecDepth 100000 in
theorem uw_281 : (Jvm.Cond.fieldLink "VillageCuts" (147 : Nat) "VillageCuts$Plain" "need" "[[I") ∈ UW := UW_in 281 rfl rfl
set_option maxRecDepth 100000 in
theorem uw_282 : (Jvm.Cond.fieldLink "VillageCuts$Land" (93 : Nat) "VillageCuts$Plain" "need" "[[I") ∈ UW := UW_in 282 rfl rfl
set_option maxRecDepth 100000 in
theorem uw_283 : (Jvm.Cond.fieldLink "VillageCuts$Plain" (23 : Nat) "VillageCuts$Plain" "values" "[I") ∈ UW := UW_in 283 rfl rfl
set_option maxRecDepth 100000 in
theorem uw_284 : (Jvm.Cond.fieldLink "VillageCuts$Plain" (30 : Nat) "VillageCuts$Plain" "things" "I") ∈ UW := UW_in 284 rfl rfl
set_option maxRecDepth 100000 in
theorem uw_285 : (Jvm.Cond.fieldLink "VillageCuts$Land" (39 : Nat) "VillageCuts$Plain" "things" "I") ∈ UW := UW_in 285 rfl rfl
set_option maxRecDepth 100000 in
theorem uw_286 : (Jvm.Cond.fieldLink "VillageCuts$Survey" (80 : Nat) "VillageCuts$Plain" "things" "I") ∈ UW := UW_in 286 rfl rfl
set_option maxRecDepth 100000 in
theorem uw_287 : (Jvm.Cond.fieldLink "VillageCuts" (118 : Nat) "VillageCuts$Plain" "things" "I") ∈ UW := UW_in 287 rfl rfl
set_option maxRecDepth 100000 in
theorem uw_300 : (Jvm.Cond.superclass "VillageCuts$Doubled" "VillageCuts$Broad") ∈ UW := UW_in 300 rfl rfl
set_option maxRecDepth 100000 in
theorem uw_301 : (Jvm.Cond.classLink "VillageCuts$Land" (45 : Nat) "VillageCuts$Broad") ∈ UW := UW_in 301 rfl rfl
set_option maxRecDepth 100000 in
theorem uw_302 : (Jvm.Cond.instantiable "VillageCuts$Broad" (6 : Nat)) ∈ UW := UW_in 302 rfl rfl
set_option maxRecDepth 100000 in
theorem uw_303 : (Jvm.Cond.methodLink "VillageCuts$Land" (47 : Nat) ({ cls := "VillageCuts$Broad", name := "<init>", desc := "(I)V" } : Jvm.MethodName)) ∈ UW := UW_in 303 rfl rfl
set_option maxRecDepth 100000 in
theorem uw_310 : (Jvm.Cond.superclass "VillageCuts$Broad" "VillageCuts$Plain") ∈ UW := UW_in 310 rfl rfl
set_option maxRecDepth 100000 in
theorem uw_311 : (Jvm.Cond.instantiable "VillageCuts$Plain" (6 : Nat)) ∈ UW := UW_in 311 rfl rfl
set_option maxRecDepth 100000 in
theorem uw_312 : (Jvm.Cond.methodLink "VillageCuts$Land" (50 : Nat) ({ cls := "VillageCuts$Plain", name := "<init>", desc := "(I)V" } : Jvm.MethodName)) ∈ UW := UW_in 312 rfl rfl
set_option maxRecDepth 100000 in
theorem uw_320 : (Jvm.Cond.methodLink "VillageCuts$Text" (46 : Nat) ({ cls := "VillageCuts$Text", name := "whatOf", desc := "(I)I" } : Jvm.MethodName)) ∈ UW := UW_in 320 rfl rfl
set_option maxRecDepth 100000 in
theorem uw_321 : (Jvm.Cond.static ({ cls := "VillageCuts$Text", name := "whatOf", desc := "(I)I" } : Jvm.MethodName)) ∈ UW := UW_in 321 rfl rfl
set_option maxRecDepth 100000 in
theorem uw_323 : (Jvm.Cond.methodLink "VillageCuts$Text" (49 : Nat) ({ cls := "VillageCuts$Text", name := "greatestDigit", desc := "(I)I" } : Jvm.MethodName)) ∈ UW := UW_in 323 rfl rfl
set_option maxRecDepth 100000 in
theorem uw_324 : (Jvm.Cond.static ({ cls := "VillageCuts$Text", name := "greatestDigit", desc := "(I)I" } : Jvm.MethodName)) ∈ UW := UW_in 324 rfl rfl
set_option maxRecDepth 100000 in
theorem uw_326 : (Jvm.Cond.methodLink "VillageCuts$Text" (52 : Nat) ({ cls := "VillageCuts$Land", name := "addThing", desc := "(II)V" } : Jvm.MethodName)) ∈ UW := UW_in 326 rfl rfl
set_option maxRecDepth 100000 in
theorem uw_327 : (Jvm.Cond.instanceMethod ({ cls := "VillageCuts$Land", name := "addThing", desc := "(II)V" } : Jvm.MethodName)) ∈ UW := UW_in 327 rfl rfl
set_option maxRecDepth 100000 in
theorem uw_328 : (Jvm.Cond.selects "VillageCuts$Land" ({ cls := "VillageCuts$Land", name := "addThing", desc := "(II)V" } : Jvm.MethodName) ({ cls := "VillageCuts$Land", name := "addThing", desc := "(II)V" } : Jvm.MethodName)) ∈ UW := UW_in 328 rfl rfl
set_option maxRecDepth 100000 in
theorem uw_330 : (Jvm.Cond.methodLink "VillageCuts$Land" (51 : Nat) ({ cls := "VillageCuts$Land", name := "noteLetter", desc := "(III)V" } : Jvm.MethodName)) ∈ UW := UW_in 330 rfl rfl
set_option maxRecDepth 100000 in
theorem uw_332 : (Jvm.Cond.instanceMethod ({ cls := "VillageCuts$Land", name := "noteLetter", desc := "(III)V" } : Jvm.MethodName)) ∈ UW := UW_in 332 rfl rfl
set_option maxRecDepth 100000 in
theorem uw_334 : (Jvm.Cond.methodLink "VillageCuts$Land" (55 : Nat) ({ cls := "VillageCuts$Plain", name := "add", desc := "(II)V" } : Jvm.MethodName)) ∈ UW := UW_in 334 rfl rfl
set_option maxRecDepth 100000 in
theorem uw_335 : (Jvm.Cond.instanceMethod ({ cls := "VillageCuts$Plain", name := "add", desc := "(II)V" } : Jvm.MethodName)) ∈ UW := UW_in 335 rfl rfl
set_option maxRecDepth 100000 in
theorem uw_336 : (Jvm.Cond.selects "VillageCuts$Plain" ({ cls := "VillageCuts$Plain", name := "add", desc := "(II)V" } : Jvm.MethodName) ({ cls := "VillageCuts$Plain", name := "add", desc := "(II)V" } : Jvm.MethodName)) ∈ UW := UW_in 336 rfl rfl
set_option maxRecDepth 100000 in
theorem uw_337 : (Jvm.Cond.sameMethod "VillageCuts$Plain" "VillageCuts$Plain" "add" "(II)V") ∈ UW := UW_in 337 rfl rfl
set_option maxRecDepth 100000 in
theorem uw_338 : (Jvm.Cond.selects "VillageCuts$Broad" ({ cls := "VillageCuts$Plain", name := "add", desc := "(II)V" } : Jvm.MethodName) ({ cls := "VillageCuts$Plain", name := "add", desc := "(II)V" } : Jvm.MethodName)) ∈ UW := UW_in 338 rfl rfl
set_option maxRecDepth 100000 in
theorem uw_339 : (Jvm.Cond.selects "VillageCuts$Doubled" ({ cls := "VillageCuts$Plain", name := "add", desc := "(II)V" } : Jvm.MethodName) ({ cls := "VillageCuts$Plain", name := "add", desc := "(II)V" } : Jvm.MethodName)) ∈ UW := UW_in 339 rfl rfl
set_option maxRecDepth 100000 in
theorem uw_341 : (Jvm.Cond.methodLink "VillageCuts" (85 : Nat) ({ cls := "VillageCuts$Land", name := "leastAmiss", desc := "()I" } : Jvm.MethodName)) ∈ UW := UW_in 341 rfl rfl
set_option maxRecDepth 100000 in
theorem uw_342 : (Jvm.Cond.instanceMethod ({ cls := "VillageCuts$Land", name := "leastAmiss", desc := "()I" } : Jvm.MethodName)) ∈ UW := UW_in 342 rfl rfl
set_option maxRecDepth 100000 in
theorem uw_343 : (Jvm.Cond.selects "VillageCuts$Land" ({ cls := "VillageCuts$Land", name := "leastAmiss", desc := "()I" } : Jvm.MethodName) ({ cls := "VillageCuts$Land", name := "leastAmiss", desc := "()I" } : Jvm.MethodName)) ∈ UW := UW_in 343 rfl rfl
set_option maxRecDepth 100000 in
theorem uw_345 : (Jvm.Cond.methodLink "VillageCuts$Land" (78 : Nat) ({ cls := "VillageCuts$Letter", name := "isAmiss", desc := "()Z" } : Jvm.MethodName)) ∈ UW := UW_in 345 rfl rfl
set_option maxRecDepth 100000 in
theorem uw_346 : (Jvm.Cond.instanceMethod ({ cls := "VillageCuts$Letter", name := "isAmiss", desc := "()Z" } : Jvm.MethodName)) ∈ UW := UW_in 346 rfl rfl
set_option maxRecDepth 100000 in
theorem uw_347 : (Jvm.Cond.selects "VillageCuts$Letter" ({ cls := "VillageCuts$Letter", name := "isAmiss", desc := "()Z" } : Jvm.MethodName) ({ cls := "VillageCuts$Letter", name := "isAmiss", desc := "()Z" } : Jvm.MethodName)) ∈ UW := UW_in 347 rfl rfl
set_option maxRecDepth 100000 in
theorem uw_349 : (Jvm.Cond.methodLink "VillageCuts" (89 : Nat) ({ cls := "VillageCuts$Land", name := "isOrdered", desc := "()Z" } : Jvm.MethodName)) ∈ UW := UW_in 349 rfl rfl
set_option maxRecDepth 100000 in
theorem uw_350 : (Jvm.Cond.instanceMethod ({ cls := "VillageCuts$Land", name := "isOrdered", desc := "()Z" } : Jvm.MethodName)) ∈ UW := UW_in 350 rfl rfl
set_option maxRecDepth 100000 in
theorem uw_351 : (Jvm.Cond.selects "VillageCuts$Land" ({ cls := "VillageCuts$Land", name := "isOrdered", desc := "()Z" } : Jvm.MethodName) ({ cls := "VillageCuts$Land", name := "isOrdered", desc := "()Z" } : Jvm.MethodName)) ∈ UW := UW_in 351 rfl rfl
set_option maxRecDepth 100000 in
theorem uw_353 : (Jvm.Cond.methodLink "VillageCuts$Land" (82 : Nat) ({ cls := "VillageCuts$Land", name := "firstThatGoesOn", desc := "([I)I" } : Jvm.MethodName)) ∈ UW := UW_in 353 rfl rfl
set_option maxRecDepth 100000 in
theorem uw_355 : (Jvm.Cond.instanceMethod ({ cls := "VillageCuts$Land", name := "firstThatGoesOn", desc := "([I)I" } : Jvm.MethodName)) ∈ UW := UW_in 355 rfl rfl
set_option maxRecDepth 100000 in
theorem uw_357 : (Jvm.Cond.methodLink "VillageCuts$Land" (89 : Nat) ({ cls := "VillageCuts$Land", name := "goesOn", desc := "([II)Z" } : Jvm.MethodName)) ∈ UW := UW_in 357 rfl rfl
set_option maxRecDepth 100000 in
theorem uw_358 : (Jvm.Cond.instanceMethod ({ cls := "VillageCuts$Land", name := "goesOn", desc := "([II)Z" } : Jvm.MethodName)) ∈ UW := UW_in 358 rfl rfl
set_option maxRecDepth 100000 in
theorem uw_359 : (Jvm.Cond.selects "VillageCuts$Land" ({ cls := "VillageCuts$Land", name := "goesOn", desc := "([II)Z" } : Jvm.MethodName) ({ cls := "VillageCuts$Land", name := "goesOn", desc := "([II)Z" } : Jvm.MethodName)) ∈ UW := UW_in 359 rfl rfl
set_option maxRecDepth 100000 in
theorem uw_361 : (Jvm.Cond.methodLink "VillageCuts$Land" (119 : Nat) ({ cls := "VillageCuts$Letter", name := "isSentIn", desc := "([I)Z" } : Jvm.MethodName)) ∈ UW := UW_in 361 rfl rfl
set_option maxRecDepth 100000 in
theorem uw_362 : (Jvm.Cond.instanceMethod ({ cls := "VillageCuts$Letter", name := "isSentIn", desc := "([I)Z" } : Jvm.MethodName)) ∈ UW := UW_in 362 rfl rfl
set_option maxRecDepth 100000 in
theorem uw_363 : (Jvm.Cond.selects "VillageCuts$Letter" ({ cls := "VillageCuts$Letter", name := "isSentIn", desc := "([I)Z" } : Jvm.MethodName) ({ cls := "VillageCuts$Letter", name := "isSentIn", desc := "([I)Z" } : Jvm.MethodName)) ∈ UW := UW_in 363 rfl rfl
set_option maxRecDepth 100000 in
theorem uw_365 : (Jvm.Cond.methodLink "VillageCuts$Land" (86 : Nat) ({ cls := "VillageCuts$Land", name := "noteNeed", desc := "(II)V" } : Jvm.MethodName)) ∈ UW := UW_in 365 rfl rfl
set_option maxRecDepth 100000 in
theorem uw_367 : (Jvm.Cond.instanceMethod ({ cls := "VillageCuts$Land", name := "noteNeed", desc := "(II)V" } : Jvm.MethodName)) ∈ UW := UW_in 367 rfl rfl
set_option maxRecDepth 100000 in
theorem uw_369 : (Jvm.Cond.methodLink "VillageCuts$Land" (97 : Nat) ({ cls := "java/lang/System", name := "arraycopy", desc := "(Ljava/lang/Object;ILjava/lang/Object;II)V" } : Jvm.MethodName)) ∈ UW := UW_in 369 rfl rfl
set_option maxRecDepth 100000 in
theorem uw_370 : (Jvm.Cond.static ({ cls := "java/lang/System", name := "arraycopy", desc := "(Ljava/lang/Object;ILjava/lang/Object;II)V" } : Jvm.MethodName)) ∈ UW := UW_in 370 rfl rfl
set_option maxRecDepth 100000 in
theorem uw_371 : (Jvm.Cond.native ({ cls := "java/lang/System", name := "arraycopy", desc := "(Ljava/lang/Object;ILjava/lang/Object;II)V" } : Jvm.MethodName)) ∈ UW := UW_in 371 rfl rfl
set_option maxRecDepth 100000 in
theorem uw_372 : (Jvm.Cond.methodLink "VillageCuts$Land" (109 : Nat) ({ cls := "VillageCuts$Land", name := "raise", desc := "([I[I)V" } : Jvm.MethodName)) ∈ UW := UW_in 372 rfl rfl
set_option maxRecDepth 100000 in
theorem uw_373 : (Jvm.Cond.static ({ cls := "VillageCuts$Land", name := "raise", desc := "([I[I)V" } : Jvm.MethodName)) ∈ UW := UW_in 373 rfl rfl
set_option maxRecDepth 100000 in
theorem uw_375 : (Jvm.Cond.methodLink "VillageCuts$Land" (113 : Nat) ({ cls := "java/lang/Math", name := "max", desc := "(II)I" } : Jvm.MethodName)) ∈ UW := UW_in 375 rfl rfl
set_option maxRecDepth 100000 in
theorem uw_376 : (Jvm.Cond.static ({ cls := "java/lang/Math", name := "max", desc := "(II)I" } : Jvm.MethodName)) ∈ UW := UW_in 376 rfl rfl
set_option maxRecDepth 100000 in
theorem uw_377 : (Jvm.Cond.code ({ cls := "java/lang/Math", name := "max", desc := "(II)I" } : Jvm.MethodName) prog_13_method_65_code (2 : Nat) (Option.some Jvm.ClassFile.FieldType.int)) ∈ UW := UW_in 377 rfl rfl
set_option maxRecDepth 100000 in
theorem uw_382 : (Jvm.Cond.methodLink "VillageCuts" (103 : Nat) ({ cls := "VillageCuts$Land", name := "hasVillage", desc := "(I)Z" } : Jvm.MethodName)) ∈ UW := UW_in 382 rfl rfl
set_option maxRecDepth 100000 in
theorem uw_383 : (Jvm.Cond.instanceMethod ({ cls := "VillageCuts$Land", name := "hasVillage", desc := "(I)Z" } : Jvm.MethodName)) ∈ UW := UW_in 383 rfl rfl
set_option maxRecDepth 100000 in
theorem uw_384 : (Jvm.Cond.selects "VillageCuts$Land" ({ cls := "VillageCuts$Land", name := "hasVillage", desc := "(I)Z" } : Jvm.MethodName) ({ cls := "VillageCuts$Land", name := "hasVillage", desc := "(I)Z" } : Jvm.MethodName)) ∈ UW := UW_in 384 rfl rfl
set_option maxRecDepth 100000 in
theorem uw_386 : (Jvm.Cond.methodLink "VillageCuts" (121 : Nat) ({ cls := "VillageCuts$Plain", name := "valueAt", desc := "(I)I" } : Jvm.MethodName)) ∈ UW := UW_in 386 rfl rfl
set_option maxRecDepth 100000 in
theorem uw_387 : (Jvm.Cond.instanceMethod ({ cls := "VillageCuts$Plain", name := "valueAt", desc := "(I)I" } : Jvm.MethodName)) ∈ UW := UW_in 387 rfl rfl
set_option maxRecDepth 100000 in
theorem uw_388 : (Jvm.Cond.selects "VillageCuts$Plain" ({ cls := "VillageCuts$Plain", name := "valueAt", desc := "(I)I" } : Jvm.MethodName) ({ cls := "VillageCuts$Plain", name := "valueAt", desc := "(I)I" } : Jvm.MethodName)) ∈ UW := UW_in 388 rfl rfl
set_option maxRecDepth 100000 in
theorem uw_389 : (Jvm.Cond.sameMethod "VillageCuts$Plain" "VillageCuts$Plain" "valueAt" "(I)I") ∈ UW := UW_in 389 rfl rfl
set_option maxRecDepth 100000 in
theorem uw_390 : (Jvm.Cond.selects "VillageCuts$Broad" ({ cls := "VillageCuts$Plain", name := "valueAt", desc := "(I)I" } : Jvm.MethodName) ({ cls := "VillageCuts$Plain", name := "valueAt", desc := "(I)I" } : Jvm.MethodName)) ∈ UW := UW_in 390 rfl rfl
set_option maxRecDepth 100000 in
theorem uw_391 : (Jvm.Cond.selects "VillageCuts$Doubled" ({ cls := "VillageCuts$Plain", name := "valueAt", desc := "(I)I" } : Jvm.MethodName) ({ cls := "VillageCuts$Plain", name := "valueAt", desc := "(I)I" } : Jvm.MethodName)) ∈ UW := UW_in 391 rfl rfl
set_option maxRecDepth 100000 in
theorem uw_393 : (Jvm.Cond.methodLink "VillageCuts$Plain" (33 : Nat) ({ cls := "java/lang/Math", name := "min", desc := "(II)I" } : Jvm.MethodName)) ∈ UW := UW_in 393 rfl rfl
set_option maxRecDepth 100000 in
theorem uw_394 : (Jvm.Cond.static ({ cls := "java/lang/Math", name := "min", desc := "(II)I" } : Jvm.MethodName)) ∈ UW := UW_in 394 rfl rfl
set_option maxRecDepth 100000 in
theorem uw_395 : (Jvm.Cond.code ({ cls := "java/lang/Math", name := "min", desc := "(II)I" } : Jvm.MethodName) prog_13_method_69_code (2 : Nat) (Option.some Jvm.ClassFile.FieldType.int)) ∈ UW := UW_in 395 rfl rfl
set_option maxRecDepth 100000 in
theorem uw_396 : (Jvm.Cond.methodLink "VillageCuts$Plain" (39 : Nat) ({ cls := "java/lang/Math", name := "max", desc := "(II)I" } : Jvm.MethodName)) ∈ UW := UW_in 396 rfl rfl
set_option maxRecDepth 100000 in
theorem uw_397 : (Jvm.Cond.methodLink "VillageCuts" (124 : Nat) ({ cls := "VillageCuts$Plain", name := "worthAt", desc := "(I)I" } : Jvm.MethodName)) ∈ UW := UW_in 397 rfl rfl
set_option maxRecDepth 100000 in
theorem uw_398 : (Jvm.Cond.instanceMethod ({ cls := "VillageCuts$Plain", name := "worthAt", desc := "(I)I" } : Jvm.MethodName)) ∈ UW := UW_in 398 rfl rfl
set_option maxRecDepth 100000 in
theorem uw_399 : (Jvm.Cond.selects "VillageCuts$Plain" ({ cls := "VillageCuts$Plain", name := "worthAt", desc := "(I)I" } : Jvm.MethodName) ({ cls := "VillageCuts$Plain", name := "worthAt", desc := "(I)I" } : Jvm.MethodName)) ∈ UW := UW_in 399 rfl rfl
set_option maxRecDepth 100000 in
theorem uw_400 : (Jvm.Cond.sameMethod "VillageCuts$Plain" "VillageCuts$Plain" "worthAt" "(I)I") ∈ UW := UW_in 400 rfl rfl
set_option maxRecDepth 100000 in
theorem uw_401 : (Jvm.Cond.selects "VillageCuts$Broad" ({ cls := "VillageCuts$Plain", name := "worthAt", desc := "(I)I" } : Jvm.MethodName) ({ cls := "VillageCuts$Plain", name := "worthAt", desc := "(I)I" } : Jvm.MethodName)) ∈ UW := UW_in 401 rfl rfl
set_option maxRecDepth 100000 in
theorem uw_402 : (Jvm.Cond.selects "VillageCuts$Doubled" ({ cls := "VillageCuts$Plain", name := "worthAt", desc := "(I)I" } : Jvm.MethodName) ({ cls := "VillageCuts$Plain", name := "worthAt", desc := "(I)I" } : Jvm.MethodName)) ∈ UW := UW_in 402 rfl rfl
set_option maxRecDepth 100000 in
theorem uw_404 : (Jvm.Cond.methodLink "VillageCuts$Plain" (42 : Nat) ({ cls := "VillageCuts$Plain", name := "valueAt", desc := "(I)I" } : Jvm.MethodName)) ∈ UW := UW_in 404 rfl rfl
set_option maxRecDepth 100000 in
theorem uw_405 : (Jvm.Cond.methodLink "VillageCuts$Plain" (46 : Nat) ({ cls := "VillageCuts$Plain", name := "worthAs", desc := "(II)I" } : Jvm.MethodName)) ∈ UW := UW_in 405 rfl rfl
set_option maxRecDepth 100000 in
theorem uw_406 : (Jvm.Cond.static ({ cls := "VillageCuts$Plain", name := "worthAs", desc := "(II)I" } : Jvm.MethodName)) ∈ UW := UW_in 406 rfl rfl
set_option maxRecDepth 100000 in
theorem uw_408 : (Jvm.Cond.methodLink "VillageCuts" (127 : Nat) ({ cls := "VillageCuts$Land", name := "goesOn", desc := "([II)Z" } : Jvm.MethodName)) ∈ UW := UW_in 408 rfl rfl
set_option maxRecDepth 100000 in
theorem uw_413 : (Jvm.Cond.methodLink "VillageCuts" (131 : Nat) ({ cls := "VillageCuts$Land", name := "hasThing", desc := "(II)Z" } : Jvm.MethodName)) ∈ UW := UW_in 413 rfl rfl
set_option maxRecDepth 100000 in
theorem uw_414 : (Jvm.Cond.instanceMethod ({ cls := "VillageCuts$Land", name := "hasThing", desc := "(II)Z" } : Jvm.MethodName)) ∈ UW := UW_in 414 rfl rfl
set_option maxRecDepth 100000 in
theorem uw_415 : (Jvm.Cond.selects "VillageCuts$Land" ({ cls := "VillageCuts$Land", name := "hasThing", desc := "(II)Z" } : Jvm.MethodName) ({ cls := "VillageCuts$Land", name := "hasThing", desc := "(II)Z" } : Jvm.MethodName)) ∈ UW := UW_in 415 rfl rfl
set_option maxRecDepth 100000 in
theorem uw_417 : (Jvm.Cond.methodLink "VillageCuts$Land" (35 : Nat) ({ cls := "VillageCuts$Land", name := "hasVillage", desc := "(I)Z" } : Jvm.MethodName)) ∈ UW := UW_in 417 rfl rfl
set_option maxRecDepth 100000 in
theorem uw_418 : (Jvm.Cond.methodLink "VillageCuts" (135 : Nat) ({ cls := "VillageCuts", name := "isOfVillage", desc := "(I)Z" } : Jvm.MethodName)) ∈ UW := UW_in 418 rfl rfl
set_option maxRecDepth 100000 in
theorem uw_419 : (Jvm.Cond.static ({ cls := "VillageCuts", name := "isOfVillage", desc := "(I)Z" } : Jvm.MethodName)) ∈ UW := UW_in 419 rfl rfl
set_option maxRecDepth 100000 in
theorem uw_421 : (Jvm.Cond.methodLink "VillageCuts" (144 : Nat) ({ cls := "VillageCuts$Plain", name := "needInAll", desc := "(I)I" } : Jvm.MethodName)) ∈ UW := UW_in 421 rfl rfl
set_option maxRecDepth 100000 in
theorem uw_422 : (Jvm.Cond.instanceMethod ({ cls := "VillageCuts$Plain", name := "needInAll", desc := "(I)I" } : Jvm.MethodName)) ∈ UW := UW_in 422 rfl rfl
set_option maxRecDepth 100000 in
theorem uw_423 : (Jvm.Cond.selects "VillageCuts$Plain" ({ cls := "VillageCuts$Plain", name := "needInAll", desc := "(I)I" } : Jvm.MethodName) ({ cls := "VillageCuts$Plain", name := "needInAll", desc := "(I)I" } : Jvm.MethodName)) ∈ UW := UW_in 423 rfl rfl
set_option maxRecDepth 100000 in
theorem uw_424 : (Jvm.Cond.sameMethod "VillageCuts$Plain" "VillageCuts$Plain" "needInAll" "(I)I") ∈ UW := UW_in 424 rfl rfl
set_option maxRecDepth 100000 in
theorem uw_425 : (Jvm.Cond.selects "VillageCuts$Broad" ({ cls := "VillageCuts$Plain", name := "needInAll", desc := "(I)I" } : Jvm.MethodName) ({ cls := "VillageCuts$Plain", name := "needInAll", desc := "(I)I" } : Jvm.MethodName)) ∈ UW := UW_in 425 rfl rfl
set_option maxRecDepth 100000 in
theorem uw_426 : (Jvm.Cond.selects "VillageCuts$Doubled" ({ cls := "VillageCuts$Plain", name := "needInAll", desc := "(I)I" } : Jvm.MethodName) ({ cls := "VillageCuts$Plain", name := "needInAll", desc := "(I)I" } : Jvm.MethodName)) ∈ UW := UW_in 426 rfl rfl
set_option maxRecDepth 100000 in
theorem uw_432 : (Jvm.Cond.methodLink "VillageCuts" (150 : Nat) ({ cls := "VillageCuts$Land", name := "isAhead", desc := "(IIII)Z" } : Jvm.MethodName)) ∈ UW := UW_in 432 rfl rfl
set_option maxRecDepth 100000 in
theorem uw_433 : (Jvm.Cond.instanceMethod ({ cls := "VillageCuts$Land", name := "isAhead", desc := "(IIII)Z" } : Jvm.MethodName)) ∈ UW := UW_in 433 rfl rfl
set_option maxRecDepth 100000 in
theorem uw_434 : (Jvm.Cond.selects "VillageCuts$Land" ({ cls := "VillageCuts$Land", name := "isAhead", desc := "(IIII)Z" } : Jvm.MethodName) ({ cls := "VillageCuts$Land", name := "isAhead", desc := "(IIII)Z" } : Jvm.MethodName)) ∈ UW := UW_in 434 rfl rfl
set_option maxRecDepth 100000 in
theorem uw_444 : (Jvm.Cond.methodLink "VillageCuts" (154 : Nat) ({ cls := "VillageCuts$Land", name := "thingsIn", desc := "([I)I" } : Jvm.MethodName)) ∈ UW := UW_in 444 rfl rfl
set_option maxRecDepth 100000 in
theorem uw_445 : (Jvm.Cond.instanceMethod ({ cls := "VillageCuts$Land", name := "thingsIn", desc := "([I)I" } : Jvm.MethodName)) ∈ UW := UW_in 445 rfl rfl
set_option maxRecDepth 100000 in
theorem uw_446 : (Jvm.Cond.selects "VillageCuts$Land" ({ cls := "VillageCuts$Land", name := "thingsIn", desc := "([I)I" } : Jvm.MethodName) ({ cls := "VillageCuts$Land", name := "thingsIn", desc := "([I)I" } : Jvm.MethodName)) ∈ UW := UW_in 446 rfl rfl
set_option maxRecDepth 100000 in
theorem uw_448 : (Jvm.Cond.methodLink "VillageCuts" (158 : Nat) ({ cls := "java/util/Arrays", name := "fill", desc := "([II)V" } : Jvm.MethodName)) ∈ UW := UW_in 448 rfl rfl
set_option maxRecDepth 100000 in
theorem uw_449 : (Jvm.Cond.static ({ cls := "java/util/Arrays", name := "fill", desc := "([II)V" } : Jvm.MethodName)) ∈ UW := UW_in 449 rfl rfl
set_option maxRecDepth 100000 in
theorem uw_455 : (Jvm.Cond.methodLink "VillageCuts" (164 : Nat) ({ cls := "VillageCuts", name := "isQuestion", desc := "(I)Z" } : Jvm.MethodName)) ∈ UW := UW_in 455 rfl rfl
set_option maxRecDepth 100000 in
theorem uw_456 : (Jvm.Cond.static ({ cls := "VillageCuts", name := "isQuestion", desc := "(I)Z" } : Jvm.MethodName)) ∈ UW := UW_in 456 rfl rfl
set_option maxRecDepth 100000 in
theorem uw_458 : (Jvm.Cond.methodLink "VillageCuts" (167 : Nat) ({ cls := "VillageCuts", name := "takeCut", desc := "(IIIZ)I" } : Jvm.MethodName)) ∈ UW := UW_in 458 rfl rfl
set_option maxRecDepth 100000 in
theorem uw_460 : (Jvm.Cond.instanceMethod ({ cls := "VillageCuts", name := "takeCut", desc := "(IIIZ)I" } : Jvm.MethodName)) ∈ UW := UW_in 460 rfl rfl
set_option maxRecDepth 100000 in
theorem uw_462 : (Jvm.Cond.methodLink "VillageCuts" (171 : Nat) ({ cls := "VillageCuts$Land", name := "canBe", desc := "([I)Z" } : Jvm.MethodName)) ∈ UW := UW_in 462 rfl rfl
set_option maxRecDepth 100000 in
theorem uw_463 : (Jvm.Cond.instanceMethod ({ cls := "VillageCuts$Land", name := "canBe", desc := "([I)Z" } : Jvm.MethodName)) ∈ UW := UW_in 463 rfl rfl
set_option maxRecDepth 100000 in
theorem uw_464 : (Jvm.Cond.selects "VillageCuts$Land" ({ cls := "VillageCuts$Land", name := "canBe", desc := "([I)Z" } : Jvm.MethodName) ({ cls := "VillageCuts$Land", name := "canBe", desc := "([I)Z" } : Jvm.MethodName)) ∈ UW := UW_in 464 rfl rfl
set_option maxRecDepth 100000 in
theorem uw_466 : (Jvm.Cond.methodLink "VillageCuts" (175 : Nat) ({ cls := "VillageCuts$Land", name := "sumOf", desc := "([I)I" } : Jvm.MethodName)) ∈ UW := UW_in 466 rfl rfl
set_option maxRecDepth 100000 in
theorem uw_467 : (Jvm.Cond.instanceMethod ({ cls := "VillageCuts$Land", name := "sumOf", desc := "([I)I" } : Jvm.MethodName)) ∈ UW := UW_in 467 rfl rfl
set_option maxRecDepth 100000 in
theorem uw_468 : (Jvm.Cond.selects "VillageCuts$Land" ({ cls := "VillageCuts$Land", name := "sumOf", desc := "([I)I" } : Jvm.MethodName) ({ cls := "VillageCuts$Land", name := "sumOf", desc := "([I)I" } : Jvm.MethodName)) ∈ UW := UW_in 468 rfl rfl
set_option maxRecDepth 100000 in
theorem uw_470 : (Jvm.Cond.methodLink "VillageCuts$Land" (123 : Nat) ({ cls := "VillageCuts$Plain", name := "worthAt", desc := "(I)I" } : Jvm.MethodName)) ∈ UW := UW_in 470 rfl rfl
set_option maxRecDepth 100000 in
theorem uw_471 : (Jvm.Cond.methodLink "VillageCuts" (178 : Nat) ({ cls := "VillageCuts$Land", name := "underWay", desc := "([I)I" } : Jvm.MethodName)) ∈ UW := UW_in 471 rfl rfl
set_option maxRecDepth 100000 in
theorem uw_472 : (Jvm.Cond.instanceMethod ({ cls := "VillageCuts$Land", name := "underWay", desc := "([I)I" } : Jvm.MethodName)) ∈ UW := UW_in 472 rfl rfl
set_option maxRecDepth 100000 in
theorem uw_473 : (Jvm.Cond.selects "VillageCuts$Land" ({ cls := "VillageCuts$Land", name := "underWay", desc := "([I)I" } : Jvm.MethodName) ({ cls := "VillageCuts$Land", name := "underWay", desc := "([I)I" } : Jvm.MethodName)) ∈ UW := UW_in 473 rfl rfl
set_option maxRecDepth 100000 in
theorem uw_475 : (Jvm.Cond.methodLink "VillageCuts$Land" (127 : Nat) ({ cls := "VillageCuts$Letter", name := "isGotIn", desc := "([I)Z" } : Jvm.MethodName)) ∈ UW := UW_in 475 rfl rfl
set_option maxRecDepth 100000 in
theorem uw_476 : (Jvm.Cond.instanceMethod ({ cls := "VillageCuts$Letter", name := "isGotIn", desc := "([I)Z" } : Jvm.MethodName)) ∈ UW := UW_in 476 rfl rfl
set_option maxRecDepth 100000 in
theorem uw_477 : (Jvm.Cond.selects "VillageCuts$Letter" ({ cls := "VillageCuts$Letter", name := "isGotIn", desc := "([I)Z" } : Jvm.MethodName) ({ cls := "VillageCuts$Letter", name := "isGotIn", desc := "([I)Z" } : Jvm.MethodName)) ∈ UW := UW_in 477 rfl rfl
set_option maxRecDepth 100000 in
theorem uw_479 : (Jvm.Cond.methodLink "VillageCuts" (181 : Nat) ({ cls := "VillageCuts$Land", name := "close", desc := "([I[I)V" } : Jvm.MethodName)) ∈ UW := UW_in 479 rfl rfl
set_option maxRecDepth 100000 in
theorem uw_480 : (Jvm.Cond.instanceMethod ({ cls := "VillageCuts$Land", name := "close", desc := "([I[I)V" } : Jvm.MethodName)) ∈ UW := UW_in 480 rfl rfl
set_option maxRecDepth 100000 in
theorem uw_481 : (Jvm.Cond.selects "VillageCuts$Land" ({ cls := "VillageCuts$Land", name := "close", desc := "([I[I)V" } : Jvm.MethodName) ({ cls := "VillageCuts$Land", name := "close", desc := "([I[I)V" } : Jvm.MethodName)) ∈ UW := UW_in 481 rfl rfl
set_option maxRecDepth 100000 in
theorem uw_483 : (Jvm.Cond.methodLink "VillageCuts" (185 : Nat) ({ cls := "VillageCuts", name := "countOf", desc := "([II)I" } : Jvm.MethodName)) ∈ UW := UW_in 483 rfl rfl
set_option maxRecDepth 100000 in
theorem uw_485 : (Jvm.Cond.instanceMethod ({ cls := "VillageCuts", name := "countOf", desc := "([II)I" } : Jvm.MethodName)) ∈ UW := UW_in 485 rfl rfl
set_option maxRecDepth 100000 in
theorem uw_491 : (Jvm.Cond.methodLink "VillageCuts" (189 : Nat) ({ cls := "VillageCuts$Land", name := "thatGoOn", desc := "([I)I" } : Jvm.MethodName)) ∈ UW := UW_in 491 rfl rfl
set_option maxRecDepth 100000 in
theorem uw_492 : (Jvm.Cond.instanceMethod ({ cls := "VillageCuts$Land", name := "thatGoOn", desc := "([I)I" } : Jvm.MethodName)) ∈ UW := UW_in 492 rfl rfl
set_option maxRecDepth 100000 in
theorem uw_493 : (Jvm.Cond.selects "VillageCuts$Land" ({ cls := "VillageCuts$Land", name := "thatGoOn", desc := "([I)I" } : Jvm.MethodName) ({ cls := "VillageCuts$Land", name := "thatGoOn", desc := "([I)I" } : Jvm.MethodName)) ∈ UW := UW_in 493 rfl rfl
set_option maxRecDepth 100000 in
theorem uw_499 : (Jvm.Cond.methodLink "VillageCuts" (195 : Nat) ({ cls := "VillageCuts", name := "endOfTale", desc := "(LVillageCuts$Sheet;III)I" } : Jvm.MethodName)) ∈ UW := UW_in 499 rfl rfl
set_option maxRecDepth 100000 in
theorem uw_501 : (Jvm.Cond.instanceMethod ({ cls := "VillageCuts", name := "endOfTale", desc := "(LVillageCuts$Sheet;III)I" } : Jvm.MethodName)) ∈ UW := UW_in 501 rfl rfl
set_option maxRecDepth 100000 in
theorem uw_503 : (Jvm.Cond.methodLink "VillageCuts" (225 : Nat) ({ cls := "java/lang/System", name := "arraycopy", desc := "(Ljava/lang/Object;ILjava/lang/Object;II)V" } : Jvm.MethodName)) ∈ UW := UW_in 503 rfl rfl
set_option maxRecDepth 100000 in
theorem uw_504 : (Jvm.Cond.methodLink "VillageCuts" (275 : Nat) ({ cls := "java/lang/Math", name := "max", desc := "(II)I" } : Jvm.MethodName)) ∈ UW := UW_in 504 rfl rfl
set_option maxRecDepth 100000 in
theorem uw_509 : (Jvm.Cond.methodLink "VillageCuts" (199 : Nat) ({ cls := "VillageCuts", name := "surveyed", desc := "()LVillageCuts$Survey;" } : Jvm.MethodName)) ∈ UW := UW_in 509 rfl rfl
set_option maxRecDepth 100000 in
theorem uw_511 : (Jvm.Cond.instanceMethod ({ cls := "VillageCuts", name := "surveyed", desc := "()LVillageCuts$Survey;" } : Jvm.MethodName)) ∈ UW := UW_in 511 rfl rfl
set_option maxRecDepth 100000 in
theorem uw_513 : (Jvm.Cond.methodLink "VillageCuts" (280 : Nat) ({ cls := "VillageCuts$Survey", name := "walk", desc := "(LVillageCuts$Land;)V" } : Jvm.MethodName)) ∈ UW := UW_in 513 rfl rfl
set_option maxRecDepth 100000 in
theorem uw_514 : (Jvm.Cond.instanceMethod ({ cls := "VillageCuts$Survey", name := "walk", desc := "(LVillageCuts$Land;)V" } : Jvm.MethodName)) ∈ UW := UW_in 514 rfl rfl
set_option maxRecDepth 100000 in
theorem uw_515 : (Jvm.Cond.selects "VillageCuts$Survey" ({ cls := "VillageCuts$Survey", name := "walk", desc := "(LVillageCuts$Land;)V" } : Jvm.MethodName) ({ cls := "VillageCuts$Survey", name := "walk", desc := "(LVillageCuts$Land;)V" } : Jvm.MethodName)) ∈ UW := UW_in 515 rfl rfl
set_option maxRecDepth 100000 in
theorem uw_517 : (Jvm.Cond.methodLink "VillageCuts$Survey" (39 : Nat) ({ cls := "VillageCuts$Survey", name := "measure", desc := "(LVillageCuts$Land;)V" } : Jvm.MethodName)) ∈ UW := UW_in 517 rfl rfl
set_option maxRecDepth 100000 in
theorem uw_519 : (Jvm.Cond.instanceMethod ({ cls := "VillageCuts$Survey", name := "measure", desc := "(LVillageCuts$Land;)V" } : Jvm.MethodName)) ∈ UW := UW_in 519 rfl rfl
set_option maxRecDepth 100000 in
theorem uw_521 : (Jvm.Cond.methodLink "VillageCuts$Survey" (85 : Nat) ({ cls := "java/lang/Math", name := "min", desc := "(II)I" } : Jvm.MethodName)) ∈ UW := UW_in 521 rfl rfl
set_option maxRecDepth 100000 in
theorem uw_522 : (Jvm.Cond.methodLink "VillageCuts$Survey" (43 : Nat) ({ cls := "java/util/Arrays", name := "fill", desc := "([JJ)V" } : Jvm.MethodName)) ∈ UW := UW_in 522 rfl rfl
set_option maxRecDepth 100000 in
theorem uw_523 : (Jvm.Cond.static ({ cls := "java/util/Arrays", name := "fill", desc := "([JJ)V" } : Jvm.MethodName)) ∈ UW := UW_in 523 rfl rfl
set_option maxRecDepth 100000 in
theorem uw_525 : (Jvm.Cond.methodLink "VillageCuts$Survey" (49 : Nat) ({ cls := "java/util/Arrays", name := "fill", desc := "([II)V" } : Jvm.MethodName)) ∈ UW := UW_in 525 rfl rfl
set_option maxRecDepth 100000 in
theorem uw_526 : (Jvm.Cond.methodLink "VillageCuts$Survey" (52 : Nat) ({ cls := "VillageCuts$Land", name := "sumOf", desc := "([I)I" } : Jvm.MethodName)) ∈ UW := UW_in 526 rfl rfl
set_option maxRecDepth 100000 in
theorem uw_527 : (Jvm.Cond.methodLink "VillageCuts$Survey" (58 : Nat) ({ cls := "VillageCuts$Land", name := "thingsIn", desc := "([I)I" } : Jvm.MethodName)) ∈ UW := UW_in 527 rfl rfl
set_option maxRecDepth 100000 in
theorem uw_528 : (Jvm.Cond.methodLink "VillageCuts$Survey" (61 : Nat) ({ cls := "VillageCuts$Land", name := "thatGoOn", desc := "([I)I" } : Jvm.MethodName)) ∈ UW := UW_in 528 rfl rfl
set_option maxRecDepth 100000 in
theorem uw_529 : (Jvm.Cond.methodLink "VillageCuts$Survey" (64 : Nat) ({ cls := "VillageCuts$Survey", name := "passWays", desc := "(I)V" } : Jvm.MethodName)) ∈ UW := UW_in 529 rfl rfl
set_option maxRecDepth 100000 in
theorem uw_531 : (Jvm.Cond.instanceMethod ({ cls := "VillageCuts$Survey", name := "passWays", desc := "(I)V" } : Jvm.MethodName)) ∈ UW := UW_in 531 rfl rfl
set_option maxRecDepth 100000 in
theorem uw_533 : (Jvm.Cond.methodLink "VillageCuts$Survey" (91 : Nat) ({ cls := "VillageCuts$Survey", name := "goesOnward", desc := "(II)Z" } : Jvm.MethodName)) ∈ UW := UW_in 533 rfl rfl
set_option maxRecDepth 100000 in
theorem uw_535 : (Jvm.Cond.instanceMethod ({ cls := "VillageCuts$Survey", name := "goesOnward", desc := "(II)Z" } : Jvm.MethodName)) ∈ UW := UW_in 535 rfl rfl
set_option maxRecDepth 100000 in
theorem uw_537 : (Jvm.Cond.methodLink "VillageCuts$Survey" (68 : Nat) ({ cls := "VillageCuts$Survey", name := "turn", desc := "(LVillageCuts$Land;)V" } : Jvm.MethodName)) ∈ UW := UW_in 537 rfl rfl
set_option maxRecDepth 100000 in
theorem uw_539 : (Jvm.Cond.instanceMethod ({ cls := "VillageCuts$Survey", name := "turn", desc := "(LVillageCuts$Land;)V" } : Jvm.MethodName)) ∈ UW := UW_in 539 rfl rfl
set_option maxRecDepth 100000 in
theorem uw_541 : (Jvm.Cond.methodLink "VillageCuts" (203 : Nat) ({ cls := "VillageCuts$Survey", name := "cutsFrom", desc := "(I)I" } : Jvm.MethodName)) ∈ UW := UW_in 541 rfl rfl
set_option maxRecDepth 100000 in
theorem uw_542 : (Jvm.Cond.instanceMethod ({ cls := "VillageCuts$Survey", name := "cutsFrom", desc := "(I)I" } : Jvm.MethodName)) ∈ UW := UW_in 542 rfl rfl
set_option maxRecDepth 100000 in
theorem uw_543 : (Jvm.Cond.selects "VillageCuts$Survey" ({ cls := "VillageCuts$Survey", name := "cutsFrom", desc := "(I)I" } : Jvm.MethodName) ({ cls := "VillageCuts$Survey", name := "cutsFrom", desc := "(I)I" } : Jvm.MethodName)) ∈ UW := UW_in 543 rfl rfl
set_option maxRecDepth 100000 in
theorem uw_549 : (Jvm.Cond.constantLong "VillageCuts" (206 : Nat) (-9223372036854775808 : Int64)) ∈ UW := UW_in 549 rfl rfl
set_option maxRecDepth 100000 in
theorem uw_550 : (Jvm.Cond.methodLink "VillageCuts" (208 : Nat) ({ cls := "VillageCuts$Survey", name := "runsInAll", desc := "()J" } : Jvm.MethodName)) ∈ UW := UW_in 550 rfl rfl
set_option maxRecDepth 100000 in
theorem uw_551 : (Jvm.Cond.instanceMethod ({ cls := "VillageCuts$Survey", name := "runsInAll", desc := "()J" } : Jvm.MethodName)) ∈ UW := UW_in 551 rfl rfl
set_option maxRecDepth 100000 in
theorem uw_552 : (Jvm.Cond.selects "VillageCuts$Survey" ({ cls := "VillageCuts$Survey", name := "runsInAll", desc := "()J" } : Jvm.MethodName) ({ cls := "VillageCuts$Survey", name := "runsInAll", desc := "()J" } : Jvm.MethodName)) ∈ UW := UW_in 552 rfl rfl
set_option maxRecDepth 100000 in
theorem uw_562 : (Jvm.Cond.methodLink "VillageCuts" (216 : Nat) ({ cls := "VillageCuts", name := "isSum", desc := "(I)Z" } : Jvm.MethodName)) ∈ UW := UW_in 562 rfl rfl
set_option maxRecDepth 100000 in
theorem uw_563 : (Jvm.Cond.static ({ cls := "VillageCuts", name := "isSum", desc := "(I)Z" } : Jvm.MethodName)) ∈ UW := UW_in 563 rfl rfl
set_option maxRecDepth 100000 in
theorem uw_565 : (Jvm.Cond.methodLink "VillageCuts" (219 : Nat) ({ cls := "VillageCuts$Survey", name := "fewestOf", desc := "(I)I" } : Jvm.MethodName)) ∈ UW := UW_in 565 rfl rfl
set_option maxRecDepth 100000 in
theorem uw_566 : (Jvm.Cond.instanceMethod ({ cls := "VillageCuts$Survey", name := "fewestOf", desc := "(I)I" } : Jvm.MethodName)) ∈ UW := UW_in 566 rfl rfl
set_option maxRecDepth 100000 in
theorem uw_567 : (Jvm.Cond.selects "VillageCuts$Survey" ({ cls := "VillageCuts$Survey", name := "fewestOf", desc := "(I)I" } : Jvm.MethodName) ({ cls := "VillageCuts$Survey", name := "fewestOf", desc := "(I)I" } : Jvm.MethodName)) ∈ UW := UW_in 567 rfl rfl
set_option maxRecDepth 100000 in
theorem uw_573 : (Jvm.Cond.methodLink "VillageCuts" (222 : Nat) ({ cls := "VillageCuts$Survey", name := "canGoAround", desc := "(I)Z" } : Jvm.MethodName)) ∈ UW := UW_in 573 rfl rfl
set_option maxRecDepth 100000 in
theorem uw_574 : (Jvm.Cond.instanceMethod ({ cls := "VillageCuts$Survey", name := "canGoAround", desc := "(I)Z" } : Jvm.MethodName)) ∈ UW := UW_in 574 rfl rfl
set_option maxRecDepth 100000 in
theorem uw_575 : (Jvm.Cond.selects "VillageCuts$Survey" ({ cls := "VillageCuts$Survey", name := "canGoAround", desc := "(I)Z" } : Jvm.MethodName) ({ cls := "VillageCuts$Survey", name := "canGoAround", desc := "(I)Z" } : Jvm.MethodName)) ∈ UW := UW_in 575 rfl rfl
set_option maxRecDepth 100000 in
theorem uw_577 : (Jvm.Cond.methodLink "VillageCuts$Survey" (95 : Nat) ({ cls := "VillageCuts$Survey", name := "passAround", desc := "(II)V" } : Jvm.MethodName)) ∈ UW := UW_in 577 rfl rfl
set_option maxRecDepth 100000 in
theorem uw_579 : (Jvm.Cond.instanceMethod ({ cls := "VillageCuts$Survey", name := "passAround", desc := "(II)V" } : Jvm.MethodName)) ∈ UW := UW_in 579 rfl rfl
set_option maxRecDepth 100000 in
theorem uw_593 : (Jvm.Cond.methodLink "VillageCuts" (231 : Nat) ({ cls := "VillageCuts", name := "areReadingsSo", desc := "(II)Z" } : Jvm.MethodName)) ∈ UW := UW_in 593 rfl rfl
set_option maxRecDepth 100000 in
theorem uw_595 : (Jvm.Cond.instanceMethod ({ cls := "VillageCuts", name := "areReadingsSo", desc := "(II)Z" } : Jvm.MethodName)) ∈ UW := UW_in 595 rfl rfl
set_option maxRecDepth 100000 in
theorem uw_597 : (Jvm.Cond.methodLink "VillageCuts" (284 : Nat) ({ cls := "VillageCuts$Plain", name := "worthAs", desc := "(II)I" } : Jvm.MethodName)) ∈ UW := UW_in 597 rfl rfl
set_option maxRecDepth 100000 in
theorem uw_602 : (Jvm.Cond.methodLink "VillageCuts" (234 : Nat) ({ cls := "VillageCuts", name := "commonDivisor", desc := "(II)I" } : Jvm.MethodName)) ∈ UW := UW_in 602 rfl rfl
set_option maxRecDepth 100000 in
theorem uw_603 : (Jvm.Cond.static ({ cls := "VillageCuts", name := "commonDivisor", desc := "(II)I" } : Jvm.MethodName)) ∈ UW := UW_in 603 rfl rfl
set_option maxRecDepth 100000 in
theorem uw_609 : (Jvm.Cond.methodLink "VillageCuts" (238 : Nat) ({ cls := "VillageCuts$Sheet", name := "renew", desc := "(II)V" } : Jvm.MethodName)) ∈ UW := UW_in 609 rfl rfl
set_option maxRecDepth 100000 in
theorem uw_610 : (Jvm.Cond.instanceMethod ({ cls := "VillageCuts$Sheet", name := "renew", desc := "(II)V" } : Jvm.MethodName)) ∈ UW := UW_in 610 rfl rfl
set_option maxRecDepth 100000 in
theorem uw_611 : (Jvm.Cond.selects "VillageCuts$Sheet" ({ cls := "VillageCuts$Sheet", name := "renew", desc := "(II)V" } : Jvm.MethodName) ({ cls := "VillageCuts$Sheet", name := "renew", desc := "(II)V" } : Jvm.MethodName)) ∈ UW := UW_in 611 rfl rfl
set_option maxRecDepth 100000 in
theorem uw_613 : (Jvm.Cond.methodLink "VillageCuts$Sheet" (15 : Nat) ({ cls := "java/util/Arrays", name := "fill", desc := "([II)V" } : Jvm.MethodName)) ∈ UW := UW_in 613 rfl rfl
set_option maxRecDepth 100000 in
theorem uw_622 : (Jvm.Cond.methodLink "VillageCuts" (245 : Nat) ({ cls := "VillageCuts$Sheet", name := "hasCells", desc := "(II)Z" } : Jvm.MethodName)) ∈ UW := UW_in 622 rfl rfl
set_option maxRecDepth 100000 in
theorem uw_623 : (Jvm.Cond.methodLink "VillageCuts" (248 : Nat) ({ cls := "VillageCuts$Sheet", name := "write", desc := "(II)V" } : Jvm.MethodName)) ∈ UW := UW_in 623 rfl rfl
set_option maxRecDepth 100000 in
theorem uw_624 : (Jvm.Cond.instanceMethod ({ cls := "VillageCuts$Sheet", name := "write", desc := "(II)V" } : Jvm.MethodName)) ∈ UW := UW_in 624 rfl rfl
set_option maxRecDepth 100000 in
theorem uw_625 : (Jvm.Cond.selects "VillageCuts$Sheet" ({ cls := "VillageCuts$Sheet", name := "write", desc := "(II)V" } : Jvm.MethodName) ({ cls := "VillageCuts$Sheet", name := "write", desc := "(II)V" } : Jvm.MethodName)) ∈ UW := UW_in 625 rfl rfl
set_option maxRecDepth 100000 in
theorem uw_639 : (Jvm.Cond.methodLink "VillageCuts" (254 : Nat) ({ cls := "VillageCuts$Plain", name := "toldOf", desc := "(LVillageCuts$Trace;I)I" } : Jvm.MethodName)) ∈ UW := UW_in 639 rfl rfl
set_option maxRecDepth 100000 in
theorem uw_640 : (Jvm.Cond.instanceMethod ({ cls := "VillageCuts$Plain", name := "toldOf", desc := "(LVillageCuts$Trace;I)I" } : Jvm.MethodName)) ∈ UW := UW_in 640 rfl rfl
set_option maxRecDepth 100000 in
theorem uw_641 : (Jvm.Cond.selects "VillageCuts$Plain" ({ cls := "VillageCuts$Plain", name := "toldOf", desc := "(LVillageCuts$Trace;I)I" } : Jvm.MethodName) ({ cls := "VillageCuts$Plain", name := "toldOf", desc := "(LVillageCuts$Trace;I)I" } : Jvm.MethodName)) ∈ UW := UW_in 641 rfl rfl
set_option maxRecDepth 100000 in
theorem uw_642 : (Jvm.Cond.sameMethod "VillageCuts$Plain" "VillageCuts$Plain" "toldOf" "(LVillageCuts$Trace;I)I") ∈ UW := UW_in 642 rfl rfl
set_option maxRecDepth 100000 in
theorem uw_643 : (Jvm.Cond.selects "VillageCuts$Broad" ({ cls := "VillageCuts$Plain", name := "toldOf", desc := "(LVillageCuts$Trace;I)I" } : Jvm.MethodName) ({ cls := "VillageCuts$Broad", name := "toldOf", desc := "(LVillageCuts$Trace;I)I" } : Jvm.MethodName)) ∈ UW := UW_in 643 rfl rfl
set_option maxRecDepth 100000 in
theorem uw_644 : (Jvm.Cond.instanceMethod ({ cls := "VillageCuts$Broad", name := "toldOf", desc := "(LVillageCuts$Trace;I)I" } : Jvm.MethodName)) ∈ UW := UW_in 644 rfl rfl
set_option maxRecDepth 100000 in
theorem uw_646 : (Jvm.Cond.methodLink "VillageCuts$Broad" (7 : Nat) ({ cls := "VillageCuts$Trace", name := "leave", desc := "(I)V" } : Jvm.MethodName)) ∈ UW := UW_in 646 rfl rfl
set_option maxRecDepth 100000 in
theorem uw_647 : (Jvm.Cond.instanceMethod ({ cls := "VillageCuts$Trace", name := "leave", desc := "(I)V" } : Jvm.MethodName)) ∈ UW := UW_in 647 rfl rfl
set_option maxRecDepth 100000 in
theorem uw_648 : (Jvm.Cond.selects "VillageCuts$Trace" ({ cls := "VillageCuts$Trace", name := "leave", desc := "(I)V" } : Jvm.MethodName) ({ cls := "VillageCuts$Trace", name := "leave", desc := "(I)V" } : Jvm.MethodName)) ∈ UW := UW_in 648 rfl rfl
set_option maxRecDepth 100000 in
theorem uw_650 : (Jvm.Cond.methodLink "VillageCuts$Broad" (12 : Nat) ({ cls := "VillageCuts$Plain", name := "toldOf", desc := "(LVillageCuts$Trace;I)I" } : Jvm.MethodName)) ∈ UW := UW_in 650 rfl rfl
set_option maxRecDepth 100000 in
theorem uw_651 : (Jvm.Cond.selects "VillageCuts$Doubled" ({ cls := "VillageCuts$Plain", name := "toldOf", desc := "(LVillageCuts$Trace;I)I" } : Jvm.MethodName) ({ cls := "VillageCuts$Doubled", name := "toldOf", desc := "(LVillageCuts$Trace;I)I" } : Jvm.MethodName)) ∈ UW := UW_in 651 rfl rfl
set_option maxRecDepth 100000 in
theorem uw_652 : (Jvm.Cond.instanceMethod ({ cls := "VillageCuts$Doubled", name := "toldOf", desc := "(LVillageCuts$Trace;I)I" } : Jvm.MethodName)) ∈ UW := UW_in 652 rfl rfl
set_option maxRecDepth 100000 in
theorem uw_654 : (Jvm.Cond.methodLink "VillageCuts$Doubled" (9 : Nat) ({ cls := "VillageCuts$Trace", name := "leave", desc := "(I)V" } : Jvm.MethodName)) ∈ UW := UW_in 654 rfl rfl
set_option maxRecDepth 100000 in
theorem uw_655 : (Jvm.Cond.methodLink "VillageCuts$Doubled" (14 : Nat) ({ cls := "VillageCuts$Broad", name := "toldOf", desc := "(LVillageCuts$Trace;I)I" } : Jvm.MethodName)) ∈ UW := UW_in 655 rfl rfl
set_option maxRecDepth 100000 in
theorem uw_656 : (Jvm.Cond.methodLink "VillageCuts$Doubled" (18 : Nat) ({ cls := "VillageCuts$Doubled", name := "toldPlainly", desc := "(LVillageCuts$Trace;I)I" } : Jvm.MethodName)) ∈ UW := UW_in 656 rfl rfl
set_option maxRecDepth 100000 in
theorem uw_657 : (Jvm.Cond.sameMethod "VillageCuts$Doubled" "VillageCuts$Plain" "toldPlainly" "(LVillageCuts$Trace;I)I") ∈ UW := UW_in 657 rfl rfl
set_option maxRecDepth 100000 in
theorem uw_659 : (Jvm.Cond.selects "VillageCuts$Doubled" ({ cls := "VillageCuts$Doubled", name := "toldPlainly", desc := "(LVillageCuts$Trace;I)I" } : Jvm.MethodName) ({ cls := "VillageCuts$Plain", name := "toldPlainly", desc := "(LVillageCuts$Trace;I)I" } : Jvm.MethodName)) ∈ UW := UW_in 659 rfl rfl
set_option maxRecDepth 100000 in
theorem uw_660 : (Jvm.Cond.instanceMethod ({ cls := "VillageCuts$Plain", name := "toldPlainly", desc := "(LVillageCuts$Trace;I)I" } : Jvm.MethodName)) ∈ UW := UW_in 660 rfl rfl
set_option maxRecDepth 100000 in
theorem uw_662 : (Jvm.Cond.methodLink "VillageCuts$Plain" (49 : Nat) ({ cls := "VillageCuts$Trace", name := "leave", desc := "(I)V" } : Jvm.MethodName)) ∈ UW := UW_in 662 rfl rfl
set_option maxRecDepth 100000 in
theorem uw_663 : (Jvm.Cond.code ({ cls := "VillageCuts$Plain", name := "toldOf", desc := "(LVillageCuts$Trace;I)I" } : Jvm.MethodName) prog_6_method_8_code (3 : Nat) (Option.some Jvm.ClassFile.FieldType.int)) ∈ UW := UW_in 663 rfl rfl
set_option maxRecDepth 100000 in
theorem uw_664 : (Jvm.Cond.methodLink "VillageCuts$Plain" (55 : Nat) ({ cls := "VillageCuts$Plain", name := "toldPlainly", desc := "(LVillageCuts$Trace;I)I" } : Jvm.MethodName)) ∈ UW := UW_in 664 rfl rfl
set_option maxRecDepth 100000 in
theorem uw_669 : (Jvm.Cond.methodLink "VillageCuts" (258 : Nat) ({ cls := "VillageCuts$Plain", name := "rungAt", desc := "(LVillageCuts$Trace;I)I" } : Jvm.MethodName)) ∈ UW := UW_in 669 rfl rfl
set_option maxRecDepth 100000 in
theorem uw_670 : (Jvm.Cond.instanceMethod ({ cls := "VillageCuts$Plain", name := "rungAt", desc := "(LVillageCuts$Trace;I)I" } : Jvm.MethodName)) ∈ UW := UW_in 670 rfl rfl
set_option maxRecDepth 100000 in
theorem uw_671 : (Jvm.Cond.selects "VillageCuts$Plain" ({ cls := "VillageCuts$Plain", name := "rungAt", desc := "(LVillageCuts$Trace;I)I" } : Jvm.MethodName) ({ cls := "VillageCuts$Plain", name := "rungAt", desc := "(LVillageCuts$Trace;I)I" } : Jvm.MethodName)) ∈ UW := UW_in 671 rfl rfl
set_option maxRecDepth 100000 in
theorem uw_672 : (Jvm.Cond.sameMethod "VillageCuts$Plain" "VillageCuts$Plain" "rungAt" "(LVillageCuts$Trace;I)I") ∈ UW := UW_in 672 rfl rfl
set_option maxRecDepth 100000 in
theorem uw_673 : (Jvm.Cond.selects "VillageCuts$Broad" ({ cls := "VillageCuts$Plain", name := "rungAt", desc := "(LVillageCuts$Trace;I)I" } : Jvm.MethodName) ({ cls := "VillageCuts$Plain", name := "rungAt", desc := "(LVillageCuts$Trace;I)I" } : Jvm.MethodName)) ∈ UW := UW_in 673 rfl rfl
set_option maxRecDepth 100000 in
theorem uw_674 : (Jvm.Cond.selects "VillageCuts$Doubled" ({ cls := "VillageCuts$Plain", name := "rungAt", desc := "(LVillageCuts$Trace;I)I" } : Jvm.MethodName) ({ cls := "VillageCuts$Doubled", name := "rungAt", desc := "(LVillageCuts$Trace;I)I" } : Jvm.MethodName)) ∈ UW := UW_in 674 rfl rfl
set_option maxRecDepth 100000 in
theorem uw_675 : (Jvm.Cond.instanceMethod ({ cls := "VillageCuts$Doubled", name := "rungAt", desc := "(LVillageCuts$Trace;I)I" } : Jvm.MethodName)) ∈ UW := UW_in 675 rfl rfl
set_option maxRecDepth 100000 in
theorem uw_677 : (Jvm.Cond.code ({ cls := "VillageCuts$Plain", name := "rungAt", desc := "(LVillageCuts$Trace;I)I" } : Jvm.MethodName) prog_6_method_9_code (3 : Nat) (Option.some Jvm.ClassFile.FieldType.int)) ∈ UW := UW_in 677 rfl rfl
set_option maxRecDepth 100000 in
theorem uw_682 : (Jvm.Cond.methodLink "VillageCuts" (261 : Nat) ({ cls := "VillageCuts", name := "isOfKind", desc := "(LVillageCuts$Plain;I)Z" } : Jvm.MethodName)) ∈ UW := UW_in 682 rfl rfl
set_option maxRecDepth 100000 in
theorem uw_683 : (Jvm.Cond.static ({ cls := "VillageCuts", name := "isOfKind", desc := "(LVillageCuts$Plain;I)Z" } : Jvm.MethodName)) ∈ UW := UW_in 683 rfl rfl
set_option maxRecDepth 100000 in
theorem uw_685 : (Jvm.Cond.classLink "VillageCuts" (271 : Nat) "VillageCuts$Doubled") ∈ UW := UW_in 685 rfl rfl
set_option maxRecDepth 100000 in
theorem uw_686 : (Jvm.Cond.classLink "VillageCuts" (273 : Nat) "VillageCuts$Broad") ∈ UW := UW_in 686 rfl rfl
set_option maxRecDepth 100000 in
theorem uw_699 : (Jvm.Cond.methodLink "VillageCuts" (268 : Nat) ({ cls := "VillageCuts$Land", name := "lettersSent", desc := "()I" } : Jvm.MethodName)) ∈ UW := UW_in 699 rfl rfl
set_option maxRecDepth 100000 in
theorem uw_700 : (Jvm.Cond.instanceMethod ({ cls := "VillageCuts$Land", name := "lettersSent", desc := "()I" } : Jvm.MethodName)) ∈ UW := UW_in 700 rfl rfl
set_option maxRecDepth 100000 in
theorem uw_701 : (Jvm.Cond.selects "VillageCuts$Land" ({ cls := "VillageCuts$Land", name := "lettersSent", desc := "()I" } : Jvm.MethodName) ({ cls := "VillageCuts$Land", name := "lettersSent", desc := "()I" } : Jvm.MethodName)) ∈ UW := UW_in 701 rfl rfl
set_option maxRecDepth 100000 in
theorem uw_708 : (Jvm.Cond.methodLink "VillageCutsModel" (1 : Nat) ({ cls := "java/lang/Object", name := "<init>", desc := "()V" } : Jvm.MethodName)) ∈ UW := UW_in 708 rfl rfl
set_option maxRecDepth 100000 in
theorem uw_709 : (Jvm.Cond.fieldLink "VillageCutsModel" (71 : Nat) "VillageCutsModel" "fault" "I") ∈ UW := UW_in 709 rfl rfl
set_option maxRecDepth 100000 in
theorem uw_710 : (Jvm.Cond.fieldLink "VillageCutsModel" (228 : Nat) "VillageCutsModel" "trace" "I") ∈ UW := UW_in 710 rfl rfl
set_option maxRecDepth 100000 in
theorem uw_711 : (Jvm.Cond.fieldLink "VillageCutsModel" (9 : Nat) "VillageCutsModel" "sorts" "[I") ∈ UW := UW_in 711 rfl rfl
set_option maxRecDepth 100000 in
theorem uw_712 : (Jvm.Cond.fieldLink "VillageCutsModel" (13 : Nat) "VillageCutsModel" "sheetLong" "[I") ∈ UW := UW_in 712 rfl rfl
set_option maxRecDepth 100000 in
theorem uw_713 : (Jvm.Cond.fieldLink "VillageCutsModel" (16 : Nat) "VillageCutsModel" "cells" "[I") ∈ UW := UW_in 713 rfl rfl
set_option maxRecDepth 100000 in
theorem uw_714 : (Jvm.Cond.fieldLink "VillageCutsModel" (81 : Nat) "VillageCutsModel" "villages" "I") ∈ UW := UW_in 714 rfl rfl
set_option maxRecDepth 100000 in
theorem uw_715 : (Jvm.Cond.fieldLink "VillageCutsModel" (19 : Nat) "VillageCutsModel" "kind" "[I") ∈ UW := UW_in 715 rfl rfl
set_option maxRecDepth 100000 in
theorem uw_716 : (Jvm.Cond.fieldLink "VillageCutsModel" (22 : Nat) "VillageCutsModel" "long1" "[I") ∈ UW := UW_in 716 rfl rfl
set_option maxRecDepth 100000 in
theorem uw_717 : (Jvm.Cond.fieldLink "VillageCutsModel" (25 : Nat) "VillageCutsModel" "what" "[I") ∈ UW := UW_in 717 rfl rfl
set_option maxRecDepth 100000 in
theorem uw_718 : (Jvm.Cond.fieldLink "VillageCutsModel" (28 : Nat) "VillageCutsModel" "figure" "[I") ∈ UW := UW_in 718 rfl rfl
set_option maxRecDepth 100000 in
theorem uw_719 : (Jvm.Cond.fieldLink "VillageCutsModel" (31 : Nat) "VillageCutsModel" "aheads" "[I") ∈ UW := UW_in 719 rfl rfl
set_option maxRecDepth 100000 in
theorem uw_720 : (Jvm.Cond.fieldLink "VillageCutsModel" (34 : Nat) "VillageCutsModel" "happened" "[I") ∈ UW := UW_in 720 rfl rfl
set_option maxRecDepth 100000 in
theorem uw_721 : (Jvm.Cond.fieldLink "VillageCutsModel" (88 : Nat) "VillageCutsModel" "at" "I") ∈ UW := UW_in 721 rfl rfl
set_option maxRecDepth 100000 in
theorem uw_722 : (Jvm.Cond.fieldLink "VillageCutsModel" (119 : Nat) "VillageCutsModel" "readVillages" "I") ∈ UW := UW_in 722 rfl rfl
set_option maxRecDepth 100000 in
theorem uw_723 : (Jvm.Cond.fieldLink "VillageCutsModel" (37 : Nat) "VillageCutsModel" "readKind" "[I") ∈ UW := UW_in 723 rfl rfl
set_option maxRecDepth 100000 in
theorem uw_724 : (Jvm.Cond.fieldLink "VillageCutsModel" (40 : Nat) "VillageCutsModel" "readLong" "[I") ∈ UW := UW_in 724 rfl rfl
set_option maxRecDepth 100000 in
theorem uw_725 : (Jvm.Cond.fieldLink "VillageCutsModel" (43 : Nat) "VillageCutsModel" "readWhat" "[I") ∈ UW := UW_in 725 rfl rfl
set_option maxRecDepth 100000 in
theorem uw_726 : (Jvm.Cond.fieldLink "VillageCutsModel" (46 : Nat) "VillageCutsModel" "readFigure" "[I") ∈ UW := UW_in 726 rfl rfl
set_option maxRecDepth 100000 in
theorem uw_727 : (Jvm.Cond.fieldLink "VillageCutsModel" (49 : Nat) "VillageCutsModel" "readAheads" "[I") ∈ UW := UW_in 727 rfl rfl
set_option maxRecDepth 100000 in
theorem uw_728 : (Jvm.Cond.fieldLink "VillageCutsModel" (52 : Nat) "VillageCutsModel" "sentBy" "[I") ∈ UW := UW_in 728 rfl rfl
set_option maxRecDepth 100000 in
theorem uw_729 : (Jvm.Cond.fieldLink "VillageCutsModel" (55 : Nat) "VillageCutsModel" "gotBy" "[I") ∈ UW := UW_in 729 rfl rfl
set_option maxRecDepth 100000 in
theorem uw_730 : (Jvm.Cond.fieldLink "VillageCutsModel" (58 : Nat) "VillageCutsModel" "cutOf" "[I") ∈ UW := UW_in 730 rfl rfl
set_option maxRecDepth 100000 in
theorem uw_731 : (Jvm.Cond.fieldLink "VillageCutsModel" (196 : Nat) "VillageCutsModel" "greatest" "I") ∈ UW := UW_in 731 rfl rfl
set_option maxRecDepth 100000 in
theorem uw_732 : (Jvm.Cond.fieldLink "VillageCutsModel" (61 : Nat) "VillageCutsModel" "ways" "[J") ∈ UW := UW_in 732 rfl rfl
set_option maxRecDepth 100000 in
theorem uw_733 : (Jvm.Cond.fieldLink "VillageCutsModel" (122 : Nat) "VillageCutsModel" "readings" "I") ∈ UW := UW_in 733 rfl rfl
set_option maxRecDepth 100000 in
theorem uw_734 : (Jvm.Cond.fieldLink "VillageCutsModel" (65 : Nat) "VillageCutsModel" "readCut" "[I") ∈ UW := UW_in 734 rfl rfl
set_option maxRecDepth 100000 in
theorem uw_735 : (Jvm.Cond.fieldLink "VillageCutsModel" (68 : Nat) "VillageCutsModel" "readSum" "[I") ∈ UW := UW_in 735 rfl rfl
set_option maxRecDepth 100000 in
theorem uw_795 : (Jvm.Cond.methodLink "VillageCutsModel" (91 : Nat) ({ cls := "VillageCutsModel", name := "isSheet", desc := "(I)Z" } : Jvm.MethodName)) ∈ UW := UW_in 795 rfl rfl
set_option maxRecDepth 100000 in
theorem uw_796 : (Jvm.Cond.static ({ cls := "VillageCutsModel", name := "isSheet", desc := "(I)Z" } : Jvm.MethodName)) ∈ UW := UW_in 796 rfl rfl
set_option maxRecDepth 100000 in
theorem uw_798 : (Jvm.Cond.methodLink "VillageCutsModel" (77 : Nat) ({ cls := "VillageCutsModel", name := "within", desc := "(III)Z" } : Jvm.MethodName)) ∈ UW := UW_in 798 rfl rfl
set_option maxRecDepth 100000 in
theorem uw_799 : (Jvm.Cond.static ({ cls := "VillageCutsModel", name := "within", desc := "(III)Z" } : Jvm.MethodName)) ∈ UW := UW_in 799 rfl rfl
set_option maxRecDepth 100000 in
theorem uw_801 : (Jvm.Cond.methodLink "VillageCutsModel" (94 : Nat) ({ cls := "VillageCutsModel", name := "isSort", desc := "(I)Z" } : Jvm.MethodName)) ∈ UW := UW_in 801 rfl rfl
set_option maxRecDepth 100000 in
theorem uw_802 : (Jvm.Cond.static ({ cls := "VillageCutsModel", name := "isSort", desc := "(I)Z" } : Jvm.MethodName)) ∈ UW := UW_in 802 rfl rfl
set_option maxRecDepth 100000 in
theorem uw_804 : (Jvm.Cond.methodLink "VillageCutsModel" (97 : Nat) ({ cls := "VillageCutsModel", name := "against", desc := "(IIII)I" } : Jvm.MethodName)) ∈ UW := UW_in 804 rfl rfl
set_option maxRecDepth 100000 in
theorem uw_806 : (Jvm.Cond.instanceMethod ({ cls := "VillageCutsModel", name := "against", desc := "(IIII)I" } : Jvm.MethodName)) ∈ UW := UW_in 806 rfl rfl
set_option maxRecDepth 100000 in
theorem uw_808 : (Jvm.Cond.methodLink "VillageCutsModel" (101 : Nat) ({ cls := "VillageCutsModel", name := "fails", desc := "(I)I" } : Jvm.MethodName)) ∈ UW := UW_in 808 rfl rfl
set_option maxRecDepth 100000 in
theorem uw_810 : (Jvm.Cond.instanceMethod ({ cls := "VillageCutsModel", name := "fails", desc := "(I)I" } : Jvm.MethodName)) ∈ UW := UW_in 810 rfl rfl
set_option maxRecDepth 100000 in
theorem uw_812 : (Jvm.Cond.methodLink "VillageCutsModel" (105 : Nat) ({ cls := "VillageCutsModel", name := "readLand", desc := "(I)Z" } : Jvm.MethodName)) ∈ UW := UW_in 812 rfl rfl
set_option maxRecDepth 100000 in
theorem uw_814 : (Jvm.Cond.instanceMethod ({ cls := "VillageCutsModel", name := "readLand", desc := "(I)Z" } : Jvm.MethodName)) ∈ UW := UW_in 814 rfl rfl
set_option maxRecDepth 100000 in
theorem uw_816 : (Jvm.Cond.methodLink "VillageCutsModel" (125 : Nat) ({ cls := "VillageCutsModel", name := "isSign", desc := "(II)Z" } : Jvm.MethodName)) ∈ UW := UW_in 816 rfl rfl
set_option maxRecDepth 100000 in
theorem uw_818 : (Jvm.Cond.instanceMethod ({ cls := "VillageCutsModel", name := "isSign", desc := "(II)Z" } : Jvm.MethodName)) ∈ UW := UW_in 818 rfl rfl
set_option maxRecDepth 100000 in
theorem uw_820 : (Jvm.Cond.methodLink "VillageCutsModel" (129 : Nat) ({ cls := "VillageCutsModel", name := "readVillage", desc := "(I)Z" } : Jvm.MethodName)) ∈ UW := UW_in 820 rfl rfl
set_option maxRecDepth 100000 in
theorem uw_822 : (Jvm.Cond.instanceMethod ({ cls := "VillageCutsModel", name := "readVillage", desc := "(I)Z" } : Jvm.MethodName)) ∈ UW := UW_in 822 rfl rfl
set_option maxRecDepth 100000 in
theorem uw_824 : (Jvm.Cond.methodLink "VillageCutsModel" (132 : Nat) ({ cls := "VillageCutsModel", name := "isThingNext", desc := "(I)Z" } : Jvm.MethodName)) ∈ UW := UW_in 824 rfl rfl
set_option maxRecDepth 100000 in
theorem uw_826 : (Jvm.Cond.instanceMethod ({ cls := "VillageCutsModel", name := "isThingNext", desc := "(I)Z" } : Jvm.MethodName)) ∈ UW := UW_in 826 rfl rfl
set_option maxRecDepth 100000 in
theorem uw_828 : (Jvm.Cond.methodLink "VillageCutsModel" (135 : Nat) ({ cls := "VillageCutsModel", name := "readThing", desc := "(I)Z" } : Jvm.MethodName)) ∈ UW := UW_in 828 rfl rfl
set_option maxRecDepth 100000 in
theorem uw_830 : (Jvm.Cond.instanceMethod ({ cls := "VillageCutsModel", name := "readThing", desc := "(I)Z" } : Jvm.MethodName)) ∈ UW := UW_in 830 rfl rfl
set_option maxRecDepth 100000 in
theorem uw_832 : (Jvm.Cond.methodLink "VillageCutsModel" (138 : Nat) ({ cls := "VillageCutsModel", name := "digit", desc := "(II)I" } : Jvm.MethodName)) ∈ UW := UW_in 832 rfl rfl
set_option maxRecDepth 100000 in
theorem uw_834 : (Jvm.Cond.instanceMethod ({ cls := "VillageCutsModel", name := "digit", desc := "(II)I" } : Jvm.MethodName)) ∈ UW := UW_in 834 rfl rfl
set_option maxRecDepth 100000 in
theorem uw_836 : (Jvm.Cond.methodLink "VillageCutsModel" (108 : Nat) ({ cls := "VillageCutsModel", name := "firstAmiss", desc := "()I" } : Jvm.MethodName)) ∈ UW := UW_in 836 rfl rfl
set_option maxRecDepth 100000 in
theorem uw_838 : (Jvm.Cond.instanceMethod ({ cls := "VillageCutsModel", name := "firstAmiss", desc := "()I" } : Jvm.MethodName)) ∈ UW := UW_in 838 rfl rfl
set_option maxRecDepth 100000 in
theorem uw_840 : (Jvm.Cond.methodLink "VillageCutsModel" (112 : Nat) ({ cls := "VillageCutsModel", name := "isCircle", desc := "()Z" } : Jvm.MethodName)) ∈ UW := UW_in 840 rfl rfl
set_option maxRecDepth 100000 in
theorem uw_842 : (Jvm.Cond.instanceMethod ({ cls := "VillageCutsModel", name := "isCircle", desc := "()Z" } : Jvm.MethodName)) ∈ UW := UW_in 842 rfl rfl
set_option maxRecDepth 100000 in
theorem uw_844 : (Jvm.Cond.methodLink "VillageCutsModel" (142 : Nat) ({ cls := "VillageCutsModel", name := "startAheads", desc := "(II)V" } : Jvm.MethodName)) ∈ UW := UW_in 844 rfl rfl
set_option maxRecDepth 100000 in
theorem uw_846 : (Jvm.Cond.instanceMethod ({ cls := "VillageCutsModel", name := "startAheads", desc := "(II)V" } : Jvm.MethodName)) ∈ UW := UW_in 846 rfl rfl
set_option maxRecDepth 100000 in
theorem uw_848 : (Jvm.Cond.methodLink "VillageCutsModel" (146 : Nat) ({ cls := "VillageCutsModel", name := "goesOn", desc := "()Z" } : Jvm.MethodName)) ∈ UW := UW_in 848 rfl rfl
set_option maxRecDepth 100000 in
theorem uw_850 : (Jvm.Cond.instanceMethod ({ cls := "VillageCutsModel", name := "goesOn", desc := "()Z" } : Jvm.MethodName)) ∈ UW := UW_in 850 rfl rfl
set_option maxRecDepth 100000 in
theorem uw_852 : (Jvm.Cond.methodLink "VillageCutsModel" (149 : Nat) ({ cls := "VillageCutsModel", name := "takesFromAheads", desc := "(I)Z" } : Jvm.MethodName)) ∈ UW := UW_in 852 rfl rfl
set_option maxRecDepth 100000 in
theorem uw_854 : (Jvm.Cond.instanceMethod ({ cls := "VillageCutsModel", name := "takesFromAheads", desc := "(I)Z" } : Jvm.MethodName)) ∈ UW := UW_in 854 rfl rfl
set_option maxRecDepth 100000 in
theorem uw_856 : (Jvm.Cond.methodLink "VillageCutsModel" (116 : Nat) ({ cls := "VillageCutsModel", name := "takeLand", desc := "()V" } : Jvm.MethodName)) ∈ UW := UW_in 856 rfl rfl
set_option maxRecDepth 100000 in
theorem uw_858 : (Jvm.Cond.instanceMethod ({ cls := "VillageCutsModel", name := "takeLand", desc := "()V" } : Jvm.MethodName)) ∈ UW := UW_in 858 rfl rfl
set_option maxRecDepth 100000 in
theorem uw_864 : (Jvm.Cond.methodLink "VillageCutsModel" (84 : Nat) ({ cls := "VillageCutsModel", name := "isVillage", desc := "(I)Z" } : Jvm.MethodName)) ∈ UW := UW_in 864 rfl rfl
set_option maxRecDepth 100000 in
theorem uw_866 : (Jvm.Cond.instanceMethod ({ cls := "VillageCutsModel", name := "isVillage", desc := "(I)Z" } : Jvm.MethodName)) ∈ UW := UW_in 866 rfl rfl
set_option maxRecDepth 100000 in
theorem uw_868 : (Jvm.Cond.methodLink "VillageCutsModel" (165 : Nat) ({ cls := "VillageCutsModel", name := "takeNow", desc := "()V" } : Jvm.MethodName)) ∈ UW := UW_in 868 rfl rfl
set_option maxRecDepth 100000 in
theorem uw_870 : (Jvm.Cond.instanceMethod ({ cls := "VillageCutsModel", name := "takeNow", desc := "()V" } : Jvm.MethodName)) ∈ UW := UW_in 870 rfl rfl
set_option maxRecDepth 100000 in
theorem uw_872 : (Jvm.Cond.methodLink "VillageCutsModel" (152 : Nat) ({ cls := "VillageCutsModel", name := "valueOf", desc := "(I)I" } : Jvm.MethodName)) ∈ UW := UW_in 872 rfl rfl
set_option maxRecDepth 100000 in
theorem uw_874 : (Jvm.Cond.instanceMethod ({ cls := "VillageCutsModel", name := "valueOf", desc := "(I)I" } : Jvm.MethodName)) ∈ UW := UW_in 874 rfl rfl
set_option maxRecDepth 100000 in
theorem uw_876 : (Jvm.Cond.methodLink "VillageCutsModel" (155 : Nat) ({ cls := "VillageCutsModel", name := "worthOf", desc := "(I)I" } : Jvm.MethodName)) ∈ UW := UW_in 876 rfl rfl
set_option maxRecDepth 100000 in
theorem uw_878 : (Jvm.Cond.instanceMethod ({ cls := "VillageCutsModel", name := "worthOf", desc := "(I)I" } : Jvm.MethodName)) ∈ UW := UW_in 878 rfl rfl
set_option maxRecDepth 100000 in
theorem uw_880 : (Jvm.Cond.methodLink "VillageCutsModel" (168 : Nat) ({ cls := "VillageCutsModel", name := "isReady", desc := "(I)Z" } : Jvm.MethodName)) ∈ UW := UW_in 880 rfl rfl
set_option maxRecDepth 100000 in
theorem uw_882 : (Jvm.Cond.instanceMethod ({ cls := "VillageCutsModel", name := "isReady", desc := "(I)Z" } : Jvm.MethodName)) ∈ UW := UW_in 882 rfl rfl
set_option maxRecDepth 100000 in
theorem uw_884 : (Jvm.Cond.methodLink "VillageCutsModel" (161 : Nat) ({ cls := "VillageCutsModel", name := "aheadOf", desc := "(III)I" } : Jvm.MethodName)) ∈ UW := UW_in 884 rfl rfl
set_option maxRecDepth 100000 in
theorem uw_886 : (Jvm.Cond.instanceMethod ({ cls := "VillageCutsModel", name := "aheadOf", desc := "(III)I" } : Jvm.MethodName)) ∈ UW := UW_in 886 rfl rfl
set_option maxRecDepth 100000 in
theorem uw_892 : (Jvm.Cond.methodLink "VillageCutsModel" (171 : Nat) ({ cls := "VillageCutsModel", name := "isThing", desc := "(II)Z" } : Jvm.MethodName)) ∈ UW := UW_in 892 rfl rfl
set_option maxRecDepth 100000 in
theorem uw_894 : (Jvm.Cond.instanceMethod ({ cls := "VillageCutsModel", name := "isThing", desc := "(II)Z" } : Jvm.MethodName)) ∈ UW := UW_in 894 rfl rfl
set_option maxRecDepth 100000 in
theorem uw_908 : (Jvm.Cond.methodLink "VillageCutsModel" (174 : Nat) ({ cls := "VillageCutsModel", name := "inCut", desc := "()I" } : Jvm.MethodName)) ∈ UW := UW_in 908 rfl rfl
set_option maxRecDepth 100000 in
theorem uw_910 : (Jvm.Cond.instanceMethod ({ cls := "VillageCutsModel", name := "inCut", desc := "()I" } : Jvm.MethodName)) ∈ UW := UW_in 910 rfl rfl
set_option maxRecDepth 100000 in
theorem uw_916 : (Jvm.Cond.methodLink "VillageCutsModel" (177 : Nat) ({ cls := "VillageCutsModel", name := "refusesCells", desc := "(I)I" } : Jvm.MethodName)) ∈ UW := UW_in 916 rfl rfl
set_option maxRecDepth 100000 in
theorem uw_918 : (Jvm.Cond.instanceMethod ({ cls := "VillageCutsModel", name := "refusesCells", desc := "(I)I" } : Jvm.MethodName)) ∈ UW := UW_in 918 rfl rfl
set_option maxRecDepth 100000 in
theorem uw_920 : (Jvm.Cond.methodLink "VillageCutsModel" (180 : Nat) ({ cls := "VillageCutsModel", name := "takeCells", desc := "(I)V" } : Jvm.MethodName)) ∈ UW := UW_in 920 rfl rfl
set_option maxRecDepth 100000 in
theorem uw_922 : (Jvm.Cond.instanceMethod ({ cls := "VillageCutsModel", name := "takeCells", desc := "(I)V" } : Jvm.MethodName)) ∈ UW := UW_in 922 rfl rfl
set_option maxRecDepth 100000 in
theorem uw_924 : (Jvm.Cond.methodLink "VillageCutsModel" (184 : Nat) ({ cls := "VillageCutsModel", name := "canBe", desc := "()Z" } : Jvm.MethodName)) ∈ UW := UW_in 924 rfl rfl
set_option maxRecDepth 100000 in
theorem uw_926 : (Jvm.Cond.instanceMethod ({ cls := "VillageCutsModel", name := "canBe", desc := "()Z" } : Jvm.MethodName)) ∈ UW := UW_in 926 rfl rfl
set_option maxRecDepth 100000 in
theorem uw_928 : (Jvm.Cond.methodLink "VillageCutsModel" (187 : Nat) ({ cls := "VillageCutsModel", name := "sumOf", desc := "()I" } : Jvm.MethodName)) ∈ UW := UW_in 928 rfl rfl
set_option maxRecDepth 100000 in
theorem uw_930 : (Jvm.Cond.instanceMethod ({ cls := "VillageCutsModel", name := "sumOf", desc := "()I" } : Jvm.MethodName)) ∈ UW := UW_in 930 rfl rfl
set_option maxRecDepth 100000 in
theorem uw_932 : (Jvm.Cond.methodLink "VillageCutsModel" (190 : Nat) ({ cls := "VillageCutsModel", name := "underWay", desc := "()I" } : Jvm.MethodName)) ∈ UW := UW_in 932 rfl rfl
set_option maxRecDepth 100000 in
theorem uw_934 : (Jvm.Cond.instanceMethod ({ cls := "VillageCutsModel", name := "underWay", desc := "()I" } : Jvm.MethodName)) ∈ UW := UW_in 934 rfl rfl
set_option maxRecDepth 100000 in
theorem uw_936 : (Jvm.Cond.methodLink "VillageCutsModel" (158 : Nat) ({ cls := "VillageCutsModel", name := "lettersBy", desc := "(I)I" } : Jvm.MethodName)) ∈ UW := UW_in 936 rfl rfl
set_option maxRecDepth 100000 in
theorem uw_938 : (Jvm.Cond.instanceMethod ({ cls := "VillageCutsModel", name := "lettersBy", desc := "(I)I" } : Jvm.MethodName)) ∈ UW := UW_in 938 rfl rfl
set_option maxRecDepth 100000 in
theorem uw_940 : (Jvm.Cond.methodLink "VillageCutsModel" (193 : Nat) ({ cls := "VillageCutsModel", name := "close", desc := "()V" } : Jvm.MethodName)) ∈ UW := UW_in 940 rfl rfl
set_option maxRecDepth 100000 in
theorem uw_942 : (Jvm.Cond.instanceMethod ({ cls := "VillageCutsModel", name := "close", desc := "()V" } : Jvm.MethodName)) ∈ UW := UW_in 942 rfl rfl
set_option maxRecDepth 100000 in
theorem uw_952 : (Jvm.Cond.methodLink "VillageCutsModel" (199 : Nat) ({ cls := "VillageCutsModel", name := "goTale", desc := "(II)I" } : Jvm.MethodName)) ∈ UW := UW_in 952 rfl rfl
set_option maxRecDepth 100000 in
theorem uw_954 : (Jvm.Cond.instanceMethod ({ cls := "VillageCutsModel", name := "goTale", desc := "(II)I" } : Jvm.MethodName)) ∈ UW := UW_in 954 rfl rfl
set_option maxRecDepth 100000 in
theorem uw_956 : (Jvm.Cond.methodLink "VillageCutsModel" (202 : Nat) ({ cls := "VillageCutsModel", name := "tellTale", desc := "(I)I" } : Jvm.MethodName)) ∈ UW := UW_in 956 rfl rfl
set_option maxRecDepth 100000 in
theorem uw_958 : (Jvm.Cond.instanceMethod ({ cls := "VillageCutsModel", name := "tellTale", desc := "(I)I" } : Jvm.MethodName)) ∈ UW := UW_in 958 rfl rfl
set_option maxRecDepth 100000 in
theorem uw_964 : (Jvm.Cond.methodLink "VillageCutsModel" (205 : Nat) ({ cls := "VillageCutsModel", name := "isCut", desc := "(I)Z" } : Jvm.MethodName)) ∈ UW := UW_in 964 rfl rfl
set_option maxRecDepth 100000 in
theorem uw_966 : (Jvm.Cond.instanceMethod ({ cls := "VillageCutsModel", name := "isCut", desc := "(I)Z" } : Jvm.MethodName)) ∈ UW := UW_in 966 rfl rfl
set_option maxRecDepth 100000 in
theorem uw_972 : (Jvm.Cond.constantLong "VillageCutsModel" (75 : Nat) (-9223372036854775808 : Int64)) ∈ UW := UW_in 972 rfl rfl
set_option maxRecDepth 100000 in
theorem uw_973 : (Jvm.Cond.methodLink "VillageCutsModel" (208 : Nat) ({ cls := "VillageCutsModel", name := "findWays", desc := "(I)V" } : Jvm.MethodName)) ∈ UW := UW_in 973 rfl rfl
set_option maxRecDepth 100000 in
theorem uw_975 : (Jvm.Cond.instanceMethod ({ cls := "VillageCutsModel", name := "findWays", desc := "(I)V" } : Jvm.MethodName)) ∈ UW := UW_in 975 rfl rfl
set_option maxRecDepth 100000 in
theorem uw_977 : (Jvm.Cond.methodLink "VillageCutsModel" (211 : Nat) ({ cls := "VillageCutsModel", name := "lastCode", desc := "()I" } : Jvm.MethodName)) ∈ UW := UW_in 977 rfl rfl
set_option maxRecDepth 100000 in
theorem uw_979 : (Jvm.Cond.instanceMethod ({ cls := "VillageCutsModel", name := "lastCode", desc := "()I" } : Jvm.MethodName)) ∈ UW := UW_in 979 rfl rfl
set_option maxRecDepth 100000 in
theorem uw_985 : (Jvm.Cond.methodLink "VillageCutsModel" (214 : Nat) ({ cls := "VillageCutsModel", name := "allThings", desc := "()I" } : Jvm.MethodName)) ∈ UW := UW_in 985 rfl rfl
set_option maxRecDepth 100000 in
theorem uw_987 : (Jvm.Cond.instanceMethod ({ cls := "VillageCutsModel", name := "allThings", desc := "()I" } : Jvm.MethodName)) ∈ UW := UW_in 987 rfl rfl
set_option maxRecDepth 100000 in
theorem uw_1009 : (Jvm.Cond.methodLink "VillageCutsModel" (217 : Nat) ({ cls := "VillageCutsModel", name := "areSo", desc := "()Z" } : Jvm.MethodName)) ∈ UW := UW_in 1009 rfl rfl
set_option maxRecDepth 100000 in
theorem uw_1011 : (Jvm.Cond.instanceMethod ({ cls := "VillageCutsModel", name := "areSo", desc := "()Z" } : Jvm.MethodName)) ∈ UW := UW_in 1011 rfl rfl
set_option maxRecDepth 100000 in
theorem uw_1017 : (Jvm.Cond.methodLink "VillageCutsModel" (220 : Nat) ({ cls := "VillageCutsModel", name := "inLeastTerms", desc := "(JJI)J" } : Jvm.MethodName)) ∈ UW := UW_in 1017 rfl rfl
set_option maxRecDepth 100000 in
theorem uw_1018 : (Jvm.Cond.static ({ cls := "VillageCutsModel", name := "inLeastTerms", desc := "(JJI)J" } : Jvm.MethodName)) ∈ UW := UW_in 1018 rfl rfl
set_option maxRecDepth 100000 in
theorem uw_1036 : (Jvm.Cond.methodLink "VillageCutsModel" (224 : Nat) ({ cls := "VillageCutsModel", name := "lost", desc := "(I)J" } : Jvm.MethodName)) ∈ UW := UW_in 1036 rfl rfl
set_option maxRecDepth 100000 in
theorem uw_1038 : (Jvm.Cond.instanceMethod ({ cls := "VillageCutsModel", name := "lost", desc := "(I)J" } : Jvm.MethodName)) ∈ UW := UW_in 1038 rfl rfl
set_option maxRecDepth 100000 in
theorem uw_1048 : (Jvm.Cond.methodLink "VillageCutsModel" (231 : Nat) ({ cls := "VillageCutsModel", name := "begins", desc := "(I)V" } : Jvm.MethodName)) ∈ UW := UW_in 1048 rfl rfl
set_option maxRecDepth 100000 in
theorem uw_1050 : (Jvm.Cond.instanceMethod ({ cls := "VillageCutsModel", name := "begins", desc := "(I)V" } : Jvm.MethodName)) ∈ UW := UW_in 1050 rfl rfl
set_option maxRecDepth 100000 in
theorem uw_1072 : (Jvm.Cond.sameMethod "VillageCuts$Broad" "VillageCuts$Broad" "toldOf" "(LVillageCuts$Trace;I)I") ∈ UW := UW_in 1072 rfl rfl
set_option maxRecDepth 100000 in
theorem uw_1073 : (Jvm.Cond.sameMethod "VillageCuts$Plain" "VillageCuts$Plain" "toldPlainly" "(LVillageCuts$Trace;I)I") ∈ UW := UW_in 1073 rfl rfl
set_option maxRecDepth 100000 in
theorem uw_1074 : (Jvm.Cond.selects "VillageCuts$Broad" ({ cls := "VillageCuts$Plain", name := "toldPlainly", desc := "(LVillageCuts$Trace;I)I" } : Jvm.MethodName) ({ cls := "VillageCuts$Plain", name := "toldPlainly", desc := "(LVillageCuts$Trace;I)I" } : Jvm.MethodName)) ∈ UW := UW_in 1074 rfl rfl
set_option maxRecDepth 100000 in
theorem uw_1075 : (Jvm.Cond.selects "VillageCuts$Doubled" ({ cls := "VillageCuts$Plain", name := "toldPlainly", desc := "(LVillageCuts$Trace;I)I" } : Jvm.MethodName) ({ cls := "VillageCuts$Plain", name := "toldPlainly", desc := "(LVillageCuts$Trace;I)I" } : Jvm.MethodName)) ∈ UW := UW_in 1075 rfl rfl
set_option maxRecDepth 100000 in
theorem uw_1076 : (Jvm.Cond.selects "VillageCuts$Plain" ({ cls := "VillageCuts$Plain", name := "toldPlainly", desc := "(LVillageCuts$Trace;I)I" } : Jvm.MethodName) ({ cls := "VillageCuts$Plain", name := "toldPlainly", desc := "(LVillageCuts$Trace;I)I" } : Jvm.MethodName)) ∈ UW := UW_in 1076 rfl rfl
set_option maxRecDepth 100000 in
theorem lay_X0_0 : u_lay RX0 TX0 0 ∈ UW := UW_in 304 rfl rfl
set_option maxRecDepth 100000 in
theorem lay_X0_1 : u_lay RX0 TX0 1 ∈ UW := UW_in 305 rfl rfl
set_option maxRecDepth 100000 in
theorem lay_X0_2 : u_lay RX0 TX0 2 ∈ UW := UW_in 306 rfl rfl
set_option maxRecDepth 100000 in
theorem lay_X0_3 : u_lay RX0 TX0 3 ∈ UW := UW_in 307 rfl rfl
set_option maxRecDepth 100000 in
theorem lay_X0_4 : u_lay RX0 TX0 4 ∈ UW := UW_in 308 rfl rfl
set_option maxRecDepth 100000 in
theorem lay_X0_5 : u_lay RX0 TX0 5 ∈ UW := UW_in 309 rfl rfl
theorem inU_X0 : ∀ w ∈ u_ws RX0 TX0 6, w ∈ UW := fun w hw => by
  obtain ⟨k, hk, rfl⟩ := List.mem_map.mp hw
  exact match k, List.mem_range.mp hk with
    | 0, _ => lay_X0_0
    | 1, _ => lay_X0_1
    | 2, _ => lay_X0_2
    | 3, _ => lay_X0_3
    | 4, _ => lay_X0_4
    | 5, _ => lay_X0_5
    | q + 6, hq => absurd hq (by omega)
theorem dsx0 : ∀ j, j < 6 → defaultValue (tyX0 j) = vp_V [.int 0, .null, .null, .null, .null, .int 0] j := fun j hj => match j, hj with
    | 0, _ => rfl
    | 1, _ => rfl
    | 2, _ => rfl
    | 3, _ => rfl
    | 4, _ => rfl
    | 5, _ => rfl
    | q + 6, hq => absurd hq (by omega)
set_option maxRecDepth 100000 in
theorem lay_X1_0 : u_lay RX1 TX1 0 ∈ UW := UW_in 288 rfl rfl
set_option maxRecDepth 100000 in
theorem lay_X1_1 : u_lay RX1 TX1 1 ∈ UW := UW_in 290 rfl rfl
set_option maxRecDepth 100000 in
theorem lay_X1_2 : u_lay RX1 TX1 2 ∈ UW := UW_in 292 rfl rfl
set_option maxRecDepth 100000 in
theorem lay_X1_3 : u_lay RX1 TX1 3 ∈ UW := UW_in 294 rfl rfl
set_option maxRecDepth 100000 in
theorem lay_X1_4 : u_lay RX1 TX1 4 ∈ UW := UW_in 296 rfl rfl
set_option maxRecDepth 100000 in
theorem lay_X1_5 : u_lay RX1 TX1 5 ∈ UW := UW_in 298 rfl rfl
theorem inU_X1 : ∀ w ∈ u_ws RX1 TX1 6, w ∈ UW := fun w hw => by
  obtain ⟨k, hk, rfl⟩ := List.mem_map.mp hw
  exact match k, List.mem_range.mp hk with
    | 0, _ => lay_X1_0
    | 1, _ => lay_X1_1
    | 2, _ => lay_X1_2
    | 3, _ => lay_X1_3
    | 4, _ => lay_X1_4
    | 5, _ => lay_X1_5
    | q + 6, hq => absurd hq (by omega)
theorem dsx1 : ∀ j, j < 6 → defaultValue (tyX1 j) = vp_V [.int 0, .null, .null, .null, .null, .int 0] j := fun j hj => match j, hj with
    | 0, _ => rfl
    | 1, _ => rfl
    | 2, _ => rfl
    | 3, _ => rfl
    | 4, _ => rfl
    | 5, _ => rfl
    | q + 6, hq => absurd hq (by omega)
set_option maxRecDepth 100000 in
theorem lay_X2_0 : u_lay RX2 TX2 0 ∈ UW := UW_in 93 rfl rfl
set_option maxRecDepth 100000 in
theorem lay_X2_1 : u_lay RX2 TX2 1 ∈ UW := UW_in 95 rfl rfl
set_option maxRecDepth 100000 in
theorem lay_X2_2 : u_lay RX2 TX2 2 ∈ UW := UW_in 97 rfl rfl
set_option maxRecDepth 100000 in
theorem lay_X2_3 : u_lay RX2 TX2 3 ∈ UW := UW_in 99 rfl rfl
set_option maxRecDepth 100000 in
theorem lay_X2_4 : u_lay RX2 TX2 4 ∈ UW := UW_in 101 rfl rfl
set_option maxRecDepth 100000 in
theorem lay_X2_5 : u_lay RX2 TX2 5 ∈ UW := UW_in 103 rfl rfl
theorem inU_X2 : ∀ w ∈ u_ws RX2 TX2 6, w ∈ UW := fun w hw => by
  obtain ⟨k, hk, rfl⟩ := List.mem_map.mp hw
  exact match k, List.mem_range.mp hk with
    | 0, _ => lay_X2_0
    | 1, _ => lay_X2_1
    | 2, _ => lay_X2_2
    | 3, _ => lay_X2_3
    | 4, _ => lay_X2_4
    | 5, _ => lay_X2_5
    | q + 6, hq => absurd hq (by omega)
theorem dsx2 : ∀ j, j < 6 → defaultValue (tyX2 j) = vp_V [.null, .null, .null, .null, .int 0, .int 0] j := fun j hj => match j, hj with
    | 0, _ => rfl
    | 1, _ => rfl
    | 2, _ => rfl
    | 3, _ => rfl
    | 4, _ => rfl
    | 5, _ => rfl
    | q + 6, hq => absurd hq (by omega)
set_option maxRecDepth 100000 in
theorem lay_X3_0 : u_lay RX3 TX3 0 ∈ UW := UW_in 65 rfl rfl
set_option maxRecDepth 100000 in
theorem lay_X3_1 : u_lay RX3 TX3 1 ∈ UW := UW_in 67 rfl rfl
set_option maxRecDepth 100000 in
theorem lay_X3_2 : u_lay RX3 TX3 2 ∈ UW := UW_in 69 rfl rfl
set_option maxRecDepth 100000 in
theorem lay_X3_3 : u_lay RX3 TX3 3 ∈ UW := UW_in 71 rfl rfl
set_option maxRecDepth 100000 in
theorem lay_X3_4 : u_lay RX3 TX3 4 ∈ UW := UW_in 73 rfl rfl
set_option maxRecDepth 100000 in
theorem lay_X3_5 : u_lay RX3 TX3 5 ∈ UW := UW_in 75 rfl rfl
theorem inU_X3 : ∀ w ∈ u_ws RX3 TX3 6, w ∈ UW := fun w hw => by
  obtain ⟨k, hk, rfl⟩ := List.mem_map.mp hw
  exact match k, List.mem_range.mp hk with
    | 0, _ => lay_X3_0
    | 1, _ => lay_X3_1
    | 2, _ => lay_X3_2
    | 3, _ => lay_X3_3
    | 4, _ => lay_X3_4
    | 5, _ => lay_X3_5
    | q + 6, hq => absurd hq (by omega)
theorem dsx3 : ∀ j, j < 6 → defaultValue (tyX3 j) = vp_V [.int 0, .int 0, .int 0, .int 0, .int 0, .int 0] j := fun j hj => match j, hj with
    | 0, _ => rfl
    | 1, _ => rfl
    | 2, _ => rfl
    | 3, _ => rfl
    | 4, _ => rfl
    | 5, _ => rfl
    | q + 6, hq => absurd hq (by omega)
set_option maxRecDepth 100000 in
theorem lay_X4_0 : u_lay RX4 TX4 0 ∈ UW := UW_in 313 rfl rfl
set_option maxRecDepth 100000 in
theorem lay_X4_1 : u_lay RX4 TX4 1 ∈ UW := UW_in 314 rfl rfl
set_option maxRecDepth 100000 in
theorem lay_X4_2 : u_lay RX4 TX4 2 ∈ UW := UW_in 315 rfl rfl
set_option maxRecDepth 100000 in
theorem lay_X4_3 : u_lay RX4 TX4 3 ∈ UW := UW_in 316 rfl rfl
set_option maxRecDepth 100000 in
theorem lay_X4_4 : u_lay RX4 TX4 4 ∈ UW := UW_in 317 rfl rfl
set_option maxRecDepth 100000 in
theorem lay_X4_5 : u_lay RX4 TX4 5 ∈ UW := UW_in 318 rfl rfl
theorem inU_X4 : ∀ w ∈ u_ws RX4 TX4 6, w ∈ UW := fun w hw => by
  obtain ⟨k, hk, rfl⟩ := List.mem_map.mp hw
  exact match k, List.mem_range.mp hk with
    | 0, _ => lay_X4_0
    | 1, _ => lay_X4_1
    | 2, _ => lay_X4_2
    | 3, _ => lay_X4_3
    | 4, _ => lay_X4_4
    | 5, _ => lay_X4_5
    | q + 6, hq => absurd hq (by omega)
theorem dsx4 : ∀ j, j < 6 → defaultValue (tyX4 j) = vp_V [.int 0, .null, .null, .null, .null, .int 0] j := fun j hj => match j, hj with
    | 0, _ => rfl
    | 1, _ => rfl
    | 2, _ => rfl
    | 3, _ => rfl
    | 4, _ => rfl
    | 5, _ => rfl
    | q + 6, hq => absurd hq (by omega)
set_option maxRecDepth 100000 in
theorem lay_X5_0 : u_lay RX5 TX5 0 ∈ UW := UW_in 155 rfl rfl
set_option maxRecDepth 100000 in
theorem lay_X5_1 : u_lay RX5 TX5 1 ∈ UW := UW_in 157 rfl rfl
set_option maxRecDepth 100000 in
theorem lay_X5_2 : u_lay RX5 TX5 2 ∈ UW := UW_in 159 rfl rfl
set_option maxRecDepth 100000 in
theorem lay_X5_3 : u_lay RX5 TX5 3 ∈ UW := UW_in 161 rfl rfl
theorem inU_X5 : ∀ w ∈ u_ws RX5 TX5 4, w ∈ UW := fun w hw => by
  obtain ⟨k, hk, rfl⟩ := List.mem_map.mp hw
  exact match k, List.mem_range.mp hk with
    | 0, _ => lay_X5_0
    | 1, _ => lay_X5_1
    | 2, _ => lay_X5_2
    | 3, _ => lay_X5_3
    | q + 4, hq => absurd hq (by omega)
theorem dsx5 : ∀ j, j < 4 → defaultValue (tyX5 j) = vp_V [.null, .int 0, .int 0, .int 0] j := fun j hj => match j, hj with
    | 0, _ => rfl
    | 1, _ => rfl
    | 2, _ => rfl
    | 3, _ => rfl
    | q + 4, hq => absurd hq (by omega)
set_option maxRecDepth 100000 in
theorem lay_X6_0 : u_lay RX6 TX6 0 ∈ UW := UW_in 121 rfl rfl
set_option maxRecDepth 100000 in
theorem lay_X6_1 : u_lay RX6 TX6 1 ∈ UW := UW_in 123 rfl rfl
set_option maxRecDepth 100000 in
theorem lay_X6_2 : u_lay RX6 TX6 2 ∈ UW := UW_in 125 rfl rfl
set_option maxRecDepth 100000 in
theorem lay_X6_3 : u_lay RX6 TX6 3 ∈ UW := UW_in 127 rfl rfl
set_option maxRecDepth 100000 in
theorem lay_X6_4 : u_lay RX6 TX6 4 ∈ UW := UW_in 129 rfl rfl
set_option maxRecDepth 100000 in
theorem lay_X6_5 : u_lay RX6 TX6 5 ∈ UW := UW_in 131 rfl rfl
set_option maxRecDepth 100000 in
theorem lay_X6_6 : u_lay RX6 TX6 6 ∈ UW := UW_in 133 rfl rfl
set_option maxRecDepth 100000 in
theorem lay_X6_7 : u_lay RX6 TX6 7 ∈ UW := UW_in 135 rfl rfl
set_option maxRecDepth 100000 in
theorem lay_X6_8 : u_lay RX6 TX6 8 ∈ UW := UW_in 137 rfl rfl
theorem inU_X6 : ∀ w ∈ u_ws RX6 TX6 9, w ∈ UW := fun w hw => by
  obtain ⟨k, hk, rfl⟩ := List.mem_map.mp hw
  exact match k, List.mem_range.mp hk with
    | 0, _ => lay_X6_0
    | 1, _ => lay_X6_1
    | 2, _ => lay_X6_2
    | 3, _ => lay_X6_3
    | 4, _ => lay_X6_4
    | 5, _ => lay_X6_5
    | 6, _ => lay_X6_6
    | 7, _ => lay_X6_7
    | 8, _ => lay_X6_8
    | q + 9, hq => absurd hq (by omega)
theorem dsx6 : ∀ j, j < 9 → defaultValue (tyX6 j) = vp_V [.null, .null, .null, .null, .null, .null, .null, .int 0, .int 0] j := fun j hj => match j, hj with
    | 0, _ => rfl
    | 1, _ => rfl
    | 2, _ => rfl
    | 3, _ => rfl
    | 4, _ => rfl
    | 5, _ => rfl
    | 6, _ => rfl
    | 7, _ => rfl
    | 8, _ => rfl
    | q + 9, hq => absurd hq (by omega)
set_option maxRecDepth 100000 in
theorem lay_X7_0 : u_lay RX7 TX7 0 ∈ UW := UW_in 231 rfl rfl
set_option maxRecDepth 100000 in
theorem lay_X7_1 : u_lay RX7 TX7 1 ∈ UW := UW_in 233 rfl rfl
set_option maxRecDepth 100000 in
theorem lay_X7_2 : u_lay RX7 TX7 2 ∈ UW := UW_in 235 rfl rfl
set_option maxRecDepth 100000 in
theorem lay_X7_3 : u_lay RX7 TX7 3 ∈ UW := UW_in 237 rfl rfl
theorem inU_X7 : ∀ w ∈ u_ws RX7 TX7 4, w ∈ UW := fun w hw => by
  obtain ⟨k, hk, rfl⟩ := List.mem_map.mp hw
  exact match k, List.mem_range.mp hk with
    | 0, _ => lay_X7_0
    | 1, _ => lay_X7_1
    | 2, _ => lay_X7_2
    | 3, _ => lay_X7_3
    | q + 4, hq => absurd hq (by omega)
theorem dsx7 : ∀ j, j < 4 → defaultValue (tyX7 j) = vp_V [.null, .int 0, .int 0, .int 0] j := fun j hj => match j, hj with
    | 0, _ => rfl
    | 1, _ => rfl
    | 2, _ => rfl
    | 3, _ => rfl
    | q + 4, hq => absurd hq (by omega)
set_option maxRecDepth 100000 in
theorem lay_X8_0 : u_lay RX8 TX8 0 ∈ UW := UW_in 33 rfl rfl
theorem inU_X8 : ∀ w ∈ u_ws RX8 TX8 1, w ∈ UW := fun w hw => by
  obtain ⟨k, hk, rfl⟩ := List.mem_map.mp hw
  exact match k, List.mem_range.mp hk with
    | 0, _ => lay_X8_0
    | q + 1, hq => absurd hq (by omega)
theorem dsx8 : ∀ j, j < 1 → defaultValue (tyX8 j) = vp_V [.int 0] j := fun j hj => match j, hj with
    | 0, _ => rfl
    | q + 1, hq => absurd hq (by omega)
set_option maxRecDepth 100000 in
theorem lay_X9_0 : u_lay RX9 TX9 0 ∈ UW := UW_in 175 rfl rfl
set_option maxRecDepth 100000 in
theorem lay_X9_1 : u_lay RX9 TX9 1 ∈ UW := UW_in 177 rfl rfl
set_option maxRecDepth 100000 in
theorem lay_X9_2 : u_lay RX9 TX9 2 ∈ UW := UW_in 179 rfl rfl
set_option maxRecDepth 100000 in
theorem lay_X9_3 : u_lay RX9 TX9 3 ∈ UW := UW_in 181 rfl rfl
set_option maxRecDepth 100000 in
theorem lay_X9_4 : u_lay RX9 TX9 4 ∈ UW := UW_in 183 rfl rfl
set_option maxRecDepth 100000 in
theorem lay_X9_5 : u_lay RX9 TX9 5 ∈ UW := UW_in 185 rfl rfl
set_option maxRecDepth 100000 in
theorem lay_X9_6 : u_lay RX9 TX9 6 ∈ UW := UW_in 187 rfl rfl
set_option maxRecDepth 100000 in
theorem lay_X9_7 : u_lay RX9 TX9 7 ∈ UW := UW_in 189 rfl rfl
set_option maxRecDepth 100000 in
theorem lay_X9_8 : u_lay RX9 TX9 8 ∈ UW := UW_in 191 rfl rfl
set_option maxRecDepth 100000 in
theorem lay_X9_9 : u_lay RX9 TX9 9 ∈ UW := UW_in 193 rfl rfl
set_option maxRecDepth 100000 in
theorem lay_X9_10 : u_lay RX9 TX9 10 ∈ UW := UW_in 195 rfl rfl
theorem inU_X9 : ∀ w ∈ u_ws RX9 TX9 11, w ∈ UW := fun w hw => by
  obtain ⟨k, hk, rfl⟩ := List.mem_map.mp hw
  exact match k, List.mem_range.mp hk with
    | 0, _ => lay_X9_0
    | 1, _ => lay_X9_1
    | 2, _ => lay_X9_2
    | 3, _ => lay_X9_3
    | 4, _ => lay_X9_4
    | 5, _ => lay_X9_5
    | 6, _ => lay_X9_6
    | 7, _ => lay_X9_7
    | 8, _ => lay_X9_8
    | 9, _ => lay_X9_9
    | 10, _ => lay_X9_10
    | q + 11, hq => absurd hq (by omega)
theorem dsx9 : ∀ j, j < 11 → defaultValue (tyX9 j) = vp_V [.null, .null, .null, .null, .null, .null, .int 0, .int 0, .null, .null, .int 0] j := fun j hj => match j, hj with
    | 0, _ => rfl
    | 1, _ => rfl
    | 2, _ => rfl
    | 3, _ => rfl
    | 4, _ => rfl
    | 5, _ => rfl
    | 6, _ => rfl
    | 7, _ => rfl
    | 8, _ => rfl
    | 9, _ => rfl
    | 10, _ => rfl
    | q + 11, hq => absurd hq (by omega)
set_option maxRecDepth 100000 in
theorem lay_X10_0 : u_lay RX10 TX10 0 ∈ UW := UW_in 736 rfl rfl
set_option maxRecDepth 100000 in
theorem lay_X10_1 : u_lay RX10 TX10 1 ∈ UW := UW_in 738 rfl rfl
set_option maxRecDepth 100000 in
theorem lay_X10_2 : u_lay RX10 TX10 2 ∈ UW := UW_in 740 rfl rfl
set_option maxRecDepth 100000 in
theorem lay_X10_3 : u_lay RX10 TX10 3 ∈ UW := UW_in 742 rfl rfl
set_option maxRecDepth 100000 in
theorem lay_X10_4 : u_lay RX10 TX10 4 ∈ UW := UW_in 744 rfl rfl
set_option maxRecDepth 100000 in
theorem lay_X10_5 : u_lay RX10 TX10 5 ∈ UW := UW_in 746 rfl rfl
set_option maxRecDepth 100000 in
theorem lay_X10_6 : u_lay RX10 TX10 6 ∈ UW := UW_in 748 rfl rfl
set_option maxRecDepth 100000 in
theorem lay_X10_7 : u_lay RX10 TX10 7 ∈ UW := UW_in 750 rfl rfl
set_option maxRecDepth 100000 in
theorem lay_X10_8 : u_lay RX10 TX10 8 ∈ UW := UW_in 752 rfl rfl
set_option maxRecDepth 100000 in
theorem lay_X10_9 : u_lay RX10 TX10 9 ∈ UW := UW_in 754 rfl rfl
set_option maxRecDepth 100000 in
theorem lay_X10_10 : u_lay RX10 TX10 10 ∈ UW := UW_in 756 rfl rfl
set_option maxRecDepth 100000 in
theorem lay_X10_11 : u_lay RX10 TX10 11 ∈ UW := UW_in 758 rfl rfl
set_option maxRecDepth 100000 in
theorem lay_X10_12 : u_lay RX10 TX10 12 ∈ UW := UW_in 760 rfl rfl
set_option maxRecDepth 100000 in
theorem lay_X10_13 : u_lay RX10 TX10 13 ∈ UW := UW_in 762 rfl rfl
set_option maxRecDepth 100000 in
theorem lay_X10_14 : u_lay RX10 TX10 14 ∈ UW := UW_in 764 rfl rfl
set_option maxRecDepth 100000 in
theorem lay_X10_15 : u_lay RX10 TX10 15 ∈ UW := UW_in 766 rfl rfl
set_option maxRecDepth 100000 in
theorem lay_X10_16 : u_lay RX10 TX10 16 ∈ UW := UW_in 768 rfl rfl
set_option maxRecDepth 100000 in
theorem lay_X10_17 : u_lay RX10 TX10 17 ∈ UW := UW_in 770 rfl rfl
set_option maxRecDepth 100000 in
theorem lay_X10_18 : u_lay RX10 TX10 18 ∈ UW := UW_in 772 rfl rfl
set_option maxRecDepth 100000 in
theorem lay_X10_19 : u_lay RX10 TX10 19 ∈ UW := UW_in 774 rfl rfl
set_option maxRecDepth 100000 in
theorem lay_X10_20 : u_lay RX10 TX10 20 ∈ UW := UW_in 776 rfl rfl
set_option maxRecDepth 100000 in
theorem lay_X10_21 : u_lay RX10 TX10 21 ∈ UW := UW_in 778 rfl rfl
set_option maxRecDepth 100000 in
theorem lay_X10_22 : u_lay RX10 TX10 22 ∈ UW := UW_in 780 rfl rfl
set_option maxRecDepth 100000 in
theorem lay_X10_23 : u_lay RX10 TX10 23 ∈ UW := UW_in 782 rfl rfl
set_option maxRecDepth 100000 in
theorem lay_X10_24 : u_lay RX10 TX10 24 ∈ UW := UW_in 784 rfl rfl
set_option maxRecDepth 100000 in
theorem lay_X10_25 : u_lay RX10 TX10 25 ∈ UW := UW_in 786 rfl rfl
set_option maxRecDepth 100000 in
theorem lay_X10_26 : u_lay RX10 TX10 26 ∈ UW := UW_in 788 rfl rfl
theorem inU_X10 : ∀ w ∈ u_ws RX10 TX10 27, w ∈ UW := fun w hw => by
  obtain ⟨k, hk, rfl⟩ := List.mem_map.mp hw
  exact match k, List.mem_range.mp hk with
    | 0, _ => lay_X10_0
    | 1, _ => lay_X10_1
    | 2, _ => lay_X10_2
    | 3, _ => lay_X10_3
    | 4, _ => lay_X10_4
    | 5, _ => lay_X10_5
    | 6, _ => lay_X10_6
    | 7, _ => lay_X10_7
    | 8, _ => lay_X10_8
    | 9, _ => lay_X10_9
    | 10, _ => lay_X10_10
    | 11, _ => lay_X10_11
    | 12, _ => lay_X10_12
    | 13, _ => lay_X10_13
    | 14, _ => lay_X10_14
    | 15, _ => lay_X10_15
    | 16, _ => lay_X10_16
    | 17, _ => lay_X10_17
    | 18, _ => lay_X10_18
    | 19, _ => lay_X10_19
    | 20, _ => lay_X10_20
    | 21, _ => lay_X10_21
    | 22, _ => lay_X10_22
    | 23, _ => lay_X10_23
    | 24, _ => lay_X10_24
    | 25, _ => lay_X10_25
    | 26, _ => lay_X10_26
    | q + 27, hq => absurd hq (by omega)
theorem dsx10 : ∀ j, j < 27 → defaultValue (tyX10 j) = vp_V [.int 0, .int 0, .null, .null, .null, .int 0, .null, .null, .null, .null, .null, .null, .int 0, .int 0, .null, .null, .null, .null, .null, .null, .null, .null, .int 0, .null, .int 0, .null, .null] j := fun j hj => match j, hj with
    | 0, _ => rfl
    | 1, _ => rfl
    | 2, _ => rfl
    | 3, _ => rfl
    | 4, _ => rfl
    | 5, _ => rfl
    | 6, _ => rfl
    | 7, _ => rfl
    | 8, _ => rfl
    | 9, _ => rfl
    | 10, _ => rfl
    | 11, _ => rfl
    | 12, _ => rfl
    | 13, _ => rfl
    | 14, _ => rfl
    | 15, _ => rfl
    | 16, _ => rfl
    | 17, _ => rfl
    | 18, _ => rfl
    | 19, _ => rfl
    | 20, _ => rfl
    | 21, _ => rfl
    | 22, _ => rfl
    | 23, _ => rfl
    | 24, _ => rfl
    | 25, _ => rfl
    | 26, _ => rfl
    | q + 27, hq => absurd hq (by omega)
def d_X0_init : MD := (yX0_init, cX0_init, 2, none, 2, 41)
set_option maxRecDepth 100000 in
theorem ci_X0_init : CodeIn d_X0_init := UW_in 266 rfl rfl
theorem yok_X0_init : YOk d_X0_init 1 := by decide +kernel
def d_X0_toldOf : MD := (yX0_toldOf, cX0_toldOf, 3, some .int, 3, 65)
set_option maxRecDepth 100000 in
theorem ci_X0_toldOf : CodeIn d_X0_toldOf := UW_in 645 rfl rfl
theorem yok_X0_toldOf : YOk d_X0_toldOf 2 := by decide +kernel
def d_X1_init : MD := (yX1_init, cX1_init, 1, none, 3, 62)
set_option maxRecDepth 100000 in
theorem ci_X1_init : CodeIn d_X1_init := UW_in 263 rfl rfl
theorem yok_X1_init : YOk d_X1_init 0 := by decide +kernel
def d_X1_toldOf : MD := (yX1_toldOf, cX1_toldOf, 4, some .int, 4, 87)
set_option maxRecDepth 100000 in
theorem ci_X1_toldOf : CodeIn d_X1_toldOf := UW_in 653 rfl rfl
theorem yok_X1_toldOf : YOk d_X1_toldOf 2 := by decide +kernel
def d_X1_rungAt : MD := (yX1_rungAt, cX1_rungAt, 3, some .int, 1, 21)
set_option maxRecDepth 100000 in
theorem ci_X1_rungAt : CodeIn d_X1_rungAt := UW_in 676 rfl rfl
theorem yok_X1_rungAt : YOk d_X1_rungAt 2 := by decide +kernel
def d_X2_init : MD := (yX2_init, cX2_init, 2, none, 2, 40)
set_option maxRecDepth 100000 in
theorem ci_X2_init : CodeIn d_X2_init := UW_in 42 rfl rfl
theorem yok_X2_init : YOk d_X2_init 0 := by decide +kernel
def d_X2_hasVillage : MD := (yX2_hasVillage, cX2_hasVillage, 2, some .boolean, 0, 0)
set_option maxRecDepth 100000 in
theorem ci_X2_hasVillage : CodeIn d_X2_hasVillage := UW_in 385 rfl rfl
theorem yok_X2_hasVillage : YOk d_X2_hasVillage 1 := by decide +kernel
def d_X2_hasThing : MD := (yX2_hasThing, cX2_hasThing, 3, some .boolean, 1, 21)
set_option maxRecDepth 100000 in
theorem ci_X2_hasThing : CodeIn d_X2_hasThing := UW_in 416 rfl rfl
theorem yok_X2_hasThing : YOk d_X2_hasThing 2 := by decide +kernel
def d_X2_settle : MD := (yX2_settle, cX2_settle, 2, none, 4, 82)
set_option maxRecDepth 100000 in
theorem ci_X2_settle : CodeIn d_X2_settle := UW_in 258 rfl rfl
theorem yok_X2_settle : YOk d_X2_settle 1 := by decide +kernel
def d_X2_addThing : MD := (yX2_addThing, cX2_addThing, 4, none, 1, 24)
set_option maxRecDepth 100000 in
theorem ci_X2_addThing : CodeIn d_X2_addThing := UW_in 329 rfl rfl
theorem yok_X2_addThing : YOk d_X2_addThing 2 := by decide +kernel
def d_X2_noteLetter : MD := (yX2_noteLetter, cX2_noteLetter, 5, none, 0, 0)
set_option maxRecDepth 100000 in
theorem ci_X2_noteLetter : CodeIn d_X2_noteLetter := UW_in 333 rfl rfl
theorem yok_X2_noteLetter : YOk d_X2_noteLetter 3 := by decide +kernel
def d_X2_leastAmiss : MD := (yX2_leastAmiss, cX2_leastAmiss, 2, some .int, 1, 20)
set_option maxRecDepth 100000 in
theorem ci_X2_leastAmiss : CodeIn d_X2_leastAmiss := UW_in 344 rfl rfl
theorem yok_X2_leastAmiss : YOk d_X2_leastAmiss 0 := by decide +kernel
def d_X2_isOrdered : MD := (yX2_isOrdered, cX2_isOrdered, 4, some .boolean, 3, 68)
set_option maxRecDepth 100000 in
theorem ci_X2_isOrdered : CodeIn d_X2_isOrdered := UW_in 352 rfl rfl
theorem yok_X2_isOrdered : YOk d_X2_isOrdered 0 := by decide +kernel
def d_X2_firstThatGoesOn : MD := (yX2_firstThatGoesOn, cX2_firstThatGoesOn, 3, some .int, 2, 45)
set_option maxRecDepth 100000 in
theorem ci_X2_firstThatGoesOn : CodeIn d_X2_firstThatGoesOn := UW_in 356 rfl rfl
theorem yok_X2_firstThatGoesOn : YOk d_X2_firstThatGoesOn 1 := by decide +kernel
def d_X2_noteNeed : MD := (yX2_noteNeed, cX2_noteNeed, 6, none, 2, 43)
set_option maxRecDepth 100000 in
theorem ci_X2_noteNeed : CodeIn d_X2_noteNeed := UW_in 368 rfl rfl
theorem yok_X2_noteNeed : YOk d_X2_noteNeed 2 := by decide +kernel
def d_X2_raise : MD := (yX2_raise, cX2_raise, 3, none, 1, 21)
set_option maxRecDepth 100000 in
theorem ci_X2_raise : CodeIn d_X2_raise := UW_in 374 rfl rfl
theorem yok_X2_raise : YOk d_X2_raise 2 := by decide +kernel
def d_X2_isAhead : MD := (yX2_isAhead, cX2_isAhead, 5, some .boolean, 0, 0)
set_option maxRecDepth 100000 in
theorem ci_X2_isAhead : CodeIn d_X2_isAhead := UW_in 435 rfl rfl
theorem yok_X2_isAhead : YOk d_X2_isAhead 4 := by decide +kernel
def d_X2_goesOn : MD := (yX2_goesOn, cX2_goesOn, 5, some .boolean, 1, 21)
set_option maxRecDepth 100000 in
theorem ci_X2_goesOn : CodeIn d_X2_goesOn := UW_in 360 rfl rfl
theorem yok_X2_goesOn : YOk d_X2_goesOn 2 := by decide +kernel
def d_X2_thatGoOn : MD := (yX2_thatGoOn, cX2_thatGoOn, 4, some .int, 2, 45)
set_option maxRecDepth 100000 in
theorem ci_X2_thatGoOn : CodeIn d_X2_thatGoOn := UW_in 494 rfl rfl
theorem yok_X2_thatGoOn : YOk d_X2_thatGoOn 1 := by decide +kernel
def d_X2_close : MD := (yX2_close, cX2_close, 4, none, 2, 43)
set_option maxRecDepth 100000 in
theorem ci_X2_close : CodeIn d_X2_close := UW_in 482 rfl rfl
theorem yok_X2_close : YOk d_X2_close 2 := by decide +kernel
def d_X2_canBe : MD := (yX2_canBe, cX2_canBe, 4, some .boolean, 0, 0)
set_option maxRecDepth 100000 in
theorem ci_X2_canBe : CodeIn d_X2_canBe := UW_in 465 rfl rfl
theorem yok_X2_canBe : YOk d_X2_canBe 1 := by decide +kernel
def d_X2_sumOf : MD := (yX2_sumOf, cX2_sumOf, 4, some .int, 3, 63)
set_option maxRecDepth 100000 in
theorem ci_X2_sumOf : CodeIn d_X2_sumOf := UW_in 469 rfl rfl
theorem yok_X2_sumOf : YOk d_X2_sumOf 1 := by decide +kernel
def d_X2_underWay : MD := (yX2_underWay, cX2_underWay, 4, some .int, 1, 21)
set_option maxRecDepth 100000 in
theorem ci_X2_underWay : CodeIn d_X2_underWay := UW_in 474 rfl rfl
theorem yok_X2_underWay : YOk d_X2_underWay 1 := by decide +kernel
def d_X2_thingsIn : MD := (yX2_thingsIn, cX2_thingsIn, 4, some .int, 0, 0)
set_option maxRecDepth 100000 in
theorem ci_X2_thingsIn : CodeIn d_X2_thingsIn := UW_in 447 rfl rfl
theorem yok_X2_thingsIn : YOk d_X2_thingsIn 1 := by decide +kernel
def d_X2_lettersSent : MD := (yX2_lettersSent, cX2_lettersSent, 3, some .int, 0, 0)
set_option maxRecDepth 100000 in
theorem ci_X2_lettersSent : CodeIn d_X2_lettersSent := UW_in 702 rfl rfl
theorem yok_X2_lettersSent : YOk d_X2_lettersSent 0 := by decide +kernel
def d_X3_init : MD := (yX3_init, cX3_init, 1, none, 1, 20)
set_option maxRecDepth 100000 in
theorem ci_X3_init : CodeIn d_X3_init := UW_in 51 rfl rfl
theorem yok_X3_init : YOk d_X3_init 0 := by decide +kernel
def d_X3_isAmiss : MD := (yX3_isAmiss, cX3_isAmiss, 1, some .boolean, 0, 0)
set_option maxRecDepth 100000 in
theorem ci_X3_isAmiss : CodeIn d_X3_isAmiss := UW_in 348 rfl rfl
theorem yok_X3_isAmiss : YOk d_X3_isAmiss 0 := by decide +kernel
def d_X3_isSentIn : MD := (yX3_isSentIn, cX3_isSentIn, 2, some .boolean, 0, 0)
set_option maxRecDepth 100000 in
theorem ci_X3_isSentIn : CodeIn d_X3_isSentIn := UW_in 364 rfl rfl
theorem yok_X3_isSentIn : YOk d_X3_isSentIn 1 := by decide +kernel
def d_X3_isGotIn : MD := (yX3_isGotIn, cX3_isGotIn, 2, some .boolean, 0, 0)
set_option maxRecDepth 100000 in
theorem ci_X3_isGotIn : CodeIn d_X3_isGotIn := UW_in 478 rfl rfl
theorem yok_X3_isGotIn : YOk d_X3_isGotIn 1 := by decide +kernel
def d_X4_init : MD := (yX4_init, cX4_init, 2, none, 1, 20)
set_option maxRecDepth 100000 in
theorem ci_X4_init : CodeIn d_X4_init := UW_in 269 rfl rfl
theorem yok_X4_init : YOk d_X4_init 1 := by decide +kernel
def d_X4_add : MD := (yX4_add, cX4_add, 3, none, 0, 0)
set_option maxRecDepth 100000 in
theorem ci_X4_add : CodeIn d_X4_add := UW_in 340 rfl rfl
theorem yok_X4_add : YOk d_X4_add 2 := by decide +kernel
def d_X4_valueAt : MD := (yX4_valueAt, cX4_valueAt, 2, some .int, 1, 21)
set_option maxRecDepth 100000 in
theorem ci_X4_valueAt : CodeIn d_X4_valueAt := UW_in 392 rfl rfl
theorem yok_X4_valueAt : YOk d_X4_valueAt 1 := by decide +kernel
def d_X4_worthAs : MD := (yX4_worthAs, cX4_worthAs, 2, some .int, 0, 0)
set_option maxRecDepth 100000 in
theorem ci_X4_worthAs : CodeIn d_X4_worthAs := UW_in 407 rfl rfl
theorem yok_X4_worthAs : YOk d_X4_worthAs 2 := by decide +kernel
def d_X4_worthAt : MD := (yX4_worthAt, cX4_worthAt, 2, some .int, 2, 42)
set_option maxRecDepth 100000 in
theorem ci_X4_worthAt : CodeIn d_X4_worthAt := UW_in 403 rfl rfl
theorem yok_X4_worthAt : YOk d_X4_worthAt 1 := by decide +kernel
def d_X4_needInAll : MD := (yX4_needInAll, cX4_needInAll, 4, some .int, 0, 0)
set_option maxRecDepth 100000 in
theorem ci_X4_needInAll : CodeIn d_X4_needInAll := UW_in 427 rfl rfl
theorem yok_X4_needInAll : YOk d_X4_needInAll 1 := by decide +kernel
def d_X4_toldPlainly : MD := (yX4_toldPlainly, cX4_toldPlainly, 3, some .int, 1, 21)
set_option maxRecDepth 100000 in
theorem ci_X4_toldPlainly : CodeIn d_X4_toldPlainly := UW_in 661 rfl rfl
theorem yok_X4_toldPlainly : YOk d_X4_toldPlainly 2 := by decide +kernel
def d_X4_toldOf : MD := (yX4_toldOf, cX4_toldOf, 3, some .int, 2, 43)
set_option maxRecDepth 100000 in
theorem ci_X4_toldOf : CodeIn d_X4_toldOf := UW_in 663 rfl rfl
theorem yok_X4_toldOf : YOk d_X4_toldOf 2 := by decide +kernel
def d_X4_rungAt : MD := (yX4_rungAt, cX4_rungAt, 3, some .int, 1, 21)
set_option maxRecDepth 100000 in
theorem ci_X4_rungAt : CodeIn d_X4_rungAt := UW_in 677 rfl rfl
theorem yok_X4_rungAt : YOk d_X4_rungAt 2 := by decide +kernel
def d_X5_init : MD := (yX5_init, cX5_init, 1, none, 1, 20)
set_option maxRecDepth 100000 in
theorem ci_X5_init : CodeIn d_X5_init := UW_in 145 rfl rfl
theorem yok_X5_init : YOk d_X5_init 0 := by decide +kernel
def d_X5_renew : MD := (yX5_renew, cX5_renew, 3, none, 1, 23)
set_option maxRecDepth 100000 in
theorem ci_X5_renew : CodeIn d_X5_renew := UW_in 612 rfl rfl
theorem yok_X5_renew : YOk d_X5_renew 2 := by decide +kernel
def d_X5_write : MD := (yX5_write, cX5_write, 3, none, 0, 0)
set_option maxRecDepth 100000 in
theorem ci_X5_write : CodeIn d_X5_write := UW_in 626 rfl rfl
theorem yok_X5_write : YOk d_X5_write 2 := by decide +kernel
def d_X5_hasCells : MD := (yX5_hasCells, cX5_hasCells, 3, some .boolean, 0, 0)
set_option maxRecDepth 100000 in
theorem ci_X5_hasCells : CodeIn d_X5_hasCells := UW_in 215 rfl rfl
theorem yok_X5_hasCells : YOk d_X5_hasCells 2 := by decide +kernel
def d_X5_faultOfTaking : MD := (yX5_faultOfTaking, cX5_faultOfTaking, 4, some .int, 1, 22)
set_option maxRecDepth 100000 in
theorem ci_X5_faultOfTaking : CodeIn d_X5_faultOfTaking := UW_in 211 rfl rfl
theorem yok_X5_faultOfTaking : YOk d_X5_faultOfTaking 3 := by decide +kernel
def d_X6_init : MD := (yX6_init, cX6_init, 1, none, 1, 20)
set_option maxRecDepth 100000 in
theorem ci_X6_init : CodeIn d_X6_init := UW_in 110 rfl rfl
theorem yok_X6_init : YOk d_X6_init 0 := by decide +kernel
def d_X6_walk : MD := (yX6_walk, cX6_walk, 3, none, 4, 86)
set_option maxRecDepth 100000 in
theorem ci_X6_walk : CodeIn d_X6_walk := UW_in 516 rfl rfl
theorem yok_X6_walk : YOk d_X6_walk 1 := by decide +kernel
def d_X6_measure : MD := (yX6_measure, cX6_measure, 3, none, 1, 21)
set_option maxRecDepth 100000 in
theorem ci_X6_measure : CodeIn d_X6_measure := UW_in 520 rfl rfl
theorem yok_X6_measure : YOk d_X6_measure 1 := by decide +kernel
def d_X6_passWays : MD := (yX6_passWays, cX6_passWays, 3, none, 1, 22)
set_option maxRecDepth 100000 in
theorem ci_X6_passWays : CodeIn d_X6_passWays := UW_in 532 rfl rfl
theorem yok_X6_passWays : YOk d_X6_passWays 1 := by decide +kernel
def d_X6_goesOnward : MD := (yX6_goesOnward, cX6_goesOnward, 3, some .boolean, 0, 0)
set_option maxRecDepth 100000 in
theorem ci_X6_goesOnward : CodeIn d_X6_goesOnward := UW_in 536 rfl rfl
theorem yok_X6_goesOnward : YOk d_X6_goesOnward 2 := by decide +kernel
def d_X6_turn : MD := (yX6_turn, cX6_turn, 3, none, 0, 0)
set_option maxRecDepth 100000 in
theorem ci_X6_turn : CodeIn d_X6_turn := UW_in 540 rfl rfl
theorem yok_X6_turn : YOk d_X6_turn 1 := by decide +kernel
def d_X6_cutsFrom : MD := (yX6_cutsFrom, cX6_cutsFrom, 4, some .int, 0, 0)
set_option maxRecDepth 100000 in
theorem ci_X6_cutsFrom : CodeIn d_X6_cutsFrom := UW_in 544 rfl rfl
theorem yok_X6_cutsFrom : YOk d_X6_cutsFrom 1 := by decide +kernel
def d_X6_runsInAll : MD := (yX6_runsInAll, cX6_runsInAll, 1, some .long, 0, 0)
set_option maxRecDepth 100000 in
theorem ci_X6_runsInAll : CodeIn d_X6_runsInAll := UW_in 553 rfl rfl
theorem yok_X6_runsInAll : YOk d_X6_runsInAll 0 := by decide +kernel
def d_X6_fewestOf : MD := (yX6_fewestOf, cX6_fewestOf, 4, some .int, 0, 0)
set_option maxRecDepth 100000 in
theorem ci_X6_fewestOf : CodeIn d_X6_fewestOf := UW_in 568 rfl rfl
theorem yok_X6_fewestOf : YOk d_X6_fewestOf 1 := by decide +kernel
def d_X6_canGoAround : MD := (yX6_canGoAround, cX6_canGoAround, 3, some .boolean, 2, 45)
set_option maxRecDepth 100000 in
theorem ci_X6_canGoAround : CodeIn d_X6_canGoAround := UW_in 576 rfl rfl
theorem yok_X6_canGoAround : YOk d_X6_canGoAround 1 := by decide +kernel
def d_X6_passAround : MD := (yX6_passAround, cX6_passAround, 4, none, 1, 22)
set_option maxRecDepth 100000 in
theorem ci_X6_passAround : CodeIn d_X6_passAround := UW_in 580 rfl rfl
theorem yok_X6_passAround : YOk d_X6_passAround 2 := by decide +kernel
def d_X7_init : MD := (yX7_init, cX7_init, 4, none, 1, 20)
set_option maxRecDepth 100000 in
theorem ci_X7_init : CodeIn d_X7_init := UW_in 224 rfl rfl
theorem yok_X7_init : YOk d_X7_init 3 := by decide +kernel
def d_X7_isReadInto : MD := (yX7_isReadInto, cX7_isReadInto, 3, some .boolean, 6, 127)
set_option maxRecDepth 100000 in
theorem ci_X7_isReadInto : CodeIn d_X7_isReadInto := UW_in 243 rfl rfl
theorem yok_X7_isReadInto : YOk d_X7_isReadInto 1 := by decide +kernel
def d_X7_isVillageRead : MD := (yX7_isVillageRead, cX7_isVillageRead, 5, some .boolean, 5, 103)
set_option maxRecDepth 100000 in
theorem ci_X7_isVillageRead : CodeIn d_X7_isVillageRead := UW_in 251 rfl rfl
theorem yok_X7_isVillageRead : YOk d_X7_isVillageRead 1 := by decide +kernel
def d_X7_code : MD := (yX7_code, cX7_code, 1, some .int, 0, 0)
set_option maxRecDepth 100000 in
theorem ci_X7_code : CodeIn d_X7_code := UW_in 247 rfl rfl
theorem yok_X7_code : YOk d_X7_code 0 := by decide +kernel
def d_X7_kindOf : MD := (yX7_kindOf, cX7_kindOf, 1, some .int, 0, 0)
set_option maxRecDepth 100000 in
theorem ci_X7_kindOf : CodeIn d_X7_kindOf := UW_in 254 rfl rfl
theorem yok_X7_kindOf : YOk d_X7_kindOf 1 := by decide +kernel
def d_X7_whatOf : MD := (yX7_whatOf, cX7_whatOf, 1, some .int, 0, 0)
set_option maxRecDepth 100000 in
theorem ci_X7_whatOf : CodeIn d_X7_whatOf := UW_in 322 rfl rfl
theorem yok_X7_whatOf : YOk d_X7_whatOf 1 := by decide +kernel
def d_X7_greatestDigit : MD := (yX7_greatestDigit, cX7_greatestDigit, 1, some .int, 0, 0)
set_option maxRecDepth 100000 in
theorem ci_X7_greatestDigit : CodeIn d_X7_greatestDigit := UW_in 325 rfl rfl
theorem yok_X7_greatestDigit : YOk d_X7_greatestDigit 1 := by decide +kernel
def d_X8_init : MD := (yX8_init, cX8_init, 1, none, 1, 20)
set_option maxRecDepth 100000 in
theorem ci_X8_init : CodeIn d_X8_init := UW_in 29 rfl rfl
theorem yok_X8_init : YOk d_X8_init 0 := by decide +kernel
def d_X8_leave : MD := (yX8_leave, cX8_leave, 2, none, 0, 0)
set_option maxRecDepth 100000 in
theorem ci_X8_leave : CodeIn d_X8_leave := UW_in 649 rfl rfl
theorem yok_X8_leave : YOk d_X8_leave 1 := by decide +kernel
def d_X9_init : MD := (yX9_init, cX9_init, 2, none, 3, 61)
set_option maxRecDepth 100000 in
theorem ci_X9_init : CodeIn d_X9_init := UW_in 19 rfl rfl
theorem yok_X9_init : YOk d_X9_init 0 := by decide +kernel
def d_X9_land : MD := (yX9_land, cX9_land, 9, some .int, 7, 149)
set_option maxRecDepth 100000 in
theorem ci_X9_land : CodeIn d_X9_land := UW_in 201 rfl rfl
theorem yok_X9_land : YOk d_X9_land 4 := by decide +kernel
def d_X9_ofVillage : MD := (yX9_ofVillage, cX9_ofVillage, 5, some .int, 3, 63)
set_option maxRecDepth 100000 in
theorem ci_X9_ofVillage : CodeIn d_X9_ofVillage := UW_in 381 rfl rfl
theorem yok_X9_ofVillage : YOk d_X9_ofVillage 2 := by decide +kernel
def d_X9_thing : MD := (yX9_thing, cX9_thing, 5, some .int, 2, 43)
set_option maxRecDepth 100000 in
theorem ci_X9_thing : CodeIn d_X9_thing := UW_in 412 rfl rfl
theorem yok_X9_thing : YOk d_X9_thing 3 := by decide +kernel
def d_X9_ahead : MD := (yX9_ahead, cX9_ahead, 5, some .int, 2, 43)
set_option maxRecDepth 100000 in
theorem ci_X9_ahead : CodeIn d_X9_ahead := UW_in 431 rfl rfl
theorem yok_X9_ahead : YOk d_X9_ahead 4 := by decide +kernel
def d_X9_happen : MD := (yX9_happen, cX9_happen, 3, some .int, 2, 45)
set_option maxRecDepth 100000 in
theorem ci_X9_happen : CodeIn d_X9_happen := UW_in 439 rfl rfl
theorem yok_X9_happen : YOk d_X9_happen 1 := by decide +kernel
def d_X9_anew : MD := (yX9_anew, cX9_anew, 2, some .int, 1, 23)
set_option maxRecDepth 100000 in
theorem ci_X9_anew : CodeIn d_X9_anew := UW_in 443 rfl rfl
theorem yok_X9_anew : YOk d_X9_anew 0 := by decide +kernel
def d_X9_cut : MD := (yX9_cut, cX9_cut, 6, some .int, 4, 86)
set_option maxRecDepth 100000 in
theorem ci_X9_cut : CodeIn d_X9_cut := UW_in 454 rfl rfl
theorem yok_X9_cut : YOk d_X9_cut 4 := by decide +kernel
def d_X9_now : MD := (yX9_now, cX9_now, 2, some .int, 4, 86)
set_option maxRecDepth 100000 in
theorem ci_X9_now : CodeIn d_X9_now := UW_in 490 rfl rfl
theorem yok_X9_now : YOk d_X9_now 1 := by decide +kernel
def d_X9_tale : MD := (yX9_tale, cX9_tale, 9, some .int, 5, 113)
set_option maxRecDepth 100000 in
theorem ci_X9_tale : CodeIn d_X9_tale := UW_in 498 rfl rfl
theorem yok_X9_tale : YOk d_X9_tale 5 := by decide +kernel
def d_X9_cuts : MD := (yX9_cuts, cX9_cuts, 1, some .int, 6, 128)
set_option maxRecDepth 100000 in
theorem ci_X9_cuts : CodeIn d_X9_cuts := UW_in 508 rfl rfl
theorem yok_X9_cuts : YOk d_X9_cuts 0 := by decide +kernel
def d_X9_runs : MD := (yX9_runs, cX9_runs, 1, some .long, 6, 128)
set_option maxRecDepth 100000 in
theorem ci_X9_runs : CodeIn d_X9_runs := UW_in 548 rfl rfl
theorem yok_X9_runs : YOk d_X9_runs 0 := by decide +kernel
def d_X9_first : MD := (yX9_first, cX9_first, 2, some .int, 0, 0)
set_option maxRecDepth 100000 in
theorem ci_X9_first : CodeIn d_X9_first := UW_in 557 rfl rfl
theorem yok_X9_first : YOk d_X9_first 1 := by decide +kernel
def d_X9_some : MD := (yX9_some, cX9_some, 2, some .int, 6, 128)
set_option maxRecDepth 100000 in
theorem ci_X9_some : CodeIn d_X9_some := UW_in 561 rfl rfl
theorem yok_X9_some : YOk d_X9_some 1 := by decide +kernel
def d_X9_every : MD := (yX9_every, cX9_every, 2, some .int, 6, 128)
set_option maxRecDepth 100000 in
theorem ci_X9_every : CodeIn d_X9_every := UW_in 572 rfl rfl
theorem yok_X9_every : YOk d_X9_every 1 := by decide +kernel
def d_X9_reading : MD := (yX9_reading, cX9_reading, 7, some .int, 3, 72)
set_option maxRecDepth 100000 in
theorem ci_X9_reading : CodeIn d_X9_reading := UW_in 584 rfl rfl
theorem yok_X9_reading : YOk d_X9_reading 4 := by decide +kernel
def d_X9_back : MD := (yX9_back, cX9_back, 2, some .int, 0, 0)
set_option maxRecDepth 100000 in
theorem ci_X9_back : CodeIn d_X9_back := UW_in 588 rfl rfl
theorem yok_X9_back : YOk d_X9_back 1 := by decide +kernel
def d_X9_kinds : MD := (yX9_kinds, cX9_kinds, 4, some .int, 5, 112)
set_option maxRecDepth 100000 in
theorem ci_X9_kinds : CodeIn d_X9_kinds := UW_in 592 rfl rfl
theorem yok_X9_kinds : YOk d_X9_kinds 1 := by decide +kernel
def d_X9_odds : MD := (yX9_odds, cX9_odds, 6, some .long, 6, 128)
set_option maxRecDepth 100000 in
theorem ci_X9_odds : CodeIn d_X9_odds := UW_in 601 rfl rfl
theorem yok_X9_odds : YOk d_X9_odds 2 := by decide +kernel
def d_X9_sheet : MD := (yX9_sheet, cX9_sheet, 4, some .int, 2, 45)
set_option maxRecDepth 100000 in
theorem ci_X9_sheet : CodeIn d_X9_sheet := UW_in 608 rfl rfl
theorem yok_X9_sheet : YOk d_X9_sheet 3 := by decide +kernel
def d_X9_lose : MD := (yX9_lose, cX9_lose, 3, some .int, 1, 20)
set_option maxRecDepth 100000 in
theorem ci_X9_lose : CodeIn d_X9_lose := UW_in 617 rfl rfl
theorem yok_X9_lose : YOk d_X9_lose 1 := by decide +kernel
def d_X9_put : MD := (yX9_put, cX9_put, 4, some .int, 1, 22)
set_option maxRecDepth 100000 in
theorem ci_X9_put : CodeIn d_X9_put := UW_in 621 rfl rfl
theorem yok_X9_put : YOk d_X9_put 3 := by decide +kernel
def d_X9_cell : MD := (yX9_cell, cX9_cell, 4, some .long, 2, 45)
set_option maxRecDepth 100000 in
theorem ci_X9_cell : CodeIn d_X9_cell := UW_in 630 rfl rfl
theorem yok_X9_cell : YOk d_X9_cell 3 := by decide +kernel
def d_X9_copy : MD := (yX9_copy, cX9_copy, 8, some .int, 1, 22)
set_option maxRecDepth 100000 in
theorem ci_X9_copy : CodeIn d_X9_copy := UW_in 634 rfl rfl
theorem yok_X9_copy : YOk d_X9_copy 5 := by decide +kernel
def d_X9_tell : MD := (yX9_tell, cX9_tell, 3, some .int, 5, 110)
set_option maxRecDepth 100000 in
theorem ci_X9_tell : CodeIn d_X9_tell := UW_in 638 rfl rfl
theorem yok_X9_tell : YOk d_X9_tell 1 := by decide +kernel
def d_X9_ring : MD := (yX9_ring, cX9_ring, 2, some .int, 2, 43)
set_option maxRecDepth 100000 in
theorem ci_X9_ring : CodeIn d_X9_ring := UW_in 668 rfl rfl
theorem yok_X9_ring : YOk d_X9_ring 1 := by decide +kernel
def d_X9_as : MD := (yX9_as, cX9_as, 3, some .int, 1, 21)
set_option maxRecDepth 100000 in
theorem ci_X9_as : CodeIn d_X9_as := UW_in 681 rfl rfl
theorem yok_X9_as : YOk d_X9_as 2 := by decide +kernel
def d_X9_trace : MD := (yX9_trace, cX9_trace, 1, some .int, 0, 0)
set_option maxRecDepth 100000 in
theorem ci_X9_trace : CodeIn d_X9_trace := UW_in 690 rfl rfl
theorem yok_X9_trace : YOk d_X9_trace 0 := by decide +kernel
def d_X9_fault : MD := (yX9_fault, cX9_fault, 1, some .int, 0, 0)
set_option maxRecDepth 100000 in
theorem ci_X9_fault : CodeIn d_X9_fault := UW_in 694 rfl rfl
theorem yok_X9_fault : YOk d_X9_fault 0 := by decide +kernel
def d_X9_many : MD := (yX9_many, cX9_many, 2, some .int, 1, 23)
set_option maxRecDepth 100000 in
theorem ci_X9_many : CodeIn d_X9_many := UW_in 698 rfl rfl
theorem yok_X9_many : YOk d_X9_many 1 := by decide +kernel
def d_X9_isSheet : MD := (yX9_isSheet, cX9_isSheet, 1, some .boolean, 0, 0)
set_option maxRecDepth 100000 in
theorem ci_X9_isSheet : CodeIn d_X9_isSheet := UW_in 204 rfl rfl
theorem yok_X9_isSheet : YOk d_X9_isSheet 1 := by decide +kernel
def d_X9_isLane : MD := (yX9_isLane, cX9_isLane, 1, some .boolean, 0, 0)
set_option maxRecDepth 100000 in
theorem ci_X9_isLane : CodeIn d_X9_isLane := UW_in 207 rfl rfl
theorem yok_X9_isLane : YOk d_X9_isLane 1 := by decide +kernel
def d_X9_isSum : MD := (yX9_isSum, cX9_isSum, 1, some .boolean, 0, 0)
set_option maxRecDepth 100000 in
theorem ci_X9_isSum : CodeIn d_X9_isSum := UW_in 564 rfl rfl
theorem yok_X9_isSum : YOk d_X9_isSum 1 := by decide +kernel
def d_X9_isOfVillage : MD := (yX9_isOfVillage, cX9_isOfVillage, 1, some .boolean, 0, 0)
set_option maxRecDepth 100000 in
theorem ci_X9_isOfVillage : CodeIn d_X9_isOfVillage := UW_in 420 rfl rfl
theorem yok_X9_isOfVillage : YOk d_X9_isOfVillage 1 := by decide +kernel
def d_X9_isQuestion : MD := (yX9_isQuestion, cX9_isQuestion, 1, some .boolean, 1, 20)
set_option maxRecDepth 100000 in
theorem ci_X9_isQuestion : CodeIn d_X9_isQuestion := UW_in 457 rfl rfl
theorem yok_X9_isQuestion : YOk d_X9_isQuestion 1 := by decide +kernel
def d_X9_isOfKind : MD := (yX9_isOfKind, cX9_isOfKind, 2, some .boolean, 0, 0)
set_option maxRecDepth 100000 in
theorem ci_X9_isOfKind : CodeIn d_X9_isOfKind := UW_in 684 rfl rfl
theorem yok_X9_isOfKind : YOk d_X9_isOfKind 2 := by decide +kernel
def d_X9_fallen : MD := (yX9_fallen, cX9_fallen, 2, some .int, 0, 0)
set_option maxRecDepth 100000 in
theorem ci_X9_fallen : CodeIn d_X9_fallen := UW_in 219 rfl rfl
theorem yok_X9_fallen : YOk d_X9_fallen 1 := by decide +kernel
def d_X9_countOf : MD := (yX9_countOf, cX9_countOf, 3, some .int, 1, 21)
set_option maxRecDepth 100000 in
theorem ci_X9_countOf : CodeIn d_X9_countOf := UW_in 486 rfl rfl
theorem yok_X9_countOf : YOk d_X9_countOf 2 := by decide +kernel
def d_X9_takeCut : MD := (yX9_takeCut, cX9_takeCut, 8, some .int, 2, 45)
set_option maxRecDepth 100000 in
theorem ci_X9_takeCut : CodeIn d_X9_takeCut := UW_in 461 rfl rfl
theorem yok_X9_takeCut : YOk d_X9_takeCut 4 := by decide +kernel
def d_X9_endOfTale : MD := (yX9_endOfTale, cX9_endOfTale, 8, some .int, 4, 86)
set_option maxRecDepth 100000 in
theorem ci_X9_endOfTale : CodeIn d_X9_endOfTale := UW_in 502 rfl rfl
theorem yok_X9_endOfTale : YOk d_X9_endOfTale 4 := by decide +kernel
def d_X9_surveyed : MD := (yX9_surveyed, cX9_surveyed, 1, some (.object RX6), 5, 108)
set_option maxRecDepth 100000 in
theorem ci_X9_surveyed : CodeIn d_X9_surveyed := UW_in 512 rfl rfl
theorem yok_X9_surveyed : YOk d_X9_surveyed 0 := by decide +kernel
def d_X9_areReadingsSo : MD := (yX9_areReadingsSo, cX9_areReadingsSo, 7, some .boolean, 4, 86)
set_option maxRecDepth 100000 in
theorem ci_X9_areReadingsSo : CodeIn d_X9_areReadingsSo := UW_in 596 rfl rfl
theorem yok_X9_areReadingsSo : YOk d_X9_areReadingsSo 2 := by decide +kernel
def d_X9_commonDivisor : MD := (yX9_commonDivisor, cX9_commonDivisor, 6, some .int, 0, 0)
set_option maxRecDepth 100000 in
theorem ci_X9_commonDivisor : CodeIn d_X9_commonDivisor := UW_in 604 rfl rfl
theorem yok_X9_commonDivisor : YOk d_X9_commonDivisor 2 := by decide +kernel
def d_X10_init : MD := (yX10_init, cX10_init, 1, none, 1, 20)
set_option maxRecDepth 100000 in
theorem ci_X10_init : CodeIn d_X10_init := UW_in 707 rfl rfl
theorem yok_X10_init : YOk d_X10_init 0 := by decide +kernel
def d_X10_fails : MD := (yX10_fails, cX10_fails, 2, some .int, 0, 0)
set_option maxRecDepth 100000 in
theorem ci_X10_fails : CodeIn d_X10_fails := UW_in 811 rfl rfl
theorem yok_X10_fails : YOk d_X10_fails 1 := by decide +kernel
def d_X10_lost : MD := (yX10_lost, cX10_lost, 2, some .long, 0, 0)
set_option maxRecDepth 100000 in
theorem ci_X10_lost : CodeIn d_X10_lost := UW_in 1039 rfl rfl
theorem yok_X10_lost : YOk d_X10_lost 1 := by decide +kernel
def d_X10_within : MD := (yX10_within, cX10_within, 3, some .boolean, 0, 0)
set_option maxRecDepth 100000 in
theorem ci_X10_within : CodeIn d_X10_within := UW_in 800 rfl rfl
theorem yok_X10_within : YOk d_X10_within 3 := by decide +kernel
def d_X10_isSheet : MD := (yX10_isSheet, cX10_isSheet, 1, some .boolean, 1, 22)
set_option maxRecDepth 100000 in
theorem ci_X10_isSheet : CodeIn d_X10_isSheet := UW_in 797 rfl rfl
theorem yok_X10_isSheet : YOk d_X10_isSheet 1 := by decide +kernel
def d_X10_isSort : MD := (yX10_isSort, cX10_isSort, 1, some .boolean, 1, 22)
set_option maxRecDepth 100000 in
theorem ci_X10_isSort : CodeIn d_X10_isSort := UW_in 803 rfl rfl
theorem yok_X10_isSort : YOk d_X10_isSort 1 := by decide +kernel
def d_X10_against : MD := (yX10_against, cX10_against, 5, some .int, 0, 0)
set_option maxRecDepth 100000 in
theorem ci_X10_against : CodeIn d_X10_against := UW_in 807 rfl rfl
theorem yok_X10_against : YOk d_X10_against 4 := by decide +kernel
def d_X10_isVillage : MD := (yX10_isVillage, cX10_isVillage, 2, some .boolean, 0, 0)
set_option maxRecDepth 100000 in
theorem ci_X10_isVillage : CodeIn d_X10_isVillage := UW_in 867 rfl rfl
theorem yok_X10_isVillage : YOk d_X10_isVillage 1 := by decide +kernel
def d_X10_isThing : MD := (yX10_isThing, cX10_isThing, 3, some .boolean, 1, 21)
set_option maxRecDepth 100000 in
theorem ci_X10_isThing : CodeIn d_X10_isThing := UW_in 895 rfl rfl
theorem yok_X10_isThing : YOk d_X10_isThing 2 := by decide +kernel
def d_X10_digit : MD := (yX10_digit, cX10_digit, 3, some .int, 1, 22)
set_option maxRecDepth 100000 in
theorem ci_X10_digit : CodeIn d_X10_digit := UW_in 835 rfl rfl
theorem yok_X10_digit : YOk d_X10_digit 2 := by decide +kernel
def d_X10_isSign : MD := (yX10_isSign, cX10_isSign, 3, some .boolean, 0, 0)
set_option maxRecDepth 100000 in
theorem ci_X10_isSign : CodeIn d_X10_isSign := UW_in 819 rfl rfl
theorem yok_X10_isSign : YOk d_X10_isSign 2 := by decide +kernel
def d_X10_land : MD := (yX10_land, cX10_land, 8, some .int, 5, 111)
set_option maxRecDepth 100000 in
theorem ci_X10_land : CodeIn d_X10_land := UW_in 794 rfl rfl
theorem yok_X10_land : YOk d_X10_land 4 := by decide +kernel
def d_X10_takeLand : MD := (yX10_takeLand, cX10_takeLand, 2, none, 0, 0)
set_option maxRecDepth 100000 in
theorem ci_X10_takeLand : CodeIn d_X10_takeLand := UW_in 859 rfl rfl
theorem yok_X10_takeLand : YOk d_X10_takeLand 0 := by decide +kernel
def d_X10_readLand : MD := (yX10_readLand, cX10_readLand, 2, some .boolean, 4, 90)
set_option maxRecDepth 100000 in
theorem ci_X10_readLand : CodeIn d_X10_readLand := UW_in 815 rfl rfl
theorem yok_X10_readLand : YOk d_X10_readLand 1 := by decide +kernel
def d_X10_readVillage : MD := (yX10_readVillage, cX10_readVillage, 4, some .boolean, 3, 67)
set_option maxRecDepth 100000 in
theorem ci_X10_readVillage : CodeIn d_X10_readVillage := UW_in 823 rfl rfl
theorem yok_X10_readVillage : YOk d_X10_readVillage 1 := by decide +kernel
def d_X10_isThingNext : MD := (yX10_isThingNext, cX10_isThingNext, 2, some .boolean, 0, 0)
set_option maxRecDepth 100000 in
theorem ci_X10_isThingNext : CodeIn d_X10_isThingNext := UW_in 827 rfl rfl
theorem yok_X10_isThingNext : YOk d_X10_isThingNext 1 := by decide +kernel
def d_X10_readThing : MD := (yX10_readThing, cX10_readThing, 4, some .boolean, 2, 44)
set_option maxRecDepth 100000 in
theorem ci_X10_readThing : CodeIn d_X10_readThing := UW_in 831 rfl rfl
theorem yok_X10_readThing : YOk d_X10_readThing 1 := by decide +kernel
def d_X10_firstAmiss : MD := (yX10_firstAmiss, cX10_firstAmiss, 6, some .int, 0, 0)
set_option maxRecDepth 100000 in
theorem ci_X10_firstAmiss : CodeIn d_X10_firstAmiss := UW_in 839 rfl rfl
theorem yok_X10_firstAmiss : YOk d_X10_firstAmiss 0 := by decide +kernel
def d_X10_isCircle : MD := (yX10_isCircle, cX10_isCircle, 4, some .boolean, 2, 49)
set_option maxRecDepth 100000 in
theorem ci_X10_isCircle : CodeIn d_X10_isCircle := UW_in 843 rfl rfl
theorem yok_X10_isCircle : YOk d_X10_isCircle 0 := by decide +kernel
def d_X10_startAheads : MD := (yX10_startAheads, cX10_startAheads, 5, none, 0, 0)
set_option maxRecDepth 100000 in
theorem ci_X10_startAheads : CodeIn d_X10_startAheads := UW_in 847 rfl rfl
theorem yok_X10_startAheads : YOk d_X10_startAheads 2 := by decide +kernel
def d_X10_goesOn : MD := (yX10_goesOn, cX10_goesOn, 4, some .boolean, 1, 26)
set_option maxRecDepth 100000 in
theorem ci_X10_goesOn : CodeIn d_X10_goesOn := UW_in 851 rfl rfl
theorem yok_X10_goesOn : YOk d_X10_goesOn 0 := by decide +kernel
def d_X10_takesFromAheads : MD := (yX10_takesFromAheads, cX10_takesFromAheads, 7, some .boolean, 0, 0)
set_option maxRecDepth 100000 in
theorem ci_X10_takesFromAheads : CodeIn d_X10_takesFromAheads := UW_in 855 rfl rfl
theorem yok_X10_takesFromAheads : YOk d_X10_takesFromAheads 1 := by decide +kernel
def d_X10_aheadOf : MD := (yX10_aheadOf, cX10_aheadOf, 4, some .int, 0, 0)
set_option maxRecDepth 100000 in
theorem ci_X10_aheadOf : CodeIn d_X10_aheadOf := UW_in 887 rfl rfl
theorem yok_X10_aheadOf : YOk d_X10_aheadOf 3 := by decide +kernel
def d_X10_valueOf : MD := (yX10_valueOf, cX10_valueOf, 4, some .int, 0, 0)
set_option maxRecDepth 100000 in
theorem ci_X10_valueOf : CodeIn d_X10_valueOf := UW_in 875 rfl rfl
theorem yok_X10_valueOf : YOk d_X10_valueOf 1 := by decide +kernel
def d_X10_worthOf : MD := (yX10_worthOf, cX10_worthOf, 3, some .int, 1, 23)
set_option maxRecDepth 100000 in
theorem ci_X10_worthOf : CodeIn d_X10_worthOf := UW_in 879 rfl rfl
theorem yok_X10_worthOf : YOk d_X10_worthOf 1 := by decide +kernel
def d_X10_sumOf : MD := (yX10_sumOf, cX10_sumOf, 3, some .int, 2, 45)
set_option maxRecDepth 100000 in
theorem ci_X10_sumOf : CodeIn d_X10_sumOf := UW_in 931 rfl rfl
theorem yok_X10_sumOf : YOk d_X10_sumOf 0 := by decide +kernel
def d_X10_lettersBy : MD := (yX10_lettersBy, cX10_lettersBy, 5, some .int, 0, 0)
set_option maxRecDepth 100000 in
theorem ci_X10_lettersBy : CodeIn d_X10_lettersBy := UW_in 939 rfl rfl
theorem yok_X10_lettersBy : YOk d_X10_lettersBy 1 := by decide +kernel
def d_X10_underWay : MD := (yX10_underWay, cX10_underWay, 1, some .int, 1, 24)
set_option maxRecDepth 100000 in
theorem ci_X10_underWay : CodeIn d_X10_underWay := UW_in 935 rfl rfl
theorem yok_X10_underWay : YOk d_X10_underWay 0 := by decide +kernel
def d_X10_isReady : MD := (yX10_isReady, cX10_isReady, 3, some .boolean, 1, 23)
set_option maxRecDepth 100000 in
theorem ci_X10_isReady : CodeIn d_X10_isReady := UW_in 883 rfl rfl
theorem yok_X10_isReady : YOk d_X10_isReady 1 := by decide +kernel
def d_X10_canBe : MD := (yX10_canBe, cX10_canBe, 3, some .boolean, 1, 23)
set_option maxRecDepth 100000 in
theorem ci_X10_canBe : CodeIn d_X10_canBe := UW_in 927 rfl rfl
theorem yok_X10_canBe : YOk d_X10_canBe 0 := by decide +kernel
def d_X10_close : MD := (yX10_close, cX10_close, 5, none, 1, 23)
set_option maxRecDepth 100000 in
theorem ci_X10_close : CodeIn d_X10_close := UW_in 943 rfl rfl
theorem yok_X10_close : YOk d_X10_close 0 := by decide +kernel
def d_X10_inCut : MD := (yX10_inCut, cX10_inCut, 3, some .int, 0, 0)
set_option maxRecDepth 100000 in
theorem ci_X10_inCut : CodeIn d_X10_inCut := UW_in 911 rfl rfl
theorem yok_X10_inCut : YOk d_X10_inCut 0 := by decide +kernel
def d_X10_takeNow : MD := (yX10_takeNow, cX10_takeNow, 2, none, 0, 0)
set_option maxRecDepth 100000 in
theorem ci_X10_takeNow : CodeIn d_X10_takeNow := UW_in 871 rfl rfl
theorem yok_X10_takeNow : YOk d_X10_takeNow 0 := by decide +kernel
def d_X10_ofVillage : MD := (yX10_ofVillage, cX10_ofVillage, 3, some .int, 2, 45)
set_option maxRecDepth 100000 in
theorem ci_X10_ofVillage : CodeIn d_X10_ofVillage := UW_in 863 rfl rfl
theorem yok_X10_ofVillage : YOk d_X10_ofVillage 2 := by decide +kernel
def d_X10_thing : MD := (yX10_thing, cX10_thing, 6, some .int, 2, 43)
set_option maxRecDepth 100000 in
theorem ci_X10_thing : CodeIn d_X10_thing := UW_in 891 rfl rfl
theorem yok_X10_thing : YOk d_X10_thing 3 := by decide +kernel
def d_X10_ahead : MD := (yX10_ahead, cX10_ahead, 5, some .int, 2, 43)
set_option maxRecDepth 100000 in
theorem ci_X10_ahead : CodeIn d_X10_ahead := UW_in 899 rfl rfl
theorem yok_X10_ahead : YOk d_X10_ahead 4 := by decide +kernel
def d_X10_happen : MD := (yX10_happen, cX10_happen, 2, some .int, 2, 45)
set_option maxRecDepth 100000 in
theorem ci_X10_happen : CodeIn d_X10_happen := UW_in 903 rfl rfl
theorem yok_X10_happen : YOk d_X10_happen 1 := by decide +kernel
def d_X10_anew : MD := (yX10_anew, cX10_anew, 2, some .int, 1, 22)
set_option maxRecDepth 100000 in
theorem ci_X10_anew : CodeIn d_X10_anew := UW_in 907 rfl rfl
theorem yok_X10_anew : YOk d_X10_anew 0 := by decide +kernel
def d_X10_refusesCells : MD := (yX10_refusesCells, cX10_refusesCells, 3, some .int, 1, 22)
set_option maxRecDepth 100000 in
theorem ci_X10_refusesCells : CodeIn d_X10_refusesCells := UW_in 919 rfl rfl
theorem yok_X10_refusesCells : YOk d_X10_refusesCells 1 := by decide +kernel
def d_X10_takeCells : MD := (yX10_takeCells, cX10_takeCells, 3, none, 0, 0)
set_option maxRecDepth 100000 in
theorem ci_X10_takeCells : CodeIn d_X10_takeCells := UW_in 923 rfl rfl
theorem yok_X10_takeCells : YOk d_X10_takeCells 1 := by decide +kernel
def d_X10_cut : MD := (yX10_cut, cX10_cut, 7, some .int, 3, 67)
set_option maxRecDepth 100000 in
theorem ci_X10_cut : CodeIn d_X10_cut := UW_in 915 rfl rfl
theorem yok_X10_cut : YOk d_X10_cut 4 := by decide +kernel
def d_X10_now : MD := (yX10_now, cX10_now, 4, some .int, 3, 67)
set_option maxRecDepth 100000 in
theorem ci_X10_now : CodeIn d_X10_now := UW_in 947 rfl rfl
theorem yok_X10_now : YOk d_X10_now 1 := by decide +kernel
def d_X10_goTale : MD := (yX10_goTale, cX10_goTale, 5, some .int, 3, 67)
set_option maxRecDepth 100000 in
theorem ci_X10_goTale : CodeIn d_X10_goTale := UW_in 955 rfl rfl
theorem yok_X10_goTale : YOk d_X10_goTale 2 := by decide +kernel
def d_X10_tale : MD := (yX10_tale, cX10_tale, 9, some .int, 4, 91)
set_option maxRecDepth 100000 in
theorem ci_X10_tale : CodeIn d_X10_tale := UW_in 951 rfl rfl
theorem yok_X10_tale : YOk d_X10_tale 5 := by decide +kernel
def d_X10_tellTale : MD := (yX10_tellTale, cX10_tellTale, 2, some .int, 3, 67)
set_option maxRecDepth 100000 in
theorem ci_X10_tellTale : CodeIn d_X10_tellTale := UW_in 959 rfl rfl
theorem yok_X10_tellTale : YOk d_X10_tellTale 1 := by decide +kernel
def d_X10_isCut : MD := (yX10_isCut, cX10_isCut, 4, some .boolean, 2, 45)
set_option maxRecDepth 100000 in
theorem ci_X10_isCut : CodeIn d_X10_isCut := UW_in 967 rfl rfl
theorem yok_X10_isCut : YOk d_X10_isCut 1 := by decide +kernel
def d_X10_allThings : MD := (yX10_allThings, cX10_allThings, 3, some .int, 0, 0)
set_option maxRecDepth 100000 in
theorem ci_X10_allThings : CodeIn d_X10_allThings := UW_in 988 rfl rfl
theorem yok_X10_allThings : YOk d_X10_allThings 0 := by decide +kernel
def d_X10_lastCode : MD := (yX10_lastCode, cX10_lastCode, 3, some .int, 0, 0)
set_option maxRecDepth 100000 in
theorem ci_X10_lastCode : CodeIn d_X10_lastCode := UW_in 980 rfl rfl
theorem yok_X10_lastCode : YOk d_X10_lastCode 0 := by decide +kernel
def d_X10_cuts : MD := (yX10_cuts, cX10_cuts, 3, some .int, 3, 68)
set_option maxRecDepth 100000 in
theorem ci_X10_cuts : CodeIn d_X10_cuts := UW_in 963 rfl rfl
theorem yok_X10_cuts : YOk d_X10_cuts 0 := by decide +kernel
def d_X10_findWays : MD := (yX10_findWays, cX10_findWays, 5, none, 3, 68)
set_option maxRecDepth 100000 in
theorem ci_X10_findWays : CodeIn d_X10_findWays := UW_in 976 rfl rfl
theorem yok_X10_findWays : YOk d_X10_findWays 1 := by decide +kernel
def d_X10_runs : MD := (yX10_runs, cX10_runs, 1, some .long, 4, 92)
set_option maxRecDepth 100000 in
theorem ci_X10_runs : CodeIn d_X10_runs := UW_in 971 rfl rfl
theorem yok_X10_runs : YOk d_X10_runs 0 := by decide +kernel
def d_X10_first : MD := (yX10_first, cX10_first, 4, some .int, 2, 45)
set_option maxRecDepth 100000 in
theorem ci_X10_first : CodeIn d_X10_first := UW_in 984 rfl rfl
theorem yok_X10_first : YOk d_X10_first 1 := by decide +kernel
def d_X10_some : MD := (yX10_some, cX10_some, 4, some .int, 3, 68)
set_option maxRecDepth 100000 in
theorem ci_X10_some : CodeIn d_X10_some := UW_in 992 rfl rfl
theorem yok_X10_some : YOk d_X10_some 1 := by decide +kernel
def d_X10_every : MD := (yX10_every, cX10_every, 2, some .int, 4, 92)
set_option maxRecDepth 100000 in
theorem ci_X10_every : CodeIn d_X10_every := UW_in 996 rfl rfl
theorem yok_X10_every : YOk d_X10_every 1 := by decide +kernel
def d_X10_reading : MD := (yX10_reading, cX10_reading, 8, some .int, 2, 44)
set_option maxRecDepth 100000 in
theorem ci_X10_reading : CodeIn d_X10_reading := UW_in 1000 rfl rfl
theorem yok_X10_reading : YOk d_X10_reading 4 := by decide +kernel
def d_X10_back : MD := (yX10_back, cX10_back, 2, some .int, 1, 22)
set_option maxRecDepth 100000 in
theorem ci_X10_back : CodeIn d_X10_back := UW_in 1004 rfl rfl
theorem yok_X10_back : YOk d_X10_back 1 := by decide +kernel
def d_X10_areSo : MD := (yX10_areSo, cX10_areSo, 3, some .boolean, 3, 67)
set_option maxRecDepth 100000 in
theorem ci_X10_areSo : CodeIn d_X10_areSo := UW_in 1012 rfl rfl
theorem yok_X10_areSo : YOk d_X10_areSo 0 := by decide +kernel
def d_X10_kinds : MD := (yX10_kinds, cX10_kinds, 5, some .int, 4, 89)
set_option maxRecDepth 100000 in
theorem ci_X10_kinds : CodeIn d_X10_kinds := UW_in 1008 rfl rfl
theorem yok_X10_kinds : YOk d_X10_kinds 1 := by decide +kernel
def d_X10_inLeastTerms : MD := (yX10_inLeastTerms, cX10_inLeastTerms, 11, some .long, 0, 0)
set_option maxRecDepth 100000 in
theorem ci_X10_inLeastTerms : CodeIn d_X10_inLeastTerms := UW_in 1019 rfl rfl
theorem yok_X10_inLeastTerms : YOk d_X10_inLeastTerms 3 := by decide +kernel
def d_X10_odds : MD := (yX10_odds, cX10_odds, 6, some .long, 3, 68)
set_option maxRecDepth 100000 in
theorem ci_X10_odds : CodeIn d_X10_odds := UW_in 1016 rfl rfl
theorem yok_X10_odds : YOk d_X10_odds 2 := by decide +kernel
def d_X10_sheet : MD := (yX10_sheet, cX10_sheet, 5, some .int, 2, 42)
set_option maxRecDepth 100000 in
theorem ci_X10_sheet : CodeIn d_X10_sheet := UW_in 1023 rfl rfl
theorem yok_X10_sheet : YOk d_X10_sheet 3 := by decide +kernel
def d_X10_lose : MD := (yX10_lose, cX10_lose, 3, some .int, 2, 42)
set_option maxRecDepth 100000 in
theorem ci_X10_lose : CodeIn d_X10_lose := UW_in 1027 rfl rfl
theorem yok_X10_lose : YOk d_X10_lose 1 := by decide +kernel
def d_X10_put : MD := (yX10_put, cX10_put, 4, some .int, 2, 42)
set_option maxRecDepth 100000 in
theorem ci_X10_put : CodeIn d_X10_put := UW_in 1031 rfl rfl
theorem yok_X10_put : YOk d_X10_put 3 := by decide +kernel
def d_X10_cell : MD := (yX10_cell, cX10_cell, 4, some .long, 2, 42)
set_option maxRecDepth 100000 in
theorem ci_X10_cell : CodeIn d_X10_cell := UW_in 1035 rfl rfl
theorem yok_X10_cell : YOk d_X10_cell 3 := by decide +kernel
def d_X10_copy : MD := (yX10_copy, cX10_copy, 10, some .int, 2, 42)
set_option maxRecDepth 100000 in
theorem ci_X10_copy : CodeIn d_X10_copy := UW_in 1043 rfl rfl
theorem yok_X10_copy : YOk d_X10_copy 5 := by decide +kernel
def d_X10_begins : MD := (yX10_begins, cX10_begins, 2, none, 0, 0)
set_option maxRecDepth 100000 in
theorem ci_X10_begins : CodeIn d_X10_begins := UW_in 1051 rfl rfl
theorem yok_X10_begins : YOk d_X10_begins 1 := by decide +kernel
def d_X10_tell : MD := (yX10_tell, cX10_tell, 3, some .int, 1, 23)
set_option maxRecDepth 100000 in
theorem ci_X10_tell : CodeIn d_X10_tell := UW_in 1047 rfl rfl
theorem yok_X10_tell : YOk d_X10_tell 1 := by decide +kernel
def d_X10_ring : MD := (yX10_ring, cX10_ring, 2, some .int, 1, 21)
set_option maxRecDepth 100000 in
theorem ci_X10_ring : CodeIn d_X10_ring := UW_in 1055 rfl rfl
theorem yok_X10_ring : YOk d_X10_ring 1 := by decide +kernel
def d_X10_as : MD := (yX10_as, cX10_as, 3, some .int, 1, 22)
set_option maxRecDepth 100000 in
theorem ci_X10_as : CodeIn d_X10_as := UW_in 1059 rfl rfl
theorem yok_X10_as : YOk d_X10_as 2 := by decide +kernel
def d_X10_trace : MD := (yX10_trace, cX10_trace, 1, some .int, 0, 0)
set_option maxRecDepth 100000 in
theorem ci_X10_trace : CodeIn d_X10_trace := UW_in 1063 rfl rfl
theorem yok_X10_trace : YOk d_X10_trace 0 := by decide +kernel
def d_X10_fault : MD := (yX10_fault, cX10_fault, 1, some .int, 0, 0)
set_option maxRecDepth 100000 in
theorem ci_X10_fault : CodeIn d_X10_fault := UW_in 1067 rfl rfl
theorem yok_X10_fault : YOk d_X10_fault 0 := by decide +kernel
def d_X10_many : MD := (yX10_many, cX10_many, 5, some .int, 1, 22)
set_option maxRecDepth 100000 in
theorem ci_X10_many : CodeIn d_X10_many := UW_in 1071 rfl rfl
theorem yok_X10_many : YOk d_X10_many 1 := by decide +kernel
def d_J7_fill_d0a16 : MD := (yJ7_fill_d0a16, cJ7_fill_d0a16, 5, none, 0, 0)
set_option maxRecDepth 100000 in
theorem ci_J7_fill_d0a16 : CodeIn d_J7_fill_d0a16 := UW_in 524 rfl rfl
theorem yok_J7_fill_d0a16 : YOk d_J7_fill_d0a16 2 := by decide +kernel
def d_J7_fill_53178 : MD := (yJ7_fill_53178, cJ7_fill_53178, 4, none, 0, 0)
set_option maxRecDepth 100000 in
theorem ci_J7_fill_53178 : CodeIn d_J7_fill_53178 := UW_in 450 rfl rfl
theorem yok_J7_fill_53178 : YOk d_J7_fill_53178 2 := by decide +kernel
