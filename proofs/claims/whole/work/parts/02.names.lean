/-! ===== BEGIN words of one list among another's, by their places ===== -/
theorem goodIn_r {big : List Cond} (ws : List Cond) (ps : List Nat) (hp : ws = ps.filterMap (fun i => big[i]?)) (h : ws.all goodWord = true) : GoodIn big ws := by
  intro w hw
  have h1 := List.all_eq_true.mp h w hw
  rw [hp] at hw
  obtain ⟨i, -, hi⟩ := List.mem_filterMap.mp hw
  have hm : w ∈ big := by first | exact List.mem_of_getElem? hi | exact List.getElem?_mem hi
  exact ⟨hm, good_of_word h1⟩
theorem goodIn_app {big a b : List Cond} (ha : GoodIn big a) (hb : GoodIn big b) : GoodIn big (a ++ b) := fun w h => (List.mem_append.mp h).elim (ha w) (hb w)
theorem goodIn_ca {big a b : List Cond} {c : Cond} (ha : GoodIn big (c :: a)) (hb : GoodIn big b) : GoodIn big (c :: (a ++ b)) := fun w h => (List.mem_cons.mp h).elim (fun e => ha w (List.mem_cons.mpr (Or.inl e))) (fun h => (List.mem_append.mp h).elim (fun h => ha w (List.mem_cons.mpr (Or.inr h))) (hb w))
theorem goodIn_sub {big ws : List Cond} (hm : ∀ w ∈ ws, w ∈ big) (h : ws.all goodWord = true) : GoodIn big ws := fun w hw => ⟨hm w hw, good_of_word (List.all_eq_true.mp h w hw)⟩
/-! ===== END ===== -/

/-! ===== BEGIN new T[n][m]: the outer array a place, the inner ones among the pooled ===== -/
/-- f, but v at every address of l -/
def vr_up {α : Type} (f : Nat → α) (l : List Nat) (v : α) : Nat → α := fun a => if a ∈ l then v else f a
theorem vr_up_in {α : Type} {f : Nat → α} {l : List Nat} {v : α} {a : Nat} (h : a ∈ l) : vr_up f l v a = v := if_pos h
theorem vr_up_ne {α : Type} {f : Nat → α} {l : List Nat} {v : α} {a : Nat} (h : a ∉ l) : vr_up f l v a = f a := if_neg h
theorem vr_rows {L l : List Nat} {f : Nat → va_E} {e : va_E} (h : ∀ a, a ∈ l → a ∉ L) : va_pl L f ++ l.map (fun a => (a, e)) = va_pl (L ++ l) (vr_up f l e) := by
  unfold va_pl
  rw [List.map_append]
  congr 1
  · apply List.map_congr_left
    intro a ha
    rw [vr_up_ne (fun q => h a q ha)]
  · apply List.map_congr_left
    intro a ha
    rw [vr_up_in ha]
theorem vr_lay {X rows : va_W} {x : Nat × va_E} {pl : va_W} {D : va_G} {cl : List vw_C} {H : Heap} (hP : va_P D cl (((X ++ pl) ++ [x]) ++ rows) H) : va_P D cl ((X ++ [x]) ++ (pl ++ rows)) H := by
  rw [List.append_assoc (X ++ pl)] at hP
  have h := va_P.swap hP
  rw [← List.append_assoc X] at h
  have h2 := va_P.swap h
  rw [List.append_assoc (X ++ [x])] at h2
  exact h2
theorem vr_layD {X rows : va_W} {x : Nat × va_E} {pl : va_W} {A : Nat → Prop} (hD : va_D A (((X ++ pl) ++ [x]) ++ rows)) : va_D A ((X ++ [x]) ++ (pl ++ rows)) := by
  rw [List.append_assoc (X ++ pl)] at hD
  have h := va_D.swap hD
  rw [← List.append_assoc X] at h
  have h2 := va_D.swap h
  rw [List.append_assoc (X ++ [x])] at h2
  exact h2
theorem vr_outer (c : ClassId) (N h0 : Nat) : ∀ i : Nat, Jvm.Free.Multi.outerC c N h0 i = arrV c N (fun j => va_rf (if j < i then some (h0 + 1 + j) else none))
  | 0 => by
    show ({ cls := c, slots := Array.replicate N .null, vm := .none } : Cell) = _
    rw [arrV_new]
    refine congrArg (arrV c N) (funext fun j => ?_)
    simp [va_rf]
  | i + 1 => by
    show (Jvm.Free.Multi.outerC c N h0 i).setSlot i (.ref (h0 + 1 + i)) = _
    rw [vr_outer c N h0 i, arrV_store]
    refine congrArg (arrV c N) (funext fun j => ?_)
    by_cases e : j = i
    · subst e
      simp [updV, va_rf]
    · by_cases h : j < i
      · simp [updV, e, h, Nat.lt_succ_of_lt h]
      · simp [updV, e, h, show ¬ j < i + 1 by omega]
def va_AOA (ty : FieldType) (U : State) : Prop := (Cond.arrayOver (.array ty)).before #[] U = true
theorem va_AOA.of {ty : FieldType} {A : Array Value} {U : State} (h : (Cond.arrayOver (.array ty)).before A U = true) : va_AOA ty U := h
theorem va_AOA.use {ty : FieldType} {A : Array Value} {U : State} (h : va_AOA ty U) : (Cond.arrayOver (.array ty)).before A U = true := h
theorem va_AOA.moved {ty : FieldType} {u U : State} (hvm : u.vm.Alike U.vm) (h : va_AOA ty u) : va_AOA ty U := by
  have h1 : (Cond.arrayOver (.array ty)).before #[] (u.setVm U.vm) = true := by rw [Cond.arrayOver_setVmC hvm]; exact h
  exact h1
section VGM
variable {p : Program} {l : Launch} {e : Env} {R : Room} {s : State} {m : MethodId} {args : Array Value} {below : List Frame} {meth : Method} {c : Code} {H : Heap} {locs : List Loc} {cells slots : Nat} {Q : State → Prop}
variable {cc : ByteArray} {pc : Nat} {ls : Array Slot} {rest : List Value} {D : va_G} {cl : List vw_C} {A : Nat → Prop} {a : Nat} {tys : List (ClassId × FieldType)} {ws : va_W} {H0 : Heap}
theorem va_mna {X : va_W} {L : List Nat} {f : Nat → va_E} {cc : ByteArray} (hexec : p.tables.exec = Jvm.exec) (hb : c.code = cc) {own : String} {index : Nat} {ty : FieldType} {cy : ClassId} (hown : s.vm.findClass own = some m.cls) (hclink : (Cond.classLink own index ("[" ++ (FieldType.array ty).toString)).before args s = true) (hover : va_AOA ty s) (harr : (Cond.arrayClass ty).before args s = true) (hcy : s.vm.findClass (FieldType.array ty).toString = some cy)
    (hK : va_K D cl tys s) (hP : va_P D cl (X ++ va_pl L f) H) (hD : va_D A (X ++ va_pl L f)) (hS : va_S A H0 H locs) (hA : ∀ q, H0.size ≤ q → A q) {n k : Int32} {N' K' : Nat} {z : vp_A} (hn : ¬ n < 0) (hk : ¬ k < 0) (hN : n.toNatClampNeg = N') (hM : k.toNatClampNeg = K')
    (hb1 : N' * 4 ≤ 536870912) (hb2 : K' * componentBytes ty ≤ 536870912) (hb3 : K' ≤ 536870912) (hdf : fits ty (defaultValue ty) = true) (hdd : (defaultValue ty).isDefault = true) (hcells : cells + (1 + N') ≤ R.cells) (hslots : slots + (N' + N' * K') ≤ R.slots) (hz : ∀ c : ClassId, Jvm.Free.Multi.innerC c K' (defaultValue ty) = vp_cell c z) (hdg : decode cc pc = .ok (.multianewarray index 2, 4))
    (kk : ∀ (q : Nat) (r : Nat → Nat) (cA : ClassId) (H1 : Heap), (∀ i j : Nat, i < N' → j < N' → r i = r j → i = j) → (∀ i : Nat, i < N' → r i ∉ L) → va_K D cl (tys ++ [(cA, .array ty)]) s →
      va_P D cl ((X ++ [(q, .inl (cA, N', .inr (.inr (.inr (.inr (fun i => if i < N' then some (r i) else none))))))]) ++ va_pl (L ++ (List.range N').map r) (vr_up f ((List.range N').map r) (.inl (cy, z)))) H1 → va_D A ((X ++ [(q, .inl (cA, N', .inr (.inr (.inr (.inr (fun i => if i < N' then some (r i) else none))))))]) ++ va_pl (L ++ (List.range N').map r) (vr_up f ((List.range N').map r) (.inl (cy, z)))) → va_S A H0 H1 locs →
      W p l e R s m args below meth c H1 locs (cells + 1 + N') (slots + N' + N' * K') Q (F0 m (pc + 4) ls (.ref q :: rest))) : W p l e R s m args below meth c H locs cells slots Q (F0 m pc ls (.int k :: .int n :: rest)) := by
  subst hN
  subst hM
  intro T hT Xs
  obtain ⟨vm₁, cA, comp, -, fA, fC, hO, -, X', step⟩ := Xs.multianewarray2F hexec hown hclink (va_AOA.use hover) harr (g := F0 m pc ls (.int k :: .int n :: rest)) rfl (by rw [hb]; exact hdg) rfl hn hk hb1 hb2 hb3 hdf hdd hcells hslots
  have ec : some cy = some comp := hcy.symm.trans fC
  cases ec
  generalize hF : Jvm.Free.Multi.fill (T.setVm vm₁) cA cy n.toNatClampNeg k.toNatClampNeg (defaultValue ty) n.toNatClampNeg = F at X' step
  have hTh : (T.setVm vm₁).heap = H := hT
  obtain ⟨f1, f2, -, -⟩ := Jvm.Free.Multi.fill_facts (T.setVm vm₁) cA cy n.toNatClampNeg k.toNatClampNeg (defaultValue ty) n.toNatClampNeg
  rw [hF, hTh] at f1 f2
  have hold : ∀ x : Nat, x < H.size → F.heap[x]? = H[x]? := fun x hx => by
    have := Jvm.Free.Multi.fill_old (T.setVm vm₁) cA cy n.toNatClampNeg k.toNatClampNeg (defaultValue ty) (a := x) (by rw [hTh]; exact hx) n.toNatClampNeg
    rw [hF, hTh] at this
    exact this
  have hrow : ∀ j : Nat, j < n.toNatClampNeg → F.heap[H.size + 1 + j]? = some (vp_cell cy z) := fun j hj => by
    have := Jvm.Free.Multi.fill_inner (T.setVm vm₁) cA cy n.toNatClampNeg k.toNatClampNeg (defaultValue ty) n.toNatClampNeg j hj
    rw [hF, hTh, hz] at this
    exact this
  have hout : Jvm.Free.Multi.outerC cA n.toNatClampNeg H.size n.toNatClampNeg = vp_cell cA (n.toNatClampNeg, .inr (.inr (.inr (.inr (fun i => if i < n.toNatClampNeg then some (H.size + 1 + i) else none))))) := by
    rw [vp_cell_q]
    exact vr_outer cA n.toNatClampNeg H.size n.toNatClampNeg
  rw [hout] at f2
  have hlt : ∀ a, a ∈ L → a < H.size := fun a ha => by
    obtain ⟨k9, hk9⟩ := va_pl_get (X := X) (f := f) ha
    exact (hP k9 _ hk9).lt
  have hnl : ∀ i : Nat, i < n.toNatClampNeg → H.size + 1 + i ∉ L := fun i _ h => by
    have := hlt _ h
    omega
  have hnm : ∀ a, a ∈ (List.range n.toNatClampNeg).map (fun i => H.size + 1 + i) → a ∉ L := fun a ha h => by
    obtain ⟨i, -, rfl⟩ := List.mem_map.mp ha
    have := hlt _ h
    omega
  have hP0 : va_P D cl (X ++ va_pl L f) F.heap := hP.kept (fun k9 x hx => hold x.1 ((hP k9 x hx).lt))
  have hP1 : va_P D cl ((X ++ va_pl L f) ++ [(H.size, .inl (cA, n.toNatClampNeg, .inr (.inr (.inr (.inr (fun i => if i < n.toNatClampNeg then some (H.size + 1 + i) else none))))))]) F.heap := hP0.app (fun k9 x hx => by
    have h0 : k9 < 1 := (List.getElem?_eq_some_iff.mp hx).1
    rw [show k9 = 0 by omega] at hx
    cases hx
    exact f2)
  have hP2 : va_P D cl (((X ++ va_pl L f) ++ [(H.size, .inl (cA, n.toNatClampNeg, .inr (.inr (.inr (.inr (fun i => if i < n.toNatClampNeg then some (H.size + 1 + i) else none))))))]) ++ ((List.range n.toNatClampNeg).map (fun i => H.size + 1 + i)).map (fun a => (a, .inl (cy, z)))) F.heap := hP1.app (fun k9 x hx => by
    obtain ⟨a, ha, rfl⟩ := List.mem_map.mp (List.mem_of_getElem? hx)
    obtain ⟨i, hi, rfl⟩ := List.mem_map.mp ha
    exact hrow i (List.mem_range.mp hi))
  have hD2 : va_D A (((X ++ va_pl L f) ++ [(H.size, .inl (cA, n.toNatClampNeg, .inr (.inr (.inr (.inr (fun i => if i < n.toNatClampNeg then some (H.size + 1 + i) else none))))))]) ++ ((List.range n.toNatClampNeg).map (fun i => H.size + 1 + i)).map (fun a => (a, .inl (cy, z)))) := by
    have hD1 := hD.push (e := .inl (cA, n.toNatClampNeg, .inr (.inr (.inr (.inr (fun i => if i < n.toNatClampNeg then some (H.size + 1 + i) else none)))))) hP rfl (hA _ hS.1)
    generalize hW1 : (X ++ va_pl L f) ++ [(H.size, .inl (cA, n.toNatClampNeg, .inr (.inr (.inr (.inr (fun i => if i < n.toNatClampNeg then some (H.size + 1 + i) else none))))))] = W1 at hD1 hP1 ⊢
    have hle : ∀ (k9 : Nat) (x : Nat × va_E), W1[k9]? = some x → x.1 ≤ H.size := fun k9 x hx => by
      rw [← hW1] at hx
      by_cases hl : k9 < (X ++ va_pl L f).length
      · rw [List.getElem?_append_left hl] at hx
        exact Nat.le_of_lt ((hP k9 x hx).lt)
      · rw [List.getElem?_append_right (by omega)] at hx
        have h0 : k9 - (X ++ va_pl L f).length < 1 := (List.getElem?_eq_some_iff.mp hx).1
        rw [show k9 - (X ++ va_pl L f).length = 0 by omega] at hx
        cases hx
        exact Nat.le_refl _
    have hr : ∀ (k9 : Nat) (x : Nat × va_E), (((List.range n.toNatClampNeg).map (fun i => H.size + 1 + i)).map (fun a => ((a, .inl (cy, z)) : Nat × va_E)))[k9]? = some x → x.1 = H.size + 1 + k9 := fun k9 x hx => by
      rw [List.getElem?_map, List.getElem?_map] at hx
      by_cases h9 : k9 < n.toNatClampNeg
      · rw [List.getElem?_range h9] at hx
        cases hx
        rfl
      · have hn0 : (List.range n.toNatClampNeg)[k9]? = none := List.getElem?_eq_none (by rw [List.length_range]; omega)
        rw [hn0] at hx
        cases hx
    refine ⟨fun i j x y hi hj hxy => ?_, fun k9 x hx => ?_⟩
    · by_cases h1 : i < W1.length <;> by_cases h2 : j < W1.length
      · rw [List.getElem?_append_left h1] at hi
        rw [List.getElem?_append_left h2] at hj
        exact hD1.1 i j x y hi hj hxy
      · rw [List.getElem?_append_left h1] at hi
        rw [List.getElem?_append_right (by omega)] at hj
        have := hle _ _ hi
        have := hr _ _ hj
        omega
      · rw [List.getElem?_append_right (by omega)] at hi
        rw [List.getElem?_append_left h2] at hj
        have := hle _ _ hj
        have := hr _ _ hi
        omega
      · rw [List.getElem?_append_right (by omega)] at hi hj
        have := hr _ _ hi
        have := hr _ _ hj
        omega
    · by_cases h1 : k9 < W1.length
      · rw [List.getElem?_append_left h1] at hx
        exact hD1.2 k9 x hx
      · rw [List.getElem?_append_right (by omega)] at hx
        have := hr _ _ hx
        exact hA _ (by have := hS.1; omega)
  have hAr : ArrOfT s cA (.array ty) := fun N9 z9 => by
    obtain ⟨-, k9, hk9, cm9, hkk9⟩ := (hO 0 0 0).1
    exact ⟨(fun q hq => by cases hq), k9, hk9, cm9, hkk9⟩
  have hK2 : va_K D cl (tys ++ [(cA, .array ty)]) s := ⟨hK.1, fun k9 x hx => by
    by_cases hl : k9 < tys.length
    · rw [List.getElem?_append_left hl] at hx
      exact hK.2 k9 x hx
    · rw [List.getElem?_append_right (by omega)] at hx
      have h0 : k9 - tys.length < 1 := (List.getElem?_eq_some_iff.mp hx).1
      rw [show k9 - tys.length = 0 by omega] at hx
      cases hx
      exact ⟨hAr, fA⟩⟩
  obtain ⟨t, a1, b1⟩ := kk H.size (fun i => H.size + 1 + i) cA F.heap (fun i j _ _ h => by have h9 : H.size + 1 + i = H.size + 1 + j := h; omega) hnl hK2 (by rw [← vr_rows hnm]; exact vr_lay hP2) (by rw [← vr_rows hnm]; exact vr_layD hD2) ⟨by rw [f1]; have := hS.1; omega, fun x h1 h2 => (hold x (Nat.lt_of_lt_of_le h1 hS.1)).trans (hS.2.1 x h1 h2), hS.2.2⟩ F rfl X'
  refine ⟨t, step t ?_, b1⟩
  have e : T.heap.size = H.size := by rw [hT]
  rw [e]
  exact a1
end VGM
/-! ===== END ===== -/

def RX0 : String := "VillageCuts$Broad"
def TX0 : u_T := fun k => match k with
  | 0 => ("VillageCuts$Plain", "kind", "I", true)
  | 1 => ("VillageCuts$Plain", "what", "[I", true)
  | 2 => ("VillageCuts$Plain", "digit", "[I", true)
  | 3 => ("VillageCuts$Plain", "need", "[[I", true)
  | 4 => ("VillageCuts$Plain", "values", "[I", true)
  | _ => ("VillageCuts$Plain", "things", "I", false)
def tyX0 : Nat → FieldType := fun k => match k with
  | 0 => .int
  | 1 => .array .int
  | 2 => .array .int
  | 3 => .array (.array .int)
  | 4 => .array .int
  | _ => .int
abbrev wsX00 : List Cond := u_ws RX0 TX0 6
theorem nmX0 : ∀ a, a < 6 → ∀ b, b < 6 → a ≠ b → (TX0 a).2.1 ≠ (TX0 b).2.1 := by decide +kernel
theorem tyX0_ok : ∀ k, k < 6 → parseFieldDescriptor (TX0 k).2.2.1 = some (tyX0 k) := by decide +kernel
abbrev cX0_init : ByteArray := prog_2_method_1_code
def yX0_init : MethodName := ⟨RX0, "<init>", "(I)V"⟩
abbrev cX0_toldOf : ByteArray := prog_2_method_2_code
def yX0_toldOf : MethodName := ⟨RX0, "toldOf", "(LVillageCuts$Trace;I)I"⟩
def RX1 : String := "VillageCuts$Doubled"
def TX1 : u_T := fun k => match k with
  | 0 => ("VillageCuts$Plain", "kind", "I", true)
  | 1 => ("VillageCuts$Plain", "what", "[I", true)
  | 2 => ("VillageCuts$Plain", "digit", "[I", true)
  | 3 => ("VillageCuts$Plain", "need", "[[I", true)
  | 4 => ("VillageCuts$Plain", "values", "[I", true)
  | _ => ("VillageCuts$Plain", "things", "I", false)
def tyX1 : Nat → FieldType := fun k => match k with
  | 0 => .int
  | 1 => .array .int
  | 2 => .array .int
  | 3 => .array (.array .int)
  | 4 => .array .int
  | _ => .int
abbrev wsX10 : List Cond := u_ws RX1 TX1 6
theorem nmX1 : ∀ a, a < 6 → ∀ b, b < 6 → a ≠ b → (TX1 a).2.1 ≠ (TX1 b).2.1 := by decide +kernel
theorem tyX1_ok : ∀ k, k < 6 → parseFieldDescriptor (TX1 k).2.2.1 = some (tyX1 k) := by decide +kernel
abbrev cX1_init : ByteArray := prog_3_method_1_code
def yX1_init : MethodName := ⟨RX1, "<init>", "()V"⟩
abbrev cX1_toldOf : ByteArray := prog_3_method_2_code
def yX1_toldOf : MethodName := ⟨RX1, "toldOf", "(LVillageCuts$Trace;I)I"⟩
abbrev cX1_rungAt : ByteArray := prog_3_method_3_code
def yX1_rungAt : MethodName := ⟨RX1, "rungAt", "(LVillageCuts$Trace;I)I"⟩
def RX2 : String := "VillageCuts$Land"
def TX2 : u_T := fun k => match k with
  | 0 => ("VillageCuts$Land", "villages", "[LVillageCuts$Plain;", true)
  | 1 => ("VillageCuts$Land", "letters", "[LVillageCuts$Letter;", true)
  | 2 => ("VillageCuts$Land", "firstRun", "[I", true)
  | 3 => ("VillageCuts$Land", "done", "[I", true)
  | 4 => ("VillageCuts$Land", "size", "I", false)
  | _ => ("VillageCuts$Land", "things", "I", false)
def tyX2 : Nat → FieldType := fun k => match k with
  | 0 => .array (.object "VillageCuts$Plain")
  | 1 => .array (.object "VillageCuts$Letter")
  | 2 => .array .int
  | 3 => .array .int
  | 4 => .int
  | _ => .int
abbrev wsX20 : List Cond := u_ws RX2 TX2 6
theorem nmX2 : ∀ a, a < 6 → ∀ b, b < 6 → a ≠ b → (TX2 a).2.1 ≠ (TX2 b).2.1 := by decide +kernel
theorem tyX2_ok : ∀ k, k < 6 → parseFieldDescriptor (TX2 k).2.2.1 = some (tyX2 k) := by decide +kernel
abbrev cX2_init : ByteArray := prog_4_method_1_code
def yX2_init : MethodName := ⟨RX2, "<init>", "()V"⟩
abbrev cX2_hasVillage : ByteArray := prog_4_method_2_code
def yX2_hasVillage : MethodName := ⟨RX2, "hasVillage", "(I)Z"⟩
abbrev cX2_hasThing : ByteArray := prog_4_method_3_code
def yX2_hasThing : MethodName := ⟨RX2, "hasThing", "(II)Z"⟩
abbrev cX2_settle : ByteArray := prog_4_method_4_code
def yX2_settle : MethodName := ⟨RX2, "settle", "(I)V"⟩
abbrev cX2_addThing : ByteArray := prog_4_method_5_code
def yX2_addThing : MethodName := ⟨RX2, "addThing", "(II)V"⟩
abbrev cX2_noteLetter : ByteArray := prog_4_method_6_code
def yX2_noteLetter : MethodName := ⟨RX2, "noteLetter", "(III)V"⟩
abbrev cX2_leastAmiss : ByteArray := prog_4_method_7_code
def yX2_leastAmiss : MethodName := ⟨RX2, "leastAmiss", "()I"⟩
abbrev cX2_isOrdered : ByteArray := prog_4_method_8_code
def yX2_isOrdered : MethodName := ⟨RX2, "isOrdered", "()Z"⟩
abbrev cX2_firstThatGoesOn : ByteArray := prog_4_method_9_code
def yX2_firstThatGoesOn : MethodName := ⟨RX2, "firstThatGoesOn", "([I)I"⟩
abbrev cX2_noteNeed : ByteArray := prog_4_method_10_code
def yX2_noteNeed : MethodName := ⟨RX2, "noteNeed", "(II)V"⟩
abbrev cX2_raise : ByteArray := prog_4_method_11_code
def yX2_raise : MethodName := ⟨RX2, "raise", "([I[I)V"⟩
abbrev cX2_isAhead : ByteArray := prog_4_method_12_code
def yX2_isAhead : MethodName := ⟨RX2, "isAhead", "(IIII)Z"⟩
abbrev cX2_goesOn : ByteArray := prog_4_method_13_code
def yX2_goesOn : MethodName := ⟨RX2, "goesOn", "([II)Z"⟩
abbrev cX2_thatGoOn : ByteArray := prog_4_method_14_code
def yX2_thatGoOn : MethodName := ⟨RX2, "thatGoOn", "([I)I"⟩
abbrev cX2_close : ByteArray := prog_4_method_15_code
def yX2_close : MethodName := ⟨RX2, "close", "([I[I)V"⟩
abbrev cX2_canBe : ByteArray := prog_4_method_16_code
def yX2_canBe : MethodName := ⟨RX2, "canBe", "([I)Z"⟩
abbrev cX2_sumOf : ByteArray := prog_4_method_17_code
def yX2_sumOf : MethodName := ⟨RX2, "sumOf", "([I)I"⟩
abbrev cX2_underWay : ByteArray := prog_4_method_18_code
def yX2_underWay : MethodName := ⟨RX2, "underWay", "([I)I"⟩
abbrev cX2_thingsIn : ByteArray := prog_4_method_19_code
def yX2_thingsIn : MethodName := ⟨RX2, "thingsIn", "([I)I"⟩
abbrev cX2_lettersSent : ByteArray := prog_4_method_20_code
def yX2_lettersSent : MethodName := ⟨RX2, "lettersSent", "()I"⟩
def RX3 : String := "VillageCuts$Letter"
def TX3 : u_T := fun k => match k with
  | 0 => ("VillageCuts$Letter", "sent", "I", false)
  | 1 => ("VillageCuts$Letter", "sender", "I", false)
  | 2 => ("VillageCuts$Letter", "sentAs", "I", false)
  | 3 => ("VillageCuts$Letter", "got", "I", false)
  | 4 => ("VillageCuts$Letter", "getter", "I", false)
  | _ => ("VillageCuts$Letter", "gotAs", "I", false)
def tyX3 : Nat → FieldType := fun k => match k with
  | 0 => .int
  | 1 => .int
  | 2 => .int
  | 3 => .int
  | 4 => .int
  | _ => .int
abbrev wsX30 : List Cond := u_ws RX3 TX3 6
theorem nmX3 : ∀ a, a < 6 → ∀ b, b < 6 → a ≠ b → (TX3 a).2.1 ≠ (TX3 b).2.1 := by decide +kernel
theorem tyX3_ok : ∀ k, k < 6 → parseFieldDescriptor (TX3 k).2.2.1 = some (tyX3 k) := by decide +kernel
abbrev cX3_init : ByteArray := prog_5_method_1_code
def yX3_init : MethodName := ⟨RX3, "<init>", "()V"⟩
abbrev cX3_isAmiss : ByteArray := prog_5_method_2_code
def yX3_isAmiss : MethodName := ⟨RX3, "isAmiss", "()Z"⟩
abbrev cX3_isSentIn : ByteArray := prog_5_method_3_code
def yX3_isSentIn : MethodName := ⟨RX3, "isSentIn", "([I)Z"⟩
abbrev cX3_isGotIn : ByteArray := prog_5_method_4_code
def yX3_isGotIn : MethodName := ⟨RX3, "isGotIn", "([I)Z"⟩
def RX4 : String := "VillageCuts$Plain"
def TX4 : u_T := fun k => match k with
  | 0 => ("VillageCuts$Plain", "kind", "I", true)
  | 1 => ("VillageCuts$Plain", "what", "[I", true)
  | 2 => ("VillageCuts$Plain", "digit", "[I", true)
  | 3 => ("VillageCuts$Plain", "need", "[[I", true)
  | 4 => ("VillageCuts$Plain", "values", "[I", true)
  | _ => ("VillageCuts$Plain", "things", "I", false)
def tyX4 : Nat → FieldType := fun k => match k with
  | 0 => .int
  | 1 => .array .int
  | 2 => .array .int
  | 3 => .array (.array .int)
  | 4 => .array .int
  | _ => .int
abbrev wsX40 : List Cond := u_ws RX4 TX4 6
theorem nmX4 : ∀ a, a < 6 → ∀ b, b < 6 → a ≠ b → (TX4 a).2.1 ≠ (TX4 b).2.1 := by decide +kernel
theorem tyX4_ok : ∀ k, k < 6 → parseFieldDescriptor (TX4 k).2.2.1 = some (tyX4 k) := by decide +kernel
abbrev cX4_init : ByteArray := prog_6_method_1_code
def yX4_init : MethodName := ⟨RX4, "<init>", "(I)V"⟩
abbrev cX4_add : ByteArray := prog_6_method_2_code
def yX4_add : MethodName := ⟨RX4, "add", "(II)V"⟩
abbrev cX4_valueAt : ByteArray := prog_6_method_3_code
def yX4_valueAt : MethodName := ⟨RX4, "valueAt", "(I)I"⟩
abbrev cX4_worthAs : ByteArray := prog_6_method_4_code
def yX4_worthAs : MethodName := ⟨RX4, "worthAs", "(II)I"⟩
abbrev cX4_worthAt : ByteArray := prog_6_method_5_code
def yX4_worthAt : MethodName := ⟨RX4, "worthAt", "(I)I"⟩
abbrev cX4_needInAll : ByteArray := prog_6_method_6_code
def yX4_needInAll : MethodName := ⟨RX4, "needInAll", "(I)I"⟩
abbrev cX4_toldPlainly : ByteArray := prog_6_method_7_code
def yX4_toldPlainly : MethodName := ⟨RX4, "toldPlainly", "(LVillageCuts$Trace;I)I"⟩
abbrev cX4_toldOf : ByteArray := prog_6_method_8_code
def yX4_toldOf : MethodName := ⟨RX4, "toldOf", "(LVillageCuts$Trace;I)I"⟩
abbrev cX4_rungAt : ByteArray := prog_6_method_9_code
def yX4_rungAt : MethodName := ⟨RX4, "rungAt", "(LVillageCuts$Trace;I)I"⟩
def RX5 : String := "VillageCuts$Sheet"
def TX5 : u_T := fun k => match k with
  | 0 => ("VillageCuts$Sheet", "cells", "[I", true)
  | 1 => ("VillageCuts$Sheet", "hasRow", "Z", false)
  | 2 => ("VillageCuts$Sheet", "lane", "I", false)
  | _ => ("VillageCuts$Sheet", "length", "I", false)
def tyX5 : Nat → FieldType := fun k => match k with
  | 0 => .array .int
  | 1 => .boolean
  | 2 => .int
  | _ => .int
abbrev wsX50 : List Cond := u_ws RX5 TX5 4
theorem nmX5 : ∀ a, a < 4 → ∀ b, b < 4 → a ≠ b → (TX5 a).2.1 ≠ (TX5 b).2.1 := by decide +kernel
theorem tyX5_ok : ∀ k, k < 4 → parseFieldDescriptor (TX5 k).2.2.1 = some (tyX5 k) := by decide +kernel
abbrev cX5_init : ByteArray := prog_7_method_1_code
def yX5_init : MethodName := ⟨RX5, "<init>", "()V"⟩
abbrev cX5_renew : ByteArray := prog_7_method_2_code
def yX5_renew : MethodName := ⟨RX5, "renew", "(II)V"⟩
abbrev cX5_write : ByteArray := prog_7_method_3_code
def yX5_write : MethodName := ⟨RX5, "write", "(II)V"⟩
abbrev cX5_hasCells : ByteArray := prog_7_method_4_code
def yX5_hasCells : MethodName := ⟨RX5, "hasCells", "(II)Z"⟩
abbrev cX5_faultOfTaking : ByteArray := prog_7_method_5_code
def yX5_faultOfTaking : MethodName := ⟨RX5, "faultOfTaking", "(III)I"⟩
def RX6 : String := "VillageCuts$Survey"
def TX6 : u_T := fun k => match k with
  | 0 => ("VillageCuts$Survey", "strides", "[I", true)
  | 1 => ("VillageCuts$Survey", "counts", "[I", true)
  | 2 => ("VillageCuts$Survey", "ways", "[J", true)
  | 3 => ("VillageCuts$Survey", "sums", "[I", true)
  | 4 => ("VillageCuts$Survey", "sizes", "[I", true)
  | 5 => ("VillageCuts$Survey", "onward", "[I", true)
  | 6 => ("VillageCuts$Survey", "reached", "[Z", true)
  | 7 => ("VillageCuts$Survey", "villages", "I", false)
  | _ => ("VillageCuts$Survey", "places", "I", false)
def tyX6 : Nat → FieldType := fun k => match k with
  | 0 => .array .int
  | 1 => .array .int
  | 2 => .array .long
  | 3 => .array .int
  | 4 => .array .int
  | 5 => .array .int
  | 6 => .array .boolean
  | 7 => .int
  | _ => .int
abbrev wsX60 : List Cond := u_ws RX6 TX6 9
theorem nmX6 : ∀ a, a < 9 → ∀ b, b < 9 → a ≠ b → (TX6 a).2.1 ≠ (TX6 b).2.1 := by decide +kernel
theorem tyX6_ok : ∀ k, k < 9 → parseFieldDescriptor (TX6 k).2.2.1 = some (tyX6 k) := by decide +kernel
abbrev cX6_init : ByteArray := prog_8_method_1_code
def yX6_init : MethodName := ⟨RX6, "<init>", "()V"⟩
abbrev cX6_walk : ByteArray := prog_8_method_2_code
def yX6_walk : MethodName := ⟨RX6, "walk", "(LVillageCuts$Land;)V"⟩
abbrev cX6_measure : ByteArray := prog_8_method_3_code
def yX6_measure : MethodName := ⟨RX6, "measure", "(LVillageCuts$Land;)V"⟩
abbrev cX6_passWays : ByteArray := prog_8_method_4_code
def yX6_passWays : MethodName := ⟨RX6, "passWays", "(I)V"⟩
abbrev cX6_goesOnward : ByteArray := prog_8_method_5_code
def yX6_goesOnward : MethodName := ⟨RX6, "goesOnward", "(II)Z"⟩
abbrev cX6_turn : ByteArray := prog_8_method_6_code
def yX6_turn : MethodName := ⟨RX6, "turn", "(LVillageCuts$Land;)V"⟩
abbrev cX6_cutsFrom : ByteArray := prog_8_method_7_code
def yX6_cutsFrom : MethodName := ⟨RX6, "cutsFrom", "(I)I"⟩
abbrev cX6_runsInAll : ByteArray := prog_8_method_8_code
def yX6_runsInAll : MethodName := ⟨RX6, "runsInAll", "()J"⟩
abbrev cX6_fewestOf : ByteArray := prog_8_method_9_code
def yX6_fewestOf : MethodName := ⟨RX6, "fewestOf", "(I)I"⟩
abbrev cX6_canGoAround : ByteArray := prog_8_method_10_code
def yX6_canGoAround : MethodName := ⟨RX6, "canGoAround", "(I)Z"⟩
abbrev cX6_passAround : ByteArray := prog_8_method_11_code
def yX6_passAround : MethodName := ⟨RX6, "passAround", "(II)V"⟩
def RX7 : String := "VillageCuts$Text"
def TX7 : u_T := fun k => match k with
  | 0 => ("VillageCuts$Text", "sheet", "LVillageCuts$Sheet;", true)
  | 1 => ("VillageCuts$Text", "from", "I", true)
  | 2 => ("VillageCuts$Text", "length", "I", true)
  | _ => ("VillageCuts$Text", "place", "I", false)
def tyX7 : Nat → FieldType := fun k => match k with
  | 0 => .object "VillageCuts$Sheet"
  | 1 => .int
  | 2 => .int
  | _ => .int
abbrev wsX70 : List Cond := u_ws RX7 TX7 4
theorem nmX7 : ∀ a, a < 4 → ∀ b, b < 4 → a ≠ b → (TX7 a).2.1 ≠ (TX7 b).2.1 := by decide +kernel
theorem tyX7_ok : ∀ k, k < 4 → parseFieldDescriptor (TX7 k).2.2.1 = some (tyX7 k) := by decide +kernel
abbrev cX7_init : ByteArray := prog_9_method_1_code
def yX7_init : MethodName := ⟨RX7, "<init>", "(LVillageCuts$Sheet;II)V"⟩
abbrev cX7_isReadInto : ByteArray := prog_9_method_2_code
def yX7_isReadInto : MethodName := ⟨RX7, "isReadInto", "(LVillageCuts$Land;)Z"⟩
abbrev cX7_isVillageRead : ByteArray := prog_9_method_3_code
def yX7_isVillageRead : MethodName := ⟨RX7, "isVillageRead", "(LVillageCuts$Land;)Z"⟩
abbrev cX7_code : ByteArray := prog_9_method_4_code
def yX7_code : MethodName := ⟨RX7, "code", "()I"⟩
abbrev cX7_kindOf : ByteArray := prog_9_method_5_code
def yX7_kindOf : MethodName := ⟨RX7, "kindOf", "(I)I"⟩
abbrev cX7_whatOf : ByteArray := prog_9_method_6_code
def yX7_whatOf : MethodName := ⟨RX7, "whatOf", "(I)I"⟩
abbrev cX7_greatestDigit : ByteArray := prog_9_method_7_code
def yX7_greatestDigit : MethodName := ⟨RX7, "greatestDigit", "(I)I"⟩
def RX8 : String := "VillageCuts$Trace"
def TX8 : u_T := fun k => match k with
  | _ => ("VillageCuts$Trace", "mark", "I", false)
def tyX8 : Nat → FieldType := fun k => match k with
  | _ => .int
abbrev wsX80 : List Cond := u_ws RX8 TX8 1
theorem nmX8 : ∀ a, a < 1 → ∀ b, b < 1 → a ≠ b → (TX8 a).2.1 ≠ (TX8 b).2.1 := by decide +kernel
theorem tyX8_ok : ∀ k, k < 1 → parseFieldDescriptor (TX8 k).2.2.1 = some (tyX8 k) := by decide +kernel
abbrev cX8_init : ByteArray := prog_10_method_1_code
def yX8_init : MethodName := ⟨RX8, "<init>", "()V"⟩
abbrev cX8_leave : ByteArray := prog_10_method_2_code
def yX8_leave : MethodName := ⟨RX8, "leave", "(I)V"⟩
def RX9 : String := "VillageCuts"
def TX9 : u_T := fun k => match k with
  | 0 => ("VillageCuts", "sheets", "[LVillageCuts$Sheet;", true)
  | 1 => ("VillageCuts", "footprints", "LVillageCuts$Trace;", true)
  | 2 => ("VillageCuts", "toldCut", "[I", true)
  | 3 => ("VillageCuts", "work", "[I", true)
  | 4 => ("VillageCuts", "readingCuts", "[[I", true)
  | 5 => ("VillageCuts", "readingSums", "[I", true)
  | 6 => ("VillageCuts", "readings", "I", false)
  | 7 => ("VillageCuts", "lastFault", "I", false)
  | 8 => ("VillageCuts", "country", "LVillageCuts$Land;", false)
  | 9 => ("VillageCuts", "survey", "LVillageCuts$Survey;", true)
  | _ => ("VillageCuts", "isSurveyed", "Z", false)
def tyX9 : Nat → FieldType := fun k => match k with
  | 0 => .array (.object "VillageCuts$Sheet")
  | 1 => .object "VillageCuts$Trace"
  | 2 => .array .int
  | 3 => .array .int
  | 4 => .array (.array .int)
  | 5 => .array .int
  | 6 => .int
  | 7 => .int
  | 8 => .object "VillageCuts$Land"
  | 9 => .object "VillageCuts$Survey"
  | _ => .boolean
abbrev wsX90 : List Cond := u_ws RX9 TX9 11
theorem nmX9 : ∀ a, a < 11 → ∀ b, b < 11 → a ≠ b → (TX9 a).2.1 ≠ (TX9 b).2.1 := by decide +kernel
theorem tyX9_ok : ∀ k, k < 11 → parseFieldDescriptor (TX9 k).2.2.1 = some (tyX9 k) := by decide +kernel
abbrev cX9_init : ByteArray := prog_1_method_1_code
def yX9_init : MethodName := ⟨RX9, "<init>", "()V"⟩
abbrev cX9_land : ByteArray := prog_1_method_2_code
def yX9_land : MethodName := ⟨RX9, "land", "(IIII)I"⟩
abbrev cX9_ofVillage : ByteArray := prog_1_method_3_code
def yX9_ofVillage : MethodName := ⟨RX9, "ofVillage", "(II)I"⟩
abbrev cX9_thing : ByteArray := prog_1_method_4_code
def yX9_thing : MethodName := ⟨RX9, "thing", "(III)I"⟩
abbrev cX9_ahead : ByteArray := prog_1_method_5_code
def yX9_ahead : MethodName := ⟨RX9, "ahead", "(IIII)I"⟩
abbrev cX9_happen : ByteArray := prog_1_method_6_code
def yX9_happen : MethodName := ⟨RX9, "happen", "(I)I"⟩
abbrev cX9_anew : ByteArray := prog_1_method_7_code
def yX9_anew : MethodName := ⟨RX9, "anew", "()I"⟩
abbrev cX9_cut : ByteArray := prog_1_method_8_code
def yX9_cut : MethodName := ⟨RX9, "cut", "(IIII)I"⟩
abbrev cX9_now : ByteArray := prog_1_method_9_code
def yX9_now : MethodName := ⟨RX9, "now", "(I)I"⟩
abbrev cX9_tale : ByteArray := prog_1_method_10_code
def yX9_tale : MethodName := ⟨RX9, "tale", "(IIIII)I"⟩
abbrev cX9_cuts : ByteArray := prog_1_method_11_code
def yX9_cuts : MethodName := ⟨RX9, "cuts", "()I"⟩
abbrev cX9_runs : ByteArray := prog_1_method_12_code
def yX9_runs : MethodName := ⟨RX9, "runs", "()J"⟩
abbrev cX9_first : ByteArray := prog_1_method_13_code
def yX9_first : MethodName := ⟨RX9, "first", "(I)I"⟩
abbrev cX9_some : ByteArray := prog_1_method_14_code
def yX9_some : MethodName := ⟨RX9, "some", "(I)I"⟩
abbrev cX9_every : ByteArray := prog_1_method_15_code
def yX9_every : MethodName := ⟨RX9, "every", "(I)I"⟩
abbrev cX9_reading : ByteArray := prog_1_method_16_code
def yX9_reading : MethodName := ⟨RX9, "reading", "(IIII)I"⟩
abbrev cX9_back : ByteArray := prog_1_method_17_code
def yX9_back : MethodName := ⟨RX9, "back", "(I)I"⟩
abbrev cX9_kinds : ByteArray := prog_1_method_18_code
def yX9_kinds : MethodName := ⟨RX9, "kinds", "(I)I"⟩
abbrev cX9_odds : ByteArray := prog_1_method_19_code
def yX9_odds : MethodName := ⟨RX9, "odds", "(II)J"⟩
abbrev cX9_sheet : ByteArray := prog_1_method_20_code
def yX9_sheet : MethodName := ⟨RX9, "sheet", "(III)I"⟩
abbrev cX9_lose : ByteArray := prog_1_method_21_code
def yX9_lose : MethodName := ⟨RX9, "lose", "(I)I"⟩
abbrev cX9_put : ByteArray := prog_1_method_22_code
def yX9_put : MethodName := ⟨RX9, "put", "(III)I"⟩
abbrev cX9_cell : ByteArray := prog_1_method_23_code
def yX9_cell : MethodName := ⟨RX9, "cell", "(III)J"⟩
abbrev cX9_copy : ByteArray := prog_1_method_24_code
def yX9_copy : MethodName := ⟨RX9, "copy", "(IIIII)I"⟩
abbrev cX9_tell : ByteArray := prog_1_method_25_code
def yX9_tell : MethodName := ⟨RX9, "tell", "(I)I"⟩
abbrev cX9_ring : ByteArray := prog_1_method_26_code
def yX9_ring : MethodName := ⟨RX9, "ring", "(I)I"⟩
abbrev cX9_as : ByteArray := prog_1_method_27_code
def yX9_as : MethodName := ⟨RX9, "as", "(II)I"⟩
abbrev cX9_trace : ByteArray := prog_1_method_28_code
def yX9_trace : MethodName := ⟨RX9, "trace", "()I"⟩
abbrev cX9_fault : ByteArray := prog_1_method_29_code
def yX9_fault : MethodName := ⟨RX9, "fault", "()I"⟩
abbrev cX9_many : ByteArray := prog_1_method_30_code
def yX9_many : MethodName := ⟨RX9, "many", "(I)I"⟩
abbrev cX9_isSheet : ByteArray := prog_1_method_31_code
def yX9_isSheet : MethodName := ⟨RX9, "isSheet", "(I)Z"⟩
abbrev cX9_isLane : ByteArray := prog_1_method_32_code
def yX9_isLane : MethodName := ⟨RX9, "isLane", "(I)Z"⟩
abbrev cX9_isSum : ByteArray := prog_1_method_33_code
def yX9_isSum : MethodName := ⟨RX9, "isSum", "(I)Z"⟩
abbrev cX9_isOfVillage : ByteArray := prog_1_method_34_code
def yX9_isOfVillage : MethodName := ⟨RX9, "isOfVillage", "(I)Z"⟩
abbrev cX9_isQuestion : ByteArray := prog_1_method_35_code
def yX9_isQuestion : MethodName := ⟨RX9, "isQuestion", "(I)Z"⟩
abbrev cX9_isOfKind : ByteArray := prog_1_method_36_code
def yX9_isOfKind : MethodName := ⟨RX9, "isOfKind", "(LVillageCuts$Plain;I)Z"⟩
abbrev cX9_fallen : ByteArray := prog_1_method_37_code
def yX9_fallen : MethodName := ⟨RX9, "fallen", "(I)I"⟩
abbrev cX9_countOf : ByteArray := prog_1_method_38_code
def yX9_countOf : MethodName := ⟨RX9, "countOf", "([II)I"⟩
abbrev cX9_takeCut : ByteArray := prog_1_method_39_code
def yX9_takeCut : MethodName := ⟨RX9, "takeCut", "(IIIZ)I"⟩
abbrev cX9_endOfTale : ByteArray := prog_1_method_40_code
def yX9_endOfTale : MethodName := ⟨RX9, "endOfTale", "(LVillageCuts$Sheet;III)I"⟩
abbrev cX9_surveyed : ByteArray := prog_1_method_41_code
def yX9_surveyed : MethodName := ⟨RX9, "surveyed", "()LVillageCuts$Survey;"⟩
abbrev cX9_areReadingsSo : ByteArray := prog_1_method_42_code
def yX9_areReadingsSo : MethodName := ⟨RX9, "areReadingsSo", "(II)Z"⟩
abbrev cX9_commonDivisor : ByteArray := prog_1_method_43_code
def yX9_commonDivisor : MethodName := ⟨RX9, "commonDivisor", "(II)I"⟩
def RX10 : String := "VillageCutsModel"
def TX10 : u_T := fun k => match k with
  | 0 => ("VillageCutsModel", "fault", "I", false)
  | 1 => ("VillageCutsModel", "trace", "I", false)
  | 2 => ("VillageCutsModel", "sorts", "[I", true)
  | 3 => ("VillageCutsModel", "sheetLong", "[I", true)
  | 4 => ("VillageCutsModel", "cells", "[I", true)
  | 5 => ("VillageCutsModel", "villages", "I", false)
  | 6 => ("VillageCutsModel", "kind", "[I", true)
  | 7 => ("VillageCutsModel", "long1", "[I", true)
  | 8 => ("VillageCutsModel", "what", "[I", true)
  | 9 => ("VillageCutsModel", "figure", "[I", true)
  | 10 => ("VillageCutsModel", "aheads", "[I", true)
  | 11 => ("VillageCutsModel", "happened", "[I", true)
  | 12 => ("VillageCutsModel", "at", "I", false)
  | 13 => ("VillageCutsModel", "readVillages", "I", false)
  | 14 => ("VillageCutsModel", "readKind", "[I", true)
  | 15 => ("VillageCutsModel", "readLong", "[I", true)
  | 16 => ("VillageCutsModel", "readWhat", "[I", true)
  | 17 => ("VillageCutsModel", "readFigure", "[I", true)
  | 18 => ("VillageCutsModel", "readAheads", "[I", true)
  | 19 => ("VillageCutsModel", "sentBy", "[I", true)
  | 20 => ("VillageCutsModel", "gotBy", "[I", true)
  | 21 => ("VillageCutsModel", "cutOf", "[I", true)
  | 22 => ("VillageCutsModel", "greatest", "I", false)
  | 23 => ("VillageCutsModel", "ways", "[J", true)
  | 24 => ("VillageCutsModel", "readings", "I", false)
  | 25 => ("VillageCutsModel", "readCut", "[I", true)
  | _ => ("VillageCutsModel", "readSum", "[I", true)
def tyX10 : Nat → FieldType := fun k => match k with
  | 0 => .int
  | 1 => .int
  | 2 => .array .int
  | 3 => .array .int
  | 4 => .array .int
  | 5 => .int
  | 6 => .array .int
  | 7 => .array .int
  | 8 => .array .int
  | 9 => .array .int
  | 10 => .array .int
  | 11 => .array .int
  | 12 => .int
  | 13 => .int
  | 14 => .array .int
  | 15 => .array .int
  | 16 => .array .int
  | 17 => .array .int
  | 18 => .array .int
  | 19 => .array .int
  | 20 => .array .int
  | 21 => .array .int
  | 22 => .int
  | 23 => .array .long
  | 24 => .int
  | 25 => .array .int
  | _ => .array .int
abbrev wsX100 : List Cond := u_ws RX10 TX10 27
theorem nmX10 : ∀ a, a < 27 → ∀ b, b < 27 → a ≠ b → (TX10 a).2.1 ≠ (TX10 b).2.1 := by decide +kernel
theorem tyX10_ok : ∀ k, k < 27 → parseFieldDescriptor (TX10 k).2.2.1 = some (tyX10 k) := by decide +kernel
abbrev cX10_init : ByteArray := prog_12_method_1_code
def yX10_init : MethodName := ⟨RX10, "<init>", "()V"⟩
abbrev cX10_fails : ByteArray := prog_12_method_3_code
def yX10_fails : MethodName := ⟨RX10, "fails", "(I)I"⟩
abbrev cX10_lost : ByteArray := prog_12_method_4_code
def yX10_lost : MethodName := ⟨RX10, "lost", "(I)J"⟩
abbrev cX10_within : ByteArray := prog_12_method_5_code
def yX10_within : MethodName := ⟨RX10, "within", "(III)Z"⟩
abbrev cX10_isSheet : ByteArray := prog_12_method_6_code
def yX10_isSheet : MethodName := ⟨RX10, "isSheet", "(I)Z"⟩
abbrev cX10_isSort : ByteArray := prog_12_method_7_code
def yX10_isSort : MethodName := ⟨RX10, "isSort", "(I)Z"⟩
abbrev cX10_against : ByteArray := prog_12_method_8_code
def yX10_against : MethodName := ⟨RX10, "against", "(IIII)I"⟩
abbrev cX10_isVillage : ByteArray := prog_12_method_9_code
def yX10_isVillage : MethodName := ⟨RX10, "isVillage", "(I)Z"⟩
abbrev cX10_isThing : ByteArray := prog_12_method_10_code
def yX10_isThing : MethodName := ⟨RX10, "isThing", "(II)Z"⟩
abbrev cX10_digit : ByteArray := prog_12_method_11_code
def yX10_digit : MethodName := ⟨RX10, "digit", "(II)I"⟩
abbrev cX10_isSign : ByteArray := prog_12_method_12_code
def yX10_isSign : MethodName := ⟨RX10, "isSign", "(II)Z"⟩
abbrev cX10_land : ByteArray := prog_12_method_13_code
def yX10_land : MethodName := ⟨RX10, "land", "(IIII)I"⟩
abbrev cX10_takeLand : ByteArray := prog_12_method_14_code
def yX10_takeLand : MethodName := ⟨RX10, "takeLand", "()V"⟩
abbrev cX10_readLand : ByteArray := prog_12_method_15_code
def yX10_readLand : MethodName := ⟨RX10, "readLand", "(I)Z"⟩
abbrev cX10_readVillage : ByteArray := prog_12_method_16_code
def yX10_readVillage : MethodName := ⟨RX10, "readVillage", "(I)Z"⟩
abbrev cX10_isThingNext : ByteArray := prog_12_method_17_code
def yX10_isThingNext : MethodName := ⟨RX10, "isThingNext", "(I)Z"⟩
abbrev cX10_readThing : ByteArray := prog_12_method_18_code
def yX10_readThing : MethodName := ⟨RX10, "readThing", "(I)Z"⟩
abbrev cX10_firstAmiss : ByteArray := prog_12_method_19_code
def yX10_firstAmiss : MethodName := ⟨RX10, "firstAmiss", "()I"⟩
abbrev cX10_isCircle : ByteArray := prog_12_method_20_code
def yX10_isCircle : MethodName := ⟨RX10, "isCircle", "()Z"⟩
abbrev cX10_startAheads : ByteArray := prog_12_method_21_code
def yX10_startAheads : MethodName := ⟨RX10, "startAheads", "(II)V"⟩
abbrev cX10_goesOn : ByteArray := prog_12_method_22_code
def yX10_goesOn : MethodName := ⟨RX10, "goesOn", "()Z"⟩
abbrev cX10_takesFromAheads : ByteArray := prog_12_method_23_code
def yX10_takesFromAheads : MethodName := ⟨RX10, "takesFromAheads", "(I)Z"⟩
abbrev cX10_aheadOf : ByteArray := prog_12_method_24_code
def yX10_aheadOf : MethodName := ⟨RX10, "aheadOf", "(III)I"⟩
abbrev cX10_valueOf : ByteArray := prog_12_method_25_code
def yX10_valueOf : MethodName := ⟨RX10, "valueOf", "(I)I"⟩
abbrev cX10_worthOf : ByteArray := prog_12_method_26_code
def yX10_worthOf : MethodName := ⟨RX10, "worthOf", "(I)I"⟩
abbrev cX10_sumOf : ByteArray := prog_12_method_27_code
def yX10_sumOf : MethodName := ⟨RX10, "sumOf", "()I"⟩
abbrev cX10_lettersBy : ByteArray := prog_12_method_28_code
def yX10_lettersBy : MethodName := ⟨RX10, "lettersBy", "(I)I"⟩
abbrev cX10_underWay : ByteArray := prog_12_method_29_code
def yX10_underWay : MethodName := ⟨RX10, "underWay", "()I"⟩
abbrev cX10_isReady : ByteArray := prog_12_method_30_code
def yX10_isReady : MethodName := ⟨RX10, "isReady", "(I)Z"⟩
abbrev cX10_canBe : ByteArray := prog_12_method_31_code
def yX10_canBe : MethodName := ⟨RX10, "canBe", "()Z"⟩
abbrev cX10_close : ByteArray := prog_12_method_32_code
def yX10_close : MethodName := ⟨RX10, "close", "()V"⟩
abbrev cX10_inCut : ByteArray := prog_12_method_33_code
def yX10_inCut : MethodName := ⟨RX10, "inCut", "()I"⟩
abbrev cX10_takeNow : ByteArray := prog_12_method_34_code
def yX10_takeNow : MethodName := ⟨RX10, "takeNow", "()V"⟩
abbrev cX10_ofVillage : ByteArray := prog_12_method_35_code
def yX10_ofVillage : MethodName := ⟨RX10, "ofVillage", "(II)I"⟩
abbrev cX10_thing : ByteArray := prog_12_method_36_code
def yX10_thing : MethodName := ⟨RX10, "thing", "(III)I"⟩
abbrev cX10_ahead : ByteArray := prog_12_method_37_code
def yX10_ahead : MethodName := ⟨RX10, "ahead", "(IIII)I"⟩
abbrev cX10_happen : ByteArray := prog_12_method_38_code
def yX10_happen : MethodName := ⟨RX10, "happen", "(I)I"⟩
abbrev cX10_anew : ByteArray := prog_12_method_39_code
def yX10_anew : MethodName := ⟨RX10, "anew", "()I"⟩
abbrev cX10_refusesCells : ByteArray := prog_12_method_40_code
def yX10_refusesCells : MethodName := ⟨RX10, "refusesCells", "(I)I"⟩
abbrev cX10_takeCells : ByteArray := prog_12_method_41_code
def yX10_takeCells : MethodName := ⟨RX10, "takeCells", "(I)V"⟩
abbrev cX10_cut : ByteArray := prog_12_method_42_code
def yX10_cut : MethodName := ⟨RX10, "cut", "(IIII)I"⟩
abbrev cX10_now : ByteArray := prog_12_method_43_code
def yX10_now : MethodName := ⟨RX10, "now", "(I)I"⟩
abbrev cX10_goTale : ByteArray := prog_12_method_44_code
def yX10_goTale : MethodName := ⟨RX10, "goTale", "(II)I"⟩
abbrev cX10_tale : ByteArray := prog_12_method_45_code
def yX10_tale : MethodName := ⟨RX10, "tale", "(IIIII)I"⟩
abbrev cX10_tellTale : ByteArray := prog_12_method_46_code
def yX10_tellTale : MethodName := ⟨RX10, "tellTale", "(I)I"⟩
abbrev cX10_isCut : ByteArray := prog_12_method_47_code
def yX10_isCut : MethodName := ⟨RX10, "isCut", "(I)Z"⟩
abbrev cX10_allThings : ByteArray := prog_12_method_48_code
def yX10_allThings : MethodName := ⟨RX10, "allThings", "()I"⟩
abbrev cX10_lastCode : ByteArray := prog_12_method_49_code
def yX10_lastCode : MethodName := ⟨RX10, "lastCode", "()I"⟩
abbrev cX10_cuts : ByteArray := prog_12_method_50_code
def yX10_cuts : MethodName := ⟨RX10, "cuts", "()I"⟩
abbrev cX10_findWays : ByteArray := prog_12_method_51_code
def yX10_findWays : MethodName := ⟨RX10, "findWays", "(I)V"⟩
abbrev cX10_runs : ByteArray := prog_12_method_52_code
def yX10_runs : MethodName := ⟨RX10, "runs", "()J"⟩
abbrev cX10_first : ByteArray := prog_12_method_53_code
def yX10_first : MethodName := ⟨RX10, "first", "(I)I"⟩
abbrev cX10_some : ByteArray := prog_12_method_54_code
def yX10_some : MethodName := ⟨RX10, "some", "(I)I"⟩
abbrev cX10_every : ByteArray := prog_12_method_55_code
def yX10_every : MethodName := ⟨RX10, "every", "(I)I"⟩
abbrev cX10_reading : ByteArray := prog_12_method_56_code
def yX10_reading : MethodName := ⟨RX10, "reading", "(IIII)I"⟩
abbrev cX10_back : ByteArray := prog_12_method_57_code
def yX10_back : MethodName := ⟨RX10, "back", "(I)I"⟩
abbrev cX10_areSo : ByteArray := prog_12_method_58_code
def yX10_areSo : MethodName := ⟨RX10, "areSo", "()Z"⟩
abbrev cX10_kinds : ByteArray := prog_12_method_59_code
def yX10_kinds : MethodName := ⟨RX10, "kinds", "(I)I"⟩
abbrev cX10_inLeastTerms : ByteArray := prog_12_method_60_code
def yX10_inLeastTerms : MethodName := ⟨RX10, "inLeastTerms", "(JJI)J"⟩
abbrev cX10_odds : ByteArray := prog_12_method_61_code
def yX10_odds : MethodName := ⟨RX10, "odds", "(II)J"⟩
abbrev cX10_sheet : ByteArray := prog_12_method_62_code
def yX10_sheet : MethodName := ⟨RX10, "sheet", "(III)I"⟩
abbrev cX10_lose : ByteArray := prog_12_method_63_code
def yX10_lose : MethodName := ⟨RX10, "lose", "(I)I"⟩
abbrev cX10_put : ByteArray := prog_12_method_64_code
def yX10_put : MethodName := ⟨RX10, "put", "(III)I"⟩
abbrev cX10_cell : ByteArray := prog_12_method_65_code
def yX10_cell : MethodName := ⟨RX10, "cell", "(III)J"⟩
abbrev cX10_copy : ByteArray := prog_12_method_66_code
def yX10_copy : MethodName := ⟨RX10, "copy", "(IIIII)I"⟩
abbrev cX10_begins : ByteArray := prog_12_method_67_code
def yX10_begins : MethodName := ⟨RX10, "begins", "(I)V"⟩
abbrev cX10_tell : ByteArray := prog_12_method_68_code
def yX10_tell : MethodName := ⟨RX10, "tell", "(I)I"⟩
abbrev cX10_ring : ByteArray := prog_12_method_69_code
def yX10_ring : MethodName := ⟨RX10, "ring", "(I)I"⟩
abbrev cX10_as : ByteArray := prog_12_method_70_code
def yX10_as : MethodName := ⟨RX10, "as", "(II)I"⟩
abbrev cX10_trace : ByteArray := prog_12_method_71_code
def yX10_trace : MethodName := ⟨RX10, "trace", "()I"⟩
abbrev cX10_fault : ByteArray := prog_12_method_72_code
def yX10_fault : MethodName := ⟨RX10, "fault", "()I"⟩
abbrev cX10_many : ByteArray := prog_12_method_73_code
def yX10_many : MethodName := ⟨RX10, "many", "(I)I"⟩
def RJ9 : String := "java/lang/Math"
abbrev cJ9_max_7cf53 : ByteArray := prog_13_method_65_code
def yJ9_max_7cf53 : MethodName := ⟨RJ9, "max", "(II)I"⟩
abbrev cJ9_min_7cf53 : ByteArray := prog_13_method_69_code
def yJ9_min_7cf53 : MethodName := ⟨RJ9, "min", "(II)I"⟩
def RJ10 : String := "java/lang/System"
def RJ7 : String := "java/util/Arrays"
abbrev cJ7_fill_d0a16 : ByteArray := prog_15_method_101_code
def yJ7_fill_d0a16 : MethodName := ⟨RJ7, "fill", "([JJ)V"⟩
abbrev cJ7_fill_53178 : ByteArray := prog_15_method_103_code
def yJ7_fill_53178 : MethodName := ⟨RJ7, "fill", "([II)V"⟩
def RL : String := "VillageCutsLaw"
abbrev cL_law : ByteArray := code
def yL_law : MethodName := ⟨RL, "law", "([I)Z"⟩
abbrev vwCl : List vw_C := [(RX0, TX0, 6), (RX1, TX1, 6), (RX2, TX2, 6), (RX3, TX3, 6), (RX4, TX4, 6), (RX5, TX5, 4), (RX6, TX6, 9), (RX7, TX7, 4), (RX8, TX8, 1), (RX9, TX9, 11), (RX10, TX10, 27)]
