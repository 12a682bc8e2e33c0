section SND4
variable {p : Program} {l : Launch} {e : Env} {R : Room} {s : State} {m : MethodId} {args : Array Value} {below : List Frame} {meth : Method} {c : Code} {Q : State → Prop}
variable {g : Gm} {A : Nat → Prop} {cc : ByteArray} {own : String} {nL pc : Nat} {K T N : CT}
theorem s_mna (X : Cx g p s m args meth c A cc own nL) {index N1 M1 : Nat} (hlnk : Cond.classLink own index "[[I" ∈ UW) (hac : Cond.arrayClass .int ∈ UW) (d : decode cc pc = .ok (.multianewarray index 2, 4)) (nx : Sd g p l e R s m args below meth c A nL Q K (pc + 4)) : Sd g p l e R s m args below meth c A nL Q (oNewII g N1 M1 K) pc := by
  intro h cb sb ls st H HH locs cells slots arr hok hS hc hs hl
  obtain ⟨hx, hb, hml, hown, hts, hK, hlk, hA⟩ := X
  obtain ⟨ws, hP, hD, hr⟩ := hok
  unfold oNewII at H
  split at H
  next m1 n1 rs =>
    obtain ⟨rfl, rfl, h1, h2, h3, h4, h5⟩ := H
    have hnm : "[" ++ (FieldType.array .int).toString = "[[I" := by decide +kernel
    have hP0 : va_P g.1 vwCl (ws ++ va_pl [] (fun _ => .inr (0, []))) HH := by rw [show va_pl [] (fun _ => (Sum.inr (0, []) : va_E)) = [] from rfl, List.append_nil]; exact hP
    have hD0 : va_D A (ws ++ va_pl [] (fun _ => .inr (0, []))) := by rw [show va_pl [] (fun _ => (Sum.inr (0, []) : va_E)) = [] from rfl, List.append_nil]; exact hD
    have hcy : s.vm.findClass (FieldType.array .int).toString = some (g.2 0) := (hK.1.2 0 (g.2 0, .int) rfl).2
    refine va_mna (ty := .int) (cy := g.2 0) (N' := N1) (K' := M1) (z := (M1, .inl (fun _ => 0))) hx hb hown (by rw [hnm]; exact hts _ hlnk) hK.2.1.2.2.2 (hts _ hac) hcy hK.1 hP0 hD0 hS hA (nI_pos (by omega)) (nI_pos (by omega)) (nI_clamp (by omega)) (nI_clamp (by omega)) (by omega) (by show M1 * 4 ≤ 536870912; omega) (by omega) rfl rfl (by omega) (by omega) (fun c1 => arrV_new _ _ _) d (fun q r cA H1 hinj hnl hK1 hP1 hD1 hS1 => ?_)
    have e1 : cA = g.2 6 := by
      have a1 := (hK1.2 (arrTys g).length (cA, .array .int) (by simp)).2
      have a2 := (hK.1.2 6 (g.2 6, .array .int) rfl).2
      exact Option.some.inj (Eq.trans (Eq.symm a1) a2)
    subst e1
    have hmem : ∀ (a : Nat) (x : va_E), h a = some x ↔ (a, x) ∈ ws := fun a x => by rw [hr, List.mem_iff_getElem?]
    have uniq : ∀ (a : Nat) (x y : va_E) (i j : Nat), ((ws ++ [(q, aR g 6 N1 (fun i => if i < N1 then some (r i) else none))]) ++ va_pl ([] ++ (List.range N1).map r) (vr_up (fun _ => .inr (0, [])) ((List.range N1).map r) (.inl (g.2 0, (M1, .inl (fun _ => 0))))))[i]? = some (a, x) → ((ws ++ [(q, aR g 6 N1 (fun i => if i < N1 then some (r i) else none))]) ++ va_pl ([] ++ (List.range N1).map r) (vr_up (fun _ => .inr (0, [])) ((List.range N1).map r) (.inl (g.2 0, (M1, .inl (fun _ => 0))))))[j]? = some (a, y) → i = j := fun a x y i j hi hj => hD1.1 i j _ _ hi hj rfl
    generalize hW : (ws ++ [(q, aR g 6 N1 (fun i => if i < N1 then some (r i) else none))]) ++ va_pl ([] ++ (List.range N1).map r) (vr_up (fun _ => .inr (0, [])) ((List.range N1).map r) (.inl (g.2 0, (M1, .inl (fun _ => 0))))) = ws2 at hP1 hD1 uniq
    have hm2 : ∀ y : Nat × va_E, y ∈ ws2 ↔ (y ∈ ws ∨ y = (q, aR g 6 N1 (fun i => if i < N1 then some (r i) else none)) ∨ ∃ i, i < N1 ∧ y = (r i, aI g M1 (fun _ => 0))) := fun y => by
      rw [← hW, List.mem_append, List.mem_append, List.mem_singleton, or_assoc]
      refine or_congr Iff.rfl (or_congr Iff.rfl ?_)
      unfold va_pl
      rw [List.nil_append, List.mem_map]
      constructor
      · rintro ⟨a, ha, rfl⟩
        rw [vr_up_in ha]
        obtain ⟨i, hi, rfl⟩ := List.mem_map.mp ha
        exact ⟨i, List.mem_range.mp hi, rfl⟩
      · rintro ⟨i, hi, rfl⟩
        have ha : r i ∈ (List.range N1).map r := List.mem_map.mpr ⟨i, List.mem_range.mpr hi, rfl⟩
        exact ⟨r i, ha, by rw [vr_up_in ha]⟩
    have uq : ∀ (a : Nat) (x y : va_E), (a, x) ∈ ws2 → (a, y) ∈ ws2 → x = y := fun a x y hx1 hy1 => by
      obtain ⟨i, hi⟩ := List.getElem?_of_mem hx1
      obtain ⟨j, hj⟩ := List.getElem?_of_mem hy1
      have e := uniq a x y i j hi hj
      subst e
      rw [hi] at hj
      cases hj
      rfl
    have hl0 : ws.length < ws2.length := by rw [← hW]; simp
    have nodup : ∀ (a : Nat) (x y : va_E), (a, x) ∈ ws → (y = aR g 6 N1 (fun i => if i < N1 then some (r i) else none) ∧ a = q) ∨ (∃ i, i < N1 ∧ a = r i) → False := fun a x y hx1 hy1 => by
      obtain ⟨k, hk⟩ := List.getElem?_of_mem hx1
      have hkl : k < ws.length := (List.getElem?_eq_some_iff.mp hk).1
      have hk2 : ws2[k]? = some (a, x) := by rw [← hW, List.append_assoc, List.getElem?_append_left hkl]; exact hk
      rcases hy1 with ⟨-, rfl⟩ | ⟨i, hi, rfl⟩
      · have h9 : ws2[ws.length]? = some (a, aR g 6 N1 (fun i => if i < N1 then some (r i) else none)) := by rw [← hW, List.append_assoc, List.getElem?_append_right (Nat.le_refl _)]; simp
        have := uniq _ _ _ _ _ hk2 h9
        omega
      · have h9 : ws2[ws.length + 1 + i]? = some (r i, aI g M1 (fun _ => 0)) := by
          rw [← hW, List.getElem?_append_right (by simp)]
          have e2 : ws.length + 1 + i - (ws ++ [(q, aR g 6 N1 (fun i => if i < N1 then some (r i) else none))]).length = i := by simp
          rw [e2]
          have ha : r i ∈ (List.range N1).map r := List.mem_map.mpr ⟨i, List.mem_range.mpr hi, rfl⟩
          unfold va_pl
          rw [List.nil_append, List.getElem?_map, List.getElem?_map, List.getElem?_range hi]
          show some (r i, vr_up _ _ _ (r i)) = _
          rw [vr_up_in ha]
        have := uniq _ _ _ _ _ hk2 h9
        omega
    have rq : ∀ i, i < N1 → r i ≠ q := fun i hi e2 => by
      have a1 : (q, aR g 6 N1 (fun i => if i < N1 then some (r i) else none)) ∈ ws2 := (hm2 _).mpr (Or.inr (Or.inl rfl))
      have a2 : (q, aI g M1 (fun _ => 0)) ∈ ws2 := (hm2 _).mpr (Or.inr (Or.inr ⟨i, hi, by rw [e2]⟩))
      have h9 := (Prod.mk.inj (Prod.mk.inj (Sum.inl.inj (uq _ _ _ a1 a2))).2).2
      cases h9
    have hn0 : ∀ a : Nat, (∀ x, (a, x) ∈ ws → False) → h a = none := fun a ha => by
      cases hq : h a with
      | none => rfl
      | some x => exact (ha x ((hmem a x).mp hq)).elim
    refine nx _ _ _ _ _ (h5 q r (hn0 q fun x hx1 => nodup q x _ hx1 (Or.inl ⟨rfl, rfl⟩)) (fun i hi => hn0 _ fun x hx1 => nodup _ x x hx1 (Or.inr ⟨i, hi, rfl⟩)) rq hinj) H1 locs _ _ arr ⟨ws2, hP1, hD1, fun a x => ?_⟩ hS1 (by omega) (by omega) hl
    rw [← List.mem_iff_getElem?, hm2]
    unfold hrows
    by_cases ha : a ∈ (List.range N1).map r
    · rw [if_pos ha]
      obtain ⟨i, hi, rfl⟩ := List.mem_map.mp ha
      have hi := List.mem_range.mp hi
      constructor
      · intro hx1
        cases hx1
        exact Or.inr (Or.inr ⟨i, hi, rfl⟩)
      · intro hx1
        have b1 : (r i, x) ∈ ws2 := (hm2 _).mpr hx1
        have b2 : (r i, aI g M1 (fun _ => 0)) ∈ ws2 := (hm2 _).mpr (Or.inr (Or.inr ⟨i, hi, rfl⟩))
        rw [uq _ _ _ b1 b2]
    · rw [if_neg ha]
      by_cases hq : a = q
      · subst hq
        rw [hup_same]
        constructor
        · intro hx1
          cases hx1
          exact Or.inr (Or.inl rfl)
        · intro hx1
          have b1 : (a, x) ∈ ws2 := (hm2 _).mpr hx1
          have b2 : (a, aR g 6 N1 (fun i => if i < N1 then some (r i) else none)) ∈ ws2 := (hm2 _).mpr (Or.inr (Or.inl rfl))
          rw [uq _ _ _ b1 b2]
      · rw [hup_ne hq, hmem]
        constructor
        · exact Or.inl
        · rintro (hx1 | hx1 | ⟨i, hi, hx1⟩)
          · exact hx1
          · cases hx1
            exact absurd rfl hq
          · cases hx1
            exact absurd (List.mem_map.mpr ⟨i, List.mem_range.mpr hi, rfl⟩) ha
  next => exact H.elim
end SND4
