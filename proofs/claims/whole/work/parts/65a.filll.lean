/-! ===== a row of longs is filled: by hand, as its locals hold a long ===== -/
theorem dJ7_fill_d0a16_0 : decode cJ7_fill_d0a16 0 = .ok (.iconst 0, 1) := by decide +kernel
theorem dJ7_fill_d0a16_1 : decode cJ7_fill_d0a16 1 = .ok (.istore_n 3, 1) := by decide +kernel
theorem dJ7_fill_d0a16_2 : decode cJ7_fill_d0a16 2 = .ok (.aload_n 0, 1) := by decide +kernel
theorem dJ7_fill_d0a16_3 : decode cJ7_fill_d0a16 3 = .ok (.arraylength, 1) := by decide +kernel
theorem dJ7_fill_d0a16_4 : decode cJ7_fill_d0a16 4 = .ok (.istore 4, 2) := by decide +kernel
theorem dJ7_fill_d0a16_6 : decode cJ7_fill_d0a16 6 = .ok (.iload_n 3, 1) := by decide +kernel
theorem dJ7_fill_d0a16_7 : decode cJ7_fill_d0a16 7 = .ok (.iload 4, 2) := by decide +kernel
theorem dJ7_fill_d0a16_9 : decode cJ7_fill_d0a16 9 = .ok (.if_icmp .ge 13, 3) := by decide +kernel
theorem dJ7_fill_d0a16_12 : decode cJ7_fill_d0a16 12 = .ok (.aload_n 0, 1) := by decide +kernel
theorem dJ7_fill_d0a16_13 : decode cJ7_fill_d0a16 13 = .ok (.iload_n 3, 1) := by decide +kernel
theorem dJ7_fill_d0a16_14 : decode cJ7_fill_d0a16 14 = .ok (.lload_n 1, 1) := by decide +kernel
theorem dJ7_fill_d0a16_15 : decode cJ7_fill_d0a16 15 = .ok (.lastore, 1) := by decide +kernel
theorem dJ7_fill_d0a16_16 : decode cJ7_fill_d0a16 16 = .ok (.iinc 3 1, 3) := by decide +kernel
theorem dJ7_fill_d0a16_19 : decode cJ7_fill_d0a16 19 = .ok (.goto (-13), 3) := by decide +kernel
theorem dJ7_fill_d0a16_22 : decode cJ7_fill_d0a16 22 = .ok (.return_, 1) := by decide +kernel
section FILL
variable {l : Launch} {g : Gm} {rl : Nat → Nat} {h : Hp} {K : PT}
set_option maxRecDepth 100000 in
theorem k_fillL {b ρ n : Nat} {F : Nat → Int64} {x : Int64} (e : Ja g rl h b ρ n F) (hn : n ≤ 2000) (hK : ∀ h1, Ja g rl h1 b ρ n (fun _ => x) → Ex (fun i => i = ρ) rl h rl h1 → K none h1) : Run l g d_J7_fill_d0a16 [.ref b, .long x] h 0 0 K := by
  intro sz
  refine Met.ofW (cc := cJ7_fill_d0a16) (maxL := 5) (ret := none) (by decide) rfl ?_
  intro p e0 s m args below meth c s₁ B hml hv
  obtain ⟨rfl, rfl, hKK, hok⟩ := hv
  have hx := B.exec
  have hb : c.code = cJ7_fill_d0a16 := B.bytes
  have hr := B.returns
  have hlk := B.notSynchronized
  have hl := lv_entry ([.ref b, .long x]) (n := 5) (Nat.le_of_ble_eq_true rfl)
  rw [lg_entry_eq]
  generalize (lg_sl ([.ref b, .long x]) ++ List.replicate (5 - (lg_sl ([.ref b, .long x])).length) Slot.unset).toArray = ls at hl ⊢
  have hl : lv_has ls 5 [(0, .ref b), (1, .long x)] := hl
  have hok := hok.self s.heap.size
  have loop : ∀ j k, k + j = n → ∀ (h1 : Hp) (F1 : Nat → Int64) (H : Heap) (locs : List Loc) (ls : Array Slot), Ja g rl h1 b ρ n F1 → Ex (fun i => i = ρ) rl h rl h1 → (∀ i, i < k → F1 i = x) → Hok g (Adom h s.heap.size) H h1 → va_S (Adom h s.heap.size) s.heap H locs → lv_has ls 5 [(3, .int (nI k)), (4, .int (nI n)), (0, .ref b), (1, .long x)] → W p l e0 (headSpec (mdW d_J7_fill_d0a16) (mdR d_J7_fill_d0a16 0 0)).room s m ([Value.ref b, Value.long x].toArray) below meth c H locs 0 0 (MQ below (QcR g h s.heap.size K) ([Value.ref b, Value.long x].toArray) s 0 0 (Adom h s.heap.size)) (F0 m 6 ls []) := by
    intro j
    induction j with
    | zero =>
      intro k hk h1 F1 H locs ls e1 x1 hF hok hS hl
      refine lv_iload_n hx hb dJ7_fill_d0a16_6 rfl (lv_at hl 0 rfl) ?_
      refine lv_iload hx hb dJ7_fill_d0a16_7 (lv_at hl 1 rfl) ?_
      refine lv_icmp_ge (tgt := 22) hx hb dJ7_fill_d0a16_9 (by decide) (fun _ => ?_) (fun z => absurd (show nI n ≤ nI k by rw [show k = n by omega]; exact Int32.le_refl _) z)
      exact W.vret hx hb hr (fun t ht hW => ⟨⟨_, h1, rfl, hK h1 (e1.eq (fun i hi => hF i (by omega))) x1, by rw [ht]; exact hok⟩, hS.F ht⟩) hS.2.2 dJ7_fill_d0a16_22 (hlocks := hlk)
    | succ j ih =>
      intro k hk h1 F1 H locs ls e1 x1 hF hok hS hl
      refine lv_iload_n hx hb dJ7_fill_d0a16_6 rfl (lv_at hl 0 rfl) ?_
      refine lv_iload hx hb dJ7_fill_d0a16_7 (lv_at hl 1 rfl) ?_
      have c9 := b_ge (A := False) (B := True) k n (fun z => by omega) (fun _ => trivial)
      refine lv_icmp_ge (tgt := 22) hx hb dJ7_fill_d0a16_9 (by decide) (fun z => (c9.1 z).elim) (fun _ => ?_)
      refine lv_aload_n hx hb dJ7_fill_d0a16_12 rfl (lv_at hl 2 rfl) ?_
      refine lv_iload_n hx hb dJ7_fill_d0a16_13 rfl (lv_at hl 0 rfl) ?_
      refine lv_lload_n hx hb dJ7_fill_d0a16_14 rfl (lv_at hl 3 rfl) ?_
      obtain ⟨ws, hP, hD, hrr⟩ := hok
      obtain ⟨⟨f, f1, f2⟩, f3⟩ := e1
      obtain ⟨q, hq⟩ := (hrr b _).mp f1
      refine va_last hx hb hKK.1 hP hD hS q 1 hq rfl (vp_in_nI (show k < n by omega) (by omega)) dJ7_fill_d0a16_15 (fun H1 locs1 hP1 hD1 hS1 => ?_)
      have ec : (nI k).toNatClampNeg = k := nI_clamp (by omega)
      refine lv_iinc (k := 0) (lv' := [(3, .int (nI (k + 1))), (4, .int (nI n)), (0, .ref b), (1, .long x)]) hx hb dJ7_fill_d0a16_16 hl rfl (nI_succ k).symm (by decide) rfl (fun ls hl => ?_)
      refine lv_goto (tgt := 6) hx hb dJ7_fill_d0a16_19 (by decide) ?_
      have hok1 := Hok.put hD hrr hq hP1 hD1
      refine ih (k + 1) (by omega) _ (vp_updL F1 k x) H1 locs1 ls ⟨⟨_, hup_same, fun i hi => ?_⟩, f3⟩ (x1.trs (Ex.put f1 f3)) (fun i hi => ?_) hok1 hS1 hl
      · rw [ec]
        by_cases z : i = k
        · rw [z, pk_uLs, pk_uLs]
        · rw [pk_uLn z, pk_uLn z]; exact f2 i hi
      · by_cases z : i = k
        · rw [z, pk_uLs]
        · rw [pk_uLn z]; exact hF i (by omega)
  refine lv_iconst hx hb dJ7_fill_d0a16_0 rfl ?_
  refine lv_istore_n (lv' := [(3, .int 0), (0, .ref b), (1, .long x)]) hx hb dJ7_fill_d0a16_1 rfl hl (by decide) rfl (fun ls hl => ?_)
  refine lv_aload_n hx hb dJ7_fill_d0a16_2 rfl (lv_at hl 1 rfl) ?_
  obtain ⟨ws, hP, hD, hrr⟩ := id hok
  obtain ⟨⟨f, f1, f2⟩, f3⟩ := id e
  obtain ⟨q, hq⟩ := (hrr b _).mp f1
  refine va_alen hx hb hKK.1 hP q 1 hq rfl (v := nI n) rfl dJ7_fill_d0a16_3 ?_
  refine lv_istore (lv' := [(4, .int (nI n)), (3, .int 0), (0, .ref b), (1, .long x)]) hx hb dJ7_fill_d0a16_4 hl (by decide) rfl (fun ls hl => ?_)
  exact loop n 0 (by omega) h F s.heap [] ls e Ex.rf (fun i hi => absurd hi (Nat.not_lt_zero i)) hok va_S.rf (lv_sub hl [1, 0, 2, 3] rfl)
end FILL

