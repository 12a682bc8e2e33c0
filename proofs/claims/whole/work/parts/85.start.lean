/-! ===== the law, from its entry ===== -/
section LSTART
variable {l : Launch} {g : Gm} {b L : Nat} {xs : Nat → Int32} {G : Nat → CT}
theorem lw_body (hG : LwG l g b L xs G) (hL : L ≤ 3072) : G 0 (fun _ => none) 600000 7302250 [some (.ref b), none, none, none] [] := by
  refine hG 0 _ _ _ _ _ ?_
  refine y_new (rl := fun _ => 0) 100 (fun rl1 h1 a e1 y1 => ?_)
  refine x_callI rfl rfl (cc_init e1 (fun rl2 h2 hC2 y2 => ?_))
  refine y_new (rl := rl2) 1000 (fun rl3 h3 m e3 y3 => ?_)
  have hC3 := ClsH.ex (S := S0) (Nat.zero_le 4) hC2 y3 (fun _ _ z => z)
  refine x_callI rfl rfl (mm_init e3 (fun rl4 h4 hR4 y4 => ?_))
  have hC4 := ClsH.ex (S := S0) (Nat.zero_le 4) hC3 y4 mx_c
  exact lw_loop hG hL 512 0 _ _ rl4 h4 S0 (by omega) (by omega) (by omega) (by omega) hC4 hR4
end LSTART
theorem whole_start {p : Program} {e : Env} {s : State} {m : MethodId} {below : List Frame} {meth : Method} {c : Code} (l : Launch) {b L : Nat} {xs : Nat → Int32} (hL : L ≤ 3072) (C0 : lw_At p s m meth c b L xs) : W p l e room_1 s m #[Value.ref b] below meth c s.heap [] 0 0 (lw_Z below #[Value.ref b] s) (entryFrame m ([Value.ref b] : List Value).toArray 4) := by
  obtain ⟨hx, hb, hr, hml, hown, hts, hX, hbl, hlocks, hgv⟩ := C0
  obtain ⟨g, hK⟩ := kk_of hts hgv
  have X : Cx g p s m #[Value.ref b] meth c (fun q => s.heap.size ≤ q) code RL 4 := ⟨hx, hb, hml, hown, fun w hw => hts w (List.mem_filter.mp hw).1, hK, hlocks, fun q h => h⟩
  have B := lw_body (l := l) (g := g) (b := b) (L := L) (xs := xs) (G := fun k => GL g p l e s m b below meth c (pc_L k)) (fun k h cb sb ls st hk => sb_L X hr hX hbl k h cb sb ls st hk) hL
  have hl := lv_entry ([.ref b]) (n := 4) (Nat.le_of_ble_eq_true rfl)
  rw [lg_entry_eq]
  refine B s.heap [] 0 0 _ ⟨[], fun k q h => by simp at h, ⟨fun i j p q h => by simp at h, fun k q h => by simp at h⟩, fun a e => by simp⟩ va_S.rf (by show 0 + 600000 ≤ 600000; omega) (by show 0 + 7302250 ≤ 7302250; omega) ⟨rfl, hl.1, hl.2.1, fun i v hi => ?_⟩
  match i, hi with
  | 0, hi =>
    cases hi
    exact ⟨hl.2.2 (0, .ref b) List.mem_cons_self, rfl⟩
  | 1, hi => cases hi
  | 2, hi => cases hi
  | 3, hi => cases hi
  | k + 4, hi => simp at hi

