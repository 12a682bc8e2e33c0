theorem dJ7_fill_53178_0 : decode cJ7_fill_53178 0 = .ok (.iconst 0, 1) := by decide +kernel
theorem dJ7_fill_53178_1 : decode cJ7_fill_53178 1 = .ok (.istore_n 2, 1) := by decide +kernel
theorem dJ7_fill_53178_2 : decode cJ7_fill_53178 2 = .ok (.aload_n 0, 1) := by decide +kernel
theorem dJ7_fill_53178_3 : decode cJ7_fill_53178 3 = .ok (.arraylength, 1) := by decide +kernel
theorem dJ7_fill_53178_4 : decode cJ7_fill_53178 4 = .ok (.istore_n 3, 1) := by decide +kernel
theorem dJ7_fill_53178_5 : decode cJ7_fill_53178 5 = .ok (.iload_n 2, 1) := by decide +kernel
theorem dJ7_fill_53178_6 : decode cJ7_fill_53178 6 = .ok (.iload_n 3, 1) := by decide +kernel
theorem dJ7_fill_53178_7 : decode cJ7_fill_53178 7 = .ok (.if_icmp .ge 13, 3) := by decide +kernel
theorem dJ7_fill_53178_10 : decode cJ7_fill_53178 10 = .ok (.aload_n 0, 1) := by decide +kernel
theorem dJ7_fill_53178_11 : decode cJ7_fill_53178 11 = .ok (.iload_n 2, 1) := by decide +kernel
theorem dJ7_fill_53178_12 : decode cJ7_fill_53178 12 = .ok (.iload_n 1, 1) := by decide +kernel
theorem dJ7_fill_53178_13 : decode cJ7_fill_53178 13 = .ok (.iastore, 1) := by decide +kernel
theorem dJ7_fill_53178_14 : decode cJ7_fill_53178 14 = .ok (.iinc 2 1, 3) := by decide +kernel
theorem dJ7_fill_53178_17 : decode cJ7_fill_53178 17 = .ok (.goto (-12), 3) := by decide +kernel
theorem dJ7_fill_53178_20 : decode cJ7_fill_53178 20 = .ok (.return_, 1) := by decide +kernel
def bk_J7_fill_53178_0 (l : Launch) (g : Gm) (G : Nat → CT) (P : PT) : CT := (oPush (.int (0)) (oISt 2 (oALd 0 (oLen g (oISt 3 (G 1))))))
def bk_J7_fill_53178_1 (l : Launch) (g : Gm) (G : Nat → CT) (P : PT) : CT := (oILd 2 (oILd 3 (oCmp (fun x y => y ≤ x) (oVRet P) (oALd 0 (oILd 2 (oILd 1 (oIAS g (oInc 2 (1) (oGo (G 1))))))))))
def bk_J7_fill_53178 (l : Launch) (g : Gm) (b : Nat) (G : Nat → CT) (P : PT) : CT := match b with
  | 0 => bk_J7_fill_53178_0 l g G P
  | 1 => bk_J7_fill_53178_1 l g G P
  | _ => fun _ _ _ _ _ => False
def pc_J7_fill_53178 (b : Nat) : Nat := match b with
  | 0 => 0
  | 1 => 5
  | _ => 0
set_option maxRecDepth 100000 in
theorem sb_J7_fill_53178_0 {p : Program} {l : Launch} {e : Env} {s : State} {m : MethodId} {args : Array Value} {below : List Frame} {meth : Method} {c : Code} {g : Gm} {h0 : Hp} {P : PT} {mc ms : Nat} (X : Cx g p s m args meth c (Adom h0 s.heap.size) cJ7_fill_53178 RJ7 4) (hr : meth.sig.returnType = none) (hn : meth.name = "fill") : SX g p l e s m args below meth c d_J7_fill_53178 4 mc ms h0 P (bk_J7_fill_53178_0 l g (fun b => GX g p l e s m args below meth c d_J7_fill_53178 4 mc ms h0 P (pc_J7_fill_53178 b)) P) 0 := (s_iconst X dJ7_fill_53178_0 rfl (s_istore_n X dJ7_fill_53178_1 rfl (by decide) (s_aload_n X dJ7_fill_53178_2 rfl (s_alen X dJ7_fill_53178_3 (s_istore_n X dJ7_fill_53178_4 rfl (by decide) Sd.rf)))))
set_option maxRecDepth 100000 in
theorem sb_J7_fill_53178_1 {p : Program} {l : Launch} {e : Env} {s : State} {m : MethodId} {args : Array Value} {below : List Frame} {meth : Method} {c : Code} {g : Gm} {h0 : Hp} {P : PT} {mc ms : Nat} (X : Cx g p s m args meth c (Adom h0 s.heap.size) cJ7_fill_53178 RJ7 4) (hr : meth.sig.returnType = none) (hn : meth.name = "fill") : SX g p l e s m args below meth c d_J7_fill_53178 4 mc ms h0 P (bk_J7_fill_53178_1 l g (fun b => GX g p l e s m args below meth c d_J7_fill_53178 4 mc ms h0 P (pc_J7_fill_53178 b)) P) 5 := (s_iload_n X dJ7_fill_53178_5 rfl (s_iload_n X dJ7_fill_53178_6 rfl (s_icmp_ge X dJ7_fill_53178_7 (by decide) (s_vret X hr dJ7_fill_53178_20) (s_aload_n X dJ7_fill_53178_10 rfl (s_iload_n X dJ7_fill_53178_11 rfl (s_iload_n X dJ7_fill_53178_12 rfl (s_iastore X dJ7_fill_53178_13 (s_iinc X dJ7_fill_53178_14 rfl (by decide) (s_goto X dJ7_fill_53178_17 (by decide) Sd.rf)))))))))
set_option maxRecDepth 100000 in
theorem vc_J7_fill_53178 {l : Launch} {g : Gm} {a0 : Nat} {a1 : Int32} {h : Hp} {mc ms : Nat} {P : PT} (H : ∀ G : Nat → CT, (∀ (b : Nat) (h : Hp) (cb sb : Nat) (ls : LocS) (st : List Value), bk_J7_fill_53178 l g b G P h cb sb ls st → G b h cb sb ls st) → G 0 h mc ms [some (.ref a0), some (.int a1), none, none] []) : Run l g d_J7_fill_53178 [.ref a0, .int a1] h mc ms P :=
  Run.of (d := d_J7_fill_53178) (by decide) (mcn rfl (mcn rfl (mnl))) (Nat.le_of_ble_eq_true rfl) (fun p e s m args below meth c X hr hn => H (fun b => GX g p l e s m args below meth c d_J7_fill_53178 4 mc ms h P (pc_J7_fill_53178 b)) (fun b h1 cb sb ls st hb => match b, hb with
    | 0, hb => sb_J7_fill_53178_0 (p := p) (e := e) (below := below) X hr hn h1 cb sb ls st hb
    | 1, hb => sb_J7_fill_53178_1 (p := p) (e := e) (below := below) X hr hn h1 cb sb ls st hb
    | _ + 2, hb => hb.elim))
