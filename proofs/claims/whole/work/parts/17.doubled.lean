theorem dX1_init_0 : decode cX1_init 0 = .ok (.aload_n 0, 1) := by decide +kernel
theorem dX1_init_1 : decode cX1_init 1 = .ok (.iconst 2, 1) := by decide +kernel
theorem dX1_init_2 : decode cX1_init 2 = .ok (.invokespecial 3, 3) := by decide +kernel
theorem dX1_init_5 : decode cX1_init 5 = .ok (.return_, 1) := by decide +kernel
def bk_X1_init_0 (l : Launch) (g : Gm) (G : Nat → CT) (P : PT) : CT := (oALd 0 (oPush (.int (2)) (oCallI l g d_X0_init 1 (oVRet P))))
def bk_X1_init (l : Launch) (g : Gm) (b : Nat) (G : Nat → CT) (P : PT) : CT := match b with
  | 0 => bk_X1_init_0 l g G P
  | _ => fun _ _ _ _ _ => False
def pc_X1_init (b : Nat) : Nat := match b with
  | 0 => 0
  | _ => 0
set_option maxRecDepth 100000 in
theorem sb_X1_init_0 {p : Program} {l : Launch} {e : Env} {s : State} {m : MethodId} {args : Array Value} {below : List Frame} {meth : Method} {c : Code} {g : Gm} {h0 : Hp} {P : PT} {mc ms : Nat} (X : Cx g p s m args meth c (Adom h0 s.heap.size) cX1_init RX1 1) (hr : meth.sig.returnType = none) (hn : meth.name = "<init>") : SX g p l e s m args below meth c d_X1_init 1 mc ms h0 P (bk_X1_init_0 l g (fun b => GX g p l e s m args below meth c d_X1_init 1 mc ms h0 P (pc_X1_init b)) P) 0 := (s_aload_n X dX1_init_0 rfl (s_iconst X dX1_init_1 rfl (s_callI X rfl rfl dX1_init_2 uw_264 uw_265 uw_10 ci_X0_init yok_X0_init ⟨Nat.le_of_ble_eq_true rfl, Nat.le_of_ble_eq_true rfl⟩ (s_vret X hr dX1_init_5))))
set_option maxRecDepth 100000 in
theorem vc_X1_init {l : Launch} {g : Gm} {a0 : Nat} {h : Hp} {mc ms : Nat} {P : PT} (H : ∀ G : Nat → CT, (∀ (b : Nat) (h : Hp) (cb sb : Nat) (ls : LocS) (st : List Value), bk_X1_init l g b G P h cb sb ls st → G b h cb sb ls st) → G 0 h mc ms [some (.ref a0)] []) : Run l g d_X1_init [.ref a0] h mc ms P :=
  Run.of (d := d_X1_init) (by decide) (mcn rfl (mnl)) (Nat.le_of_ble_eq_true rfl) (fun p e s m args below meth c X hr hn => H (fun b => GX g p l e s m args below meth c d_X1_init 1 mc ms h P (pc_X1_init b)) (fun b h1 cb sb ls st hb => match b, hb with
    | 0, hb => sb_X1_init_0 (p := p) (e := e) (below := below) X hr hn h1 cb sb ls st hb
    | _ + 1, hb => hb.elim))
theorem dX1_toldOf_0 : decode cX1_toldOf 0 = .ok (.aload_n 1, 1) := by decide +kernel
theorem dX1_toldOf_1 : decode cX1_toldOf 1 = .ok (.iconst 3, 1) := by decide +kernel
theorem dX1_toldOf_2 : decode cX1_toldOf 2 = .ok (.invokevirtual 9, 3) := by decide +kernel
theorem dX1_toldOf_5 : decode cX1_toldOf 5 = .ok (.aload_n 0, 1) := by decide +kernel
theorem dX1_toldOf_6 : decode cX1_toldOf 6 = .ok (.aload_n 1, 1) := by decide +kernel
theorem dX1_toldOf_7 : decode cX1_toldOf 7 = .ok (.iload_n 2, 1) := by decide +kernel
theorem dX1_toldOf_8 : decode cX1_toldOf 8 = .ok (.invokespecial 14, 3) := by decide +kernel
theorem dX1_toldOf_11 : decode cX1_toldOf 11 = .ok (.istore_n 3, 1) := by decide +kernel
theorem dX1_toldOf_12 : decode cX1_toldOf 12 = .ok (.iload_n 3, 1) := by decide +kernel
theorem dX1_toldOf_13 : decode cX1_toldOf 13 = .ok (.aload_n 0, 1) := by decide +kernel
theorem dX1_toldOf_14 : decode cX1_toldOf 14 = .ok (.aload_n 1, 1) := by decide +kernel
theorem dX1_toldOf_15 : decode cX1_toldOf 15 = .ok (.iload_n 2, 1) := by decide +kernel
theorem dX1_toldOf_16 : decode cX1_toldOf 16 = .ok (.invokevirtual 18, 3) := by decide +kernel
theorem dX1_toldOf_19 : decode cX1_toldOf 19 = .ok (.iadd, 1) := by decide +kernel
theorem dX1_toldOf_20 : decode cX1_toldOf 20 = .ok (.ireturn, 1) := by decide +kernel
def bk_X1_toldOf_0 (l : Launch) (g : Gm) (G : Nat → CT) (P : PT) : CT := (oALd 1 (oPush (.int (3)) (oCallV l g [(8, d_X8_leave)] 2 (oALd 0 (oALd 1 (oILd 2 (oCallV l g ([1].map fun ci => (ci, d_X0_toldOf)) 3 (oISt 3 (oILd 3 (oALd 0 (oALd 1 (oILd 2 (oCallV l g [(1, d_X4_toldPlainly)] 3 (oBin (fun x y => x + y) (oIRet P)))))))))))))))
def bk_X1_toldOf (l : Launch) (g : Gm) (b : Nat) (G : Nat → CT) (P : PT) : CT := match b with
  | 0 => bk_X1_toldOf_0 l g G P
  | _ => fun _ _ _ _ _ => False
def pc_X1_toldOf (b : Nat) : Nat := match b with
  | 0 => 0
  | _ => 0
set_option maxRecDepth 100000 in
theorem sb_X1_toldOf_0 {p : Program} {l : Launch} {e : Env} {s : State} {m : MethodId} {args : Array Value} {below : List Frame} {meth : Method} {c : Code} {g : Gm} {h0 : Hp} {P : PT} {mc ms : Nat} (X : Cx g p s m args meth c (Adom h0 s.heap.size) cX1_toldOf RX1 4) (hr : meth.sig.returnType = some .int) (hn : meth.name = "toldOf") : SX g p l e s m args below meth c d_X1_toldOf 4 mc ms h0 P (bk_X1_toldOf_0 l g (fun b => GX g p l e s m args below meth c d_X1_toldOf 4 mc ms h0 P (pc_X1_toldOf b)) P) 0 := (s_aload_n X dX1_toldOf_0 rfl (s_iconst X dX1_toldOf_1 rfl (s_callV X dX1_toldOf_2 (mv (vok_V X rfl uw_654 uw_647 uw_648 uw_2 ci_X8_leave yok_X8_leave ⟨Nat.le_of_ble_eq_true rfl, Nat.le_of_ble_eq_true rfl⟩) mv0) (s_aload_n X dX1_toldOf_5 rfl (s_aload_n X dX1_toldOf_6 rfl (s_iload_n X dX1_toldOf_7 rfl (s_callSU X dX1_toldOf_8 uw_655 uw_1072 uw_300 uw_644 uw_10 ci_X0_toldOf (by decide +kernel) ⟨Nat.le_of_ble_eq_true rfl, Nat.le_of_ble_eq_true rfl⟩ (mcn (⟨_, rfl⟩) (mnl)) (s_istore_n X dX1_toldOf_11 rfl (by decide) (s_iload_n X dX1_toldOf_12 rfl (s_aload_n X dX1_toldOf_13 rfl (s_aload_n X dX1_toldOf_14 rfl (s_iload_n X dX1_toldOf_15 rfl (s_callV X dX1_toldOf_16 (mv (vok_U X (owner := RX4) (x := ⟨"VillageCuts$Doubled", "toldPlainly", "(LVillageCuts$Trace;I)I"⟩) rfl rfl uw_656 uw_657 uw_659 uw_660 uw_9 ci_X4_toldPlainly (by decide +kernel) ⟨Nat.le_of_ble_eq_true rfl, Nat.le_of_ble_eq_true rfl⟩) (mv0)) (s_iadd X dX1_toldOf_19 (s_iret X hr dX1_toldOf_20)))))))))))))))
set_option maxRecDepth 100000 in
theorem vc_X1_toldOf {l : Launch} {g : Gm} {a0 : Nat} {a1 : Nat} {a2 : Int32} {h : Hp} {mc ms : Nat} {P : PT} (H : ∀ G : Nat → CT, (∀ (b : Nat) (h : Hp) (cb sb : Nat) (ls : LocS) (st : List Value), bk_X1_toldOf l g b G P h cb sb ls st → G b h cb sb ls st) → G 0 h mc ms [some (.ref a0), some (.ref a1), some (.int a2), none] []) : Run l g d_X1_toldOf [.ref a0, .ref a1, .int a2] h mc ms P :=
  Run.of (d := d_X1_toldOf) (by decide) (mcn rfl (mcn rfl (mcn rfl (mnl)))) (Nat.le_of_ble_eq_true rfl) (fun p e s m args below meth c X hr hn => H (fun b => GX g p l e s m args below meth c d_X1_toldOf 4 mc ms h P (pc_X1_toldOf b)) (fun b h1 cb sb ls st hb => match b, hb with
    | 0, hb => sb_X1_toldOf_0 (p := p) (e := e) (below := below) X hr hn h1 cb sb ls st hb
    | _ + 1, hb => hb.elim))
theorem dX1_rungAt_0 : decode cX1_rungAt 0 = .ok (.aload_n 1, 1) := by decide +kernel
theorem dX1_rungAt_1 : decode cX1_rungAt 1 = .ok (.iconst 5, 1) := by decide +kernel
theorem dX1_rungAt_2 : decode cX1_rungAt 2 = .ok (.invokevirtual 9, 3) := by decide +kernel
theorem dX1_rungAt_5 : decode cX1_rungAt 5 = .ok (.bipush 50, 2) := by decide +kernel
theorem dX1_rungAt_7 : decode cX1_rungAt 7 = .ok (.ireturn, 1) := by decide +kernel
def bk_X1_rungAt_0 (l : Launch) (g : Gm) (G : Nat → CT) (P : PT) : CT := (oALd 1 (oPush (.int (5)) (oCallV l g [(8, d_X8_leave)] 2 (oPush (.int (50)) (oIRet P)))))
def bk_X1_rungAt (l : Launch) (g : Gm) (b : Nat) (G : Nat → CT) (P : PT) : CT := match b with
  | 0 => bk_X1_rungAt_0 l g G P
  | _ => fun _ _ _ _ _ => False
def pc_X1_rungAt (b : Nat) : Nat := match b with
  | 0 => 0
  | _ => 0
set_option maxRecDepth 100000 in
theorem sb_X1_rungAt_0 {p : Program} {l : Launch} {e : Env} {s : State} {m : MethodId} {args : Array Value} {below : List Frame} {meth : Method} {c : Code} {g : Gm} {h0 : Hp} {P : PT} {mc ms : Nat} (X : Cx g p s m args meth c (Adom h0 s.heap.size) cX1_rungAt RX1 3) (hr : meth.sig.returnType = some .int) (hn : meth.name = "rungAt") : SX g p l e s m args below meth c d_X1_rungAt 3 mc ms h0 P (bk_X1_rungAt_0 l g (fun b => GX g p l e s m args below meth c d_X1_rungAt 3 mc ms h0 P (pc_X1_rungAt b)) P) 0 := (s_aload_n X dX1_rungAt_0 rfl (s_iconst X dX1_rungAt_1 rfl (s_callV X dX1_rungAt_2 (mv (vok_V X rfl uw_654 uw_647 uw_648 uw_2 ci_X8_leave yok_X8_leave ⟨Nat.le_of_ble_eq_true rfl, Nat.le_of_ble_eq_true rfl⟩) mv0) (s_bipush X dX1_rungAt_5 rfl (s_iret X hr dX1_rungAt_7)))))
set_option maxRecDepth 100000 in
theorem vc_X1_rungAt {l : Launch} {g : Gm} {a0 : Nat} {a1 : Nat} {a2 : Int32} {h : Hp} {mc ms : Nat} {P : PT} (H : ∀ G : Nat → CT, (∀ (b : Nat) (h : Hp) (cb sb : Nat) (ls : LocS) (st : List Value), bk_X1_rungAt l g b G P h cb sb ls st → G b h cb sb ls st) → G 0 h mc ms [some (.ref a0), some (.ref a1), some (.int a2)] []) : Run l g d_X1_rungAt [.ref a0, .ref a1, .int a2] h mc ms P :=
  Run.of (d := d_X1_rungAt) (by decide) (mcn rfl (mcn rfl (mcn rfl (mnl)))) (Nat.le_of_ble_eq_true rfl) (fun p e s m args below meth c X hr hn => H (fun b => GX g p l e s m args below meth c d_X1_rungAt 3 mc ms h P (pc_X1_rungAt b)) (fun b h1 cb sb ls st hb => match b, hb with
    | 0, hb => sb_X1_rungAt_0 (p := p) (e := e) (below := below) X hr hn h1 cb sb ls st hb
    | _ + 1, hb => hb.elim))
