theorem dX0_init_0 : decode cX0_init 0 = .ok (.aload_n 0, 1) := by decide +kernel
theorem dX0_init_1 : decode cX0_init 1 = .ok (.iload_n 1, 1) := by decide +kernel
theorem dX0_init_2 : decode cX0_init 2 = .ok (.invokespecial 1, 3) := by decide +kernel
theorem dX0_init_5 : decode cX0_init 5 = .ok (.return_, 1) := by decide +kernel
def bk_X0_init_0 (l : Launch) (g : Gm) (G : Nat → CT) (P : PT) : CT := (oALd 0 (oILd 1 (oCallI l g d_X4_init 1 (oVRet P))))
def bk_X0_init (l : Launch) (g : Gm) (b : Nat) (G : Nat → CT) (P : PT) : CT := match b with
  | 0 => bk_X0_init_0 l g G P
  | _ => fun _ _ _ _ _ => False
def pc_X0_init (b : Nat) : Nat := match b with
  | 0 => 0
  | _ => 0
set_option maxRecDepth 100000 in
theorem sb_X0_init_0 {p : Program} {l : Launch} {e : Env} {s : State} {m : MethodId} {args : Array Value} {below : List Frame} {meth : Method} {c : Code} {g : Gm} {h0 : Hp} {P : PT} {mc ms : Nat} (X : Cx g p s m args meth c (Adom h0 s.heap.size) cX0_init RX0 2) (hr : meth.sig.returnType = none) (hn : meth.name = "<init>") : SX g p l e s m args below meth c d_X0_init 2 mc ms h0 P (bk_X0_init_0 l g (fun b => GX g p l e s m args below meth c d_X0_init 2 mc ms h0 P (pc_X0_init b)) P) 0 := (s_aload_n X dX0_init_0 rfl (s_iload_n X dX0_init_1 rfl (s_callI X rfl rfl dX0_init_2 uw_267 uw_268 uw_9 ci_X4_init yok_X4_init ⟨Nat.le_of_ble_eq_true rfl, Nat.le_of_ble_eq_true rfl⟩ (s_vret X hr dX0_init_5))))
set_option maxRecDepth 100000 in
theorem vc_X0_init {l : Launch} {g : Gm} {a0 : Nat} {a1 : Int32} {h : Hp} {mc ms : Nat} {P : PT} (H : ∀ G : Nat → CT, (∀ (b : Nat) (h : Hp) (cb sb : Nat) (ls : LocS) (st : List Value), bk_X0_init l g b G P h cb sb ls st → G b h cb sb ls st) → G 0 h mc ms [some (.ref a0), some (.int a1)] []) : Run l g d_X0_init [.ref a0, .int a1] h mc ms P :=
  Run.of (d := d_X0_init) (by decide) (mcn rfl (mcn rfl (mnl))) (Nat.le_of_ble_eq_true rfl) (fun p e s m args below meth c X hr hn => H (fun b => GX g p l e s m args below meth c d_X0_init 2 mc ms h P (pc_X0_init b)) (fun b h1 cb sb ls st hb => match b, hb with
    | 0, hb => sb_X0_init_0 (p := p) (e := e) (below := below) X hr hn h1 cb sb ls st hb
    | _ + 1, hb => hb.elim))
theorem dX0_toldOf_0 : decode cX0_toldOf 0 = .ok (.aload_n 1, 1) := by decide +kernel
theorem dX0_toldOf_1 : decode cX0_toldOf 1 = .ok (.iconst 2, 1) := by decide +kernel
theorem dX0_toldOf_2 : decode cX0_toldOf 2 = .ok (.invokevirtual 7, 3) := by decide +kernel
theorem dX0_toldOf_5 : decode cX0_toldOf 5 = .ok (.aload_n 0, 1) := by decide +kernel
theorem dX0_toldOf_6 : decode cX0_toldOf 6 = .ok (.aload_n 1, 1) := by decide +kernel
theorem dX0_toldOf_7 : decode cX0_toldOf 7 = .ok (.iload_n 2, 1) := by decide +kernel
theorem dX0_toldOf_8 : decode cX0_toldOf 8 = .ok (.invokespecial 12, 3) := by decide +kernel
theorem dX0_toldOf_11 : decode cX0_toldOf 11 = .ok (.bipush 100, 2) := by decide +kernel
theorem dX0_toldOf_13 : decode cX0_toldOf 13 = .ok (.iadd, 1) := by decide +kernel
theorem dX0_toldOf_14 : decode cX0_toldOf 14 = .ok (.ireturn, 1) := by decide +kernel
def bk_X0_toldOf_0 (l : Launch) (g : Gm) (G : Nat → CT) (P : PT) : CT := (oALd 1 (oPush (.int (2)) (oCallV l g [(8, d_X8_leave)] 2 (oALd 0 (oALd 1 (oILd 2 (oCallV l g ([0, 1].map fun ci => (ci, d_X4_toldOf)) 3 (oPush (.int (100)) (oBin (fun x y => x + y) (oIRet P))))))))))
def bk_X0_toldOf (l : Launch) (g : Gm) (b : Nat) (G : Nat → CT) (P : PT) : CT := match b with
  | 0 => bk_X0_toldOf_0 l g G P
  | _ => fun _ _ _ _ _ => False
def pc_X0_toldOf (b : Nat) : Nat := match b with
  | 0 => 0
  | _ => 0
set_option maxRecDepth 100000 in
theorem sb_X0_toldOf_0 {p : Program} {l : Launch} {e : Env} {s : State} {m : MethodId} {args : Array Value} {below : List Frame} {meth : Method} {c : Code} {g : Gm} {h0 : Hp} {P : PT} {mc ms : Nat} (X : Cx g p s m args meth c (Adom h0 s.heap.size) cX0_toldOf RX0 3) (hr : meth.sig.returnType = some .int) (hn : meth.name = "toldOf") : SX g p l e s m args below meth c d_X0_toldOf 3 mc ms h0 P (bk_X0_toldOf_0 l g (fun b => GX g p l e s m args below meth c d_X0_toldOf 3 mc ms h0 P (pc_X0_toldOf b)) P) 0 := (s_aload_n X dX0_toldOf_0 rfl (s_iconst X dX0_toldOf_1 rfl (s_callV X dX0_toldOf_2 (mv (vok_V X rfl uw_646 uw_647 uw_648 uw_2 ci_X8_leave yok_X8_leave ⟨Nat.le_of_ble_eq_true rfl, Nat.le_of_ble_eq_true rfl⟩) mv0) (s_aload_n X dX0_toldOf_5 rfl (s_aload_n X dX0_toldOf_6 rfl (s_iload_n X dX0_toldOf_7 rfl (s_callSU X dX0_toldOf_8 uw_650 uw_642 uw_310 uw_640 uw_9 ci_X4_toldOf (by decide +kernel) ⟨Nat.le_of_ble_eq_true rfl, Nat.le_of_ble_eq_true rfl⟩ (mcn (⟨_, rfl⟩) (mcn (⟨_, rfl⟩) (mnl))) (s_bipush X dX0_toldOf_11 rfl (s_iadd X dX0_toldOf_13 (s_iret X hr dX0_toldOf_14))))))))))
set_option maxRecDepth 100000 in
theorem vc_X0_toldOf {l : Launch} {g : Gm} {a0 : Nat} {a1 : Nat} {a2 : Int32} {h : Hp} {mc ms : Nat} {P : PT} (H : ∀ G : Nat → CT, (∀ (b : Nat) (h : Hp) (cb sb : Nat) (ls : LocS) (st : List Value), bk_X0_toldOf l g b G P h cb sb ls st → G b h cb sb ls st) → G 0 h mc ms [some (.ref a0), some (.ref a1), some (.int a2)] []) : Run l g d_X0_toldOf [.ref a0, .ref a1, .int a2] h mc ms P :=
  Run.of (d := d_X0_toldOf) (by decide) (mcn rfl (mcn rfl (mcn rfl (mnl)))) (Nat.le_of_ble_eq_true rfl) (fun p e s m args below meth c X hr hn => H (fun b => GX g p l e s m args below meth c d_X0_toldOf 3 mc ms h P (pc_X0_toldOf b)) (fun b h1 cb sb ls st hb => match b, hb with
    | 0, hb => sb_X0_toldOf_0 (p := p) (e := e) (below := below) X hr hn h1 cb sb ls st hb
    | _ + 1, hb => hb.elim))
