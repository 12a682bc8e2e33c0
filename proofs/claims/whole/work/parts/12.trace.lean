theorem dX8_init_0 : decode cX8_init 0 = .ok (.aload_n 0, 1) := by decide +kernel
theorem dX8_init_1 : decode cX8_init 1 = .ok (.invokespecial 1, 3) := by decide +kernel
theorem dX8_init_4 : decode cX8_init 4 = .ok (.return_, 1) := by decide +kernel
def bk_X8_init_0 (l : Launch) (g : Gm) (G : Nat → CT) (P : PT) : CT := (oALd 0 (oObj1 (oVRet P)))
def bk_X8_init (l : Launch) (g : Gm) (b : Nat) (G : Nat → CT) (P : PT) : CT := match b with
  | 0 => bk_X8_init_0 l g G P
  | _ => fun _ _ _ _ _ => False
def pc_X8_init (b : Nat) : Nat := match b with
  | 0 => 0
  | _ => 0
set_option maxRecDepth 100000 in
theorem sb_X8_init_0 {p : Program} {l : Launch} {e : Env} {s : State} {m : MethodId} {args : Array Value} {below : List Frame} {meth : Method} {c : Code} {g : Gm} {h0 : Hp} {P : PT} {mc ms : Nat} (X : Cx g p s m args meth c (Adom h0 s.heap.size) cX8_init RX8 1) (hr : meth.sig.returnType = none) (hn : meth.name = "<init>") : SX g p l e s m args below meth c d_X8_init 1 mc ms h0 P (bk_X8_init_0 l g (fun b => GX g p l e s m args below meth c d_X8_init 1 mc ms h0 P (pc_X8_init b)) P) 0 := (s_aload_n X dX8_init_0 rfl (s_obj1 X uw_30 uw_21 uw_22 (Nat.le_of_ble_eq_true rfl) (Nat.le_of_ble_eq_true rfl) dX8_init_1 (s_vret X hr dX8_init_4)))
set_option maxRecDepth 100000 in
theorem vc_X8_init {l : Launch} {g : Gm} {a0 : Nat} {h : Hp} {mc ms : Nat} {P : PT} (H : ∀ G : Nat → CT, (∀ (b : Nat) (h : Hp) (cb sb : Nat) (ls : LocS) (st : List Value), bk_X8_init l g b G P h cb sb ls st → G b h cb sb ls st) → G 0 h mc ms [some (.ref a0)] []) : Run l g d_X8_init [.ref a0] h mc ms P :=
  Run.of (d := d_X8_init) (by decide) (mcn rfl (mnl)) (Nat.le_of_ble_eq_true rfl) (fun p e s m args below meth c X hr hn => H (fun b => GX g p l e s m args below meth c d_X8_init 1 mc ms h P (pc_X8_init b)) (fun b h1 cb sb ls st hb => match b, hb with
    | 0, hb => sb_X8_init_0 (p := p) (e := e) (below := below) X hr hn h1 cb sb ls st hb
    | _ + 1, hb => hb.elim))
theorem dX8_leave_0 : decode cX8_leave 0 = .ok (.aload_n 0, 1) := by decide +kernel
theorem dX8_leave_1 : decode cX8_leave 1 = .ok (.bipush 31, 2) := by decide +kernel
theorem dX8_leave_3 : decode cX8_leave 3 = .ok (.aload_n 0, 1) := by decide +kernel
theorem dX8_leave_4 : decode cX8_leave 4 = .ok (.getfield 7, 3) := by decide +kernel
theorem dX8_leave_7 : decode cX8_leave 7 = .ok (.imul, 1) := by decide +kernel
theorem dX8_leave_8 : decode cX8_leave 8 = .ok (.iload_n 1, 1) := by decide +kernel
theorem dX8_leave_9 : decode cX8_leave 9 = .ok (.iadd, 1) := by decide +kernel
theorem dX8_leave_10 : decode cX8_leave 10 = .ok (.putfield 7, 3) := by decide +kernel
theorem dX8_leave_13 : decode cX8_leave 13 = .ok (.return_, 1) := by decide +kernel
def bk_X8_leave_0 (l : Launch) (g : Gm) (G : Nat → CT) (P : PT) : CT := (oALd 0 (oPush (.int (31)) (oALd 0 (oGet [8] 0 (oBin (fun x y => x * y) (oILd 1 (oBin (fun x y => x + y) (oPutI [8] 0 (oVRet P)))))))))
def bk_X8_leave (l : Launch) (g : Gm) (b : Nat) (G : Nat → CT) (P : PT) : CT := match b with
  | 0 => bk_X8_leave_0 l g G P
  | _ => fun _ _ _ _ _ => False
def pc_X8_leave (b : Nat) : Nat := match b with
  | 0 => 0
  | _ => 0
set_option maxRecDepth 100000 in
theorem sb_X8_leave_0 {p : Program} {l : Launch} {e : Env} {s : State} {m : MethodId} {args : Array Value} {below : List Frame} {meth : Method} {c : Code} {g : Gm} {h0 : Hp} {P : PT} {mc ms : Nat} (X : Cx g p s m args meth c (Adom h0 s.heap.size) cX8_leave RX8 2) (hr : meth.sig.returnType = none) (hn : meth.name = "leave") : SX g p l e s m args below meth c d_X8_leave 2 mc ms h0 P (bk_X8_leave_0 l g (fun b => GX g p l e s m args below meth c d_X8_leave 2 mc ms h0 P (pc_X8_leave b)) P) 0 := (s_aload_n X dX8_leave_0 rfl (s_bipush X dX8_leave_1 rfl (s_aload_n X dX8_leave_3 rfl (s_get X dX8_leave_4 (mcn (⟨_, _, _, _, rfl, inU_X8, by decide, uw_31, rfl⟩) (mnl)) (s_imul X dX8_leave_7 (s_iload_n X dX8_leave_8 rfl (s_iadd X dX8_leave_9 (s_putI X dX8_leave_10 (mcn (⟨_, _, _, _, tyX8, rfl, inU_X8, by decide, uw_31, rfl, tyX8_ok, nmX8, rfl, rfl⟩) (mnl)) (s_vret X hr dX8_leave_13)))))))))
set_option maxRecDepth 100000 in
theorem vc_X8_leave {l : Launch} {g : Gm} {a0 : Nat} {a1 : Int32} {h : Hp} {mc ms : Nat} {P : PT} (H : ∀ G : Nat → CT, (∀ (b : Nat) (h : Hp) (cb sb : Nat) (ls : LocS) (st : List Value), bk_X8_leave l g b G P h cb sb ls st → G b h cb sb ls st) → G 0 h mc ms [some (.ref a0), some (.int a1)] []) : Run l g d_X8_leave [.ref a0, .int a1] h mc ms P :=
  Run.of (d := d_X8_leave) (by decide) (mcn rfl (mcn rfl (mnl))) (Nat.le_of_ble_eq_true rfl) (fun p e s m args below meth c X hr hn => H (fun b => GX g p l e s m args below meth c d_X8_leave 2 mc ms h P (pc_X8_leave b)) (fun b h1 cb sb ls st hb => match b, hb with
    | 0, hb => sb_X8_leave_0 (p := p) (e := e) (below := below) X hr hn h1 cb sb ls st hb
    | _ + 1, hb => hb.elim))
