theorem dX5_init_0 : decode cX5_init 0 = .ok (.aload_n 0, 1) := by decide +kernel
theorem dX5_init_1 : decode cX5_init 1 = .ok (.invokespecial 3, 3) := by decide +kernel
theorem dX5_init_4 : decode cX5_init 4 = .ok (.aload_n 0, 1) := by decide +kernel
theorem dX5_init_5 : decode cX5_init 5 = .ok (.bipush 60, 2) := by decide +kernel
theorem dX5_init_7 : decode cX5_init 7 = .ok (.newarray .int, 2) := by decide +kernel
theorem dX5_init_9 : decode cX5_init 9 = .ok (.putfield 9, 3) := by decide +kernel
theorem dX5_init_12 : decode cX5_init 12 = .ok (.return_, 1) := by decide +kernel
def bk_X5_init_0 (l : Launch) (g : Gm) (G : Nat → CT) (P : PT) : CT := (oALd 0 (oObj1 (oALd 0 (oPush (.int (60)) (oNewI g (oPutR [5] 0 (oVRet P)))))))
def bk_X5_init (l : Launch) (g : Gm) (b : Nat) (G : Nat → CT) (P : PT) : CT := match b with
  | 0 => bk_X5_init_0 l g G P
  | _ => fun _ _ _ _ _ => False
def pc_X5_init (b : Nat) : Nat := match b with
  | 0 => 0
  | _ => 0
set_option maxRecDepth 100000 in
theorem sb_X5_init_0 {p : Program} {l : Launch} {e : Env} {s : State} {m : MethodId} {args : Array Value} {below : List Frame} {meth : Method} {c : Code} {g : Gm} {h0 : Hp} {P : PT} {mc ms : Nat} (X : Cx g p s m args meth c (Adom h0 s.heap.size) cX5_init RX5 1) (hr : meth.sig.returnType = none) (hn : meth.name = "<init>") : SX g p l e s m args below meth c d_X5_init 1 mc ms h0 P (bk_X5_init_0 l g (fun b => GX g p l e s m args below meth c d_X5_init 1 mc ms h0 P (pc_X5_init b)) P) 0 := (s_aload_n X dX5_init_0 rfl (s_obj1 X uw_146 uw_21 uw_22 (Nat.le_of_ble_eq_true rfl) (Nat.le_of_ble_eq_true rfl) dX5_init_1 (s_aload_n X dX5_init_4 rfl (s_bipush X dX5_init_5 rfl (s_newI X uw_78 dX5_init_7 (s_putRF X dX5_init_9 rt_arr (mcn (⟨_, _, _, _, tyX5, rfl, inU_X5, by decide, uw_147, rfl, tyX5_ok, nmX5, rfl, rfl⟩) (mnl)) hn (mcn (fun C T1 N1 hq => by cases hq; rfl) (mnl)) (s_vret X hr dX5_init_12)))))))
set_option maxRecDepth 100000 in
theorem vc_X5_init {l : Launch} {g : Gm} {a0 : Nat} {h : Hp} {mc ms : Nat} {P : PT} (H : ∀ G : Nat → CT, (∀ (b : Nat) (h : Hp) (cb sb : Nat) (ls : LocS) (st : List Value), bk_X5_init l g b G P h cb sb ls st → G b h cb sb ls st) → G 0 h mc ms [some (.ref a0)] []) : Run l g d_X5_init [.ref a0] h mc ms P :=
  Run.of (d := d_X5_init) (by decide) (mcn rfl (mnl)) (Nat.le_of_ble_eq_true rfl) (fun p e s m args below meth c X hr hn => H (fun b => GX g p l e s m args below meth c d_X5_init 1 mc ms h P (pc_X5_init b)) (fun b h1 cb sb ls st hb => match b, hb with
    | 0, hb => sb_X5_init_0 (p := p) (e := e) (below := below) X hr hn h1 cb sb ls st hb
    | _ + 1, hb => hb.elim))
theorem dX5_renew_0 : decode cX5_renew 0 = .ok (.aload_n 0, 1) := by decide +kernel
theorem dX5_renew_1 : decode cX5_renew 1 = .ok (.getfield 9, 3) := by decide +kernel
theorem dX5_renew_4 : decode cX5_renew 4 = .ok (.iconst 0, 1) := by decide +kernel
theorem dX5_renew_5 : decode cX5_renew 5 = .ok (.invokestatic 15, 3) := by decide +kernel
theorem dX5_renew_8 : decode cX5_renew 8 = .ok (.aload_n 0, 1) := by decide +kernel
theorem dX5_renew_9 : decode cX5_renew 9 = .ok (.iconst 1, 1) := by decide +kernel
theorem dX5_renew_10 : decode cX5_renew 10 = .ok (.putfield 21, 3) := by decide +kernel
theorem dX5_renew_13 : decode cX5_renew 13 = .ok (.aload_n 0, 1) := by decide +kernel
theorem dX5_renew_14 : decode cX5_renew 14 = .ok (.iload_n 1, 1) := by decide +kernel
theorem dX5_renew_15 : decode cX5_renew 15 = .ok (.putfield 25, 3) := by decide +kernel
theorem dX5_renew_18 : decode cX5_renew 18 = .ok (.aload_n 0, 1) := by decide +kernel
theorem dX5_renew_19 : decode cX5_renew 19 = .ok (.iload_n 2, 1) := by decide +kernel
theorem dX5_renew_20 : decode cX5_renew 20 = .ok (.putfield 29, 3) := by decide +kernel
theorem dX5_renew_23 : decode cX5_renew 23 = .ok (.return_, 1) := by decide +kernel
def bk_X5_renew_0 (l : Launch) (g : Gm) (G : Nat → CT) (P : PT) : CT := (oALd 0 (oGet [5] 0 (oPush (.int (0)) (oCall l g d_J7_fill_53178 2 (oALd 0 (oPush (.int (1)) (oPutZ [5] 1 (oALd 0 (oILd 1 (oPutI [5] 2 (oALd 0 (oILd 2 (oPutI [5] 3 (oVRet P))))))))))))))
def bk_X5_renew (l : Launch) (g : Gm) (b : Nat) (G : Nat → CT) (P : PT) : CT := match b with
  | 0 => bk_X5_renew_0 l g G P
  | _ => fun _ _ _ _ _ => False
def pc_X5_renew (b : Nat) : Nat := match b with
  | 0 => 0
  | _ => 0
set_option maxRecDepth 100000 in
theorem sb_X5_renew_0 {p : Program} {l : Launch} {e : Env} {s : State} {m : MethodId} {args : Array Value} {below : List Frame} {meth : Method} {c : Code} {g : Gm} {h0 : Hp} {P : PT} {mc ms : Nat} (X : Cx g p s m args meth c (Adom h0 s.heap.size) cX5_renew RX5 3) (hr : meth.sig.returnType = none) (hn : meth.name = "renew") : SX g p l e s m args below meth c d_X5_renew 3 mc ms h0 P (bk_X5_renew_0 l g (fun b => GX g p l e s m args below meth c d_X5_renew 3 mc ms h0 P (pc_X5_renew b)) P) 0 := (s_aload_n X dX5_renew_0 rfl (s_get X dX5_renew_1 (mcn (⟨_, _, _, _, rfl, inU_X5, by decide, uw_147, rfl⟩) (mnl)) (s_iconst X dX5_renew_4 rfl (s_callS X dX5_renew_5 uw_613 uw_449 uw_14 ci_J7_fill_53178 yok_J7_fill_53178 ⟨Nat.le_of_ble_eq_true rfl, Nat.le_of_ble_eq_true rfl⟩ (s_aload_n X dX5_renew_8 rfl (s_iconst X dX5_renew_9 rfl (s_putZ X dX5_renew_10 (mcn (⟨_, _, _, _, tyX5, rfl, inU_X5, by decide, uw_150, rfl, tyX5_ok, nmX5, rfl, rfl⟩) (mnl)) (s_aload_n X dX5_renew_13 rfl (s_iload_n X dX5_renew_14 rfl (s_putI X dX5_renew_15 (mcn (⟨_, _, _, _, tyX5, rfl, inU_X5, by decide, uw_152, rfl, tyX5_ok, nmX5, rfl, rfl⟩) (mnl)) (s_aload_n X dX5_renew_18 rfl (s_iload_n X dX5_renew_19 rfl (s_putI X dX5_renew_20 (mcn (⟨_, _, _, _, tyX5, rfl, inU_X5, by decide, uw_154, rfl, tyX5_ok, nmX5, rfl, rfl⟩) (mnl)) (s_vret X hr dX5_renew_23))))))))))))))
set_option maxRecDepth 100000 in
theorem vc_X5_renew {l : Launch} {g : Gm} {a0 : Nat} {a1 : Int32} {a2 : Int32} {h : Hp} {mc ms : Nat} {P : PT} (H : ∀ G : Nat → CT, (∀ (b : Nat) (h : Hp) (cb sb : Nat) (ls : LocS) (st : List Value), bk_X5_renew l g b G P h cb sb ls st → G b h cb sb ls st) → G 0 h mc ms [some (.ref a0), some (.int a1), some (.int a2)] []) : Run l g d_X5_renew [.ref a0, .int a1, .int a2] h mc ms P :=
  Run.of (d := d_X5_renew) (by decide) (mcn rfl (mcn rfl (mcn rfl (mnl)))) (Nat.le_of_ble_eq_true rfl) (fun p e s m args below meth c X hr hn => H (fun b => GX g p l e s m args below meth c d_X5_renew 3 mc ms h P (pc_X5_renew b)) (fun b h1 cb sb ls st hb => match b, hb with
    | 0, hb => sb_X5_renew_0 (p := p) (e := e) (below := below) X hr hn h1 cb sb ls st hb
    | _ + 1, hb => hb.elim))
theorem dX5_write_0 : decode cX5_write 0 = .ok (.aload_n 0, 1) := by decide +kernel
theorem dX5_write_1 : decode cX5_write 1 = .ok (.getfield 25, 3) := by decide +kernel
theorem dX5_write_4 : decode cX5_write 4 = .ok (.ifCond .ne 14, 3) := by decide +kernel
theorem dX5_write_7 : decode cX5_write 7 = .ok (.aload_n 0, 1) := by decide +kernel
theorem dX5_write_8 : decode cX5_write 8 = .ok (.getfield 9, 3) := by decide +kernel
theorem dX5_write_11 : decode cX5_write 11 = .ok (.iload_n 1, 1) := by decide +kernel
theorem dX5_write_12 : decode cX5_write 12 = .ok (.iload_n 2, 1) := by decide +kernel
theorem dX5_write_13 : decode cX5_write 13 = .ok (.i2b, 1) := by decide +kernel
theorem dX5_write_14 : decode cX5_write 14 = .ok (.iastore, 1) := by decide +kernel
theorem dX5_write_15 : decode cX5_write 15 = .ok (.goto 29, 3) := by decide +kernel
theorem dX5_write_18 : decode cX5_write 18 = .ok (.aload_n 0, 1) := by decide +kernel
theorem dX5_write_19 : decode cX5_write 19 = .ok (.getfield 25, 3) := by decide +kernel
theorem dX5_write_22 : decode cX5_write 22 = .ok (.iconst 1, 1) := by decide +kernel
theorem dX5_write_23 : decode cX5_write 23 = .ok (.if_icmp .ne 14, 3) := by decide +kernel
theorem dX5_write_26 : decode cX5_write 26 = .ok (.aload_n 0, 1) := by decide +kernel
theorem dX5_write_27 : decode cX5_write 27 = .ok (.getfield 9, 3) := by decide +kernel
theorem dX5_write_30 : decode cX5_write 30 = .ok (.iload_n 1, 1) := by decide +kernel
theorem dX5_write_31 : decode cX5_write 31 = .ok (.iload_n 2, 1) := by decide +kernel
theorem dX5_write_32 : decode cX5_write 32 = .ok (.i2s, 1) := by decide +kernel
theorem dX5_write_33 : decode cX5_write 33 = .ok (.iastore, 1) := by decide +kernel
theorem dX5_write_34 : decode cX5_write 34 = .ok (.goto 10, 3) := by decide +kernel
theorem dX5_write_37 : decode cX5_write 37 = .ok (.aload_n 0, 1) := by decide +kernel
theorem dX5_write_38 : decode cX5_write 38 = .ok (.getfield 9, 3) := by decide +kernel
theorem dX5_write_41 : decode cX5_write 41 = .ok (.iload_n 1, 1) := by decide +kernel
theorem dX5_write_42 : decode cX5_write 42 = .ok (.iload_n 2, 1) := by decide +kernel
theorem dX5_write_43 : decode cX5_write 43 = .ok (.iastore, 1) := by decide +kernel
theorem dX5_write_44 : decode cX5_write 44 = .ok (.return_, 1) := by decide +kernel
def bk_X5_write_0 (l : Launch) (g : Gm) (G : Nat → CT) (P : PT) : CT := (oALd 0 (oGet [5] 2 (oIf (fun x => x = 0) (oALd 0 (oGet [5] 0 (oILd 1 (oILd 2 (oUn (fun x => x.toInt8.toInt32) (oIAS g (oGo (oVRet P)))))))) (oALd 0 (oGet [5] 2 (oPush (.int (1)) (oCmp (fun x y => x = y) (oALd 0 (oGet [5] 0 (oILd 1 (oILd 2 (oUn (fun x => x.toInt16.toInt32) (oIAS g (oGo (oVRet P)))))))) (oALd 0 (oGet [5] 0 (oILd 1 (oILd 2 (oIAS g (oVRet P)))))))))))))
def bk_X5_write (l : Launch) (g : Gm) (b : Nat) (G : Nat → CT) (P : PT) : CT := match b with
  | 0 => bk_X5_write_0 l g G P
  | _ => fun _ _ _ _ _ => False
def pc_X5_write (b : Nat) : Nat := match b with
  | 0 => 0
  | _ => 0
set_option maxRecDepth 100000 in
theorem sb_X5_write_0 {p : Program} {l : Launch} {e : Env} {s : State} {m : MethodId} {args : Array Value} {below : List Frame} {meth : Method} {c : Code} {g : Gm} {h0 : Hp} {P : PT} {mc ms : Nat} (X : Cx g p s m args meth c (Adom h0 s.heap.size) cX5_write RX5 3) (hr : meth.sig.returnType = none) (hn : meth.name = "write") : SX g p l e s m args below meth c d_X5_write 3 mc ms h0 P (bk_X5_write_0 l g (fun b => GX g p l e s m args below meth c d_X5_write 3 mc ms h0 P (pc_X5_write b)) P) 0 := (s_aload_n X dX5_write_0 rfl (s_get X dX5_write_1 (mcn (⟨_, _, _, _, rfl, inU_X5, by decide, uw_152, rfl⟩) (mnl)) (s_if_ne X dX5_write_4 (by decide) (s_aload_n X dX5_write_18 rfl (s_get X dX5_write_19 (mcn (⟨_, _, _, _, rfl, inU_X5, by decide, uw_152, rfl⟩) (mnl)) (s_iconst X dX5_write_22 rfl (s_icmp_ne X dX5_write_23 (by decide) (s_aload_n X dX5_write_37 rfl (s_get X dX5_write_38 (mcn (⟨_, _, _, _, rfl, inU_X5, by decide, uw_147, rfl⟩) (mnl)) (s_iload_n X dX5_write_41 rfl (s_iload_n X dX5_write_42 rfl (s_iastore X dX5_write_43 (s_vret X hr dX5_write_44)))))) (s_aload_n X dX5_write_26 rfl (s_get X dX5_write_27 (mcn (⟨_, _, _, _, rfl, inU_X5, by decide, uw_147, rfl⟩) (mnl)) (s_iload_n X dX5_write_30 rfl (s_iload_n X dX5_write_31 rfl (s_i2s X dX5_write_32 (s_iastore X dX5_write_33 (s_goto X dX5_write_34 (by decide) (s_vret X hr dX5_write_44)))))))))))) (s_aload_n X dX5_write_7 rfl (s_get X dX5_write_8 (mcn (⟨_, _, _, _, rfl, inU_X5, by decide, uw_147, rfl⟩) (mnl)) (s_iload_n X dX5_write_11 rfl (s_iload_n X dX5_write_12 rfl (s_i2b X dX5_write_13 (s_iastore X dX5_write_14 (s_goto X dX5_write_15 (by decide) (s_vret X hr dX5_write_44)))))))))))
set_option maxRecDepth 100000 in
theorem vc_X5_write {l : Launch} {g : Gm} {a0 : Nat} {a1 : Int32} {a2 : Int32} {h : Hp} {mc ms : Nat} {P : PT} (H : ∀ G : Nat → CT, (∀ (b : Nat) (h : Hp) (cb sb : Nat) (ls : LocS) (st : List Value), bk_X5_write l g b G P h cb sb ls st → G b h cb sb ls st) → G 0 h mc ms [some (.ref a0), some (.int a1), some (.int a2)] []) : Run l g d_X5_write [.ref a0, .int a1, .int a2] h mc ms P :=
  Run.of (d := d_X5_write) (by decide) (mcn rfl (mcn rfl (mcn rfl (mnl)))) (Nat.le_of_ble_eq_true rfl) (fun p e s m args below meth c X hr hn => H (fun b => GX g p l e s m args below meth c d_X5_write 3 mc ms h P (pc_X5_write b)) (fun b h1 cb sb ls st hb => match b, hb with
    | 0, hb => sb_X5_write_0 (p := p) (e := e) (below := below) X hr hn h1 cb sb ls st hb
    | _ + 1, hb => hb.elim))
theorem dX5_hasCells_0 : decode cX5_hasCells 0 = .ok (.iload_n 1, 1) := by decide +kernel
theorem dX5_hasCells_1 : decode cX5_hasCells 1 = .ok (.ifCond .lt 29, 3) := by decide +kernel
theorem dX5_hasCells_4 : decode cX5_hasCells 4 = .ok (.iload_n 1, 1) := by decide +kernel
theorem dX5_hasCells_5 : decode cX5_hasCells 5 = .ok (.aload_n 0, 1) := by decide +kernel
theorem dX5_hasCells_6 : decode cX5_hasCells 6 = .ok (.getfield 29, 3) := by decide +kernel
theorem dX5_hasCells_9 : decode cX5_hasCells 9 = .ok (.if_icmp .gt 21, 3) := by decide +kernel
theorem dX5_hasCells_12 : decode cX5_hasCells 12 = .ok (.iload_n 2, 1) := by decide +kernel
theorem dX5_hasCells_13 : decode cX5_hasCells 13 = .ok (.ifCond .lt 17, 3) := by decide +kernel
theorem dX5_hasCells_16 : decode cX5_hasCells 16 = .ok (.iload_n 2, 1) := by decide +kernel
theorem dX5_hasCells_17 : decode cX5_hasCells 17 = .ok (.aload_n 0, 1) := by decide +kernel
theorem dX5_hasCells_18 : decode cX5_hasCells 18 = .ok (.getfield 29, 3) := by decide +kernel
theorem dX5_hasCells_21 : decode cX5_hasCells 21 = .ok (.iload_n 1, 1) := by decide +kernel
theorem dX5_hasCells_22 : decode cX5_hasCells 22 = .ok (.isub, 1) := by decide +kernel
theorem dX5_hasCells_23 : decode cX5_hasCells 23 = .ok (.if_icmp .gt 7, 3) := by decide +kernel
theorem dX5_hasCells_26 : decode cX5_hasCells 26 = .ok (.iconst 1, 1) := by decide +kernel
theorem dX5_hasCells_27 : decode cX5_hasCells 27 = .ok (.goto 4, 3) := by decide +kernel
theorem dX5_hasCells_30 : decode cX5_hasCells 30 = .ok (.iconst 0, 1) := by decide +kernel
theorem dX5_hasCells_31 : decode cX5_hasCells 31 = .ok (.ireturn, 1) := by decide +kernel
def bk_X5_hasCells_0 (l : Launch) (g : Gm) (G : Nat → CT) (P : PT) : CT := (oILd 1 (oIf (fun x => x < 0) (oPush (.int (0)) (oZRet P)) (oILd 1 (oALd 0 (oGet [5] 3 (oCmp (fun x y => y < x) (oPush (.int (0)) (oZRet P)) (oILd 2 (oIf (fun x => x < 0) (oPush (.int (0)) (oZRet P)) (oILd 2 (oALd 0 (oGet [5] 3 (oILd 1 (oBin (fun x y => x - y) (oCmp (fun x y => y < x) (oPush (.int (0)) (oZRet P)) (oPush (.int (1)) (oGo (oZRet P)))))))))))))))))
def bk_X5_hasCells (l : Launch) (g : Gm) (b : Nat) (G : Nat → CT) (P : PT) : CT := match b with
  | 0 => bk_X5_hasCells_0 l g G P
  | _ => fun _ _ _ _ _ => False
def pc_X5_hasCells (b : Nat) : Nat := match b with
  | 0 => 0
  | _ => 0
set_option maxRecDepth 100000 in
theorem sb_X5_hasCells_0 {p : Program} {l : Launch} {e : Env} {s : State} {m : MethodId} {args : Array Value} {below : List Frame} {meth : Method} {c : Code} {g : Gm} {h0 : Hp} {P : PT} {mc ms : Nat} (X : Cx g p s m args meth c (Adom h0 s.heap.size) cX5_hasCells RX5 3) (hr : meth.sig.returnType = some .boolean) (hn : meth.name = "hasCells") : SX g p l e s m args below meth c d_X5_hasCells 3 mc ms h0 P (bk_X5_hasCells_0 l g (fun b => GX g p l e s m args below meth c d_X5_hasCells 3 mc ms h0 P (pc_X5_hasCells b)) P) 0 := (s_iload_n X dX5_hasCells_0 rfl (s_if_lt X dX5_hasCells_1 (by decide) (s_iconst X dX5_hasCells_30 rfl (s_zret X hr dX5_hasCells_31)) (s_iload_n X dX5_hasCells_4 rfl (s_aload_n X dX5_hasCells_5 rfl (s_get X dX5_hasCells_6 (mcn (⟨_, _, _, _, rfl, inU_X5, by decide, uw_154, rfl⟩) (mnl)) (s_icmp_gt X dX5_hasCells_9 (by decide) (s_iconst X dX5_hasCells_30 rfl (s_zret X hr dX5_hasCells_31)) (s_iload_n X dX5_hasCells_12 rfl (s_if_lt X dX5_hasCells_13 (by decide) (s_iconst X dX5_hasCells_30 rfl (s_zret X hr dX5_hasCells_31)) (s_iload_n X dX5_hasCells_16 rfl (s_aload_n X dX5_hasCells_17 rfl (s_get X dX5_hasCells_18 (mcn (⟨_, _, _, _, rfl, inU_X5, by decide, uw_154, rfl⟩) (mnl)) (s_iload_n X dX5_hasCells_21 rfl (s_isub X dX5_hasCells_22 (s_icmp_gt X dX5_hasCells_23 (by decide) (s_iconst X dX5_hasCells_30 rfl (s_zret X hr dX5_hasCells_31)) (s_iconst X dX5_hasCells_26 rfl (s_goto X dX5_hasCells_27 (by decide) (s_zret X hr dX5_hasCells_31)))))))))))))))))
set_option maxRecDepth 100000 in
theorem vc_X5_hasCells {l : Launch} {g : Gm} {a0 : Nat} {a1 : Int32} {a2 : Int32} {h : Hp} {mc ms : Nat} {P : PT} (H : ∀ G : Nat → CT, (∀ (b : Nat) (h : Hp) (cb sb : Nat) (ls : LocS) (st : List Value), bk_X5_hasCells l g b G P h cb sb ls st → G b h cb sb ls st) → G 0 h mc ms [some (.ref a0), some (.int a1), some (.int a2)] []) : Run l g d_X5_hasCells [.ref a0, .int a1, .int a2] h mc ms P :=
  Run.of (d := d_X5_hasCells) (by decide) (mcn rfl (mcn rfl (mcn rfl (mnl)))) (Nat.le_of_ble_eq_true rfl) (fun p e s m args below meth c X hr hn => H (fun b => GX g p l e s m args below meth c d_X5_hasCells 3 mc ms h P (pc_X5_hasCells b)) (fun b h1 cb sb ls st hb => match b, hb with
    | 0, hb => sb_X5_hasCells_0 (p := p) (e := e) (below := below) X hr hn h1 cb sb ls st hb
    | _ + 1, hb => hb.elim))
theorem dX5_faultOfTaking_0 : decode cX5_faultOfTaking 0 = .ok (.aload_n 0, 1) := by decide +kernel
theorem dX5_faultOfTaking_1 : decode cX5_faultOfTaking 1 = .ok (.getfield 21, 3) := by decide +kernel
theorem dX5_faultOfTaking_4 : decode cX5_faultOfTaking 4 = .ok (.ifCond .ne 5, 3) := by decide +kernel
theorem dX5_faultOfTaking_7 : decode cX5_faultOfTaking 7 = .ok (.iconst 1, 1) := by decide +kernel
theorem dX5_faultOfTaking_8 : decode cX5_faultOfTaking 8 = .ok (.ireturn, 1) := by decide +kernel
theorem dX5_faultOfTaking_9 : decode cX5_faultOfTaking 9 = .ok (.aload_n 0, 1) := by decide +kernel
theorem dX5_faultOfTaking_10 : decode cX5_faultOfTaking 10 = .ok (.getfield 25, 3) := by decide +kernel
theorem dX5_faultOfTaking_13 : decode cX5_faultOfTaking 13 = .ok (.iload_n 1, 1) := by decide +kernel
theorem dX5_faultOfTaking_14 : decode cX5_faultOfTaking 14 = .ok (.if_icmp .eq 5, 3) := by decide +kernel
theorem dX5_faultOfTaking_17 : decode cX5_faultOfTaking 17 = .ok (.iconst 2, 1) := by decide +kernel
theorem dX5_faultOfTaking_18 : decode cX5_faultOfTaking 18 = .ok (.ireturn, 1) := by decide +kernel
theorem dX5_faultOfTaking_19 : decode cX5_faultOfTaking 19 = .ok (.iload_n 3, 1) := by decide +kernel
theorem dX5_faultOfTaking_20 : decode cX5_faultOfTaking 20 = .ok (.ifCond .ge 5, 3) := by decide +kernel
theorem dX5_faultOfTaking_23 : decode cX5_faultOfTaking 23 = .ok (.iconst 4, 1) := by decide +kernel
theorem dX5_faultOfTaking_24 : decode cX5_faultOfTaking 24 = .ok (.ireturn, 1) := by decide +kernel
theorem dX5_faultOfTaking_25 : decode cX5_faultOfTaking 25 = .ok (.aload_n 0, 1) := by decide +kernel
theorem dX5_faultOfTaking_26 : decode cX5_faultOfTaking 26 = .ok (.iload_n 2, 1) := by decide +kernel
theorem dX5_faultOfTaking_27 : decode cX5_faultOfTaking 27 = .ok (.iload_n 3, 1) := by decide +kernel
theorem dX5_faultOfTaking_28 : decode cX5_faultOfTaking 28 = .ok (.invokevirtual 32, 3) := by decide +kernel
theorem dX5_faultOfTaking_31 : decode cX5_faultOfTaking 31 = .ok (.ifCond .eq 7, 3) := by decide +kernel
theorem dX5_faultOfTaking_34 : decode cX5_faultOfTaking 34 = .ok (.iconst 0, 1) := by decide +kernel
theorem dX5_faultOfTaking_35 : decode cX5_faultOfTaking 35 = .ok (.goto 4, 3) := by decide +kernel
theorem dX5_faultOfTaking_38 : decode cX5_faultOfTaking 38 = .ok (.iconst 3, 1) := by decide +kernel
theorem dX5_faultOfTaking_39 : decode cX5_faultOfTaking 39 = .ok (.ireturn, 1) := by decide +kernel
def bk_X5_faultOfTaking_0 (l : Launch) (g : Gm) (G : Nat → CT) (P : PT) : CT := (oALd 0 (oGet [5] 1 (oIf (fun x => x = 0) (oPush (.int (1)) (oIRet P)) (oALd 0 (oGet [5] 2 (oILd 1 (oCmp (fun x y => x = y) (oILd 3 (oIf (fun x => 0 ≤ x) (oALd 0 (oILd 2 (oILd 3 (oCallV l g [(5, d_X5_hasCells)] 3 (oIf (fun x => x = 0) (oPush (.int (3)) (oIRet P)) (oPush (.int (0)) (oGo (oIRet P)))))))) (oPush (.int (4)) (oIRet P)))) (oPush (.int (2)) (oIRet P)))))))))
def bk_X5_faultOfTaking (l : Launch) (g : Gm) (b : Nat) (G : Nat → CT) (P : PT) : CT := match b with
  | 0 => bk_X5_faultOfTaking_0 l g G P
  | _ => fun _ _ _ _ _ => False
def pc_X5_faultOfTaking (b : Nat) : Nat := match b with
  | 0 => 0
  | _ => 0
set_option maxRecDepth 100000 in
theorem sb_X5_faultOfTaking_0 {p : Program} {l : Launch} {e : Env} {s : State} {m : MethodId} {args : Array Value} {below : List Frame} {meth : Method} {c : Code} {g : Gm} {h0 : Hp} {P : PT} {mc ms : Nat} (X : Cx g p s m args meth c (Adom h0 s.heap.size) cX5_faultOfTaking RX5 4) (hr : meth.sig.returnType = some .int) (hn : meth.name = "faultOfTaking") : SX g p l e s m args below meth c d_X5_faultOfTaking 4 mc ms h0 P (bk_X5_faultOfTaking_0 l g (fun b => GX g p l e s m args below meth c d_X5_faultOfTaking 4 mc ms h0 P (pc_X5_faultOfTaking b)) P) 0 := (s_aload_n X dX5_faultOfTaking_0 rfl (s_get X dX5_faultOfTaking_1 (mcn (⟨_, _, _, _, rfl, inU_X5, by decide, uw_150, rfl⟩) (mnl)) (s_if_ne X dX5_faultOfTaking_4 (by decide) (s_aload_n X dX5_faultOfTaking_9 rfl (s_get X dX5_faultOfTaking_10 (mcn (⟨_, _, _, _, rfl, inU_X5, by decide, uw_152, rfl⟩) (mnl)) (s_iload_n X dX5_faultOfTaking_13 rfl (s_icmp_eq X dX5_faultOfTaking_14 (by decide) (s_iload_n X dX5_faultOfTaking_19 rfl (s_if_ge X dX5_faultOfTaking_20 (by decide) (s_aload_n X dX5_faultOfTaking_25 rfl (s_iload_n X dX5_faultOfTaking_26 rfl (s_iload_n X dX5_faultOfTaking_27 rfl (s_callV X dX5_faultOfTaking_28 (mv (vok_V X rfl uw_212 uw_213 uw_214 uw_6 ci_X5_hasCells yok_X5_hasCells ⟨Nat.le_of_ble_eq_true rfl, Nat.le_of_ble_eq_true rfl⟩) mv0) (s_if_eq X dX5_faultOfTaking_31 (by decide) (s_iconst X dX5_faultOfTaking_38 rfl (s_iret X hr dX5_faultOfTaking_39)) (s_iconst X dX5_faultOfTaking_34 rfl (s_goto X dX5_faultOfTaking_35 (by decide) (s_iret X hr dX5_faultOfTaking_39)))))))) (s_iconst X dX5_faultOfTaking_23 rfl (s_iret X hr dX5_faultOfTaking_24)))) (s_iconst X dX5_faultOfTaking_17 rfl (s_iret X hr dX5_faultOfTaking_18)))))) (s_iconst X dX5_faultOfTaking_7 rfl (s_iret X hr dX5_faultOfTaking_8)))))
set_option maxRecDepth 100000 in
theorem vc_X5_faultOfTaking {l : Launch} {g : Gm} {a0 : Nat} {a1 : Int32} {a2 : Int32} {a3 : Int32} {h : Hp} {mc ms : Nat} {P : PT} (H : ∀ G : Nat → CT, (∀ (b : Nat) (h : Hp) (cb sb : Nat) (ls : LocS) (st : List Value), bk_X5_faultOfTaking l g b G P h cb sb ls st → G b h cb sb ls st) → G 0 h mc ms [some (.ref a0), some (.int a1), some (.int a2), some (.int a3)] []) : Run l g d_X5_faultOfTaking [.ref a0, .int a1, .int a2, .int a3] h mc ms P :=
  Run.of (d := d_X5_faultOfTaking) (by decide) (mcn rfl (mcn rfl (mcn rfl (mcn rfl (mnl))))) (Nat.le_of_ble_eq_true rfl) (fun p e s m args below meth c X hr hn => H (fun b => GX g p l e s m args below meth c d_X5_faultOfTaking 4 mc ms h P (pc_X5_faultOfTaking b)) (fun b h1 cb sb ls st hb => match b, hb with
    | 0, hb => sb_X5_faultOfTaking_0 (p := p) (e := e) (below := below) X hr hn h1 cb sb ls st hb
    | _ + 1, hb => hb.elim))
