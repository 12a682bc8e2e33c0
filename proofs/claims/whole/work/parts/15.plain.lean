theorem dX4_init_0 : decode cX4_init 0 = .ok (.aload_n 0, 1) := by decide +kernel
theorem dX4_init_1 : decode cX4_init 1 = .ok (.invokespecial 3, 3) := by decide +kernel
theorem dX4_init_4 : decode cX4_init 4 = .ok (.aload_n 0, 1) := by decide +kernel
theorem dX4_init_5 : decode cX4_init 5 = .ok (.iconst 5, 1) := by decide +kernel
theorem dX4_init_6 : decode cX4_init 6 = .ok (.newarray .int, 2) := by decide +kernel
theorem dX4_init_8 : decode cX4_init 8 = .ok (.putfield 9, 3) := by decide +kernel
theorem dX4_init_11 : decode cX4_init 11 = .ok (.aload_n 0, 1) := by decide +kernel
theorem dX4_init_12 : decode cX4_init 12 = .ok (.iconst 5, 1) := by decide +kernel
theorem dX4_init_13 : decode cX4_init 13 = .ok (.newarray .int, 2) := by decide +kernel
theorem dX4_init_15 : decode cX4_init 15 = .ok (.putfield 15, 3) := by decide +kernel
theorem dX4_init_18 : decode cX4_init 18 = .ok (.aload_n 0, 1) := by decide +kernel
theorem dX4_init_19 : decode cX4_init 19 = .ok (.iconst 5, 1) := by decide +kernel
theorem dX4_init_20 : decode cX4_init 20 = .ok (.iconst 4, 1) := by decide +kernel
theorem dX4_init_21 : decode cX4_init 21 = .ok (.multianewarray 18 2, 4) := by decide +kernel
theorem dX4_init_25 : decode cX4_init 25 = .ok (.putfield 20, 3) := by decide +kernel
theorem dX4_init_28 : decode cX4_init 28 = .ok (.aload_n 0, 1) := by decide +kernel
theorem dX4_init_29 : decode cX4_init 29 = .ok (.bipush 6, 2) := by decide +kernel
theorem dX4_init_31 : decode cX4_init 31 = .ok (.newarray .int, 2) := by decide +kernel
theorem dX4_init_33 : decode cX4_init 33 = .ok (.putfield 23, 3) := by decide +kernel
theorem dX4_init_36 : decode cX4_init 36 = .ok (.aload_n 0, 1) := by decide +kernel
theorem dX4_init_37 : decode cX4_init 37 = .ok (.iload_n 1, 1) := by decide +kernel
theorem dX4_init_38 : decode cX4_init 38 = .ok (.putfield 26, 3) := by decide +kernel
theorem dX4_init_41 : decode cX4_init 41 = .ok (.return_, 1) := by decide +kernel
def bk_X4_init_0 (l : Launch) (g : Gm) (G : Nat → CT) (P : PT) : CT := (oALd 0 (oObj1 (oALd 0 (oPush (.int (5)) (oNewI g (oPutR [4, 0, 1] 1 (oALd 0 (oPush (.int (5)) (oNewI g (oPutR [4, 0, 1] 2 (oALd 0 (oPush (.int (5)) (oPush (.int (4)) (oNewII g 5 4 (oPutR [4, 0, 1] 3 (oALd 0 (oPush (.int (6)) (oNewI g (oPutR [4, 0, 1] 4 (oALd 0 (oILd 1 (oPutI [4, 0, 1] 0 (oVRet P)))))))))))))))))))))))
def bk_X4_init (l : Launch) (g : Gm) (b : Nat) (G : Nat → CT) (P : PT) : CT := match b with
  | 0 => bk_X4_init_0 l g G P
  | _ => fun _ _ _ _ _ => False
def pc_X4_init (b : Nat) : Nat := match b with
  | 0 => 0
  | _ => 0
set_option maxRecDepth 100000 in
theorem sb_X4_init_0 {p : Program} {l : Launch} {e : Env} {s : State} {m : MethodId} {args : Array Value} {below : List Frame} {meth : Method} {c : Code} {g : Gm} {h0 : Hp} {P : PT} {mc ms : Nat} (X : Cx g p s m args meth c (Adom h0 s.heap.size) cX4_init RX4 2) (hr : meth.sig.returnType = none) (hn : meth.name = "<init>") : SX g p l e s m args below meth c d_X4_init 2 mc ms h0 P (bk_X4_init_0 l g (fun b => GX g p l e s m args below meth c d_X4_init 2 mc ms h0 P (pc_X4_init b)) P) 0 := (s_aload_n X dX4_init_0 rfl (s_obj1 X uw_270 uw_21 uw_22 (Nat.le_of_ble_eq_true rfl) (Nat.le_of_ble_eq_true rfl) dX4_init_1 (s_aload_n X dX4_init_4 rfl (s_iconst X dX4_init_5 rfl (s_newI X uw_78 dX4_init_6 (s_putRF X dX4_init_8 rt_arr (mcn (⟨_, _, _, _, tyX4, rfl, inU_X4, by decide, uw_274, rfl, tyX4_ok, nmX4, rfl, rfl⟩) (mcn (⟨_, _, _, _, tyX0, rfl, inU_X0, by decide, uw_274, rfl, tyX0_ok, nmX0, rfl, rfl⟩) (mcn (⟨_, _, _, _, tyX1, rfl, inU_X1, by decide, uw_274, rfl, tyX1_ok, nmX1, rfl, rfl⟩) (mnl)))) hn (mcn (fun C T1 N1 hq => by cases hq; rfl) (mcn (fun C T1 N1 hq => by cases hq; rfl) (mcn (fun C T1 N1 hq => by cases hq; rfl) (mnl)))) (s_aload_n X dX4_init_11 rfl (s_iconst X dX4_init_12 rfl (s_newI X uw_78 dX4_init_13 (s_putRF X dX4_init_15 rt_arr (mcn (⟨_, _, _, _, tyX4, rfl, inU_X4, by decide, uw_277, rfl, tyX4_ok, nmX4, rfl, rfl⟩) (mcn (⟨_, _, _, _, tyX0, rfl, inU_X0, by decide, uw_277, rfl, tyX0_ok, nmX0, rfl, rfl⟩) (mcn (⟨_, _, _, _, tyX1, rfl, inU_X1, by decide, uw_277, rfl, tyX1_ok, nmX1, rfl, rfl⟩) (mnl)))) hn (mcn (fun C T1 N1 hq => by cases hq; rfl) (mcn (fun C T1 N1 hq => by cases hq; rfl) (mcn (fun C T1 N1 hq => by cases hq; rfl) (mnl)))) (s_aload_n X dX4_init_18 rfl (s_iconst X dX4_init_19 rfl (s_iconst X dX4_init_20 rfl (s_mna X uw_271 uw_78 dX4_init_21 (s_putRF X dX4_init_25 rt_arr (mcn (⟨_, _, _, _, tyX4, rfl, inU_X4, by decide, uw_280, rfl, tyX4_ok, nmX4, rfl, rfl⟩) (mcn (⟨_, _, _, _, tyX0, rfl, inU_X0, by decide, uw_280, rfl, tyX0_ok, nmX0, rfl, rfl⟩) (mcn (⟨_, _, _, _, tyX1, rfl, inU_X1, by decide, uw_280, rfl, tyX1_ok, nmX1, rfl, rfl⟩) (mnl)))) hn (mcn (fun C T1 N1 hq => by cases hq; rfl) (mcn (fun C T1 N1 hq => by cases hq; rfl) (mcn (fun C T1 N1 hq => by cases hq; rfl) (mnl)))) (s_aload_n X dX4_init_28 rfl (s_bipush X dX4_init_29 rfl (s_newI X uw_78 dX4_init_31 (s_putRF X dX4_init_33 rt_arr (mcn (⟨_, _, _, _, tyX4, rfl, inU_X4, by decide, uw_283, rfl, tyX4_ok, nmX4, rfl, rfl⟩) (mcn (⟨_, _, _, _, tyX0, rfl, inU_X0, by decide, uw_283, rfl, tyX0_ok, nmX0, rfl, rfl⟩) (mcn (⟨_, _, _, _, tyX1, rfl, inU_X1, by decide, uw_283, rfl, tyX1_ok, nmX1, rfl, rfl⟩) (mnl)))) hn (mcn (fun C T1 N1 hq => by cases hq; rfl) (mcn (fun C T1 N1 hq => by cases hq; rfl) (mcn (fun C T1 N1 hq => by cases hq; rfl) (mnl)))) (s_aload_n X dX4_init_36 rfl (s_iload_n X dX4_init_37 rfl (s_putIF X dX4_init_38 (mcn (⟨_, _, _, _, tyX4, rfl, inU_X4, by decide, uw_272, rfl, tyX4_ok, nmX4, rfl, rfl⟩) (mcn (⟨_, _, _, _, tyX0, rfl, inU_X0, by decide, uw_272, rfl, tyX0_ok, nmX0, rfl, rfl⟩) (mcn (⟨_, _, _, _, tyX1, rfl, inU_X1, by decide, uw_272, rfl, tyX1_ok, nmX1, rfl, rfl⟩) (mnl)))) hn (mcn (fun C T1 N1 hq => by cases hq; rfl) (mcn (fun C T1 N1 hq => by cases hq; rfl) (mcn (fun C T1 N1 hq => by cases hq; rfl) (mnl)))) (s_vret X hr dX4_init_41)))))))))))))))))))))))
set_option maxRecDepth 100000 in
theorem vc_X4_init {l : Launch} {g : Gm} {a0 : Nat} {a1 : Int32} {h : Hp} {mc ms : Nat} {P : PT} (H : ∀ G : Nat → CT, (∀ (b : Nat) (h : Hp) (cb sb : Nat) (ls : LocS) (st : List Value), bk_X4_init l g b G P h cb sb ls st → G b h cb sb ls st) → G 0 h mc ms [some (.ref a0), some (.int a1)] []) : Run l g d_X4_init [.ref a0, .int a1] h mc ms P :=
  Run.of (d := d_X4_init) (by decide) (mcn rfl (mcn rfl (mnl))) (Nat.le_of_ble_eq_true rfl) (fun p e s m args below meth c X hr hn => H (fun b => GX g p l e s m args below meth c d_X4_init 2 mc ms h P (pc_X4_init b)) (fun b h1 cb sb ls st hb => match b, hb with
    | 0, hb => sb_X4_init_0 (p := p) (e := e) (below := below) X hr hn h1 cb sb ls st hb
    | _ + 1, hb => hb.elim))
theorem dX4_add_0 : decode cX4_add 0 = .ok (.aload_n 0, 1) := by decide +kernel
theorem dX4_add_1 : decode cX4_add 1 = .ok (.getfield 30, 3) := by decide +kernel
theorem dX4_add_4 : decode cX4_add 4 = .ok (.iconst 5, 1) := by decide +kernel
theorem dX4_add_5 : decode cX4_add 5 = .ok (.if_icmp .lt 4, 3) := by decide +kernel
theorem dX4_add_8 : decode cX4_add 8 = .ok (.return_, 1) := by decide +kernel
theorem dX4_add_9 : decode cX4_add 9 = .ok (.aload_n 0, 1) := by decide +kernel
theorem dX4_add_10 : decode cX4_add 10 = .ok (.getfield 9, 3) := by decide +kernel
theorem dX4_add_13 : decode cX4_add 13 = .ok (.aload_n 0, 1) := by decide +kernel
theorem dX4_add_14 : decode cX4_add 14 = .ok (.getfield 30, 3) := by decide +kernel
theorem dX4_add_17 : decode cX4_add 17 = .ok (.iload_n 1, 1) := by decide +kernel
theorem dX4_add_18 : decode cX4_add 18 = .ok (.iastore, 1) := by decide +kernel
theorem dX4_add_19 : decode cX4_add 19 = .ok (.aload_n 0, 1) := by decide +kernel
theorem dX4_add_20 : decode cX4_add 20 = .ok (.getfield 15, 3) := by decide +kernel
theorem dX4_add_23 : decode cX4_add 23 = .ok (.aload_n 0, 1) := by decide +kernel
theorem dX4_add_24 : decode cX4_add 24 = .ok (.getfield 30, 3) := by decide +kernel
theorem dX4_add_27 : decode cX4_add 27 = .ok (.iload_n 2, 1) := by decide +kernel
theorem dX4_add_28 : decode cX4_add 28 = .ok (.iastore, 1) := by decide +kernel
theorem dX4_add_29 : decode cX4_add 29 = .ok (.aload_n 0, 1) := by decide +kernel
theorem dX4_add_30 : decode cX4_add 30 = .ok (.getfield 23, 3) := by decide +kernel
theorem dX4_add_33 : decode cX4_add 33 = .ok (.aload_n 0, 1) := by decide +kernel
theorem dX4_add_34 : decode cX4_add 34 = .ok (.getfield 30, 3) := by decide +kernel
theorem dX4_add_37 : decode cX4_add 37 = .ok (.iconst 1, 1) := by decide +kernel
theorem dX4_add_38 : decode cX4_add 38 = .ok (.iadd, 1) := by decide +kernel
theorem dX4_add_39 : decode cX4_add 39 = .ok (.iload_n 1, 1) := by decide +kernel
theorem dX4_add_40 : decode cX4_add 40 = .ok (.ifCond .ne 7, 3) := by decide +kernel
theorem dX4_add_43 : decode cX4_add 43 = .ok (.iload_n 2, 1) := by decide +kernel
theorem dX4_add_44 : decode cX4_add 44 = .ok (.goto 12, 3) := by decide +kernel
theorem dX4_add_47 : decode cX4_add 47 = .ok (.aload_n 0, 1) := by decide +kernel
theorem dX4_add_48 : decode cX4_add 48 = .ok (.getfield 23, 3) := by decide +kernel
theorem dX4_add_51 : decode cX4_add 51 = .ok (.aload_n 0, 1) := by decide +kernel
theorem dX4_add_52 : decode cX4_add 52 = .ok (.getfield 30, 3) := by decide +kernel
theorem dX4_add_55 : decode cX4_add 55 = .ok (.iaload, 1) := by decide +kernel
theorem dX4_add_56 : decode cX4_add 56 = .ok (.iastore, 1) := by decide +kernel
theorem dX4_add_57 : decode cX4_add 57 = .ok (.aload_n 0, 1) := by decide +kernel
theorem dX4_add_58 : decode cX4_add 58 = .ok (.dup, 1) := by decide +kernel
theorem dX4_add_59 : decode cX4_add 59 = .ok (.getfield 30, 3) := by decide +kernel
theorem dX4_add_62 : decode cX4_add 62 = .ok (.iconst 1, 1) := by decide +kernel
theorem dX4_add_63 : decode cX4_add 63 = .ok (.iadd, 1) := by decide +kernel
theorem dX4_add_64 : decode cX4_add 64 = .ok (.putfield 30, 3) := by decide +kernel
theorem dX4_add_67 : decode cX4_add 67 = .ok (.return_, 1) := by decide +kernel
def bk_X4_add_0 (l : Launch) (g : Gm) (G : Nat → CT) (P : PT) : CT := (oALd 0 (oGet [4, 0, 1] 5 (oPush (.int (5)) (oCmp (fun x y => x < y) (oALd 0 (oGet [4, 0, 1] 1 (oALd 0 (oGet [4, 0, 1] 5 (oILd 1 (oIAS g (oALd 0 (oGet [4, 0, 1] 2 (oALd 0 (oGet [4, 0, 1] 5 (oILd 2 (oIAS g (oALd 0 (oGet [4, 0, 1] 4 (oALd 0 (oGet [4, 0, 1] 5 (oPush (.int (1)) (oBin (fun x y => x + y) (oILd 1 (oIf (fun x => x = 0) (oILd 2 (oGo (G 1))) (oALd 0 (oGet [4, 0, 1] 4 (oALd 0 (oGet [4, 0, 1] 5 (oIAL g (G 1)))))))))))))))))))))))))) (oVRet P)))))
def bk_X4_add_1 (l : Launch) (g : Gm) (G : Nat → CT) (P : PT) : CT := (oIAS g (oALd 0 (oDup (oGet [4, 0, 1] 5 (oPush (.int (1)) (oBin (fun x y => x + y) (oPutI [4, 0, 1] 5 (oVRet P))))))))
def bk_X4_add (l : Launch) (g : Gm) (b : Nat) (G : Nat → CT) (P : PT) : CT := match b with
  | 0 => bk_X4_add_0 l g G P
  | 1 => bk_X4_add_1 l g G P
  | _ => fun _ _ _ _ _ => False
def pc_X4_add (b : Nat) : Nat := match b with
  | 0 => 0
  | 1 => 56
  | _ => 0
set_option maxRecDepth 100000 in
theorem sb_X4_add_0 {p : Program} {l : Launch} {e : Env} {s : State} {m : MethodId} {args : Array Value} {below : List Frame} {meth : Method} {c : Code} {g : Gm} {h0 : Hp} {P : PT} {mc ms : Nat} (X : Cx g p s m args meth c (Adom h0 s.heap.size) cX4_add RX4 3) (hr : meth.sig.returnType = none) (hn : meth.name = "add") : SX g p l e s m args below meth c d_X4_add 3 mc ms h0 P (bk_X4_add_0 l g (fun b => GX g p l e s m args below meth c d_X4_add 3 mc ms h0 P (pc_X4_add b)) P) 0 := (s_aload_n X dX4_add_0 rfl (s_get X dX4_add_1 (mcn (⟨_, _, _, _, rfl, inU_X4, by decide, uw_284, rfl⟩) (mcn (⟨_, _, _, _, rfl, inU_X0, by decide, uw_284, rfl⟩) (mcn (⟨_, _, _, _, rfl, inU_X1, by decide, uw_284, rfl⟩) (mnl)))) (s_iconst X dX4_add_4 rfl (s_icmp_lt X dX4_add_5 (by decide) (s_aload_n X dX4_add_9 rfl (s_get X dX4_add_10 (mcn (⟨_, _, _, _, rfl, inU_X4, by decide, uw_274, rfl⟩) (mcn (⟨_, _, _, _, rfl, inU_X0, by decide, uw_274, rfl⟩) (mcn (⟨_, _, _, _, rfl, inU_X1, by decide, uw_274, rfl⟩) (mnl)))) (s_aload_n X dX4_add_13 rfl (s_get X dX4_add_14 (mcn (⟨_, _, _, _, rfl, inU_X4, by decide, uw_284, rfl⟩) (mcn (⟨_, _, _, _, rfl, inU_X0, by decide, uw_284, rfl⟩) (mcn (⟨_, _, _, _, rfl, inU_X1, by decide, uw_284, rfl⟩) (mnl)))) (s_iload_n X dX4_add_17 rfl (s_iastore X dX4_add_18 (s_aload_n X dX4_add_19 rfl (s_get X dX4_add_20 (mcn (⟨_, _, _, _, rfl, inU_X4, by decide, uw_277, rfl⟩) (mcn (⟨_, _, _, _, rfl, inU_X0, by decide, uw_277, rfl⟩) (mcn (⟨_, _, _, _, rfl, inU_X1, by decide, uw_277, rfl⟩) (mnl)))) (s_aload_n X dX4_add_23 rfl (s_get X dX4_add_24 (mcn (⟨_, _, _, _, rfl, inU_X4, by decide, uw_284, rfl⟩) (mcn (⟨_, _, _, _, rfl, inU_X0, by decide, uw_284, rfl⟩) (mcn (⟨_, _, _, _, rfl, inU_X1, by decide, uw_284, rfl⟩) (mnl)))) (s_iload_n X dX4_add_27 rfl (s_iastore X dX4_add_28 (s_aload_n X dX4_add_29 rfl (s_get X dX4_add_30 (mcn (⟨_, _, _, _, rfl, inU_X4, by decide, uw_283, rfl⟩) (mcn (⟨_, _, _, _, rfl, inU_X0, by decide, uw_283, rfl⟩) (mcn (⟨_, _, _, _, rfl, inU_X1, by decide, uw_283, rfl⟩) (mnl)))) (s_aload_n X dX4_add_33 rfl (s_get X dX4_add_34 (mcn (⟨_, _, _, _, rfl, inU_X4, by decide, uw_284, rfl⟩) (mcn (⟨_, _, _, _, rfl, inU_X0, by decide, uw_284, rfl⟩) (mcn (⟨_, _, _, _, rfl, inU_X1, by decide, uw_284, rfl⟩) (mnl)))) (s_iconst X dX4_add_37 rfl (s_iadd X dX4_add_38 (s_iload_n X dX4_add_39 rfl (s_if_ne X dX4_add_40 (by decide) (s_aload_n X dX4_add_47 rfl (s_get X dX4_add_48 (mcn (⟨_, _, _, _, rfl, inU_X4, by decide, uw_283, rfl⟩) (mcn (⟨_, _, _, _, rfl, inU_X0, by decide, uw_283, rfl⟩) (mcn (⟨_, _, _, _, rfl, inU_X1, by decide, uw_283, rfl⟩) (mnl)))) (s_aload_n X dX4_add_51 rfl (s_get X dX4_add_52 (mcn (⟨_, _, _, _, rfl, inU_X4, by decide, uw_284, rfl⟩) (mcn (⟨_, _, _, _, rfl, inU_X0, by decide, uw_284, rfl⟩) (mcn (⟨_, _, _, _, rfl, inU_X1, by decide, uw_284, rfl⟩) (mnl)))) (s_iaload X dX4_add_55 Sd.rf))))) (s_iload_n X dX4_add_43 rfl (s_goto X dX4_add_44 (by decide) Sd.rf)))))))))))))))))))))) (s_vret X hr dX4_add_8)))))
set_option maxRecDepth 100000 in
theorem sb_X4_add_1 {p : Program} {l : Launch} {e : Env} {s : State} {m : MethodId} {args : Array Value} {below : List Frame} {meth : Method} {c : Code} {g : Gm} {h0 : Hp} {P : PT} {mc ms : Nat} (X : Cx g p s m args meth c (Adom h0 s.heap.size) cX4_add RX4 3) (hr : meth.sig.returnType = none) (hn : meth.name = "add") : SX g p l e s m args below meth c d_X4_add 3 mc ms h0 P (bk_X4_add_1 l g (fun b => GX g p l e s m args below meth c d_X4_add 3 mc ms h0 P (pc_X4_add b)) P) 56 := (s_iastore X dX4_add_56 (s_aload_n X dX4_add_57 rfl (s_dup X dX4_add_58 (s_get X dX4_add_59 (mcn (⟨_, _, _, _, rfl, inU_X4, by decide, uw_284, rfl⟩) (mcn (⟨_, _, _, _, rfl, inU_X0, by decide, uw_284, rfl⟩) (mcn (⟨_, _, _, _, rfl, inU_X1, by decide, uw_284, rfl⟩) (mnl)))) (s_iconst X dX4_add_62 rfl (s_iadd X dX4_add_63 (s_putI X dX4_add_64 (mcn (⟨_, _, _, _, tyX4, rfl, inU_X4, by decide, uw_284, rfl, tyX4_ok, nmX4, rfl, rfl⟩) (mcn (⟨_, _, _, _, tyX0, rfl, inU_X0, by decide, uw_284, rfl, tyX0_ok, nmX0, rfl, rfl⟩) (mcn (⟨_, _, _, _, tyX1, rfl, inU_X1, by decide, uw_284, rfl, tyX1_ok, nmX1, rfl, rfl⟩) (mnl)))) (s_vret X hr dX4_add_67))))))))
set_option maxRecDepth 100000 in
theorem vc_X4_add {l : Launch} {g : Gm} {a0 : Nat} {a1 : Int32} {a2 : Int32} {h : Hp} {mc ms : Nat} {P : PT} (H : ∀ G : Nat → CT, (∀ (b : Nat) (h : Hp) (cb sb : Nat) (ls : LocS) (st : List Value), bk_X4_add l g b G P h cb sb ls st → G b h cb sb ls st) → G 0 h mc ms [some (.ref a0), some (.int a1), some (.int a2)] []) : Run l g d_X4_add [.ref a0, .int a1, .int a2] h mc ms P :=
  Run.of (d := d_X4_add) (by decide) (mcn rfl (mcn rfl (mcn rfl (mnl)))) (Nat.le_of_ble_eq_true rfl) (fun p e s m args below meth c X hr hn => H (fun b => GX g p l e s m args below meth c d_X4_add 3 mc ms h P (pc_X4_add b)) (fun b h1 cb sb ls st hb => match b, hb with
    | 0, hb => sb_X4_add_0 (p := p) (e := e) (below := below) X hr hn h1 cb sb ls st hb
    | 1, hb => sb_X4_add_1 (p := p) (e := e) (below := below) X hr hn h1 cb sb ls st hb
    | _ + 2, hb => hb.elim))
theorem dX4_valueAt_0 : decode cX4_valueAt 0 = .ok (.aload_n 0, 1) := by decide +kernel
theorem dX4_valueAt_1 : decode cX4_valueAt 1 = .ok (.getfield 23, 3) := by decide +kernel
theorem dX4_valueAt_4 : decode cX4_valueAt 4 = .ok (.iconst 0, 1) := by decide +kernel
theorem dX4_valueAt_5 : decode cX4_valueAt 5 = .ok (.iload_n 1, 1) := by decide +kernel
theorem dX4_valueAt_6 : decode cX4_valueAt 6 = .ok (.aload_n 0, 1) := by decide +kernel
theorem dX4_valueAt_7 : decode cX4_valueAt 7 = .ok (.getfield 30, 3) := by decide +kernel
theorem dX4_valueAt_10 : decode cX4_valueAt 10 = .ok (.invokestatic 33, 3) := by decide +kernel
theorem dX4_valueAt_13 : decode cX4_valueAt 13 = .ok (.invokestatic 39, 3) := by decide +kernel
theorem dX4_valueAt_16 : decode cX4_valueAt 16 = .ok (.iaload, 1) := by decide +kernel
theorem dX4_valueAt_17 : decode cX4_valueAt 17 = .ok (.ireturn, 1) := by decide +kernel
def bk_X4_valueAt_0 (l : Launch) (g : Gm) (G : Nat → CT) (P : PT) : CT := (oALd 0 (oGet [4, 0, 1] 4 (oPush (.int (0)) (oILd 1 (oALd 0 (oGet [4, 0, 1] 5 (oMin (oMax (oIAL g (oIRet P))))))))))
def bk_X4_valueAt (l : Launch) (g : Gm) (b : Nat) (G : Nat → CT) (P : PT) : CT := match b with
  | 0 => bk_X4_valueAt_0 l g G P
  | _ => fun _ _ _ _ _ => False
def pc_X4_valueAt (b : Nat) : Nat := match b with
  | 0 => 0
  | _ => 0
set_option maxRecDepth 100000 in
theorem sb_X4_valueAt_0 {p : Program} {l : Launch} {e : Env} {s : State} {m : MethodId} {args : Array Value} {below : List Frame} {meth : Method} {c : Code} {g : Gm} {h0 : Hp} {P : PT} {mc ms : Nat} (X : Cx g p s m args meth c (Adom h0 s.heap.size) cX4_valueAt RX4 2) (hr : meth.sig.returnType = some .int) (hn : meth.name = "valueAt") : SX g p l e s m args below meth c d_X4_valueAt 2 mc ms h0 P (bk_X4_valueAt_0 l g (fun b => GX g p l e s m args below meth c d_X4_valueAt 2 mc ms h0 P (pc_X4_valueAt b)) P) 0 := (s_aload_n X dX4_valueAt_0 rfl (s_get X dX4_valueAt_1 (mcn (⟨_, _, _, _, rfl, inU_X4, by decide, uw_283, rfl⟩) (mcn (⟨_, _, _, _, rfl, inU_X0, by decide, uw_283, rfl⟩) (mcn (⟨_, _, _, _, rfl, inU_X1, by decide, uw_283, rfl⟩) (mnl)))) (s_iconst X dX4_valueAt_4 rfl (s_iload_n X dX4_valueAt_5 rfl (s_aload_n X dX4_valueAt_6 rfl (s_get X dX4_valueAt_7 (mcn (⟨_, _, _, _, rfl, inU_X4, by decide, uw_284, rfl⟩) (mcn (⟨_, _, _, _, rfl, inU_X0, by decide, uw_284, rfl⟩) (mcn (⟨_, _, _, _, rfl, inU_X1, by decide, uw_284, rfl⟩) (mnl)))) (s_min X uw_393 uw_394 uw_13 uw_395 (Nat.le_of_ble_eq_true rfl) (Nat.le_of_ble_eq_true rfl) dX4_valueAt_10 (s_max X uw_396 uw_376 uw_13 uw_377 (Nat.le_of_ble_eq_true rfl) (Nat.le_of_ble_eq_true rfl) dX4_valueAt_13 (s_iaload X dX4_valueAt_16 (s_iret X hr dX4_valueAt_17))))))))))
set_option maxRecDepth 100000 in
theorem vc_X4_valueAt {l : Launch} {g : Gm} {a0 : Nat} {a1 : Int32} {h : Hp} {mc ms : Nat} {P : PT} (H : ∀ G : Nat → CT, (∀ (b : Nat) (h : Hp) (cb sb : Nat) (ls : LocS) (st : List Value), bk_X4_valueAt l g b G P h cb sb ls st → G b h cb sb ls st) → G 0 h mc ms [some (.ref a0), some (.int a1)] []) : Run l g d_X4_valueAt [.ref a0, .int a1] h mc ms P :=
  Run.of (d := d_X4_valueAt) (by decide) (mcn rfl (mcn rfl (mnl))) (Nat.le_of_ble_eq_true rfl) (fun p e s m args below meth c X hr hn => H (fun b => GX g p l e s m args below meth c d_X4_valueAt 2 mc ms h P (pc_X4_valueAt b)) (fun b h1 cb sb ls st hb => match b, hb with
    | 0, hb => sb_X4_valueAt_0 (p := p) (e := e) (below := below) X hr hn h1 cb sb ls st hb
    | _ + 1, hb => hb.elim))
theorem dX4_worthAs_0 : decode cX4_worthAs 0 = .ok (.iload_n 0, 1) := by decide +kernel
theorem dX4_worthAs_1 : decode cX4_worthAs 1 = .ok (.iconst 2, 1) := by decide +kernel
theorem dX4_worthAs_2 : decode cX4_worthAs 2 = .ok (.if_icmp .ne 7, 3) := by decide +kernel
theorem dX4_worthAs_5 : decode cX4_worthAs 5 = .ok (.iconst 2, 1) := by decide +kernel
theorem dX4_worthAs_6 : decode cX4_worthAs 6 = .ok (.iload_n 1, 1) := by decide +kernel
theorem dX4_worthAs_7 : decode cX4_worthAs 7 = .ok (.imul, 1) := by decide +kernel
theorem dX4_worthAs_8 : decode cX4_worthAs 8 = .ok (.ireturn, 1) := by decide +kernel
theorem dX4_worthAs_9 : decode cX4_worthAs 9 = .ok (.iload_n 0, 1) := by decide +kernel
theorem dX4_worthAs_10 : decode cX4_worthAs 10 = .ok (.iconst 1, 1) := by decide +kernel
theorem dX4_worthAs_11 : decode cX4_worthAs 11 = .ok (.if_icmp .ne 9, 3) := by decide +kernel
theorem dX4_worthAs_14 : decode cX4_worthAs 14 = .ok (.iload_n 1, 1) := by decide +kernel
theorem dX4_worthAs_15 : decode cX4_worthAs 15 = .ok (.iconst 1, 1) := by decide +kernel
theorem dX4_worthAs_16 : decode cX4_worthAs 16 = .ok (.iadd, 1) := by decide +kernel
theorem dX4_worthAs_17 : decode cX4_worthAs 17 = .ok (.goto 4, 3) := by decide +kernel
theorem dX4_worthAs_20 : decode cX4_worthAs 20 = .ok (.iload_n 1, 1) := by decide +kernel
theorem dX4_worthAs_21 : decode cX4_worthAs 21 = .ok (.ireturn, 1) := by decide +kernel
def bk_X4_worthAs_0 (l : Launch) (g : Gm) (G : Nat → CT) (P : PT) : CT := (oILd 0 (oPush (.int (2)) (oCmp (fun x y => x = y) (oPush (.int (2)) (oILd 1 (oBin (fun x y => x * y) (oIRet P)))) (oILd 0 (oPush (.int (1)) (oCmp (fun x y => x = y) (oILd 1 (oPush (.int (1)) (oBin (fun x y => x + y) (oGo (oIRet P))))) (oILd 1 (oIRet P))))))))
def bk_X4_worthAs (l : Launch) (g : Gm) (b : Nat) (G : Nat → CT) (P : PT) : CT := match b with
  | 0 => bk_X4_worthAs_0 l g G P
  | _ => fun _ _ _ _ _ => False
def pc_X4_worthAs (b : Nat) : Nat := match b with
  | 0 => 0
  | _ => 0
set_option maxRecDepth 100000 in
theorem sb_X4_worthAs_0 {p : Program} {l : Launch} {e : Env} {s : State} {m : MethodId} {args : Array Value} {below : List Frame} {meth : Method} {c : Code} {g : Gm} {h0 : Hp} {P : PT} {mc ms : Nat} (X : Cx g p s m args meth c (Adom h0 s.heap.size) cX4_worthAs RX4 2) (hr : meth.sig.returnType = some .int) (hn : meth.name = "worthAs") : SX g p l e s m args below meth c d_X4_worthAs 2 mc ms h0 P (bk_X4_worthAs_0 l g (fun b => GX g p l e s m args below meth c d_X4_worthAs 2 mc ms h0 P (pc_X4_worthAs b)) P) 0 := (s_iload_n X dX4_worthAs_0 rfl (s_iconst X dX4_worthAs_1 rfl (s_icmp_ne X dX4_worthAs_2 (by decide) (s_iload_n X dX4_worthAs_9 rfl (s_iconst X dX4_worthAs_10 rfl (s_icmp_ne X dX4_worthAs_11 (by decide) (s_iload_n X dX4_worthAs_20 rfl (s_iret X hr dX4_worthAs_21)) (s_iload_n X dX4_worthAs_14 rfl (s_iconst X dX4_worthAs_15 rfl (s_iadd X dX4_worthAs_16 (s_goto X dX4_worthAs_17 (by decide) (s_iret X hr dX4_worthAs_21)))))))) (s_iconst X dX4_worthAs_5 rfl (s_iload_n X dX4_worthAs_6 rfl (s_imul X dX4_worthAs_7 (s_iret X hr dX4_worthAs_8)))))))
set_option maxRecDepth 100000 in
theorem vc_X4_worthAs {l : Launch} {g : Gm} {a0 : Int32} {a1 : Int32} {h : Hp} {mc ms : Nat} {P : PT} (H : ∀ G : Nat → CT, (∀ (b : Nat) (h : Hp) (cb sb : Nat) (ls : LocS) (st : List Value), bk_X4_worthAs l g b G P h cb sb ls st → G b h cb sb ls st) → G 0 h mc ms [some (.int a0), some (.int a1)] []) : Run l g d_X4_worthAs [.int a0, .int a1] h mc ms P :=
  Run.of (d := d_X4_worthAs) (by decide) (mcn rfl (mcn rfl (mnl))) (Nat.le_of_ble_eq_true rfl) (fun p e s m args below meth c X hr hn => H (fun b => GX g p l e s m args below meth c d_X4_worthAs 2 mc ms h P (pc_X4_worthAs b)) (fun b h1 cb sb ls st hb => match b, hb with
    | 0, hb => sb_X4_worthAs_0 (p := p) (e := e) (below := below) X hr hn h1 cb sb ls st hb
    | _ + 1, hb => hb.elim))
theorem dX4_worthAt_0 : decode cX4_worthAt 0 = .ok (.aload_n 0, 1) := by decide +kernel
theorem dX4_worthAt_1 : decode cX4_worthAt 1 = .ok (.getfield 26, 3) := by decide +kernel
theorem dX4_worthAt_4 : decode cX4_worthAt 4 = .ok (.aload_n 0, 1) := by decide +kernel
theorem dX4_worthAt_5 : decode cX4_worthAt 5 = .ok (.iload_n 1, 1) := by decide +kernel
theorem dX4_worthAt_6 : decode cX4_worthAt 6 = .ok (.invokevirtual 42, 3) := by decide +kernel
theorem dX4_worthAt_9 : decode cX4_worthAt 9 = .ok (.invokestatic 46, 3) := by decide +kernel
theorem dX4_worthAt_12 : decode cX4_worthAt 12 = .ok (.ireturn, 1) := by decide +kernel
def bk_X4_worthAt_0 (l : Launch) (g : Gm) (G : Nat → CT) (P : PT) : CT := (oALd 0 (oGet [4, 0, 1] 0 (oALd 0 (oILd 1 (oCallV l g [(4, d_X4_valueAt), (0, d_X4_valueAt), (1, d_X4_valueAt)] 2 (oCall l g d_X4_worthAs 2 (oIRet P)))))))
def bk_X4_worthAt (l : Launch) (g : Gm) (b : Nat) (G : Nat → CT) (P : PT) : CT := match b with
  | 0 => bk_X4_worthAt_0 l g G P
  | _ => fun _ _ _ _ _ => False
def pc_X4_worthAt (b : Nat) : Nat := match b with
  | 0 => 0
  | _ => 0
set_option maxRecDepth 100000 in
theorem sb_X4_worthAt_0 {p : Program} {l : Launch} {e : Env} {s : State} {m : MethodId} {args : Array Value} {below : List Frame} {meth : Method} {c : Code} {g : Gm} {h0 : Hp} {P : PT} {mc ms : Nat} (X : Cx g p s m args meth c (Adom h0 s.heap.size) cX4_worthAt RX4 2) (hr : meth.sig.returnType = some .int) (hn : meth.name = "worthAt") : SX g p l e s m args below meth c d_X4_worthAt 2 mc ms h0 P (bk_X4_worthAt_0 l g (fun b => GX g p l e s m args below meth c d_X4_worthAt 2 mc ms h0 P (pc_X4_worthAt b)) P) 0 := (s_aload_n X dX4_worthAt_0 rfl (s_get X dX4_worthAt_1 (mcn (⟨_, _, _, _, rfl, inU_X4, by decide, uw_272, rfl⟩) (mcn (⟨_, _, _, _, rfl, inU_X0, by decide, uw_272, rfl⟩) (mcn (⟨_, _, _, _, rfl, inU_X1, by decide, uw_272, rfl⟩) (mnl)))) (s_aload_n X dX4_worthAt_4 rfl (s_iload_n X dX4_worthAt_5 rfl (s_callV X dX4_worthAt_6 (mv (vok_U X (owner := RX4) (x := ⟨"VillageCuts$Plain", "valueAt", "(I)I"⟩) rfl rfl uw_404 uw_389 uw_388 uw_387 uw_9 ci_X4_valueAt (by decide +kernel) ⟨Nat.le_of_ble_eq_true rfl, Nat.le_of_ble_eq_true rfl⟩) (mv (vok_U X (owner := RX4) (x := ⟨"VillageCuts$Plain", "valueAt", "(I)I"⟩) rfl rfl uw_404 uw_389 uw_390 uw_387 uw_9 ci_X4_valueAt (by decide +kernel) ⟨Nat.le_of_ble_eq_true rfl, Nat.le_of_ble_eq_true rfl⟩) (mv (vok_U X (owner := RX4) (x := ⟨"VillageCuts$Plain", "valueAt", "(I)I"⟩) rfl rfl uw_404 uw_389 uw_391 uw_387 uw_9 ci_X4_valueAt (by decide +kernel) ⟨Nat.le_of_ble_eq_true rfl, Nat.le_of_ble_eq_true rfl⟩) (mv0)))) (s_callS X dX4_worthAt_9 uw_405 uw_406 uw_9 ci_X4_worthAs yok_X4_worthAs ⟨Nat.le_of_ble_eq_true rfl, Nat.le_of_ble_eq_true rfl⟩ (s_iret X hr dX4_worthAt_12)))))))
set_option maxRecDepth 100000 in
theorem vc_X4_worthAt {l : Launch} {g : Gm} {a0 : Nat} {a1 : Int32} {h : Hp} {mc ms : Nat} {P : PT} (H : ∀ G : Nat → CT, (∀ (b : Nat) (h : Hp) (cb sb : Nat) (ls : LocS) (st : List Value), bk_X4_worthAt l g b G P h cb sb ls st → G b h cb sb ls st) → G 0 h mc ms [some (.ref a0), some (.int a1)] []) : Run l g d_X4_worthAt [.ref a0, .int a1] h mc ms P :=
  Run.of (d := d_X4_worthAt) (by decide) (mcn rfl (mcn rfl (mnl))) (Nat.le_of_ble_eq_true rfl) (fun p e s m args below meth c X hr hn => H (fun b => GX g p l e s m args below meth c d_X4_worthAt 2 mc ms h P (pc_X4_worthAt b)) (fun b h1 cb sb ls st hb => match b, hb with
    | 0, hb => sb_X4_worthAt_0 (p := p) (e := e) (below := below) X hr hn h1 cb sb ls st hb
    | _ + 1, hb => hb.elim))
theorem dX4_needInAll_0 : decode cX4_needInAll 0 = .ok (.iconst 0, 1) := by decide +kernel
theorem dX4_needInAll_1 : decode cX4_needInAll 1 = .ok (.istore_n 2, 1) := by decide +kernel
theorem dX4_needInAll_2 : decode cX4_needInAll 2 = .ok (.iconst 0, 1) := by decide +kernel
theorem dX4_needInAll_3 : decode cX4_needInAll 3 = .ok (.istore_n 3, 1) := by decide +kernel
theorem dX4_needInAll_4 : decode cX4_needInAll 4 = .ok (.iload_n 3, 1) := by decide +kernel
theorem dX4_needInAll_5 : decode cX4_needInAll 5 = .ok (.iconst 4, 1) := by decide +kernel
theorem dX4_needInAll_6 : decode cX4_needInAll 6 = .ok (.if_icmp .ge 20, 3) := by decide +kernel
theorem dX4_needInAll_9 : decode cX4_needInAll 9 = .ok (.iload_n 2, 1) := by decide +kernel
theorem dX4_needInAll_10 : decode cX4_needInAll 10 = .ok (.aload_n 0, 1) := by decide +kernel
theorem dX4_needInAll_11 : decode cX4_needInAll 11 = .ok (.getfield 20, 3) := by decide +kernel
theorem dX4_needInAll_14 : decode cX4_needInAll 14 = .ok (.iload_n 1, 1) := by decide +kernel
theorem dX4_needInAll_15 : decode cX4_needInAll 15 = .ok (.aaload, 1) := by decide +kernel
theorem dX4_needInAll_16 : decode cX4_needInAll 16 = .ok (.iload_n 3, 1) := by decide +kernel
theorem dX4_needInAll_17 : decode cX4_needInAll 17 = .ok (.iaload, 1) := by decide +kernel
theorem dX4_needInAll_18 : decode cX4_needInAll 18 = .ok (.iadd, 1) := by decide +kernel
theorem dX4_needInAll_19 : decode cX4_needInAll 19 = .ok (.istore_n 2, 1) := by decide +kernel
theorem dX4_needInAll_20 : decode cX4_needInAll 20 = .ok (.iinc 3 1, 3) := by decide +kernel
theorem dX4_needInAll_23 : decode cX4_needInAll 23 = .ok (.goto (-19), 3) := by decide +kernel
theorem dX4_needInAll_26 : decode cX4_needInAll 26 = .ok (.iload_n 2, 1) := by decide +kernel
theorem dX4_needInAll_27 : decode cX4_needInAll 27 = .ok (.ireturn, 1) := by decide +kernel
def bk_X4_needInAll_0 (l : Launch) (g : Gm) (G : Nat → CT) (P : PT) : CT := (oPush (.int (0)) (oISt 2 (oPush (.int (0)) (oISt 3 (G 1)))))
def bk_X4_needInAll_1 (l : Launch) (g : Gm) (G : Nat → CT) (P : PT) : CT := (oILd 3 (oPush (.int (4)) (oCmp (fun x y => y ≤ x) (oILd 2 (oIRet P)) (oILd 2 (oALd 0 (oGet [4, 0, 1] 3 (oILd 1 (oRAL g 6 (oILd 3 (oIAL g (oBin (fun x y => x + y) (oISt 2 (oInc 3 (1) (oGo (G 1)))))))))))))))
def bk_X4_needInAll (l : Launch) (g : Gm) (b : Nat) (G : Nat → CT) (P : PT) : CT := match b with
  | 0 => bk_X4_needInAll_0 l g G P
  | 1 => bk_X4_needInAll_1 l g G P
  | _ => fun _ _ _ _ _ => False
def pc_X4_needInAll (b : Nat) : Nat := match b with
  | 0 => 0
  | 1 => 4
  | _ => 0
set_option maxRecDepth 100000 in
theorem sb_X4_needInAll_0 {p : Program} {l : Launch} {e : Env} {s : State} {m : MethodId} {args : Array Value} {below : List Frame} {meth : Method} {c : Code} {g : Gm} {h0 : Hp} {P : PT} {mc ms : Nat} (X : Cx g p s m args meth c (Adom h0 s.heap.size) cX4_needInAll RX4 4) (hr : meth.sig.returnType = some .int) (hn : meth.name = "needInAll") : SX g p l e s m args below meth c d_X4_needInAll 4 mc ms h0 P (bk_X4_needInAll_0 l g (fun b => GX g p l e s m args below meth c d_X4_needInAll 4 mc ms h0 P (pc_X4_needInAll b)) P) 0 := (s_iconst X dX4_needInAll_0 rfl (s_istore_n X dX4_needInAll_1 rfl (by decide) (s_iconst X dX4_needInAll_2 rfl (s_istore_n X dX4_needInAll_3 rfl (by decide) Sd.rf))))
set_option maxRecDepth 100000 in
theorem sb_X4_needInAll_1 {p : Program} {l : Launch} {e : Env} {s : State} {m : MethodId} {args : Array Value} {below : List Frame} {meth : Method} {c : Code} {g : Gm} {h0 : Hp} {P : PT} {mc ms : Nat} (X : Cx g p s m args meth c (Adom h0 s.heap.size) cX4_needInAll RX4 4) (hr : meth.sig.returnType = some .int) (hn : meth.name = "needInAll") : SX g p l e s m args below meth c d_X4_needInAll 4 mc ms h0 P (bk_X4_needInAll_1 l g (fun b => GX g p l e s m args below meth c d_X4_needInAll 4 mc ms h0 P (pc_X4_needInAll b)) P) 4 := (s_iload_n X dX4_needInAll_4 rfl (s_iconst X dX4_needInAll_5 rfl (s_icmp_ge X dX4_needInAll_6 (by decide) (s_iload_n X dX4_needInAll_26 rfl (s_iret X hr dX4_needInAll_27)) (s_iload_n X dX4_needInAll_9 rfl (s_aload_n X dX4_needInAll_10 rfl (s_get X dX4_needInAll_11 (mcn (⟨_, _, _, _, rfl, inU_X4, by decide, uw_280, rfl⟩) (mcn (⟨_, _, _, _, rfl, inU_X0, by decide, uw_280, rfl⟩) (mcn (⟨_, _, _, _, rfl, inU_X1, by decide, uw_280, rfl⟩) (mnl)))) (s_iload_n X dX4_needInAll_14 rfl (s_aaload X (t := 6) (fun _ => rfl) rfl dX4_needInAll_15 (s_iload_n X dX4_needInAll_16 rfl (s_iaload X dX4_needInAll_17 (s_iadd X dX4_needInAll_18 (s_istore_n X dX4_needInAll_19 rfl (by decide) (s_iinc X dX4_needInAll_20 rfl (by decide) (s_goto X dX4_needInAll_23 (by decide) Sd.rf))))))))))))))
set_option maxRecDepth 100000 in
theorem vc_X4_needInAll {l : Launch} {g : Gm} {a0 : Nat} {a1 : Int32} {h : Hp} {mc ms : Nat} {P : PT} (H : ∀ G : Nat → CT, (∀ (b : Nat) (h : Hp) (cb sb : Nat) (ls : LocS) (st : List Value), bk_X4_needInAll l g b G P h cb sb ls st → G b h cb sb ls st) → G 0 h mc ms [some (.ref a0), some (.int a1), none, none] []) : Run l g d_X4_needInAll [.ref a0, .int a1] h mc ms P :=
  Run.of (d := d_X4_needInAll) (by decide) (mcn rfl (mcn rfl (mnl))) (Nat.le_of_ble_eq_true rfl) (fun p e s m args below meth c X hr hn => H (fun b => GX g p l e s m args below meth c d_X4_needInAll 4 mc ms h P (pc_X4_needInAll b)) (fun b h1 cb sb ls st hb => match b, hb with
    | 0, hb => sb_X4_needInAll_0 (p := p) (e := e) (below := below) X hr hn h1 cb sb ls st hb
    | 1, hb => sb_X4_needInAll_1 (p := p) (e := e) (below := below) X hr hn h1 cb sb ls st hb
    | _ + 2, hb => hb.elim))
theorem dX4_toldPlainly_0 : decode cX4_toldPlainly 0 = .ok (.aload_n 1, 1) := by decide +kernel
theorem dX4_toldPlainly_1 : decode cX4_toldPlainly 1 = .ok (.iconst 1, 1) := by decide +kernel
theorem dX4_toldPlainly_2 : decode cX4_toldPlainly 2 = .ok (.invokevirtual 49, 3) := by decide +kernel
theorem dX4_toldPlainly_5 : decode cX4_toldPlainly 5 = .ok (.iload_n 2, 1) := by decide +kernel
theorem dX4_toldPlainly_6 : decode cX4_toldPlainly 6 = .ok (.ireturn, 1) := by decide +kernel
def bk_X4_toldPlainly_0 (l : Launch) (g : Gm) (G : Nat → CT) (P : PT) : CT := (oALd 1 (oPush (.int (1)) (oCallV l g [(8, d_X8_leave)] 2 (oILd 2 (oIRet P)))))
def bk_X4_toldPlainly (l : Launch) (g : Gm) (b : Nat) (G : Nat → CT) (P : PT) : CT := match b with
  | 0 => bk_X4_toldPlainly_0 l g G P
  | _ => fun _ _ _ _ _ => False
def pc_X4_toldPlainly (b : Nat) : Nat := match b with
  | 0 => 0
  | _ => 0
set_option maxRecDepth 100000 in
theorem sb_X4_toldPlainly_0 {p : Program} {l : Launch} {e : Env} {s : State} {m : MethodId} {args : Array Value} {below : List Frame} {meth : Method} {c : Code} {g : Gm} {h0 : Hp} {P : PT} {mc ms : Nat} (X : Cx g p s m args meth c (Adom h0 s.heap.size) cX4_toldPlainly RX4 3) (hr : meth.sig.returnType = some .int) (hn : meth.name = "toldPlainly") : SX g p l e s m args below meth c d_X4_toldPlainly 3 mc ms h0 P (bk_X4_toldPlainly_0 l g (fun b => GX g p l e s m args below meth c d_X4_toldPlainly 3 mc ms h0 P (pc_X4_toldPlainly b)) P) 0 := (s_aload_n X dX4_toldPlainly_0 rfl (s_iconst X dX4_toldPlainly_1 rfl (s_callV X dX4_toldPlainly_2 (mv (vok_V X rfl uw_662 uw_647 uw_648 uw_2 ci_X8_leave yok_X8_leave ⟨Nat.le_of_ble_eq_true rfl, Nat.le_of_ble_eq_true rfl⟩) mv0) (s_iload_n X dX4_toldPlainly_5 rfl (s_iret X hr dX4_toldPlainly_6)))))
set_option maxRecDepth 100000 in
theorem vc_X4_toldPlainly {l : Launch} {g : Gm} {a0 : Nat} {a1 : Nat} {a2 : Int32} {h : Hp} {mc ms : Nat} {P : PT} (H : ∀ G : Nat → CT, (∀ (b : Nat) (h : Hp) (cb sb : Nat) (ls : LocS) (st : List Value), bk_X4_toldPlainly l g b G P h cb sb ls st → G b h cb sb ls st) → G 0 h mc ms [some (.ref a0), some (.ref a1), some (.int a2)] []) : Run l g d_X4_toldPlainly [.ref a0, .ref a1, .int a2] h mc ms P :=
  Run.of (d := d_X4_toldPlainly) (by decide) (mcn rfl (mcn rfl (mcn rfl (mnl)))) (Nat.le_of_ble_eq_true rfl) (fun p e s m args below meth c X hr hn => H (fun b => GX g p l e s m args below meth c d_X4_toldPlainly 3 mc ms h P (pc_X4_toldPlainly b)) (fun b h1 cb sb ls st hb => match b, hb with
    | 0, hb => sb_X4_toldPlainly_0 (p := p) (e := e) (below := below) X hr hn h1 cb sb ls st hb
    | _ + 1, hb => hb.elim))
theorem dX4_toldOf_0 : decode cX4_toldOf 0 = .ok (.aload_n 0, 1) := by decide +kernel
theorem dX4_toldOf_1 : decode cX4_toldOf 1 = .ok (.aload_n 1, 1) := by decide +kernel
theorem dX4_toldOf_2 : decode cX4_toldOf 2 = .ok (.iload_n 2, 1) := by decide +kernel
theorem dX4_toldOf_3 : decode cX4_toldOf 3 = .ok (.invokevirtual 55, 3) := by decide +kernel
theorem dX4_toldOf_6 : decode cX4_toldOf 6 = .ok (.ireturn, 1) := by decide +kernel
def bk_X4_toldOf_0 (l : Launch) (g : Gm) (G : Nat → CT) (P : PT) : CT := (oALd 0 (oALd 1 (oILd 2 (oCallV l g [(4, d_X4_toldPlainly), (0, d_X4_toldPlainly), (1, d_X4_toldPlainly)] 3 (oIRet P)))))
def bk_X4_toldOf (l : Launch) (g : Gm) (b : Nat) (G : Nat → CT) (P : PT) : CT := match b with
  | 0 => bk_X4_toldOf_0 l g G P
  | _ => fun _ _ _ _ _ => False
def pc_X4_toldOf (b : Nat) : Nat := match b with
  | 0 => 0
  | _ => 0
set_option maxRecDepth 100000 in
theorem sb_X4_toldOf_0 {p : Program} {l : Launch} {e : Env} {s : State} {m : MethodId} {args : Array Value} {below : List Frame} {meth : Method} {c : Code} {g : Gm} {h0 : Hp} {P : PT} {mc ms : Nat} (X : Cx g p s m args meth c (Adom h0 s.heap.size) cX4_toldOf RX4 3) (hr : meth.sig.returnType = some .int) (hn : meth.name = "toldOf") : SX g p l e s m args below meth c d_X4_toldOf 3 mc ms h0 P (bk_X4_toldOf_0 l g (fun b => GX g p l e s m args below meth c d_X4_toldOf 3 mc ms h0 P (pc_X4_toldOf b)) P) 0 := (s_aload_n X dX4_toldOf_0 rfl (s_aload_n X dX4_toldOf_1 rfl (s_iload_n X dX4_toldOf_2 rfl (s_callV X dX4_toldOf_3 (mv (vok_U X (owner := RX4) (x := ⟨"VillageCuts$Plain", "toldPlainly", "(LVillageCuts$Trace;I)I"⟩) rfl rfl uw_664 uw_1073 uw_1076 uw_660 uw_9 ci_X4_toldPlainly (by decide +kernel) ⟨Nat.le_of_ble_eq_true rfl, Nat.le_of_ble_eq_true rfl⟩) (mv (vok_U X (owner := RX4) (x := ⟨"VillageCuts$Plain", "toldPlainly", "(LVillageCuts$Trace;I)I"⟩) rfl rfl uw_664 uw_1073 uw_1074 uw_660 uw_9 ci_X4_toldPlainly (by decide +kernel) ⟨Nat.le_of_ble_eq_true rfl, Nat.le_of_ble_eq_true rfl⟩) (mv (vok_U X (owner := RX4) (x := ⟨"VillageCuts$Plain", "toldPlainly", "(LVillageCuts$Trace;I)I"⟩) rfl rfl uw_664 uw_1073 uw_1075 uw_660 uw_9 ci_X4_toldPlainly (by decide +kernel) ⟨Nat.le_of_ble_eq_true rfl, Nat.le_of_ble_eq_true rfl⟩) (mv0)))) (s_iret X hr dX4_toldOf_6)))))
set_option maxRecDepth 100000 in
theorem vc_X4_toldOf {l : Launch} {g : Gm} {a0 : Nat} {a1 : Nat} {a2 : Int32} {h : Hp} {mc ms : Nat} {P : PT} (H : ∀ G : Nat → CT, (∀ (b : Nat) (h : Hp) (cb sb : Nat) (ls : LocS) (st : List Value), bk_X4_toldOf l g b G P h cb sb ls st → G b h cb sb ls st) → G 0 h mc ms [some (.ref a0), some (.ref a1), some (.int a2)] []) : Run l g d_X4_toldOf [.ref a0, .ref a1, .int a2] h mc ms P :=
  Run.of (d := d_X4_toldOf) (by decide) (mcn rfl (mcn rfl (mcn rfl (mnl)))) (Nat.le_of_ble_eq_true rfl) (fun p e s m args below meth c X hr hn => H (fun b => GX g p l e s m args below meth c d_X4_toldOf 3 mc ms h P (pc_X4_toldOf b)) (fun b h1 cb sb ls st hb => match b, hb with
    | 0, hb => sb_X4_toldOf_0 (p := p) (e := e) (below := below) X hr hn h1 cb sb ls st hb
    | _ + 1, hb => hb.elim))
theorem dX4_rungAt_0 : decode cX4_rungAt 0 = .ok (.aload_n 1, 1) := by decide +kernel
theorem dX4_rungAt_1 : decode cX4_rungAt 1 = .ok (.iconst 4, 1) := by decide +kernel
theorem dX4_rungAt_2 : decode cX4_rungAt 2 = .ok (.invokevirtual 49, 3) := by decide +kernel
theorem dX4_rungAt_5 : decode cX4_rungAt 5 = .ok (.iload_n 2, 1) := by decide +kernel
theorem dX4_rungAt_6 : decode cX4_rungAt 6 = .ok (.ireturn, 1) := by decide +kernel
def bk_X4_rungAt_0 (l : Launch) (g : Gm) (G : Nat → CT) (P : PT) : CT := (oALd 1 (oPush (.int (4)) (oCallV l g [(8, d_X8_leave)] 2 (oILd 2 (oIRet P)))))
def bk_X4_rungAt (l : Launch) (g : Gm) (b : Nat) (G : Nat → CT) (P : PT) : CT := match b with
  | 0 => bk_X4_rungAt_0 l g G P
  | _ => fun _ _ _ _ _ => False
def pc_X4_rungAt (b : Nat) : Nat := match b with
  | 0 => 0
  | _ => 0
set_option maxRecDepth 100000 in
theorem sb_X4_rungAt_0 {p : Program} {l : Launch} {e : Env} {s : State} {m : MethodId} {args : Array Value} {below : List Frame} {meth : Method} {c : Code} {g : Gm} {h0 : Hp} {P : PT} {mc ms : Nat} (X : Cx g p s m args meth c (Adom h0 s.heap.size) cX4_rungAt RX4 3) (hr : meth.sig.returnType = some .int) (hn : meth.name = "rungAt") : SX g p l e s m args below meth c d_X4_rungAt 3 mc ms h0 P (bk_X4_rungAt_0 l g (fun b => GX g p l e s m args below meth c d_X4_rungAt 3 mc ms h0 P (pc_X4_rungAt b)) P) 0 := (s_aload_n X dX4_rungAt_0 rfl (s_iconst X dX4_rungAt_1 rfl (s_callV X dX4_rungAt_2 (mv (vok_V X rfl uw_662 uw_647 uw_648 uw_2 ci_X8_leave yok_X8_leave ⟨Nat.le_of_ble_eq_true rfl, Nat.le_of_ble_eq_true rfl⟩) mv0) (s_iload_n X dX4_rungAt_5 rfl (s_iret X hr dX4_rungAt_6)))))
set_option maxRecDepth 100000 in
theorem vc_X4_rungAt {l : Launch} {g : Gm} {a0 : Nat} {a1 : Nat} {a2 : Int32} {h : Hp} {mc ms : Nat} {P : PT} (H : ∀ G : Nat → CT, (∀ (b : Nat) (h : Hp) (cb sb : Nat) (ls : LocS) (st : List Value), bk_X4_rungAt l g b G P h cb sb ls st → G b h cb sb ls st) → G 0 h mc ms [some (.ref a0), some (.ref a1), some (.int a2)] []) : Run l g d_X4_rungAt [.ref a0, .ref a1, .int a2] h mc ms P :=
  Run.of (d := d_X4_rungAt) (by decide) (mcn rfl (mcn rfl (mcn rfl (mnl)))) (Nat.le_of_ble_eq_true rfl) (fun p e s m args below meth c X hr hn => H (fun b => GX g p l e s m args below meth c d_X4_rungAt 3 mc ms h P (pc_X4_rungAt b)) (fun b h1 cb sb ls st hb => match b, hb with
    | 0, hb => sb_X4_rungAt_0 (p := p) (e := e) (below := below) X hr hn h1 cb sb ls st hb
    | _ + 1, hb => hb.elim))
