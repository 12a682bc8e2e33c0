theorem dX6_init_0 : decode cX6_init 0 = .ok (.aload_n 0, 1) := by decide +kernel
theorem dX6_init_1 : decode cX6_init 1 = .ok (.invokespecial 3, 3) := by decide +kernel
theorem dX6_init_4 : decode cX6_init 4 = .ok (.aload_n 0, 1) := by decide +kernel
theorem dX6_init_5 : decode cX6_init 5 = .ok (.iconst 4, 1) := by decide +kernel
theorem dX6_init_6 : decode cX6_init 6 = .ok (.newarray .int, 2) := by decide +kernel
theorem dX6_init_8 : decode cX6_init 8 = .ok (.putfield 9, 3) := by decide +kernel
theorem dX6_init_11 : decode cX6_init 11 = .ok (.aload_n 0, 1) := by decide +kernel
theorem dX6_init_12 : decode cX6_init 12 = .ok (.iconst 4, 1) := by decide +kernel
theorem dX6_init_13 : decode cX6_init 13 = .ok (.newarray .int, 2) := by decide +kernel
theorem dX6_init_15 : decode cX6_init 15 = .ok (.putfield 15, 3) := by decide +kernel
theorem dX6_init_18 : decode cX6_init 18 = .ok (.aload_n 0, 1) := by decide +kernel
theorem dX6_init_19 : decode cX6_init 19 = .ok (.sipush 1296, 3) := by decide +kernel
theorem dX6_init_22 : decode cX6_init 22 = .ok (.newarray .long, 2) := by decide +kernel
theorem dX6_init_24 : decode cX6_init 24 = .ok (.putfield 18, 3) := by decide +kernel
theorem dX6_init_27 : decode cX6_init 27 = .ok (.aload_n 0, 1) := by decide +kernel
theorem dX6_init_28 : decode cX6_init 28 = .ok (.sipush 1296, 3) := by decide +kernel
theorem dX6_init_31 : decode cX6_init 31 = .ok (.newarray .int, 2) := by decide +kernel
theorem dX6_init_33 : decode cX6_init 33 = .ok (.putfield 22, 3) := by decide +kernel
theorem dX6_init_36 : decode cX6_init 36 = .ok (.aload_n 0, 1) := by decide +kernel
theorem dX6_init_37 : decode cX6_init 37 = .ok (.sipush 1296, 3) := by decide +kernel
theorem dX6_init_40 : decode cX6_init 40 = .ok (.newarray .int, 2) := by decide +kernel
theorem dX6_init_42 : decode cX6_init 42 = .ok (.putfield 25, 3) := by decide +kernel
theorem dX6_init_45 : decode cX6_init 45 = .ok (.aload_n 0, 1) := by decide +kernel
theorem dX6_init_46 : decode cX6_init 46 = .ok (.sipush 1296, 3) := by decide +kernel
theorem dX6_init_49 : decode cX6_init 49 = .ok (.newarray .int, 2) := by decide +kernel
theorem dX6_init_51 : decode cX6_init 51 = .ok (.putfield 28, 3) := by decide +kernel
theorem dX6_init_54 : decode cX6_init 54 = .ok (.aload_n 0, 1) := by decide +kernel
theorem dX6_init_55 : decode cX6_init 55 = .ok (.sipush 1296, 3) := by decide +kernel
theorem dX6_init_58 : decode cX6_init 58 = .ok (.newarray .boolean, 2) := by decide +kernel
theorem dX6_init_60 : decode cX6_init 60 = .ok (.putfield 31, 3) := by decide +kernel
theorem dX6_init_63 : decode cX6_init 63 = .ok (.aload_n 0, 1) := by decide +kernel
theorem dX6_init_64 : decode cX6_init 64 = .ok (.iconst 1, 1) := by decide +kernel
theorem dX6_init_65 : decode cX6_init 65 = .ok (.putfield 35, 3) := by decide +kernel
theorem dX6_init_68 : decode cX6_init 68 = .ok (.return_, 1) := by decide +kernel
def bk_X6_init_0 (l : Launch) (g : Gm) (G : Nat → CT) (P : PT) : CT := (oALd 0 (oObj1 (oALd 0 (oPush (.int (4)) (oNewI g (oPutR [6] 0 (oALd 0 (oPush (.int (4)) (oNewI g (oPutR [6] 1 (oALd 0 (oPush (.int (1296)) (oNewJ g (oPutR [6] 2 (oALd 0 (oPush (.int (1296)) (oNewI g (oPutR [6] 3 (oALd 0 (oPush (.int (1296)) (oNewI g (oPutR [6] 4 (oALd 0 (oPush (.int (1296)) (oNewI g (oPutR [6] 5 (oALd 0 (oPush (.int (1296)) (oNewZ g (oPutR [6] 6 (oALd 0 (oPush (.int (1)) (oPutI [6] 8 (oVRet P))))))))))))))))))))))))))))))))))
def bk_X6_init (l : Launch) (g : Gm) (b : Nat) (G : Nat → CT) (P : PT) : CT := match b with
  | 0 => bk_X6_init_0 l g G P
  | _ => fun _ _ _ _ _ => False
def pc_X6_init (b : Nat) : Nat := match b with
  | 0 => 0
  | _ => 0
set_option maxRecDepth 100000 in
theorem sb_X6_init_0 {p : Program} {l : Launch} {e : Env} {s : State} {m : MethodId} {args : Array Value} {below : List Frame} {meth : Method} {c : Code} {g : Gm} {h0 : Hp} {P : PT} {mc ms : Nat} (X : Cx g p s m args meth c (Adom h0 s.heap.size) cX6_init RX6 1) (hr : meth.sig.returnType = none) (hn : meth.name = "<init>") : SX g p l e s m args below meth c d_X6_init 1 mc ms h0 P (bk_X6_init_0 l g (fun b => GX g p l e s m args below meth c d_X6_init 1 mc ms h0 P (pc_X6_init b)) P) 0 := (s_aload_n X dX6_init_0 rfl (s_obj1 X uw_111 uw_21 uw_22 (Nat.le_of_ble_eq_true rfl) (Nat.le_of_ble_eq_true rfl) dX6_init_1 (s_aload_n X dX6_init_4 rfl (s_iconst X dX6_init_5 rfl (s_newI X uw_78 dX6_init_6 (s_putRF X dX6_init_8 rt_arr (mcn (⟨_, _, _, _, tyX6, rfl, inU_X6, by decide, uw_112, rfl, tyX6_ok, nmX6, rfl, rfl⟩) (mnl)) hn (mcn (fun C T1 N1 hq => by cases hq; rfl) (mnl)) (s_aload_n X dX6_init_11 rfl (s_iconst X dX6_init_12 rfl (s_newI X uw_78 dX6_init_13 (s_putRF X dX6_init_15 rt_arr (mcn (⟨_, _, _, _, tyX6, rfl, inU_X6, by decide, uw_113, rfl, tyX6_ok, nmX6, rfl, rfl⟩) (mnl)) hn (mcn (fun C T1 N1 hq => by cases hq; rfl) (mnl)) (s_aload_n X dX6_init_18 rfl (s_sipush X dX6_init_19 rfl (s_newJ X uw_140 dX6_init_22 (s_putRF X dX6_init_24 rt_arr (mcn (⟨_, _, _, _, tyX6, rfl, inU_X6, by decide, uw_114, rfl, tyX6_ok, nmX6, rfl, rfl⟩) (mnl)) hn (mcn (fun C T1 N1 hq => by cases hq; rfl) (mnl)) (s_aload_n X dX6_init_27 rfl (s_sipush X dX6_init_28 rfl (s_newI X uw_78 dX6_init_31 (s_putRF X dX6_init_33 rt_arr (mcn (⟨_, _, _, _, tyX6, rfl, inU_X6, by decide, uw_115, rfl, tyX6_ok, nmX6, rfl, rfl⟩) (mnl)) hn (mcn (fun C T1 N1 hq => by cases hq; rfl) (mnl)) (s_aload_n X dX6_init_36 rfl (s_sipush X dX6_init_37 rfl (s_newI X uw_78 dX6_init_40 (s_putRF X dX6_init_42 rt_arr (mcn (⟨_, _, _, _, tyX6, rfl, inU_X6, by decide, uw_116, rfl, tyX6_ok, nmX6, rfl, rfl⟩) (mnl)) hn (mcn (fun C T1 N1 hq => by cases hq; rfl) (mnl)) (s_aload_n X dX6_init_45 rfl (s_sipush X dX6_init_46 rfl (s_newI X uw_78 dX6_init_49 (s_putRF X dX6_init_51 rt_arr (mcn (⟨_, _, _, _, tyX6, rfl, inU_X6, by decide, uw_117, rfl, tyX6_ok, nmX6, rfl, rfl⟩) (mnl)) hn (mcn (fun C T1 N1 hq => by cases hq; rfl) (mnl)) (s_aload_n X dX6_init_54 rfl (s_sipush X dX6_init_55 rfl (s_newZ X uw_141 dX6_init_58 (s_putRF X dX6_init_60 rt_arr (mcn (⟨_, _, _, _, tyX6, rfl, inU_X6, by decide, uw_118, rfl, tyX6_ok, nmX6, rfl, rfl⟩) (mnl)) hn (mcn (fun C T1 N1 hq => by cases hq; rfl) (mnl)) (s_aload_n X dX6_init_63 rfl (s_iconst X dX6_init_64 rfl (s_putI X dX6_init_65 (mcn (⟨_, _, _, _, tyX6, rfl, inU_X6, by decide, uw_120, rfl, tyX6_ok, nmX6, rfl, rfl⟩) (mnl)) (s_vret X hr dX6_init_68))))))))))))))))))))))))))))))))))
set_option maxRecDepth 100000 in
theorem vc_X6_init {l : Launch} {g : Gm} {a0 : Nat} {h : Hp} {mc ms : Nat} {P : PT} (H : ∀ G : Nat → CT, (∀ (b : Nat) (h : Hp) (cb sb : Nat) (ls : LocS) (st : List Value), bk_X6_init l g b G P h cb sb ls st → G b h cb sb ls st) → G 0 h mc ms [some (.ref a0)] []) : Run l g d_X6_init [.ref a0] h mc ms P :=
  Run.of (d := d_X6_init) (by decide) (mcn rfl (mnl)) (Nat.le_of_ble_eq_true rfl) (fun p e s m args below meth c X hr hn => H (fun b => GX g p l e s m args below meth c d_X6_init 1 mc ms h P (pc_X6_init b)) (fun b h1 cb sb ls st hb => match b, hb with
    | 0, hb => sb_X6_init_0 (p := p) (e := e) (below := below) X hr hn h1 cb sb ls st hb
    | _ + 1, hb => hb.elim))
theorem dX6_walk_0 : decode cX6_walk 0 = .ok (.aload_n 0, 1) := by decide +kernel
theorem dX6_walk_1 : decode cX6_walk 1 = .ok (.aload_n 1, 1) := by decide +kernel
theorem dX6_walk_2 : decode cX6_walk 2 = .ok (.invokevirtual 39, 3) := by decide +kernel
theorem dX6_walk_5 : decode cX6_walk 5 = .ok (.aload_n 0, 1) := by decide +kernel
theorem dX6_walk_6 : decode cX6_walk 6 = .ok (.getfield 18, 3) := by decide +kernel
theorem dX6_walk_9 : decode cX6_walk 9 = .ok (.lconst 0, 1) := by decide +kernel
theorem dX6_walk_10 : decode cX6_walk 10 = .ok (.invokestatic 43, 3) := by decide +kernel
theorem dX6_walk_13 : decode cX6_walk 13 = .ok (.aload_n 0, 1) := by decide +kernel
theorem dX6_walk_14 : decode cX6_walk 14 = .ok (.getfield 15, 3) := by decide +kernel
theorem dX6_walk_17 : decode cX6_walk 17 = .ok (.iconst 0, 1) := by decide +kernel
theorem dX6_walk_18 : decode cX6_walk 18 = .ok (.invokestatic 49, 3) := by decide +kernel
theorem dX6_walk_21 : decode cX6_walk 21 = .ok (.aload_n 0, 1) := by decide +kernel
theorem dX6_walk_22 : decode cX6_walk 22 = .ok (.getfield 18, 3) := by decide +kernel
theorem dX6_walk_25 : decode cX6_walk 25 = .ok (.iconst 0, 1) := by decide +kernel
theorem dX6_walk_26 : decode cX6_walk 26 = .ok (.lconst 1, 1) := by decide +kernel
theorem dX6_walk_27 : decode cX6_walk 27 = .ok (.lastore, 1) := by decide +kernel
theorem dX6_walk_28 : decode cX6_walk 28 = .ok (.iconst 0, 1) := by decide +kernel
theorem dX6_walk_29 : decode cX6_walk 29 = .ok (.istore_n 2, 1) := by decide +kernel
theorem dX6_walk_30 : decode cX6_walk 30 = .ok (.iload_n 2, 1) := by decide +kernel
theorem dX6_walk_31 : decode cX6_walk 31 = .ok (.aload_n 0, 1) := by decide +kernel
theorem dX6_walk_32 : decode cX6_walk 32 = .ok (.getfield 35, 3) := by decide +kernel
theorem dX6_walk_35 : decode cX6_walk 35 = .ok (.if_icmp .ge 72, 3) := by decide +kernel
theorem dX6_walk_38 : decode cX6_walk 38 = .ok (.aload_n 0, 1) := by decide +kernel
theorem dX6_walk_39 : decode cX6_walk 39 = .ok (.getfield 18, 3) := by decide +kernel
theorem dX6_walk_42 : decode cX6_walk 42 = .ok (.iload_n 2, 1) := by decide +kernel
theorem dX6_walk_43 : decode cX6_walk 43 = .ok (.laload, 1) := by decide +kernel
theorem dX6_walk_44 : decode cX6_walk 44 = .ok (.lconst 0, 1) := by decide +kernel
theorem dX6_walk_45 : decode cX6_walk 45 = .ok (.lcmp, 1) := by decide +kernel
theorem dX6_walk_46 : decode cX6_walk 46 = .ok (.ifCond .le 50, 3) := by decide +kernel
theorem dX6_walk_49 : decode cX6_walk 49 = .ok (.aload_n 0, 1) := by decide +kernel
theorem dX6_walk_50 : decode cX6_walk 50 = .ok (.getfield 22, 3) := by decide +kernel
theorem dX6_walk_53 : decode cX6_walk 53 = .ok (.iload_n 2, 1) := by decide +kernel
theorem dX6_walk_54 : decode cX6_walk 54 = .ok (.aload_n 1, 1) := by decide +kernel
theorem dX6_walk_55 : decode cX6_walk 55 = .ok (.aload_n 0, 1) := by decide +kernel
theorem dX6_walk_56 : decode cX6_walk 56 = .ok (.getfield 15, 3) := by decide +kernel
theorem dX6_walk_59 : decode cX6_walk 59 = .ok (.invokevirtual 52, 3) := by decide +kernel
theorem dX6_walk_62 : decode cX6_walk 62 = .ok (.iastore, 1) := by decide +kernel
theorem dX6_walk_63 : decode cX6_walk 63 = .ok (.aload_n 0, 1) := by decide +kernel
theorem dX6_walk_64 : decode cX6_walk 64 = .ok (.getfield 25, 3) := by decide +kernel
theorem dX6_walk_67 : decode cX6_walk 67 = .ok (.iload_n 2, 1) := by decide +kernel
theorem dX6_walk_68 : decode cX6_walk 68 = .ok (.aload_n 1, 1) := by decide +kernel
theorem dX6_walk_69 : decode cX6_walk 69 = .ok (.aload_n 0, 1) := by decide +kernel
theorem dX6_walk_70 : decode cX6_walk 70 = .ok (.getfield 15, 3) := by decide +kernel
theorem dX6_walk_73 : decode cX6_walk 73 = .ok (.invokevirtual 58, 3) := by decide +kernel
theorem dX6_walk_76 : decode cX6_walk 76 = .ok (.iastore, 1) := by decide +kernel
theorem dX6_walk_77 : decode cX6_walk 77 = .ok (.aload_n 0, 1) := by decide +kernel
theorem dX6_walk_78 : decode cX6_walk 78 = .ok (.getfield 28, 3) := by decide +kernel
theorem dX6_walk_81 : decode cX6_walk 81 = .ok (.iload_n 2, 1) := by decide +kernel
theorem dX6_walk_82 : decode cX6_walk 82 = .ok (.aload_n 1, 1) := by decide +kernel
theorem dX6_walk_83 : decode cX6_walk 83 = .ok (.aload_n 0, 1) := by decide +kernel
theorem dX6_walk_84 : decode cX6_walk 84 = .ok (.getfield 15, 3) := by decide +kernel
theorem dX6_walk_87 : decode cX6_walk 87 = .ok (.invokevirtual 61, 3) := by decide +kernel
theorem dX6_walk_90 : decode cX6_walk 90 = .ok (.iastore, 1) := by decide +kernel
theorem dX6_walk_91 : decode cX6_walk 91 = .ok (.aload_n 0, 1) := by decide +kernel
theorem dX6_walk_92 : decode cX6_walk 92 = .ok (.iload_n 2, 1) := by decide +kernel
theorem dX6_walk_93 : decode cX6_walk 93 = .ok (.invokevirtual 64, 3) := by decide +kernel
theorem dX6_walk_96 : decode cX6_walk 96 = .ok (.aload_n 0, 1) := by decide +kernel
theorem dX6_walk_97 : decode cX6_walk 97 = .ok (.aload_n 1, 1) := by decide +kernel
theorem dX6_walk_98 : decode cX6_walk 98 = .ok (.invokevirtual 68, 3) := by decide +kernel
theorem dX6_walk_101 : decode cX6_walk 101 = .ok (.iinc 2 1, 3) := by decide +kernel
theorem dX6_walk_104 : decode cX6_walk 104 = .ok (.goto (-74), 3) := by decide +kernel
theorem dX6_walk_107 : decode cX6_walk 107 = .ok (.return_, 1) := by decide +kernel
def bk_X6_walk_0 (l : Launch) (g : Gm) (G : Nat → CT) (P : PT) : CT := (oALd 0 (oALd 1 (oCallV l g [(6, d_X6_measure)] 2 (oALd 0 (oGet [6] 2 (oPush (.long 0) (oCall l g d_J7_fill_d0a16 2 (oALd 0 (oGet [6] 1 (oPush (.int (0)) (oCall l g d_J7_fill_53178 2 (oALd 0 (oGet [6] 2 (oPush (.int (0)) (oPush (.long 1) (oJAS g (oPush (.int (0)) (oISt 2 (G 1)))))))))))))))))))
def bk_X6_walk_1 (l : Launch) (g : Gm) (G : Nat → CT) (P : PT) : CT := (oILd 2 (oALd 0 (oGet [6] 8 (oCmp (fun x y => y ≤ x) (oVRet P) (oALd 0 (oGet [6] 2 (oILd 2 (oJAL g (oPush (.long 0) (oLCmp (oIf (fun x => x ≤ 0) (G 2) (oALd 0 (oGet [6] 3 (oILd 2 (oALd 1 (oALd 0 (oGet [6] 1 (oCallV l g [(2, d_X2_sumOf)] 2 (oIAS g (oALd 0 (oGet [6] 4 (oILd 2 (oALd 1 (oALd 0 (oGet [6] 1 (oCallV l g [(2, d_X2_thingsIn)] 2 (oIAS g (oALd 0 (oGet [6] 5 (oILd 2 (oALd 1 (oALd 0 (oGet [6] 1 (oCallV l g [(2, d_X2_thatGoOn)] 2 (oIAS g (oALd 0 (oILd 2 (oCallV l g [(6, d_X6_passWays)] 2 (G 2)))))))))))))))))))))))))))))))))))))))
def bk_X6_walk_2 (l : Launch) (g : Gm) (G : Nat → CT) (P : PT) : CT := (oALd 0 (oALd 1 (oCallV l g [(6, d_X6_turn)] 2 (oInc 2 (1) (oGo (G 1))))))
def bk_X6_walk (l : Launch) (g : Gm) (b : Nat) (G : Nat → CT) (P : PT) : CT := match b with
  | 0 => bk_X6_walk_0 l g G P
  | 1 => bk_X6_walk_1 l g G P
  | 2 => bk_X6_walk_2 l g G P
  | _ => fun _ _ _ _ _ => False
def pc_X6_walk (b : Nat) : Nat := match b with
  | 0 => 0
  | 1 => 30
  | 2 => 96
  | _ => 0
set_option maxRecDepth 100000 in
theorem sb_X6_walk_0 {p : Program} {l : Launch} {e : Env} {s : State} {m : MethodId} {args : Array Value} {below : List Frame} {meth : Method} {c : Code} {g : Gm} {h0 : Hp} {P : PT} {mc ms : Nat} (X : Cx g p s m args meth c (Adom h0 s.heap.size) cX6_walk RX6 3) (hr : meth.sig.returnType = none) (hn : meth.name = "walk") : SX g p l e s m args below meth c d_X6_walk 3 mc ms h0 P (bk_X6_walk_0 l g (fun b => GX g p l e s m args below meth c d_X6_walk 3 mc ms h0 P (pc_X6_walk b)) P) 0 := (s_aload_n X dX6_walk_0 rfl (s_aload_n X dX6_walk_1 rfl (s_callV X dX6_walk_2 (mv (vok_V X rfl uw_517 uw_519 (UW_pr 10 rfl rfl) uw_5 ci_X6_measure yok_X6_measure ⟨Nat.le_of_ble_eq_true rfl, Nat.le_of_ble_eq_true rfl⟩) mv0) (s_aload_n X dX6_walk_5 rfl (s_get X dX6_walk_6 (mcn (⟨_, _, _, _, rfl, inU_X6, by decide, uw_114, rfl⟩) (mnl)) (s_lconst X dX6_walk_9 rfl (s_callS X dX6_walk_10 uw_522 uw_523 uw_14 ci_J7_fill_d0a16 yok_J7_fill_d0a16 ⟨Nat.le_of_ble_eq_true rfl, Nat.le_of_ble_eq_true rfl⟩ (s_aload_n X dX6_walk_13 rfl (s_get X dX6_walk_14 (mcn (⟨_, _, _, _, rfl, inU_X6, by decide, uw_113, rfl⟩) (mnl)) (s_iconst X dX6_walk_17 rfl (s_callS X dX6_walk_18 uw_525 uw_449 uw_14 ci_J7_fill_53178 yok_J7_fill_53178 ⟨Nat.le_of_ble_eq_true rfl, Nat.le_of_ble_eq_true rfl⟩ (s_aload_n X dX6_walk_21 rfl (s_get X dX6_walk_22 (mcn (⟨_, _, _, _, rfl, inU_X6, by decide, uw_114, rfl⟩) (mnl)) (s_iconst X dX6_walk_25 rfl (s_lconst X dX6_walk_26 rfl (s_lastore X dX6_walk_27 (s_iconst X dX6_walk_28 rfl (s_istore_n X dX6_walk_29 rfl (by decide) Sd.rf))))))))))))))))))
set_option maxRecDepth 100000 in
theorem sb_X6_walk_1 {p : Program} {l : Launch} {e : Env} {s : State} {m : MethodId} {args : Array Value} {below : List Frame} {meth : Method} {c : Code} {g : Gm} {h0 : Hp} {P : PT} {mc ms : Nat} (X : Cx g p s m args meth c (Adom h0 s.heap.size) cX6_walk RX6 3) (hr : meth.sig.returnType = none) (hn : meth.name = "walk") : SX g p l e s m args below meth c d_X6_walk 3 mc ms h0 P (bk_X6_walk_1 l g (fun b => GX g p l e s m args below meth c d_X6_walk 3 mc ms h0 P (pc_X6_walk b)) P) 30 := (s_iload_n X dX6_walk_30 rfl (s_aload_n X dX6_walk_31 rfl (s_get X dX6_walk_32 (mcn (⟨_, _, _, _, rfl, inU_X6, by decide, uw_120, rfl⟩) (mnl)) (s_icmp_ge X dX6_walk_35 (by decide) (s_vret X hr dX6_walk_107) (s_aload_n X dX6_walk_38 rfl (s_get X dX6_walk_39 (mcn (⟨_, _, _, _, rfl, inU_X6, by decide, uw_114, rfl⟩) (mnl)) (s_iload_n X dX6_walk_42 rfl (s_laload X dX6_walk_43 (s_lconst X dX6_walk_44 rfl (s_lcmp X dX6_walk_45 (s_if_le X dX6_walk_46 (by decide) Sd.rf (s_aload_n X dX6_walk_49 rfl (s_get X dX6_walk_50 (mcn (⟨_, _, _, _, rfl, inU_X6, by decide, uw_115, rfl⟩) (mnl)) (s_iload_n X dX6_walk_53 rfl (s_aload_n X dX6_walk_54 rfl (s_aload_n X dX6_walk_55 rfl (s_get X dX6_walk_56 (mcn (⟨_, _, _, _, rfl, inU_X6, by decide, uw_113, rfl⟩) (mnl)) (s_callV X dX6_walk_59 (mv (vok_V X rfl uw_526 uw_467 uw_468 uw_3 ci_X2_sumOf yok_X2_sumOf ⟨Nat.le_of_ble_eq_true rfl, Nat.le_of_ble_eq_true rfl⟩) mv0) (s_iastore X dX6_walk_62 (s_aload_n X dX6_walk_63 rfl (s_get X dX6_walk_64 (mcn (⟨_, _, _, _, rfl, inU_X6, by decide, uw_116, rfl⟩) (mnl)) (s_iload_n X dX6_walk_67 rfl (s_aload_n X dX6_walk_68 rfl (s_aload_n X dX6_walk_69 rfl (s_get X dX6_walk_70 (mcn (⟨_, _, _, _, rfl, inU_X6, by decide, uw_113, rfl⟩) (mnl)) (s_callV X dX6_walk_73 (mv (vok_V X rfl uw_527 uw_445 uw_446 uw_3 ci_X2_thingsIn yok_X2_thingsIn ⟨Nat.le_of_ble_eq_true rfl, Nat.le_of_ble_eq_true rfl⟩) mv0) (s_iastore X dX6_walk_76 (s_aload_n X dX6_walk_77 rfl (s_get X dX6_walk_78 (mcn (⟨_, _, _, _, rfl, inU_X6, by decide, uw_117, rfl⟩) (mnl)) (s_iload_n X dX6_walk_81 rfl (s_aload_n X dX6_walk_82 rfl (s_aload_n X dX6_walk_83 rfl (s_get X dX6_walk_84 (mcn (⟨_, _, _, _, rfl, inU_X6, by decide, uw_113, rfl⟩) (mnl)) (s_callV X dX6_walk_87 (mv (vok_V X rfl uw_528 uw_492 uw_493 uw_3 ci_X2_thatGoOn yok_X2_thatGoOn ⟨Nat.le_of_ble_eq_true rfl, Nat.le_of_ble_eq_true rfl⟩) mv0) (s_iastore X dX6_walk_90 (s_aload_n X dX6_walk_91 rfl (s_iload_n X dX6_walk_92 rfl (s_callV X dX6_walk_93 (mv (vok_V X rfl uw_529 uw_531 (UW_pr 11 rfl rfl) uw_5 ci_X6_passWays yok_X6_passWays ⟨Nat.le_of_ble_eq_true rfl, Nat.le_of_ble_eq_true rfl⟩) mv0) Sd.rf))))))))))))))))))))))))))))))))))))))
set_option maxRecDepth 100000 in
theorem sb_X6_walk_2 {p : Program} {l : Launch} {e : Env} {s : State} {m : MethodId} {args : Array Value} {below : List Frame} {meth : Method} {c : Code} {g : Gm} {h0 : Hp} {P : PT} {mc ms : Nat} (X : Cx g p s m args meth c (Adom h0 s.heap.size) cX6_walk RX6 3) (hr : meth.sig.returnType = none) (hn : meth.name = "walk") : SX g p l e s m args below meth c d_X6_walk 3 mc ms h0 P (bk_X6_walk_2 l g (fun b => GX g p l e s m args below meth c d_X6_walk 3 mc ms h0 P (pc_X6_walk b)) P) 96 := (s_aload_n X dX6_walk_96 rfl (s_aload_n X dX6_walk_97 rfl (s_callV X dX6_walk_98 (mv (vok_V X rfl uw_537 uw_539 (UW_pr 13 rfl rfl) uw_5 ci_X6_turn yok_X6_turn ⟨Nat.le_of_ble_eq_true rfl, Nat.le_of_ble_eq_true rfl⟩) mv0) (s_iinc X dX6_walk_101 rfl (by decide) (s_goto X dX6_walk_104 (by decide) Sd.rf)))))
set_option maxRecDepth 100000 in
theorem vc_X6_walk {l : Launch} {g : Gm} {a0 : Nat} {a1 : Nat} {h : Hp} {mc ms : Nat} {P : PT} (H : ∀ G : Nat → CT, (∀ (b : Nat) (h : Hp) (cb sb : Nat) (ls : LocS) (st : List Value), bk_X6_walk l g b G P h cb sb ls st → G b h cb sb ls st) → G 0 h mc ms [some (.ref a0), some (.ref a1), none] []) : Run l g d_X6_walk [.ref a0, .ref a1] h mc ms P :=
  Run.of (d := d_X6_walk) (by decide) (mcn rfl (mcn rfl (mnl))) (Nat.le_of_ble_eq_true rfl) (fun p e s m args below meth c X hr hn => H (fun b => GX g p l e s m args below meth c d_X6_walk 3 mc ms h P (pc_X6_walk b)) (fun b h1 cb sb ls st hb => match b, hb with
    | 0, hb => sb_X6_walk_0 (p := p) (e := e) (below := below) X hr hn h1 cb sb ls st hb
    | 1, hb => sb_X6_walk_1 (p := p) (e := e) (below := below) X hr hn h1 cb sb ls st hb
    | 2, hb => sb_X6_walk_2 (p := p) (e := e) (below := below) X hr hn h1 cb sb ls st hb
    | _ + 3, hb => hb.elim))
theorem dX6_measure_0 : decode cX6_measure 0 = .ok (.aload_n 0, 1) := by decide +kernel
theorem dX6_measure_1 : decode cX6_measure 1 = .ok (.aload_n 1, 1) := by decide +kernel
theorem dX6_measure_2 : decode cX6_measure 2 = .ok (.getfield 71, 3) := by decide +kernel
theorem dX6_measure_5 : decode cX6_measure 5 = .ok (.putfield 74, 3) := by decide +kernel
theorem dX6_measure_8 : decode cX6_measure 8 = .ok (.aload_n 0, 1) := by decide +kernel
theorem dX6_measure_9 : decode cX6_measure 9 = .ok (.iconst 1, 1) := by decide +kernel
theorem dX6_measure_10 : decode cX6_measure 10 = .ok (.putfield 35, 3) := by decide +kernel
theorem dX6_measure_13 : decode cX6_measure 13 = .ok (.iconst 0, 1) := by decide +kernel
theorem dX6_measure_14 : decode cX6_measure 14 = .ok (.istore_n 2, 1) := by decide +kernel
theorem dX6_measure_15 : decode cX6_measure 15 = .ok (.iload_n 2, 1) := by decide +kernel
theorem dX6_measure_16 : decode cX6_measure 16 = .ok (.aload_n 0, 1) := by decide +kernel
theorem dX6_measure_17 : decode cX6_measure 17 = .ok (.getfield 74, 3) := by decide +kernel
theorem dX6_measure_20 : decode cX6_measure 20 = .ok (.if_icmp .ge 45, 3) := by decide +kernel
theorem dX6_measure_23 : decode cX6_measure 23 = .ok (.aload_n 0, 1) := by decide +kernel
theorem dX6_measure_24 : decode cX6_measure 24 = .ok (.getfield 9, 3) := by decide +kernel
theorem dX6_measure_27 : decode cX6_measure 27 = .ok (.iload_n 2, 1) := by decide +kernel
theorem dX6_measure_28 : decode cX6_measure 28 = .ok (.aload_n 0, 1) := by decide +kernel
theorem dX6_measure_29 : decode cX6_measure 29 = .ok (.getfield 35, 3) := by decide +kernel
theorem dX6_measure_32 : decode cX6_measure 32 = .ok (.iastore, 1) := by decide +kernel
theorem dX6_measure_33 : decode cX6_measure 33 = .ok (.aload_n 0, 1) := by decide +kernel
theorem dX6_measure_34 : decode cX6_measure 34 = .ok (.sipush 1296, 3) := by decide +kernel
theorem dX6_measure_37 : decode cX6_measure 37 = .ok (.aload_n 0, 1) := by decide +kernel
theorem dX6_measure_38 : decode cX6_measure 38 = .ok (.getfield 35, 3) := by decide +kernel
theorem dX6_measure_41 : decode cX6_measure 41 = .ok (.aload_n 1, 1) := by decide +kernel
theorem dX6_measure_42 : decode cX6_measure 42 = .ok (.getfield 77, 3) := by decide +kernel
theorem dX6_measure_45 : decode cX6_measure 45 = .ok (.iload_n 2, 1) := by decide +kernel
theorem dX6_measure_46 : decode cX6_measure 46 = .ok (.aaload, 1) := by decide +kernel
theorem dX6_measure_47 : decode cX6_measure 47 = .ok (.getfield 80, 3) := by decide +kernel
theorem dX6_measure_50 : decode cX6_measure 50 = .ok (.iconst 1, 1) := by decide +kernel
theorem dX6_measure_51 : decode cX6_measure 51 = .ok (.iadd, 1) := by decide +kernel
theorem dX6_measure_52 : decode cX6_measure 52 = .ok (.imul, 1) := by decide +kernel
theorem dX6_measure_53 : decode cX6_measure 53 = .ok (.invokestatic 85, 3) := by decide +kernel
theorem dX6_measure_56 : decode cX6_measure 56 = .ok (.putfield 35, 3) := by decide +kernel
theorem dX6_measure_59 : decode cX6_measure 59 = .ok (.iinc 2 1, 3) := by decide +kernel
theorem dX6_measure_62 : decode cX6_measure 62 = .ok (.goto (-47), 3) := by decide +kernel
theorem dX6_measure_65 : decode cX6_measure 65 = .ok (.return_, 1) := by decide +kernel
def bk_X6_measure_0 (l : Launch) (g : Gm) (G : Nat → CT) (P : PT) : CT := (oALd 0 (oALd 1 (oGet [2] 4 (oPutI [6] 7 (oALd 0 (oPush (.int (1)) (oPutI [6] 8 (oPush (.int (0)) (oISt 2 (G 1))))))))))
def bk_X6_measure_1 (l : Launch) (g : Gm) (G : Nat → CT) (P : PT) : CT := (oILd 2 (oALd 0 (oGet [6] 7 (oCmp (fun x y => y ≤ x) (oVRet P) (oALd 0 (oGet [6] 0 (oILd 2 (oALd 0 (oGet [6] 8 (oIAS g (oALd 0 (oPush (.int (1296)) (oALd 0 (oGet [6] 8 (oALd 1 (oGet [2] 0 (oILd 2 (oRAL g 3 (oGet [4, 0, 1] 5 (oPush (.int (1)) (oBin (fun x y => x + y) (oBin (fun x y => x * y) (oMin (oPutI [6] 8 (oInc 2 (1) (oGo (G 1)))))))))))))))))))))))))))
def bk_X6_measure (l : Launch) (g : Gm) (b : Nat) (G : Nat → CT) (P : PT) : CT := match b with
  | 0 => bk_X6_measure_0 l g G P
  | 1 => bk_X6_measure_1 l g G P
  | _ => fun _ _ _ _ _ => False
def pc_X6_measure (b : Nat) : Nat := match b with
  | 0 => 0
  | 1 => 15
  | _ => 0
set_option maxRecDepth 100000 in
theorem sb_X6_measure_0 {p : Program} {l : Launch} {e : Env} {s : State} {m : MethodId} {args : Array Value} {below : List Frame} {meth : Method} {c : Code} {g : Gm} {h0 : Hp} {P : PT} {mc ms : Nat} (X : Cx g p s m args meth c (Adom h0 s.heap.size) cX6_measure RX6 3) (hr : meth.sig.returnType = none) (hn : meth.name = "measure") : SX g p l e s m args below meth c d_X6_measure 3 mc ms h0 P (bk_X6_measure_0 l g (fun b => GX g p l e s m args below meth c d_X6_measure 3 mc ms h0 P (pc_X6_measure b)) P) 0 := (s_aload_n X dX6_measure_0 rfl (s_aload_n X dX6_measure_1 rfl (s_get X dX6_measure_2 (mcn (⟨_, _, _, _, rfl, inU_X2, by decide, uw_90, rfl⟩) (mnl)) (s_putI X dX6_measure_5 (mcn (⟨_, _, _, _, tyX6, rfl, inU_X6, by decide, uw_119, rfl, tyX6_ok, nmX6, rfl, rfl⟩) (mnl)) (s_aload_n X dX6_measure_8 rfl (s_iconst X dX6_measure_9 rfl (s_putI X dX6_measure_10 (mcn (⟨_, _, _, _, tyX6, rfl, inU_X6, by decide, uw_120, rfl, tyX6_ok, nmX6, rfl, rfl⟩) (mnl)) (s_iconst X dX6_measure_13 rfl (s_istore_n X dX6_measure_14 rfl (by decide) Sd.rf)))))))))
set_option maxRecDepth 100000 in
theorem sb_X6_measure_1 {p : Program} {l : Launch} {e : Env} {s : State} {m : MethodId} {args : Array Value} {below : List Frame} {meth : Method} {c : Code} {g : Gm} {h0 : Hp} {P : PT} {mc ms : Nat} (X : Cx g p s m args meth c (Adom h0 s.heap.size) cX6_measure RX6 3) (hr : meth.sig.returnType = none) (hn : meth.name = "measure") : SX g p l e s m args below meth c d_X6_measure 3 mc ms h0 P (bk_X6_measure_1 l g (fun b => GX g p l e s m args below meth c d_X6_measure 3 mc ms h0 P (pc_X6_measure b)) P) 15 := (s_iload_n X dX6_measure_15 rfl (s_aload_n X dX6_measure_16 rfl (s_get X dX6_measure_17 (mcn (⟨_, _, _, _, rfl, inU_X6, by decide, uw_119, rfl⟩) (mnl)) (s_icmp_ge X dX6_measure_20 (by decide) (s_vret X hr dX6_measure_65) (s_aload_n X dX6_measure_23 rfl (s_get X dX6_measure_24 (mcn (⟨_, _, _, _, rfl, inU_X6, by decide, uw_112, rfl⟩) (mnl)) (s_iload_n X dX6_measure_27 rfl (s_aload_n X dX6_measure_28 rfl (s_get X dX6_measure_29 (mcn (⟨_, _, _, _, rfl, inU_X6, by decide, uw_120, rfl⟩) (mnl)) (s_iastore X dX6_measure_32 (s_aload_n X dX6_measure_33 rfl (s_sipush X dX6_measure_34 rfl (s_aload_n X dX6_measure_37 rfl (s_get X dX6_measure_38 (mcn (⟨_, _, _, _, rfl, inU_X6, by decide, uw_120, rfl⟩) (mnl)) (s_aload_n X dX6_measure_41 rfl (s_get X dX6_measure_42 (mcn (⟨_, _, _, _, rfl, inU_X2, by decide, uw_81, rfl⟩) (mnl)) (s_iload_n X dX6_measure_45 rfl (s_aaload X (t := 3) (fun _ => rfl) rfl dX6_measure_46 (s_get X dX6_measure_47 (mcn (⟨_, _, _, _, rfl, inU_X4, by decide, uw_286, rfl⟩) (mcn (⟨_, _, _, _, rfl, inU_X0, by decide, uw_286, rfl⟩) (mcn (⟨_, _, _, _, rfl, inU_X1, by decide, uw_286, rfl⟩) (mnl)))) (s_iconst X dX6_measure_50 rfl (s_iadd X dX6_measure_51 (s_imul X dX6_measure_52 (s_min X uw_521 uw_394 uw_13 uw_395 (Nat.le_of_ble_eq_true rfl) (Nat.le_of_ble_eq_true rfl) dX6_measure_53 (s_putI X dX6_measure_56 (mcn (⟨_, _, _, _, tyX6, rfl, inU_X6, by decide, uw_120, rfl, tyX6_ok, nmX6, rfl, rfl⟩) (mnl)) (s_iinc X dX6_measure_59 rfl (by decide) (s_goto X dX6_measure_62 (by decide) Sd.rf))))))))))))))))))))))))))
set_option maxRecDepth 100000 in
theorem vc_X6_measure {l : Launch} {g : Gm} {a0 : Nat} {a1 : Nat} {h : Hp} {mc ms : Nat} {P : PT} (H : ∀ G : Nat → CT, (∀ (b : Nat) (h : Hp) (cb sb : Nat) (ls : LocS) (st : List Value), bk_X6_measure l g b G P h cb sb ls st → G b h cb sb ls st) → G 0 h mc ms [some (.ref a0), some (.ref a1), none] []) : Run l g d_X6_measure [.ref a0, .ref a1] h mc ms P :=
  Run.of (d := d_X6_measure) (by decide) (mcn rfl (mcn rfl (mnl))) (Nat.le_of_ble_eq_true rfl) (fun p e s m args below meth c X hr hn => H (fun b => GX g p l e s m args below meth c d_X6_measure 3 mc ms h P (pc_X6_measure b)) (fun b h1 cb sb ls st hb => match b, hb with
    | 0, hb => sb_X6_measure_0 (p := p) (e := e) (below := below) X hr hn h1 cb sb ls st hb
    | 1, hb => sb_X6_measure_1 (p := p) (e := e) (below := below) X hr hn h1 cb sb ls st hb
    | _ + 2, hb => hb.elim))
theorem dX6_passWays_0 : decode cX6_passWays 0 = .ok (.iconst 0, 1) := by decide +kernel
theorem dX6_passWays_1 : decode cX6_passWays 1 = .ok (.istore_n 2, 1) := by decide +kernel
theorem dX6_passWays_2 : decode cX6_passWays 2 = .ok (.iload_n 2, 1) := by decide +kernel
theorem dX6_passWays_3 : decode cX6_passWays 3 = .ok (.aload_n 0, 1) := by decide +kernel
theorem dX6_passWays_4 : decode cX6_passWays 4 = .ok (.getfield 74, 3) := by decide +kernel
theorem dX6_passWays_7 : decode cX6_passWays 7 = .ok (.if_icmp .ge 40, 3) := by decide +kernel
theorem dX6_passWays_10 : decode cX6_passWays 10 = .ok (.aload_n 0, 1) := by decide +kernel
theorem dX6_passWays_11 : decode cX6_passWays 11 = .ok (.iload_n 1, 1) := by decide +kernel
theorem dX6_passWays_12 : decode cX6_passWays 12 = .ok (.iload_n 2, 1) := by decide +kernel
theorem dX6_passWays_13 : decode cX6_passWays 13 = .ok (.invokevirtual 91, 3) := by decide +kernel
theorem dX6_passWays_16 : decode cX6_passWays 16 = .ok (.ifCond .eq 25, 3) := by decide +kernel
theorem dX6_passWays_19 : decode cX6_passWays 19 = .ok (.aload_n 0, 1) := by decide +kernel
theorem dX6_passWays_20 : decode cX6_passWays 20 = .ok (.getfield 18, 3) := by decide +kernel
theorem dX6_passWays_23 : decode cX6_passWays 23 = .ok (.iload_n 1, 1) := by decide +kernel
theorem dX6_passWays_24 : decode cX6_passWays 24 = .ok (.aload_n 0, 1) := by decide +kernel
theorem dX6_passWays_25 : decode cX6_passWays 25 = .ok (.getfield 9, 3) := by decide +kernel
theorem dX6_passWays_28 : decode cX6_passWays 28 = .ok (.iload_n 2, 1) := by decide +kernel
theorem dX6_passWays_29 : decode cX6_passWays 29 = .ok (.iaload, 1) := by decide +kernel
theorem dX6_passWays_30 : decode cX6_passWays 30 = .ok (.iadd, 1) := by decide +kernel
theorem dX6_passWays_31 : decode cX6_passWays 31 = .ok (.dup2, 1) := by decide +kernel
theorem dX6_passWays_32 : decode cX6_passWays 32 = .ok (.laload, 1) := by decide +kernel
theorem dX6_passWays_33 : decode cX6_passWays 33 = .ok (.aload_n 0, 1) := by decide +kernel
theorem dX6_passWays_34 : decode cX6_passWays 34 = .ok (.getfield 18, 3) := by decide +kernel
theorem dX6_passWays_37 : decode cX6_passWays 37 = .ok (.iload_n 1, 1) := by decide +kernel
theorem dX6_passWays_38 : decode cX6_passWays 38 = .ok (.laload, 1) := by decide +kernel
theorem dX6_passWays_39 : decode cX6_passWays 39 = .ok (.ladd, 1) := by decide +kernel
theorem dX6_passWays_40 : decode cX6_passWays 40 = .ok (.lastore, 1) := by decide +kernel
theorem dX6_passWays_41 : decode cX6_passWays 41 = .ok (.iinc 2 1, 3) := by decide +kernel
theorem dX6_passWays_44 : decode cX6_passWays 44 = .ok (.goto (-42), 3) := by decide +kernel
theorem dX6_passWays_47 : decode cX6_passWays 47 = .ok (.return_, 1) := by decide +kernel
def bk_X6_passWays_0 (l : Launch) (g : Gm) (G : Nat → CT) (P : PT) : CT := (oPush (.int (0)) (oISt 2 (G 1)))
def bk_X6_passWays_1 (l : Launch) (g : Gm) (G : Nat → CT) (P : PT) : CT := (oILd 2 (oALd 0 (oGet [6] 7 (oCmp (fun x y => y ≤ x) (oVRet P) (oALd 0 (oILd 1 (oILd 2 (oCallV l g [(6, d_X6_goesOnward)] 3 (oIf (fun x => x = 0) (oInc 2 (1) (oGo (G 1))) (oALd 0 (oGet [6] 2 (oILd 1 (oALd 0 (oGet [6] 0 (oILd 2 (oIAL g (oBin (fun x y => x + y) (oDup2 (oJAL g (oALd 0 (oGet [6] 2 (oILd 1 (oJAL g (oLAdd (oJAS g (oInc 2 (1) (oGo (G 1))))))))))))))))))))))))))))
def bk_X6_passWays (l : Launch) (g : Gm) (b : Nat) (G : Nat → CT) (P : PT) : CT := match b with
  | 0 => bk_X6_passWays_0 l g G P
  | 1 => bk_X6_passWays_1 l g G P
  | _ => fun _ _ _ _ _ => False
def pc_X6_passWays (b : Nat) : Nat := match b with
  | 0 => 0
  | 1 => 2
  | _ => 0
set_option maxRecDepth 100000 in
theorem sb_X6_passWays_0 {p : Program} {l : Launch} {e : Env} {s : State} {m : MethodId} {args : Array Value} {below : List Frame} {meth : Method} {c : Code} {g : Gm} {h0 : Hp} {P : PT} {mc ms : Nat} (X : Cx g p s m args meth c (Adom h0 s.heap.size) cX6_passWays RX6 3) (hr : meth.sig.returnType = none) (hn : meth.name = "passWays") : SX g p l e s m args below meth c d_X6_passWays 3 mc ms h0 P (bk_X6_passWays_0 l g (fun b => GX g p l e s m args below meth c d_X6_passWays 3 mc ms h0 P (pc_X6_passWays b)) P) 0 := (s_iconst X dX6_passWays_0 rfl (s_istore_n X dX6_passWays_1 rfl (by decide) Sd.rf))
set_option maxRecDepth 100000 in
theorem sb_X6_passWays_1 {p : Program} {l : Launch} {e : Env} {s : State} {m : MethodId} {args : Array Value} {below : List Frame} {meth : Method} {c : Code} {g : Gm} {h0 : Hp} {P : PT} {mc ms : Nat} (X : Cx g p s m args meth c (Adom h0 s.heap.size) cX6_passWays RX6 3) (hr : meth.sig.returnType = none) (hn : meth.name = "passWays") : SX g p l e s m args below meth c d_X6_passWays 3 mc ms h0 P (bk_X6_passWays_1 l g (fun b => GX g p l e s m args below meth c d_X6_passWays 3 mc ms h0 P (pc_X6_passWays b)) P) 2 := (s_iload_n X dX6_passWays_2 rfl (s_aload_n X dX6_passWays_3 rfl (s_get X dX6_passWays_4 (mcn (⟨_, _, _, _, rfl, inU_X6, by decide, uw_119, rfl⟩) (mnl)) (s_icmp_ge X dX6_passWays_7 (by decide) (s_vret X hr dX6_passWays_47) (s_aload_n X dX6_passWays_10 rfl (s_iload_n X dX6_passWays_11 rfl (s_iload_n X dX6_passWays_12 rfl (s_callV X dX6_passWays_13 (mv (vok_V X rfl uw_533 uw_535 (UW_pr 12 rfl rfl) uw_5 ci_X6_goesOnward yok_X6_goesOnward ⟨Nat.le_of_ble_eq_true rfl, Nat.le_of_ble_eq_true rfl⟩) mv0) (s_if_eq X dX6_passWays_16 (by decide) (s_iinc X dX6_passWays_41 rfl (by decide) (s_goto X dX6_passWays_44 (by decide) Sd.rf)) (s_aload_n X dX6_passWays_19 rfl (s_get X dX6_passWays_20 (mcn (⟨_, _, _, _, rfl, inU_X6, by decide, uw_114, rfl⟩) (mnl)) (s_iload_n X dX6_passWays_23 rfl (s_aload_n X dX6_passWays_24 rfl (s_get X dX6_passWays_25 (mcn (⟨_, _, _, _, rfl, inU_X6, by decide, uw_112, rfl⟩) (mnl)) (s_iload_n X dX6_passWays_28 rfl (s_iaload X dX6_passWays_29 (s_iadd X dX6_passWays_30 (s_dup2 X dX6_passWays_31 (s_laload X dX6_passWays_32 (s_aload_n X dX6_passWays_33 rfl (s_get X dX6_passWays_34 (mcn (⟨_, _, _, _, rfl, inU_X6, by decide, uw_114, rfl⟩) (mnl)) (s_iload_n X dX6_passWays_37 rfl (s_laload X dX6_passWays_38 (s_ladd X dX6_passWays_39 (s_lastore X dX6_passWays_40 (s_iinc X dX6_passWays_41 rfl (by decide) (s_goto X dX6_passWays_44 (by decide) Sd.rf)))))))))))))))))))))))))))
set_option maxRecDepth 100000 in
theorem vc_X6_passWays {l : Launch} {g : Gm} {a0 : Nat} {a1 : Int32} {h : Hp} {mc ms : Nat} {P : PT} (H : ∀ G : Nat → CT, (∀ (b : Nat) (h : Hp) (cb sb : Nat) (ls : LocS) (st : List Value), bk_X6_passWays l g b G P h cb sb ls st → G b h cb sb ls st) → G 0 h mc ms [some (.ref a0), some (.int a1), none] []) : Run l g d_X6_passWays [.ref a0, .int a1] h mc ms P :=
  Run.of (d := d_X6_passWays) (by decide) (mcn rfl (mcn rfl (mnl))) (Nat.le_of_ble_eq_true rfl) (fun p e s m args below meth c X hr hn => H (fun b => GX g p l e s m args below meth c d_X6_passWays 3 mc ms h P (pc_X6_passWays b)) (fun b h1 cb sb ls st hb => match b, hb with
    | 0, hb => sb_X6_passWays_0 (p := p) (e := e) (below := below) X hr hn h1 cb sb ls st hb
    | 1, hb => sb_X6_passWays_1 (p := p) (e := e) (below := below) X hr hn h1 cb sb ls st hb
    | _ + 2, hb => hb.elim))
theorem dX6_goesOnward_0 : decode cX6_goesOnward 0 = .ok (.aload_n 0, 1) := by decide +kernel
theorem dX6_goesOnward_1 : decode cX6_goesOnward 1 = .ok (.getfield 28, 3) := by decide +kernel
theorem dX6_goesOnward_4 : decode cX6_goesOnward 4 = .ok (.iload_n 1, 1) := by decide +kernel
theorem dX6_goesOnward_5 : decode cX6_goesOnward 5 = .ok (.iaload, 1) := by decide +kernel
theorem dX6_goesOnward_6 : decode cX6_goesOnward 6 = .ok (.iconst 1, 1) := by decide +kernel
theorem dX6_goesOnward_7 : decode cX6_goesOnward 7 = .ok (.iload_n 2, 1) := by decide +kernel
theorem dX6_goesOnward_8 : decode cX6_goesOnward 8 = .ok (.ishl, 1) := by decide +kernel
theorem dX6_goesOnward_9 : decode cX6_goesOnward 9 = .ok (.iand, 1) := by decide +kernel
theorem dX6_goesOnward_10 : decode cX6_goesOnward 10 = .ok (.ifCond .eq 22, 3) := by decide +kernel
theorem dX6_goesOnward_13 : decode cX6_goesOnward 13 = .ok (.iload_n 1, 1) := by decide +kernel
theorem dX6_goesOnward_14 : decode cX6_goesOnward 14 = .ok (.aload_n 0, 1) := by decide +kernel
theorem dX6_goesOnward_15 : decode cX6_goesOnward 15 = .ok (.getfield 9, 3) := by decide +kernel
theorem dX6_goesOnward_18 : decode cX6_goesOnward 18 = .ok (.iload_n 2, 1) := by decide +kernel
theorem dX6_goesOnward_19 : decode cX6_goesOnward 19 = .ok (.iaload, 1) := by decide +kernel
theorem dX6_goesOnward_20 : decode cX6_goesOnward 20 = .ok (.iadd, 1) := by decide +kernel
theorem dX6_goesOnward_21 : decode cX6_goesOnward 21 = .ok (.aload_n 0, 1) := by decide +kernel
theorem dX6_goesOnward_22 : decode cX6_goesOnward 22 = .ok (.getfield 35, 3) := by decide +kernel
theorem dX6_goesOnward_25 : decode cX6_goesOnward 25 = .ok (.if_icmp .ge 7, 3) := by decide +kernel
theorem dX6_goesOnward_28 : decode cX6_goesOnward 28 = .ok (.iconst 1, 1) := by decide +kernel
theorem dX6_goesOnward_29 : decode cX6_goesOnward 29 = .ok (.goto 4, 3) := by decide +kernel
theorem dX6_goesOnward_32 : decode cX6_goesOnward 32 = .ok (.iconst 0, 1) := by decide +kernel
theorem dX6_goesOnward_33 : decode cX6_goesOnward 33 = .ok (.ireturn, 1) := by decide +kernel
def bk_X6_goesOnward_0 (l : Launch) (g : Gm) (G : Nat → CT) (P : PT) : CT := (oALd 0 (oGet [6] 5 (oILd 1 (oIAL g (oPush (.int (1)) (oILd 2 (oBin (fun x y => x <<< (y &&& 31)) (oBin (fun x y => x &&& y) (oIf (fun x => x = 0) (oPush (.int (0)) (oZRet P)) (oILd 1 (oALd 0 (oGet [6] 0 (oILd 2 (oIAL g (oBin (fun x y => x + y) (oALd 0 (oGet [6] 8 (oCmp (fun x y => y ≤ x) (oPush (.int (0)) (oZRet P)) (oPush (.int (1)) (oGo (oZRet P)))))))))))))))))))))
def bk_X6_goesOnward (l : Launch) (g : Gm) (b : Nat) (G : Nat → CT) (P : PT) : CT := match b with
  | 0 => bk_X6_goesOnward_0 l g G P
  | _ => fun _ _ _ _ _ => False
def pc_X6_goesOnward (b : Nat) : Nat := match b with
  | 0 => 0
  | _ => 0
set_option maxRecDepth 100000 in
theorem sb_X6_goesOnward_0 {p : Program} {l : Launch} {e : Env} {s : State} {m : MethodId} {args : Array Value} {below : List Frame} {meth : Method} {c : Code} {g : Gm} {h0 : Hp} {P : PT} {mc ms : Nat} (X : Cx g p s m args meth c (Adom h0 s.heap.size) cX6_goesOnward RX6 3) (hr : meth.sig.returnType = some .boolean) (hn : meth.name = "goesOnward") : SX g p l e s m args below meth c d_X6_goesOnward 3 mc ms h0 P (bk_X6_goesOnward_0 l g (fun b => GX g p l e s m args below meth c d_X6_goesOnward 3 mc ms h0 P (pc_X6_goesOnward b)) P) 0 := (s_aload_n X dX6_goesOnward_0 rfl (s_get X dX6_goesOnward_1 (mcn (⟨_, _, _, _, rfl, inU_X6, by decide, uw_117, rfl⟩) (mnl)) (s_iload_n X dX6_goesOnward_4 rfl (s_iaload X dX6_goesOnward_5 (s_iconst X dX6_goesOnward_6 rfl (s_iload_n X dX6_goesOnward_7 rfl (s_ishl X dX6_goesOnward_8 (s_iand X dX6_goesOnward_9 (s_if_eq X dX6_goesOnward_10 (by decide) (s_iconst X dX6_goesOnward_32 rfl (s_zret X hr dX6_goesOnward_33)) (s_iload_n X dX6_goesOnward_13 rfl (s_aload_n X dX6_goesOnward_14 rfl (s_get X dX6_goesOnward_15 (mcn (⟨_, _, _, _, rfl, inU_X6, by decide, uw_112, rfl⟩) (mnl)) (s_iload_n X dX6_goesOnward_18 rfl (s_iaload X dX6_goesOnward_19 (s_iadd X dX6_goesOnward_20 (s_aload_n X dX6_goesOnward_21 rfl (s_get X dX6_goesOnward_22 (mcn (⟨_, _, _, _, rfl, inU_X6, by decide, uw_120, rfl⟩) (mnl)) (s_icmp_ge X dX6_goesOnward_25 (by decide) (s_iconst X dX6_goesOnward_32 rfl (s_zret X hr dX6_goesOnward_33)) (s_iconst X dX6_goesOnward_28 rfl (s_goto X dX6_goesOnward_29 (by decide) (s_zret X hr dX6_goesOnward_33)))))))))))))))))))))
set_option maxRecDepth 100000 in
theorem vc_X6_goesOnward {l : Launch} {g : Gm} {a0 : Nat} {a1 : Int32} {a2 : Int32} {h : Hp} {mc ms : Nat} {P : PT} (H : ∀ G : Nat → CT, (∀ (b : Nat) (h : Hp) (cb sb : Nat) (ls : LocS) (st : List Value), bk_X6_goesOnward l g b G P h cb sb ls st → G b h cb sb ls st) → G 0 h mc ms [some (.ref a0), some (.int a1), some (.int a2)] []) : Run l g d_X6_goesOnward [.ref a0, .int a1, .int a2] h mc ms P :=
  Run.of (d := d_X6_goesOnward) (by decide) (mcn rfl (mcn rfl (mcn rfl (mnl)))) (Nat.le_of_ble_eq_true rfl) (fun p e s m args below meth c X hr hn => H (fun b => GX g p l e s m args below meth c d_X6_goesOnward 3 mc ms h P (pc_X6_goesOnward b)) (fun b h1 cb sb ls st hb => match b, hb with
    | 0, hb => sb_X6_goesOnward_0 (p := p) (e := e) (below := below) X hr hn h1 cb sb ls st hb
    | _ + 1, hb => hb.elim))
theorem dX6_turn_0 : decode cX6_turn 0 = .ok (.iconst 0, 1) := by decide +kernel
theorem dX6_turn_1 : decode cX6_turn 1 = .ok (.istore_n 2, 1) := by decide +kernel
theorem dX6_turn_2 : decode cX6_turn 2 = .ok (.iload_n 2, 1) := by decide +kernel
theorem dX6_turn_3 : decode cX6_turn 3 = .ok (.aload_n 0, 1) := by decide +kernel
theorem dX6_turn_4 : decode cX6_turn 4 = .ok (.getfield 74, 3) := by decide +kernel
theorem dX6_turn_7 : decode cX6_turn 7 = .ok (.if_icmp .ge 45, 3) := by decide +kernel
theorem dX6_turn_10 : decode cX6_turn 10 = .ok (.aload_n 0, 1) := by decide +kernel
theorem dX6_turn_11 : decode cX6_turn 11 = .ok (.getfield 15, 3) := by decide +kernel
theorem dX6_turn_14 : decode cX6_turn 14 = .ok (.iload_n 2, 1) := by decide +kernel
theorem dX6_turn_15 : decode cX6_turn 15 = .ok (.iaload, 1) := by decide +kernel
theorem dX6_turn_16 : decode cX6_turn 16 = .ok (.aload_n 1, 1) := by decide +kernel
theorem dX6_turn_17 : decode cX6_turn 17 = .ok (.getfield 77, 3) := by decide +kernel
theorem dX6_turn_20 : decode cX6_turn 20 = .ok (.iload_n 2, 1) := by decide +kernel
theorem dX6_turn_21 : decode cX6_turn 21 = .ok (.aaload, 1) := by decide +kernel
theorem dX6_turn_22 : decode cX6_turn 22 = .ok (.getfield 80, 3) := by decide +kernel
theorem dX6_turn_25 : decode cX6_turn 25 = .ok (.if_icmp .ge 14, 3) := by decide +kernel
theorem dX6_turn_28 : decode cX6_turn 28 = .ok (.aload_n 0, 1) := by decide +kernel
theorem dX6_turn_29 : decode cX6_turn 29 = .ok (.getfield 15, 3) := by decide +kernel
theorem dX6_turn_32 : decode cX6_turn 32 = .ok (.iload_n 2, 1) := by decide +kernel
theorem dX6_turn_33 : decode cX6_turn 33 = .ok (.dup2, 1) := by decide +kernel
theorem dX6_turn_34 : decode cX6_turn 34 = .ok (.iaload, 1) := by decide +kernel
theorem dX6_turn_35 : decode cX6_turn 35 = .ok (.iconst 1, 1) := by decide +kernel
theorem dX6_turn_36 : decode cX6_turn 36 = .ok (.iadd, 1) := by decide +kernel
theorem dX6_turn_37 : decode cX6_turn 37 = .ok (.iastore, 1) := by decide +kernel
theorem dX6_turn_38 : decode cX6_turn 38 = .ok (.return_, 1) := by decide +kernel
theorem dX6_turn_39 : decode cX6_turn 39 = .ok (.aload_n 0, 1) := by decide +kernel
theorem dX6_turn_40 : decode cX6_turn 40 = .ok (.getfield 15, 3) := by decide +kernel
theorem dX6_turn_43 : decode cX6_turn 43 = .ok (.iload_n 2, 1) := by decide +kernel
theorem dX6_turn_44 : decode cX6_turn 44 = .ok (.iconst 0, 1) := by decide +kernel
theorem dX6_turn_45 : decode cX6_turn 45 = .ok (.iastore, 1) := by decide +kernel
theorem dX6_turn_46 : decode cX6_turn 46 = .ok (.iinc 2 1, 3) := by decide +kernel
theorem dX6_turn_49 : decode cX6_turn 49 = .ok (.goto (-47), 3) := by decide +kernel
theorem dX6_turn_52 : decode cX6_turn 52 = .ok (.return_, 1) := by decide +kernel
def bk_X6_turn_0 (l : Launch) (g : Gm) (G : Nat → CT) (P : PT) : CT := (oPush (.int (0)) (oISt 2 (G 1)))
def bk_X6_turn_1 (l : Launch) (g : Gm) (G : Nat → CT) (P : PT) : CT := (oILd 2 (oALd 0 (oGet [6] 7 (oCmp (fun x y => y ≤ x) (oVRet P) (oALd 0 (oGet [6] 1 (oILd 2 (oIAL g (oALd 1 (oGet [2] 0 (oILd 2 (oRAL g 3 (oGet [4, 0, 1] 5 (oCmp (fun x y => y ≤ x) (oALd 0 (oGet [6] 1 (oILd 2 (oPush (.int (0)) (oIAS g (oInc 2 (1) (oGo (G 1)))))))) (oALd 0 (oGet [6] 1 (oILd 2 (oDup2 (oIAL g (oPush (.int (1)) (oBin (fun x y => x + y) (oIAS g (oVRet P)))))))))))))))))))))))
def bk_X6_turn (l : Launch) (g : Gm) (b : Nat) (G : Nat → CT) (P : PT) : CT := match b with
  | 0 => bk_X6_turn_0 l g G P
  | 1 => bk_X6_turn_1 l g G P
  | _ => fun _ _ _ _ _ => False
def pc_X6_turn (b : Nat) : Nat := match b with
  | 0 => 0
  | 1 => 2
  | _ => 0
set_option maxRecDepth 100000 in
theorem sb_X6_turn_0 {p : Program} {l : Launch} {e : Env} {s : State} {m : MethodId} {args : Array Value} {below : List Frame} {meth : Method} {c : Code} {g : Gm} {h0 : Hp} {P : PT} {mc ms : Nat} (X : Cx g p s m args meth c (Adom h0 s.heap.size) cX6_turn RX6 3) (hr : meth.sig.returnType = none) (hn : meth.name = "turn") : SX g p l e s m args below meth c d_X6_turn 3 mc ms h0 P (bk_X6_turn_0 l g (fun b => GX g p l e s m args below meth c d_X6_turn 3 mc ms h0 P (pc_X6_turn b)) P) 0 := (s_iconst X dX6_turn_0 rfl (s_istore_n X dX6_turn_1 rfl (by decide) Sd.rf))
set_option maxRecDepth 100000 in
theorem sb_X6_turn_1 {p : Program} {l : Launch} {e : Env} {s : State} {m : MethodId} {args : Array Value} {below : List Frame} {meth : Method} {c : Code} {g : Gm} {h0 : Hp} {P : PT} {mc ms : Nat} (X : Cx g p s m args meth c (Adom h0 s.heap.size) cX6_turn RX6 3) (hr : meth.sig.returnType = none) (hn : meth.name = "turn") : SX g p l e s m args below meth c d_X6_turn 3 mc ms h0 P (bk_X6_turn_1 l g (fun b => GX g p l e s m args below meth c d_X6_turn 3 mc ms h0 P (pc_X6_turn b)) P) 2 := (s_iload_n X dX6_turn_2 rfl (s_aload_n X dX6_turn_3 rfl (s_get X dX6_turn_4 (mcn (⟨_, _, _, _, rfl, inU_X6, by decide, uw_119, rfl⟩) (mnl)) (s_icmp_ge X dX6_turn_7 (by decide) (s_vret X hr dX6_turn_52) (s_aload_n X dX6_turn_10 rfl (s_get X dX6_turn_11 (mcn (⟨_, _, _, _, rfl, inU_X6, by decide, uw_113, rfl⟩) (mnl)) (s_iload_n X dX6_turn_14 rfl (s_iaload X dX6_turn_15 (s_aload_n X dX6_turn_16 rfl (s_get X dX6_turn_17 (mcn (⟨_, _, _, _, rfl, inU_X2, by decide, uw_81, rfl⟩) (mnl)) (s_iload_n X dX6_turn_20 rfl (s_aaload X (t := 3) (fun _ => rfl) rfl dX6_turn_21 (s_get X dX6_turn_22 (mcn (⟨_, _, _, _, rfl, inU_X4, by decide, uw_286, rfl⟩) (mcn (⟨_, _, _, _, rfl, inU_X0, by decide, uw_286, rfl⟩) (mcn (⟨_, _, _, _, rfl, inU_X1, by decide, uw_286, rfl⟩) (mnl)))) (s_icmp_ge X dX6_turn_25 (by decide) (s_aload_n X dX6_turn_39 rfl (s_get X dX6_turn_40 (mcn (⟨_, _, _, _, rfl, inU_X6, by decide, uw_113, rfl⟩) (mnl)) (s_iload_n X dX6_turn_43 rfl (s_iconst X dX6_turn_44 rfl (s_iastore X dX6_turn_45 (s_iinc X dX6_turn_46 rfl (by decide) (s_goto X dX6_turn_49 (by decide) Sd.rf))))))) (s_aload_n X dX6_turn_28 rfl (s_get X dX6_turn_29 (mcn (⟨_, _, _, _, rfl, inU_X6, by decide, uw_113, rfl⟩) (mnl)) (s_iload_n X dX6_turn_32 rfl (s_dup2 X dX6_turn_33 (s_iaload X dX6_turn_34 (s_iconst X dX6_turn_35 rfl (s_iadd X dX6_turn_36 (s_iastore X dX6_turn_37 (s_vret X hr dX6_turn_38)))))))))))))))))))))))
set_option maxRecDepth 100000 in
theorem vc_X6_turn {l : Launch} {g : Gm} {a0 : Nat} {a1 : Nat} {h : Hp} {mc ms : Nat} {P : PT} (H : ∀ G : Nat → CT, (∀ (b : Nat) (h : Hp) (cb sb : Nat) (ls : LocS) (st : List Value), bk_X6_turn l g b G P h cb sb ls st → G b h cb sb ls st) → G 0 h mc ms [some (.ref a0), some (.ref a1), none] []) : Run l g d_X6_turn [.ref a0, .ref a1] h mc ms P :=
  Run.of (d := d_X6_turn) (by decide) (mcn rfl (mcn rfl (mnl))) (Nat.le_of_ble_eq_true rfl) (fun p e s m args below meth c X hr hn => H (fun b => GX g p l e s m args below meth c d_X6_turn 3 mc ms h P (pc_X6_turn b)) (fun b h1 cb sb ls st hb => match b, hb with
    | 0, hb => sb_X6_turn_0 (p := p) (e := e) (below := below) X hr hn h1 cb sb ls st hb
    | 1, hb => sb_X6_turn_1 (p := p) (e := e) (below := below) X hr hn h1 cb sb ls st hb
    | _ + 2, hb => hb.elim))
theorem dX6_cutsFrom_0 : decode cX6_cutsFrom 0 = .ok (.iconst 0, 1) := by decide +kernel
theorem dX6_cutsFrom_1 : decode cX6_cutsFrom 1 = .ok (.istore_n 2, 1) := by decide +kernel
theorem dX6_cutsFrom_2 : decode cX6_cutsFrom 2 = .ok (.iconst 0, 1) := by decide +kernel
theorem dX6_cutsFrom_3 : decode cX6_cutsFrom 3 = .ok (.istore_n 3, 1) := by decide +kernel
theorem dX6_cutsFrom_4 : decode cX6_cutsFrom 4 = .ok (.iload_n 3, 1) := by decide +kernel
theorem dX6_cutsFrom_5 : decode cX6_cutsFrom 5 = .ok (.aload_n 0, 1) := by decide +kernel
theorem dX6_cutsFrom_6 : decode cX6_cutsFrom 6 = .ok (.getfield 35, 3) := by decide +kernel
theorem dX6_cutsFrom_9 : decode cX6_cutsFrom 9 = .ok (.if_icmp .ge 33, 3) := by decide +kernel
theorem dX6_cutsFrom_12 : decode cX6_cutsFrom 12 = .ok (.aload_n 0, 1) := by decide +kernel
theorem dX6_cutsFrom_13 : decode cX6_cutsFrom 13 = .ok (.getfield 18, 3) := by decide +kernel
theorem dX6_cutsFrom_16 : decode cX6_cutsFrom 16 = .ok (.iload_n 3, 1) := by decide +kernel
theorem dX6_cutsFrom_17 : decode cX6_cutsFrom 17 = .ok (.laload, 1) := by decide +kernel
theorem dX6_cutsFrom_18 : decode cX6_cutsFrom 18 = .ok (.lconst 0, 1) := by decide +kernel
theorem dX6_cutsFrom_19 : decode cX6_cutsFrom 19 = .ok (.lcmp, 1) := by decide +kernel
theorem dX6_cutsFrom_20 : decode cX6_cutsFrom 20 = .ok (.ifCond .le 16, 3) := by decide +kernel
theorem dX6_cutsFrom_23 : decode cX6_cutsFrom 23 = .ok (.aload_n 0, 1) := by decide +kernel
theorem dX6_cutsFrom_24 : decode cX6_cutsFrom 24 = .ok (.getfield 22, 3) := by decide +kernel
theorem dX6_cutsFrom_27 : decode cX6_cutsFrom 27 = .ok (.iload_n 3, 1) := by decide +kernel
theorem dX6_cutsFrom_28 : decode cX6_cutsFrom 28 = .ok (.iaload, 1) := by decide +kernel
theorem dX6_cutsFrom_29 : decode cX6_cutsFrom 29 = .ok (.iload_n 1, 1) := by decide +kernel
theorem dX6_cutsFrom_30 : decode cX6_cutsFrom 30 = .ok (.if_icmp .lt 6, 3) := by decide +kernel
theorem dX6_cutsFrom_33 : decode cX6_cutsFrom 33 = .ok (.iinc 2 1, 3) := by decide +kernel
theorem dX6_cutsFrom_36 : decode cX6_cutsFrom 36 = .ok (.iinc 3 1, 3) := by decide +kernel
theorem dX6_cutsFrom_39 : decode cX6_cutsFrom 39 = .ok (.goto (-35), 3) := by decide +kernel
theorem dX6_cutsFrom_42 : decode cX6_cutsFrom 42 = .ok (.iload_n 2, 1) := by decide +kernel
theorem dX6_cutsFrom_43 : decode cX6_cutsFrom 43 = .ok (.ireturn, 1) := by decide +kernel
def bk_X6_cutsFrom_0 (l : Launch) (g : Gm) (G : Nat → CT) (P : PT) : CT := (oPush (.int (0)) (oISt 2 (oPush (.int (0)) (oISt 3 (G 1)))))
def bk_X6_cutsFrom_1 (l : Launch) (g : Gm) (G : Nat → CT) (P : PT) : CT := (oILd 3 (oALd 0 (oGet [6] 8 (oCmp (fun x y => y ≤ x) (oILd 2 (oIRet P)) (oALd 0 (oGet [6] 2 (oILd 3 (oJAL g (oPush (.long 0) (oLCmp (oIf (fun x => x ≤ 0) (oInc 3 (1) (oGo (G 1))) (oALd 0 (oGet [6] 3 (oILd 3 (oIAL g (oILd 1 (oCmp (fun x y => x < y) (oInc 3 (1) (oGo (G 1))) (oInc 2 (1) (oInc 3 (1) (oGo (G 1)))))))))))))))))))))
def bk_X6_cutsFrom (l : Launch) (g : Gm) (b : Nat) (G : Nat → CT) (P : PT) : CT := match b with
  | 0 => bk_X6_cutsFrom_0 l g G P
  | 1 => bk_X6_cutsFrom_1 l g G P
  | _ => fun _ _ _ _ _ => False
def pc_X6_cutsFrom (b : Nat) : Nat := match b with
  | 0 => 0
  | 1 => 4
  | _ => 0
set_option maxRecDepth 100000 in
theorem sb_X6_cutsFrom_0 {p : Program} {l : Launch} {e : Env} {s : State} {m : MethodId} {args : Array Value} {below : List Frame} {meth : Method} {c : Code} {g : Gm} {h0 : Hp} {P : PT} {mc ms : Nat} (X : Cx g p s m args meth c (Adom h0 s.heap.size) cX6_cutsFrom RX6 4) (hr : meth.sig.returnType = some .int) (hn : meth.name = "cutsFrom") : SX g p l e s m args below meth c d_X6_cutsFrom 4 mc ms h0 P (bk_X6_cutsFrom_0 l g (fun b => GX g p l e s m args below meth c d_X6_cutsFrom 4 mc ms h0 P (pc_X6_cutsFrom b)) P) 0 := (s_iconst X dX6_cutsFrom_0 rfl (s_istore_n X dX6_cutsFrom_1 rfl (by decide) (s_iconst X dX6_cutsFrom_2 rfl (s_istore_n X dX6_cutsFrom_3 rfl (by decide) Sd.rf))))
set_option maxRecDepth 100000 in
theorem sb_X6_cutsFrom_1 {p : Program} {l : Launch} {e : Env} {s : State} {m : MethodId} {args : Array Value} {below : List Frame} {meth : Method} {c : Code} {g : Gm} {h0 : Hp} {P : PT} {mc ms : Nat} (X : Cx g p s m args meth c (Adom h0 s.heap.size) cX6_cutsFrom RX6 4) (hr : meth.sig.returnType = some .int) (hn : meth.name = "cutsFrom") : SX g p l e s m args below meth c d_X6_cutsFrom 4 mc ms h0 P (bk_X6_cutsFrom_1 l g (fun b => GX g p l e s m args below meth c d_X6_cutsFrom 4 mc ms h0 P (pc_X6_cutsFrom b)) P) 4 := (s_iload_n X dX6_cutsFrom_4 rfl (s_aload_n X dX6_cutsFrom_5 rfl (s_get X dX6_cutsFrom_6 (mcn (⟨_, _, _, _, rfl, inU_X6, by decide, uw_120, rfl⟩) (mnl)) (s_icmp_ge X dX6_cutsFrom_9 (by decide) (s_iload_n X dX6_cutsFrom_42 rfl (s_iret X hr dX6_cutsFrom_43)) (s_aload_n X dX6_cutsFrom_12 rfl (s_get X dX6_cutsFrom_13 (mcn (⟨_, _, _, _, rfl, inU_X6, by decide, uw_114, rfl⟩) (mnl)) (s_iload_n X dX6_cutsFrom_16 rfl (s_laload X dX6_cutsFrom_17 (s_lconst X dX6_cutsFrom_18 rfl (s_lcmp X dX6_cutsFrom_19 (s_if_le X dX6_cutsFrom_20 (by decide) (s_iinc X dX6_cutsFrom_36 rfl (by decide) (s_goto X dX6_cutsFrom_39 (by decide) Sd.rf)) (s_aload_n X dX6_cutsFrom_23 rfl (s_get X dX6_cutsFrom_24 (mcn (⟨_, _, _, _, rfl, inU_X6, by decide, uw_115, rfl⟩) (mnl)) (s_iload_n X dX6_cutsFrom_27 rfl (s_iaload X dX6_cutsFrom_28 (s_iload_n X dX6_cutsFrom_29 rfl (s_icmp_lt X dX6_cutsFrom_30 (by decide) (s_iinc X dX6_cutsFrom_36 rfl (by decide) (s_goto X dX6_cutsFrom_39 (by decide) Sd.rf)) (s_iinc X dX6_cutsFrom_33 rfl (by decide) (s_iinc X dX6_cutsFrom_36 rfl (by decide) (s_goto X dX6_cutsFrom_39 (by decide) Sd.rf))))))))))))))))))))
set_option maxRecDepth 100000 in
theorem vc_X6_cutsFrom {l : Launch} {g : Gm} {a0 : Nat} {a1 : Int32} {h : Hp} {mc ms : Nat} {P : PT} (H : ∀ G : Nat → CT, (∀ (b : Nat) (h : Hp) (cb sb : Nat) (ls : LocS) (st : List Value), bk_X6_cutsFrom l g b G P h cb sb ls st → G b h cb sb ls st) → G 0 h mc ms [some (.ref a0), some (.int a1), none, none] []) : Run l g d_X6_cutsFrom [.ref a0, .int a1] h mc ms P :=
  Run.of (d := d_X6_cutsFrom) (by decide) (mcn rfl (mcn rfl (mnl))) (Nat.le_of_ble_eq_true rfl) (fun p e s m args below meth c X hr hn => H (fun b => GX g p l e s m args below meth c d_X6_cutsFrom 4 mc ms h P (pc_X6_cutsFrom b)) (fun b h1 cb sb ls st hb => match b, hb with
    | 0, hb => sb_X6_cutsFrom_0 (p := p) (e := e) (below := below) X hr hn h1 cb sb ls st hb
    | 1, hb => sb_X6_cutsFrom_1 (p := p) (e := e) (below := below) X hr hn h1 cb sb ls st hb
    | _ + 2, hb => hb.elim))
theorem dX6_runsInAll_0 : decode cX6_runsInAll 0 = .ok (.aload_n 0, 1) := by decide +kernel
theorem dX6_runsInAll_1 : decode cX6_runsInAll 1 = .ok (.getfield 18, 3) := by decide +kernel
theorem dX6_runsInAll_4 : decode cX6_runsInAll 4 = .ok (.aload_n 0, 1) := by decide +kernel
theorem dX6_runsInAll_5 : decode cX6_runsInAll 5 = .ok (.getfield 35, 3) := by decide +kernel
theorem dX6_runsInAll_8 : decode cX6_runsInAll 8 = .ok (.iconst 1, 1) := by decide +kernel
theorem dX6_runsInAll_9 : decode cX6_runsInAll 9 = .ok (.isub, 1) := by decide +kernel
theorem dX6_runsInAll_10 : decode cX6_runsInAll 10 = .ok (.laload, 1) := by decide +kernel
theorem dX6_runsInAll_11 : decode cX6_runsInAll 11 = .ok (.lreturn, 1) := by decide +kernel
def bk_X6_runsInAll_0 (l : Launch) (g : Gm) (G : Nat → CT) (P : PT) : CT := (oALd 0 (oGet [6] 2 (oALd 0 (oGet [6] 8 (oPush (.int (1)) (oBin (fun x y => x - y) (oJAL g (oJRet P))))))))
def bk_X6_runsInAll (l : Launch) (g : Gm) (b : Nat) (G : Nat → CT) (P : PT) : CT := match b with
  | 0 => bk_X6_runsInAll_0 l g G P
  | _ => fun _ _ _ _ _ => False
def pc_X6_runsInAll (b : Nat) : Nat := match b with
  | 0 => 0
  | _ => 0
set_option maxRecDepth 100000 in
theorem sb_X6_runsInAll_0 {p : Program} {l : Launch} {e : Env} {s : State} {m : MethodId} {args : Array Value} {below : List Frame} {meth : Method} {c : Code} {g : Gm} {h0 : Hp} {P : PT} {mc ms : Nat} (X : Cx g p s m args meth c (Adom h0 s.heap.size) cX6_runsInAll RX6 1) (hr : meth.sig.returnType = some .long) (hn : meth.name = "runsInAll") : SX g p l e s m args below meth c d_X6_runsInAll 1 mc ms h0 P (bk_X6_runsInAll_0 l g (fun b => GX g p l e s m args below meth c d_X6_runsInAll 1 mc ms h0 P (pc_X6_runsInAll b)) P) 0 := (s_aload_n X dX6_runsInAll_0 rfl (s_get X dX6_runsInAll_1 (mcn (⟨_, _, _, _, rfl, inU_X6, by decide, uw_114, rfl⟩) (mnl)) (s_aload_n X dX6_runsInAll_4 rfl (s_get X dX6_runsInAll_5 (mcn (⟨_, _, _, _, rfl, inU_X6, by decide, uw_120, rfl⟩) (mnl)) (s_iconst X dX6_runsInAll_8 rfl (s_isub X dX6_runsInAll_9 (s_laload X dX6_runsInAll_10 (s_jret X hr dX6_runsInAll_11))))))))
set_option maxRecDepth 100000 in
theorem vc_X6_runsInAll {l : Launch} {g : Gm} {a0 : Nat} {h : Hp} {mc ms : Nat} {P : PT} (H : ∀ G : Nat → CT, (∀ (b : Nat) (h : Hp) (cb sb : Nat) (ls : LocS) (st : List Value), bk_X6_runsInAll l g b G P h cb sb ls st → G b h cb sb ls st) → G 0 h mc ms [some (.ref a0)] []) : Run l g d_X6_runsInAll [.ref a0] h mc ms P :=
  Run.of (d := d_X6_runsInAll) (by decide) (mcn rfl (mnl)) (Nat.le_of_ble_eq_true rfl) (fun p e s m args below meth c X hr hn => H (fun b => GX g p l e s m args below meth c d_X6_runsInAll 1 mc ms h P (pc_X6_runsInAll b)) (fun b h1 cb sb ls st hb => match b, hb with
    | 0, hb => sb_X6_runsInAll_0 (p := p) (e := e) (below := below) X hr hn h1 cb sb ls st hb
    | _ + 1, hb => hb.elim))
theorem dX6_fewestOf_0 : decode cX6_fewestOf 0 = .ok (.bipush (-9), 2) := by decide +kernel
theorem dX6_fewestOf_2 : decode cX6_fewestOf 2 = .ok (.istore_n 2, 1) := by decide +kernel
theorem dX6_fewestOf_3 : decode cX6_fewestOf 3 = .ok (.iconst 0, 1) := by decide +kernel
theorem dX6_fewestOf_4 : decode cX6_fewestOf 4 = .ok (.istore_n 3, 1) := by decide +kernel
theorem dX6_fewestOf_5 : decode cX6_fewestOf 5 = .ok (.iload_n 3, 1) := by decide +kernel
theorem dX6_fewestOf_6 : decode cX6_fewestOf 6 = .ok (.aload_n 0, 1) := by decide +kernel
theorem dX6_fewestOf_7 : decode cX6_fewestOf 7 = .ok (.getfield 35, 3) := by decide +kernel
theorem dX6_fewestOf_10 : decode cX6_fewestOf 10 = .ok (.if_icmp .ge 53, 3) := by decide +kernel
theorem dX6_fewestOf_13 : decode cX6_fewestOf 13 = .ok (.aload_n 0, 1) := by decide +kernel
theorem dX6_fewestOf_14 : decode cX6_fewestOf 14 = .ok (.getfield 18, 3) := by decide +kernel
theorem dX6_fewestOf_17 : decode cX6_fewestOf 17 = .ok (.iload_n 3, 1) := by decide +kernel
theorem dX6_fewestOf_18 : decode cX6_fewestOf 18 = .ok (.laload, 1) := by decide +kernel
theorem dX6_fewestOf_19 : decode cX6_fewestOf 19 = .ok (.lconst 0, 1) := by decide +kernel
theorem dX6_fewestOf_20 : decode cX6_fewestOf 20 = .ok (.lcmp, 1) := by decide +kernel
theorem dX6_fewestOf_21 : decode cX6_fewestOf 21 = .ok (.ifCond .le 36, 3) := by decide +kernel
theorem dX6_fewestOf_24 : decode cX6_fewestOf 24 = .ok (.aload_n 0, 1) := by decide +kernel
theorem dX6_fewestOf_25 : decode cX6_fewestOf 25 = .ok (.getfield 22, 3) := by decide +kernel
theorem dX6_fewestOf_28 : decode cX6_fewestOf 28 = .ok (.iload_n 3, 1) := by decide +kernel
theorem dX6_fewestOf_29 : decode cX6_fewestOf 29 = .ok (.iaload, 1) := by decide +kernel
theorem dX6_fewestOf_30 : decode cX6_fewestOf 30 = .ok (.iload_n 1, 1) := by decide +kernel
theorem dX6_fewestOf_31 : decode cX6_fewestOf 31 = .ok (.if_icmp .ne 26, 3) := by decide +kernel
theorem dX6_fewestOf_34 : decode cX6_fewestOf 34 = .ok (.iload_n 2, 1) := by decide +kernel
theorem dX6_fewestOf_35 : decode cX6_fewestOf 35 = .ok (.bipush (-9), 2) := by decide +kernel
theorem dX6_fewestOf_37 : decode cX6_fewestOf 37 = .ok (.if_icmp .eq 13, 3) := by decide +kernel
theorem dX6_fewestOf_40 : decode cX6_fewestOf 40 = .ok (.aload_n 0, 1) := by decide +kernel
theorem dX6_fewestOf_41 : decode cX6_fewestOf 41 = .ok (.getfield 25, 3) := by decide +kernel
theorem dX6_fewestOf_44 : decode cX6_fewestOf 44 = .ok (.iload_n 3, 1) := by decide +kernel
theorem dX6_fewestOf_45 : decode cX6_fewestOf 45 = .ok (.iaload, 1) := by decide +kernel
theorem dX6_fewestOf_46 : decode cX6_fewestOf 46 = .ok (.iload_n 2, 1) := by decide +kernel
theorem dX6_fewestOf_47 : decode cX6_fewestOf 47 = .ok (.if_icmp .ge 10, 3) := by decide +kernel
theorem dX6_fewestOf_50 : decode cX6_fewestOf 50 = .ok (.aload_n 0, 1) := by decide +kernel
theorem dX6_fewestOf_51 : decode cX6_fewestOf 51 = .ok (.getfield 25, 3) := by decide +kernel
theorem dX6_fewestOf_54 : decode cX6_fewestOf 54 = .ok (.iload_n 3, 1) := by decide +kernel
theorem dX6_fewestOf_55 : decode cX6_fewestOf 55 = .ok (.iaload, 1) := by decide +kernel
theorem dX6_fewestOf_56 : decode cX6_fewestOf 56 = .ok (.istore_n 2, 1) := by decide +kernel
theorem dX6_fewestOf_57 : decode cX6_fewestOf 57 = .ok (.iinc 3 1, 3) := by decide +kernel
theorem dX6_fewestOf_60 : decode cX6_fewestOf 60 = .ok (.goto (-55), 3) := by decide +kernel
theorem dX6_fewestOf_63 : decode cX6_fewestOf 63 = .ok (.iload_n 2, 1) := by decide +kernel
theorem dX6_fewestOf_64 : decode cX6_fewestOf 64 = .ok (.ireturn, 1) := by decide +kernel
def bk_X6_fewestOf_0 (l : Launch) (g : Gm) (G : Nat → CT) (P : PT) : CT := (oPush (.int (-9)) (oISt 2 (oPush (.int (0)) (oISt 3 (G 1)))))
def bk_X6_fewestOf_1 (l : Launch) (g : Gm) (G : Nat → CT) (P : PT) : CT := (oILd 3 (oALd 0 (oGet [6] 8 (oCmp (fun x y => y ≤ x) (oILd 2 (oIRet P)) (oALd 0 (oGet [6] 2 (oILd 3 (oJAL g (oPush (.long 0) (oLCmp (oIf (fun x => x ≤ 0) (oInc 3 (1) (oGo (G 1))) (oALd 0 (oGet [6] 3 (oILd 3 (oIAL g (oILd 1 (oCmp (fun x y => x = y) (oILd 2 (oPush (.int (-9)) (oCmp (fun x y => x = y) (G 2) (oALd 0 (oGet [6] 4 (oILd 3 (oIAL g (oILd 2 (oCmp (fun x y => y ≤ x) (oInc 3 (1) (oGo (G 1))) (G 2)))))))))) (oInc 3 (1) (oGo (G 1))))))))))))))))))))
def bk_X6_fewestOf_2 (l : Launch) (g : Gm) (G : Nat → CT) (P : PT) : CT := (oALd 0 (oGet [6] 4 (oILd 3 (oIAL g (oISt 2 (oInc 3 (1) (oGo (G 1))))))))
def bk_X6_fewestOf (l : Launch) (g : Gm) (b : Nat) (G : Nat → CT) (P : PT) : CT := match b with
  | 0 => bk_X6_fewestOf_0 l g G P
  | 1 => bk_X6_fewestOf_1 l g G P
  | 2 => bk_X6_fewestOf_2 l g G P
  | _ => fun _ _ _ _ _ => False
def pc_X6_fewestOf (b : Nat) : Nat := match b with
  | 0 => 0
  | 1 => 5
  | 2 => 50
  | _ => 0
set_option maxRecDepth 100000 in
theorem sb_X6_fewestOf_0 {p : Program} {l : Launch} {e : Env} {s : State} {m : MethodId} {args : Array Value} {below : List Frame} {meth : Method} {c : Code} {g : Gm} {h0 : Hp} {P : PT} {mc ms : Nat} (X : Cx g p s m args meth c (Adom h0 s.heap.size) cX6_fewestOf RX6 4) (hr : meth.sig.returnType = some .int) (hn : meth.name = "fewestOf") : SX g p l e s m args below meth c d_X6_fewestOf 4 mc ms h0 P (bk_X6_fewestOf_0 l g (fun b => GX g p l e s m args below meth c d_X6_fewestOf 4 mc ms h0 P (pc_X6_fewestOf b)) P) 0 := (s_bipush X dX6_fewestOf_0 rfl (s_istore_n X dX6_fewestOf_2 rfl (by decide) (s_iconst X dX6_fewestOf_3 rfl (s_istore_n X dX6_fewestOf_4 rfl (by decide) Sd.rf))))
set_option maxRecDepth 100000 in
theorem sb_X6_fewestOf_1 {p : Program} {l : Launch} {e : Env} {s : State} {m : MethodId} {args : Array Value} {below : List Frame} {meth : Method} {c : Code} {g : Gm} {h0 : Hp} {P : PT} {mc ms : Nat} (X : Cx g p s m args meth c (Adom h0 s.heap.size) cX6_fewestOf RX6 4) (hr : meth.sig.returnType = some .int) (hn : meth.name = "fewestOf") : SX g p l e s m args below meth c d_X6_fewestOf 4 mc ms h0 P (bk_X6_fewestOf_1 l g (fun b => GX g p l e s m args below meth c d_X6_fewestOf 4 mc ms h0 P (pc_X6_fewestOf b)) P) 5 := (s_iload_n X dX6_fewestOf_5 rfl (s_aload_n X dX6_fewestOf_6 rfl (s_get X dX6_fewestOf_7 (mcn (⟨_, _, _, _, rfl, inU_X6, by decide, uw_120, rfl⟩) (mnl)) (s_icmp_ge X dX6_fewestOf_10 (by decide) (s_iload_n X dX6_fewestOf_63 rfl (s_iret X hr dX6_fewestOf_64)) (s_aload_n X dX6_fewestOf_13 rfl (s_get X dX6_fewestOf_14 (mcn (⟨_, _, _, _, rfl, inU_X6, by decide, uw_114, rfl⟩) (mnl)) (s_iload_n X dX6_fewestOf_17 rfl (s_laload X dX6_fewestOf_18 (s_lconst X dX6_fewestOf_19 rfl (s_lcmp X dX6_fewestOf_20 (s_if_le X dX6_fewestOf_21 (by decide) (s_iinc X dX6_fewestOf_57 rfl (by decide) (s_goto X dX6_fewestOf_60 (by decide) Sd.rf)) (s_aload_n X dX6_fewestOf_24 rfl (s_get X dX6_fewestOf_25 (mcn (⟨_, _, _, _, rfl, inU_X6, by decide, uw_115, rfl⟩) (mnl)) (s_iload_n X dX6_fewestOf_28 rfl (s_iaload X dX6_fewestOf_29 (s_iload_n X dX6_fewestOf_30 rfl (s_icmp_ne X dX6_fewestOf_31 (by decide) (s_iinc X dX6_fewestOf_57 rfl (by decide) (s_goto X dX6_fewestOf_60 (by decide) Sd.rf)) (s_iload_n X dX6_fewestOf_34 rfl (s_bipush X dX6_fewestOf_35 rfl (s_icmp_eq X dX6_fewestOf_37 (by decide) Sd.rf (s_aload_n X dX6_fewestOf_40 rfl (s_get X dX6_fewestOf_41 (mcn (⟨_, _, _, _, rfl, inU_X6, by decide, uw_116, rfl⟩) (mnl)) (s_iload_n X dX6_fewestOf_44 rfl (s_iaload X dX6_fewestOf_45 (s_iload_n X dX6_fewestOf_46 rfl (s_icmp_ge X dX6_fewestOf_47 (by decide) (s_iinc X dX6_fewestOf_57 rfl (by decide) (s_goto X dX6_fewestOf_60 (by decide) Sd.rf)) Sd.rf))))))))))))))))))))))))))
set_option maxRecDepth 100000 in
theorem sb_X6_fewestOf_2 {p : Program} {l : Launch} {e : Env} {s : State} {m : MethodId} {args : Array Value} {below : List Frame} {meth : Method} {c : Code} {g : Gm} {h0 : Hp} {P : PT} {mc ms : Nat} (X : Cx g p s m args meth c (Adom h0 s.heap.size) cX6_fewestOf RX6 4) (hr : meth.sig.returnType = some .int) (hn : meth.name = "fewestOf") : SX g p l e s m args below meth c d_X6_fewestOf 4 mc ms h0 P (bk_X6_fewestOf_2 l g (fun b => GX g p l e s m args below meth c d_X6_fewestOf 4 mc ms h0 P (pc_X6_fewestOf b)) P) 50 := (s_aload_n X dX6_fewestOf_50 rfl (s_get X dX6_fewestOf_51 (mcn (⟨_, _, _, _, rfl, inU_X6, by decide, uw_116, rfl⟩) (mnl)) (s_iload_n X dX6_fewestOf_54 rfl (s_iaload X dX6_fewestOf_55 (s_istore_n X dX6_fewestOf_56 rfl (by decide) (s_iinc X dX6_fewestOf_57 rfl (by decide) (s_goto X dX6_fewestOf_60 (by decide) Sd.rf)))))))
set_option maxRecDepth 100000 in
theorem vc_X6_fewestOf {l : Launch} {g : Gm} {a0 : Nat} {a1 : Int32} {h : Hp} {mc ms : Nat} {P : PT} (H : ∀ G : Nat → CT, (∀ (b : Nat) (h : Hp) (cb sb : Nat) (ls : LocS) (st : List Value), bk_X6_fewestOf l g b G P h cb sb ls st → G b h cb sb ls st) → G 0 h mc ms [some (.ref a0), some (.int a1), none, none] []) : Run l g d_X6_fewestOf [.ref a0, .int a1] h mc ms P :=
  Run.of (d := d_X6_fewestOf) (by decide) (mcn rfl (mcn rfl (mnl))) (Nat.le_of_ble_eq_true rfl) (fun p e s m args below meth c X hr hn => H (fun b => GX g p l e s m args below meth c d_X6_fewestOf 4 mc ms h P (pc_X6_fewestOf b)) (fun b h1 cb sb ls st hb => match b, hb with
    | 0, hb => sb_X6_fewestOf_0 (p := p) (e := e) (below := below) X hr hn h1 cb sb ls st hb
    | 1, hb => sb_X6_fewestOf_1 (p := p) (e := e) (below := below) X hr hn h1 cb sb ls st hb
    | 2, hb => sb_X6_fewestOf_2 (p := p) (e := e) (below := below) X hr hn h1 cb sb ls st hb
    | _ + 3, hb => hb.elim))
theorem dX6_canGoAround_0 : decode cX6_canGoAround 0 = .ok (.iconst 0, 1) := by decide +kernel
theorem dX6_canGoAround_1 : decode cX6_canGoAround 1 = .ok (.istore_n 2, 1) := by decide +kernel
theorem dX6_canGoAround_2 : decode cX6_canGoAround 2 = .ok (.iload_n 2, 1) := by decide +kernel
theorem dX6_canGoAround_3 : decode cX6_canGoAround 3 = .ok (.aload_n 0, 1) := by decide +kernel
theorem dX6_canGoAround_4 : decode cX6_canGoAround 4 = .ok (.getfield 35, 3) := by decide +kernel
theorem dX6_canGoAround_7 : decode cX6_canGoAround 7 = .ok (.if_icmp .ge 16, 3) := by decide +kernel
theorem dX6_canGoAround_10 : decode cX6_canGoAround 10 = .ok (.aload_n 0, 1) := by decide +kernel
theorem dX6_canGoAround_11 : decode cX6_canGoAround 11 = .ok (.getfield 31, 3) := by decide +kernel
theorem dX6_canGoAround_14 : decode cX6_canGoAround 14 = .ok (.iload_n 2, 1) := by decide +kernel
theorem dX6_canGoAround_15 : decode cX6_canGoAround 15 = .ok (.iconst 0, 1) := by decide +kernel
theorem dX6_canGoAround_16 : decode cX6_canGoAround 16 = .ok (.bastore, 1) := by decide +kernel
theorem dX6_canGoAround_17 : decode cX6_canGoAround 17 = .ok (.iinc 2 1, 3) := by decide +kernel
theorem dX6_canGoAround_20 : decode cX6_canGoAround 20 = .ok (.goto (-18), 3) := by decide +kernel
theorem dX6_canGoAround_23 : decode cX6_canGoAround 23 = .ok (.aload_n 0, 1) := by decide +kernel
theorem dX6_canGoAround_24 : decode cX6_canGoAround 24 = .ok (.getfield 31, 3) := by decide +kernel
theorem dX6_canGoAround_27 : decode cX6_canGoAround 27 = .ok (.iconst 0, 1) := by decide +kernel
theorem dX6_canGoAround_28 : decode cX6_canGoAround 28 = .ok (.aload_n 0, 1) := by decide +kernel
theorem dX6_canGoAround_29 : decode cX6_canGoAround 29 = .ok (.getfield 22, 3) := by decide +kernel
theorem dX6_canGoAround_32 : decode cX6_canGoAround 32 = .ok (.iconst 0, 1) := by decide +kernel
theorem dX6_canGoAround_33 : decode cX6_canGoAround 33 = .ok (.iaload, 1) := by decide +kernel
theorem dX6_canGoAround_34 : decode cX6_canGoAround 34 = .ok (.iload_n 1, 1) := by decide +kernel
theorem dX6_canGoAround_35 : decode cX6_canGoAround 35 = .ok (.if_icmp .eq 7, 3) := by decide +kernel
theorem dX6_canGoAround_38 : decode cX6_canGoAround 38 = .ok (.iconst 1, 1) := by decide +kernel
theorem dX6_canGoAround_39 : decode cX6_canGoAround 39 = .ok (.goto 4, 3) := by decide +kernel
theorem dX6_canGoAround_42 : decode cX6_canGoAround 42 = .ok (.iconst 0, 1) := by decide +kernel
theorem dX6_canGoAround_43 : decode cX6_canGoAround 43 = .ok (.bastore, 1) := by decide +kernel
theorem dX6_canGoAround_44 : decode cX6_canGoAround 44 = .ok (.iconst 0, 1) := by decide +kernel
theorem dX6_canGoAround_45 : decode cX6_canGoAround 45 = .ok (.istore_n 2, 1) := by decide +kernel
theorem dX6_canGoAround_46 : decode cX6_canGoAround 46 = .ok (.iload_n 2, 1) := by decide +kernel
theorem dX6_canGoAround_47 : decode cX6_canGoAround 47 = .ok (.aload_n 0, 1) := by decide +kernel
theorem dX6_canGoAround_48 : decode cX6_canGoAround 48 = .ok (.getfield 35, 3) := by decide +kernel
theorem dX6_canGoAround_51 : decode cX6_canGoAround 51 = .ok (.if_icmp .ge 24, 3) := by decide +kernel
theorem dX6_canGoAround_54 : decode cX6_canGoAround 54 = .ok (.aload_n 0, 1) := by decide +kernel
theorem dX6_canGoAround_55 : decode cX6_canGoAround 55 = .ok (.getfield 31, 3) := by decide +kernel
theorem dX6_canGoAround_58 : decode cX6_canGoAround 58 = .ok (.iload_n 2, 1) := by decide +kernel
theorem dX6_canGoAround_59 : decode cX6_canGoAround 59 = .ok (.baload, 1) := by decide +kernel
theorem dX6_canGoAround_60 : decode cX6_canGoAround 60 = .ok (.ifCond .eq 9, 3) := by decide +kernel
theorem dX6_canGoAround_63 : decode cX6_canGoAround 63 = .ok (.aload_n 0, 1) := by decide +kernel
theorem dX6_canGoAround_64 : decode cX6_canGoAround 64 = .ok (.iload_n 2, 1) := by decide +kernel
theorem dX6_canGoAround_65 : decode cX6_canGoAround 65 = .ok (.iload_n 1, 1) := by decide +kernel
theorem dX6_canGoAround_66 : decode cX6_canGoAround 66 = .ok (.invokevirtual 95, 3) := by decide +kernel
theorem dX6_canGoAround_69 : decode cX6_canGoAround 69 = .ok (.iinc 2 1, 3) := by decide +kernel
theorem dX6_canGoAround_72 : decode cX6_canGoAround 72 = .ok (.goto (-26), 3) := by decide +kernel
theorem dX6_canGoAround_75 : decode cX6_canGoAround 75 = .ok (.aload_n 0, 1) := by decide +kernel
theorem dX6_canGoAround_76 : decode cX6_canGoAround 76 = .ok (.getfield 31, 3) := by decide +kernel
theorem dX6_canGoAround_79 : decode cX6_canGoAround 79 = .ok (.aload_n 0, 1) := by decide +kernel
theorem dX6_canGoAround_80 : decode cX6_canGoAround 80 = .ok (.getfield 35, 3) := by decide +kernel
theorem dX6_canGoAround_83 : decode cX6_canGoAround 83 = .ok (.iconst 1, 1) := by decide +kernel
theorem dX6_canGoAround_84 : decode cX6_canGoAround 84 = .ok (.isub, 1) := by decide +kernel
theorem dX6_canGoAround_85 : decode cX6_canGoAround 85 = .ok (.baload, 1) := by decide +kernel
theorem dX6_canGoAround_86 : decode cX6_canGoAround 86 = .ok (.ireturn, 1) := by decide +kernel
def bk_X6_canGoAround_0 (l : Launch) (g : Gm) (G : Nat → CT) (P : PT) : CT := (oPush (.int (0)) (oISt 2 (G 1)))
def bk_X6_canGoAround_1 (l : Launch) (g : Gm) (G : Nat → CT) (P : PT) : CT := (oILd 2 (oALd 0 (oGet [6] 8 (oCmp (fun x y => y ≤ x) (oALd 0 (oGet [6] 6 (oPush (.int (0)) (oALd 0 (oGet [6] 3 (oPush (.int (0)) (oIAL g (oILd 1 (oCmp (fun x y => x = y) (oPush (.int (0)) (G 2)) (oPush (.int (1)) (oGo (G 2)))))))))))) (oALd 0 (oGet [6] 6 (oILd 2 (oPush (.int (0)) (oZAS g (oInc 2 (1) (oGo (G 1))))))))))))
def bk_X6_canGoAround_2 (l : Launch) (g : Gm) (G : Nat → CT) (P : PT) : CT := (oZAS g (oPush (.int (0)) (oISt 2 (G 3))))
def bk_X6_canGoAround_3 (l : Launch) (g : Gm) (G : Nat → CT) (P : PT) : CT := (oILd 2 (oALd 0 (oGet [6] 8 (oCmp (fun x y => y ≤ x) (oALd 0 (oGet [6] 6 (oALd 0 (oGet [6] 8 (oPush (.int (1)) (oBin (fun x y => x - y) (oZAL g (oZRet P)))))))) (oALd 0 (oGet [6] 6 (oILd 2 (oZAL g (oIf (fun x => x = 0) (oInc 2 (1) (oGo (G 3))) (oALd 0 (oILd 2 (oILd 1 (oCallV l g [(6, d_X6_passAround)] 3 (oInc 2 (1) (oGo (G 3))))))))))))))))
def bk_X6_canGoAround (l : Launch) (g : Gm) (b : Nat) (G : Nat → CT) (P : PT) : CT := match b with
  | 0 => bk_X6_canGoAround_0 l g G P
  | 1 => bk_X6_canGoAround_1 l g G P
  | 2 => bk_X6_canGoAround_2 l g G P
  | 3 => bk_X6_canGoAround_3 l g G P
  | _ => fun _ _ _ _ _ => False
def pc_X6_canGoAround (b : Nat) : Nat := match b with
  | 0 => 0
  | 1 => 2
  | 2 => 43
  | 3 => 46
  | _ => 0
set_option maxRecDepth 100000 in
theorem sb_X6_canGoAround_0 {p : Program} {l : Launch} {e : Env} {s : State} {m : MethodId} {args : Array Value} {below : List Frame} {meth : Method} {c : Code} {g : Gm} {h0 : Hp} {P : PT} {mc ms : Nat} (X : Cx g p s m args meth c (Adom h0 s.heap.size) cX6_canGoAround RX6 3) (hr : meth.sig.returnType = some .boolean) (hn : meth.name = "canGoAround") : SX g p l e s m args below meth c d_X6_canGoAround 3 mc ms h0 P (bk_X6_canGoAround_0 l g (fun b => GX g p l e s m args below meth c d_X6_canGoAround 3 mc ms h0 P (pc_X6_canGoAround b)) P) 0 := (s_iconst X dX6_canGoAround_0 rfl (s_istore_n X dX6_canGoAround_1 rfl (by decide) Sd.rf))
set_option maxRecDepth 100000 in
theorem sb_X6_canGoAround_1 {p : Program} {l : Launch} {e : Env} {s : State} {m : MethodId} {args : Array Value} {below : List Frame} {meth : Method} {c : Code} {g : Gm} {h0 : Hp} {P : PT} {mc ms : Nat} (X : Cx g p s m args meth c (Adom h0 s.heap.size) cX6_canGoAround RX6 3) (hr : meth.sig.returnType = some .boolean) (hn : meth.name = "canGoAround") : SX g p l e s m args below meth c d_X6_canGoAround 3 mc ms h0 P (bk_X6_canGoAround_1 l g (fun b => GX g p l e s m args below meth c d_X6_canGoAround 3 mc ms h0 P (pc_X6_canGoAround b)) P) 2 := (s_iload_n X dX6_canGoAround_2 rfl (s_aload_n X dX6_canGoAround_3 rfl (s_get X dX6_canGoAround_4 (mcn (⟨_, _, _, _, rfl, inU_X6, by decide, uw_120, rfl⟩) (mnl)) (s_icmp_ge X dX6_canGoAround_7 (by decide) (s_aload_n X dX6_canGoAround_23 rfl (s_get X dX6_canGoAround_24 (mcn (⟨_, _, _, _, rfl, inU_X6, by decide, uw_118, rfl⟩) (mnl)) (s_iconst X dX6_canGoAround_27 rfl (s_aload_n X dX6_canGoAround_28 rfl (s_get X dX6_canGoAround_29 (mcn (⟨_, _, _, _, rfl, inU_X6, by decide, uw_115, rfl⟩) (mnl)) (s_iconst X dX6_canGoAround_32 rfl (s_iaload X dX6_canGoAround_33 (s_iload_n X dX6_canGoAround_34 rfl (s_icmp_eq X dX6_canGoAround_35 (by decide) (s_iconst X dX6_canGoAround_42 rfl Sd.rf) (s_iconst X dX6_canGoAround_38 rfl (s_goto X dX6_canGoAround_39 (by decide) Sd.rf))))))))))) (s_aload_n X dX6_canGoAround_10 rfl (s_get X dX6_canGoAround_11 (mcn (⟨_, _, _, _, rfl, inU_X6, by decide, uw_118, rfl⟩) (mnl)) (s_iload_n X dX6_canGoAround_14 rfl (s_iconst X dX6_canGoAround_15 rfl (s_zastore X dX6_canGoAround_16 (s_iinc X dX6_canGoAround_17 rfl (by decide) (s_goto X dX6_canGoAround_20 (by decide) Sd.rf)))))))))))
set_option maxRecDepth 100000 in
theorem sb_X6_canGoAround_2 {p : Program} {l : Launch} {e : Env} {s : State} {m : MethodId} {args : Array Value} {below : List Frame} {meth : Method} {c : Code} {g : Gm} {h0 : Hp} {P : PT} {mc ms : Nat} (X : Cx g p s m args meth c (Adom h0 s.heap.size) cX6_canGoAround RX6 3) (hr : meth.sig.returnType = some .boolean) (hn : meth.name = "canGoAround") : SX g p l e s m args below meth c d_X6_canGoAround 3 mc ms h0 P (bk_X6_canGoAround_2 l g (fun b => GX g p l e s m args below meth c d_X6_canGoAround 3 mc ms h0 P (pc_X6_canGoAround b)) P) 43 := (s_zastore X dX6_canGoAround_43 (s_iconst X dX6_canGoAround_44 rfl (s_istore_n X dX6_canGoAround_45 rfl (by decide) Sd.rf)))
set_option maxRecDepth 100000 in
theorem sb_X6_canGoAround_3 {p : Program} {l : Launch} {e : Env} {s : State} {m : MethodId} {args : Array Value} {below : List Frame} {meth : Method} {c : Code} {g : Gm} {h0 : Hp} {P : PT} {mc ms : Nat} (X : Cx g p s m args meth c (Adom h0 s.heap.size) cX6_canGoAround RX6 3) (hr : meth.sig.returnType = some .boolean) (hn : meth.name = "canGoAround") : SX g p l e s m args below meth c d_X6_canGoAround 3 mc ms h0 P (bk_X6_canGoAround_3 l g (fun b => GX g p l e s m args below meth c d_X6_canGoAround 3 mc ms h0 P (pc_X6_canGoAround b)) P) 46 := (s_iload_n X dX6_canGoAround_46 rfl (s_aload_n X dX6_canGoAround_47 rfl (s_get X dX6_canGoAround_48 (mcn (⟨_, _, _, _, rfl, inU_X6, by decide, uw_120, rfl⟩) (mnl)) (s_icmp_ge X dX6_canGoAround_51 (by decide) (s_aload_n X dX6_canGoAround_75 rfl (s_get X dX6_canGoAround_76 (mcn (⟨_, _, _, _, rfl, inU_X6, by decide, uw_118, rfl⟩) (mnl)) (s_aload_n X dX6_canGoAround_79 rfl (s_get X dX6_canGoAround_80 (mcn (⟨_, _, _, _, rfl, inU_X6, by decide, uw_120, rfl⟩) (mnl)) (s_iconst X dX6_canGoAround_83 rfl (s_isub X dX6_canGoAround_84 (s_zaload X dX6_canGoAround_85 (s_zret X hr dX6_canGoAround_86)))))))) (s_aload_n X dX6_canGoAround_54 rfl (s_get X dX6_canGoAround_55 (mcn (⟨_, _, _, _, rfl, inU_X6, by decide, uw_118, rfl⟩) (mnl)) (s_iload_n X dX6_canGoAround_58 rfl (s_zaload X dX6_canGoAround_59 (s_if_eq X dX6_canGoAround_60 (by decide) (s_iinc X dX6_canGoAround_69 rfl (by decide) (s_goto X dX6_canGoAround_72 (by decide) Sd.rf)) (s_aload_n X dX6_canGoAround_63 rfl (s_iload_n X dX6_canGoAround_64 rfl (s_iload_n X dX6_canGoAround_65 rfl (s_callV X dX6_canGoAround_66 (mv (vok_V X rfl uw_577 uw_579 (UW_pr 14 rfl rfl) uw_5 ci_X6_passAround yok_X6_passAround ⟨Nat.le_of_ble_eq_true rfl, Nat.le_of_ble_eq_true rfl⟩) mv0) (s_iinc X dX6_canGoAround_69 rfl (by decide) (s_goto X dX6_canGoAround_72 (by decide) Sd.rf)))))))))))))))
set_option maxRecDepth 100000 in
theorem vc_X6_canGoAround {l : Launch} {g : Gm} {a0 : Nat} {a1 : Int32} {h : Hp} {mc ms : Nat} {P : PT} (H : ∀ G : Nat → CT, (∀ (b : Nat) (h : Hp) (cb sb : Nat) (ls : LocS) (st : List Value), bk_X6_canGoAround l g b G P h cb sb ls st → G b h cb sb ls st) → G 0 h mc ms [some (.ref a0), some (.int a1), none] []) : Run l g d_X6_canGoAround [.ref a0, .int a1] h mc ms P :=
  Run.of (d := d_X6_canGoAround) (by decide) (mcn rfl (mcn rfl (mnl))) (Nat.le_of_ble_eq_true rfl) (fun p e s m args below meth c X hr hn => H (fun b => GX g p l e s m args below meth c d_X6_canGoAround 3 mc ms h P (pc_X6_canGoAround b)) (fun b h1 cb sb ls st hb => match b, hb with
    | 0, hb => sb_X6_canGoAround_0 (p := p) (e := e) (below := below) X hr hn h1 cb sb ls st hb
    | 1, hb => sb_X6_canGoAround_1 (p := p) (e := e) (below := below) X hr hn h1 cb sb ls st hb
    | 2, hb => sb_X6_canGoAround_2 (p := p) (e := e) (below := below) X hr hn h1 cb sb ls st hb
    | 3, hb => sb_X6_canGoAround_3 (p := p) (e := e) (below := below) X hr hn h1 cb sb ls st hb
    | _ + 4, hb => hb.elim))
theorem dX6_passAround_0 : decode cX6_passAround 0 = .ok (.iconst 0, 1) := by decide +kernel
theorem dX6_passAround_1 : decode cX6_passAround 1 = .ok (.istore_n 3, 1) := by decide +kernel
theorem dX6_passAround_2 : decode cX6_passAround 2 = .ok (.iload_n 3, 1) := by decide +kernel
theorem dX6_passAround_3 : decode cX6_passAround 3 = .ok (.aload_n 0, 1) := by decide +kernel
theorem dX6_passAround_4 : decode cX6_passAround 4 = .ok (.getfield 74, 3) := by decide +kernel
theorem dX6_passAround_7 : decode cX6_passAround 7 = .ok (.if_icmp .ge 49, 3) := by decide +kernel
theorem dX6_passAround_10 : decode cX6_passAround 10 = .ok (.aload_n 0, 1) := by decide +kernel
theorem dX6_passAround_11 : decode cX6_passAround 11 = .ok (.iload_n 1, 1) := by decide +kernel
theorem dX6_passAround_12 : decode cX6_passAround 12 = .ok (.iload_n 3, 1) := by decide +kernel
theorem dX6_passAround_13 : decode cX6_passAround 13 = .ok (.invokevirtual 91, 3) := by decide +kernel
theorem dX6_passAround_16 : decode cX6_passAround 16 = .ok (.ifCond .eq 34, 3) := by decide +kernel
theorem dX6_passAround_19 : decode cX6_passAround 19 = .ok (.aload_n 0, 1) := by decide +kernel
theorem dX6_passAround_20 : decode cX6_passAround 20 = .ok (.getfield 22, 3) := by decide +kernel
theorem dX6_passAround_23 : decode cX6_passAround 23 = .ok (.iload_n 1, 1) := by decide +kernel
theorem dX6_passAround_24 : decode cX6_passAround 24 = .ok (.aload_n 0, 1) := by decide +kernel
theorem dX6_passAround_25 : decode cX6_passAround 25 = .ok (.getfield 9, 3) := by decide +kernel
theorem dX6_passAround_28 : decode cX6_passAround 28 = .ok (.iload_n 3, 1) := by decide +kernel
theorem dX6_passAround_29 : decode cX6_passAround 29 = .ok (.iaload, 1) := by decide +kernel
theorem dX6_passAround_30 : decode cX6_passAround 30 = .ok (.iadd, 1) := by decide +kernel
theorem dX6_passAround_31 : decode cX6_passAround 31 = .ok (.iaload, 1) := by decide +kernel
theorem dX6_passAround_32 : decode cX6_passAround 32 = .ok (.iload_n 2, 1) := by decide +kernel
theorem dX6_passAround_33 : decode cX6_passAround 33 = .ok (.if_icmp .eq 17, 3) := by decide +kernel
theorem dX6_passAround_36 : decode cX6_passAround 36 = .ok (.aload_n 0, 1) := by decide +kernel
theorem dX6_passAround_37 : decode cX6_passAround 37 = .ok (.getfield 31, 3) := by decide +kernel
theorem dX6_passAround_40 : decode cX6_passAround 40 = .ok (.iload_n 1, 1) := by decide +kernel
theorem dX6_passAround_41 : decode cX6_passAround 41 = .ok (.aload_n 0, 1) := by decide +kernel
theorem dX6_passAround_42 : decode cX6_passAround 42 = .ok (.getfield 9, 3) := by decide +kernel
theorem dX6_passAround_45 : decode cX6_passAround 45 = .ok (.iload_n 3, 1) := by decide +kernel
theorem dX6_passAround_46 : decode cX6_passAround 46 = .ok (.iaload, 1) := by decide +kernel
theorem dX6_passAround_47 : decode cX6_passAround 47 = .ok (.iadd, 1) := by decide +kernel
theorem dX6_passAround_48 : decode cX6_passAround 48 = .ok (.iconst 1, 1) := by decide +kernel
theorem dX6_passAround_49 : decode cX6_passAround 49 = .ok (.bastore, 1) := by decide +kernel
theorem dX6_passAround_50 : decode cX6_passAround 50 = .ok (.iinc 3 1, 3) := by decide +kernel
theorem dX6_passAround_53 : decode cX6_passAround 53 = .ok (.goto (-51), 3) := by decide +kernel
theorem dX6_passAround_56 : decode cX6_passAround 56 = .ok (.return_, 1) := by decide +kernel
def bk_X6_passAround_0 (l : Launch) (g : Gm) (G : Nat → CT) (P : PT) : CT := (oPush (.int (0)) (oISt 3 (G 1)))
def bk_X6_passAround_1 (l : Launch) (g : Gm) (G : Nat → CT) (P : PT) : CT := (oILd 3 (oALd 0 (oGet [6] 7 (oCmp (fun x y => y ≤ x) (oVRet P) (oALd 0 (oILd 1 (oILd 3 (oCallV l g [(6, d_X6_goesOnward)] 3 (oIf (fun x => x = 0) (oInc 3 (1) (oGo (G 1))) (oALd 0 (oGet [6] 3 (oILd 1 (oALd 0 (oGet [6] 0 (oILd 3 (oIAL g (oBin (fun x y => x + y) (oIAL g (oILd 2 (oCmp (fun x y => x = y) (oInc 3 (1) (oGo (G 1))) (oALd 0 (oGet [6] 6 (oILd 1 (oALd 0 (oGet [6] 0 (oILd 3 (oIAL g (oBin (fun x y => x + y) (oPush (.int (1)) (oZAS g (oInc 3 (1) (oGo (G 1)))))))))))))))))))))))))))))))))
def bk_X6_passAround (l : Launch) (g : Gm) (b : Nat) (G : Nat → CT) (P : PT) : CT := match b with
  | 0 => bk_X6_passAround_0 l g G P
  | 1 => bk_X6_passAround_1 l g G P
  | _ => fun _ _ _ _ _ => False
def pc_X6_passAround (b : Nat) : Nat := match b with
  | 0 => 0
  | 1 => 2
  | _ => 0
set_option maxRecDepth 100000 in
theorem sb_X6_passAround_0 {p : Program} {l : Launch} {e : Env} {s : State} {m : MethodId} {args : Array Value} {below : List Frame} {meth : Method} {c : Code} {g : Gm} {h0 : Hp} {P : PT} {mc ms : Nat} (X : Cx g p s m args meth c (Adom h0 s.heap.size) cX6_passAround RX6 4) (hr : meth.sig.returnType = none) (hn : meth.name = "passAround") : SX g p l e s m args below meth c d_X6_passAround 4 mc ms h0 P (bk_X6_passAround_0 l g (fun b => GX g p l e s m args below meth c d_X6_passAround 4 mc ms h0 P (pc_X6_passAround b)) P) 0 := (s_iconst X dX6_passAround_0 rfl (s_istore_n X dX6_passAround_1 rfl (by decide) Sd.rf))
set_option maxRecDepth 100000 in
theorem sb_X6_passAround_1 {p : Program} {l : Launch} {e : Env} {s : State} {m : MethodId} {args : Array Value} {below : List Frame} {meth : Method} {c : Code} {g : Gm} {h0 : Hp} {P : PT} {mc ms : Nat} (X : Cx g p s m args meth c (Adom h0 s.heap.size) cX6_passAround RX6 4) (hr : meth.sig.returnType = none) (hn : meth.name = "passAround") : SX g p l e s m args below meth c d_X6_passAround 4 mc ms h0 P (bk_X6_passAround_1 l g (fun b => GX g p l e s m args below meth c d_X6_passAround 4 mc ms h0 P (pc_X6_passAround b)) P) 2 := (s_iload_n X dX6_passAround_2 rfl (s_aload_n X dX6_passAround_3 rfl (s_get X dX6_passAround_4 (mcn (⟨_, _, _, _, rfl, inU_X6, by decide, uw_119, rfl⟩) (mnl)) (s_icmp_ge X dX6_passAround_7 (by decide) (s_vret X hr dX6_passAround_56) (s_aload_n X dX6_passAround_10 rfl (s_iload_n X dX6_passAround_11 rfl (s_iload_n X dX6_passAround_12 rfl (s_callV X dX6_passAround_13 (mv (vok_V X rfl uw_533 uw_535 (UW_pr 12 rfl rfl) uw_5 ci_X6_goesOnward yok_X6_goesOnward ⟨Nat.le_of_ble_eq_true rfl, Nat.le_of_ble_eq_true rfl⟩) mv0) (s_if_eq X dX6_passAround_16 (by decide) (s_iinc X dX6_passAround_50 rfl (by decide) (s_goto X dX6_passAround_53 (by decide) Sd.rf)) (s_aload_n X dX6_passAround_19 rfl (s_get X dX6_passAround_20 (mcn (⟨_, _, _, _, rfl, inU_X6, by decide, uw_115, rfl⟩) (mnl)) (s_iload_n X dX6_passAround_23 rfl (s_aload_n X dX6_passAround_24 rfl (s_get X dX6_passAround_25 (mcn (⟨_, _, _, _, rfl, inU_X6, by decide, uw_112, rfl⟩) (mnl)) (s_iload_n X dX6_passAround_28 rfl (s_iaload X dX6_passAround_29 (s_iadd X dX6_passAround_30 (s_iaload X dX6_passAround_31 (s_iload_n X dX6_passAround_32 rfl (s_icmp_eq X dX6_passAround_33 (by decide) (s_iinc X dX6_passAround_50 rfl (by decide) (s_goto X dX6_passAround_53 (by decide) Sd.rf)) (s_aload_n X dX6_passAround_36 rfl (s_get X dX6_passAround_37 (mcn (⟨_, _, _, _, rfl, inU_X6, by decide, uw_118, rfl⟩) (mnl)) (s_iload_n X dX6_passAround_40 rfl (s_aload_n X dX6_passAround_41 rfl (s_get X dX6_passAround_42 (mcn (⟨_, _, _, _, rfl, inU_X6, by decide, uw_112, rfl⟩) (mnl)) (s_iload_n X dX6_passAround_45 rfl (s_iaload X dX6_passAround_46 (s_iadd X dX6_passAround_47 (s_iconst X dX6_passAround_48 rfl (s_zastore X dX6_passAround_49 (s_iinc X dX6_passAround_50 rfl (by decide) (s_goto X dX6_passAround_53 (by decide) Sd.rf))))))))))))))))))))))))))))))))
set_option maxRecDepth 100000 in
theorem vc_X6_passAround {l : Launch} {g : Gm} {a0 : Nat} {a1 : Int32} {a2 : Int32} {h : Hp} {mc ms : Nat} {P : PT} (H : ∀ G : Nat → CT, (∀ (b : Nat) (h : Hp) (cb sb : Nat) (ls : LocS) (st : List Value), bk_X6_passAround l g b G P h cb sb ls st → G b h cb sb ls st) → G 0 h mc ms [some (.ref a0), some (.int a1), some (.int a2), none] []) : Run l g d_X6_passAround [.ref a0, .int a1, .int a2] h mc ms P :=
  Run.of (d := d_X6_passAround) (by decide) (mcn rfl (mcn rfl (mcn rfl (mnl)))) (Nat.le_of_ble_eq_true rfl) (fun p e s m args below meth c X hr hn => H (fun b => GX g p l e s m args below meth c d_X6_passAround 4 mc ms h P (pc_X6_passAround b)) (fun b h1 cb sb ls st hb => match b, hb with
    | 0, hb => sb_X6_passAround_0 (p := p) (e := e) (below := below) X hr hn h1 cb sb ls st hb
    | 1, hb => sb_X6_passAround_1 (p := p) (e := e) (below := below) X hr hn h1 cb sb ls st hb
    | _ + 2, hb => hb.elim))
