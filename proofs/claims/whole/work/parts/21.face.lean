theorem dX9_init_0 : decode cX9_init 0 = .ok (.aload_n 0, 1) := by decide +kernel
theorem dX9_init_1 : decode cX9_init 1 = .ok (.invokespecial 3, 3) := by decide +kernel
theorem dX9_init_4 : decode cX9_init 4 = .ok (.aload_n 0, 1) := by decide +kernel
theorem dX9_init_5 : decode cX9_init 5 = .ok (.iconst 4, 1) := by decide +kernel
theorem dX9_init_6 : decode cX9_init 6 = .ok (.anewarray 11, 3) := by decide +kernel
theorem dX9_init_9 : decode cX9_init 9 = .ok (.putfield 13, 3) := by decide +kernel
theorem dX9_init_12 : decode cX9_init 12 = .ok (.aload_n 0, 1) := by decide +kernel
theorem dX9_init_13 : decode cX9_init 13 = .ok (.new 17, 3) := by decide +kernel
theorem dX9_init_16 : decode cX9_init 16 = .ok (.dup, 1) := by decide +kernel
theorem dX9_init_17 : decode cX9_init 17 = .ok (.invokespecial 19, 3) := by decide +kernel
theorem dX9_init_20 : decode cX9_init 20 = .ok (.putfield 20, 3) := by decide +kernel
theorem dX9_init_23 : decode cX9_init 23 = .ok (.aload_n 0, 1) := by decide +kernel
theorem dX9_init_24 : decode cX9_init 24 = .ok (.iconst 4, 1) := by decide +kernel
theorem dX9_init_25 : decode cX9_init 25 = .ok (.newarray .int, 2) := by decide +kernel
theorem dX9_init_27 : decode cX9_init 27 = .ok (.putfield 24, 3) := by decide +kernel
theorem dX9_init_30 : decode cX9_init 30 = .ok (.aload_n 0, 1) := by decide +kernel
theorem dX9_init_31 : decode cX9_init 31 = .ok (.iconst 4, 1) := by decide +kernel
theorem dX9_init_32 : decode cX9_init 32 = .ok (.newarray .int, 2) := by decide +kernel
theorem dX9_init_34 : decode cX9_init 34 = .ok (.putfield 28, 3) := by decide +kernel
theorem dX9_init_37 : decode cX9_init 37 = .ok (.aload_n 0, 1) := by decide +kernel
theorem dX9_init_38 : decode cX9_init 38 = .ok (.bipush 8, 2) := by decide +kernel
theorem dX9_init_40 : decode cX9_init 40 = .ok (.iconst 4, 1) := by decide +kernel
theorem dX9_init_41 : decode cX9_init 41 = .ok (.multianewarray 31 2, 4) := by decide +kernel
theorem dX9_init_45 : decode cX9_init 45 = .ok (.putfield 33, 3) := by decide +kernel
theorem dX9_init_48 : decode cX9_init 48 = .ok (.aload_n 0, 1) := by decide +kernel
theorem dX9_init_49 : decode cX9_init 49 = .ok (.bipush 8, 2) := by decide +kernel
theorem dX9_init_51 : decode cX9_init 51 = .ok (.newarray .int, 2) := by decide +kernel
theorem dX9_init_53 : decode cX9_init 53 = .ok (.putfield 36, 3) := by decide +kernel
theorem dX9_init_56 : decode cX9_init 56 = .ok (.aload_n 0, 1) := by decide +kernel
theorem dX9_init_57 : decode cX9_init 57 = .ok (.new 39, 3) := by decide +kernel
theorem dX9_init_60 : decode cX9_init 60 = .ok (.dup, 1) := by decide +kernel
theorem dX9_init_61 : decode cX9_init 61 = .ok (.invokespecial 41, 3) := by decide +kernel
theorem dX9_init_64 : decode cX9_init 64 = .ok (.putfield 42, 3) := by decide +kernel
theorem dX9_init_67 : decode cX9_init 67 = .ok (.aload_n 0, 1) := by decide +kernel
theorem dX9_init_68 : decode cX9_init 68 = .ok (.new 46, 3) := by decide +kernel
theorem dX9_init_71 : decode cX9_init 71 = .ok (.dup, 1) := by decide +kernel
theorem dX9_init_72 : decode cX9_init 72 = .ok (.invokespecial 48, 3) := by decide +kernel
theorem dX9_init_75 : decode cX9_init 75 = .ok (.putfield 49, 3) := by decide +kernel
theorem dX9_init_78 : decode cX9_init 78 = .ok (.iconst 0, 1) := by decide +kernel
theorem dX9_init_79 : decode cX9_init 79 = .ok (.istore_n 1, 1) := by decide +kernel
theorem dX9_init_80 : decode cX9_init 80 = .ok (.iload_n 1, 1) := by decide +kernel
theorem dX9_init_81 : decode cX9_init 81 = .ok (.iconst 4, 1) := by decide +kernel
theorem dX9_init_82 : decode cX9_init 82 = .ok (.if_icmp .ge 22, 3) := by decide +kernel
theorem dX9_init_85 : decode cX9_init 85 = .ok (.aload_n 0, 1) := by decide +kernel
theorem dX9_init_86 : decode cX9_init 86 = .ok (.getfield 13, 3) := by decide +kernel
theorem dX9_init_89 : decode cX9_init 89 = .ok (.iload_n 1, 1) := by decide +kernel
theorem dX9_init_90 : decode cX9_init 90 = .ok (.new 11, 3) := by decide +kernel
theorem dX9_init_93 : decode cX9_init 93 = .ok (.dup, 1) := by decide +kernel
theorem dX9_init_94 : decode cX9_init 94 = .ok (.invokespecial 53, 3) := by decide +kernel
theorem dX9_init_97 : decode cX9_init 97 = .ok (.aastore, 1) := by decide +kernel
theorem dX9_init_98 : decode cX9_init 98 = .ok (.iinc 1 1, 3) := by decide +kernel
theorem dX9_init_101 : decode cX9_init 101 = .ok (.goto (-21), 3) := by decide +kernel
theorem dX9_init_104 : decode cX9_init 104 = .ok (.return_, 1) := by decide +kernel
def bk_X9_init_0 (l : Launch) (g : Gm) (G : Nat → CT) (P : PT) : CT := (oALd 0 (oObj1 (oALd 0 (oPush (.int (4)) (oNewR g 5 (oPutR [9] 0 (oALd 0 (oNew 8 1 [.int 0] (oDup (oCallI l g d_X8_init 0 (oPutR [9] 1 (oALd 0 (oPush (.int (4)) (oNewI g (oPutR [9] 2 (oALd 0 (oPush (.int (4)) (oNewI g (oPutR [9] 3 (oALd 0 (oPush (.int (8)) (oPush (.int (4)) (oNewII g 8 4 (oPutR [9] 4 (oALd 0 (oPush (.int (8)) (oNewI g (oPutR [9] 5 (oALd 0 (oNew 2 6 [.null, .null, .null, .null, .int 0, .int 0] (oDup (oCallI l g d_X2_init 0 (oPutR [9] 8 (oALd 0 (oNew 6 9 [.null, .null, .null, .null, .null, .null, .null, .int 0, .int 0] (oDup (oCallI l g d_X6_init 0 (oPutR [9] 9 (oPush (.int (0)) (oISt 1 (G 1)))))))))))))))))))))))))))))))))))))))))
def bk_X9_init_1 (l : Launch) (g : Gm) (G : Nat → CT) (P : PT) : CT := (oILd 1 (oPush (.int (4)) (oCmp (fun x y => y ≤ x) (oVRet P) (oALd 0 (oGet [9] 0 (oILd 1 (oNew 5 4 [.null, .int 0, .int 0, .int 0] (oDup (oCallI l g d_X5_init 0 (oRAS g 5 [5] (oInc 1 (1) (oGo (G 1)))))))))))))
def bk_X9_init (l : Launch) (g : Gm) (b : Nat) (G : Nat → CT) (P : PT) : CT := match b with
  | 0 => bk_X9_init_0 l g G P
  | 1 => bk_X9_init_1 l g G P
  | _ => fun _ _ _ _ _ => False
def pc_X9_init (b : Nat) : Nat := match b with
  | 0 => 0
  | 1 => 80
  | _ => 0
set_option maxRecDepth 100000 in
theorem sb_X9_init_0 {p : Program} {l : Launch} {e : Env} {s : State} {m : MethodId} {args : Array Value} {below : List Frame} {meth : Method} {c : Code} {g : Gm} {h0 : Hp} {P : PT} {mc ms : Nat} (X : Cx g p s m args meth c (Adom h0 s.heap.size) cX9_init RX9 2) (hr : meth.sig.returnType = none) (hn : meth.name = "<init>") : SX g p l e s m args below meth c d_X9_init 2 mc ms h0 P (bk_X9_init_0 l g (fun b => GX g p l e s m args below meth c d_X9_init 2 mc ms h0 P (pc_X9_init b)) P) 0 := (s_aload_n X dX9_init_0 rfl (s_obj1 X uw_20 uw_21 uw_22 (Nat.le_of_ble_eq_true rfl) (Nat.le_of_ble_eq_true rfl) dX9_init_1 (s_aload_n X dX9_init_4 rfl (s_iconst X dX9_init_5 rfl (s_newR X (t := 5) (fun _ => rfl) X.2.2.2.2.2.1.2.1.2.2.1 uw_23 dX9_init_6 (s_putRF X dX9_init_9 rt_arr (mcn (⟨_, _, _, _, tyX9, rfl, inU_X9, by decide, uw_164, rfl, tyX9_ok, nmX9, rfl, rfl⟩) (mnl)) hn (mcn (fun C T1 N1 hq => by cases hq; rfl) (mnl)) (s_aload_n X dX9_init_12 rfl (s_new X tyX8 tyX8_ok rfl inU_X8 uw_25 uw_26 uw_2 (dsx8) dX9_init_13 (s_dup X dX9_init_16 (s_callIN X rfl rfl dX9_init_17 X.2.2.2.2.2.1.2.2.1.1 uw_28 uw_2 ci_X8_init yok_X8_init ⟨Nat.le_of_ble_eq_true rfl, Nat.le_of_ble_eq_true rfl⟩ (s_putRF X dX9_init_20 rt_obj (mcn (⟨_, _, _, _, tyX9, rfl, inU_X9, by decide, uw_165, rfl, tyX9_ok, nmX9, rfl, rfl⟩) (mnl)) hn (mcn (fun C T1 N1 hq => by cases hq; rfl) (mnl)) (s_aload_n X dX9_init_23 rfl (s_iconst X dX9_init_24 rfl (s_newI X uw_78 dX9_init_25 (s_putRF X dX9_init_27 rt_arr (mcn (⟨_, _, _, _, tyX9, rfl, inU_X9, by decide, uw_166, rfl, tyX9_ok, nmX9, rfl, rfl⟩) (mnl)) hn (mcn (fun C T1 N1 hq => by cases hq; rfl) (mnl)) (s_aload_n X dX9_init_30 rfl (s_iconst X dX9_init_31 rfl (s_newI X uw_78 dX9_init_32 (s_putRF X dX9_init_34 rt_arr (mcn (⟨_, _, _, _, tyX9, rfl, inU_X9, by decide, uw_167, rfl, tyX9_ok, nmX9, rfl, rfl⟩) (mnl)) hn (mcn (fun C T1 N1 hq => by cases hq; rfl) (mnl)) (s_aload_n X dX9_init_37 rfl (s_bipush X dX9_init_38 rfl (s_iconst X dX9_init_40 rfl (s_mna X uw_36 uw_78 dX9_init_41 (s_putRF X dX9_init_45 rt_arr (mcn (⟨_, _, _, _, tyX9, rfl, inU_X9, by decide, uw_168, rfl, tyX9_ok, nmX9, rfl, rfl⟩) (mnl)) hn (mcn (fun C T1 N1 hq => by cases hq; rfl) (mnl)) (s_aload_n X dX9_init_48 rfl (s_bipush X dX9_init_49 rfl (s_newI X uw_78 dX9_init_51 (s_putRF X dX9_init_53 rt_arr (mcn (⟨_, _, _, _, tyX9, rfl, inU_X9, by decide, uw_169, rfl, tyX9_ok, nmX9, rfl, rfl⟩) (mnl)) hn (mcn (fun C T1 N1 hq => by cases hq; rfl) (mnl)) (s_aload_n X dX9_init_56 rfl (s_new X tyX2 tyX2_ok rfl inU_X2 uw_38 uw_39 uw_3 (dsx2) dX9_init_57 (s_dup X dX9_init_60 (s_callI X rfl rfl dX9_init_61 uw_40 uw_41 uw_3 ci_X2_init yok_X2_init ⟨Nat.le_of_ble_eq_true rfl, Nat.le_of_ble_eq_true rfl⟩ (s_putR X dX9_init_64 rt_obj (mcn (⟨_, _, _, _, tyX9, rfl, inU_X9, by decide, uw_172, rfl, tyX9_ok, nmX9, rfl, rfl⟩) (mnl)) (s_aload_n X dX9_init_67 rfl (s_new X tyX6 tyX6_ok rfl inU_X6 uw_106 uw_107 uw_5 (dsx6) dX9_init_68 (s_dup X dX9_init_71 (s_callIN X rfl rfl dX9_init_72 X.2.2.2.2.2.1.2.2.1.2.2.2 uw_109 uw_5 ci_X6_init yok_X6_init ⟨Nat.le_of_ble_eq_true rfl, Nat.le_of_ble_eq_true rfl⟩ (s_putRF X dX9_init_75 rt_obj (mcn (⟨_, _, _, _, tyX9, rfl, inU_X9, by decide, uw_173, rfl, tyX9_ok, nmX9, rfl, rfl⟩) (mnl)) hn (mcn (fun C T1 N1 hq => by cases hq; rfl) (mnl)) (s_iconst X dX9_init_78 rfl (s_istore_n X dX9_init_79 rfl (by decide) Sd.rf))))))))))))))))))))))))))))))))))))))))
set_option maxRecDepth 100000 in
theorem sb_X9_init_1 {p : Program} {l : Launch} {e : Env} {s : State} {m : MethodId} {args : Array Value} {below : List Frame} {meth : Method} {c : Code} {g : Gm} {h0 : Hp} {P : PT} {mc ms : Nat} (X : Cx g p s m args meth c (Adom h0 s.heap.size) cX9_init RX9 2) (hr : meth.sig.returnType = none) (hn : meth.name = "<init>") : SX g p l e s m args below meth c d_X9_init 2 mc ms h0 P (bk_X9_init_1 l g (fun b => GX g p l e s m args below meth c d_X9_init 2 mc ms h0 P (pc_X9_init b)) P) 80 := (s_iload_n X dX9_init_80 rfl (s_iconst X dX9_init_81 rfl (s_icmp_ge X dX9_init_82 (by decide) (s_vret X hr dX9_init_104) (s_aload_n X dX9_init_85 rfl (s_get X dX9_init_86 (mcn (⟨_, _, _, _, rfl, inU_X9, by decide, uw_164, rfl⟩) (mnl)) (s_iload_n X dX9_init_89 rfl (s_new X tyX5 tyX5_ok rfl inU_X5 uw_23 uw_142 uw_6 (dsx5) dX9_init_90 (s_dup X dX9_init_93 (s_callIN X rfl rfl dX9_init_94 X.2.2.2.2.2.1.2.2.1.2.2.1 uw_144 uw_6 ci_X5_init yok_X5_init ⟨Nat.le_of_ble_eq_true rfl, Nat.le_of_ble_eq_true rfl⟩ (s_aastore X (t := 5) (fun _ => rfl) (mcn (AsgOk.self rfl) mnl) dX9_init_97 (s_iinc X dX9_init_98 rfl (by decide) (s_goto X dX9_init_101 (by decide) Sd.rf))))))))))))
set_option maxRecDepth 100000 in
theorem vc_X9_init {l : Launch} {g : Gm} {a0 : Nat} {h : Hp} {mc ms : Nat} {P : PT} (H : ∀ G : Nat → CT, (∀ (b : Nat) (h : Hp) (cb sb : Nat) (ls : LocS) (st : List Value), bk_X9_init l g b G P h cb sb ls st → G b h cb sb ls st) → G 0 h mc ms [some (.ref a0), none] []) : Run l g d_X9_init [.ref a0] h mc ms P :=
  Run.of (d := d_X9_init) (by decide) (mcn rfl (mnl)) (Nat.le_of_ble_eq_true rfl) (fun p e s m args below meth c X hr hn => H (fun b => GX g p l e s m args below meth c d_X9_init 2 mc ms h P (pc_X9_init b)) (fun b h1 cb sb ls st hb => match b, hb with
    | 0, hb => sb_X9_init_0 (p := p) (e := e) (below := below) X hr hn h1 cb sb ls st hb
    | 1, hb => sb_X9_init_1 (p := p) (e := e) (below := below) X hr hn h1 cb sb ls st hb
    | _ + 2, hb => hb.elim))
theorem dX9_land_0 : decode cX9_land 0 = .ok (.aload_n 0, 1) := by decide +kernel
theorem dX9_land_1 : decode cX9_land 1 = .ok (.iconst 0, 1) := by decide +kernel
theorem dX9_land_2 : decode cX9_land 2 = .ok (.putfield 54, 3) := by decide +kernel
theorem dX9_land_5 : decode cX9_land 5 = .ok (.iload_n 1, 1) := by decide +kernel
theorem dX9_land_6 : decode cX9_land 6 = .ok (.invokestatic 58, 3) := by decide +kernel
theorem dX9_land_9 : decode cX9_land 9 = .ok (.ifCond .ne 5, 3) := by decide +kernel
theorem dX9_land_12 : decode cX9_land 12 = .ok (.iconst (-1), 1) := by decide +kernel
theorem dX9_land_13 : decode cX9_land 13 = .ok (.ireturn, 1) := by decide +kernel
theorem dX9_land_14 : decode cX9_land 14 = .ok (.iload_n 2, 1) := by decide +kernel
theorem dX9_land_15 : decode cX9_land 15 = .ok (.invokestatic 62, 3) := by decide +kernel
theorem dX9_land_18 : decode cX9_land 18 = .ok (.ifCond .ne 6, 3) := by decide +kernel
theorem dX9_land_21 : decode cX9_land 21 = .ok (.bipush (-2), 2) := by decide +kernel
theorem dX9_land_23 : decode cX9_land 23 = .ok (.ireturn, 1) := by decide +kernel
theorem dX9_land_24 : decode cX9_land 24 = .ok (.aload_n 0, 1) := by decide +kernel
theorem dX9_land_25 : decode cX9_land 25 = .ok (.getfield 13, 3) := by decide +kernel
theorem dX9_land_28 : decode cX9_land 28 = .ok (.iload_n 1, 1) := by decide +kernel
theorem dX9_land_29 : decode cX9_land 29 = .ok (.aaload, 1) := by decide +kernel
theorem dX9_land_30 : decode cX9_land 30 = .ok (.iload_n 2, 1) := by decide +kernel
theorem dX9_land_31 : decode cX9_land 31 = .ok (.iload_n 3, 1) := by decide +kernel
theorem dX9_land_32 : decode cX9_land 32 = .ok (.iload 4, 2) := by decide +kernel
theorem dX9_land_34 : decode cX9_land 34 = .ok (.invokevirtual 65, 3) := by decide +kernel
theorem dX9_land_37 : decode cX9_land 37 = .ok (.istore 5, 2) := by decide +kernel
theorem dX9_land_39 : decode cX9_land 39 = .ok (.iload 5, 2) := by decide +kernel
theorem dX9_land_41 : decode cX9_land 41 = .ok (.ifCond .eq 10, 3) := by decide +kernel
theorem dX9_land_44 : decode cX9_land 44 = .ok (.aload_n 0, 1) := by decide +kernel
theorem dX9_land_45 : decode cX9_land 45 = .ok (.iload 5, 2) := by decide +kernel
theorem dX9_land_47 : decode cX9_land 47 = .ok (.invokevirtual 69, 3) := by decide +kernel
theorem dX9_land_50 : decode cX9_land 50 = .ok (.ireturn, 1) := by decide +kernel
theorem dX9_land_51 : decode cX9_land 51 = .ok (.new 39, 3) := by decide +kernel
theorem dX9_land_54 : decode cX9_land 54 = .ok (.dup, 1) := by decide +kernel
theorem dX9_land_55 : decode cX9_land 55 = .ok (.invokespecial 41, 3) := by decide +kernel
theorem dX9_land_58 : decode cX9_land 58 = .ok (.astore 6, 2) := by decide +kernel
theorem dX9_land_60 : decode cX9_land 60 = .ok (.new 73, 3) := by decide +kernel
theorem dX9_land_63 : decode cX9_land 63 = .ok (.dup, 1) := by decide +kernel
theorem dX9_land_64 : decode cX9_land 64 = .ok (.aload_n 0, 1) := by decide +kernel
theorem dX9_land_65 : decode cX9_land 65 = .ok (.getfield 13, 3) := by decide +kernel
theorem dX9_land_68 : decode cX9_land 68 = .ok (.iload_n 1, 1) := by decide +kernel
theorem dX9_land_69 : decode cX9_land 69 = .ok (.aaload, 1) := by decide +kernel
theorem dX9_land_70 : decode cX9_land 70 = .ok (.iload_n 3, 1) := by decide +kernel
theorem dX9_land_71 : decode cX9_land 71 = .ok (.iload 4, 2) := by decide +kernel
theorem dX9_land_73 : decode cX9_land 73 = .ok (.invokespecial 75, 3) := by decide +kernel
theorem dX9_land_76 : decode cX9_land 76 = .ok (.astore 7, 2) := by decide +kernel
theorem dX9_land_78 : decode cX9_land 78 = .ok (.aload 7, 2) := by decide +kernel
theorem dX9_land_80 : decode cX9_land 80 = .ok (.aload 6, 2) := by decide +kernel
theorem dX9_land_82 : decode cX9_land 82 = .ok (.invokevirtual 78, 3) := by decide +kernel
theorem dX9_land_85 : decode cX9_land 85 = .ok (.ifCond .ne 12, 3) := by decide +kernel
theorem dX9_land_88 : decode cX9_land 88 = .ok (.bipush (-100), 2) := by decide +kernel
theorem dX9_land_90 : decode cX9_land 90 = .ok (.aload 7, 2) := by decide +kernel
theorem dX9_land_92 : decode cX9_land 92 = .ok (.getfield 82, 3) := by decide +kernel
theorem dX9_land_95 : decode cX9_land 95 = .ok (.isub, 1) := by decide +kernel
theorem dX9_land_96 : decode cX9_land 96 = .ok (.ireturn, 1) := by decide +kernel
theorem dX9_land_97 : decode cX9_land 97 = .ok (.aload 6, 2) := by decide +kernel
theorem dX9_land_99 : decode cX9_land 99 = .ok (.invokevirtual 85, 3) := by decide +kernel
theorem dX9_land_102 : decode cX9_land 102 = .ok (.istore 8, 2) := by decide +kernel
theorem dX9_land_104 : decode cX9_land 104 = .ok (.iload 8, 2) := by decide +kernel
theorem dX9_land_106 : decode cX9_land 106 = .ok (.bipush (-9), 2) := by decide +kernel
theorem dX9_land_108 : decode cX9_land 108 = .ok (.if_icmp .eq 10, 3) := by decide +kernel
theorem dX9_land_111 : decode cX9_land 111 = .ok (.sipush (-200), 3) := by decide +kernel
theorem dX9_land_114 : decode cX9_land 114 = .ok (.iload 8, 2) := by decide +kernel
theorem dX9_land_116 : decode cX9_land 116 = .ok (.isub, 1) := by decide +kernel
theorem dX9_land_117 : decode cX9_land 117 = .ok (.ireturn, 1) := by decide +kernel
theorem dX9_land_118 : decode cX9_land 118 = .ok (.aload 6, 2) := by decide +kernel
theorem dX9_land_120 : decode cX9_land 120 = .ok (.invokevirtual 89, 3) := by decide +kernel
theorem dX9_land_123 : decode cX9_land 123 = .ok (.ifCond .ne 7, 3) := by decide +kernel
theorem dX9_land_126 : decode cX9_land 126 = .ok (.sipush (-300), 3) := by decide +kernel
theorem dX9_land_129 : decode cX9_land 129 = .ok (.ireturn, 1) := by decide +kernel
theorem dX9_land_130 : decode cX9_land 130 = .ok (.aload_n 0, 1) := by decide +kernel
theorem dX9_land_131 : decode cX9_land 131 = .ok (.aload 6, 2) := by decide +kernel
theorem dX9_land_133 : decode cX9_land 133 = .ok (.putfield 42, 3) := by decide +kernel
theorem dX9_land_136 : decode cX9_land 136 = .ok (.aload_n 0, 1) := by decide +kernel
theorem dX9_land_137 : decode cX9_land 137 = .ok (.iconst 0, 1) := by decide +kernel
theorem dX9_land_138 : decode cX9_land 138 = .ok (.putfield 93, 3) := by decide +kernel
theorem dX9_land_141 : decode cX9_land 141 = .ok (.aload_n 0, 1) := by decide +kernel
theorem dX9_land_142 : decode cX9_land 142 = .ok (.iconst 0, 1) := by decide +kernel
theorem dX9_land_143 : decode cX9_land 143 = .ok (.putfield 97, 3) := by decide +kernel
theorem dX9_land_146 : decode cX9_land 146 = .ok (.aload_n 0, 1) := by decide +kernel
theorem dX9_land_147 : decode cX9_land 147 = .ok (.getfield 42, 3) := by decide +kernel
theorem dX9_land_150 : decode cX9_land 150 = .ok (.getfield 100, 3) := by decide +kernel
theorem dX9_land_153 : decode cX9_land 153 = .ok (.ireturn, 1) := by decide +kernel
def bk_X9_land_0 (l : Launch) (g : Gm) (G : Nat → CT) (P : PT) : CT := (oALd 0 (oPush (.int (0)) (oPutI [9] 7 (oILd 1 (oCall l g d_X9_isSheet 1 (oIf (fun x => x = 0) (oPush (.int (-1)) (oIRet P)) (oILd 2 (oCall l g d_X9_isLane 1 (oIf (fun x => x = 0) (oPush (.int (-2)) (oIRet P)) (oALd 0 (oGet [9] 0 (oILd 1 (oRAL g 5 (oILd 2 (oILd 3 (oILd 4 (oCallV l g [(5, d_X5_faultOfTaking)] 4 (oISt 5 (oILd 5 (oIf (fun x => x = 0) (oNew 2 6 [.null, .null, .null, .null, .int 0, .int 0] (oDup (oCallI l g d_X2_init 0 (oASt 6 (oNew 7 4 [.null, .int 0, .int 0, .int 0] (oDup (oALd 0 (oGet [9] 0 (oILd 1 (oRAL g 5 (oILd 3 (oILd 4 (oCallI l g d_X7_init 3 (oASt 7 (oALd 7 (oALd 6 (oCallV l g [(7, d_X7_isReadInto)] 2 (oIf (fun x => x = 0) (oPush (.int (-100)) (oALd 7 (oGet [7] 3 (oBin (fun x y => x - y) (oIRet P))))) (oALd 6 (oCallV l g [(2, d_X2_leastAmiss)] 1 (oISt 8 (oILd 8 (oPush (.int (-9)) (oCmp (fun x y => x = y) (oALd 6 (oCallV l g [(2, d_X2_isOrdered)] 1 (oIf (fun x => x = 0) (oPush (.int (-300)) (oIRet P)) (oALd 0 (oALd 6 (oPutR [9] 8 (oALd 0 (oPush (.int (0)) (oPutZ [9] 10 (oALd 0 (oPush (.int (0)) (oPutI [9] 6 (oALd 0 (oGet [9] 8 (oGet [2] 4 (oIRet P)))))))))))))))) (oPush (.int (-200)) (oILd 8 (oBin (fun x y => x - y) (oIRet P)))))))))))))))))))))))))))) (oALd 0 (oILd 5 (oCallV l g [(9, d_X9_fallen)] 2 (oIRet P))))))))))))))))))))))))
def bk_X9_land (l : Launch) (g : Gm) (b : Nat) (G : Nat → CT) (P : PT) : CT := match b with
  | 0 => bk_X9_land_0 l g G P
  | _ => fun _ _ _ _ _ => False
def pc_X9_land (b : Nat) : Nat := match b with
  | 0 => 0
  | _ => 0
set_option maxRecDepth 100000 in
theorem sb_X9_land_0 {p : Program} {l : Launch} {e : Env} {s : State} {m : MethodId} {args : Array Value} {below : List Frame} {meth : Method} {c : Code} {g : Gm} {h0 : Hp} {P : PT} {mc ms : Nat} (X : Cx g p s m args meth c (Adom h0 s.heap.size) cX9_land RX9 9) (hr : meth.sig.returnType = some .int) (hn : meth.name = "land") : SX g p l e s m args below meth c d_X9_land 9 mc ms h0 P (bk_X9_land_0 l g (fun b => GX g p l e s m args below meth c d_X9_land 9 mc ms h0 P (pc_X9_land b)) P) 0 := (s_aload_n X dX9_land_0 rfl (s_iconst X dX9_land_1 rfl (s_putI X dX9_land_2 (mcn (⟨_, _, _, _, tyX9, rfl, inU_X9, by decide, uw_171, rfl, tyX9_ok, nmX9, rfl, rfl⟩) (mnl)) (s_iload_n X dX9_land_5 rfl (s_callS X dX9_land_6 uw_202 uw_203 uw_1 ci_X9_isSheet yok_X9_isSheet ⟨Nat.le_of_ble_eq_true rfl, Nat.le_of_ble_eq_true rfl⟩ (s_if_ne X dX9_land_9 (by decide) (s_iload_n X dX9_land_14 rfl (s_callS X dX9_land_15 uw_205 uw_206 uw_1 ci_X9_isLane yok_X9_isLane ⟨Nat.le_of_ble_eq_true rfl, Nat.le_of_ble_eq_true rfl⟩ (s_if_ne X dX9_land_18 (by decide) (s_aload_n X dX9_land_24 rfl (s_get X dX9_land_25 (mcn (⟨_, _, _, _, rfl, inU_X9, by decide, uw_164, rfl⟩) (mnl)) (s_iload_n X dX9_land_28 rfl (s_aaload X (t := 5) (fun _ => rfl) rfl dX9_land_29 (s_iload_n X dX9_land_30 rfl (s_iload_n X dX9_land_31 rfl (s_iload X dX9_land_32 (s_callV X dX9_land_34 (mv (vok_V X rfl uw_208 uw_209 uw_210 uw_6 ci_X5_faultOfTaking yok_X5_faultOfTaking ⟨Nat.le_of_ble_eq_true rfl, Nat.le_of_ble_eq_true rfl⟩) mv0) (s_istore X dX9_land_37 (by decide) (s_iload X dX9_land_39 (s_if_eq X dX9_land_41 (by decide) (s_new X tyX2 tyX2_ok rfl inU_X2 uw_38 uw_39 uw_3 (dsx2) dX9_land_51 (s_dup X dX9_land_54 (s_callI X rfl rfl dX9_land_55 uw_40 uw_41 uw_3 ci_X2_init yok_X2_init ⟨Nat.le_of_ble_eq_true rfl, Nat.le_of_ble_eq_true rfl⟩ (s_astore X dX9_land_58 (by decide) (s_new X tyX7 tyX7_ok rfl inU_X7 uw_220 uw_221 uw_8 (dsx7) dX9_land_60 (s_dup X dX9_land_63 (s_aload_n X dX9_land_64 rfl (s_get X dX9_land_65 (mcn (⟨_, _, _, _, rfl, inU_X9, by decide, uw_164, rfl⟩) (mnl)) (s_iload_n X dX9_land_68 rfl (s_aaload X (t := 5) (fun _ => rfl) rfl dX9_land_69 (s_iload_n X dX9_land_70 rfl (s_iload X dX9_land_71 (s_callI X rfl rfl dX9_land_73 uw_222 uw_223 uw_8 ci_X7_init yok_X7_init ⟨Nat.le_of_ble_eq_true rfl, Nat.le_of_ble_eq_true rfl⟩ (s_astore X dX9_land_76 (by decide) (s_aload X dX9_land_78 (s_aload X dX9_land_80 (s_callV X dX9_land_82 (mv (vok_V X rfl uw_240 uw_241 uw_242 uw_8 ci_X7_isReadInto yok_X7_isReadInto ⟨Nat.le_of_ble_eq_true rfl, Nat.le_of_ble_eq_true rfl⟩) mv0) (s_if_ne X dX9_land_85 (by decide) (s_aload X dX9_land_97 (s_callV X dX9_land_99 (mv (vok_V X rfl uw_341 uw_342 uw_343 uw_3 ci_X2_leastAmiss yok_X2_leastAmiss ⟨Nat.le_of_ble_eq_true rfl, Nat.le_of_ble_eq_true rfl⟩) mv0) (s_istore X dX9_land_102 (by decide) (s_iload X dX9_land_104 (s_bipush X dX9_land_106 rfl (s_icmp_eq X dX9_land_108 (by decide) (s_aload X dX9_land_118 (s_callV X dX9_land_120 (mv (vok_V X rfl uw_349 uw_350 uw_351 uw_3 ci_X2_isOrdered yok_X2_isOrdered ⟨Nat.le_of_ble_eq_true rfl, Nat.le_of_ble_eq_true rfl⟩) mv0) (s_if_ne X dX9_land_123 (by decide) (s_aload_n X dX9_land_130 rfl (s_aload X dX9_land_131 (s_putR X dX9_land_133 rt_obj (mcn (⟨_, _, _, _, tyX9, rfl, inU_X9, by decide, uw_172, rfl, tyX9_ok, nmX9, rfl, rfl⟩) (mnl)) (s_aload_n X dX9_land_136 rfl (s_iconst X dX9_land_137 rfl (s_putZ X dX9_land_138 (mcn (⟨_, _, _, _, tyX9, rfl, inU_X9, by decide, uw_174, rfl, tyX9_ok, nmX9, rfl, rfl⟩) (mnl)) (s_aload_n X dX9_land_141 rfl (s_iconst X dX9_land_142 rfl (s_putI X dX9_land_143 (mcn (⟨_, _, _, _, tyX9, rfl, inU_X9, by decide, uw_170, rfl, tyX9_ok, nmX9, rfl, rfl⟩) (mnl)) (s_aload_n X dX9_land_146 rfl (s_get X dX9_land_147 (mcn (⟨_, _, _, _, rfl, inU_X9, by decide, uw_172, rfl⟩) (mnl)) (s_get X dX9_land_150 (mcn (⟨_, _, _, _, rfl, inU_X2, by decide, uw_89, rfl⟩) (mnl)) (s_iret X hr dX9_land_153))))))))))))) (s_sipush X dX9_land_126 rfl (s_iret X hr dX9_land_129))))) (s_sipush X dX9_land_111 rfl (s_iload X dX9_land_114 (s_isub X dX9_land_116 (s_iret X hr dX9_land_117)))))))))) (s_bipush X dX9_land_88 rfl (s_aload X dX9_land_90 (s_get X dX9_land_92 (mcn (⟨_, _, _, _, rfl, inU_X7, by decide, uw_230, rfl⟩) (mnl)) (s_isub X dX9_land_95 (s_iret X hr dX9_land_96))))))))))))))))))))))) (s_aload_n X dX9_land_44 rfl (s_iload X dX9_land_45 (s_callV X dX9_land_47 (mv (vok_V X rfl uw_216 uw_218 (UW_pr 0 rfl rfl) uw_1 ci_X9_fallen yok_X9_fallen ⟨Nat.le_of_ble_eq_true rfl, Nat.le_of_ble_eq_true rfl⟩) mv0) (s_iret X hr dX9_land_50))))))))))))))) (s_bipush X dX9_land_21 rfl (s_iret X hr dX9_land_23))))) (s_iconst X dX9_land_12 rfl (s_iret X hr dX9_land_13))))))))
set_option maxRecDepth 100000 in
theorem vc_X9_land {l : Launch} {g : Gm} {a0 : Nat} {a1 : Int32} {a2 : Int32} {a3 : Int32} {a4 : Int32} {h : Hp} {mc ms : Nat} {P : PT} (H : ∀ G : Nat → CT, (∀ (b : Nat) (h : Hp) (cb sb : Nat) (ls : LocS) (st : List Value), bk_X9_land l g b G P h cb sb ls st → G b h cb sb ls st) → G 0 h mc ms [some (.ref a0), some (.int a1), some (.int a2), some (.int a3), some (.int a4), none, none, none, none] []) : Run l g d_X9_land [.ref a0, .int a1, .int a2, .int a3, .int a4] h mc ms P :=
  Run.of (d := d_X9_land) (by decide) (mcn rfl (mcn rfl (mcn rfl (mcn rfl (mcn rfl (mnl)))))) (Nat.le_of_ble_eq_true rfl) (fun p e s m args below meth c X hr hn => H (fun b => GX g p l e s m args below meth c d_X9_land 9 mc ms h P (pc_X9_land b)) (fun b h1 cb sb ls st hb => match b, hb with
    | 0, hb => sb_X9_land_0 (p := p) (e := e) (below := below) X hr hn h1 cb sb ls st hb
    | _ + 1, hb => hb.elim))
theorem dX9_ofVillage_0 : decode cX9_ofVillage 0 = .ok (.aload_n 0, 1) := by decide +kernel
theorem dX9_ofVillage_1 : decode cX9_ofVillage 1 = .ok (.getfield 42, 3) := by decide +kernel
theorem dX9_ofVillage_4 : decode cX9_ofVillage 4 = .ok (.iload_n 1, 1) := by decide +kernel
theorem dX9_ofVillage_5 : decode cX9_ofVillage 5 = .ok (.invokevirtual 103, 3) := by decide +kernel
theorem dX9_ofVillage_8 : decode cX9_ofVillage 8 = .ok (.ifCond .ne 5, 3) := by decide +kernel
theorem dX9_ofVillage_11 : decode cX9_ofVillage 11 = .ok (.iconst (-1), 1) := by decide +kernel
theorem dX9_ofVillage_12 : decode cX9_ofVillage 12 = .ok (.ireturn, 1) := by decide +kernel
theorem dX9_ofVillage_13 : decode cX9_ofVillage 13 = .ok (.aload_n 0, 1) := by decide +kernel
theorem dX9_ofVillage_14 : decode cX9_ofVillage 14 = .ok (.getfield 42, 3) := by decide +kernel
theorem dX9_ofVillage_17 : decode cX9_ofVillage 17 = .ok (.getfield 106, 3) := by decide +kernel
theorem dX9_ofVillage_20 : decode cX9_ofVillage 20 = .ok (.iload_n 1, 1) := by decide +kernel
theorem dX9_ofVillage_21 : decode cX9_ofVillage 21 = .ok (.aaload, 1) := by decide +kernel
theorem dX9_ofVillage_22 : decode cX9_ofVillage 22 = .ok (.astore_n 3, 1) := by decide +kernel
theorem dX9_ofVillage_23 : decode cX9_ofVillage 23 = .ok (.aload_n 0, 1) := by decide +kernel
theorem dX9_ofVillage_24 : decode cX9_ofVillage 24 = .ok (.getfield 42, 3) := by decide +kernel
theorem dX9_ofVillage_27 : decode cX9_ofVillage 27 = .ok (.getfield 110, 3) := by decide +kernel
theorem dX9_ofVillage_30 : decode cX9_ofVillage 30 = .ok (.iload_n 1, 1) := by decide +kernel
theorem dX9_ofVillage_31 : decode cX9_ofVillage 31 = .ok (.iaload, 1) := by decide +kernel
theorem dX9_ofVillage_32 : decode cX9_ofVillage 32 = .ok (.istore 4, 2) := by decide +kernel
theorem dX9_ofVillage_34 : decode cX9_ofVillage 34 = .ok (.iload_n 2, 1) := by decide +kernel
theorem dX9_ofVillage_35 : decode cX9_ofVillage 35 = .ok (.tableswitch 88 0 5 #[37, 42, 47, 50, 57, 64], 37) := by decide +kernel
theorem dX9_ofVillage_72 : decode cX9_ofVillage 72 = .ok (.aload_n 3, 1) := by decide +kernel
theorem dX9_ofVillage_73 : decode cX9_ofVillage 73 = .ok (.getfield 113, 3) := by decide +kernel
theorem dX9_ofVillage_76 : decode cX9_ofVillage 76 = .ok (.ireturn, 1) := by decide +kernel
theorem dX9_ofVillage_77 : decode cX9_ofVillage 77 = .ok (.aload_n 3, 1) := by decide +kernel
theorem dX9_ofVillage_78 : decode cX9_ofVillage 78 = .ok (.getfield 118, 3) := by decide +kernel
theorem dX9_ofVillage_81 : decode cX9_ofVillage 81 = .ok (.ireturn, 1) := by decide +kernel
theorem dX9_ofVillage_82 : decode cX9_ofVillage 82 = .ok (.iload 4, 2) := by decide +kernel
theorem dX9_ofVillage_84 : decode cX9_ofVillage 84 = .ok (.ireturn, 1) := by decide +kernel
theorem dX9_ofVillage_85 : decode cX9_ofVillage 85 = .ok (.aload_n 3, 1) := by decide +kernel
theorem dX9_ofVillage_86 : decode cX9_ofVillage 86 = .ok (.iload 4, 2) := by decide +kernel
theorem dX9_ofVillage_88 : decode cX9_ofVillage 88 = .ok (.invokevirtual 121, 3) := by decide +kernel
theorem dX9_ofVillage_91 : decode cX9_ofVillage 91 = .ok (.ireturn, 1) := by decide +kernel
theorem dX9_ofVillage_92 : decode cX9_ofVillage 92 = .ok (.aload_n 3, 1) := by decide +kernel
theorem dX9_ofVillage_93 : decode cX9_ofVillage 93 = .ok (.iload 4, 2) := by decide +kernel
theorem dX9_ofVillage_95 : decode cX9_ofVillage 95 = .ok (.invokevirtual 124, 3) := by decide +kernel
theorem dX9_ofVillage_98 : decode cX9_ofVillage 98 = .ok (.ireturn, 1) := by decide +kernel
theorem dX9_ofVillage_99 : decode cX9_ofVillage 99 = .ok (.aload_n 0, 1) := by decide +kernel
theorem dX9_ofVillage_100 : decode cX9_ofVillage 100 = .ok (.getfield 42, 3) := by decide +kernel
theorem dX9_ofVillage_103 : decode cX9_ofVillage 103 = .ok (.aload_n 0, 1) := by decide +kernel
theorem dX9_ofVillage_104 : decode cX9_ofVillage 104 = .ok (.getfield 42, 3) := by decide +kernel
theorem dX9_ofVillage_107 : decode cX9_ofVillage 107 = .ok (.getfield 110, 3) := by decide +kernel
theorem dX9_ofVillage_110 : decode cX9_ofVillage 110 = .ok (.iload_n 1, 1) := by decide +kernel
theorem dX9_ofVillage_111 : decode cX9_ofVillage 111 = .ok (.invokevirtual 127, 3) := by decide +kernel
theorem dX9_ofVillage_114 : decode cX9_ofVillage 114 = .ok (.ifCond .eq 7, 3) := by decide +kernel
theorem dX9_ofVillage_117 : decode cX9_ofVillage 117 = .ok (.iconst 1, 1) := by decide +kernel
theorem dX9_ofVillage_118 : decode cX9_ofVillage 118 = .ok (.goto 4, 3) := by decide +kernel
theorem dX9_ofVillage_121 : decode cX9_ofVillage 121 = .ok (.iconst 0, 1) := by decide +kernel
theorem dX9_ofVillage_122 : decode cX9_ofVillage 122 = .ok (.ireturn, 1) := by decide +kernel
theorem dX9_ofVillage_123 : decode cX9_ofVillage 123 = .ok (.bipush (-2), 2) := by decide +kernel
theorem dX9_ofVillage_125 : decode cX9_ofVillage 125 = .ok (.ireturn, 1) := by decide +kernel
def bk_X9_ofVillage_0 (l : Launch) (g : Gm) (G : Nat → CT) (P : PT) : CT := (oALd 0 (oGet [9] 8 (oILd 1 (oCallV l g [(2, d_X2_hasVillage)] 2 (oIf (fun x => x = 0) (oPush (.int (-1)) (oIRet P)) (oALd 0 (oGet [9] 8 (oGet [2] 0 (oILd 1 (oRAL g 3 (oASt 3 (oALd 0 (oGet [9] 8 (oGet [2] 3 (oILd 1 (oIAL g (oISt 4 (oILd 2 (oSw [(0, (oALd 3 (oGet [4, 0, 1] 0 (oIRet P)))), (1, (oALd 3 (oGet [4, 0, 1] 5 (oIRet P)))), (2, (oILd 4 (oIRet P))), (3, (oALd 3 (oILd 4 (oCallV l g [(4, d_X4_valueAt), (0, d_X4_valueAt), (1, d_X4_valueAt)] 2 (oIRet P))))), (4, (oALd 3 (oILd 4 (oCallV l g [(4, d_X4_worthAt), (0, d_X4_worthAt), (1, d_X4_worthAt)] 2 (oIRet P))))), (5, (oALd 0 (oGet [9] 8 (oALd 0 (oGet [9] 8 (oGet [2] 3 (oILd 1 (oCallV l g [(2, d_X2_goesOn)] 3 (oIf (fun x => x = 0) (oPush (.int (0)) (oIRet P)) (oPush (.int (1)) (oGo (oIRet P))))))))))))] (oPush (.int (-2)) (oIRet P)))))))))))))))))))))
def bk_X9_ofVillage (l : Launch) (g : Gm) (b : Nat) (G : Nat → CT) (P : PT) : CT := match b with
  | 0 => bk_X9_ofVillage_0 l g G P
  | _ => fun _ _ _ _ _ => False
def pc_X9_ofVillage (b : Nat) : Nat := match b with
  | 0 => 0
  | _ => 0
set_option maxRecDepth 100000 in
theorem sb_X9_ofVillage_0 {p : Program} {l : Launch} {e : Env} {s : State} {m : MethodId} {args : Array Value} {below : List Frame} {meth : Method} {c : Code} {g : Gm} {h0 : Hp} {P : PT} {mc ms : Nat} (X : Cx g p s m args meth c (Adom h0 s.heap.size) cX9_ofVillage RX9 5) (hr : meth.sig.returnType = some .int) (hn : meth.name = "ofVillage") : SX g p l e s m args below meth c d_X9_ofVillage 5 mc ms h0 P (bk_X9_ofVillage_0 l g (fun b => GX g p l e s m args below meth c d_X9_ofVillage 5 mc ms h0 P (pc_X9_ofVillage b)) P) 0 := (s_aload_n X dX9_ofVillage_0 rfl (s_get X dX9_ofVillage_1 (mcn (⟨_, _, _, _, rfl, inU_X9, by decide, uw_172, rfl⟩) (mnl)) (s_iload_n X dX9_ofVillage_4 rfl (s_callV X dX9_ofVillage_5 (mv (vok_V X rfl uw_382 uw_383 uw_384 uw_3 ci_X2_hasVillage yok_X2_hasVillage ⟨Nat.le_of_ble_eq_true rfl, Nat.le_of_ble_eq_true rfl⟩) mv0) (s_if_ne X dX9_ofVillage_8 (by decide) (s_aload_n X dX9_ofVillage_13 rfl (s_get X dX9_ofVillage_14 (mcn (⟨_, _, _, _, rfl, inU_X9, by decide, uw_172, rfl⟩) (mnl)) (s_get X dX9_ofVillage_17 (mcn (⟨_, _, _, _, rfl, inU_X2, by decide, uw_80, rfl⟩) (mnl)) (s_iload_n X dX9_ofVillage_20 rfl (s_aaload X (t := 3) (fun _ => rfl) rfl dX9_ofVillage_21 (s_astore_n X dX9_ofVillage_22 rfl (by decide) (s_aload_n X dX9_ofVillage_23 rfl (s_get X dX9_ofVillage_24 (mcn (⟨_, _, _, _, rfl, inU_X9, by decide, uw_172, rfl⟩) (mnl)) (s_get X dX9_ofVillage_27 (mcn (⟨_, _, _, _, rfl, inU_X2, by decide, uw_86, rfl⟩) (mnl)) (s_iload_n X dX9_ofVillage_30 rfl (s_iaload X dX9_ofVillage_31 (s_istore X dX9_ofVillage_32 (by decide) (s_iload_n X dX9_ofVillage_34 rfl (s_tsw X dX9_ofVillage_35 (by decide) rfl ⟨⟨rfl, 37, 72, rfl, by decide, (s_aload_n X dX9_ofVillage_72 rfl (s_get X dX9_ofVillage_73 (mcn (⟨_, _, _, _, rfl, inU_X4, by decide, uw_273, rfl⟩) (mcn (⟨_, _, _, _, rfl, inU_X0, by decide, uw_273, rfl⟩) (mcn (⟨_, _, _, _, rfl, inU_X1, by decide, uw_273, rfl⟩) (mnl)))) (s_iret X hr dX9_ofVillage_76)))⟩, ⟨⟨rfl, 42, 77, rfl, by decide, (s_aload_n X dX9_ofVillage_77 rfl (s_get X dX9_ofVillage_78 (mcn (⟨_, _, _, _, rfl, inU_X4, by decide, uw_287, rfl⟩) (mcn (⟨_, _, _, _, rfl, inU_X0, by decide, uw_287, rfl⟩) (mcn (⟨_, _, _, _, rfl, inU_X1, by decide, uw_287, rfl⟩) (mnl)))) (s_iret X hr dX9_ofVillage_81)))⟩, ⟨⟨rfl, 47, 82, rfl, by decide, (s_iload X dX9_ofVillage_82 (s_iret X hr dX9_ofVillage_84))⟩, ⟨⟨rfl, 50, 85, rfl, by decide, (s_aload_n X dX9_ofVillage_85 rfl (s_iload X dX9_ofVillage_86 (s_callV X dX9_ofVillage_88 (mv (vok_U X (owner := RX4) (x := ⟨"VillageCuts$Plain", "valueAt", "(I)I"⟩) rfl rfl uw_386 uw_389 uw_388 uw_387 uw_9 ci_X4_valueAt (by decide +kernel) ⟨Nat.le_of_ble_eq_true rfl, Nat.le_of_ble_eq_true rfl⟩) (mv (vok_U X (owner := RX4) (x := ⟨"VillageCuts$Plain", "valueAt", "(I)I"⟩) rfl rfl uw_386 uw_389 uw_390 uw_387 uw_9 ci_X4_valueAt (by decide +kernel) ⟨Nat.le_of_ble_eq_true rfl, Nat.le_of_ble_eq_true rfl⟩) (mv (vok_U X (owner := RX4) (x := ⟨"VillageCuts$Plain", "valueAt", "(I)I"⟩) rfl rfl uw_386 uw_389 uw_391 uw_387 uw_9 ci_X4_valueAt (by decide +kernel) ⟨Nat.le_of_ble_eq_true rfl, Nat.le_of_ble_eq_true rfl⟩) (mv0)))) (s_iret X hr dX9_ofVillage_91))))⟩, ⟨⟨rfl, 57, 92, rfl, by decide, (s_aload_n X dX9_ofVillage_92 rfl (s_iload X dX9_ofVillage_93 (s_callV X dX9_ofVillage_95 (mv (vok_U X (owner := RX4) (x := ⟨"VillageCuts$Plain", "worthAt", "(I)I"⟩) rfl rfl uw_397 uw_400 uw_399 uw_398 uw_9 ci_X4_worthAt (by decide +kernel) ⟨Nat.le_of_ble_eq_true rfl, Nat.le_of_ble_eq_true rfl⟩) (mv (vok_U X (owner := RX4) (x := ⟨"VillageCuts$Plain", "worthAt", "(I)I"⟩) rfl rfl uw_397 uw_400 uw_401 uw_398 uw_9 ci_X4_worthAt (by decide +kernel) ⟨Nat.le_of_ble_eq_true rfl, Nat.le_of_ble_eq_true rfl⟩) (mv (vok_U X (owner := RX4) (x := ⟨"VillageCuts$Plain", "worthAt", "(I)I"⟩) rfl rfl uw_397 uw_400 uw_402 uw_398 uw_9 ci_X4_worthAt (by decide +kernel) ⟨Nat.le_of_ble_eq_true rfl, Nat.le_of_ble_eq_true rfl⟩) (mv0)))) (s_iret X hr dX9_ofVillage_98))))⟩, ⟨⟨rfl, 64, 99, rfl, by decide, (s_aload_n X dX9_ofVillage_99 rfl (s_get X dX9_ofVillage_100 (mcn (⟨_, _, _, _, rfl, inU_X9, by decide, uw_172, rfl⟩) (mnl)) (s_aload_n X dX9_ofVillage_103 rfl (s_get X dX9_ofVillage_104 (mcn (⟨_, _, _, _, rfl, inU_X9, by decide, uw_172, rfl⟩) (mnl)) (s_get X dX9_ofVillage_107 (mcn (⟨_, _, _, _, rfl, inU_X2, by decide, uw_86, rfl⟩) (mnl)) (s_iload_n X dX9_ofVillage_110 rfl (s_callV X dX9_ofVillage_111 (mv (vok_V X rfl uw_408 uw_358 uw_359 uw_3 ci_X2_goesOn yok_X2_goesOn ⟨Nat.le_of_ble_eq_true rfl, Nat.le_of_ble_eq_true rfl⟩) mv0) (s_if_eq X dX9_ofVillage_114 (by decide) (s_iconst X dX9_ofVillage_121 rfl (s_iret X hr dX9_ofVillage_122)) (s_iconst X dX9_ofVillage_117 rfl (s_goto X dX9_ofVillage_118 (by decide) (s_iret X hr dX9_ofVillage_122)))))))))))⟩, trivial⟩⟩⟩⟩⟩⟩ (s_bipush X dX9_ofVillage_123 rfl (s_iret X hr dX9_ofVillage_125)))))))))))))))) (s_iconst X dX9_ofVillage_11 rfl (s_iret X hr dX9_ofVillage_12)))))))
set_option maxRecDepth 100000 in
theorem vc_X9_ofVillage {l : Launch} {g : Gm} {a0 : Nat} {a1 : Int32} {a2 : Int32} {h : Hp} {mc ms : Nat} {P : PT} (H : ∀ G : Nat → CT, (∀ (b : Nat) (h : Hp) (cb sb : Nat) (ls : LocS) (st : List Value), bk_X9_ofVillage l g b G P h cb sb ls st → G b h cb sb ls st) → G 0 h mc ms [some (.ref a0), some (.int a1), some (.int a2), none, none] []) : Run l g d_X9_ofVillage [.ref a0, .int a1, .int a2] h mc ms P :=
  Run.of (d := d_X9_ofVillage) (by decide) (mcn rfl (mcn rfl (mcn rfl (mnl)))) (Nat.le_of_ble_eq_true rfl) (fun p e s m args below meth c X hr hn => H (fun b => GX g p l e s m args below meth c d_X9_ofVillage 5 mc ms h P (pc_X9_ofVillage b)) (fun b h1 cb sb ls st hb => match b, hb with
    | 0, hb => sb_X9_ofVillage_0 (p := p) (e := e) (below := below) X hr hn h1 cb sb ls st hb
    | _ + 1, hb => hb.elim))
theorem dX9_thing_0 : decode cX9_thing 0 = .ok (.aload_n 0, 1) := by decide +kernel
theorem dX9_thing_1 : decode cX9_thing 1 = .ok (.getfield 42, 3) := by decide +kernel
theorem dX9_thing_4 : decode cX9_thing 4 = .ok (.iload_n 1, 1) := by decide +kernel
theorem dX9_thing_5 : decode cX9_thing 5 = .ok (.iload_n 2, 1) := by decide +kernel
theorem dX9_thing_6 : decode cX9_thing 6 = .ok (.invokevirtual 131, 3) := by decide +kernel
theorem dX9_thing_9 : decode cX9_thing 9 = .ok (.ifCond .ne 5, 3) := by decide +kernel
theorem dX9_thing_12 : decode cX9_thing 12 = .ok (.iconst (-1), 1) := by decide +kernel
theorem dX9_thing_13 : decode cX9_thing 13 = .ok (.ireturn, 1) := by decide +kernel
theorem dX9_thing_14 : decode cX9_thing 14 = .ok (.iload_n 3, 1) := by decide +kernel
theorem dX9_thing_15 : decode cX9_thing 15 = .ok (.ifCond .lt 15, 3) := by decide +kernel
theorem dX9_thing_18 : decode cX9_thing 18 = .ok (.iload_n 3, 1) := by decide +kernel
theorem dX9_thing_19 : decode cX9_thing 19 = .ok (.iconst 2, 1) := by decide +kernel
theorem dX9_thing_20 : decode cX9_thing 20 = .ok (.if_icmp .le 13, 3) := by decide +kernel
theorem dX9_thing_23 : decode cX9_thing 23 = .ok (.iload_n 3, 1) := by decide +kernel
theorem dX9_thing_24 : decode cX9_thing 24 = .ok (.invokestatic 135, 3) := by decide +kernel
theorem dX9_thing_27 : decode cX9_thing 27 = .ok (.ifCond .ne 6, 3) := by decide +kernel
theorem dX9_thing_30 : decode cX9_thing 30 = .ok (.bipush (-2), 2) := by decide +kernel
theorem dX9_thing_32 : decode cX9_thing 32 = .ok (.ireturn, 1) := by decide +kernel
theorem dX9_thing_33 : decode cX9_thing 33 = .ok (.aload_n 0, 1) := by decide +kernel
theorem dX9_thing_34 : decode cX9_thing 34 = .ok (.getfield 42, 3) := by decide +kernel
theorem dX9_thing_37 : decode cX9_thing 37 = .ok (.getfield 106, 3) := by decide +kernel
theorem dX9_thing_40 : decode cX9_thing 40 = .ok (.iload_n 1, 1) := by decide +kernel
theorem dX9_thing_41 : decode cX9_thing 41 = .ok (.aaload, 1) := by decide +kernel
theorem dX9_thing_42 : decode cX9_thing 42 = .ok (.astore 4, 2) := by decide +kernel
theorem dX9_thing_44 : decode cX9_thing 44 = .ok (.iload_n 3, 1) := by decide +kernel
theorem dX9_thing_45 : decode cX9_thing 45 = .ok (.ifCond .ne 11, 3) := by decide +kernel
theorem dX9_thing_48 : decode cX9_thing 48 = .ok (.aload 4, 2) := by decide +kernel
theorem dX9_thing_50 : decode cX9_thing 50 = .ok (.getfield 138, 3) := by decide +kernel
theorem dX9_thing_53 : decode cX9_thing 53 = .ok (.iload_n 2, 1) := by decide +kernel
theorem dX9_thing_54 : decode cX9_thing 54 = .ok (.iaload, 1) := by decide +kernel
theorem dX9_thing_55 : decode cX9_thing 55 = .ok (.ireturn, 1) := by decide +kernel
theorem dX9_thing_56 : decode cX9_thing 56 = .ok (.iload_n 3, 1) := by decide +kernel
theorem dX9_thing_57 : decode cX9_thing 57 = .ok (.iconst 1, 1) := by decide +kernel
theorem dX9_thing_58 : decode cX9_thing 58 = .ok (.if_icmp .ne 11, 3) := by decide +kernel
theorem dX9_thing_61 : decode cX9_thing 61 = .ok (.aload 4, 2) := by decide +kernel
theorem dX9_thing_63 : decode cX9_thing 63 = .ok (.getfield 141, 3) := by decide +kernel
theorem dX9_thing_66 : decode cX9_thing 66 = .ok (.iload_n 2, 1) := by decide +kernel
theorem dX9_thing_67 : decode cX9_thing 67 = .ok (.iaload, 1) := by decide +kernel
theorem dX9_thing_68 : decode cX9_thing 68 = .ok (.ireturn, 1) := by decide +kernel
theorem dX9_thing_69 : decode cX9_thing 69 = .ok (.iload_n 3, 1) := by decide +kernel
theorem dX9_thing_70 : decode cX9_thing 70 = .ok (.iconst 2, 1) := by decide +kernel
theorem dX9_thing_71 : decode cX9_thing 71 = .ok (.if_icmp .ne 10, 3) := by decide +kernel
theorem dX9_thing_74 : decode cX9_thing 74 = .ok (.aload 4, 2) := by decide +kernel
theorem dX9_thing_76 : decode cX9_thing 76 = .ok (.iload_n 2, 1) := by decide +kernel
theorem dX9_thing_77 : decode cX9_thing 77 = .ok (.invokevirtual 144, 3) := by decide +kernel
theorem dX9_thing_80 : decode cX9_thing 80 = .ok (.ireturn, 1) := by decide +kernel
theorem dX9_thing_81 : decode cX9_thing 81 = .ok (.aload_n 0, 1) := by decide +kernel
theorem dX9_thing_82 : decode cX9_thing 82 = .ok (.getfield 42, 3) := by decide +kernel
theorem dX9_thing_85 : decode cX9_thing 85 = .ok (.iload_n 3, 1) := by decide +kernel
theorem dX9_thing_86 : decode cX9_thing 86 = .ok (.bipush 10, 2) := by decide +kernel
theorem dX9_thing_88 : decode cX9_thing 88 = .ok (.isub, 1) := by decide +kernel
theorem dX9_thing_89 : decode cX9_thing 89 = .ok (.invokevirtual 103, 3) := by decide +kernel
theorem dX9_thing_92 : decode cX9_thing 92 = .ok (.ifCond .eq 18, 3) := by decide +kernel
theorem dX9_thing_95 : decode cX9_thing 95 = .ok (.aload 4, 2) := by decide +kernel
theorem dX9_thing_97 : decode cX9_thing 97 = .ok (.getfield 147, 3) := by decide +kernel
theorem dX9_thing_100 : decode cX9_thing 100 = .ok (.iload_n 2, 1) := by decide +kernel
theorem dX9_thing_101 : decode cX9_thing 101 = .ok (.aaload, 1) := by decide +kernel
theorem dX9_thing_102 : decode cX9_thing 102 = .ok (.iload_n 3, 1) := by decide +kernel
theorem dX9_thing_103 : decode cX9_thing 103 = .ok (.bipush 10, 2) := by decide +kernel
theorem dX9_thing_105 : decode cX9_thing 105 = .ok (.isub, 1) := by decide +kernel
theorem dX9_thing_106 : decode cX9_thing 106 = .ok (.iaload, 1) := by decide +kernel
theorem dX9_thing_107 : decode cX9_thing 107 = .ok (.goto 5, 3) := by decide +kernel
theorem dX9_thing_110 : decode cX9_thing 110 = .ok (.bipush (-9), 2) := by decide +kernel
theorem dX9_thing_112 : decode cX9_thing 112 = .ok (.ireturn, 1) := by decide +kernel
def bk_X9_thing_0 (l : Launch) (g : Gm) (G : Nat → CT) (P : PT) : CT := (oALd 0 (oGet [9] 8 (oILd 1 (oILd 2 (oCallV l g [(2, d_X2_hasThing)] 3 (oIf (fun x => x = 0) (oPush (.int (-1)) (oIRet P)) (oILd 3 (oIf (fun x => x < 0) (oPush (.int (-2)) (oIRet P)) (oILd 3 (oPush (.int (2)) (oCmp (fun x y => x ≤ y) (G 1) (oILd 3 (oCall l g d_X9_isOfVillage 1 (oIf (fun x => x = 0) (oPush (.int (-2)) (oIRet P)) (G 1)))))))))))))))
def bk_X9_thing_1 (l : Launch) (g : Gm) (G : Nat → CT) (P : PT) : CT := (oALd 0 (oGet [9] 8 (oGet [2] 0 (oILd 1 (oRAL g 3 (oASt 4 (oILd 3 (oIf (fun x => x = 0) (oALd 4 (oGet [4, 0, 1] 1 (oILd 2 (oIAL g (oIRet P))))) (oILd 3 (oPush (.int (1)) (oCmp (fun x y => x = y) (oALd 4 (oGet [4, 0, 1] 2 (oILd 2 (oIAL g (oIRet P))))) (oILd 3 (oPush (.int (2)) (oCmp (fun x y => x = y) (oALd 4 (oILd 2 (oCallV l g [(4, d_X4_needInAll), (0, d_X4_needInAll), (1, d_X4_needInAll)] 2 (oIRet P)))) (oALd 0 (oGet [9] 8 (oILd 3 (oPush (.int (10)) (oBin (fun x y => x - y) (oCallV l g [(2, d_X2_hasVillage)] 2 (oIf (fun x => x = 0) (oPush (.int (-9)) (oIRet P)) (oALd 4 (oGet [4, 0, 1] 3 (oILd 2 (oRAL g 6 (oILd 3 (oPush (.int (10)) (oBin (fun x y => x - y) (oIAL g (oGo (oIRet P)))))))))))))))))))))))))))))))
def bk_X9_thing (l : Launch) (g : Gm) (b : Nat) (G : Nat → CT) (P : PT) : CT := match b with
  | 0 => bk_X9_thing_0 l g G P
  | 1 => bk_X9_thing_1 l g G P
  | _ => fun _ _ _ _ _ => False
def pc_X9_thing (b : Nat) : Nat := match b with
  | 0 => 0
  | 1 => 33
  | _ => 0
set_option maxRecDepth 100000 in
theorem sb_X9_thing_0 {p : Program} {l : Launch} {e : Env} {s : State} {m : MethodId} {args : Array Value} {below : List Frame} {meth : Method} {c : Code} {g : Gm} {h0 : Hp} {P : PT} {mc ms : Nat} (X : Cx g p s m args meth c (Adom h0 s.heap.size) cX9_thing RX9 5) (hr : meth.sig.returnType = some .int) (hn : meth.name = "thing") : SX g p l e s m args below meth c d_X9_thing 5 mc ms h0 P (bk_X9_thing_0 l g (fun b => GX g p l e s m args below meth c d_X9_thing 5 mc ms h0 P (pc_X9_thing b)) P) 0 := (s_aload_n X dX9_thing_0 rfl (s_get X dX9_thing_1 (mcn (⟨_, _, _, _, rfl, inU_X9, by decide, uw_172, rfl⟩) (mnl)) (s_iload_n X dX9_thing_4 rfl (s_iload_n X dX9_thing_5 rfl (s_callV X dX9_thing_6 (mv (vok_V X rfl uw_413 uw_414 uw_415 uw_3 ci_X2_hasThing yok_X2_hasThing ⟨Nat.le_of_ble_eq_true rfl, Nat.le_of_ble_eq_true rfl⟩) mv0) (s_if_ne X dX9_thing_9 (by decide) (s_iload_n X dX9_thing_14 rfl (s_if_lt X dX9_thing_15 (by decide) (s_bipush X dX9_thing_30 rfl (s_iret X hr dX9_thing_32)) (s_iload_n X dX9_thing_18 rfl (s_iconst X dX9_thing_19 rfl (s_icmp_le X dX9_thing_20 (by decide) Sd.rf (s_iload_n X dX9_thing_23 rfl (s_callS X dX9_thing_24 uw_418 uw_419 uw_1 ci_X9_isOfVillage yok_X9_isOfVillage ⟨Nat.le_of_ble_eq_true rfl, Nat.le_of_ble_eq_true rfl⟩ (s_if_ne X dX9_thing_27 (by decide) Sd.rf (s_bipush X dX9_thing_30 rfl (s_iret X hr dX9_thing_32)))))))))) (s_iconst X dX9_thing_12 rfl (s_iret X hr dX9_thing_13))))))))
set_option maxRecDepth 100000 in
theorem sb_X9_thing_1 {p : Program} {l : Launch} {e : Env} {s : State} {m : MethodId} {args : Array Value} {below : List Frame} {meth : Method} {c : Code} {g : Gm} {h0 : Hp} {P : PT} {mc ms : Nat} (X : Cx g p s m args meth c (Adom h0 s.heap.size) cX9_thing RX9 5) (hr : meth.sig.returnType = some .int) (hn : meth.name = "thing") : SX g p l e s m args below meth c d_X9_thing 5 mc ms h0 P (bk_X9_thing_1 l g (fun b => GX g p l e s m args below meth c d_X9_thing 5 mc ms h0 P (pc_X9_thing b)) P) 33 := (s_aload_n X dX9_thing_33 rfl (s_get X dX9_thing_34 (mcn (⟨_, _, _, _, rfl, inU_X9, by decide, uw_172, rfl⟩) (mnl)) (s_get X dX9_thing_37 (mcn (⟨_, _, _, _, rfl, inU_X2, by decide, uw_80, rfl⟩) (mnl)) (s_iload_n X dX9_thing_40 rfl (s_aaload X (t := 3) (fun _ => rfl) rfl dX9_thing_41 (s_astore X dX9_thing_42 (by decide) (s_iload_n X dX9_thing_44 rfl (s_if_ne X dX9_thing_45 (by decide) (s_iload_n X dX9_thing_56 rfl (s_iconst X dX9_thing_57 rfl (s_icmp_ne X dX9_thing_58 (by decide) (s_iload_n X dX9_thing_69 rfl (s_iconst X dX9_thing_70 rfl (s_icmp_ne X dX9_thing_71 (by decide) (s_aload_n X dX9_thing_81 rfl (s_get X dX9_thing_82 (mcn (⟨_, _, _, _, rfl, inU_X9, by decide, uw_172, rfl⟩) (mnl)) (s_iload_n X dX9_thing_85 rfl (s_bipush X dX9_thing_86 rfl (s_isub X dX9_thing_88 (s_callV X dX9_thing_89 (mv (vok_V X rfl uw_382 uw_383 uw_384 uw_3 ci_X2_hasVillage yok_X2_hasVillage ⟨Nat.le_of_ble_eq_true rfl, Nat.le_of_ble_eq_true rfl⟩) mv0) (s_if_eq X dX9_thing_92 (by decide) (s_bipush X dX9_thing_110 rfl (s_iret X hr dX9_thing_112)) (s_aload X dX9_thing_95 (s_get X dX9_thing_97 (mcn (⟨_, _, _, _, rfl, inU_X4, by decide, uw_281, rfl⟩) (mcn (⟨_, _, _, _, rfl, inU_X0, by decide, uw_281, rfl⟩) (mcn (⟨_, _, _, _, rfl, inU_X1, by decide, uw_281, rfl⟩) (mnl)))) (s_iload_n X dX9_thing_100 rfl (s_aaload X (t := 6) (fun _ => rfl) rfl dX9_thing_101 (s_iload_n X dX9_thing_102 rfl (s_bipush X dX9_thing_103 rfl (s_isub X dX9_thing_105 (s_iaload X dX9_thing_106 (s_goto X dX9_thing_107 (by decide) (s_iret X hr dX9_thing_112))))))))))))))))) (s_aload X dX9_thing_74 (s_iload_n X dX9_thing_76 rfl (s_callV X dX9_thing_77 (mv (vok_U X (owner := RX4) (x := ⟨"VillageCuts$Plain", "needInAll", "(I)I"⟩) rfl rfl uw_421 uw_424 uw_423 uw_422 uw_9 ci_X4_needInAll (by decide +kernel) ⟨Nat.le_of_ble_eq_true rfl, Nat.le_of_ble_eq_true rfl⟩) (mv (vok_U X (owner := RX4) (x := ⟨"VillageCuts$Plain", "needInAll", "(I)I"⟩) rfl rfl uw_421 uw_424 uw_425 uw_422 uw_9 ci_X4_needInAll (by decide +kernel) ⟨Nat.le_of_ble_eq_true rfl, Nat.le_of_ble_eq_true rfl⟩) (mv (vok_U X (owner := RX4) (x := ⟨"VillageCuts$Plain", "needInAll", "(I)I"⟩) rfl rfl uw_421 uw_424 uw_426 uw_422 uw_9 ci_X4_needInAll (by decide +kernel) ⟨Nat.le_of_ble_eq_true rfl, Nat.le_of_ble_eq_true rfl⟩) (mv0)))) (s_iret X hr dX9_thing_80))))))) (s_aload X dX9_thing_61 (s_get X dX9_thing_63 (mcn (⟨_, _, _, _, rfl, inU_X4, by decide, uw_278, rfl⟩) (mcn (⟨_, _, _, _, rfl, inU_X0, by decide, uw_278, rfl⟩) (mcn (⟨_, _, _, _, rfl, inU_X1, by decide, uw_278, rfl⟩) (mnl)))) (s_iload_n X dX9_thing_66 rfl (s_iaload X dX9_thing_67 (s_iret X hr dX9_thing_68)))))))) (s_aload X dX9_thing_48 (s_get X dX9_thing_50 (mcn (⟨_, _, _, _, rfl, inU_X4, by decide, uw_275, rfl⟩) (mcn (⟨_, _, _, _, rfl, inU_X0, by decide, uw_275, rfl⟩) (mcn (⟨_, _, _, _, rfl, inU_X1, by decide, uw_275, rfl⟩) (mnl)))) (s_iload_n X dX9_thing_53 rfl (s_iaload X dX9_thing_54 (s_iret X hr dX9_thing_55)))))))))))))
set_option maxRecDepth 100000 in
theorem vc_X9_thing {l : Launch} {g : Gm} {a0 : Nat} {a1 : Int32} {a2 : Int32} {a3 : Int32} {h : Hp} {mc ms : Nat} {P : PT} (H : ∀ G : Nat → CT, (∀ (b : Nat) (h : Hp) (cb sb : Nat) (ls : LocS) (st : List Value), bk_X9_thing l g b G P h cb sb ls st → G b h cb sb ls st) → G 0 h mc ms [some (.ref a0), some (.int a1), some (.int a2), some (.int a3), none] []) : Run l g d_X9_thing [.ref a0, .int a1, .int a2, .int a3] h mc ms P :=
  Run.of (d := d_X9_thing) (by decide) (mcn rfl (mcn rfl (mcn rfl (mcn rfl (mnl))))) (Nat.le_of_ble_eq_true rfl) (fun p e s m args below meth c X hr hn => H (fun b => GX g p l e s m args below meth c d_X9_thing 5 mc ms h P (pc_X9_thing b)) (fun b h1 cb sb ls st hb => match b, hb with
    | 0, hb => sb_X9_thing_0 (p := p) (e := e) (below := below) X hr hn h1 cb sb ls st hb
    | 1, hb => sb_X9_thing_1 (p := p) (e := e) (below := below) X hr hn h1 cb sb ls st hb
    | _ + 2, hb => hb.elim))
theorem dX9_ahead_0 : decode cX9_ahead 0 = .ok (.aload_n 0, 1) := by decide +kernel
theorem dX9_ahead_1 : decode cX9_ahead 1 = .ok (.getfield 42, 3) := by decide +kernel
theorem dX9_ahead_4 : decode cX9_ahead 4 = .ok (.iload_n 1, 1) := by decide +kernel
theorem dX9_ahead_5 : decode cX9_ahead 5 = .ok (.iload_n 2, 1) := by decide +kernel
theorem dX9_ahead_6 : decode cX9_ahead 6 = .ok (.invokevirtual 131, 3) := by decide +kernel
theorem dX9_ahead_9 : decode cX9_ahead 9 = .ok (.ifCond .eq 16, 3) := by decide +kernel
theorem dX9_ahead_12 : decode cX9_ahead 12 = .ok (.aload_n 0, 1) := by decide +kernel
theorem dX9_ahead_13 : decode cX9_ahead 13 = .ok (.getfield 42, 3) := by decide +kernel
theorem dX9_ahead_16 : decode cX9_ahead 16 = .ok (.iload_n 3, 1) := by decide +kernel
theorem dX9_ahead_17 : decode cX9_ahead 17 = .ok (.iload 4, 2) := by decide +kernel
theorem dX9_ahead_19 : decode cX9_ahead 19 = .ok (.invokevirtual 131, 3) := by decide +kernel
theorem dX9_ahead_22 : decode cX9_ahead 22 = .ok (.ifCond .ne 5, 3) := by decide +kernel
theorem dX9_ahead_25 : decode cX9_ahead 25 = .ok (.iconst (-1), 1) := by decide +kernel
theorem dX9_ahead_26 : decode cX9_ahead 26 = .ok (.ireturn, 1) := by decide +kernel
theorem dX9_ahead_27 : decode cX9_ahead 27 = .ok (.iload_n 1, 1) := by decide +kernel
theorem dX9_ahead_28 : decode cX9_ahead 28 = .ok (.iload_n 3, 1) := by decide +kernel
theorem dX9_ahead_29 : decode cX9_ahead 29 = .ok (.if_icmp .ne 11, 3) := by decide +kernel
theorem dX9_ahead_32 : decode cX9_ahead 32 = .ok (.iload_n 2, 1) := by decide +kernel
theorem dX9_ahead_33 : decode cX9_ahead 33 = .ok (.iload 4, 2) := by decide +kernel
theorem dX9_ahead_35 : decode cX9_ahead 35 = .ok (.if_icmp .ne 5, 3) := by decide +kernel
theorem dX9_ahead_38 : decode cX9_ahead 38 = .ok (.iconst 0, 1) := by decide +kernel
theorem dX9_ahead_39 : decode cX9_ahead 39 = .ok (.ireturn, 1) := by decide +kernel
theorem dX9_ahead_40 : decode cX9_ahead 40 = .ok (.aload_n 0, 1) := by decide +kernel
theorem dX9_ahead_41 : decode cX9_ahead 41 = .ok (.getfield 42, 3) := by decide +kernel
theorem dX9_ahead_44 : decode cX9_ahead 44 = .ok (.iload_n 1, 1) := by decide +kernel
theorem dX9_ahead_45 : decode cX9_ahead 45 = .ok (.iload_n 2, 1) := by decide +kernel
theorem dX9_ahead_46 : decode cX9_ahead 46 = .ok (.iload_n 3, 1) := by decide +kernel
theorem dX9_ahead_47 : decode cX9_ahead 47 = .ok (.iload 4, 2) := by decide +kernel
theorem dX9_ahead_49 : decode cX9_ahead 49 = .ok (.invokevirtual 150, 3) := by decide +kernel
theorem dX9_ahead_52 : decode cX9_ahead 52 = .ok (.ifCond .eq 5, 3) := by decide +kernel
theorem dX9_ahead_55 : decode cX9_ahead 55 = .ok (.iconst 1, 1) := by decide +kernel
theorem dX9_ahead_56 : decode cX9_ahead 56 = .ok (.ireturn, 1) := by decide +kernel
theorem dX9_ahead_57 : decode cX9_ahead 57 = .ok (.aload_n 0, 1) := by decide +kernel
theorem dX9_ahead_58 : decode cX9_ahead 58 = .ok (.getfield 42, 3) := by decide +kernel
theorem dX9_ahead_61 : decode cX9_ahead 61 = .ok (.iload_n 3, 1) := by decide +kernel
theorem dX9_ahead_62 : decode cX9_ahead 62 = .ok (.iload 4, 2) := by decide +kernel
theorem dX9_ahead_64 : decode cX9_ahead 64 = .ok (.iload_n 1, 1) := by decide +kernel
theorem dX9_ahead_65 : decode cX9_ahead 65 = .ok (.iload_n 2, 1) := by decide +kernel
theorem dX9_ahead_66 : decode cX9_ahead 66 = .ok (.invokevirtual 150, 3) := by decide +kernel
theorem dX9_ahead_69 : decode cX9_ahead 69 = .ok (.ifCond .eq 7, 3) := by decide +kernel
theorem dX9_ahead_72 : decode cX9_ahead 72 = .ok (.iconst 2, 1) := by decide +kernel
theorem dX9_ahead_73 : decode cX9_ahead 73 = .ok (.goto 4, 3) := by decide +kernel
theorem dX9_ahead_76 : decode cX9_ahead 76 = .ok (.iconst 3, 1) := by decide +kernel
theorem dX9_ahead_77 : decode cX9_ahead 77 = .ok (.ireturn, 1) := by decide +kernel
def bk_X9_ahead_0 (l : Launch) (g : Gm) (G : Nat → CT) (P : PT) : CT := (oALd 0 (oGet [9] 8 (oILd 1 (oILd 2 (oCallV l g [(2, d_X2_hasThing)] 3 (oIf (fun x => x = 0) (oPush (.int (-1)) (oIRet P)) (oALd 0 (oGet [9] 8 (oILd 3 (oILd 4 (oCallV l g [(2, d_X2_hasThing)] 3 (oIf (fun x => x = 0) (oPush (.int (-1)) (oIRet P)) (oILd 1 (oILd 3 (oCmp (fun x y => x = y) (oILd 2 (oILd 4 (oCmp (fun x y => x = y) (oPush (.int (0)) (oIRet P)) (G 1)))) (G 1))))))))))))))))
def bk_X9_ahead_1 (l : Launch) (g : Gm) (G : Nat → CT) (P : PT) : CT := (oALd 0 (oGet [9] 8 (oILd 1 (oILd 2 (oILd 3 (oILd 4 (oCallV l g [(2, d_X2_isAhead)] 5 (oIf (fun x => x = 0) (oALd 0 (oGet [9] 8 (oILd 3 (oILd 4 (oILd 1 (oILd 2 (oCallV l g [(2, d_X2_isAhead)] 5 (oIf (fun x => x = 0) (oPush (.int (3)) (oIRet P)) (oPush (.int (2)) (oGo (oIRet P))))))))))) (oPush (.int (1)) (oIRet P))))))))))
def bk_X9_ahead (l : Launch) (g : Gm) (b : Nat) (G : Nat → CT) (P : PT) : CT := match b with
  | 0 => bk_X9_ahead_0 l g G P
  | 1 => bk_X9_ahead_1 l g G P
  | _ => fun _ _ _ _ _ => False
def pc_X9_ahead (b : Nat) : Nat := match b with
  | 0 => 0
  | 1 => 40
  | _ => 0
set_option maxRecDepth 100000 in
theorem sb_X9_ahead_0 {p : Program} {l : Launch} {e : Env} {s : State} {m : MethodId} {args : Array Value} {below : List Frame} {meth : Method} {c : Code} {g : Gm} {h0 : Hp} {P : PT} {mc ms : Nat} (X : Cx g p s m args meth c (Adom h0 s.heap.size) cX9_ahead RX9 5) (hr : meth.sig.returnType = some .int) (hn : meth.name = "ahead") : SX g p l e s m args below meth c d_X9_ahead 5 mc ms h0 P (bk_X9_ahead_0 l g (fun b => GX g p l e s m args below meth c d_X9_ahead 5 mc ms h0 P (pc_X9_ahead b)) P) 0 := (s_aload_n X dX9_ahead_0 rfl (s_get X dX9_ahead_1 (mcn (⟨_, _, _, _, rfl, inU_X9, by decide, uw_172, rfl⟩) (mnl)) (s_iload_n X dX9_ahead_4 rfl (s_iload_n X dX9_ahead_5 rfl (s_callV X dX9_ahead_6 (mv (vok_V X rfl uw_413 uw_414 uw_415 uw_3 ci_X2_hasThing yok_X2_hasThing ⟨Nat.le_of_ble_eq_true rfl, Nat.le_of_ble_eq_true rfl⟩) mv0) (s_if_eq X dX9_ahead_9 (by decide) (s_iconst X dX9_ahead_25 rfl (s_iret X hr dX9_ahead_26)) (s_aload_n X dX9_ahead_12 rfl (s_get X dX9_ahead_13 (mcn (⟨_, _, _, _, rfl, inU_X9, by decide, uw_172, rfl⟩) (mnl)) (s_iload_n X dX9_ahead_16 rfl (s_iload X dX9_ahead_17 (s_callV X dX9_ahead_19 (mv (vok_V X rfl uw_413 uw_414 uw_415 uw_3 ci_X2_hasThing yok_X2_hasThing ⟨Nat.le_of_ble_eq_true rfl, Nat.le_of_ble_eq_true rfl⟩) mv0) (s_if_ne X dX9_ahead_22 (by decide) (s_iload_n X dX9_ahead_27 rfl (s_iload_n X dX9_ahead_28 rfl (s_icmp_ne X dX9_ahead_29 (by decide) Sd.rf (s_iload_n X dX9_ahead_32 rfl (s_iload X dX9_ahead_33 (s_icmp_ne X dX9_ahead_35 (by decide) Sd.rf (s_iconst X dX9_ahead_38 rfl (s_iret X hr dX9_ahead_39)))))))) (s_iconst X dX9_ahead_25 rfl (s_iret X hr dX9_ahead_26))))))))))))))
set_option maxRecDepth 100000 in
theorem sb_X9_ahead_1 {p : Program} {l : Launch} {e : Env} {s : State} {m : MethodId} {args : Array Value} {below : List Frame} {meth : Method} {c : Code} {g : Gm} {h0 : Hp} {P : PT} {mc ms : Nat} (X : Cx g p s m args meth c (Adom h0 s.heap.size) cX9_ahead RX9 5) (hr : meth.sig.returnType = some .int) (hn : meth.name = "ahead") : SX g p l e s m args below meth c d_X9_ahead 5 mc ms h0 P (bk_X9_ahead_1 l g (fun b => GX g p l e s m args below meth c d_X9_ahead 5 mc ms h0 P (pc_X9_ahead b)) P) 40 := (s_aload_n X dX9_ahead_40 rfl (s_get X dX9_ahead_41 (mcn (⟨_, _, _, _, rfl, inU_X9, by decide, uw_172, rfl⟩) (mnl)) (s_iload_n X dX9_ahead_44 rfl (s_iload_n X dX9_ahead_45 rfl (s_iload_n X dX9_ahead_46 rfl (s_iload X dX9_ahead_47 (s_callV X dX9_ahead_49 (mv (vok_V X rfl uw_432 uw_433 uw_434 uw_3 ci_X2_isAhead yok_X2_isAhead ⟨Nat.le_of_ble_eq_true rfl, Nat.le_of_ble_eq_true rfl⟩) mv0) (s_if_eq X dX9_ahead_52 (by decide) (s_aload_n X dX9_ahead_57 rfl (s_get X dX9_ahead_58 (mcn (⟨_, _, _, _, rfl, inU_X9, by decide, uw_172, rfl⟩) (mnl)) (s_iload_n X dX9_ahead_61 rfl (s_iload X dX9_ahead_62 (s_iload_n X dX9_ahead_64 rfl (s_iload_n X dX9_ahead_65 rfl (s_callV X dX9_ahead_66 (mv (vok_V X rfl uw_432 uw_433 uw_434 uw_3 ci_X2_isAhead yok_X2_isAhead ⟨Nat.le_of_ble_eq_true rfl, Nat.le_of_ble_eq_true rfl⟩) mv0) (s_if_eq X dX9_ahead_69 (by decide) (s_iconst X dX9_ahead_76 rfl (s_iret X hr dX9_ahead_77)) (s_iconst X dX9_ahead_72 rfl (s_goto X dX9_ahead_73 (by decide) (s_iret X hr dX9_ahead_77))))))))))) (s_iconst X dX9_ahead_55 rfl (s_iret X hr dX9_ahead_56))))))))))
set_option maxRecDepth 100000 in
theorem vc_X9_ahead {l : Launch} {g : Gm} {a0 : Nat} {a1 : Int32} {a2 : Int32} {a3 : Int32} {a4 : Int32} {h : Hp} {mc ms : Nat} {P : PT} (H : ∀ G : Nat → CT, (∀ (b : Nat) (h : Hp) (cb sb : Nat) (ls : LocS) (st : List Value), bk_X9_ahead l g b G P h cb sb ls st → G b h cb sb ls st) → G 0 h mc ms [some (.ref a0), some (.int a1), some (.int a2), some (.int a3), some (.int a4)] []) : Run l g d_X9_ahead [.ref a0, .int a1, .int a2, .int a3, .int a4] h mc ms P :=
  Run.of (d := d_X9_ahead) (by decide) (mcn rfl (mcn rfl (mcn rfl (mcn rfl (mcn rfl (mnl)))))) (Nat.le_of_ble_eq_true rfl) (fun p e s m args below meth c X hr hn => H (fun b => GX g p l e s m args below meth c d_X9_ahead 5 mc ms h P (pc_X9_ahead b)) (fun b h1 cb sb ls st hb => match b, hb with
    | 0, hb => sb_X9_ahead_0 (p := p) (e := e) (below := below) X hr hn h1 cb sb ls st hb
    | 1, hb => sb_X9_ahead_1 (p := p) (e := e) (below := below) X hr hn h1 cb sb ls st hb
    | _ + 2, hb => hb.elim))
theorem dX9_happen_0 : decode cX9_happen 0 = .ok (.aload_n 0, 1) := by decide +kernel
theorem dX9_happen_1 : decode cX9_happen 1 = .ok (.getfield 42, 3) := by decide +kernel
theorem dX9_happen_4 : decode cX9_happen 4 = .ok (.iload_n 1, 1) := by decide +kernel
theorem dX9_happen_5 : decode cX9_happen 5 = .ok (.invokevirtual 103, 3) := by decide +kernel
theorem dX9_happen_8 : decode cX9_happen 8 = .ok (.ifCond .ne 5, 3) := by decide +kernel
theorem dX9_happen_11 : decode cX9_happen 11 = .ok (.iconst (-1), 1) := by decide +kernel
theorem dX9_happen_12 : decode cX9_happen 12 = .ok (.ireturn, 1) := by decide +kernel
theorem dX9_happen_13 : decode cX9_happen 13 = .ok (.aload_n 0, 1) := by decide +kernel
theorem dX9_happen_14 : decode cX9_happen 14 = .ok (.getfield 42, 3) := by decide +kernel
theorem dX9_happen_17 : decode cX9_happen 17 = .ok (.aload_n 0, 1) := by decide +kernel
theorem dX9_happen_18 : decode cX9_happen 18 = .ok (.getfield 42, 3) := by decide +kernel
theorem dX9_happen_21 : decode cX9_happen 21 = .ok (.getfield 110, 3) := by decide +kernel
theorem dX9_happen_24 : decode cX9_happen 24 = .ok (.iload_n 1, 1) := by decide +kernel
theorem dX9_happen_25 : decode cX9_happen 25 = .ok (.invokevirtual 127, 3) := by decide +kernel
theorem dX9_happen_28 : decode cX9_happen 28 = .ok (.ifCond .ne 6, 3) := by decide +kernel
theorem dX9_happen_31 : decode cX9_happen 31 = .ok (.bipush (-3), 2) := by decide +kernel
theorem dX9_happen_33 : decode cX9_happen 33 = .ok (.ireturn, 1) := by decide +kernel
theorem dX9_happen_34 : decode cX9_happen 34 = .ok (.aload_n 0, 1) := by decide +kernel
theorem dX9_happen_35 : decode cX9_happen 35 = .ok (.getfield 42, 3) := by decide +kernel
theorem dX9_happen_38 : decode cX9_happen 38 = .ok (.getfield 110, 3) := by decide +kernel
theorem dX9_happen_41 : decode cX9_happen 41 = .ok (.iload_n 1, 1) := by decide +kernel
theorem dX9_happen_42 : decode cX9_happen 42 = .ok (.iaload, 1) := by decide +kernel
theorem dX9_happen_43 : decode cX9_happen 43 = .ok (.istore_n 2, 1) := by decide +kernel
theorem dX9_happen_44 : decode cX9_happen 44 = .ok (.aload_n 0, 1) := by decide +kernel
theorem dX9_happen_45 : decode cX9_happen 45 = .ok (.getfield 42, 3) := by decide +kernel
theorem dX9_happen_48 : decode cX9_happen 48 = .ok (.getfield 110, 3) := by decide +kernel
theorem dX9_happen_51 : decode cX9_happen 51 = .ok (.iload_n 1, 1) := by decide +kernel
theorem dX9_happen_52 : decode cX9_happen 52 = .ok (.iload_n 2, 1) := by decide +kernel
theorem dX9_happen_53 : decode cX9_happen 53 = .ok (.iconst 1, 1) := by decide +kernel
theorem dX9_happen_54 : decode cX9_happen 54 = .ok (.iadd, 1) := by decide +kernel
theorem dX9_happen_55 : decode cX9_happen 55 = .ok (.iastore, 1) := by decide +kernel
theorem dX9_happen_56 : decode cX9_happen 56 = .ok (.iload_n 2, 1) := by decide +kernel
theorem dX9_happen_57 : decode cX9_happen 57 = .ok (.ireturn, 1) := by decide +kernel
def bk_X9_happen_0 (l : Launch) (g : Gm) (G : Nat → CT) (P : PT) : CT := (oALd 0 (oGet [9] 8 (oILd 1 (oCallV l g [(2, d_X2_hasVillage)] 2 (oIf (fun x => x = 0) (oPush (.int (-1)) (oIRet P)) (oALd 0 (oGet [9] 8 (oALd 0 (oGet [9] 8 (oGet [2] 3 (oILd 1 (oCallV l g [(2, d_X2_goesOn)] 3 (oIf (fun x => x = 0) (oPush (.int (-3)) (oIRet P)) (oALd 0 (oGet [9] 8 (oGet [2] 3 (oILd 1 (oIAL g (oISt 2 (oALd 0 (oGet [9] 8 (oGet [2] 3 (oILd 1 (oILd 2 (oPush (.int (1)) (oBin (fun x y => x + y) (oIAS g (oILd 2 (oIRet P)))))))))))))))))))))))))))))
def bk_X9_happen (l : Launch) (g : Gm) (b : Nat) (G : Nat → CT) (P : PT) : CT := match b with
  | 0 => bk_X9_happen_0 l g G P
  | _ => fun _ _ _ _ _ => False
def pc_X9_happen (b : Nat) : Nat := match b with
  | 0 => 0
  | _ => 0
set_option maxRecDepth 100000 in
theorem sb_X9_happen_0 {p : Program} {l : Launch} {e : Env} {s : State} {m : MethodId} {args : Array Value} {below : List Frame} {meth : Method} {c : Code} {g : Gm} {h0 : Hp} {P : PT} {mc ms : Nat} (X : Cx g p s m args meth c (Adom h0 s.heap.size) cX9_happen RX9 3) (hr : meth.sig.returnType = some .int) (hn : meth.name = "happen") : SX g p l e s m args below meth c d_X9_happen 3 mc ms h0 P (bk_X9_happen_0 l g (fun b => GX g p l e s m args below meth c d_X9_happen 3 mc ms h0 P (pc_X9_happen b)) P) 0 := (s_aload_n X dX9_happen_0 rfl (s_get X dX9_happen_1 (mcn (⟨_, _, _, _, rfl, inU_X9, by decide, uw_172, rfl⟩) (mnl)) (s_iload_n X dX9_happen_4 rfl (s_callV X dX9_happen_5 (mv (vok_V X rfl uw_382 uw_383 uw_384 uw_3 ci_X2_hasVillage yok_X2_hasVillage ⟨Nat.le_of_ble_eq_true rfl, Nat.le_of_ble_eq_true rfl⟩) mv0) (s_if_ne X dX9_happen_8 (by decide) (s_aload_n X dX9_happen_13 rfl (s_get X dX9_happen_14 (mcn (⟨_, _, _, _, rfl, inU_X9, by decide, uw_172, rfl⟩) (mnl)) (s_aload_n X dX9_happen_17 rfl (s_get X dX9_happen_18 (mcn (⟨_, _, _, _, rfl, inU_X9, by decide, uw_172, rfl⟩) (mnl)) (s_get X dX9_happen_21 (mcn (⟨_, _, _, _, rfl, inU_X2, by decide, uw_86, rfl⟩) (mnl)) (s_iload_n X dX9_happen_24 rfl (s_callV X dX9_happen_25 (mv (vok_V X rfl uw_408 uw_358 uw_359 uw_3 ci_X2_goesOn yok_X2_goesOn ⟨Nat.le_of_ble_eq_true rfl, Nat.le_of_ble_eq_true rfl⟩) mv0) (s_if_ne X dX9_happen_28 (by decide) (s_aload_n X dX9_happen_34 rfl (s_get X dX9_happen_35 (mcn (⟨_, _, _, _, rfl, inU_X9, by decide, uw_172, rfl⟩) (mnl)) (s_get X dX9_happen_38 (mcn (⟨_, _, _, _, rfl, inU_X2, by decide, uw_86, rfl⟩) (mnl)) (s_iload_n X dX9_happen_41 rfl (s_iaload X dX9_happen_42 (s_istore_n X dX9_happen_43 rfl (by decide) (s_aload_n X dX9_happen_44 rfl (s_get X dX9_happen_45 (mcn (⟨_, _, _, _, rfl, inU_X9, by decide, uw_172, rfl⟩) (mnl)) (s_get X dX9_happen_48 (mcn (⟨_, _, _, _, rfl, inU_X2, by decide, uw_86, rfl⟩) (mnl)) (s_iload_n X dX9_happen_51 rfl (s_iload_n X dX9_happen_52 rfl (s_iconst X dX9_happen_53 rfl (s_iadd X dX9_happen_54 (s_iastore X dX9_happen_55 (s_iload_n X dX9_happen_56 rfl (s_iret X hr dX9_happen_57)))))))))))))))) (s_bipush X dX9_happen_31 rfl (s_iret X hr dX9_happen_33)))))))))) (s_iconst X dX9_happen_11 rfl (s_iret X hr dX9_happen_12)))))))
set_option maxRecDepth 100000 in
theorem vc_X9_happen {l : Launch} {g : Gm} {a0 : Nat} {a1 : Int32} {h : Hp} {mc ms : Nat} {P : PT} (H : ∀ G : Nat → CT, (∀ (b : Nat) (h : Hp) (cb sb : Nat) (ls : LocS) (st : List Value), bk_X9_happen l g b G P h cb sb ls st → G b h cb sb ls st) → G 0 h mc ms [some (.ref a0), some (.int a1), none] []) : Run l g d_X9_happen [.ref a0, .int a1] h mc ms P :=
  Run.of (d := d_X9_happen) (by decide) (mcn rfl (mcn rfl (mnl))) (Nat.le_of_ble_eq_true rfl) (fun p e s m args below meth c X hr hn => H (fun b => GX g p l e s m args below meth c d_X9_happen 3 mc ms h P (pc_X9_happen b)) (fun b h1 cb sb ls st hb => match b, hb with
    | 0, hb => sb_X9_happen_0 (p := p) (e := e) (below := below) X hr hn h1 cb sb ls st hb
    | _ + 1, hb => hb.elim))
theorem dX9_anew_0 : decode cX9_anew 0 = .ok (.aload_n 0, 1) := by decide +kernel
theorem dX9_anew_1 : decode cX9_anew 1 = .ok (.getfield 42, 3) := by decide +kernel
theorem dX9_anew_4 : decode cX9_anew 4 = .ok (.getfield 100, 3) := by decide +kernel
theorem dX9_anew_7 : decode cX9_anew 7 = .ok (.ifCond .ne 6, 3) := by decide +kernel
theorem dX9_anew_10 : decode cX9_anew 10 = .ok (.bipush (-3), 2) := by decide +kernel
theorem dX9_anew_12 : decode cX9_anew 12 = .ok (.ireturn, 1) := by decide +kernel
theorem dX9_anew_13 : decode cX9_anew 13 = .ok (.aload_n 0, 1) := by decide +kernel
theorem dX9_anew_14 : decode cX9_anew 14 = .ok (.getfield 42, 3) := by decide +kernel
theorem dX9_anew_17 : decode cX9_anew 17 = .ok (.aload_n 0, 1) := by decide +kernel
theorem dX9_anew_18 : decode cX9_anew 18 = .ok (.getfield 42, 3) := by decide +kernel
theorem dX9_anew_21 : decode cX9_anew 21 = .ok (.getfield 110, 3) := by decide +kernel
theorem dX9_anew_24 : decode cX9_anew 24 = .ok (.invokevirtual 154, 3) := by decide +kernel
theorem dX9_anew_27 : decode cX9_anew 27 = .ok (.istore_n 1, 1) := by decide +kernel
theorem dX9_anew_28 : decode cX9_anew 28 = .ok (.aload_n 0, 1) := by decide +kernel
theorem dX9_anew_29 : decode cX9_anew 29 = .ok (.getfield 42, 3) := by decide +kernel
theorem dX9_anew_32 : decode cX9_anew 32 = .ok (.getfield 110, 3) := by decide +kernel
theorem dX9_anew_35 : decode cX9_anew 35 = .ok (.iconst 0, 1) := by decide +kernel
theorem dX9_anew_36 : decode cX9_anew 36 = .ok (.invokestatic 158, 3) := by decide +kernel
theorem dX9_anew_39 : decode cX9_anew 39 = .ok (.iload_n 1, 1) := by decide +kernel
theorem dX9_anew_40 : decode cX9_anew 40 = .ok (.ireturn, 1) := by decide +kernel
def bk_X9_anew_0 (l : Launch) (g : Gm) (G : Nat → CT) (P : PT) : CT := (oALd 0 (oGet [9] 8 (oGet [2] 4 (oIf (fun x => x = 0) (oPush (.int (-3)) (oIRet P)) (oALd 0 (oGet [9] 8 (oALd 0 (oGet [9] 8 (oGet [2] 3 (oCallV l g [(2, d_X2_thingsIn)] 2 (oISt 1 (oALd 0 (oGet [9] 8 (oGet [2] 3 (oPush (.int (0)) (oCall l g d_J7_fill_53178 2 (oILd 1 (oIRet P))))))))))))))))))
def bk_X9_anew (l : Launch) (g : Gm) (b : Nat) (G : Nat → CT) (P : PT) : CT := match b with
  | 0 => bk_X9_anew_0 l g G P
  | _ => fun _ _ _ _ _ => False
def pc_X9_anew (b : Nat) : Nat := match b with
  | 0 => 0
  | _ => 0
set_option maxRecDepth 100000 in
theorem sb_X9_anew_0 {p : Program} {l : Launch} {e : Env} {s : State} {m : MethodId} {args : Array Value} {below : List Frame} {meth : Method} {c : Code} {g : Gm} {h0 : Hp} {P : PT} {mc ms : Nat} (X : Cx g p s m args meth c (Adom h0 s.heap.size) cX9_anew RX9 2) (hr : meth.sig.returnType = some .int) (hn : meth.name = "anew") : SX g p l e s m args below meth c d_X9_anew 2 mc ms h0 P (bk_X9_anew_0 l g (fun b => GX g p l e s m args below meth c d_X9_anew 2 mc ms h0 P (pc_X9_anew b)) P) 0 := (s_aload_n X dX9_anew_0 rfl (s_get X dX9_anew_1 (mcn (⟨_, _, _, _, rfl, inU_X9, by decide, uw_172, rfl⟩) (mnl)) (s_get X dX9_anew_4 (mcn (⟨_, _, _, _, rfl, inU_X2, by decide, uw_89, rfl⟩) (mnl)) (s_if_ne X dX9_anew_7 (by decide) (s_aload_n X dX9_anew_13 rfl (s_get X dX9_anew_14 (mcn (⟨_, _, _, _, rfl, inU_X9, by decide, uw_172, rfl⟩) (mnl)) (s_aload_n X dX9_anew_17 rfl (s_get X dX9_anew_18 (mcn (⟨_, _, _, _, rfl, inU_X9, by decide, uw_172, rfl⟩) (mnl)) (s_get X dX9_anew_21 (mcn (⟨_, _, _, _, rfl, inU_X2, by decide, uw_86, rfl⟩) (mnl)) (s_callV X dX9_anew_24 (mv (vok_V X rfl uw_444 uw_445 uw_446 uw_3 ci_X2_thingsIn yok_X2_thingsIn ⟨Nat.le_of_ble_eq_true rfl, Nat.le_of_ble_eq_true rfl⟩) mv0) (s_istore_n X dX9_anew_27 rfl (by decide) (s_aload_n X dX9_anew_28 rfl (s_get X dX9_anew_29 (mcn (⟨_, _, _, _, rfl, inU_X9, by decide, uw_172, rfl⟩) (mnl)) (s_get X dX9_anew_32 (mcn (⟨_, _, _, _, rfl, inU_X2, by decide, uw_86, rfl⟩) (mnl)) (s_iconst X dX9_anew_35 rfl (s_callS X dX9_anew_36 uw_448 uw_449 uw_14 ci_J7_fill_53178 yok_J7_fill_53178 ⟨Nat.le_of_ble_eq_true rfl, Nat.le_of_ble_eq_true rfl⟩ (s_iload_n X dX9_anew_39 rfl (s_iret X hr dX9_anew_40)))))))))))))) (s_bipush X dX9_anew_10 rfl (s_iret X hr dX9_anew_12))))))
set_option maxRecDepth 100000 in
theorem vc_X9_anew {l : Launch} {g : Gm} {a0 : Nat} {h : Hp} {mc ms : Nat} {P : PT} (H : ∀ G : Nat → CT, (∀ (b : Nat) (h : Hp) (cb sb : Nat) (ls : LocS) (st : List Value), bk_X9_anew l g b G P h cb sb ls st → G b h cb sb ls st) → G 0 h mc ms [some (.ref a0), none] []) : Run l g d_X9_anew [.ref a0] h mc ms P :=
  Run.of (d := d_X9_anew) (by decide) (mcn rfl (mnl)) (Nat.le_of_ble_eq_true rfl) (fun p e s m args below meth c X hr hn => H (fun b => GX g p l e s m args below meth c d_X9_anew 2 mc ms h P (pc_X9_anew b)) (fun b h1 cb sb ls st hb => match b, hb with
    | 0, hb => sb_X9_anew_0 (p := p) (e := e) (below := below) X hr hn h1 cb sb ls st hb
    | _ + 1, hb => hb.elim))
theorem dX9_cut_0 : decode cX9_cut 0 = .ok (.aload_n 0, 1) := by decide +kernel
theorem dX9_cut_1 : decode cX9_cut 1 = .ok (.iload_n 1, 1) := by decide +kernel
theorem dX9_cut_2 : decode cX9_cut 2 = .ok (.iload_n 2, 1) := by decide +kernel
theorem dX9_cut_3 : decode cX9_cut 3 = .ok (.iload_n 3, 1) := by decide +kernel
theorem dX9_cut_4 : decode cX9_cut 4 = .ok (.iload 4, 2) := by decide +kernel
theorem dX9_cut_6 : decode cX9_cut 6 = .ok (.invokestatic 164, 3) := by decide +kernel
theorem dX9_cut_9 : decode cX9_cut 9 = .ok (.invokevirtual 167, 3) := by decide +kernel
theorem dX9_cut_12 : decode cX9_cut 12 = .ok (.istore 5, 2) := by decide +kernel
theorem dX9_cut_14 : decode cX9_cut 14 = .ok (.iload 5, 2) := by decide +kernel
theorem dX9_cut_16 : decode cX9_cut 16 = .ok (.ifCond .eq 6, 3) := by decide +kernel
theorem dX9_cut_19 : decode cX9_cut 19 = .ok (.iload 5, 2) := by decide +kernel
theorem dX9_cut_21 : decode cX9_cut 21 = .ok (.ireturn, 1) := by decide +kernel
theorem dX9_cut_22 : decode cX9_cut 22 = .ok (.iload 4, 2) := by decide +kernel
theorem dX9_cut_24 : decode cX9_cut 24 = .ok (.tableswitch 103 0 3 #[32, 52, 64, 76], 32) := by decide +kernel
theorem dX9_cut_56 : decode cX9_cut 56 = .ok (.aload_n 0, 1) := by decide +kernel
theorem dX9_cut_57 : decode cX9_cut 57 = .ok (.getfield 42, 3) := by decide +kernel
theorem dX9_cut_60 : decode cX9_cut 60 = .ok (.aload_n 0, 1) := by decide +kernel
theorem dX9_cut_61 : decode cX9_cut 61 = .ok (.getfield 24, 3) := by decide +kernel
theorem dX9_cut_64 : decode cX9_cut 64 = .ok (.invokevirtual 171, 3) := by decide +kernel
theorem dX9_cut_67 : decode cX9_cut 67 = .ok (.ifCond .eq 7, 3) := by decide +kernel
theorem dX9_cut_70 : decode cX9_cut 70 = .ok (.iconst 1, 1) := by decide +kernel
theorem dX9_cut_71 : decode cX9_cut 71 = .ok (.goto 4, 3) := by decide +kernel
theorem dX9_cut_74 : decode cX9_cut 74 = .ok (.iconst 0, 1) := by decide +kernel
theorem dX9_cut_75 : decode cX9_cut 75 = .ok (.ireturn, 1) := by decide +kernel
theorem dX9_cut_76 : decode cX9_cut 76 = .ok (.aload_n 0, 1) := by decide +kernel
theorem dX9_cut_77 : decode cX9_cut 77 = .ok (.getfield 42, 3) := by decide +kernel
theorem dX9_cut_80 : decode cX9_cut 80 = .ok (.aload_n 0, 1) := by decide +kernel
theorem dX9_cut_81 : decode cX9_cut 81 = .ok (.getfield 24, 3) := by decide +kernel
theorem dX9_cut_84 : decode cX9_cut 84 = .ok (.invokevirtual 175, 3) := by decide +kernel
theorem dX9_cut_87 : decode cX9_cut 87 = .ok (.ireturn, 1) := by decide +kernel
theorem dX9_cut_88 : decode cX9_cut 88 = .ok (.aload_n 0, 1) := by decide +kernel
theorem dX9_cut_89 : decode cX9_cut 89 = .ok (.getfield 42, 3) := by decide +kernel
theorem dX9_cut_92 : decode cX9_cut 92 = .ok (.aload_n 0, 1) := by decide +kernel
theorem dX9_cut_93 : decode cX9_cut 93 = .ok (.getfield 24, 3) := by decide +kernel
theorem dX9_cut_96 : decode cX9_cut 96 = .ok (.invokevirtual 178, 3) := by decide +kernel
theorem dX9_cut_99 : decode cX9_cut 99 = .ok (.ireturn, 1) := by decide +kernel
theorem dX9_cut_100 : decode cX9_cut 100 = .ok (.aload_n 0, 1) := by decide +kernel
theorem dX9_cut_101 : decode cX9_cut 101 = .ok (.getfield 42, 3) := by decide +kernel
theorem dX9_cut_104 : decode cX9_cut 104 = .ok (.aload_n 0, 1) := by decide +kernel
theorem dX9_cut_105 : decode cX9_cut 105 = .ok (.getfield 24, 3) := by decide +kernel
theorem dX9_cut_108 : decode cX9_cut 108 = .ok (.aload_n 0, 1) := by decide +kernel
theorem dX9_cut_109 : decode cX9_cut 109 = .ok (.getfield 28, 3) := by decide +kernel
theorem dX9_cut_112 : decode cX9_cut 112 = .ok (.invokevirtual 181, 3) := by decide +kernel
theorem dX9_cut_115 : decode cX9_cut 115 = .ok (.aload_n 0, 1) := by decide +kernel
theorem dX9_cut_116 : decode cX9_cut 116 = .ok (.getfield 42, 3) := by decide +kernel
theorem dX9_cut_119 : decode cX9_cut 119 = .ok (.aload_n 0, 1) := by decide +kernel
theorem dX9_cut_120 : decode cX9_cut 120 = .ok (.getfield 28, 3) := by decide +kernel
theorem dX9_cut_123 : decode cX9_cut 123 = .ok (.invokevirtual 154, 3) := by decide +kernel
theorem dX9_cut_126 : decode cX9_cut 126 = .ok (.ireturn, 1) := by decide +kernel
theorem dX9_cut_127 : decode cX9_cut 127 = .ok (.aload_n 0, 1) := by decide +kernel
theorem dX9_cut_128 : decode cX9_cut 128 = .ok (.getfield 42, 3) := by decide +kernel
theorem dX9_cut_131 : decode cX9_cut 131 = .ok (.aload_n 0, 1) := by decide +kernel
theorem dX9_cut_132 : decode cX9_cut 132 = .ok (.getfield 24, 3) := by decide +kernel
theorem dX9_cut_135 : decode cX9_cut 135 = .ok (.aload_n 0, 1) := by decide +kernel
theorem dX9_cut_136 : decode cX9_cut 136 = .ok (.getfield 28, 3) := by decide +kernel
theorem dX9_cut_139 : decode cX9_cut 139 = .ok (.invokevirtual 181, 3) := by decide +kernel
theorem dX9_cut_142 : decode cX9_cut 142 = .ok (.aload_n 0, 1) := by decide +kernel
theorem dX9_cut_143 : decode cX9_cut 143 = .ok (.aload_n 0, 1) := by decide +kernel
theorem dX9_cut_144 : decode cX9_cut 144 = .ok (.getfield 28, 3) := by decide +kernel
theorem dX9_cut_147 : decode cX9_cut 147 = .ok (.iload 4, 2) := by decide +kernel
theorem dX9_cut_149 : decode cX9_cut 149 = .ok (.bipush 10, 2) := by decide +kernel
theorem dX9_cut_151 : decode cX9_cut 151 = .ok (.isub, 1) := by decide +kernel
theorem dX9_cut_152 : decode cX9_cut 152 = .ok (.invokevirtual 185, 3) := by decide +kernel
theorem dX9_cut_155 : decode cX9_cut 155 = .ok (.ireturn, 1) := by decide +kernel
def bk_X9_cut_0 (l : Launch) (g : Gm) (G : Nat → CT) (P : PT) : CT := (oALd 0 (oILd 1 (oILd 2 (oILd 3 (oILd 4 (oCall l g d_X9_isQuestion 1 (oCallV l g [(9, d_X9_takeCut)] 5 (oISt 5 (oILd 5 (oIf (fun x => x = 0) (oILd 4 (oSw [(0, (oALd 0 (oGet [9] 8 (oALd 0 (oGet [9] 2 (oCallV l g [(2, d_X2_canBe)] 2 (oIf (fun x => x = 0) (oPush (.int (0)) (oIRet P)) (oPush (.int (1)) (oGo (oIRet P)))))))))), (1, (oALd 0 (oGet [9] 8 (oALd 0 (oGet [9] 2 (oCallV l g [(2, d_X2_sumOf)] 2 (oIRet P))))))), (2, (oALd 0 (oGet [9] 8 (oALd 0 (oGet [9] 2 (oCallV l g [(2, d_X2_underWay)] 2 (oIRet P))))))), (3, (oALd 0 (oGet [9] 8 (oALd 0 (oGet [9] 2 (oALd 0 (oGet [9] 3 (oCallV l g [(2, d_X2_close)] 3 (oALd 0 (oGet [9] 8 (oALd 0 (oGet [9] 3 (oCallV l g [(2, d_X2_thingsIn)] 2 (oIRet P))))))))))))))] (oALd 0 (oGet [9] 8 (oALd 0 (oGet [9] 2 (oALd 0 (oGet [9] 3 (oCallV l g [(2, d_X2_close)] 3 (oALd 0 (oALd 0 (oGet [9] 3 (oILd 4 (oPush (.int (10)) (oBin (fun x y => x - y) (oCallV l g [(9, d_X9_countOf)] 3 (oIRet P))))))))))))))))) (oILd 5 (oIRet P))))))))))))
def bk_X9_cut (l : Launch) (g : Gm) (b : Nat) (G : Nat → CT) (P : PT) : CT := match b with
  | 0 => bk_X9_cut_0 l g G P
  | _ => fun _ _ _ _ _ => False
def pc_X9_cut (b : Nat) : Nat := match b with
  | 0 => 0
  | _ => 0
set_option maxRecDepth 100000 in
theorem sb_X9_cut_0 {p : Program} {l : Launch} {e : Env} {s : State} {m : MethodId} {args : Array Value} {below : List Frame} {meth : Method} {c : Code} {g : Gm} {h0 : Hp} {P : PT} {mc ms : Nat} (X : Cx g p s m args meth c (Adom h0 s.heap.size) cX9_cut RX9 6) (hr : meth.sig.returnType = some .int) (hn : meth.name = "cut") : SX g p l e s m args below meth c d_X9_cut 6 mc ms h0 P (bk_X9_cut_0 l g (fun b => GX g p l e s m args below meth c d_X9_cut 6 mc ms h0 P (pc_X9_cut b)) P) 0 := (s_aload_n X dX9_cut_0 rfl (s_iload_n X dX9_cut_1 rfl (s_iload_n X dX9_cut_2 rfl (s_iload_n X dX9_cut_3 rfl (s_iload X dX9_cut_4 (s_callS X dX9_cut_6 uw_455 uw_456 uw_1 ci_X9_isQuestion yok_X9_isQuestion ⟨Nat.le_of_ble_eq_true rfl, Nat.le_of_ble_eq_true rfl⟩ (s_callV X dX9_cut_9 (mv (vok_V X rfl uw_458 uw_460 (UW_pr 6 rfl rfl) uw_1 ci_X9_takeCut yok_X9_takeCut ⟨Nat.le_of_ble_eq_true rfl, Nat.le_of_ble_eq_true rfl⟩) mv0) (s_istore X dX9_cut_12 (by decide) (s_iload X dX9_cut_14 (s_if_eq X dX9_cut_16 (by decide) (s_iload X dX9_cut_22 (s_tsw X dX9_cut_24 (by decide) rfl ⟨⟨rfl, 32, 56, rfl, by decide, (s_aload_n X dX9_cut_56 rfl (s_get X dX9_cut_57 (mcn (⟨_, _, _, _, rfl, inU_X9, by decide, uw_172, rfl⟩) (mnl)) (s_aload_n X dX9_cut_60 rfl (s_get X dX9_cut_61 (mcn (⟨_, _, _, _, rfl, inU_X9, by decide, uw_166, rfl⟩) (mnl)) (s_callV X dX9_cut_64 (mv (vok_V X rfl uw_462 uw_463 uw_464 uw_3 ci_X2_canBe yok_X2_canBe ⟨Nat.le_of_ble_eq_true rfl, Nat.le_of_ble_eq_true rfl⟩) mv0) (s_if_eq X dX9_cut_67 (by decide) (s_iconst X dX9_cut_74 rfl (s_iret X hr dX9_cut_75)) (s_iconst X dX9_cut_70 rfl (s_goto X dX9_cut_71 (by decide) (s_iret X hr dX9_cut_75)))))))))⟩, ⟨⟨rfl, 52, 76, rfl, by decide, (s_aload_n X dX9_cut_76 rfl (s_get X dX9_cut_77 (mcn (⟨_, _, _, _, rfl, inU_X9, by decide, uw_172, rfl⟩) (mnl)) (s_aload_n X dX9_cut_80 rfl (s_get X dX9_cut_81 (mcn (⟨_, _, _, _, rfl, inU_X9, by decide, uw_166, rfl⟩) (mnl)) (s_callV X dX9_cut_84 (mv (vok_V X rfl uw_466 uw_467 uw_468 uw_3 ci_X2_sumOf yok_X2_sumOf ⟨Nat.le_of_ble_eq_true rfl, Nat.le_of_ble_eq_true rfl⟩) mv0) (s_iret X hr dX9_cut_87))))))⟩, ⟨⟨rfl, 64, 88, rfl, by decide, (s_aload_n X dX9_cut_88 rfl (s_get X dX9_cut_89 (mcn (⟨_, _, _, _, rfl, inU_X9, by decide, uw_172, rfl⟩) (mnl)) (s_aload_n X dX9_cut_92 rfl (s_get X dX9_cut_93 (mcn (⟨_, _, _, _, rfl, inU_X9, by decide, uw_166, rfl⟩) (mnl)) (s_callV X dX9_cut_96 (mv (vok_V X rfl uw_471 uw_472 uw_473 uw_3 ci_X2_underWay yok_X2_underWay ⟨Nat.le_of_ble_eq_true rfl, Nat.le_of_ble_eq_true rfl⟩) mv0) (s_iret X hr dX9_cut_99))))))⟩, ⟨⟨rfl, 76, 100, rfl, by decide, (s_aload_n X dX9_cut_100 rfl (s_get X dX9_cut_101 (mcn (⟨_, _, _, _, rfl, inU_X9, by decide, uw_172, rfl⟩) (mnl)) (s_aload_n X dX9_cut_104 rfl (s_get X dX9_cut_105 (mcn (⟨_, _, _, _, rfl, inU_X9, by decide, uw_166, rfl⟩) (mnl)) (s_aload_n X dX9_cut_108 rfl (s_get X dX9_cut_109 (mcn (⟨_, _, _, _, rfl, inU_X9, by decide, uw_167, rfl⟩) (mnl)) (s_callV X dX9_cut_112 (mv (vok_V X rfl uw_479 uw_480 uw_481 uw_3 ci_X2_close yok_X2_close ⟨Nat.le_of_ble_eq_true rfl, Nat.le_of_ble_eq_true rfl⟩) mv0) (s_aload_n X dX9_cut_115 rfl (s_get X dX9_cut_116 (mcn (⟨_, _, _, _, rfl, inU_X9, by decide, uw_172, rfl⟩) (mnl)) (s_aload_n X dX9_cut_119 rfl (s_get X dX9_cut_120 (mcn (⟨_, _, _, _, rfl, inU_X9, by decide, uw_167, rfl⟩) (mnl)) (s_callV X dX9_cut_123 (mv (vok_V X rfl uw_444 uw_445 uw_446 uw_3 ci_X2_thingsIn yok_X2_thingsIn ⟨Nat.le_of_ble_eq_true rfl, Nat.le_of_ble_eq_true rfl⟩) mv0) (s_iret X hr dX9_cut_126)))))))))))))⟩, trivial⟩⟩⟩⟩ (s_aload_n X dX9_cut_127 rfl (s_get X dX9_cut_128 (mcn (⟨_, _, _, _, rfl, inU_X9, by decide, uw_172, rfl⟩) (mnl)) (s_aload_n X dX9_cut_131 rfl (s_get X dX9_cut_132 (mcn (⟨_, _, _, _, rfl, inU_X9, by decide, uw_166, rfl⟩) (mnl)) (s_aload_n X dX9_cut_135 rfl (s_get X dX9_cut_136 (mcn (⟨_, _, _, _, rfl, inU_X9, by decide, uw_167, rfl⟩) (mnl)) (s_callV X dX9_cut_139 (mv (vok_V X rfl uw_479 uw_480 uw_481 uw_3 ci_X2_close yok_X2_close ⟨Nat.le_of_ble_eq_true rfl, Nat.le_of_ble_eq_true rfl⟩) mv0) (s_aload_n X dX9_cut_142 rfl (s_aload_n X dX9_cut_143 rfl (s_get X dX9_cut_144 (mcn (⟨_, _, _, _, rfl, inU_X9, by decide, uw_167, rfl⟩) (mnl)) (s_iload X dX9_cut_147 (s_bipush X dX9_cut_149 rfl (s_isub X dX9_cut_151 (s_callV X dX9_cut_152 (mv (vok_V X rfl uw_483 uw_485 (UW_pr 7 rfl rfl) uw_1 ci_X9_countOf yok_X9_countOf ⟨Nat.le_of_ble_eq_true rfl, Nat.le_of_ble_eq_true rfl⟩) mv0) (s_iret X hr dX9_cut_155))))))))))))))))) (s_iload X dX9_cut_19 (s_iret X hr dX9_cut_21))))))))))))
set_option maxRecDepth 100000 in
theorem vc_X9_cut {l : Launch} {g : Gm} {a0 : Nat} {a1 : Int32} {a2 : Int32} {a3 : Int32} {a4 : Int32} {h : Hp} {mc ms : Nat} {P : PT} (H : ∀ G : Nat → CT, (∀ (b : Nat) (h : Hp) (cb sb : Nat) (ls : LocS) (st : List Value), bk_X9_cut l g b G P h cb sb ls st → G b h cb sb ls st) → G 0 h mc ms [some (.ref a0), some (.int a1), some (.int a2), some (.int a3), some (.int a4), none] []) : Run l g d_X9_cut [.ref a0, .int a1, .int a2, .int a3, .int a4] h mc ms P :=
  Run.of (d := d_X9_cut) (by decide) (mcn rfl (mcn rfl (mcn rfl (mcn rfl (mcn rfl (mnl)))))) (Nat.le_of_ble_eq_true rfl) (fun p e s m args below meth c X hr hn => H (fun b => GX g p l e s m args below meth c d_X9_cut 6 mc ms h P (pc_X9_cut b)) (fun b h1 cb sb ls st hb => match b, hb with
    | 0, hb => sb_X9_cut_0 (p := p) (e := e) (below := below) X hr hn h1 cb sb ls st hb
    | _ + 1, hb => hb.elim))
theorem dX9_now_0 : decode cX9_now 0 = .ok (.iload_n 1, 1) := by decide +kernel
theorem dX9_now_1 : decode cX9_now 1 = .ok (.ifCond .lt 8, 3) := by decide +kernel
theorem dX9_now_4 : decode cX9_now 4 = .ok (.iload_n 1, 1) := by decide +kernel
theorem dX9_now_5 : decode cX9_now 5 = .ok (.iconst 2, 1) := by decide +kernel
theorem dX9_now_6 : decode cX9_now 6 = .ok (.if_icmp .le 6, 3) := by decide +kernel
theorem dX9_now_9 : decode cX9_now 9 = .ok (.bipush (-2), 2) := by decide +kernel
theorem dX9_now_11 : decode cX9_now 11 = .ok (.ireturn, 1) := by decide +kernel
theorem dX9_now_12 : decode cX9_now 12 = .ok (.aload_n 0, 1) := by decide +kernel
theorem dX9_now_13 : decode cX9_now 13 = .ok (.getfield 42, 3) := by decide +kernel
theorem dX9_now_16 : decode cX9_now 16 = .ok (.getfield 100, 3) := by decide +kernel
theorem dX9_now_19 : decode cX9_now 19 = .ok (.ifCond .ne 6, 3) := by decide +kernel
theorem dX9_now_22 : decode cX9_now 22 = .ok (.bipush (-3), 2) := by decide +kernel
theorem dX9_now_24 : decode cX9_now 24 = .ok (.ireturn, 1) := by decide +kernel
theorem dX9_now_25 : decode cX9_now 25 = .ok (.iload_n 1, 1) := by decide +kernel
theorem dX9_now_26 : decode cX9_now 26 = .ok (.ifCond .ne 18, 3) := by decide +kernel
theorem dX9_now_29 : decode cX9_now 29 = .ok (.aload_n 0, 1) := by decide +kernel
theorem dX9_now_30 : decode cX9_now 30 = .ok (.getfield 42, 3) := by decide +kernel
theorem dX9_now_33 : decode cX9_now 33 = .ok (.aload_n 0, 1) := by decide +kernel
theorem dX9_now_34 : decode cX9_now 34 = .ok (.getfield 42, 3) := by decide +kernel
theorem dX9_now_37 : decode cX9_now 37 = .ok (.getfield 110, 3) := by decide +kernel
theorem dX9_now_40 : decode cX9_now 40 = .ok (.invokevirtual 175, 3) := by decide +kernel
theorem dX9_now_43 : decode cX9_now 43 = .ok (.ireturn, 1) := by decide +kernel
theorem dX9_now_44 : decode cX9_now 44 = .ok (.iload_n 1, 1) := by decide +kernel
theorem dX9_now_45 : decode cX9_now 45 = .ok (.iconst 1, 1) := by decide +kernel
theorem dX9_now_46 : decode cX9_now 46 = .ok (.if_icmp .ne 20, 3) := by decide +kernel
theorem dX9_now_49 : decode cX9_now 49 = .ok (.aload_n 0, 1) := by decide +kernel
theorem dX9_now_50 : decode cX9_now 50 = .ok (.getfield 42, 3) := by decide +kernel
theorem dX9_now_53 : decode cX9_now 53 = .ok (.aload_n 0, 1) := by decide +kernel
theorem dX9_now_54 : decode cX9_now 54 = .ok (.getfield 42, 3) := by decide +kernel
theorem dX9_now_57 : decode cX9_now 57 = .ok (.getfield 110, 3) := by decide +kernel
theorem dX9_now_60 : decode cX9_now 60 = .ok (.invokevirtual 178, 3) := by decide +kernel
theorem dX9_now_63 : decode cX9_now 63 = .ok (.goto 17, 3) := by decide +kernel
theorem dX9_now_66 : decode cX9_now 66 = .ok (.aload_n 0, 1) := by decide +kernel
theorem dX9_now_67 : decode cX9_now 67 = .ok (.getfield 42, 3) := by decide +kernel
theorem dX9_now_70 : decode cX9_now 70 = .ok (.aload_n 0, 1) := by decide +kernel
theorem dX9_now_71 : decode cX9_now 71 = .ok (.getfield 42, 3) := by decide +kernel
theorem dX9_now_74 : decode cX9_now 74 = .ok (.getfield 110, 3) := by decide +kernel
theorem dX9_now_77 : decode cX9_now 77 = .ok (.invokevirtual 189, 3) := by decide +kernel
theorem dX9_now_80 : decode cX9_now 80 = .ok (.ireturn, 1) := by decide +kernel
def bk_X9_now_0 (l : Launch) (g : Gm) (G : Nat → CT) (P : PT) : CT := (oILd 1 (oIf (fun x => x < 0) (oPush (.int (-2)) (oIRet P)) (oILd 1 (oPush (.int (2)) (oCmp (fun x y => x ≤ y) (oALd 0 (oGet [9] 8 (oGet [2] 4 (oIf (fun x => x = 0) (oPush (.int (-3)) (oIRet P)) (oILd 1 (oIf (fun x => x = 0) (oALd 0 (oGet [9] 8 (oALd 0 (oGet [9] 8 (oGet [2] 3 (oCallV l g [(2, d_X2_sumOf)] 2 (oIRet P))))))) (oILd 1 (oPush (.int (1)) (oCmp (fun x y => x = y) (oALd 0 (oGet [9] 8 (oALd 0 (oGet [9] 8 (oGet [2] 3 (oCallV l g [(2, d_X2_underWay)] 2 (oGo (oIRet P)))))))) (oALd 0 (oGet [9] 8 (oALd 0 (oGet [9] 8 (oGet [2] 3 (oCallV l g [(2, d_X2_thatGoOn)] 2 (oIRet P)))))))))))))))) (oPush (.int (-2)) (oIRet P)))))))
def bk_X9_now (l : Launch) (g : Gm) (b : Nat) (G : Nat → CT) (P : PT) : CT := match b with
  | 0 => bk_X9_now_0 l g G P
  | _ => fun _ _ _ _ _ => False
def pc_X9_now (b : Nat) : Nat := match b with
  | 0 => 0
  | _ => 0
set_option maxRecDepth 100000 in
theorem sb_X9_now_0 {p : Program} {l : Launch} {e : Env} {s : State} {m : MethodId} {args : Array Value} {below : List Frame} {meth : Method} {c : Code} {g : Gm} {h0 : Hp} {P : PT} {mc ms : Nat} (X : Cx g p s m args meth c (Adom h0 s.heap.size) cX9_now RX9 2) (hr : meth.sig.returnType = some .int) (hn : meth.name = "now") : SX g p l e s m args below meth c d_X9_now 2 mc ms h0 P (bk_X9_now_0 l g (fun b => GX g p l e s m args below meth c d_X9_now 2 mc ms h0 P (pc_X9_now b)) P) 0 := (s_iload_n X dX9_now_0 rfl (s_if_lt X dX9_now_1 (by decide) (s_bipush X dX9_now_9 rfl (s_iret X hr dX9_now_11)) (s_iload_n X dX9_now_4 rfl (s_iconst X dX9_now_5 rfl (s_icmp_le X dX9_now_6 (by decide) (s_aload_n X dX9_now_12 rfl (s_get X dX9_now_13 (mcn (⟨_, _, _, _, rfl, inU_X9, by decide, uw_172, rfl⟩) (mnl)) (s_get X dX9_now_16 (mcn (⟨_, _, _, _, rfl, inU_X2, by decide, uw_89, rfl⟩) (mnl)) (s_if_ne X dX9_now_19 (by decide) (s_iload_n X dX9_now_25 rfl (s_if_ne X dX9_now_26 (by decide) (s_iload_n X dX9_now_44 rfl (s_iconst X dX9_now_45 rfl (s_icmp_ne X dX9_now_46 (by decide) (s_aload_n X dX9_now_66 rfl (s_get X dX9_now_67 (mcn (⟨_, _, _, _, rfl, inU_X9, by decide, uw_172, rfl⟩) (mnl)) (s_aload_n X dX9_now_70 rfl (s_get X dX9_now_71 (mcn (⟨_, _, _, _, rfl, inU_X9, by decide, uw_172, rfl⟩) (mnl)) (s_get X dX9_now_74 (mcn (⟨_, _, _, _, rfl, inU_X2, by decide, uw_86, rfl⟩) (mnl)) (s_callV X dX9_now_77 (mv (vok_V X rfl uw_491 uw_492 uw_493 uw_3 ci_X2_thatGoOn yok_X2_thatGoOn ⟨Nat.le_of_ble_eq_true rfl, Nat.le_of_ble_eq_true rfl⟩) mv0) (s_iret X hr dX9_now_80))))))) (s_aload_n X dX9_now_49 rfl (s_get X dX9_now_50 (mcn (⟨_, _, _, _, rfl, inU_X9, by decide, uw_172, rfl⟩) (mnl)) (s_aload_n X dX9_now_53 rfl (s_get X dX9_now_54 (mcn (⟨_, _, _, _, rfl, inU_X9, by decide, uw_172, rfl⟩) (mnl)) (s_get X dX9_now_57 (mcn (⟨_, _, _, _, rfl, inU_X2, by decide, uw_86, rfl⟩) (mnl)) (s_callV X dX9_now_60 (mv (vok_V X rfl uw_471 uw_472 uw_473 uw_3 ci_X2_underWay yok_X2_underWay ⟨Nat.le_of_ble_eq_true rfl, Nat.le_of_ble_eq_true rfl⟩) mv0) (s_goto X dX9_now_63 (by decide) (s_iret X hr dX9_now_80))))))))))) (s_aload_n X dX9_now_29 rfl (s_get X dX9_now_30 (mcn (⟨_, _, _, _, rfl, inU_X9, by decide, uw_172, rfl⟩) (mnl)) (s_aload_n X dX9_now_33 rfl (s_get X dX9_now_34 (mcn (⟨_, _, _, _, rfl, inU_X9, by decide, uw_172, rfl⟩) (mnl)) (s_get X dX9_now_37 (mcn (⟨_, _, _, _, rfl, inU_X2, by decide, uw_86, rfl⟩) (mnl)) (s_callV X dX9_now_40 (mv (vok_V X rfl uw_466 uw_467 uw_468 uw_3 ci_X2_sumOf yok_X2_sumOf ⟨Nat.le_of_ble_eq_true rfl, Nat.le_of_ble_eq_true rfl⟩) mv0) (s_iret X hr dX9_now_43))))))))) (s_bipush X dX9_now_22 rfl (s_iret X hr dX9_now_24)))))) (s_bipush X dX9_now_9 rfl (s_iret X hr dX9_now_11)))))))
set_option maxRecDepth 100000 in
theorem vc_X9_now {l : Launch} {g : Gm} {a0 : Nat} {a1 : Int32} {h : Hp} {mc ms : Nat} {P : PT} (H : ∀ G : Nat → CT, (∀ (b : Nat) (h : Hp) (cb sb : Nat) (ls : LocS) (st : List Value), bk_X9_now l g b G P h cb sb ls st → G b h cb sb ls st) → G 0 h mc ms [some (.ref a0), some (.int a1)] []) : Run l g d_X9_now [.ref a0, .int a1] h mc ms P :=
  Run.of (d := d_X9_now) (by decide) (mcn rfl (mcn rfl (mnl))) (Nat.le_of_ble_eq_true rfl) (fun p e s m args below meth c X hr hn => H (fun b => GX g p l e s m args below meth c d_X9_now 2 mc ms h P (pc_X9_now b)) (fun b h1 cb sb ls st hb => match b, hb with
    | 0, hb => sb_X9_now_0 (p := p) (e := e) (below := below) X hr hn h1 cb sb ls st hb
    | _ + 1, hb => hb.elim))
theorem dX9_tale_0 : decode cX9_tale 0 = .ok (.aload_n 0, 1) := by decide +kernel
theorem dX9_tale_1 : decode cX9_tale 1 = .ok (.iconst 0, 1) := by decide +kernel
theorem dX9_tale_2 : decode cX9_tale 2 = .ok (.putfield 54, 3) := by decide +kernel
theorem dX9_tale_5 : decode cX9_tale 5 = .ok (.iload_n 1, 1) := by decide +kernel
theorem dX9_tale_6 : decode cX9_tale 6 = .ok (.invokestatic 58, 3) := by decide +kernel
theorem dX9_tale_9 : decode cX9_tale 9 = .ok (.ifCond .ne 5, 3) := by decide +kernel
theorem dX9_tale_12 : decode cX9_tale 12 = .ok (.iconst (-1), 1) := by decide +kernel
theorem dX9_tale_13 : decode cX9_tale 13 = .ok (.ireturn, 1) := by decide +kernel
theorem dX9_tale_14 : decode cX9_tale 14 = .ok (.iload_n 2, 1) := by decide +kernel
theorem dX9_tale_15 : decode cX9_tale 15 = .ok (.invokestatic 62, 3) := by decide +kernel
theorem dX9_tale_18 : decode cX9_tale 18 = .ok (.ifCond .eq 23, 3) := by decide +kernel
theorem dX9_tale_21 : decode cX9_tale 21 = .ok (.iload 4, 2) := by decide +kernel
theorem dX9_tale_23 : decode cX9_tale 23 = .ok (.ifCond .lt 18, 3) := by decide +kernel
theorem dX9_tale_26 : decode cX9_tale 26 = .ok (.iload 4, 2) := by decide +kernel
theorem dX9_tale_28 : decode cX9_tale 28 = .ok (.bipush 20, 2) := by decide +kernel
theorem dX9_tale_30 : decode cX9_tale 30 = .ok (.if_icmp .gt 11, 3) := by decide +kernel
theorem dX9_tale_33 : decode cX9_tale 33 = .ok (.iload 5, 2) := by decide +kernel
theorem dX9_tale_35 : decode cX9_tale 35 = .ok (.invokestatic 164, 3) := by decide +kernel
theorem dX9_tale_38 : decode cX9_tale 38 = .ok (.ifCond .ne 6, 3) := by decide +kernel
theorem dX9_tale_41 : decode cX9_tale 41 = .ok (.bipush (-2), 2) := by decide +kernel
theorem dX9_tale_43 : decode cX9_tale 43 = .ok (.ireturn, 1) := by decide +kernel
theorem dX9_tale_44 : decode cX9_tale 44 = .ok (.aload_n 0, 1) := by decide +kernel
theorem dX9_tale_45 : decode cX9_tale 45 = .ok (.getfield 13, 3) := by decide +kernel
theorem dX9_tale_48 : decode cX9_tale 48 = .ok (.iload_n 1, 1) := by decide +kernel
theorem dX9_tale_49 : decode cX9_tale 49 = .ok (.aaload, 1) := by decide +kernel
theorem dX9_tale_50 : decode cX9_tale 50 = .ok (.astore 6, 2) := by decide +kernel
theorem dX9_tale_52 : decode cX9_tale 52 = .ok (.aload 6, 2) := by decide +kernel
theorem dX9_tale_54 : decode cX9_tale 54 = .ok (.iload_n 2, 1) := by decide +kernel
theorem dX9_tale_55 : decode cX9_tale 55 = .ok (.iload_n 3, 1) := by decide +kernel
theorem dX9_tale_56 : decode cX9_tale 56 = .ok (.iload 4, 2) := by decide +kernel
theorem dX9_tale_58 : decode cX9_tale 58 = .ok (.invokevirtual 65, 3) := by decide +kernel
theorem dX9_tale_61 : decode cX9_tale 61 = .ok (.istore 7, 2) := by decide +kernel
theorem dX9_tale_63 : decode cX9_tale 63 = .ok (.iload 7, 2) := by decide +kernel
theorem dX9_tale_65 : decode cX9_tale 65 = .ok (.ifCond .eq 10, 3) := by decide +kernel
theorem dX9_tale_68 : decode cX9_tale 68 = .ok (.aload_n 0, 1) := by decide +kernel
theorem dX9_tale_69 : decode cX9_tale 69 = .ok (.iload 7, 2) := by decide +kernel
theorem dX9_tale_71 : decode cX9_tale 71 = .ok (.invokevirtual 69, 3) := by decide +kernel
theorem dX9_tale_74 : decode cX9_tale 74 = .ok (.ireturn, 1) := by decide +kernel
theorem dX9_tale_75 : decode cX9_tale 75 = .ok (.aload_n 0, 1) := by decide +kernel
theorem dX9_tale_76 : decode cX9_tale 76 = .ok (.getfield 42, 3) := by decide +kernel
theorem dX9_tale_79 : decode cX9_tale 79 = .ok (.getfield 100, 3) := by decide +kernel
theorem dX9_tale_82 : decode cX9_tale 82 = .ok (.ifCond .ne 6, 3) := by decide +kernel
theorem dX9_tale_85 : decode cX9_tale 85 = .ok (.bipush (-3), 2) := by decide +kernel
theorem dX9_tale_87 : decode cX9_tale 87 = .ok (.ireturn, 1) := by decide +kernel
theorem dX9_tale_88 : decode cX9_tale 88 = .ok (.iconst 0, 1) := by decide +kernel
theorem dX9_tale_89 : decode cX9_tale 89 = .ok (.istore 8, 2) := by decide +kernel
theorem dX9_tale_91 : decode cX9_tale 91 = .ok (.iload 8, 2) := by decide +kernel
theorem dX9_tale_93 : decode cX9_tale 93 = .ok (.iload 4, 2) := by decide +kernel
theorem dX9_tale_95 : decode cX9_tale 95 = .ok (.if_icmp .ge 31, 3) := by decide +kernel
theorem dX9_tale_98 : decode cX9_tale 98 = .ok (.aload_n 0, 1) := by decide +kernel
theorem dX9_tale_99 : decode cX9_tale 99 = .ok (.getfield 42, 3) := by decide +kernel
theorem dX9_tale_102 : decode cX9_tale 102 = .ok (.aload 6, 2) := by decide +kernel
theorem dX9_tale_104 : decode cX9_tale 104 = .ok (.getfield 192, 3) := by decide +kernel
theorem dX9_tale_107 : decode cX9_tale 107 = .ok (.iload_n 3, 1) := by decide +kernel
theorem dX9_tale_108 : decode cX9_tale 108 = .ok (.iload 8, 2) := by decide +kernel
theorem dX9_tale_110 : decode cX9_tale 110 = .ok (.iadd, 1) := by decide +kernel
theorem dX9_tale_111 : decode cX9_tale 111 = .ok (.iaload, 1) := by decide +kernel
theorem dX9_tale_112 : decode cX9_tale 112 = .ok (.invokevirtual 103, 3) := by decide +kernel
theorem dX9_tale_115 : decode cX9_tale 115 = .ok (.ifCond .ne 5, 3) := by decide +kernel
theorem dX9_tale_118 : decode cX9_tale 118 = .ok (.iconst (-1), 1) := by decide +kernel
theorem dX9_tale_119 : decode cX9_tale 119 = .ok (.ireturn, 1) := by decide +kernel
theorem dX9_tale_120 : decode cX9_tale 120 = .ok (.iinc 8 1, 3) := by decide +kernel
theorem dX9_tale_123 : decode cX9_tale 123 = .ok (.goto (-32), 3) := by decide +kernel
theorem dX9_tale_126 : decode cX9_tale 126 = .ok (.aload_n 0, 1) := by decide +kernel
theorem dX9_tale_127 : decode cX9_tale 127 = .ok (.aload 6, 2) := by decide +kernel
theorem dX9_tale_129 : decode cX9_tale 129 = .ok (.iload_n 3, 1) := by decide +kernel
theorem dX9_tale_130 : decode cX9_tale 130 = .ok (.iload 4, 2) := by decide +kernel
theorem dX9_tale_132 : decode cX9_tale 132 = .ok (.iload 5, 2) := by decide +kernel
theorem dX9_tale_134 : decode cX9_tale 134 = .ok (.invokevirtual 195, 3) := by decide +kernel
theorem dX9_tale_137 : decode cX9_tale 137 = .ok (.ireturn, 1) := by decide +kernel
def bk_X9_tale_0 (l : Launch) (g : Gm) (G : Nat → CT) (P : PT) : CT := (oALd 0 (oPush (.int (0)) (oPutI [9] 7 (oILd 1 (oCall l g d_X9_isSheet 1 (oIf (fun x => x = 0) (oPush (.int (-1)) (oIRet P)) (oILd 2 (oCall l g d_X9_isLane 1 (oIf (fun x => x = 0) (oPush (.int (-2)) (oIRet P)) (oILd 4 (oIf (fun x => x < 0) (oPush (.int (-2)) (oIRet P)) (oILd 4 (oPush (.int (20)) (oCmp (fun x y => y < x) (oPush (.int (-2)) (oIRet P)) (oILd 5 (oCall l g d_X9_isQuestion 1 (oIf (fun x => x = 0) (oPush (.int (-2)) (oIRet P)) (oALd 0 (oGet [9] 0 (oILd 1 (oRAL g 5 (oASt 6 (oALd 6 (oILd 2 (oILd 3 (oILd 4 (oCallV l g [(5, d_X5_faultOfTaking)] 4 (oISt 7 (oILd 7 (oIf (fun x => x = 0) (oALd 0 (oGet [9] 8 (oGet [2] 4 (oIf (fun x => x = 0) (oPush (.int (-3)) (oIRet P)) (oPush (.int (0)) (oISt 8 (G 1))))))) (oALd 0 (oILd 7 (oCallV l g [(9, d_X9_fallen)] 2 (oIRet P))))))))))))))))))))))))))))))))))
def bk_X9_tale_1 (l : Launch) (g : Gm) (G : Nat → CT) (P : PT) : CT := (oILd 8 (oILd 4 (oCmp (fun x y => y ≤ x) (oALd 0 (oALd 6 (oILd 3 (oILd 4 (oILd 5 (oCallV l g [(9, d_X9_endOfTale)] 5 (oIRet P))))))) (oALd 0 (oGet [9] 8 (oALd 6 (oGet [5] 0 (oILd 3 (oILd 8 (oBin (fun x y => x + y) (oIAL g (oCallV l g [(2, d_X2_hasVillage)] 2 (oIf (fun x => x = 0) (oPush (.int (-1)) (oIRet P)) (oInc 8 (1) (oGo (G 1))))))))))))))))
def bk_X9_tale (l : Launch) (g : Gm) (b : Nat) (G : Nat → CT) (P : PT) : CT := match b with
  | 0 => bk_X9_tale_0 l g G P
  | 1 => bk_X9_tale_1 l g G P
  | _ => fun _ _ _ _ _ => False
def pc_X9_tale (b : Nat) : Nat := match b with
  | 0 => 0
  | 1 => 91
  | _ => 0
set_option maxRecDepth 100000 in
theorem sb_X9_tale_0 {p : Program} {l : Launch} {e : Env} {s : State} {m : MethodId} {args : Array Value} {below : List Frame} {meth : Method} {c : Code} {g : Gm} {h0 : Hp} {P : PT} {mc ms : Nat} (X : Cx g p s m args meth c (Adom h0 s.heap.size) cX9_tale RX9 9) (hr : meth.sig.returnType = some .int) (hn : meth.name = "tale") : SX g p l e s m args below meth c d_X9_tale 9 mc ms h0 P (bk_X9_tale_0 l g (fun b => GX g p l e s m args below meth c d_X9_tale 9 mc ms h0 P (pc_X9_tale b)) P) 0 := (s_aload_n X dX9_tale_0 rfl (s_iconst X dX9_tale_1 rfl (s_putI X dX9_tale_2 (mcn (⟨_, _, _, _, tyX9, rfl, inU_X9, by decide, uw_171, rfl, tyX9_ok, nmX9, rfl, rfl⟩) (mnl)) (s_iload_n X dX9_tale_5 rfl (s_callS X dX9_tale_6 uw_202 uw_203 uw_1 ci_X9_isSheet yok_X9_isSheet ⟨Nat.le_of_ble_eq_true rfl, Nat.le_of_ble_eq_true rfl⟩ (s_if_ne X dX9_tale_9 (by decide) (s_iload_n X dX9_tale_14 rfl (s_callS X dX9_tale_15 uw_205 uw_206 uw_1 ci_X9_isLane yok_X9_isLane ⟨Nat.le_of_ble_eq_true rfl, Nat.le_of_ble_eq_true rfl⟩ (s_if_eq X dX9_tale_18 (by decide) (s_bipush X dX9_tale_41 rfl (s_iret X hr dX9_tale_43)) (s_iload X dX9_tale_21 (s_if_lt X dX9_tale_23 (by decide) (s_bipush X dX9_tale_41 rfl (s_iret X hr dX9_tale_43)) (s_iload X dX9_tale_26 (s_bipush X dX9_tale_28 rfl (s_icmp_gt X dX9_tale_30 (by decide) (s_bipush X dX9_tale_41 rfl (s_iret X hr dX9_tale_43)) (s_iload X dX9_tale_33 (s_callS X dX9_tale_35 uw_455 uw_456 uw_1 ci_X9_isQuestion yok_X9_isQuestion ⟨Nat.le_of_ble_eq_true rfl, Nat.le_of_ble_eq_true rfl⟩ (s_if_ne X dX9_tale_38 (by decide) (s_aload_n X dX9_tale_44 rfl (s_get X dX9_tale_45 (mcn (⟨_, _, _, _, rfl, inU_X9, by decide, uw_164, rfl⟩) (mnl)) (s_iload_n X dX9_tale_48 rfl (s_aaload X (t := 5) (fun _ => rfl) rfl dX9_tale_49 (s_astore X dX9_tale_50 (by decide) (s_aload X dX9_tale_52 (s_iload_n X dX9_tale_54 rfl (s_iload_n X dX9_tale_55 rfl (s_iload X dX9_tale_56 (s_callV X dX9_tale_58 (mv (vok_V X rfl uw_208 uw_209 uw_210 uw_6 ci_X5_faultOfTaking yok_X5_faultOfTaking ⟨Nat.le_of_ble_eq_true rfl, Nat.le_of_ble_eq_true rfl⟩) mv0) (s_istore X dX9_tale_61 (by decide) (s_iload X dX9_tale_63 (s_if_eq X dX9_tale_65 (by decide) (s_aload_n X dX9_tale_75 rfl (s_get X dX9_tale_76 (mcn (⟨_, _, _, _, rfl, inU_X9, by decide, uw_172, rfl⟩) (mnl)) (s_get X dX9_tale_79 (mcn (⟨_, _, _, _, rfl, inU_X2, by decide, uw_89, rfl⟩) (mnl)) (s_if_ne X dX9_tale_82 (by decide) (s_iconst X dX9_tale_88 rfl (s_istore X dX9_tale_89 (by decide) Sd.rf)) (s_bipush X dX9_tale_85 rfl (s_iret X hr dX9_tale_87)))))) (s_aload_n X dX9_tale_68 rfl (s_iload X dX9_tale_69 (s_callV X dX9_tale_71 (mv (vok_V X rfl uw_216 uw_218 (UW_pr 0 rfl rfl) uw_1 ci_X9_fallen yok_X9_fallen ⟨Nat.le_of_ble_eq_true rfl, Nat.le_of_ble_eq_true rfl⟩) mv0) (s_iret X hr dX9_tale_74))))))))))))))))) (s_bipush X dX9_tale_41 rfl (s_iret X hr dX9_tale_43))))))))))))) (s_iconst X dX9_tale_12 rfl (s_iret X hr dX9_tale_13))))))))
set_option maxRecDepth 100000 in
theorem sb_X9_tale_1 {p : Program} {l : Launch} {e : Env} {s : State} {m : MethodId} {args : Array Value} {below : List Frame} {meth : Method} {c : Code} {g : Gm} {h0 : Hp} {P : PT} {mc ms : Nat} (X : Cx g p s m args meth c (Adom h0 s.heap.size) cX9_tale RX9 9) (hr : meth.sig.returnType = some .int) (hn : meth.name = "tale") : SX g p l e s m args below meth c d_X9_tale 9 mc ms h0 P (bk_X9_tale_1 l g (fun b => GX g p l e s m args below meth c d_X9_tale 9 mc ms h0 P (pc_X9_tale b)) P) 91 := (s_iload X dX9_tale_91 (s_iload X dX9_tale_93 (s_icmp_ge X dX9_tale_95 (by decide) (s_aload_n X dX9_tale_126 rfl (s_aload X dX9_tale_127 (s_iload_n X dX9_tale_129 rfl (s_iload X dX9_tale_130 (s_iload X dX9_tale_132 (s_callV X dX9_tale_134 (mv (vok_V X rfl uw_499 uw_501 (UW_pr 8 rfl rfl) uw_1 ci_X9_endOfTale yok_X9_endOfTale ⟨Nat.le_of_ble_eq_true rfl, Nat.le_of_ble_eq_true rfl⟩) mv0) (s_iret X hr dX9_tale_137))))))) (s_aload_n X dX9_tale_98 rfl (s_get X dX9_tale_99 (mcn (⟨_, _, _, _, rfl, inU_X9, by decide, uw_172, rfl⟩) (mnl)) (s_aload X dX9_tale_102 (s_get X dX9_tale_104 (mcn (⟨_, _, _, _, rfl, inU_X5, by decide, uw_149, rfl⟩) (mnl)) (s_iload_n X dX9_tale_107 rfl (s_iload X dX9_tale_108 (s_iadd X dX9_tale_110 (s_iaload X dX9_tale_111 (s_callV X dX9_tale_112 (mv (vok_V X rfl uw_382 uw_383 uw_384 uw_3 ci_X2_hasVillage yok_X2_hasVillage ⟨Nat.le_of_ble_eq_true rfl, Nat.le_of_ble_eq_true rfl⟩) mv0) (s_if_ne X dX9_tale_115 (by decide) (s_iinc X dX9_tale_120 rfl (by decide) (s_goto X dX9_tale_123 (by decide) Sd.rf)) (s_iconst X dX9_tale_118 rfl (s_iret X hr dX9_tale_119)))))))))))))))
set_option maxRecDepth 100000 in
theorem vc_X9_tale {l : Launch} {g : Gm} {a0 : Nat} {a1 : Int32} {a2 : Int32} {a3 : Int32} {a4 : Int32} {a5 : Int32} {h : Hp} {mc ms : Nat} {P : PT} (H : ∀ G : Nat → CT, (∀ (b : Nat) (h : Hp) (cb sb : Nat) (ls : LocS) (st : List Value), bk_X9_tale l g b G P h cb sb ls st → G b h cb sb ls st) → G 0 h mc ms [some (.ref a0), some (.int a1), some (.int a2), some (.int a3), some (.int a4), some (.int a5), none, none, none] []) : Run l g d_X9_tale [.ref a0, .int a1, .int a2, .int a3, .int a4, .int a5] h mc ms P :=
  Run.of (d := d_X9_tale) (by decide) (mcn rfl (mcn rfl (mcn rfl (mcn rfl (mcn rfl (mcn rfl (mnl))))))) (Nat.le_of_ble_eq_true rfl) (fun p e s m args below meth c X hr hn => H (fun b => GX g p l e s m args below meth c d_X9_tale 9 mc ms h P (pc_X9_tale b)) (fun b h1 cb sb ls st hb => match b, hb with
    | 0, hb => sb_X9_tale_0 (p := p) (e := e) (below := below) X hr hn h1 cb sb ls st hb
    | 1, hb => sb_X9_tale_1 (p := p) (e := e) (below := below) X hr hn h1 cb sb ls st hb
    | _ + 2, hb => hb.elim))
theorem dX9_cuts_0 : decode cX9_cuts 0 = .ok (.aload_n 0, 1) := by decide +kernel
theorem dX9_cuts_1 : decode cX9_cuts 1 = .ok (.getfield 42, 3) := by decide +kernel
theorem dX9_cuts_4 : decode cX9_cuts 4 = .ok (.getfield 100, 3) := by decide +kernel
theorem dX9_cuts_7 : decode cX9_cuts 7 = .ok (.ifCond .ne 8, 3) := by decide +kernel
theorem dX9_cuts_10 : decode cX9_cuts 10 = .ok (.bipush (-3), 2) := by decide +kernel
theorem dX9_cuts_12 : decode cX9_cuts 12 = .ok (.goto 11, 3) := by decide +kernel
theorem dX9_cuts_15 : decode cX9_cuts 15 = .ok (.aload_n 0, 1) := by decide +kernel
theorem dX9_cuts_16 : decode cX9_cuts 16 = .ok (.invokevirtual 199, 3) := by decide +kernel
theorem dX9_cuts_19 : decode cX9_cuts 19 = .ok (.iconst 0, 1) := by decide +kernel
theorem dX9_cuts_20 : decode cX9_cuts 20 = .ok (.invokevirtual 203, 3) := by decide +kernel
theorem dX9_cuts_23 : decode cX9_cuts 23 = .ok (.ireturn, 1) := by decide +kernel
def bk_X9_cuts_0 (l : Launch) (g : Gm) (G : Nat → CT) (P : PT) : CT := (oALd 0 (oGet [9] 8 (oGet [2] 4 (oIf (fun x => x = 0) (oPush (.int (-3)) (oGo (oIRet P))) (oALd 0 (oCallV l g [(9, d_X9_surveyed)] 1 (oPush (.int (0)) (oCallV l g [(6, d_X6_cutsFrom)] 2 (oIRet P)))))))))
def bk_X9_cuts (l : Launch) (g : Gm) (b : Nat) (G : Nat → CT) (P : PT) : CT := match b with
  | 0 => bk_X9_cuts_0 l g G P
  | _ => fun _ _ _ _ _ => False
def pc_X9_cuts (b : Nat) : Nat := match b with
  | 0 => 0
  | _ => 0
set_option maxRecDepth 100000 in
theorem sb_X9_cuts_0 {p : Program} {l : Launch} {e : Env} {s : State} {m : MethodId} {args : Array Value} {below : List Frame} {meth : Method} {c : Code} {g : Gm} {h0 : Hp} {P : PT} {mc ms : Nat} (X : Cx g p s m args meth c (Adom h0 s.heap.size) cX9_cuts RX9 1) (hr : meth.sig.returnType = some .int) (hn : meth.name = "cuts") : SX g p l e s m args below meth c d_X9_cuts 1 mc ms h0 P (bk_X9_cuts_0 l g (fun b => GX g p l e s m args below meth c d_X9_cuts 1 mc ms h0 P (pc_X9_cuts b)) P) 0 := (s_aload_n X dX9_cuts_0 rfl (s_get X dX9_cuts_1 (mcn (⟨_, _, _, _, rfl, inU_X9, by decide, uw_172, rfl⟩) (mnl)) (s_get X dX9_cuts_4 (mcn (⟨_, _, _, _, rfl, inU_X2, by decide, uw_89, rfl⟩) (mnl)) (s_if_ne X dX9_cuts_7 (by decide) (s_aload_n X dX9_cuts_15 rfl (s_callV X dX9_cuts_16 (mv (vok_V X rfl uw_509 uw_511 (UW_pr 9 rfl rfl) uw_1 ci_X9_surveyed yok_X9_surveyed ⟨Nat.le_of_ble_eq_true rfl, Nat.le_of_ble_eq_true rfl⟩) mv0) (s_iconst X dX9_cuts_19 rfl (s_callV X dX9_cuts_20 (mv (vok_V X rfl uw_541 uw_542 uw_543 uw_5 ci_X6_cutsFrom yok_X6_cutsFrom ⟨Nat.le_of_ble_eq_true rfl, Nat.le_of_ble_eq_true rfl⟩) mv0) (s_iret X hr dX9_cuts_23))))) (s_bipush X dX9_cuts_10 rfl (s_goto X dX9_cuts_12 (by decide) (s_iret X hr dX9_cuts_23)))))))
set_option maxRecDepth 100000 in
theorem vc_X9_cuts {l : Launch} {g : Gm} {a0 : Nat} {h : Hp} {mc ms : Nat} {P : PT} (H : ∀ G : Nat → CT, (∀ (b : Nat) (h : Hp) (cb sb : Nat) (ls : LocS) (st : List Value), bk_X9_cuts l g b G P h cb sb ls st → G b h cb sb ls st) → G 0 h mc ms [some (.ref a0)] []) : Run l g d_X9_cuts [.ref a0] h mc ms P :=
  Run.of (d := d_X9_cuts) (by decide) (mcn rfl (mnl)) (Nat.le_of_ble_eq_true rfl) (fun p e s m args below meth c X hr hn => H (fun b => GX g p l e s m args below meth c d_X9_cuts 1 mc ms h P (pc_X9_cuts b)) (fun b h1 cb sb ls st hb => match b, hb with
    | 0, hb => sb_X9_cuts_0 (p := p) (e := e) (below := below) X hr hn h1 cb sb ls st hb
    | _ + 1, hb => hb.elim))
theorem dX9_runs_0 : decode cX9_runs 0 = .ok (.aload_n 0, 1) := by decide +kernel
theorem dX9_runs_1 : decode cX9_runs 1 = .ok (.getfield 42, 3) := by decide +kernel
theorem dX9_runs_4 : decode cX9_runs 4 = .ok (.getfield 100, 3) := by decide +kernel
theorem dX9_runs_7 : decode cX9_runs 7 = .ok (.ifCond .ne 9, 3) := by decide +kernel
theorem dX9_runs_10 : decode cX9_runs 10 = .ok (.ldc2_w 206, 3) := by decide +kernel
theorem dX9_runs_13 : decode cX9_runs 13 = .ok (.goto 10, 3) := by decide +kernel
theorem dX9_runs_16 : decode cX9_runs 16 = .ok (.aload_n 0, 1) := by decide +kernel
theorem dX9_runs_17 : decode cX9_runs 17 = .ok (.invokevirtual 199, 3) := by decide +kernel
theorem dX9_runs_20 : decode cX9_runs 20 = .ok (.invokevirtual 208, 3) := by decide +kernel
theorem dX9_runs_23 : decode cX9_runs 23 = .ok (.lreturn, 1) := by decide +kernel
def bk_X9_runs_0 (l : Launch) (g : Gm) (G : Nat → CT) (P : PT) : CT := (oALd 0 (oGet [9] 8 (oGet [2] 4 (oIf (fun x => x = 0) (oPush (.long (-9223372036854775808)) (oGo (oJRet P))) (oALd 0 (oCallV l g [(9, d_X9_surveyed)] 1 (oCallV l g [(6, d_X6_runsInAll)] 1 (oJRet P))))))))
def bk_X9_runs (l : Launch) (g : Gm) (b : Nat) (G : Nat → CT) (P : PT) : CT := match b with
  | 0 => bk_X9_runs_0 l g G P
  | _ => fun _ _ _ _ _ => False
def pc_X9_runs (b : Nat) : Nat := match b with
  | 0 => 0
  | _ => 0
set_option maxRecDepth 100000 in
theorem sb_X9_runs_0 {p : Program} {l : Launch} {e : Env} {s : State} {m : MethodId} {args : Array Value} {below : List Frame} {meth : Method} {c : Code} {g : Gm} {h0 : Hp} {P : PT} {mc ms : Nat} (X : Cx g p s m args meth c (Adom h0 s.heap.size) cX9_runs RX9 1) (hr : meth.sig.returnType = some .long) (hn : meth.name = "runs") : SX g p l e s m args below meth c d_X9_runs 1 mc ms h0 P (bk_X9_runs_0 l g (fun b => GX g p l e s m args below meth c d_X9_runs 1 mc ms h0 P (pc_X9_runs b)) P) 0 := (s_aload_n X dX9_runs_0 rfl (s_get X dX9_runs_1 (mcn (⟨_, _, _, _, rfl, inU_X9, by decide, uw_172, rfl⟩) (mnl)) (s_get X dX9_runs_4 (mcn (⟨_, _, _, _, rfl, inU_X2, by decide, uw_89, rfl⟩) (mnl)) (s_if_ne X dX9_runs_7 (by decide) (s_aload_n X dX9_runs_16 rfl (s_callV X dX9_runs_17 (mv (vok_V X rfl uw_509 uw_511 (UW_pr 9 rfl rfl) uw_1 ci_X9_surveyed yok_X9_surveyed ⟨Nat.le_of_ble_eq_true rfl, Nat.le_of_ble_eq_true rfl⟩) mv0) (s_callV X dX9_runs_20 (mv (vok_V X rfl uw_550 uw_551 uw_552 uw_5 ci_X6_runsInAll yok_X6_runsInAll ⟨Nat.le_of_ble_eq_true rfl, Nat.le_of_ble_eq_true rfl⟩) mv0) (s_jret X hr dX9_runs_23)))) (s_ldc2 X dX9_runs_10 uw_549 (s_goto X dX9_runs_13 (by decide) (s_jret X hr dX9_runs_23)))))))
set_option maxRecDepth 100000 in
theorem vc_X9_runs {l : Launch} {g : Gm} {a0 : Nat} {h : Hp} {mc ms : Nat} {P : PT} (H : ∀ G : Nat → CT, (∀ (b : Nat) (h : Hp) (cb sb : Nat) (ls : LocS) (st : List Value), bk_X9_runs l g b G P h cb sb ls st → G b h cb sb ls st) → G 0 h mc ms [some (.ref a0)] []) : Run l g d_X9_runs [.ref a0] h mc ms P :=
  Run.of (d := d_X9_runs) (by decide) (mcn rfl (mnl)) (Nat.le_of_ble_eq_true rfl) (fun p e s m args below meth c X hr hn => H (fun b => GX g p l e s m args below meth c d_X9_runs 1 mc ms h P (pc_X9_runs b)) (fun b h1 cb sb ls st hb => match b, hb with
    | 0, hb => sb_X9_runs_0 (p := p) (e := e) (below := below) X hr hn h1 cb sb ls st hb
    | _ + 1, hb => hb.elim))
theorem dX9_first_0 : decode cX9_first 0 = .ok (.iload_n 1, 1) := by decide +kernel
theorem dX9_first_1 : decode cX9_first 1 = .ok (.iconst (-1), 1) := by decide +kernel
theorem dX9_first_2 : decode cX9_first 2 = .ok (.if_icmp .lt 9, 3) := by decide +kernel
theorem dX9_first_5 : decode cX9_first 5 = .ok (.iload_n 1, 1) := by decide +kernel
theorem dX9_first_6 : decode cX9_first 6 = .ok (.bipush 20, 2) := by decide +kernel
theorem dX9_first_8 : decode cX9_first 8 = .ok (.if_icmp .lt 6, 3) := by decide +kernel
theorem dX9_first_11 : decode cX9_first 11 = .ok (.bipush (-2), 2) := by decide +kernel
theorem dX9_first_13 : decode cX9_first 13 = .ok (.ireturn, 1) := by decide +kernel
theorem dX9_first_14 : decode cX9_first 14 = .ok (.aload_n 0, 1) := by decide +kernel
theorem dX9_first_15 : decode cX9_first 15 = .ok (.getfield 42, 3) := by decide +kernel
theorem dX9_first_18 : decode cX9_first 18 = .ok (.getfield 100, 3) := by decide +kernel
theorem dX9_first_21 : decode cX9_first 21 = .ok (.ifCond .ne 6, 3) := by decide +kernel
theorem dX9_first_24 : decode cX9_first 24 = .ok (.bipush (-3), 2) := by decide +kernel
theorem dX9_first_26 : decode cX9_first 26 = .ok (.ireturn, 1) := by decide +kernel
theorem dX9_first_27 : decode cX9_first 27 = .ok (.iload_n 1, 1) := by decide +kernel
theorem dX9_first_28 : decode cX9_first 28 = .ok (.iconst (-1), 1) := by decide +kernel
theorem dX9_first_29 : decode cX9_first 29 = .ok (.if_icmp .ne 11, 3) := by decide +kernel
theorem dX9_first_32 : decode cX9_first 32 = .ok (.aload_n 0, 1) := by decide +kernel
theorem dX9_first_33 : decode cX9_first 33 = .ok (.getfield 42, 3) := by decide +kernel
theorem dX9_first_36 : decode cX9_first 36 = .ok (.getfield 212, 3) := by decide +kernel
theorem dX9_first_39 : decode cX9_first 39 = .ok (.ireturn, 1) := by decide +kernel
theorem dX9_first_40 : decode cX9_first 40 = .ok (.iload_n 1, 1) := by decide +kernel
theorem dX9_first_41 : decode cX9_first 41 = .ok (.aload_n 0, 1) := by decide +kernel
theorem dX9_first_42 : decode cX9_first 42 = .ok (.getfield 42, 3) := by decide +kernel
theorem dX9_first_45 : decode cX9_first 45 = .ok (.getfield 212, 3) := by decide +kernel
theorem dX9_first_48 : decode cX9_first 48 = .ok (.if_icmp .ge 15, 3) := by decide +kernel
theorem dX9_first_51 : decode cX9_first 51 = .ok (.aload_n 0, 1) := by decide +kernel
theorem dX9_first_52 : decode cX9_first 52 = .ok (.getfield 42, 3) := by decide +kernel
theorem dX9_first_55 : decode cX9_first 55 = .ok (.getfield 213, 3) := by decide +kernel
theorem dX9_first_58 : decode cX9_first 58 = .ok (.iload_n 1, 1) := by decide +kernel
theorem dX9_first_59 : decode cX9_first 59 = .ok (.iaload, 1) := by decide +kernel
theorem dX9_first_60 : decode cX9_first 60 = .ok (.goto 5, 3) := by decide +kernel
theorem dX9_first_63 : decode cX9_first 63 = .ok (.bipush (-9), 2) := by decide +kernel
theorem dX9_first_65 : decode cX9_first 65 = .ok (.ireturn, 1) := by decide +kernel
def bk_X9_first_0 (l : Launch) (g : Gm) (G : Nat → CT) (P : PT) : CT := (oILd 1 (oPush (.int (-1)) (oCmp (fun x y => x < y) (oPush (.int (-2)) (oIRet P)) (oILd 1 (oPush (.int (20)) (oCmp (fun x y => x < y) (oALd 0 (oGet [9] 8 (oGet [2] 4 (oIf (fun x => x = 0) (oPush (.int (-3)) (oIRet P)) (oILd 1 (oPush (.int (-1)) (oCmp (fun x y => x = y) (oALd 0 (oGet [9] 8 (oGet [2] 5 (oIRet P)))) (oILd 1 (oALd 0 (oGet [9] 8 (oGet [2] 5 (oCmp (fun x y => y ≤ x) (oPush (.int (-9)) (oIRet P)) (oALd 0 (oGet [9] 8 (oGet [2] 2 (oILd 1 (oIAL g (oGo (oIRet P))))))))))))))))))) (oPush (.int (-2)) (oIRet P))))))))
def bk_X9_first (l : Launch) (g : Gm) (b : Nat) (G : Nat → CT) (P : PT) : CT := match b with
  | 0 => bk_X9_first_0 l g G P
  | _ => fun _ _ _ _ _ => False
def pc_X9_first (b : Nat) : Nat := match b with
  | 0 => 0
  | _ => 0
set_option maxRecDepth 100000 in
theorem sb_X9_first_0 {p : Program} {l : Launch} {e : Env} {s : State} {m : MethodId} {args : Array Value} {below : List Frame} {meth : Method} {c : Code} {g : Gm} {h0 : Hp} {P : PT} {mc ms : Nat} (X : Cx g p s m args meth c (Adom h0 s.heap.size) cX9_first RX9 2) (hr : meth.sig.returnType = some .int) (hn : meth.name = "first") : SX g p l e s m args below meth c d_X9_first 2 mc ms h0 P (bk_X9_first_0 l g (fun b => GX g p l e s m args below meth c d_X9_first 2 mc ms h0 P (pc_X9_first b)) P) 0 := (s_iload_n X dX9_first_0 rfl (s_iconst X dX9_first_1 rfl (s_icmp_lt X dX9_first_2 (by decide) (s_bipush X dX9_first_11 rfl (s_iret X hr dX9_first_13)) (s_iload_n X dX9_first_5 rfl (s_bipush X dX9_first_6 rfl (s_icmp_lt X dX9_first_8 (by decide) (s_aload_n X dX9_first_14 rfl (s_get X dX9_first_15 (mcn (⟨_, _, _, _, rfl, inU_X9, by decide, uw_172, rfl⟩) (mnl)) (s_get X dX9_first_18 (mcn (⟨_, _, _, _, rfl, inU_X2, by decide, uw_89, rfl⟩) (mnl)) (s_if_ne X dX9_first_21 (by decide) (s_iload_n X dX9_first_27 rfl (s_iconst X dX9_first_28 rfl (s_icmp_ne X dX9_first_29 (by decide) (s_iload_n X dX9_first_40 rfl (s_aload_n X dX9_first_41 rfl (s_get X dX9_first_42 (mcn (⟨_, _, _, _, rfl, inU_X9, by decide, uw_172, rfl⟩) (mnl)) (s_get X dX9_first_45 (mcn (⟨_, _, _, _, rfl, inU_X2, by decide, uw_92, rfl⟩) (mnl)) (s_icmp_ge X dX9_first_48 (by decide) (s_bipush X dX9_first_63 rfl (s_iret X hr dX9_first_65)) (s_aload_n X dX9_first_51 rfl (s_get X dX9_first_52 (mcn (⟨_, _, _, _, rfl, inU_X9, by decide, uw_172, rfl⟩) (mnl)) (s_get X dX9_first_55 (mcn (⟨_, _, _, _, rfl, inU_X2, by decide, uw_84, rfl⟩) (mnl)) (s_iload_n X dX9_first_58 rfl (s_iaload X dX9_first_59 (s_goto X dX9_first_60 (by decide) (s_iret X hr dX9_first_65)))))))))))) (s_aload_n X dX9_first_32 rfl (s_get X dX9_first_33 (mcn (⟨_, _, _, _, rfl, inU_X9, by decide, uw_172, rfl⟩) (mnl)) (s_get X dX9_first_36 (mcn (⟨_, _, _, _, rfl, inU_X2, by decide, uw_92, rfl⟩) (mnl)) (s_iret X hr dX9_first_39))))))) (s_bipush X dX9_first_24 rfl (s_iret X hr dX9_first_26)))))) (s_bipush X dX9_first_11 rfl (s_iret X hr dX9_first_13))))))))
set_option maxRecDepth 100000 in
theorem vc_X9_first {l : Launch} {g : Gm} {a0 : Nat} {a1 : Int32} {h : Hp} {mc ms : Nat} {P : PT} (H : ∀ G : Nat → CT, (∀ (b : Nat) (h : Hp) (cb sb : Nat) (ls : LocS) (st : List Value), bk_X9_first l g b G P h cb sb ls st → G b h cb sb ls st) → G 0 h mc ms [some (.ref a0), some (.int a1)] []) : Run l g d_X9_first [.ref a0, .int a1] h mc ms P :=
  Run.of (d := d_X9_first) (by decide) (mcn rfl (mcn rfl (mnl))) (Nat.le_of_ble_eq_true rfl) (fun p e s m args below meth c X hr hn => H (fun b => GX g p l e s m args below meth c d_X9_first 2 mc ms h P (pc_X9_first b)) (fun b h1 cb sb ls st hb => match b, hb with
    | 0, hb => sb_X9_first_0 (p := p) (e := e) (below := below) X hr hn h1 cb sb ls st hb
    | _ + 1, hb => hb.elim))
theorem dX9_some_0 : decode cX9_some 0 = .ok (.iload_n 1, 1) := by decide +kernel
theorem dX9_some_1 : decode cX9_some 1 = .ok (.invokestatic 216, 3) := by decide +kernel
theorem dX9_some_4 : decode cX9_some 4 = .ok (.ifCond .ne 6, 3) := by decide +kernel
theorem dX9_some_7 : decode cX9_some 7 = .ok (.bipush (-2), 2) := by decide +kernel
theorem dX9_some_9 : decode cX9_some 9 = .ok (.ireturn, 1) := by decide +kernel
theorem dX9_some_10 : decode cX9_some 10 = .ok (.aload_n 0, 1) := by decide +kernel
theorem dX9_some_11 : decode cX9_some 11 = .ok (.getfield 42, 3) := by decide +kernel
theorem dX9_some_14 : decode cX9_some 14 = .ok (.getfield 100, 3) := by decide +kernel
theorem dX9_some_17 : decode cX9_some 17 = .ok (.ifCond .ne 8, 3) := by decide +kernel
theorem dX9_some_20 : decode cX9_some 20 = .ok (.bipush (-3), 2) := by decide +kernel
theorem dX9_some_22 : decode cX9_some 22 = .ok (.goto 11, 3) := by decide +kernel
theorem dX9_some_25 : decode cX9_some 25 = .ok (.aload_n 0, 1) := by decide +kernel
theorem dX9_some_26 : decode cX9_some 26 = .ok (.invokevirtual 199, 3) := by decide +kernel
theorem dX9_some_29 : decode cX9_some 29 = .ok (.iload_n 1, 1) := by decide +kernel
theorem dX9_some_30 : decode cX9_some 30 = .ok (.invokevirtual 219, 3) := by decide +kernel
theorem dX9_some_33 : decode cX9_some 33 = .ok (.ireturn, 1) := by decide +kernel
def bk_X9_some_0 (l : Launch) (g : Gm) (G : Nat → CT) (P : PT) : CT := (oILd 1 (oCall l g d_X9_isSum 1 (oIf (fun x => x = 0) (oPush (.int (-2)) (oIRet P)) (oALd 0 (oGet [9] 8 (oGet [2] 4 (oIf (fun x => x = 0) (oPush (.int (-3)) (oGo (oIRet P))) (oALd 0 (oCallV l g [(9, d_X9_surveyed)] 1 (oILd 1 (oCallV l g [(6, d_X6_fewestOf)] 2 (oIRet P))))))))))))
def bk_X9_some (l : Launch) (g : Gm) (b : Nat) (G : Nat → CT) (P : PT) : CT := match b with
  | 0 => bk_X9_some_0 l g G P
  | _ => fun _ _ _ _ _ => False
def pc_X9_some (b : Nat) : Nat := match b with
  | 0 => 0
  | _ => 0
set_option maxRecDepth 100000 in
theorem sb_X9_some_0 {p : Program} {l : Launch} {e : Env} {s : State} {m : MethodId} {args : Array Value} {below : List Frame} {meth : Method} {c : Code} {g : Gm} {h0 : Hp} {P : PT} {mc ms : Nat} (X : Cx g p s m args meth c (Adom h0 s.heap.size) cX9_some RX9 2) (hr : meth.sig.returnType = some .int) (hn : meth.name = "some") : SX g p l e s m args below meth c d_X9_some 2 mc ms h0 P (bk_X9_some_0 l g (fun b => GX g p l e s m args below meth c d_X9_some 2 mc ms h0 P (pc_X9_some b)) P) 0 := (s_iload_n X dX9_some_0 rfl (s_callS X dX9_some_1 uw_562 uw_563 uw_1 ci_X9_isSum yok_X9_isSum ⟨Nat.le_of_ble_eq_true rfl, Nat.le_of_ble_eq_true rfl⟩ (s_if_ne X dX9_some_4 (by decide) (s_aload_n X dX9_some_10 rfl (s_get X dX9_some_11 (mcn (⟨_, _, _, _, rfl, inU_X9, by decide, uw_172, rfl⟩) (mnl)) (s_get X dX9_some_14 (mcn (⟨_, _, _, _, rfl, inU_X2, by decide, uw_89, rfl⟩) (mnl)) (s_if_ne X dX9_some_17 (by decide) (s_aload_n X dX9_some_25 rfl (s_callV X dX9_some_26 (mv (vok_V X rfl uw_509 uw_511 (UW_pr 9 rfl rfl) uw_1 ci_X9_surveyed yok_X9_surveyed ⟨Nat.le_of_ble_eq_true rfl, Nat.le_of_ble_eq_true rfl⟩) mv0) (s_iload_n X dX9_some_29 rfl (s_callV X dX9_some_30 (mv (vok_V X rfl uw_565 uw_566 uw_567 uw_5 ci_X6_fewestOf yok_X6_fewestOf ⟨Nat.le_of_ble_eq_true rfl, Nat.le_of_ble_eq_true rfl⟩) mv0) (s_iret X hr dX9_some_33))))) (s_bipush X dX9_some_20 rfl (s_goto X dX9_some_22 (by decide) (s_iret X hr dX9_some_33))))))) (s_bipush X dX9_some_7 rfl (s_iret X hr dX9_some_9)))))
set_option maxRecDepth 100000 in
theorem vc_X9_some {l : Launch} {g : Gm} {a0 : Nat} {a1 : Int32} {h : Hp} {mc ms : Nat} {P : PT} (H : ∀ G : Nat → CT, (∀ (b : Nat) (h : Hp) (cb sb : Nat) (ls : LocS) (st : List Value), bk_X9_some l g b G P h cb sb ls st → G b h cb sb ls st) → G 0 h mc ms [some (.ref a0), some (.int a1)] []) : Run l g d_X9_some [.ref a0, .int a1] h mc ms P :=
  Run.of (d := d_X9_some) (by decide) (mcn rfl (mcn rfl (mnl))) (Nat.le_of_ble_eq_true rfl) (fun p e s m args below meth c X hr hn => H (fun b => GX g p l e s m args below meth c d_X9_some 2 mc ms h P (pc_X9_some b)) (fun b h1 cb sb ls st hb => match b, hb with
    | 0, hb => sb_X9_some_0 (p := p) (e := e) (below := below) X hr hn h1 cb sb ls st hb
    | _ + 1, hb => hb.elim))
theorem dX9_every_0 : decode cX9_every 0 = .ok (.iload_n 1, 1) := by decide +kernel
theorem dX9_every_1 : decode cX9_every 1 = .ok (.invokestatic 216, 3) := by decide +kernel
theorem dX9_every_4 : decode cX9_every 4 = .ok (.ifCond .ne 6, 3) := by decide +kernel
theorem dX9_every_7 : decode cX9_every 7 = .ok (.bipush (-2), 2) := by decide +kernel
theorem dX9_every_9 : decode cX9_every 9 = .ok (.ireturn, 1) := by decide +kernel
theorem dX9_every_10 : decode cX9_every 10 = .ok (.aload_n 0, 1) := by decide +kernel
theorem dX9_every_11 : decode cX9_every 11 = .ok (.getfield 42, 3) := by decide +kernel
theorem dX9_every_14 : decode cX9_every 14 = .ok (.getfield 100, 3) := by decide +kernel
theorem dX9_every_17 : decode cX9_every 17 = .ok (.ifCond .ne 6, 3) := by decide +kernel
theorem dX9_every_20 : decode cX9_every 20 = .ok (.bipush (-3), 2) := by decide +kernel
theorem dX9_every_22 : decode cX9_every 22 = .ok (.ireturn, 1) := by decide +kernel
theorem dX9_every_23 : decode cX9_every 23 = .ok (.aload_n 0, 1) := by decide +kernel
theorem dX9_every_24 : decode cX9_every 24 = .ok (.invokevirtual 199, 3) := by decide +kernel
theorem dX9_every_27 : decode cX9_every 27 = .ok (.iload_n 1, 1) := by decide +kernel
theorem dX9_every_28 : decode cX9_every 28 = .ok (.invokevirtual 222, 3) := by decide +kernel
theorem dX9_every_31 : decode cX9_every 31 = .ok (.ifCond .eq 7, 3) := by decide +kernel
theorem dX9_every_34 : decode cX9_every 34 = .ok (.iconst 0, 1) := by decide +kernel
theorem dX9_every_35 : decode cX9_every 35 = .ok (.goto 4, 3) := by decide +kernel
theorem dX9_every_38 : decode cX9_every 38 = .ok (.iconst 1, 1) := by decide +kernel
theorem dX9_every_39 : decode cX9_every 39 = .ok (.ireturn, 1) := by decide +kernel
def bk_X9_every_0 (l : Launch) (g : Gm) (G : Nat → CT) (P : PT) : CT := (oILd 1 (oCall l g d_X9_isSum 1 (oIf (fun x => x = 0) (oPush (.int (-2)) (oIRet P)) (oALd 0 (oGet [9] 8 (oGet [2] 4 (oIf (fun x => x = 0) (oPush (.int (-3)) (oIRet P)) (oALd 0 (oCallV l g [(9, d_X9_surveyed)] 1 (oILd 1 (oCallV l g [(6, d_X6_canGoAround)] 2 (oIf (fun x => x = 0) (oPush (.int (1)) (oIRet P)) (oPush (.int (0)) (oGo (oIRet P)))))))))))))))
def bk_X9_every (l : Launch) (g : Gm) (b : Nat) (G : Nat → CT) (P : PT) : CT := match b with
  | 0 => bk_X9_every_0 l g G P
  | _ => fun _ _ _ _ _ => False
def pc_X9_every (b : Nat) : Nat := match b with
  | 0 => 0
  | _ => 0
set_option maxRecDepth 100000 in
theorem sb_X9_every_0 {p : Program} {l : Launch} {e : Env} {s : State} {m : MethodId} {args : Array Value} {below : List Frame} {meth : Method} {c : Code} {g : Gm} {h0 : Hp} {P : PT} {mc ms : Nat} (X : Cx g p s m args meth c (Adom h0 s.heap.size) cX9_every RX9 2) (hr : meth.sig.returnType = some .int) (hn : meth.name = "every") : SX g p l e s m args below meth c d_X9_every 2 mc ms h0 P (bk_X9_every_0 l g (fun b => GX g p l e s m args below meth c d_X9_every 2 mc ms h0 P (pc_X9_every b)) P) 0 := (s_iload_n X dX9_every_0 rfl (s_callS X dX9_every_1 uw_562 uw_563 uw_1 ci_X9_isSum yok_X9_isSum ⟨Nat.le_of_ble_eq_true rfl, Nat.le_of_ble_eq_true rfl⟩ (s_if_ne X dX9_every_4 (by decide) (s_aload_n X dX9_every_10 rfl (s_get X dX9_every_11 (mcn (⟨_, _, _, _, rfl, inU_X9, by decide, uw_172, rfl⟩) (mnl)) (s_get X dX9_every_14 (mcn (⟨_, _, _, _, rfl, inU_X2, by decide, uw_89, rfl⟩) (mnl)) (s_if_ne X dX9_every_17 (by decide) (s_aload_n X dX9_every_23 rfl (s_callV X dX9_every_24 (mv (vok_V X rfl uw_509 uw_511 (UW_pr 9 rfl rfl) uw_1 ci_X9_surveyed yok_X9_surveyed ⟨Nat.le_of_ble_eq_true rfl, Nat.le_of_ble_eq_true rfl⟩) mv0) (s_iload_n X dX9_every_27 rfl (s_callV X dX9_every_28 (mv (vok_V X rfl uw_573 uw_574 uw_575 uw_5 ci_X6_canGoAround yok_X6_canGoAround ⟨Nat.le_of_ble_eq_true rfl, Nat.le_of_ble_eq_true rfl⟩) mv0) (s_if_eq X dX9_every_31 (by decide) (s_iconst X dX9_every_38 rfl (s_iret X hr dX9_every_39)) (s_iconst X dX9_every_34 rfl (s_goto X dX9_every_35 (by decide) (s_iret X hr dX9_every_39)))))))) (s_bipush X dX9_every_20 rfl (s_iret X hr dX9_every_22)))))) (s_bipush X dX9_every_7 rfl (s_iret X hr dX9_every_9)))))
set_option maxRecDepth 100000 in
theorem vc_X9_every {l : Launch} {g : Gm} {a0 : Nat} {a1 : Int32} {h : Hp} {mc ms : Nat} {P : PT} (H : ∀ G : Nat → CT, (∀ (b : Nat) (h : Hp) (cb sb : Nat) (ls : LocS) (st : List Value), bk_X9_every l g b G P h cb sb ls st → G b h cb sb ls st) → G 0 h mc ms [some (.ref a0), some (.int a1)] []) : Run l g d_X9_every [.ref a0, .int a1] h mc ms P :=
  Run.of (d := d_X9_every) (by decide) (mcn rfl (mcn rfl (mnl))) (Nat.le_of_ble_eq_true rfl) (fun p e s m args below meth c X hr hn => H (fun b => GX g p l e s m args below meth c d_X9_every 2 mc ms h P (pc_X9_every b)) (fun b h1 cb sb ls st hb => match b, hb with
    | 0, hb => sb_X9_every_0 (p := p) (e := e) (below := below) X hr hn h1 cb sb ls st hb
    | _ + 1, hb => hb.elim))
theorem dX9_reading_0 : decode cX9_reading 0 = .ok (.aload_n 0, 1) := by decide +kernel
theorem dX9_reading_1 : decode cX9_reading 1 = .ok (.iload_n 1, 1) := by decide +kernel
theorem dX9_reading_2 : decode cX9_reading 2 = .ok (.iload_n 2, 1) := by decide +kernel
theorem dX9_reading_3 : decode cX9_reading 3 = .ok (.iload_n 3, 1) := by decide +kernel
theorem dX9_reading_4 : decode cX9_reading 4 = .ok (.iload 4, 2) := by decide +kernel
theorem dX9_reading_6 : decode cX9_reading 6 = .ok (.invokestatic 216, 3) := by decide +kernel
theorem dX9_reading_9 : decode cX9_reading 9 = .ok (.invokevirtual 167, 3) := by decide +kernel
theorem dX9_reading_12 : decode cX9_reading 12 = .ok (.istore 5, 2) := by decide +kernel
theorem dX9_reading_14 : decode cX9_reading 14 = .ok (.iload 5, 2) := by decide +kernel
theorem dX9_reading_16 : decode cX9_reading 16 = .ok (.ifCond .eq 6, 3) := by decide +kernel
theorem dX9_reading_19 : decode cX9_reading 19 = .ok (.iload 5, 2) := by decide +kernel
theorem dX9_reading_21 : decode cX9_reading 21 = .ok (.ireturn, 1) := by decide +kernel
theorem dX9_reading_22 : decode cX9_reading 22 = .ok (.aload_n 0, 1) := by decide +kernel
theorem dX9_reading_23 : decode cX9_reading 23 = .ok (.getfield 97, 3) := by decide +kernel
theorem dX9_reading_26 : decode cX9_reading 26 = .ok (.bipush 8, 2) := by decide +kernel
theorem dX9_reading_28 : decode cX9_reading 28 = .ok (.if_icmp .lt 6, 3) := by decide +kernel
theorem dX9_reading_31 : decode cX9_reading 31 = .ok (.bipush (-4), 2) := by decide +kernel
theorem dX9_reading_33 : decode cX9_reading 33 = .ok (.ireturn, 1) := by decide +kernel
theorem dX9_reading_34 : decode cX9_reading 34 = .ok (.aload_n 0, 1) := by decide +kernel
theorem dX9_reading_35 : decode cX9_reading 35 = .ok (.getfield 97, 3) := by decide +kernel
theorem dX9_reading_38 : decode cX9_reading 38 = .ok (.istore 6, 2) := by decide +kernel
theorem dX9_reading_40 : decode cX9_reading 40 = .ok (.aload_n 0, 1) := by decide +kernel
theorem dX9_reading_41 : decode cX9_reading 41 = .ok (.getfield 24, 3) := by decide +kernel
theorem dX9_reading_44 : decode cX9_reading 44 = .ok (.iconst 0, 1) := by decide +kernel
theorem dX9_reading_45 : decode cX9_reading 45 = .ok (.aload_n 0, 1) := by decide +kernel
theorem dX9_reading_46 : decode cX9_reading 46 = .ok (.getfield 33, 3) := by decide +kernel
theorem dX9_reading_49 : decode cX9_reading 49 = .ok (.iload 6, 2) := by decide +kernel
theorem dX9_reading_51 : decode cX9_reading 51 = .ok (.aaload, 1) := by decide +kernel
theorem dX9_reading_52 : decode cX9_reading 52 = .ok (.iconst 0, 1) := by decide +kernel
theorem dX9_reading_53 : decode cX9_reading 53 = .ok (.iconst 4, 1) := by decide +kernel
theorem dX9_reading_54 : decode cX9_reading 54 = .ok (.invokestatic 225, 3) := by decide +kernel
theorem dX9_reading_57 : decode cX9_reading 57 = .ok (.aload_n 0, 1) := by decide +kernel
theorem dX9_reading_58 : decode cX9_reading 58 = .ok (.getfield 36, 3) := by decide +kernel
theorem dX9_reading_61 : decode cX9_reading 61 = .ok (.iload 6, 2) := by decide +kernel
theorem dX9_reading_63 : decode cX9_reading 63 = .ok (.iload 4, 2) := by decide +kernel
theorem dX9_reading_65 : decode cX9_reading 65 = .ok (.iastore, 1) := by decide +kernel
theorem dX9_reading_66 : decode cX9_reading 66 = .ok (.aload_n 0, 1) := by decide +kernel
theorem dX9_reading_67 : decode cX9_reading 67 = .ok (.iload 6, 2) := by decide +kernel
theorem dX9_reading_69 : decode cX9_reading 69 = .ok (.iconst 1, 1) := by decide +kernel
theorem dX9_reading_70 : decode cX9_reading 70 = .ok (.iadd, 1) := by decide +kernel
theorem dX9_reading_71 : decode cX9_reading 71 = .ok (.putfield 97, 3) := by decide +kernel
theorem dX9_reading_74 : decode cX9_reading 74 = .ok (.iload 6, 2) := by decide +kernel
theorem dX9_reading_76 : decode cX9_reading 76 = .ok (.ireturn, 1) := by decide +kernel
def bk_X9_reading_0 (l : Launch) (g : Gm) (G : Nat → CT) (P : PT) : CT := (oALd 0 (oILd 1 (oILd 2 (oILd 3 (oILd 4 (oCall l g d_X9_isSum 1 (oCallV l g [(9, d_X9_takeCut)] 5 (oISt 5 (oILd 5 (oIf (fun x => x = 0) (oALd 0 (oGet [9] 6 (oPush (.int (8)) (oCmp (fun x y => x < y) (oALd 0 (oGet [9] 6 (oISt 6 (oALd 0 (oGet [9] 2 (oPush (.int (0)) (oALd 0 (oGet [9] 4 (oILd 6 (oRAL g 6 (oPush (.int (0)) (oPush (.int (4)) (oCopy g (oALd 0 (oGet [9] 5 (oILd 6 (oILd 4 (oIAS g (oALd 0 (oILd 6 (oPush (.int (1)) (oBin (fun x y => x + y) (oPutI [9] 6 (oILd 6 (oIRet P))))))))))))))))))))))))) (oPush (.int (-4)) (oIRet P)))))) (oILd 5 (oIRet P))))))))))))
def bk_X9_reading (l : Launch) (g : Gm) (b : Nat) (G : Nat → CT) (P : PT) : CT := match b with
  | 0 => bk_X9_reading_0 l g G P
  | _ => fun _ _ _ _ _ => False
def pc_X9_reading (b : Nat) : Nat := match b with
  | 0 => 0
  | _ => 0
set_option maxRecDepth 100000 in
theorem sb_X9_reading_0 {p : Program} {l : Launch} {e : Env} {s : State} {m : MethodId} {args : Array Value} {below : List Frame} {meth : Method} {c : Code} {g : Gm} {h0 : Hp} {P : PT} {mc ms : Nat} (X : Cx g p s m args meth c (Adom h0 s.heap.size) cX9_reading RX9 7) (hr : meth.sig.returnType = some .int) (hn : meth.name = "reading") : SX g p l e s m args below meth c d_X9_reading 7 mc ms h0 P (bk_X9_reading_0 l g (fun b => GX g p l e s m args below meth c d_X9_reading 7 mc ms h0 P (pc_X9_reading b)) P) 0 := (s_aload_n X dX9_reading_0 rfl (s_iload_n X dX9_reading_1 rfl (s_iload_n X dX9_reading_2 rfl (s_iload_n X dX9_reading_3 rfl (s_iload X dX9_reading_4 (s_callS X dX9_reading_6 uw_562 uw_563 uw_1 ci_X9_isSum yok_X9_isSum ⟨Nat.le_of_ble_eq_true rfl, Nat.le_of_ble_eq_true rfl⟩ (s_callV X dX9_reading_9 (mv (vok_V X rfl uw_458 uw_460 (UW_pr 6 rfl rfl) uw_1 ci_X9_takeCut yok_X9_takeCut ⟨Nat.le_of_ble_eq_true rfl, Nat.le_of_ble_eq_true rfl⟩) mv0) (s_istore X dX9_reading_12 (by decide) (s_iload X dX9_reading_14 (s_if_eq X dX9_reading_16 (by decide) (s_aload_n X dX9_reading_22 rfl (s_get X dX9_reading_23 (mcn (⟨_, _, _, _, rfl, inU_X9, by decide, uw_170, rfl⟩) (mnl)) (s_bipush X dX9_reading_26 rfl (s_icmp_lt X dX9_reading_28 (by decide) (s_aload_n X dX9_reading_34 rfl (s_get X dX9_reading_35 (mcn (⟨_, _, _, _, rfl, inU_X9, by decide, uw_170, rfl⟩) (mnl)) (s_istore X dX9_reading_38 (by decide) (s_aload_n X dX9_reading_40 rfl (s_get X dX9_reading_41 (mcn (⟨_, _, _, _, rfl, inU_X9, by decide, uw_166, rfl⟩) (mnl)) (s_iconst X dX9_reading_44 rfl (s_aload_n X dX9_reading_45 rfl (s_get X dX9_reading_46 (mcn (⟨_, _, _, _, rfl, inU_X9, by decide, uw_168, rfl⟩) (mnl)) (s_iload X dX9_reading_49 (s_aaload X (t := 6) (fun _ => rfl) rfl dX9_reading_51 (s_iconst X dX9_reading_52 rfl (s_iconst X dX9_reading_53 rfl (s_copy X uw_503 uw_371 uw_370 uw_12 (Nat.le_of_ble_eq_true rfl) (Nat.le_of_ble_eq_true rfl) dX9_reading_54 (s_aload_n X dX9_reading_57 rfl (s_get X dX9_reading_58 (mcn (⟨_, _, _, _, rfl, inU_X9, by decide, uw_169, rfl⟩) (mnl)) (s_iload X dX9_reading_61 (s_iload X dX9_reading_63 (s_iastore X dX9_reading_65 (s_aload_n X dX9_reading_66 rfl (s_iload X dX9_reading_67 (s_iconst X dX9_reading_69 rfl (s_iadd X dX9_reading_70 (s_putI X dX9_reading_71 (mcn (⟨_, _, _, _, tyX9, rfl, inU_X9, by decide, uw_170, rfl, tyX9_ok, nmX9, rfl, rfl⟩) (mnl)) (s_iload X dX9_reading_74 (s_iret X hr dX9_reading_76))))))))))))))))))))))))) (s_bipush X dX9_reading_31 rfl (s_iret X hr dX9_reading_33)))))) (s_iload X dX9_reading_19 (s_iret X hr dX9_reading_21))))))))))))
set_option maxRecDepth 100000 in
theorem vc_X9_reading {l : Launch} {g : Gm} {a0 : Nat} {a1 : Int32} {a2 : Int32} {a3 : Int32} {a4 : Int32} {h : Hp} {mc ms : Nat} {P : PT} (H : ∀ G : Nat → CT, (∀ (b : Nat) (h : Hp) (cb sb : Nat) (ls : LocS) (st : List Value), bk_X9_reading l g b G P h cb sb ls st → G b h cb sb ls st) → G 0 h mc ms [some (.ref a0), some (.int a1), some (.int a2), some (.int a3), some (.int a4), none, none] []) : Run l g d_X9_reading [.ref a0, .int a1, .int a2, .int a3, .int a4] h mc ms P :=
  Run.of (d := d_X9_reading) (by decide) (mcn rfl (mcn rfl (mcn rfl (mcn rfl (mcn rfl (mnl)))))) (Nat.le_of_ble_eq_true rfl) (fun p e s m args below meth c X hr hn => H (fun b => GX g p l e s m args below meth c d_X9_reading 7 mc ms h P (pc_X9_reading b)) (fun b h1 cb sb ls st hb => match b, hb with
    | 0, hb => sb_X9_reading_0 (p := p) (e := e) (below := below) X hr hn h1 cb sb ls st hb
    | _ + 1, hb => hb.elim))
theorem dX9_back_0 : decode cX9_back 0 = .ok (.iload_n 1, 1) := by decide +kernel
theorem dX9_back_1 : decode cX9_back 1 = .ok (.ifCond .lt 11, 3) := by decide +kernel
theorem dX9_back_4 : decode cX9_back 4 = .ok (.iload_n 1, 1) := by decide +kernel
theorem dX9_back_5 : decode cX9_back 5 = .ok (.aload_n 0, 1) := by decide +kernel
theorem dX9_back_6 : decode cX9_back 6 = .ok (.getfield 97, 3) := by decide +kernel
theorem dX9_back_9 : decode cX9_back 9 = .ok (.if_icmp .le 6, 3) := by decide +kernel
theorem dX9_back_12 : decode cX9_back 12 = .ok (.bipush (-2), 2) := by decide +kernel
theorem dX9_back_14 : decode cX9_back 14 = .ok (.ireturn, 1) := by decide +kernel
theorem dX9_back_15 : decode cX9_back 15 = .ok (.aload_n 0, 1) := by decide +kernel
theorem dX9_back_16 : decode cX9_back 16 = .ok (.dup, 1) := by decide +kernel
theorem dX9_back_17 : decode cX9_back 17 = .ok (.getfield 97, 3) := by decide +kernel
theorem dX9_back_20 : decode cX9_back 20 = .ok (.iload_n 1, 1) := by decide +kernel
theorem dX9_back_21 : decode cX9_back 21 = .ok (.isub, 1) := by decide +kernel
theorem dX9_back_22 : decode cX9_back 22 = .ok (.putfield 97, 3) := by decide +kernel
theorem dX9_back_25 : decode cX9_back 25 = .ok (.aload_n 0, 1) := by decide +kernel
theorem dX9_back_26 : decode cX9_back 26 = .ok (.getfield 97, 3) := by decide +kernel
theorem dX9_back_29 : decode cX9_back 29 = .ok (.ireturn, 1) := by decide +kernel
def bk_X9_back_0 (l : Launch) (g : Gm) (G : Nat → CT) (P : PT) : CT := (oILd 1 (oIf (fun x => x < 0) (oPush (.int (-2)) (oIRet P)) (oILd 1 (oALd 0 (oGet [9] 6 (oCmp (fun x y => x ≤ y) (oALd 0 (oDup (oGet [9] 6 (oILd 1 (oBin (fun x y => x - y) (oPutI [9] 6 (oALd 0 (oGet [9] 6 (oIRet P))))))))) (oPush (.int (-2)) (oIRet P))))))))
def bk_X9_back (l : Launch) (g : Gm) (b : Nat) (G : Nat → CT) (P : PT) : CT := match b with
  | 0 => bk_X9_back_0 l g G P
  | _ => fun _ _ _ _ _ => False
def pc_X9_back (b : Nat) : Nat := match b with
  | 0 => 0
  | _ => 0
set_option maxRecDepth 100000 in
theorem sb_X9_back_0 {p : Program} {l : Launch} {e : Env} {s : State} {m : MethodId} {args : Array Value} {below : List Frame} {meth : Method} {c : Code} {g : Gm} {h0 : Hp} {P : PT} {mc ms : Nat} (X : Cx g p s m args meth c (Adom h0 s.heap.size) cX9_back RX9 2) (hr : meth.sig.returnType = some .int) (hn : meth.name = "back") : SX g p l e s m args below meth c d_X9_back 2 mc ms h0 P (bk_X9_back_0 l g (fun b => GX g p l e s m args below meth c d_X9_back 2 mc ms h0 P (pc_X9_back b)) P) 0 := (s_iload_n X dX9_back_0 rfl (s_if_lt X dX9_back_1 (by decide) (s_bipush X dX9_back_12 rfl (s_iret X hr dX9_back_14)) (s_iload_n X dX9_back_4 rfl (s_aload_n X dX9_back_5 rfl (s_get X dX9_back_6 (mcn (⟨_, _, _, _, rfl, inU_X9, by decide, uw_170, rfl⟩) (mnl)) (s_icmp_le X dX9_back_9 (by decide) (s_aload_n X dX9_back_15 rfl (s_dup X dX9_back_16 (s_get X dX9_back_17 (mcn (⟨_, _, _, _, rfl, inU_X9, by decide, uw_170, rfl⟩) (mnl)) (s_iload_n X dX9_back_20 rfl (s_isub X dX9_back_21 (s_putI X dX9_back_22 (mcn (⟨_, _, _, _, tyX9, rfl, inU_X9, by decide, uw_170, rfl, tyX9_ok, nmX9, rfl, rfl⟩) (mnl)) (s_aload_n X dX9_back_25 rfl (s_get X dX9_back_26 (mcn (⟨_, _, _, _, rfl, inU_X9, by decide, uw_170, rfl⟩) (mnl)) (s_iret X hr dX9_back_29))))))))) (s_bipush X dX9_back_12 rfl (s_iret X hr dX9_back_14))))))))
set_option maxRecDepth 100000 in
theorem vc_X9_back {l : Launch} {g : Gm} {a0 : Nat} {a1 : Int32} {h : Hp} {mc ms : Nat} {P : PT} (H : ∀ G : Nat → CT, (∀ (b : Nat) (h : Hp) (cb sb : Nat) (ls : LocS) (st : List Value), bk_X9_back l g b G P h cb sb ls st → G b h cb sb ls st) → G 0 h mc ms [some (.ref a0), some (.int a1)] []) : Run l g d_X9_back [.ref a0, .int a1] h mc ms P :=
  Run.of (d := d_X9_back) (by decide) (mcn rfl (mcn rfl (mnl))) (Nat.le_of_ble_eq_true rfl) (fun p e s m args below meth c X hr hn => H (fun b => GX g p l e s m args below meth c d_X9_back 2 mc ms h P (pc_X9_back b)) (fun b h1 cb sb ls st hb => match b, hb with
    | 0, hb => sb_X9_back_0 (p := p) (e := e) (below := below) X hr hn h1 cb sb ls st hb
    | _ + 1, hb => hb.elim))
theorem dX9_kinds_0 : decode cX9_kinds 0 = .ok (.aload_n 0, 1) := by decide +kernel
theorem dX9_kinds_1 : decode cX9_kinds 1 = .ok (.getfield 42, 3) := by decide +kernel
theorem dX9_kinds_4 : decode cX9_kinds 4 = .ok (.iload_n 1, 1) := by decide +kernel
theorem dX9_kinds_5 : decode cX9_kinds 5 = .ok (.invokevirtual 103, 3) := by decide +kernel
theorem dX9_kinds_8 : decode cX9_kinds 8 = .ok (.ifCond .ne 5, 3) := by decide +kernel
theorem dX9_kinds_11 : decode cX9_kinds 11 = .ok (.iconst (-1), 1) := by decide +kernel
theorem dX9_kinds_12 : decode cX9_kinds 12 = .ok (.ireturn, 1) := by decide +kernel
theorem dX9_kinds_13 : decode cX9_kinds 13 = .ok (.iconst 0, 1) := by decide +kernel
theorem dX9_kinds_14 : decode cX9_kinds 14 = .ok (.istore_n 2, 1) := by decide +kernel
theorem dX9_kinds_15 : decode cX9_kinds 15 = .ok (.iconst 0, 1) := by decide +kernel
theorem dX9_kinds_16 : decode cX9_kinds 16 = .ok (.istore_n 3, 1) := by decide +kernel
theorem dX9_kinds_17 : decode cX9_kinds 17 = .ok (.iload_n 3, 1) := by decide +kernel
theorem dX9_kinds_18 : decode cX9_kinds 18 = .ok (.iconst 3, 1) := by decide +kernel
theorem dX9_kinds_19 : decode cX9_kinds 19 = .ok (.if_icmp .ge 24, 3) := by decide +kernel
theorem dX9_kinds_22 : decode cX9_kinds 22 = .ok (.aload_n 0, 1) := by decide +kernel
theorem dX9_kinds_23 : decode cX9_kinds 23 = .ok (.iload_n 1, 1) := by decide +kernel
theorem dX9_kinds_24 : decode cX9_kinds 24 = .ok (.iload_n 3, 1) := by decide +kernel
theorem dX9_kinds_25 : decode cX9_kinds 25 = .ok (.invokevirtual 231, 3) := by decide +kernel
theorem dX9_kinds_28 : decode cX9_kinds 28 = .ok (.ifCond .eq 9, 3) := by decide +kernel
theorem dX9_kinds_31 : decode cX9_kinds 31 = .ok (.iload_n 2, 1) := by decide +kernel
theorem dX9_kinds_32 : decode cX9_kinds 32 = .ok (.iconst 1, 1) := by decide +kernel
theorem dX9_kinds_33 : decode cX9_kinds 33 = .ok (.iload_n 3, 1) := by decide +kernel
theorem dX9_kinds_34 : decode cX9_kinds 34 = .ok (.ishl, 1) := by decide +kernel
theorem dX9_kinds_35 : decode cX9_kinds 35 = .ok (.ior, 1) := by decide +kernel
theorem dX9_kinds_36 : decode cX9_kinds 36 = .ok (.istore_n 2, 1) := by decide +kernel
theorem dX9_kinds_37 : decode cX9_kinds 37 = .ok (.iinc 3 1, 3) := by decide +kernel
theorem dX9_kinds_40 : decode cX9_kinds 40 = .ok (.goto (-23), 3) := by decide +kernel
theorem dX9_kinds_43 : decode cX9_kinds 43 = .ok (.iload_n 2, 1) := by decide +kernel
theorem dX9_kinds_44 : decode cX9_kinds 44 = .ok (.ireturn, 1) := by decide +kernel
def bk_X9_kinds_0 (l : Launch) (g : Gm) (G : Nat → CT) (P : PT) : CT := (oALd 0 (oGet [9] 8 (oILd 1 (oCallV l g [(2, d_X2_hasVillage)] 2 (oIf (fun x => x = 0) (oPush (.int (-1)) (oIRet P)) (oPush (.int (0)) (oISt 2 (oPush (.int (0)) (oISt 3 (G 1))))))))))
def bk_X9_kinds_1 (l : Launch) (g : Gm) (G : Nat → CT) (P : PT) : CT := (oILd 3 (oPush (.int (3)) (oCmp (fun x y => y ≤ x) (oILd 2 (oIRet P)) (oALd 0 (oILd 1 (oILd 3 (oCallV l g [(9, d_X9_areReadingsSo)] 3 (oIf (fun x => x = 0) (oInc 3 (1) (oGo (G 1))) (oILd 2 (oPush (.int (1)) (oILd 3 (oBin (fun x y => x <<< (y &&& 31)) (oBin (fun x y => x ||| y) (oISt 2 (oInc 3 (1) (oGo (G 1)))))))))))))))))
def bk_X9_kinds (l : Launch) (g : Gm) (b : Nat) (G : Nat → CT) (P : PT) : CT := match b with
  | 0 => bk_X9_kinds_0 l g G P
  | 1 => bk_X9_kinds_1 l g G P
  | _ => fun _ _ _ _ _ => False
def pc_X9_kinds (b : Nat) : Nat := match b with
  | 0 => 0
  | 1 => 17
  | _ => 0
set_option maxRecDepth 100000 in
theorem sb_X9_kinds_0 {p : Program} {l : Launch} {e : Env} {s : State} {m : MethodId} {args : Array Value} {below : List Frame} {meth : Method} {c : Code} {g : Gm} {h0 : Hp} {P : PT} {mc ms : Nat} (X : Cx g p s m args meth c (Adom h0 s.heap.size) cX9_kinds RX9 4) (hr : meth.sig.returnType = some .int) (hn : meth.name = "kinds") : SX g p l e s m args below meth c d_X9_kinds 4 mc ms h0 P (bk_X9_kinds_0 l g (fun b => GX g p l e s m args below meth c d_X9_kinds 4 mc ms h0 P (pc_X9_kinds b)) P) 0 := (s_aload_n X dX9_kinds_0 rfl (s_get X dX9_kinds_1 (mcn (⟨_, _, _, _, rfl, inU_X9, by decide, uw_172, rfl⟩) (mnl)) (s_iload_n X dX9_kinds_4 rfl (s_callV X dX9_kinds_5 (mv (vok_V X rfl uw_382 uw_383 uw_384 uw_3 ci_X2_hasVillage yok_X2_hasVillage ⟨Nat.le_of_ble_eq_true rfl, Nat.le_of_ble_eq_true rfl⟩) mv0) (s_if_ne X dX9_kinds_8 (by decide) (s_iconst X dX9_kinds_13 rfl (s_istore_n X dX9_kinds_14 rfl (by decide) (s_iconst X dX9_kinds_15 rfl (s_istore_n X dX9_kinds_16 rfl (by decide) Sd.rf)))) (s_iconst X dX9_kinds_11 rfl (s_iret X hr dX9_kinds_12)))))))
set_option maxRecDepth 100000 in
theorem sb_X9_kinds_1 {p : Program} {l : Launch} {e : Env} {s : State} {m : MethodId} {args : Array Value} {below : List Frame} {meth : Method} {c : Code} {g : Gm} {h0 : Hp} {P : PT} {mc ms : Nat} (X : Cx g p s m args meth c (Adom h0 s.heap.size) cX9_kinds RX9 4) (hr : meth.sig.returnType = some .int) (hn : meth.name = "kinds") : SX g p l e s m args below meth c d_X9_kinds 4 mc ms h0 P (bk_X9_kinds_1 l g (fun b => GX g p l e s m args below meth c d_X9_kinds 4 mc ms h0 P (pc_X9_kinds b)) P) 17 := (s_iload_n X dX9_kinds_17 rfl (s_iconst X dX9_kinds_18 rfl (s_icmp_ge X dX9_kinds_19 (by decide) (s_iload_n X dX9_kinds_43 rfl (s_iret X hr dX9_kinds_44)) (s_aload_n X dX9_kinds_22 rfl (s_iload_n X dX9_kinds_23 rfl (s_iload_n X dX9_kinds_24 rfl (s_callV X dX9_kinds_25 (mv (vok_V X rfl uw_593 uw_595 (UW_pr 15 rfl rfl) uw_1 ci_X9_areReadingsSo yok_X9_areReadingsSo ⟨Nat.le_of_ble_eq_true rfl, Nat.le_of_ble_eq_true rfl⟩) mv0) (s_if_eq X dX9_kinds_28 (by decide) (s_iinc X dX9_kinds_37 rfl (by decide) (s_goto X dX9_kinds_40 (by decide) Sd.rf)) (s_iload_n X dX9_kinds_31 rfl (s_iconst X dX9_kinds_32 rfl (s_iload_n X dX9_kinds_33 rfl (s_ishl X dX9_kinds_34 (s_ior X dX9_kinds_35 (s_istore_n X dX9_kinds_36 rfl (by decide) (s_iinc X dX9_kinds_37 rfl (by decide) (s_goto X dX9_kinds_40 (by decide) Sd.rf))))))))))))))))
set_option maxRecDepth 100000 in
theorem vc_X9_kinds {l : Launch} {g : Gm} {a0 : Nat} {a1 : Int32} {h : Hp} {mc ms : Nat} {P : PT} (H : ∀ G : Nat → CT, (∀ (b : Nat) (h : Hp) (cb sb : Nat) (ls : LocS) (st : List Value), bk_X9_kinds l g b G P h cb sb ls st → G b h cb sb ls st) → G 0 h mc ms [some (.ref a0), some (.int a1), none, none] []) : Run l g d_X9_kinds [.ref a0, .int a1] h mc ms P :=
  Run.of (d := d_X9_kinds) (by decide) (mcn rfl (mcn rfl (mnl))) (Nat.le_of_ble_eq_true rfl) (fun p e s m args below meth c X hr hn => H (fun b => GX g p l e s m args below meth c d_X9_kinds 4 mc ms h P (pc_X9_kinds b)) (fun b h1 cb sb ls st hb => match b, hb with
    | 0, hb => sb_X9_kinds_0 (p := p) (e := e) (below := below) X hr hn h1 cb sb ls st hb
    | 1, hb => sb_X9_kinds_1 (p := p) (e := e) (below := below) X hr hn h1 cb sb ls st hb
    | _ + 2, hb => hb.elim))
theorem dX9_odds_0 : decode cX9_odds 0 = .ok (.iload_n 1, 1) := by decide +kernel
theorem dX9_odds_1 : decode cX9_odds 1 = .ok (.invokestatic 216, 3) := by decide +kernel
theorem dX9_odds_4 : decode cX9_odds 4 = .ok (.ifCond .eq 22, 3) := by decide +kernel
theorem dX9_odds_7 : decode cX9_odds 7 = .ok (.iload_n 2, 1) := by decide +kernel
theorem dX9_odds_8 : decode cX9_odds 8 = .ok (.ifCond .lt 18, 3) := by decide +kernel
theorem dX9_odds_11 : decode cX9_odds 11 = .ok (.iload_n 2, 1) := by decide +kernel
theorem dX9_odds_12 : decode cX9_odds 12 = .ok (.iconst 1, 1) := by decide +kernel
theorem dX9_odds_13 : decode cX9_odds 13 = .ok (.if_icmp .gt 13, 3) := by decide +kernel
theorem dX9_odds_16 : decode cX9_odds 16 = .ok (.aload_n 0, 1) := by decide +kernel
theorem dX9_odds_17 : decode cX9_odds 17 = .ok (.getfield 42, 3) := by decide +kernel
theorem dX9_odds_20 : decode cX9_odds 20 = .ok (.getfield 100, 3) := by decide +kernel
theorem dX9_odds_23 : decode cX9_odds 23 = .ok (.ifCond .ne 7, 3) := by decide +kernel
theorem dX9_odds_26 : decode cX9_odds 26 = .ok (.ldc2_w 206, 3) := by decide +kernel
theorem dX9_odds_29 : decode cX9_odds 29 = .ok (.lreturn, 1) := by decide +kernel
theorem dX9_odds_30 : decode cX9_odds 30 = .ok (.aload_n 0, 1) := by decide +kernel
theorem dX9_odds_31 : decode cX9_odds 31 = .ok (.invokevirtual 199, 3) := by decide +kernel
theorem dX9_odds_34 : decode cX9_odds 34 = .ok (.iload_n 1, 1) := by decide +kernel
theorem dX9_odds_35 : decode cX9_odds 35 = .ok (.invokevirtual 203, 3) := by decide +kernel
theorem dX9_odds_38 : decode cX9_odds 38 = .ok (.istore_n 3, 1) := by decide +kernel
theorem dX9_odds_39 : decode cX9_odds 39 = .ok (.aload_n 0, 1) := by decide +kernel
theorem dX9_odds_40 : decode cX9_odds 40 = .ok (.invokevirtual 199, 3) := by decide +kernel
theorem dX9_odds_43 : decode cX9_odds 43 = .ok (.iconst 0, 1) := by decide +kernel
theorem dX9_odds_44 : decode cX9_odds 44 = .ok (.invokevirtual 203, 3) := by decide +kernel
theorem dX9_odds_47 : decode cX9_odds 47 = .ok (.istore 4, 2) := by decide +kernel
theorem dX9_odds_49 : decode cX9_odds 49 = .ok (.iload_n 3, 1) := by decide +kernel
theorem dX9_odds_50 : decode cX9_odds 50 = .ok (.iload 4, 2) := by decide +kernel
theorem dX9_odds_52 : decode cX9_odds 52 = .ok (.invokestatic 234, 3) := by decide +kernel
theorem dX9_odds_55 : decode cX9_odds 55 = .ok (.istore 5, 2) := by decide +kernel
theorem dX9_odds_57 : decode cX9_odds 57 = .ok (.iload 5, 2) := by decide +kernel
theorem dX9_odds_59 : decode cX9_odds 59 = .ok (.ifCond .ne 7, 3) := by decide +kernel
theorem dX9_odds_62 : decode cX9_odds 62 = .ok (.ldc2_w 206, 3) := by decide +kernel
theorem dX9_odds_65 : decode cX9_odds 65 = .ok (.lreturn, 1) := by decide +kernel
theorem dX9_odds_66 : decode cX9_odds 66 = .ok (.iload_n 2, 1) := by decide +kernel
theorem dX9_odds_67 : decode cX9_odds 67 = .ok (.ifCond .ne 11, 3) := by decide +kernel
theorem dX9_odds_70 : decode cX9_odds 70 = .ok (.iload_n 3, 1) := by decide +kernel
theorem dX9_odds_71 : decode cX9_odds 71 = .ok (.iload 5, 2) := by decide +kernel
theorem dX9_odds_73 : decode cX9_odds 73 = .ok (.idiv, 1) := by decide +kernel
theorem dX9_odds_74 : decode cX9_odds 74 = .ok (.i2l, 1) := by decide +kernel
theorem dX9_odds_75 : decode cX9_odds 75 = .ok (.goto 9, 3) := by decide +kernel
theorem dX9_odds_78 : decode cX9_odds 78 = .ok (.iload 4, 2) := by decide +kernel
theorem dX9_odds_80 : decode cX9_odds 80 = .ok (.iload 5, 2) := by decide +kernel
theorem dX9_odds_82 : decode cX9_odds 82 = .ok (.idiv, 1) := by decide +kernel
theorem dX9_odds_83 : decode cX9_odds 83 = .ok (.i2l, 1) := by decide +kernel
theorem dX9_odds_84 : decode cX9_odds 84 = .ok (.lreturn, 1) := by decide +kernel
def bk_X9_odds_0 (l : Launch) (g : Gm) (G : Nat → CT) (P : PT) : CT := (oILd 1 (oCall l g d_X9_isSum 1 (oIf (fun x => x = 0) (oPush (.long (-9223372036854775808)) (oJRet P)) (oILd 2 (oIf (fun x => x < 0) (oPush (.long (-9223372036854775808)) (oJRet P)) (oILd 2 (oPush (.int (1)) (oCmp (fun x y => y < x) (oPush (.long (-9223372036854775808)) (oJRet P)) (oALd 0 (oGet [9] 8 (oGet [2] 4 (oIf (fun x => x = 0) (oPush (.long (-9223372036854775808)) (oJRet P)) (oALd 0 (oCallV l g [(9, d_X9_surveyed)] 1 (oILd 1 (oCallV l g [(6, d_X6_cutsFrom)] 2 (oISt 3 (oALd 0 (oCallV l g [(9, d_X9_surveyed)] 1 (oPush (.int (0)) (oCallV l g [(6, d_X6_cutsFrom)] 2 (oISt 4 (oILd 3 (oILd 4 (oCall l g d_X9_commonDivisor 2 (oISt 5 (oILd 5 (oIf (fun x => x = 0) (oPush (.long (-9223372036854775808)) (oJRet P)) (oILd 2 (oIf (fun x => x = 0) (oILd 3 (oILd 5 (oBinZ (fun x y => x / y) (oI2L (oGo (oJRet P)))))) (oILd 4 (oILd 5 (oBinZ (fun x y => x / y) (oI2L (oJRet P)))))))))))))))))))))))))))))))))))
def bk_X9_odds (l : Launch) (g : Gm) (b : Nat) (G : Nat → CT) (P : PT) : CT := match b with
  | 0 => bk_X9_odds_0 l g G P
  | _ => fun _ _ _ _ _ => False
def pc_X9_odds (b : Nat) : Nat := match b with
  | 0 => 0
  | _ => 0
set_option maxRecDepth 100000 in
theorem sb_X9_odds_0 {p : Program} {l : Launch} {e : Env} {s : State} {m : MethodId} {args : Array Value} {below : List Frame} {meth : Method} {c : Code} {g : Gm} {h0 : Hp} {P : PT} {mc ms : Nat} (X : Cx g p s m args meth c (Adom h0 s.heap.size) cX9_odds RX9 6) (hr : meth.sig.returnType = some .long) (hn : meth.name = "odds") : SX g p l e s m args below meth c d_X9_odds 6 mc ms h0 P (bk_X9_odds_0 l g (fun b => GX g p l e s m args below meth c d_X9_odds 6 mc ms h0 P (pc_X9_odds b)) P) 0 := (s_iload_n X dX9_odds_0 rfl (s_callS X dX9_odds_1 uw_562 uw_563 uw_1 ci_X9_isSum yok_X9_isSum ⟨Nat.le_of_ble_eq_true rfl, Nat.le_of_ble_eq_true rfl⟩ (s_if_eq X dX9_odds_4 (by decide) (s_ldc2 X dX9_odds_26 uw_549 (s_jret X hr dX9_odds_29)) (s_iload_n X dX9_odds_7 rfl (s_if_lt X dX9_odds_8 (by decide) (s_ldc2 X dX9_odds_26 uw_549 (s_jret X hr dX9_odds_29)) (s_iload_n X dX9_odds_11 rfl (s_iconst X dX9_odds_12 rfl (s_icmp_gt X dX9_odds_13 (by decide) (s_ldc2 X dX9_odds_26 uw_549 (s_jret X hr dX9_odds_29)) (s_aload_n X dX9_odds_16 rfl (s_get X dX9_odds_17 (mcn (⟨_, _, _, _, rfl, inU_X9, by decide, uw_172, rfl⟩) (mnl)) (s_get X dX9_odds_20 (mcn (⟨_, _, _, _, rfl, inU_X2, by decide, uw_89, rfl⟩) (mnl)) (s_if_ne X dX9_odds_23 (by decide) (s_aload_n X dX9_odds_30 rfl (s_callV X dX9_odds_31 (mv (vok_V X rfl uw_509 uw_511 (UW_pr 9 rfl rfl) uw_1 ci_X9_surveyed yok_X9_surveyed ⟨Nat.le_of_ble_eq_true rfl, Nat.le_of_ble_eq_true rfl⟩) mv0) (s_iload_n X dX9_odds_34 rfl (s_callV X dX9_odds_35 (mv (vok_V X rfl uw_541 uw_542 uw_543 uw_5 ci_X6_cutsFrom yok_X6_cutsFrom ⟨Nat.le_of_ble_eq_true rfl, Nat.le_of_ble_eq_true rfl⟩) mv0) (s_istore_n X dX9_odds_38 rfl (by decide) (s_aload_n X dX9_odds_39 rfl (s_callV X dX9_odds_40 (mv (vok_V X rfl uw_509 uw_511 (UW_pr 9 rfl rfl) uw_1 ci_X9_surveyed yok_X9_surveyed ⟨Nat.le_of_ble_eq_true rfl, Nat.le_of_ble_eq_true rfl⟩) mv0) (s_iconst X dX9_odds_43 rfl (s_callV X dX9_odds_44 (mv (vok_V X rfl uw_541 uw_542 uw_543 uw_5 ci_X6_cutsFrom yok_X6_cutsFrom ⟨Nat.le_of_ble_eq_true rfl, Nat.le_of_ble_eq_true rfl⟩) mv0) (s_istore X dX9_odds_47 (by decide) (s_iload_n X dX9_odds_49 rfl (s_iload X dX9_odds_50 (s_callS X dX9_odds_52 uw_602 uw_603 uw_1 ci_X9_commonDivisor yok_X9_commonDivisor ⟨Nat.le_of_ble_eq_true rfl, Nat.le_of_ble_eq_true rfl⟩ (s_istore X dX9_odds_55 (by decide) (s_iload X dX9_odds_57 (s_if_ne X dX9_odds_59 (by decide) (s_iload_n X dX9_odds_66 rfl (s_if_ne X dX9_odds_67 (by decide) (s_iload X dX9_odds_78 (s_iload X dX9_odds_80 (s_idiv X dX9_odds_82 (s_i2l X dX9_odds_83 (s_jret X hr dX9_odds_84))))) (s_iload_n X dX9_odds_70 rfl (s_iload X dX9_odds_71 (s_idiv X dX9_odds_73 (s_i2l X dX9_odds_74 (s_goto X dX9_odds_75 (by decide) (s_jret X hr dX9_odds_84)))))))) (s_ldc2 X dX9_odds_62 uw_549 (s_jret X hr dX9_odds_65)))))))))))))))))) (s_ldc2 X dX9_odds_26 uw_549 (s_jret X hr dX9_odds_29))))))))))))))
set_option maxRecDepth 100000 in
theorem vc_X9_odds {l : Launch} {g : Gm} {a0 : Nat} {a1 : Int32} {a2 : Int32} {h : Hp} {mc ms : Nat} {P : PT} (H : ∀ G : Nat → CT, (∀ (b : Nat) (h : Hp) (cb sb : Nat) (ls : LocS) (st : List Value), bk_X9_odds l g b G P h cb sb ls st → G b h cb sb ls st) → G 0 h mc ms [some (.ref a0), some (.int a1), some (.int a2), none, none, none] []) : Run l g d_X9_odds [.ref a0, .int a1, .int a2] h mc ms P :=
  Run.of (d := d_X9_odds) (by decide) (mcn rfl (mcn rfl (mcn rfl (mnl)))) (Nat.le_of_ble_eq_true rfl) (fun p e s m args below meth c X hr hn => H (fun b => GX g p l e s m args below meth c d_X9_odds 6 mc ms h P (pc_X9_odds b)) (fun b h1 cb sb ls st hb => match b, hb with
    | 0, hb => sb_X9_odds_0 (p := p) (e := e) (below := below) X hr hn h1 cb sb ls st hb
    | _ + 1, hb => hb.elim))
theorem dX9_sheet_0 : decode cX9_sheet 0 = .ok (.aload_n 0, 1) := by decide +kernel
theorem dX9_sheet_1 : decode cX9_sheet 1 = .ok (.iconst 0, 1) := by decide +kernel
theorem dX9_sheet_2 : decode cX9_sheet 2 = .ok (.putfield 54, 3) := by decide +kernel
theorem dX9_sheet_5 : decode cX9_sheet 5 = .ok (.iload_n 1, 1) := by decide +kernel
theorem dX9_sheet_6 : decode cX9_sheet 6 = .ok (.invokestatic 58, 3) := by decide +kernel
theorem dX9_sheet_9 : decode cX9_sheet 9 = .ok (.ifCond .ne 5, 3) := by decide +kernel
theorem dX9_sheet_12 : decode cX9_sheet 12 = .ok (.iconst (-1), 1) := by decide +kernel
theorem dX9_sheet_13 : decode cX9_sheet 13 = .ok (.ireturn, 1) := by decide +kernel
theorem dX9_sheet_14 : decode cX9_sheet 14 = .ok (.iload_n 2, 1) := by decide +kernel
theorem dX9_sheet_15 : decode cX9_sheet 15 = .ok (.invokestatic 62, 3) := by decide +kernel
theorem dX9_sheet_18 : decode cX9_sheet 18 = .ok (.ifCond .eq 9, 3) := by decide +kernel
theorem dX9_sheet_21 : decode cX9_sheet 21 = .ok (.iload_n 3, 1) := by decide +kernel
theorem dX9_sheet_22 : decode cX9_sheet 22 = .ok (.bipush 60, 2) := by decide +kernel
theorem dX9_sheet_24 : decode cX9_sheet 24 = .ok (.if_icmp .le 6, 3) := by decide +kernel
theorem dX9_sheet_27 : decode cX9_sheet 27 = .ok (.bipush (-2), 2) := by decide +kernel
theorem dX9_sheet_29 : decode cX9_sheet 29 = .ok (.ireturn, 1) := by decide +kernel
theorem dX9_sheet_30 : decode cX9_sheet 30 = .ok (.iload_n 3, 1) := by decide +kernel
theorem dX9_sheet_31 : decode cX9_sheet 31 = .ok (.ifCond .ge 9, 3) := by decide +kernel
theorem dX9_sheet_34 : decode cX9_sheet 34 = .ok (.aload_n 0, 1) := by decide +kernel
theorem dX9_sheet_35 : decode cX9_sheet 35 = .ok (.iconst 4, 1) := by decide +kernel
theorem dX9_sheet_36 : decode cX9_sheet 36 = .ok (.invokevirtual 69, 3) := by decide +kernel
theorem dX9_sheet_39 : decode cX9_sheet 39 = .ok (.ireturn, 1) := by decide +kernel
theorem dX9_sheet_40 : decode cX9_sheet 40 = .ok (.aload_n 0, 1) := by decide +kernel
theorem dX9_sheet_41 : decode cX9_sheet 41 = .ok (.getfield 13, 3) := by decide +kernel
theorem dX9_sheet_44 : decode cX9_sheet 44 = .ok (.iload_n 1, 1) := by decide +kernel
theorem dX9_sheet_45 : decode cX9_sheet 45 = .ok (.aaload, 1) := by decide +kernel
theorem dX9_sheet_46 : decode cX9_sheet 46 = .ok (.iload_n 2, 1) := by decide +kernel
theorem dX9_sheet_47 : decode cX9_sheet 47 = .ok (.iload_n 3, 1) := by decide +kernel
theorem dX9_sheet_48 : decode cX9_sheet 48 = .ok (.invokevirtual 238, 3) := by decide +kernel
theorem dX9_sheet_51 : decode cX9_sheet 51 = .ok (.iconst 1, 1) := by decide +kernel
theorem dX9_sheet_52 : decode cX9_sheet 52 = .ok (.ireturn, 1) := by decide +kernel
def bk_X9_sheet_0 (l : Launch) (g : Gm) (G : Nat → CT) (P : PT) : CT := (oALd 0 (oPush (.int (0)) (oPutI [9] 7 (oILd 1 (oCall l g d_X9_isSheet 1 (oIf (fun x => x = 0) (oPush (.int (-1)) (oIRet P)) (oILd 2 (oCall l g d_X9_isLane 1 (oIf (fun x => x = 0) (oPush (.int (-2)) (oIRet P)) (oILd 3 (oPush (.int (60)) (oCmp (fun x y => x ≤ y) (oILd 3 (oIf (fun x => 0 ≤ x) (oALd 0 (oGet [9] 0 (oILd 1 (oRAL g 5 (oILd 2 (oILd 3 (oCallV l g [(5, d_X5_renew)] 3 (oPush (.int (1)) (oIRet P))))))))) (oALd 0 (oPush (.int (4)) (oCallV l g [(9, d_X9_fallen)] 2 (oIRet P)))))) (oPush (.int (-2)) (oIRet P))))))))))))))
def bk_X9_sheet (l : Launch) (g : Gm) (b : Nat) (G : Nat → CT) (P : PT) : CT := match b with
  | 0 => bk_X9_sheet_0 l g G P
  | _ => fun _ _ _ _ _ => False
def pc_X9_sheet (b : Nat) : Nat := match b with
  | 0 => 0
  | _ => 0
set_option maxRecDepth 100000 in
theorem sb_X9_sheet_0 {p : Program} {l : Launch} {e : Env} {s : State} {m : MethodId} {args : Array Value} {below : List Frame} {meth : Method} {c : Code} {g : Gm} {h0 : Hp} {P : PT} {mc ms : Nat} (X : Cx g p s m args meth c (Adom h0 s.heap.size) cX9_sheet RX9 4) (hr : meth.sig.returnType = some .int) (hn : meth.name = "sheet") : SX g p l e s m args below meth c d_X9_sheet 4 mc ms h0 P (bk_X9_sheet_0 l g (fun b => GX g p l e s m args below meth c d_X9_sheet 4 mc ms h0 P (pc_X9_sheet b)) P) 0 := (s_aload_n X dX9_sheet_0 rfl (s_iconst X dX9_sheet_1 rfl (s_putI X dX9_sheet_2 (mcn (⟨_, _, _, _, tyX9, rfl, inU_X9, by decide, uw_171, rfl, tyX9_ok, nmX9, rfl, rfl⟩) (mnl)) (s_iload_n X dX9_sheet_5 rfl (s_callS X dX9_sheet_6 uw_202 uw_203 uw_1 ci_X9_isSheet yok_X9_isSheet ⟨Nat.le_of_ble_eq_true rfl, Nat.le_of_ble_eq_true rfl⟩ (s_if_ne X dX9_sheet_9 (by decide) (s_iload_n X dX9_sheet_14 rfl (s_callS X dX9_sheet_15 uw_205 uw_206 uw_1 ci_X9_isLane yok_X9_isLane ⟨Nat.le_of_ble_eq_true rfl, Nat.le_of_ble_eq_true rfl⟩ (s_if_eq X dX9_sheet_18 (by decide) (s_bipush X dX9_sheet_27 rfl (s_iret X hr dX9_sheet_29)) (s_iload_n X dX9_sheet_21 rfl (s_bipush X dX9_sheet_22 rfl (s_icmp_le X dX9_sheet_24 (by decide) (s_iload_n X dX9_sheet_30 rfl (s_if_ge X dX9_sheet_31 (by decide) (s_aload_n X dX9_sheet_40 rfl (s_get X dX9_sheet_41 (mcn (⟨_, _, _, _, rfl, inU_X9, by decide, uw_164, rfl⟩) (mnl)) (s_iload_n X dX9_sheet_44 rfl (s_aaload X (t := 5) (fun _ => rfl) rfl dX9_sheet_45 (s_iload_n X dX9_sheet_46 rfl (s_iload_n X dX9_sheet_47 rfl (s_callV X dX9_sheet_48 (mv (vok_V X rfl uw_609 uw_610 uw_611 uw_6 ci_X5_renew yok_X5_renew ⟨Nat.le_of_ble_eq_true rfl, Nat.le_of_ble_eq_true rfl⟩) mv0) (s_iconst X dX9_sheet_51 rfl (s_iret X hr dX9_sheet_52))))))))) (s_aload_n X dX9_sheet_34 rfl (s_iconst X dX9_sheet_35 rfl (s_callV X dX9_sheet_36 (mv (vok_V X rfl uw_216 uw_218 (UW_pr 0 rfl rfl) uw_1 ci_X9_fallen yok_X9_fallen ⟨Nat.le_of_ble_eq_true rfl, Nat.le_of_ble_eq_true rfl⟩) mv0) (s_iret X hr dX9_sheet_39)))))) (s_bipush X dX9_sheet_27 rfl (s_iret X hr dX9_sheet_29)))))))) (s_iconst X dX9_sheet_12 rfl (s_iret X hr dX9_sheet_13))))))))
set_option maxRecDepth 100000 in
theorem vc_X9_sheet {l : Launch} {g : Gm} {a0 : Nat} {a1 : Int32} {a2 : Int32} {a3 : Int32} {h : Hp} {mc ms : Nat} {P : PT} (H : ∀ G : Nat → CT, (∀ (b : Nat) (h : Hp) (cb sb : Nat) (ls : LocS) (st : List Value), bk_X9_sheet l g b G P h cb sb ls st → G b h cb sb ls st) → G 0 h mc ms [some (.ref a0), some (.int a1), some (.int a2), some (.int a3)] []) : Run l g d_X9_sheet [.ref a0, .int a1, .int a2, .int a3] h mc ms P :=
  Run.of (d := d_X9_sheet) (by decide) (mcn rfl (mcn rfl (mcn rfl (mcn rfl (mnl))))) (Nat.le_of_ble_eq_true rfl) (fun p e s m args below meth c X hr hn => H (fun b => GX g p l e s m args below meth c d_X9_sheet 4 mc ms h P (pc_X9_sheet b)) (fun b h1 cb sb ls st hb => match b, hb with
    | 0, hb => sb_X9_sheet_0 (p := p) (e := e) (below := below) X hr hn h1 cb sb ls st hb
    | _ + 1, hb => hb.elim))
theorem dX9_lose_0 : decode cX9_lose 0 = .ok (.iload_n 1, 1) := by decide +kernel
theorem dX9_lose_1 : decode cX9_lose 1 = .ok (.invokestatic 58, 3) := by decide +kernel
theorem dX9_lose_4 : decode cX9_lose 4 = .ok (.ifCond .ne 5, 3) := by decide +kernel
theorem dX9_lose_7 : decode cX9_lose 7 = .ok (.iconst (-1), 1) := by decide +kernel
theorem dX9_lose_8 : decode cX9_lose 8 = .ok (.ireturn, 1) := by decide +kernel
theorem dX9_lose_9 : decode cX9_lose 9 = .ok (.aload_n 0, 1) := by decide +kernel
theorem dX9_lose_10 : decode cX9_lose 10 = .ok (.getfield 13, 3) := by decide +kernel
theorem dX9_lose_13 : decode cX9_lose 13 = .ok (.iload_n 1, 1) := by decide +kernel
theorem dX9_lose_14 : decode cX9_lose 14 = .ok (.aaload, 1) := by decide +kernel
theorem dX9_lose_15 : decode cX9_lose 15 = .ok (.getfield 242, 3) := by decide +kernel
theorem dX9_lose_18 : decode cX9_lose 18 = .ok (.ifCond .eq 7, 3) := by decide +kernel
theorem dX9_lose_21 : decode cX9_lose 21 = .ok (.iconst 1, 1) := by decide +kernel
theorem dX9_lose_22 : decode cX9_lose 22 = .ok (.goto 4, 3) := by decide +kernel
theorem dX9_lose_25 : decode cX9_lose 25 = .ok (.iconst 0, 1) := by decide +kernel
theorem dX9_lose_26 : decode cX9_lose 26 = .ok (.istore_n 2, 1) := by decide +kernel
theorem dX9_lose_27 : decode cX9_lose 27 = .ok (.aload_n 0, 1) := by decide +kernel
theorem dX9_lose_28 : decode cX9_lose 28 = .ok (.getfield 13, 3) := by decide +kernel
theorem dX9_lose_31 : decode cX9_lose 31 = .ok (.iload_n 1, 1) := by decide +kernel
theorem dX9_lose_32 : decode cX9_lose 32 = .ok (.aaload, 1) := by decide +kernel
theorem dX9_lose_33 : decode cX9_lose 33 = .ok (.iconst 0, 1) := by decide +kernel
theorem dX9_lose_34 : decode cX9_lose 34 = .ok (.putfield 242, 3) := by decide +kernel
theorem dX9_lose_37 : decode cX9_lose 37 = .ok (.iload_n 2, 1) := by decide +kernel
theorem dX9_lose_38 : decode cX9_lose 38 = .ok (.ireturn, 1) := by decide +kernel
def bk_X9_lose_0 (l : Launch) (g : Gm) (G : Nat → CT) (P : PT) : CT := (oILd 1 (oCall l g d_X9_isSheet 1 (oIf (fun x => x = 0) (oPush (.int (-1)) (oIRet P)) (oALd 0 (oGet [9] 0 (oILd 1 (oRAL g 5 (oGet [5] 1 (oIf (fun x => x = 0) (oPush (.int (0)) (G 1)) (oPush (.int (1)) (oGo (G 1))))))))))))
def bk_X9_lose_1 (l : Launch) (g : Gm) (G : Nat → CT) (P : PT) : CT := (oISt 2 (oALd 0 (oGet [9] 0 (oILd 1 (oRAL g 5 (oPush (.int (0)) (oPutZ [5] 1 (oILd 2 (oIRet P)))))))))
def bk_X9_lose (l : Launch) (g : Gm) (b : Nat) (G : Nat → CT) (P : PT) : CT := match b with
  | 0 => bk_X9_lose_0 l g G P
  | 1 => bk_X9_lose_1 l g G P
  | _ => fun _ _ _ _ _ => False
def pc_X9_lose (b : Nat) : Nat := match b with
  | 0 => 0
  | 1 => 26
  | _ => 0
set_option maxRecDepth 100000 in
theorem sb_X9_lose_0 {p : Program} {l : Launch} {e : Env} {s : State} {m : MethodId} {args : Array Value} {below : List Frame} {meth : Method} {c : Code} {g : Gm} {h0 : Hp} {P : PT} {mc ms : Nat} (X : Cx g p s m args meth c (Adom h0 s.heap.size) cX9_lose RX9 3) (hr : meth.sig.returnType = some .int) (hn : meth.name = "lose") : SX g p l e s m args below meth c d_X9_lose 3 mc ms h0 P (bk_X9_lose_0 l g (fun b => GX g p l e s m args below meth c d_X9_lose 3 mc ms h0 P (pc_X9_lose b)) P) 0 := (s_iload_n X dX9_lose_0 rfl (s_callS X dX9_lose_1 uw_202 uw_203 uw_1 ci_X9_isSheet yok_X9_isSheet ⟨Nat.le_of_ble_eq_true rfl, Nat.le_of_ble_eq_true rfl⟩ (s_if_ne X dX9_lose_4 (by decide) (s_aload_n X dX9_lose_9 rfl (s_get X dX9_lose_10 (mcn (⟨_, _, _, _, rfl, inU_X9, by decide, uw_164, rfl⟩) (mnl)) (s_iload_n X dX9_lose_13 rfl (s_aaload X (t := 5) (fun _ => rfl) rfl dX9_lose_14 (s_get X dX9_lose_15 (mcn (⟨_, _, _, _, rfl, inU_X5, by decide, uw_151, rfl⟩) (mnl)) (s_if_eq X dX9_lose_18 (by decide) (s_iconst X dX9_lose_25 rfl Sd.rf) (s_iconst X dX9_lose_21 rfl (s_goto X dX9_lose_22 (by decide) Sd.rf)))))))) (s_iconst X dX9_lose_7 rfl (s_iret X hr dX9_lose_8)))))
set_option maxRecDepth 100000 in
theorem sb_X9_lose_1 {p : Program} {l : Launch} {e : Env} {s : State} {m : MethodId} {args : Array Value} {below : List Frame} {meth : Method} {c : Code} {g : Gm} {h0 : Hp} {P : PT} {mc ms : Nat} (X : Cx g p s m args meth c (Adom h0 s.heap.size) cX9_lose RX9 3) (hr : meth.sig.returnType = some .int) (hn : meth.name = "lose") : SX g p l e s m args below meth c d_X9_lose 3 mc ms h0 P (bk_X9_lose_1 l g (fun b => GX g p l e s m args below meth c d_X9_lose 3 mc ms h0 P (pc_X9_lose b)) P) 26 := (s_istore_n X dX9_lose_26 rfl (by decide) (s_aload_n X dX9_lose_27 rfl (s_get X dX9_lose_28 (mcn (⟨_, _, _, _, rfl, inU_X9, by decide, uw_164, rfl⟩) (mnl)) (s_iload_n X dX9_lose_31 rfl (s_aaload X (t := 5) (fun _ => rfl) rfl dX9_lose_32 (s_iconst X dX9_lose_33 rfl (s_putZ X dX9_lose_34 (mcn (⟨_, _, _, _, tyX5, rfl, inU_X5, by decide, uw_151, rfl, tyX5_ok, nmX5, rfl, rfl⟩) (mnl)) (s_iload_n X dX9_lose_37 rfl (s_iret X hr dX9_lose_38)))))))))
set_option maxRecDepth 100000 in
theorem vc_X9_lose {l : Launch} {g : Gm} {a0 : Nat} {a1 : Int32} {h : Hp} {mc ms : Nat} {P : PT} (H : ∀ G : Nat → CT, (∀ (b : Nat) (h : Hp) (cb sb : Nat) (ls : LocS) (st : List Value), bk_X9_lose l g b G P h cb sb ls st → G b h cb sb ls st) → G 0 h mc ms [some (.ref a0), some (.int a1), none] []) : Run l g d_X9_lose [.ref a0, .int a1] h mc ms P :=
  Run.of (d := d_X9_lose) (by decide) (mcn rfl (mcn rfl (mnl))) (Nat.le_of_ble_eq_true rfl) (fun p e s m args below meth c X hr hn => H (fun b => GX g p l e s m args below meth c d_X9_lose 3 mc ms h P (pc_X9_lose b)) (fun b h1 cb sb ls st hb => match b, hb with
    | 0, hb => sb_X9_lose_0 (p := p) (e := e) (below := below) X hr hn h1 cb sb ls st hb
    | 1, hb => sb_X9_lose_1 (p := p) (e := e) (below := below) X hr hn h1 cb sb ls st hb
    | _ + 2, hb => hb.elim))
theorem dX9_put_0 : decode cX9_put 0 = .ok (.aload_n 0, 1) := by decide +kernel
theorem dX9_put_1 : decode cX9_put 1 = .ok (.iconst 0, 1) := by decide +kernel
theorem dX9_put_2 : decode cX9_put 2 = .ok (.putfield 54, 3) := by decide +kernel
theorem dX9_put_5 : decode cX9_put 5 = .ok (.iload_n 1, 1) := by decide +kernel
theorem dX9_put_6 : decode cX9_put 6 = .ok (.invokestatic 58, 3) := by decide +kernel
theorem dX9_put_9 : decode cX9_put 9 = .ok (.ifCond .ne 5, 3) := by decide +kernel
theorem dX9_put_12 : decode cX9_put 12 = .ok (.iconst (-1), 1) := by decide +kernel
theorem dX9_put_13 : decode cX9_put 13 = .ok (.ireturn, 1) := by decide +kernel
theorem dX9_put_14 : decode cX9_put 14 = .ok (.aload_n 0, 1) := by decide +kernel
theorem dX9_put_15 : decode cX9_put 15 = .ok (.getfield 13, 3) := by decide +kernel
theorem dX9_put_18 : decode cX9_put 18 = .ok (.iload_n 1, 1) := by decide +kernel
theorem dX9_put_19 : decode cX9_put 19 = .ok (.aaload, 1) := by decide +kernel
theorem dX9_put_20 : decode cX9_put 20 = .ok (.getfield 242, 3) := by decide +kernel
theorem dX9_put_23 : decode cX9_put 23 = .ok (.ifCond .ne 9, 3) := by decide +kernel
theorem dX9_put_26 : decode cX9_put 26 = .ok (.aload_n 0, 1) := by decide +kernel
theorem dX9_put_27 : decode cX9_put 27 = .ok (.iconst 1, 1) := by decide +kernel
theorem dX9_put_28 : decode cX9_put 28 = .ok (.invokevirtual 69, 3) := by decide +kernel
theorem dX9_put_31 : decode cX9_put 31 = .ok (.ireturn, 1) := by decide +kernel
theorem dX9_put_32 : decode cX9_put 32 = .ok (.aload_n 0, 1) := by decide +kernel
theorem dX9_put_33 : decode cX9_put 33 = .ok (.getfield 13, 3) := by decide +kernel
theorem dX9_put_36 : decode cX9_put 36 = .ok (.iload_n 1, 1) := by decide +kernel
theorem dX9_put_37 : decode cX9_put 37 = .ok (.aaload, 1) := by decide +kernel
theorem dX9_put_38 : decode cX9_put 38 = .ok (.iload_n 2, 1) := by decide +kernel
theorem dX9_put_39 : decode cX9_put 39 = .ok (.iconst 1, 1) := by decide +kernel
theorem dX9_put_40 : decode cX9_put 40 = .ok (.invokevirtual 245, 3) := by decide +kernel
theorem dX9_put_43 : decode cX9_put 43 = .ok (.ifCond .ne 9, 3) := by decide +kernel
theorem dX9_put_46 : decode cX9_put 46 = .ok (.aload_n 0, 1) := by decide +kernel
theorem dX9_put_47 : decode cX9_put 47 = .ok (.iconst 3, 1) := by decide +kernel
theorem dX9_put_48 : decode cX9_put 48 = .ok (.invokevirtual 69, 3) := by decide +kernel
theorem dX9_put_51 : decode cX9_put 51 = .ok (.ireturn, 1) := by decide +kernel
theorem dX9_put_52 : decode cX9_put 52 = .ok (.aload_n 0, 1) := by decide +kernel
theorem dX9_put_53 : decode cX9_put 53 = .ok (.getfield 13, 3) := by decide +kernel
theorem dX9_put_56 : decode cX9_put 56 = .ok (.iload_n 1, 1) := by decide +kernel
theorem dX9_put_57 : decode cX9_put 57 = .ok (.aaload, 1) := by decide +kernel
theorem dX9_put_58 : decode cX9_put 58 = .ok (.iload_n 2, 1) := by decide +kernel
theorem dX9_put_59 : decode cX9_put 59 = .ok (.iload_n 3, 1) := by decide +kernel
theorem dX9_put_60 : decode cX9_put 60 = .ok (.invokevirtual 248, 3) := by decide +kernel
theorem dX9_put_63 : decode cX9_put 63 = .ok (.iconst 1, 1) := by decide +kernel
theorem dX9_put_64 : decode cX9_put 64 = .ok (.ireturn, 1) := by decide +kernel
def bk_X9_put_0 (l : Launch) (g : Gm) (G : Nat → CT) (P : PT) : CT := (oALd 0 (oPush (.int (0)) (oPutI [9] 7 (oILd 1 (oCall l g d_X9_isSheet 1 (oIf (fun x => x = 0) (oPush (.int (-1)) (oIRet P)) (oALd 0 (oGet [9] 0 (oILd 1 (oRAL g 5 (oGet [5] 1 (oIf (fun x => x = 0) (oALd 0 (oPush (.int (1)) (oCallV l g [(9, d_X9_fallen)] 2 (oIRet P)))) (oALd 0 (oGet [9] 0 (oILd 1 (oRAL g 5 (oILd 2 (oPush (.int (1)) (oCallV l g [(5, d_X5_hasCells)] 3 (oIf (fun x => x = 0) (oALd 0 (oPush (.int (3)) (oCallV l g [(9, d_X9_fallen)] 2 (oIRet P)))) (oALd 0 (oGet [9] 0 (oILd 1 (oRAL g 5 (oILd 2 (oILd 3 (oCallV l g [(5, d_X5_write)] 3 (oPush (.int (1)) (oIRet P)))))))))))))))))))))))))))))
def bk_X9_put (l : Launch) (g : Gm) (b : Nat) (G : Nat → CT) (P : PT) : CT := match b with
  | 0 => bk_X9_put_0 l g G P
  | _ => fun _ _ _ _ _ => False
def pc_X9_put (b : Nat) : Nat := match b with
  | 0 => 0
  | _ => 0
set_option maxRecDepth 100000 in
theorem sb_X9_put_0 {p : Program} {l : Launch} {e : Env} {s : State} {m : MethodId} {args : Array Value} {below : List Frame} {meth : Method} {c : Code} {g : Gm} {h0 : Hp} {P : PT} {mc ms : Nat} (X : Cx g p s m args meth c (Adom h0 s.heap.size) cX9_put RX9 4) (hr : meth.sig.returnType = some .int) (hn : meth.name = "put") : SX g p l e s m args below meth c d_X9_put 4 mc ms h0 P (bk_X9_put_0 l g (fun b => GX g p l e s m args below meth c d_X9_put 4 mc ms h0 P (pc_X9_put b)) P) 0 := (s_aload_n X dX9_put_0 rfl (s_iconst X dX9_put_1 rfl (s_putI X dX9_put_2 (mcn (⟨_, _, _, _, tyX9, rfl, inU_X9, by decide, uw_171, rfl, tyX9_ok, nmX9, rfl, rfl⟩) (mnl)) (s_iload_n X dX9_put_5 rfl (s_callS X dX9_put_6 uw_202 uw_203 uw_1 ci_X9_isSheet yok_X9_isSheet ⟨Nat.le_of_ble_eq_true rfl, Nat.le_of_ble_eq_true rfl⟩ (s_if_ne X dX9_put_9 (by decide) (s_aload_n X dX9_put_14 rfl (s_get X dX9_put_15 (mcn (⟨_, _, _, _, rfl, inU_X9, by decide, uw_164, rfl⟩) (mnl)) (s_iload_n X dX9_put_18 rfl (s_aaload X (t := 5) (fun _ => rfl) rfl dX9_put_19 (s_get X dX9_put_20 (mcn (⟨_, _, _, _, rfl, inU_X5, by decide, uw_151, rfl⟩) (mnl)) (s_if_ne X dX9_put_23 (by decide) (s_aload_n X dX9_put_32 rfl (s_get X dX9_put_33 (mcn (⟨_, _, _, _, rfl, inU_X9, by decide, uw_164, rfl⟩) (mnl)) (s_iload_n X dX9_put_36 rfl (s_aaload X (t := 5) (fun _ => rfl) rfl dX9_put_37 (s_iload_n X dX9_put_38 rfl (s_iconst X dX9_put_39 rfl (s_callV X dX9_put_40 (mv (vok_V X rfl uw_622 uw_213 uw_214 uw_6 ci_X5_hasCells yok_X5_hasCells ⟨Nat.le_of_ble_eq_true rfl, Nat.le_of_ble_eq_true rfl⟩) mv0) (s_if_ne X dX9_put_43 (by decide) (s_aload_n X dX9_put_52 rfl (s_get X dX9_put_53 (mcn (⟨_, _, _, _, rfl, inU_X9, by decide, uw_164, rfl⟩) (mnl)) (s_iload_n X dX9_put_56 rfl (s_aaload X (t := 5) (fun _ => rfl) rfl dX9_put_57 (s_iload_n X dX9_put_58 rfl (s_iload_n X dX9_put_59 rfl (s_callV X dX9_put_60 (mv (vok_V X rfl uw_623 uw_624 uw_625 uw_6 ci_X5_write yok_X5_write ⟨Nat.le_of_ble_eq_true rfl, Nat.le_of_ble_eq_true rfl⟩) mv0) (s_iconst X dX9_put_63 rfl (s_iret X hr dX9_put_64))))))))) (s_aload_n X dX9_put_46 rfl (s_iconst X dX9_put_47 rfl (s_callV X dX9_put_48 (mv (vok_V X rfl uw_216 uw_218 (UW_pr 0 rfl rfl) uw_1 ci_X9_fallen yok_X9_fallen ⟨Nat.le_of_ble_eq_true rfl, Nat.le_of_ble_eq_true rfl⟩) mv0) (s_iret X hr dX9_put_51)))))))))))) (s_aload_n X dX9_put_26 rfl (s_iconst X dX9_put_27 rfl (s_callV X dX9_put_28 (mv (vok_V X rfl uw_216 uw_218 (UW_pr 0 rfl rfl) uw_1 ci_X9_fallen yok_X9_fallen ⟨Nat.le_of_ble_eq_true rfl, Nat.le_of_ble_eq_true rfl⟩) mv0) (s_iret X hr dX9_put_31)))))))))) (s_iconst X dX9_put_12 rfl (s_iret X hr dX9_put_13))))))))
set_option maxRecDepth 100000 in
theorem vc_X9_put {l : Launch} {g : Gm} {a0 : Nat} {a1 : Int32} {a2 : Int32} {a3 : Int32} {h : Hp} {mc ms : Nat} {P : PT} (H : ∀ G : Nat → CT, (∀ (b : Nat) (h : Hp) (cb sb : Nat) (ls : LocS) (st : List Value), bk_X9_put l g b G P h cb sb ls st → G b h cb sb ls st) → G 0 h mc ms [some (.ref a0), some (.int a1), some (.int a2), some (.int a3)] []) : Run l g d_X9_put [.ref a0, .int a1, .int a2, .int a3] h mc ms P :=
  Run.of (d := d_X9_put) (by decide) (mcn rfl (mcn rfl (mcn rfl (mcn rfl (mnl))))) (Nat.le_of_ble_eq_true rfl) (fun p e s m args below meth c X hr hn => H (fun b => GX g p l e s m args below meth c d_X9_put 4 mc ms h P (pc_X9_put b)) (fun b h1 cb sb ls st hb => match b, hb with
    | 0, hb => sb_X9_put_0 (p := p) (e := e) (below := below) X hr hn h1 cb sb ls st hb
    | _ + 1, hb => hb.elim))
theorem dX9_cell_0 : decode cX9_cell 0 = .ok (.aload_n 0, 1) := by decide +kernel
theorem dX9_cell_1 : decode cX9_cell 1 = .ok (.iconst 0, 1) := by decide +kernel
theorem dX9_cell_2 : decode cX9_cell 2 = .ok (.putfield 54, 3) := by decide +kernel
theorem dX9_cell_5 : decode cX9_cell 5 = .ok (.iload_n 1, 1) := by decide +kernel
theorem dX9_cell_6 : decode cX9_cell 6 = .ok (.invokestatic 58, 3) := by decide +kernel
theorem dX9_cell_9 : decode cX9_cell 9 = .ok (.ifCond .eq 10, 3) := by decide +kernel
theorem dX9_cell_12 : decode cX9_cell 12 = .ok (.iload_n 3, 1) := by decide +kernel
theorem dX9_cell_13 : decode cX9_cell 13 = .ok (.invokestatic 62, 3) := by decide +kernel
theorem dX9_cell_16 : decode cX9_cell 16 = .ok (.ifCond .ne 7, 3) := by decide +kernel
theorem dX9_cell_19 : decode cX9_cell 19 = .ok (.ldc2_w 206, 3) := by decide +kernel
theorem dX9_cell_22 : decode cX9_cell 22 = .ok (.lreturn, 1) := by decide +kernel
theorem dX9_cell_23 : decode cX9_cell 23 = .ok (.aload_n 0, 1) := by decide +kernel
theorem dX9_cell_24 : decode cX9_cell 24 = .ok (.aload_n 0, 1) := by decide +kernel
theorem dX9_cell_25 : decode cX9_cell 25 = .ok (.getfield 13, 3) := by decide +kernel
theorem dX9_cell_28 : decode cX9_cell 28 = .ok (.iload_n 1, 1) := by decide +kernel
theorem dX9_cell_29 : decode cX9_cell 29 = .ok (.aaload, 1) := by decide +kernel
theorem dX9_cell_30 : decode cX9_cell 30 = .ok (.iload_n 3, 1) := by decide +kernel
theorem dX9_cell_31 : decode cX9_cell 31 = .ok (.iload_n 2, 1) := by decide +kernel
theorem dX9_cell_32 : decode cX9_cell 32 = .ok (.iconst 1, 1) := by decide +kernel
theorem dX9_cell_33 : decode cX9_cell 33 = .ok (.invokevirtual 65, 3) := by decide +kernel
theorem dX9_cell_36 : decode cX9_cell 36 = .ok (.putfield 54, 3) := by decide +kernel
theorem dX9_cell_39 : decode cX9_cell 39 = .ok (.aload_n 0, 1) := by decide +kernel
theorem dX9_cell_40 : decode cX9_cell 40 = .ok (.getfield 54, 3) := by decide +kernel
theorem dX9_cell_43 : decode cX9_cell 43 = .ok (.ifCond .ne 18, 3) := by decide +kernel
theorem dX9_cell_46 : decode cX9_cell 46 = .ok (.aload_n 0, 1) := by decide +kernel
theorem dX9_cell_47 : decode cX9_cell 47 = .ok (.getfield 13, 3) := by decide +kernel
theorem dX9_cell_50 : decode cX9_cell 50 = .ok (.iload_n 1, 1) := by decide +kernel
theorem dX9_cell_51 : decode cX9_cell 51 = .ok (.aaload, 1) := by decide +kernel
theorem dX9_cell_52 : decode cX9_cell 52 = .ok (.getfield 192, 3) := by decide +kernel
theorem dX9_cell_55 : decode cX9_cell 55 = .ok (.iload_n 2, 1) := by decide +kernel
theorem dX9_cell_56 : decode cX9_cell 56 = .ok (.iaload, 1) := by decide +kernel
theorem dX9_cell_57 : decode cX9_cell 57 = .ok (.i2l, 1) := by decide +kernel
theorem dX9_cell_58 : decode cX9_cell 58 = .ok (.goto 6, 3) := by decide +kernel
theorem dX9_cell_61 : decode cX9_cell 61 = .ok (.ldc2_w 206, 3) := by decide +kernel
theorem dX9_cell_64 : decode cX9_cell 64 = .ok (.lreturn, 1) := by decide +kernel
def bk_X9_cell_0 (l : Launch) (g : Gm) (G : Nat → CT) (P : PT) : CT := (oALd 0 (oPush (.int (0)) (oPutI [9] 7 (oILd 1 (oCall l g d_X9_isSheet 1 (oIf (fun x => x = 0) (oPush (.long (-9223372036854775808)) (oJRet P)) (oILd 3 (oCall l g d_X9_isLane 1 (oIf (fun x => x = 0) (oPush (.long (-9223372036854775808)) (oJRet P)) (oALd 0 (oALd 0 (oGet [9] 0 (oILd 1 (oRAL g 5 (oILd 3 (oILd 2 (oPush (.int (1)) (oCallV l g [(5, d_X5_faultOfTaking)] 4 (oPutI [9] 7 (oALd 0 (oGet [9] 7 (oIf (fun x => x = 0) (oALd 0 (oGet [9] 0 (oILd 1 (oRAL g 5 (oGet [5] 0 (oILd 2 (oIAL g (oI2L (oGo (oJRet P)))))))))) (oPush (.long (-9223372036854775808)) (oJRet P))))))))))))))))))))))))
def bk_X9_cell (l : Launch) (g : Gm) (b : Nat) (G : Nat → CT) (P : PT) : CT := match b with
  | 0 => bk_X9_cell_0 l g G P
  | _ => fun _ _ _ _ _ => False
def pc_X9_cell (b : Nat) : Nat := match b with
  | 0 => 0
  | _ => 0
set_option maxRecDepth 100000 in
theorem sb_X9_cell_0 {p : Program} {l : Launch} {e : Env} {s : State} {m : MethodId} {args : Array Value} {below : List Frame} {meth : Method} {c : Code} {g : Gm} {h0 : Hp} {P : PT} {mc ms : Nat} (X : Cx g p s m args meth c (Adom h0 s.heap.size) cX9_cell RX9 4) (hr : meth.sig.returnType = some .long) (hn : meth.name = "cell") : SX g p l e s m args below meth c d_X9_cell 4 mc ms h0 P (bk_X9_cell_0 l g (fun b => GX g p l e s m args below meth c d_X9_cell 4 mc ms h0 P (pc_X9_cell b)) P) 0 := (s_aload_n X dX9_cell_0 rfl (s_iconst X dX9_cell_1 rfl (s_putI X dX9_cell_2 (mcn (⟨_, _, _, _, tyX9, rfl, inU_X9, by decide, uw_171, rfl, tyX9_ok, nmX9, rfl, rfl⟩) (mnl)) (s_iload_n X dX9_cell_5 rfl (s_callS X dX9_cell_6 uw_202 uw_203 uw_1 ci_X9_isSheet yok_X9_isSheet ⟨Nat.le_of_ble_eq_true rfl, Nat.le_of_ble_eq_true rfl⟩ (s_if_eq X dX9_cell_9 (by decide) (s_ldc2 X dX9_cell_19 uw_549 (s_jret X hr dX9_cell_22)) (s_iload_n X dX9_cell_12 rfl (s_callS X dX9_cell_13 uw_205 uw_206 uw_1 ci_X9_isLane yok_X9_isLane ⟨Nat.le_of_ble_eq_true rfl, Nat.le_of_ble_eq_true rfl⟩ (s_if_ne X dX9_cell_16 (by decide) (s_aload_n X dX9_cell_23 rfl (s_aload_n X dX9_cell_24 rfl (s_get X dX9_cell_25 (mcn (⟨_, _, _, _, rfl, inU_X9, by decide, uw_164, rfl⟩) (mnl)) (s_iload_n X dX9_cell_28 rfl (s_aaload X (t := 5) (fun _ => rfl) rfl dX9_cell_29 (s_iload_n X dX9_cell_30 rfl (s_iload_n X dX9_cell_31 rfl (s_iconst X dX9_cell_32 rfl (s_callV X dX9_cell_33 (mv (vok_V X rfl uw_208 uw_209 uw_210 uw_6 ci_X5_faultOfTaking yok_X5_faultOfTaking ⟨Nat.le_of_ble_eq_true rfl, Nat.le_of_ble_eq_true rfl⟩) mv0) (s_putI X dX9_cell_36 (mcn (⟨_, _, _, _, tyX9, rfl, inU_X9, by decide, uw_171, rfl, tyX9_ok, nmX9, rfl, rfl⟩) (mnl)) (s_aload_n X dX9_cell_39 rfl (s_get X dX9_cell_40 (mcn (⟨_, _, _, _, rfl, inU_X9, by decide, uw_171, rfl⟩) (mnl)) (s_if_ne X dX9_cell_43 (by decide) (s_ldc2 X dX9_cell_61 uw_549 (s_jret X hr dX9_cell_64)) (s_aload_n X dX9_cell_46 rfl (s_get X dX9_cell_47 (mcn (⟨_, _, _, _, rfl, inU_X9, by decide, uw_164, rfl⟩) (mnl)) (s_iload_n X dX9_cell_50 rfl (s_aaload X (t := 5) (fun _ => rfl) rfl dX9_cell_51 (s_get X dX9_cell_52 (mcn (⟨_, _, _, _, rfl, inU_X5, by decide, uw_149, rfl⟩) (mnl)) (s_iload_n X dX9_cell_55 rfl (s_iaload X dX9_cell_56 (s_i2l X dX9_cell_57 (s_goto X dX9_cell_58 (by decide) (s_jret X hr dX9_cell_64))))))))))))))))))))))) (s_ldc2 X dX9_cell_19 uw_549 (s_jret X hr dX9_cell_22)))))))))))
set_option maxRecDepth 100000 in
theorem vc_X9_cell {l : Launch} {g : Gm} {a0 : Nat} {a1 : Int32} {a2 : Int32} {a3 : Int32} {h : Hp} {mc ms : Nat} {P : PT} (H : ∀ G : Nat → CT, (∀ (b : Nat) (h : Hp) (cb sb : Nat) (ls : LocS) (st : List Value), bk_X9_cell l g b G P h cb sb ls st → G b h cb sb ls st) → G 0 h mc ms [some (.ref a0), some (.int a1), some (.int a2), some (.int a3)] []) : Run l g d_X9_cell [.ref a0, .int a1, .int a2, .int a3] h mc ms P :=
  Run.of (d := d_X9_cell) (by decide) (mcn rfl (mcn rfl (mcn rfl (mcn rfl (mnl))))) (Nat.le_of_ble_eq_true rfl) (fun p e s m args below meth c X hr hn => H (fun b => GX g p l e s m args below meth c d_X9_cell 4 mc ms h P (pc_X9_cell b)) (fun b h1 cb sb ls st hb => match b, hb with
    | 0, hb => sb_X9_cell_0 (p := p) (e := e) (below := below) X hr hn h1 cb sb ls st hb
    | _ + 1, hb => hb.elim))
theorem dX9_copy_0 : decode cX9_copy 0 = .ok (.aload_n 0, 1) := by decide +kernel
theorem dX9_copy_1 : decode cX9_copy 1 = .ok (.iconst 0, 1) := by decide +kernel
theorem dX9_copy_2 : decode cX9_copy 2 = .ok (.putfield 54, 3) := by decide +kernel
theorem dX9_copy_5 : decode cX9_copy 5 = .ok (.iload_n 1, 1) := by decide +kernel
theorem dX9_copy_6 : decode cX9_copy 6 = .ok (.invokestatic 58, 3) := by decide +kernel
theorem dX9_copy_9 : decode cX9_copy 9 = .ok (.ifCond .eq 10, 3) := by decide +kernel
theorem dX9_copy_12 : decode cX9_copy 12 = .ok (.iload_n 3, 1) := by decide +kernel
theorem dX9_copy_13 : decode cX9_copy 13 = .ok (.invokestatic 58, 3) := by decide +kernel
theorem dX9_copy_16 : decode cX9_copy 16 = .ok (.ifCond .ne 5, 3) := by decide +kernel
theorem dX9_copy_19 : decode cX9_copy 19 = .ok (.iconst (-1), 1) := by decide +kernel
theorem dX9_copy_20 : decode cX9_copy 20 = .ok (.ireturn, 1) := by decide +kernel
theorem dX9_copy_21 : decode cX9_copy 21 = .ok (.aload_n 0, 1) := by decide +kernel
theorem dX9_copy_22 : decode cX9_copy 22 = .ok (.getfield 13, 3) := by decide +kernel
theorem dX9_copy_25 : decode cX9_copy 25 = .ok (.iload_n 1, 1) := by decide +kernel
theorem dX9_copy_26 : decode cX9_copy 26 = .ok (.aaload, 1) := by decide +kernel
theorem dX9_copy_27 : decode cX9_copy 27 = .ok (.astore 6, 2) := by decide +kernel
theorem dX9_copy_29 : decode cX9_copy 29 = .ok (.aload_n 0, 1) := by decide +kernel
theorem dX9_copy_30 : decode cX9_copy 30 = .ok (.getfield 13, 3) := by decide +kernel
theorem dX9_copy_33 : decode cX9_copy 33 = .ok (.iload_n 3, 1) := by decide +kernel
theorem dX9_copy_34 : decode cX9_copy 34 = .ok (.aaload, 1) := by decide +kernel
theorem dX9_copy_35 : decode cX9_copy 35 = .ok (.astore 7, 2) := by decide +kernel
theorem dX9_copy_37 : decode cX9_copy 37 = .ok (.aload 6, 2) := by decide +kernel
theorem dX9_copy_39 : decode cX9_copy 39 = .ok (.getfield 242, 3) := by decide +kernel
theorem dX9_copy_42 : decode cX9_copy 42 = .ok (.ifCond .eq 11, 3) := by decide +kernel
theorem dX9_copy_45 : decode cX9_copy 45 = .ok (.aload 7, 2) := by decide +kernel
theorem dX9_copy_47 : decode cX9_copy 47 = .ok (.getfield 242, 3) := by decide +kernel
theorem dX9_copy_50 : decode cX9_copy 50 = .ok (.ifCond .ne 9, 3) := by decide +kernel
theorem dX9_copy_53 : decode cX9_copy 53 = .ok (.aload_n 0, 1) := by decide +kernel
theorem dX9_copy_54 : decode cX9_copy 54 = .ok (.iconst 1, 1) := by decide +kernel
theorem dX9_copy_55 : decode cX9_copy 55 = .ok (.invokevirtual 69, 3) := by decide +kernel
theorem dX9_copy_58 : decode cX9_copy 58 = .ok (.ireturn, 1) := by decide +kernel
theorem dX9_copy_59 : decode cX9_copy 59 = .ok (.aload 6, 2) := by decide +kernel
theorem dX9_copy_61 : decode cX9_copy 61 = .ok (.getfield 251, 3) := by decide +kernel
theorem dX9_copy_64 : decode cX9_copy 64 = .ok (.aload 7, 2) := by decide +kernel
theorem dX9_copy_66 : decode cX9_copy 66 = .ok (.getfield 251, 3) := by decide +kernel
theorem dX9_copy_69 : decode cX9_copy 69 = .ok (.if_icmp .eq 9, 3) := by decide +kernel
theorem dX9_copy_72 : decode cX9_copy 72 = .ok (.aload_n 0, 1) := by decide +kernel
theorem dX9_copy_73 : decode cX9_copy 73 = .ok (.iconst 2, 1) := by decide +kernel
theorem dX9_copy_74 : decode cX9_copy 74 = .ok (.invokevirtual 69, 3) := by decide +kernel
theorem dX9_copy_77 : decode cX9_copy 77 = .ok (.ireturn, 1) := by decide +kernel
theorem dX9_copy_78 : decode cX9_copy 78 = .ok (.aload 6, 2) := by decide +kernel
theorem dX9_copy_80 : decode cX9_copy 80 = .ok (.iload_n 2, 1) := by decide +kernel
theorem dX9_copy_81 : decode cX9_copy 81 = .ok (.iload 5, 2) := by decide +kernel
theorem dX9_copy_83 : decode cX9_copy 83 = .ok (.invokevirtual 245, 3) := by decide +kernel
theorem dX9_copy_86 : decode cX9_copy 86 = .ok (.ifCond .eq 15, 3) := by decide +kernel
theorem dX9_copy_89 : decode cX9_copy 89 = .ok (.aload 7, 2) := by decide +kernel
theorem dX9_copy_91 : decode cX9_copy 91 = .ok (.iload 4, 2) := by decide +kernel
theorem dX9_copy_93 : decode cX9_copy 93 = .ok (.iload 5, 2) := by decide +kernel
theorem dX9_copy_95 : decode cX9_copy 95 = .ok (.invokevirtual 245, 3) := by decide +kernel
theorem dX9_copy_98 : decode cX9_copy 98 = .ok (.ifCond .ne 9, 3) := by decide +kernel
theorem dX9_copy_101 : decode cX9_copy 101 = .ok (.aload_n 0, 1) := by decide +kernel
theorem dX9_copy_102 : decode cX9_copy 102 = .ok (.iconst 3, 1) := by decide +kernel
theorem dX9_copy_103 : decode cX9_copy 103 = .ok (.invokevirtual 69, 3) := by decide +kernel
theorem dX9_copy_106 : decode cX9_copy 106 = .ok (.ireturn, 1) := by decide +kernel
theorem dX9_copy_107 : decode cX9_copy 107 = .ok (.aload 6, 2) := by decide +kernel
theorem dX9_copy_109 : decode cX9_copy 109 = .ok (.getfield 192, 3) := by decide +kernel
theorem dX9_copy_112 : decode cX9_copy 112 = .ok (.iload_n 2, 1) := by decide +kernel
theorem dX9_copy_113 : decode cX9_copy 113 = .ok (.aload 7, 2) := by decide +kernel
theorem dX9_copy_115 : decode cX9_copy 115 = .ok (.getfield 192, 3) := by decide +kernel
theorem dX9_copy_118 : decode cX9_copy 118 = .ok (.iload 4, 2) := by decide +kernel
theorem dX9_copy_120 : decode cX9_copy 120 = .ok (.iload 5, 2) := by decide +kernel
theorem dX9_copy_122 : decode cX9_copy 122 = .ok (.invokestatic 225, 3) := by decide +kernel
theorem dX9_copy_125 : decode cX9_copy 125 = .ok (.iload 5, 2) := by decide +kernel
theorem dX9_copy_127 : decode cX9_copy 127 = .ok (.ireturn, 1) := by decide +kernel
def bk_X9_copy_0 (l : Launch) (g : Gm) (G : Nat → CT) (P : PT) : CT := (oALd 0 (oPush (.int (0)) (oPutI [9] 7 (oILd 1 (oCall l g d_X9_isSheet 1 (oIf (fun x => x = 0) (oPush (.int (-1)) (oIRet P)) (oILd 3 (oCall l g d_X9_isSheet 1 (oIf (fun x => x = 0) (oPush (.int (-1)) (oIRet P)) (oALd 0 (oGet [9] 0 (oILd 1 (oRAL g 5 (oASt 6 (oALd 0 (oGet [9] 0 (oILd 3 (oRAL g 5 (oASt 7 (oALd 6 (oGet [5] 1 (oIf (fun x => x = 0) (oALd 0 (oPush (.int (1)) (oCallV l g [(9, d_X9_fallen)] 2 (oIRet P)))) (oALd 7 (oGet [5] 1 (oIf (fun x => x = 0) (oALd 0 (oPush (.int (1)) (oCallV l g [(9, d_X9_fallen)] 2 (oIRet P)))) (oALd 6 (oGet [5] 2 (oALd 7 (oGet [5] 2 (oCmp (fun x y => x = y) (oALd 6 (oILd 2 (oILd 5 (oCallV l g [(5, d_X5_hasCells)] 3 (oIf (fun x => x = 0) (oALd 0 (oPush (.int (3)) (oCallV l g [(9, d_X9_fallen)] 2 (oIRet P)))) (oALd 7 (oILd 4 (oILd 5 (oCallV l g [(5, d_X5_hasCells)] 3 (oIf (fun x => x = 0) (oALd 0 (oPush (.int (3)) (oCallV l g [(9, d_X9_fallen)] 2 (oIRet P)))) (oALd 6 (oGet [5] 0 (oILd 2 (oALd 7 (oGet [5] 0 (oILd 4 (oILd 5 (oCopy g (oILd 5 (oIRet P)))))))))))))))))))) (oALd 0 (oPush (.int (2)) (oCallV l g [(9, d_X9_fallen)] 2 (oIRet P))))))))))))))))))))))))))))))))))
def bk_X9_copy (l : Launch) (g : Gm) (b : Nat) (G : Nat → CT) (P : PT) : CT := match b with
  | 0 => bk_X9_copy_0 l g G P
  | _ => fun _ _ _ _ _ => False
def pc_X9_copy (b : Nat) : Nat := match b with
  | 0 => 0
  | _ => 0
set_option maxRecDepth 100000 in
theorem sb_X9_copy_0 {p : Program} {l : Launch} {e : Env} {s : State} {m : MethodId} {args : Array Value} {below : List Frame} {meth : Method} {c : Code} {g : Gm} {h0 : Hp} {P : PT} {mc ms : Nat} (X : Cx g p s m args meth c (Adom h0 s.heap.size) cX9_copy RX9 8) (hr : meth.sig.returnType = some .int) (hn : meth.name = "copy") : SX g p l e s m args below meth c d_X9_copy 8 mc ms h0 P (bk_X9_copy_0 l g (fun b => GX g p l e s m args below meth c d_X9_copy 8 mc ms h0 P (pc_X9_copy b)) P) 0 := (s_aload_n X dX9_copy_0 rfl (s_iconst X dX9_copy_1 rfl (s_putI X dX9_copy_2 (mcn (⟨_, _, _, _, tyX9, rfl, inU_X9, by decide, uw_171, rfl, tyX9_ok, nmX9, rfl, rfl⟩) (mnl)) (s_iload_n X dX9_copy_5 rfl (s_callS X dX9_copy_6 uw_202 uw_203 uw_1 ci_X9_isSheet yok_X9_isSheet ⟨Nat.le_of_ble_eq_true rfl, Nat.le_of_ble_eq_true rfl⟩ (s_if_eq X dX9_copy_9 (by decide) (s_iconst X dX9_copy_19 rfl (s_iret X hr dX9_copy_20)) (s_iload_n X dX9_copy_12 rfl (s_callS X dX9_copy_13 uw_202 uw_203 uw_1 ci_X9_isSheet yok_X9_isSheet ⟨Nat.le_of_ble_eq_true rfl, Nat.le_of_ble_eq_true rfl⟩ (s_if_ne X dX9_copy_16 (by decide) (s_aload_n X dX9_copy_21 rfl (s_get X dX9_copy_22 (mcn (⟨_, _, _, _, rfl, inU_X9, by decide, uw_164, rfl⟩) (mnl)) (s_iload_n X dX9_copy_25 rfl (s_aaload X (t := 5) (fun _ => rfl) rfl dX9_copy_26 (s_astore X dX9_copy_27 (by decide) (s_aload_n X dX9_copy_29 rfl (s_get X dX9_copy_30 (mcn (⟨_, _, _, _, rfl, inU_X9, by decide, uw_164, rfl⟩) (mnl)) (s_iload_n X dX9_copy_33 rfl (s_aaload X (t := 5) (fun _ => rfl) rfl dX9_copy_34 (s_astore X dX9_copy_35 (by decide) (s_aload X dX9_copy_37 (s_get X dX9_copy_39 (mcn (⟨_, _, _, _, rfl, inU_X5, by decide, uw_151, rfl⟩) (mnl)) (s_if_eq X dX9_copy_42 (by decide) (s_aload_n X dX9_copy_53 rfl (s_iconst X dX9_copy_54 rfl (s_callV X dX9_copy_55 (mv (vok_V X rfl uw_216 uw_218 (UW_pr 0 rfl rfl) uw_1 ci_X9_fallen yok_X9_fallen ⟨Nat.le_of_ble_eq_true rfl, Nat.le_of_ble_eq_true rfl⟩) mv0) (s_iret X hr dX9_copy_58)))) (s_aload X dX9_copy_45 (s_get X dX9_copy_47 (mcn (⟨_, _, _, _, rfl, inU_X5, by decide, uw_151, rfl⟩) (mnl)) (s_if_ne X dX9_copy_50 (by decide) (s_aload X dX9_copy_59 (s_get X dX9_copy_61 (mcn (⟨_, _, _, _, rfl, inU_X5, by decide, uw_153, rfl⟩) (mnl)) (s_aload X dX9_copy_64 (s_get X dX9_copy_66 (mcn (⟨_, _, _, _, rfl, inU_X5, by decide, uw_153, rfl⟩) (mnl)) (s_icmp_eq X dX9_copy_69 (by decide) (s_aload X dX9_copy_78 (s_iload_n X dX9_copy_80 rfl (s_iload X dX9_copy_81 (s_callV X dX9_copy_83 (mv (vok_V X rfl uw_622 uw_213 uw_214 uw_6 ci_X5_hasCells yok_X5_hasCells ⟨Nat.le_of_ble_eq_true rfl, Nat.le_of_ble_eq_true rfl⟩) mv0) (s_if_eq X dX9_copy_86 (by decide) (s_aload_n X dX9_copy_101 rfl (s_iconst X dX9_copy_102 rfl (s_callV X dX9_copy_103 (mv (vok_V X rfl uw_216 uw_218 (UW_pr 0 rfl rfl) uw_1 ci_X9_fallen yok_X9_fallen ⟨Nat.le_of_ble_eq_true rfl, Nat.le_of_ble_eq_true rfl⟩) mv0) (s_iret X hr dX9_copy_106)))) (s_aload X dX9_copy_89 (s_iload X dX9_copy_91 (s_iload X dX9_copy_93 (s_callV X dX9_copy_95 (mv (vok_V X rfl uw_622 uw_213 uw_214 uw_6 ci_X5_hasCells yok_X5_hasCells ⟨Nat.le_of_ble_eq_true rfl, Nat.le_of_ble_eq_true rfl⟩) mv0) (s_if_ne X dX9_copy_98 (by decide) (s_aload X dX9_copy_107 (s_get X dX9_copy_109 (mcn (⟨_, _, _, _, rfl, inU_X5, by decide, uw_149, rfl⟩) (mnl)) (s_iload_n X dX9_copy_112 rfl (s_aload X dX9_copy_113 (s_get X dX9_copy_115 (mcn (⟨_, _, _, _, rfl, inU_X5, by decide, uw_149, rfl⟩) (mnl)) (s_iload X dX9_copy_118 (s_iload X dX9_copy_120 (s_copy X uw_503 uw_371 uw_370 uw_12 (Nat.le_of_ble_eq_true rfl) (Nat.le_of_ble_eq_true rfl) dX9_copy_122 (s_iload X dX9_copy_125 (s_iret X hr dX9_copy_127)))))))))) (s_aload_n X dX9_copy_101 rfl (s_iconst X dX9_copy_102 rfl (s_callV X dX9_copy_103 (mv (vok_V X rfl uw_216 uw_218 (UW_pr 0 rfl rfl) uw_1 ci_X9_fallen yok_X9_fallen ⟨Nat.le_of_ble_eq_true rfl, Nat.le_of_ble_eq_true rfl⟩) mv0) (s_iret X hr dX9_copy_106)))))))))))))) (s_aload_n X dX9_copy_72 rfl (s_iconst X dX9_copy_73 rfl (s_callV X dX9_copy_74 (mv (vok_V X rfl uw_216 uw_218 (UW_pr 0 rfl rfl) uw_1 ci_X9_fallen yok_X9_fallen ⟨Nat.le_of_ble_eq_true rfl, Nat.le_of_ble_eq_true rfl⟩) mv0) (s_iret X hr dX9_copy_77))))))))) (s_aload_n X dX9_copy_53 rfl (s_iconst X dX9_copy_54 rfl (s_callV X dX9_copy_55 (mv (vok_V X rfl uw_216 uw_218 (UW_pr 0 rfl rfl) uw_1 ci_X9_fallen yok_X9_fallen ⟨Nat.le_of_ble_eq_true rfl, Nat.le_of_ble_eq_true rfl⟩) mv0) (s_iret X hr dX9_copy_58)))))))))))))))))))) (s_iconst X dX9_copy_19 rfl (s_iret X hr dX9_copy_20)))))))))))
set_option maxRecDepth 100000 in
theorem vc_X9_copy {l : Launch} {g : Gm} {a0 : Nat} {a1 : Int32} {a2 : Int32} {a3 : Int32} {a4 : Int32} {a5 : Int32} {h : Hp} {mc ms : Nat} {P : PT} (H : ∀ G : Nat → CT, (∀ (b : Nat) (h : Hp) (cb sb : Nat) (ls : LocS) (st : List Value), bk_X9_copy l g b G P h cb sb ls st → G b h cb sb ls st) → G 0 h mc ms [some (.ref a0), some (.int a1), some (.int a2), some (.int a3), some (.int a4), some (.int a5), none, none] []) : Run l g d_X9_copy [.ref a0, .int a1, .int a2, .int a3, .int a4, .int a5] h mc ms P :=
  Run.of (d := d_X9_copy) (by decide) (mcn rfl (mcn rfl (mcn rfl (mcn rfl (mcn rfl (mcn rfl (mnl))))))) (Nat.le_of_ble_eq_true rfl) (fun p e s m args below meth c X hr hn => H (fun b => GX g p l e s m args below meth c d_X9_copy 8 mc ms h P (pc_X9_copy b)) (fun b h1 cb sb ls st hb => match b, hb with
    | 0, hb => sb_X9_copy_0 (p := p) (e := e) (below := below) X hr hn h1 cb sb ls st hb
    | _ + 1, hb => hb.elim))
theorem dX9_tell_0 : decode cX9_tell 0 = .ok (.aload_n 0, 1) := by decide +kernel
theorem dX9_tell_1 : decode cX9_tell 1 = .ok (.getfield 42, 3) := by decide +kernel
theorem dX9_tell_4 : decode cX9_tell 4 = .ok (.iload_n 1, 1) := by decide +kernel
theorem dX9_tell_5 : decode cX9_tell 5 = .ok (.invokevirtual 103, 3) := by decide +kernel
theorem dX9_tell_8 : decode cX9_tell 8 = .ok (.ifCond .ne 5, 3) := by decide +kernel
theorem dX9_tell_11 : decode cX9_tell 11 = .ok (.iconst (-1), 1) := by decide +kernel
theorem dX9_tell_12 : decode cX9_tell 12 = .ok (.ireturn, 1) := by decide +kernel
theorem dX9_tell_13 : decode cX9_tell 13 = .ok (.aload_n 0, 1) := by decide +kernel
theorem dX9_tell_14 : decode cX9_tell 14 = .ok (.getfield 42, 3) := by decide +kernel
theorem dX9_tell_17 : decode cX9_tell 17 = .ok (.getfield 106, 3) := by decide +kernel
theorem dX9_tell_20 : decode cX9_tell 20 = .ok (.iload_n 1, 1) := by decide +kernel
theorem dX9_tell_21 : decode cX9_tell 21 = .ok (.aaload, 1) := by decide +kernel
theorem dX9_tell_22 : decode cX9_tell 22 = .ok (.astore_n 2, 1) := by decide +kernel
theorem dX9_tell_23 : decode cX9_tell 23 = .ok (.aload_n 2, 1) := by decide +kernel
theorem dX9_tell_24 : decode cX9_tell 24 = .ok (.aload_n 0, 1) := by decide +kernel
theorem dX9_tell_25 : decode cX9_tell 25 = .ok (.getfield 20, 3) := by decide +kernel
theorem dX9_tell_28 : decode cX9_tell 28 = .ok (.aload_n 2, 1) := by decide +kernel
theorem dX9_tell_29 : decode cX9_tell 29 = .ok (.aload_n 0, 1) := by decide +kernel
theorem dX9_tell_30 : decode cX9_tell 30 = .ok (.getfield 42, 3) := by decide +kernel
theorem dX9_tell_33 : decode cX9_tell 33 = .ok (.getfield 110, 3) := by decide +kernel
theorem dX9_tell_36 : decode cX9_tell 36 = .ok (.iload_n 1, 1) := by decide +kernel
theorem dX9_tell_37 : decode cX9_tell 37 = .ok (.iaload, 1) := by decide +kernel
theorem dX9_tell_38 : decode cX9_tell 38 = .ok (.invokevirtual 121, 3) := by decide +kernel
theorem dX9_tell_41 : decode cX9_tell 41 = .ok (.invokevirtual 254, 3) := by decide +kernel
theorem dX9_tell_44 : decode cX9_tell 44 = .ok (.ireturn, 1) := by decide +kernel
def bk_X9_tell_0 (l : Launch) (g : Gm) (G : Nat → CT) (P : PT) : CT := (oALd 0 (oGet [9] 8 (oILd 1 (oCallV l g [(2, d_X2_hasVillage)] 2 (oIf (fun x => x = 0) (oPush (.int (-1)) (oIRet P)) (oALd 0 (oGet [9] 8 (oGet [2] 0 (oILd 1 (oRAL g 3 (oASt 2 (oALd 2 (oALd 0 (oGet [9] 1 (oALd 2 (oALd 0 (oGet [9] 8 (oGet [2] 3 (oILd 1 (oIAL g (oCallV l g [(4, d_X4_valueAt), (0, d_X4_valueAt), (1, d_X4_valueAt)] 2 (oCallV l g [(4, d_X4_toldOf), (0, d_X0_toldOf), (1, d_X1_toldOf)] 3 (oIRet P)))))))))))))))))))))))
def bk_X9_tell (l : Launch) (g : Gm) (b : Nat) (G : Nat → CT) (P : PT) : CT := match b with
  | 0 => bk_X9_tell_0 l g G P
  | _ => fun _ _ _ _ _ => False
def pc_X9_tell (b : Nat) : Nat := match b with
  | 0 => 0
  | _ => 0
set_option maxRecDepth 100000 in
theorem sb_X9_tell_0 {p : Program} {l : Launch} {e : Env} {s : State} {m : MethodId} {args : Array Value} {below : List Frame} {meth : Method} {c : Code} {g : Gm} {h0 : Hp} {P : PT} {mc ms : Nat} (X : Cx g p s m args meth c (Adom h0 s.heap.size) cX9_tell RX9 3) (hr : meth.sig.returnType = some .int) (hn : meth.name = "tell") : SX g p l e s m args below meth c d_X9_tell 3 mc ms h0 P (bk_X9_tell_0 l g (fun b => GX g p l e s m args below meth c d_X9_tell 3 mc ms h0 P (pc_X9_tell b)) P) 0 := (s_aload_n X dX9_tell_0 rfl (s_get X dX9_tell_1 (mcn (⟨_, _, _, _, rfl, inU_X9, by decide, uw_172, rfl⟩) (mnl)) (s_iload_n X dX9_tell_4 rfl (s_callV X dX9_tell_5 (mv (vok_V X rfl uw_382 uw_383 uw_384 uw_3 ci_X2_hasVillage yok_X2_hasVillage ⟨Nat.le_of_ble_eq_true rfl, Nat.le_of_ble_eq_true rfl⟩) mv0) (s_if_ne X dX9_tell_8 (by decide) (s_aload_n X dX9_tell_13 rfl (s_get X dX9_tell_14 (mcn (⟨_, _, _, _, rfl, inU_X9, by decide, uw_172, rfl⟩) (mnl)) (s_get X dX9_tell_17 (mcn (⟨_, _, _, _, rfl, inU_X2, by decide, uw_80, rfl⟩) (mnl)) (s_iload_n X dX9_tell_20 rfl (s_aaload X (t := 3) (fun _ => rfl) rfl dX9_tell_21 (s_astore_n X dX9_tell_22 rfl (by decide) (s_aload_n X dX9_tell_23 rfl (s_aload_n X dX9_tell_24 rfl (s_get X dX9_tell_25 (mcn (⟨_, _, _, _, rfl, inU_X9, by decide, uw_165, rfl⟩) (mnl)) (s_aload_n X dX9_tell_28 rfl (s_aload_n X dX9_tell_29 rfl (s_get X dX9_tell_30 (mcn (⟨_, _, _, _, rfl, inU_X9, by decide, uw_172, rfl⟩) (mnl)) (s_get X dX9_tell_33 (mcn (⟨_, _, _, _, rfl, inU_X2, by decide, uw_86, rfl⟩) (mnl)) (s_iload_n X dX9_tell_36 rfl (s_iaload X dX9_tell_37 (s_callV X dX9_tell_38 (mv (vok_U X (owner := RX4) (x := ⟨"VillageCuts$Plain", "valueAt", "(I)I"⟩) rfl rfl uw_386 uw_389 uw_388 uw_387 uw_9 ci_X4_valueAt (by decide +kernel) ⟨Nat.le_of_ble_eq_true rfl, Nat.le_of_ble_eq_true rfl⟩) (mv (vok_U X (owner := RX4) (x := ⟨"VillageCuts$Plain", "valueAt", "(I)I"⟩) rfl rfl uw_386 uw_389 uw_390 uw_387 uw_9 ci_X4_valueAt (by decide +kernel) ⟨Nat.le_of_ble_eq_true rfl, Nat.le_of_ble_eq_true rfl⟩) (mv (vok_U X (owner := RX4) (x := ⟨"VillageCuts$Plain", "valueAt", "(I)I"⟩) rfl rfl uw_386 uw_389 uw_391 uw_387 uw_9 ci_X4_valueAt (by decide +kernel) ⟨Nat.le_of_ble_eq_true rfl, Nat.le_of_ble_eq_true rfl⟩) (mv0)))) (s_callV X dX9_tell_41 (mv (vok_U X (owner := RX4) (x := ⟨"VillageCuts$Plain", "toldOf", "(LVillageCuts$Trace;I)I"⟩) rfl rfl uw_639 uw_642 uw_641 uw_640 uw_9 ci_X4_toldOf (by decide +kernel) ⟨Nat.le_of_ble_eq_true rfl, Nat.le_of_ble_eq_true rfl⟩) (mv (vok_O X (owner := RX4) (x := yX4_toldOf) rfl uw_663 uw_639 uw_642 uw_640 uw_643 uw_644 uw_10 ci_X0_toldOf (by decide +kernel) ⟨Nat.le_of_ble_eq_true rfl, Nat.le_of_ble_eq_true rfl⟩) (mv (vok_O X (owner := RX4) (x := yX4_toldOf) rfl uw_663 uw_639 uw_642 uw_640 uw_651 uw_652 uw_11 ci_X1_toldOf (by decide +kernel) ⟨Nat.le_of_ble_eq_true rfl, Nat.le_of_ble_eq_true rfl⟩) (mv0)))) (s_iret X hr dX9_tell_44)))))))))))))))))) (s_iconst X dX9_tell_11 rfl (s_iret X hr dX9_tell_12)))))))
set_option maxRecDepth 100000 in
theorem vc_X9_tell {l : Launch} {g : Gm} {a0 : Nat} {a1 : Int32} {h : Hp} {mc ms : Nat} {P : PT} (H : ∀ G : Nat → CT, (∀ (b : Nat) (h : Hp) (cb sb : Nat) (ls : LocS) (st : List Value), bk_X9_tell l g b G P h cb sb ls st → G b h cb sb ls st) → G 0 h mc ms [some (.ref a0), some (.int a1), none] []) : Run l g d_X9_tell [.ref a0, .int a1] h mc ms P :=
  Run.of (d := d_X9_tell) (by decide) (mcn rfl (mcn rfl (mnl))) (Nat.le_of_ble_eq_true rfl) (fun p e s m args below meth c X hr hn => H (fun b => GX g p l e s m args below meth c d_X9_tell 3 mc ms h P (pc_X9_tell b)) (fun b h1 cb sb ls st hb => match b, hb with
    | 0, hb => sb_X9_tell_0 (p := p) (e := e) (below := below) X hr hn h1 cb sb ls st hb
    | _ + 1, hb => hb.elim))
theorem dX9_ring_0 : decode cX9_ring 0 = .ok (.aload_n 0, 1) := by decide +kernel
theorem dX9_ring_1 : decode cX9_ring 1 = .ok (.getfield 42, 3) := by decide +kernel
theorem dX9_ring_4 : decode cX9_ring 4 = .ok (.iload_n 1, 1) := by decide +kernel
theorem dX9_ring_5 : decode cX9_ring 5 = .ok (.invokevirtual 103, 3) := by decide +kernel
theorem dX9_ring_8 : decode cX9_ring 8 = .ok (.ifCond .ne 5, 3) := by decide +kernel
theorem dX9_ring_11 : decode cX9_ring 11 = .ok (.iconst (-1), 1) := by decide +kernel
theorem dX9_ring_12 : decode cX9_ring 12 = .ok (.ireturn, 1) := by decide +kernel
theorem dX9_ring_13 : decode cX9_ring 13 = .ok (.aload_n 0, 1) := by decide +kernel
theorem dX9_ring_14 : decode cX9_ring 14 = .ok (.getfield 42, 3) := by decide +kernel
theorem dX9_ring_17 : decode cX9_ring 17 = .ok (.getfield 106, 3) := by decide +kernel
theorem dX9_ring_20 : decode cX9_ring 20 = .ok (.iload_n 1, 1) := by decide +kernel
theorem dX9_ring_21 : decode cX9_ring 21 = .ok (.aaload, 1) := by decide +kernel
theorem dX9_ring_22 : decode cX9_ring 22 = .ok (.aload_n 0, 1) := by decide +kernel
theorem dX9_ring_23 : decode cX9_ring 23 = .ok (.getfield 20, 3) := by decide +kernel
theorem dX9_ring_26 : decode cX9_ring 26 = .ok (.aload_n 0, 1) := by decide +kernel
theorem dX9_ring_27 : decode cX9_ring 27 = .ok (.getfield 42, 3) := by decide +kernel
theorem dX9_ring_30 : decode cX9_ring 30 = .ok (.getfield 110, 3) := by decide +kernel
theorem dX9_ring_33 : decode cX9_ring 33 = .ok (.iload_n 1, 1) := by decide +kernel
theorem dX9_ring_34 : decode cX9_ring 34 = .ok (.iaload, 1) := by decide +kernel
theorem dX9_ring_35 : decode cX9_ring 35 = .ok (.invokevirtual 258, 3) := by decide +kernel
theorem dX9_ring_38 : decode cX9_ring 38 = .ok (.ireturn, 1) := by decide +kernel
def bk_X9_ring_0 (l : Launch) (g : Gm) (G : Nat → CT) (P : PT) : CT := (oALd 0 (oGet [9] 8 (oILd 1 (oCallV l g [(2, d_X2_hasVillage)] 2 (oIf (fun x => x = 0) (oPush (.int (-1)) (oIRet P)) (oALd 0 (oGet [9] 8 (oGet [2] 0 (oILd 1 (oRAL g 3 (oALd 0 (oGet [9] 1 (oALd 0 (oGet [9] 8 (oGet [2] 3 (oILd 1 (oIAL g (oCallV l g [(4, d_X4_rungAt), (0, d_X4_rungAt), (1, d_X1_rungAt)] 3 (oIRet P)))))))))))))))))))
def bk_X9_ring (l : Launch) (g : Gm) (b : Nat) (G : Nat → CT) (P : PT) : CT := match b with
  | 0 => bk_X9_ring_0 l g G P
  | _ => fun _ _ _ _ _ => False
def pc_X9_ring (b : Nat) : Nat := match b with
  | 0 => 0
  | _ => 0
set_option maxRecDepth 100000 in
theorem sb_X9_ring_0 {p : Program} {l : Launch} {e : Env} {s : State} {m : MethodId} {args : Array Value} {below : List Frame} {meth : Method} {c : Code} {g : Gm} {h0 : Hp} {P : PT} {mc ms : Nat} (X : Cx g p s m args meth c (Adom h0 s.heap.size) cX9_ring RX9 2) (hr : meth.sig.returnType = some .int) (hn : meth.name = "ring") : SX g p l e s m args below meth c d_X9_ring 2 mc ms h0 P (bk_X9_ring_0 l g (fun b => GX g p l e s m args below meth c d_X9_ring 2 mc ms h0 P (pc_X9_ring b)) P) 0 := (s_aload_n X dX9_ring_0 rfl (s_get X dX9_ring_1 (mcn (⟨_, _, _, _, rfl, inU_X9, by decide, uw_172, rfl⟩) (mnl)) (s_iload_n X dX9_ring_4 rfl (s_callV X dX9_ring_5 (mv (vok_V X rfl uw_382 uw_383 uw_384 uw_3 ci_X2_hasVillage yok_X2_hasVillage ⟨Nat.le_of_ble_eq_true rfl, Nat.le_of_ble_eq_true rfl⟩) mv0) (s_if_ne X dX9_ring_8 (by decide) (s_aload_n X dX9_ring_13 rfl (s_get X dX9_ring_14 (mcn (⟨_, _, _, _, rfl, inU_X9, by decide, uw_172, rfl⟩) (mnl)) (s_get X dX9_ring_17 (mcn (⟨_, _, _, _, rfl, inU_X2, by decide, uw_80, rfl⟩) (mnl)) (s_iload_n X dX9_ring_20 rfl (s_aaload X (t := 3) (fun _ => rfl) rfl dX9_ring_21 (s_aload_n X dX9_ring_22 rfl (s_get X dX9_ring_23 (mcn (⟨_, _, _, _, rfl, inU_X9, by decide, uw_165, rfl⟩) (mnl)) (s_aload_n X dX9_ring_26 rfl (s_get X dX9_ring_27 (mcn (⟨_, _, _, _, rfl, inU_X9, by decide, uw_172, rfl⟩) (mnl)) (s_get X dX9_ring_30 (mcn (⟨_, _, _, _, rfl, inU_X2, by decide, uw_86, rfl⟩) (mnl)) (s_iload_n X dX9_ring_33 rfl (s_iaload X dX9_ring_34 (s_callV X dX9_ring_35 (mv (vok_U X (owner := RX4) (x := ⟨"VillageCuts$Plain", "rungAt", "(LVillageCuts$Trace;I)I"⟩) rfl rfl uw_669 uw_672 uw_671 uw_670 uw_9 ci_X4_rungAt (by decide +kernel) ⟨Nat.le_of_ble_eq_true rfl, Nat.le_of_ble_eq_true rfl⟩) (mv (vok_U X (owner := RX4) (x := ⟨"VillageCuts$Plain", "rungAt", "(LVillageCuts$Trace;I)I"⟩) rfl rfl uw_669 uw_672 uw_673 uw_670 uw_9 ci_X4_rungAt (by decide +kernel) ⟨Nat.le_of_ble_eq_true rfl, Nat.le_of_ble_eq_true rfl⟩) (mv (vok_O X (owner := RX4) (x := yX4_rungAt) rfl uw_677 uw_669 uw_672 uw_670 uw_674 uw_675 uw_11 ci_X1_rungAt (by decide +kernel) ⟨Nat.le_of_ble_eq_true rfl, Nat.le_of_ble_eq_true rfl⟩) (mv0)))) (s_iret X hr dX9_ring_38)))))))))))))) (s_iconst X dX9_ring_11 rfl (s_iret X hr dX9_ring_12)))))))
set_option maxRecDepth 100000 in
theorem vc_X9_ring {l : Launch} {g : Gm} {a0 : Nat} {a1 : Int32} {h : Hp} {mc ms : Nat} {P : PT} (H : ∀ G : Nat → CT, (∀ (b : Nat) (h : Hp) (cb sb : Nat) (ls : LocS) (st : List Value), bk_X9_ring l g b G P h cb sb ls st → G b h cb sb ls st) → G 0 h mc ms [some (.ref a0), some (.int a1)] []) : Run l g d_X9_ring [.ref a0, .int a1] h mc ms P :=
  Run.of (d := d_X9_ring) (by decide) (mcn rfl (mcn rfl (mnl))) (Nat.le_of_ble_eq_true rfl) (fun p e s m args below meth c X hr hn => H (fun b => GX g p l e s m args below meth c d_X9_ring 2 mc ms h P (pc_X9_ring b)) (fun b h1 cb sb ls st hb => match b, hb with
    | 0, hb => sb_X9_ring_0 (p := p) (e := e) (below := below) X hr hn h1 cb sb ls st hb
    | _ + 1, hb => hb.elim))
theorem dX9_as_0 : decode cX9_as 0 = .ok (.aload_n 0, 1) := by decide +kernel
theorem dX9_as_1 : decode cX9_as 1 = .ok (.iconst 0, 1) := by decide +kernel
theorem dX9_as_2 : decode cX9_as 2 = .ok (.putfield 54, 3) := by decide +kernel
theorem dX9_as_5 : decode cX9_as 5 = .ok (.aload_n 0, 1) := by decide +kernel
theorem dX9_as_6 : decode cX9_as 6 = .ok (.getfield 42, 3) := by decide +kernel
theorem dX9_as_9 : decode cX9_as 9 = .ok (.iload_n 1, 1) := by decide +kernel
theorem dX9_as_10 : decode cX9_as 10 = .ok (.invokevirtual 103, 3) := by decide +kernel
theorem dX9_as_13 : decode cX9_as 13 = .ok (.ifCond .ne 5, 3) := by decide +kernel
theorem dX9_as_16 : decode cX9_as 16 = .ok (.iconst (-1), 1) := by decide +kernel
theorem dX9_as_17 : decode cX9_as 17 = .ok (.ireturn, 1) := by decide +kernel
theorem dX9_as_18 : decode cX9_as 18 = .ok (.iload_n 2, 1) := by decide +kernel
theorem dX9_as_19 : decode cX9_as 19 = .ok (.ifCond .lt 8, 3) := by decide +kernel
theorem dX9_as_22 : decode cX9_as 22 = .ok (.iload_n 2, 1) := by decide +kernel
theorem dX9_as_23 : decode cX9_as 23 = .ok (.iconst 3, 1) := by decide +kernel
theorem dX9_as_24 : decode cX9_as 24 = .ok (.if_icmp .lt 6, 3) := by decide +kernel
theorem dX9_as_27 : decode cX9_as 27 = .ok (.bipush (-2), 2) := by decide +kernel
theorem dX9_as_29 : decode cX9_as 29 = .ok (.ireturn, 1) := by decide +kernel
theorem dX9_as_30 : decode cX9_as 30 = .ok (.aload_n 0, 1) := by decide +kernel
theorem dX9_as_31 : decode cX9_as 31 = .ok (.getfield 42, 3) := by decide +kernel
theorem dX9_as_34 : decode cX9_as 34 = .ok (.getfield 106, 3) := by decide +kernel
theorem dX9_as_37 : decode cX9_as 37 = .ok (.iload_n 1, 1) := by decide +kernel
theorem dX9_as_38 : decode cX9_as 38 = .ok (.aaload, 1) := by decide +kernel
theorem dX9_as_39 : decode cX9_as 39 = .ok (.iload_n 2, 1) := by decide +kernel
theorem dX9_as_40 : decode cX9_as 40 = .ok (.invokestatic 261, 3) := by decide +kernel
theorem dX9_as_43 : decode cX9_as 43 = .ok (.ifCond .eq 7, 3) := by decide +kernel
theorem dX9_as_46 : decode cX9_as 46 = .ok (.iconst 1, 1) := by decide +kernel
theorem dX9_as_47 : decode cX9_as 47 = .ok (.goto 8, 3) := by decide +kernel
theorem dX9_as_50 : decode cX9_as 50 = .ok (.aload_n 0, 1) := by decide +kernel
theorem dX9_as_51 : decode cX9_as 51 = .ok (.iconst 2, 1) := by decide +kernel
theorem dX9_as_52 : decode cX9_as 52 = .ok (.invokevirtual 69, 3) := by decide +kernel
theorem dX9_as_55 : decode cX9_as 55 = .ok (.ireturn, 1) := by decide +kernel
def bk_X9_as_0 (l : Launch) (g : Gm) (G : Nat → CT) (P : PT) : CT := (oALd 0 (oPush (.int (0)) (oPutI [9] 7 (oALd 0 (oGet [9] 8 (oILd 1 (oCallV l g [(2, d_X2_hasVillage)] 2 (oIf (fun x => x = 0) (oPush (.int (-1)) (oIRet P)) (oILd 2 (oIf (fun x => x < 0) (oPush (.int (-2)) (oIRet P)) (oILd 2 (oPush (.int (3)) (oCmp (fun x y => x < y) (oALd 0 (oGet [9] 8 (oGet [2] 0 (oILd 1 (oRAL g 3 (oILd 2 (oCall l g d_X9_isOfKind 2 (oIf (fun x => x = 0) (oALd 0 (oPush (.int (2)) (oCallV l g [(9, d_X9_fallen)] 2 (oIRet P)))) (oPush (.int (1)) (oGo (oIRet P))))))))))) (oPush (.int (-2)) (oIRet P)))))))))))))))
def bk_X9_as (l : Launch) (g : Gm) (b : Nat) (G : Nat → CT) (P : PT) : CT := match b with
  | 0 => bk_X9_as_0 l g G P
  | _ => fun _ _ _ _ _ => False
def pc_X9_as (b : Nat) : Nat := match b with
  | 0 => 0
  | _ => 0
set_option maxRecDepth 100000 in
theorem sb_X9_as_0 {p : Program} {l : Launch} {e : Env} {s : State} {m : MethodId} {args : Array Value} {below : List Frame} {meth : Method} {c : Code} {g : Gm} {h0 : Hp} {P : PT} {mc ms : Nat} (X : Cx g p s m args meth c (Adom h0 s.heap.size) cX9_as RX9 3) (hr : meth.sig.returnType = some .int) (hn : meth.name = "as") : SX g p l e s m args below meth c d_X9_as 3 mc ms h0 P (bk_X9_as_0 l g (fun b => GX g p l e s m args below meth c d_X9_as 3 mc ms h0 P (pc_X9_as b)) P) 0 := (s_aload_n X dX9_as_0 rfl (s_iconst X dX9_as_1 rfl (s_putI X dX9_as_2 (mcn (⟨_, _, _, _, tyX9, rfl, inU_X9, by decide, uw_171, rfl, tyX9_ok, nmX9, rfl, rfl⟩) (mnl)) (s_aload_n X dX9_as_5 rfl (s_get X dX9_as_6 (mcn (⟨_, _, _, _, rfl, inU_X9, by decide, uw_172, rfl⟩) (mnl)) (s_iload_n X dX9_as_9 rfl (s_callV X dX9_as_10 (mv (vok_V X rfl uw_382 uw_383 uw_384 uw_3 ci_X2_hasVillage yok_X2_hasVillage ⟨Nat.le_of_ble_eq_true rfl, Nat.le_of_ble_eq_true rfl⟩) mv0) (s_if_ne X dX9_as_13 (by decide) (s_iload_n X dX9_as_18 rfl (s_if_lt X dX9_as_19 (by decide) (s_bipush X dX9_as_27 rfl (s_iret X hr dX9_as_29)) (s_iload_n X dX9_as_22 rfl (s_iconst X dX9_as_23 rfl (s_icmp_lt X dX9_as_24 (by decide) (s_aload_n X dX9_as_30 rfl (s_get X dX9_as_31 (mcn (⟨_, _, _, _, rfl, inU_X9, by decide, uw_172, rfl⟩) (mnl)) (s_get X dX9_as_34 (mcn (⟨_, _, _, _, rfl, inU_X2, by decide, uw_80, rfl⟩) (mnl)) (s_iload_n X dX9_as_37 rfl (s_aaload X (t := 3) (fun _ => rfl) rfl dX9_as_38 (s_iload_n X dX9_as_39 rfl (s_callS X dX9_as_40 uw_682 uw_683 uw_1 ci_X9_isOfKind yok_X9_isOfKind ⟨Nat.le_of_ble_eq_true rfl, Nat.le_of_ble_eq_true rfl⟩ (s_if_eq X dX9_as_43 (by decide) (s_aload_n X dX9_as_50 rfl (s_iconst X dX9_as_51 rfl (s_callV X dX9_as_52 (mv (vok_V X rfl uw_216 uw_218 (UW_pr 0 rfl rfl) uw_1 ci_X9_fallen yok_X9_fallen ⟨Nat.le_of_ble_eq_true rfl, Nat.le_of_ble_eq_true rfl⟩) mv0) (s_iret X hr dX9_as_55)))) (s_iconst X dX9_as_46 rfl (s_goto X dX9_as_47 (by decide) (s_iret X hr dX9_as_55))))))))))) (s_bipush X dX9_as_27 rfl (s_iret X hr dX9_as_29))))))) (s_iconst X dX9_as_16 rfl (s_iret X hr dX9_as_17))))))))))
set_option maxRecDepth 100000 in
theorem vc_X9_as {l : Launch} {g : Gm} {a0 : Nat} {a1 : Int32} {a2 : Int32} {h : Hp} {mc ms : Nat} {P : PT} (H : ∀ G : Nat → CT, (∀ (b : Nat) (h : Hp) (cb sb : Nat) (ls : LocS) (st : List Value), bk_X9_as l g b G P h cb sb ls st → G b h cb sb ls st) → G 0 h mc ms [some (.ref a0), some (.int a1), some (.int a2)] []) : Run l g d_X9_as [.ref a0, .int a1, .int a2] h mc ms P :=
  Run.of (d := d_X9_as) (by decide) (mcn rfl (mcn rfl (mcn rfl (mnl)))) (Nat.le_of_ble_eq_true rfl) (fun p e s m args below meth c X hr hn => H (fun b => GX g p l e s m args below meth c d_X9_as 3 mc ms h P (pc_X9_as b)) (fun b h1 cb sb ls st hb => match b, hb with
    | 0, hb => sb_X9_as_0 (p := p) (e := e) (below := below) X hr hn h1 cb sb ls st hb
    | _ + 1, hb => hb.elim))
theorem dX9_trace_0 : decode cX9_trace 0 = .ok (.aload_n 0, 1) := by decide +kernel
theorem dX9_trace_1 : decode cX9_trace 1 = .ok (.getfield 20, 3) := by decide +kernel
theorem dX9_trace_4 : decode cX9_trace 4 = .ok (.getfield 265, 3) := by decide +kernel
theorem dX9_trace_7 : decode cX9_trace 7 = .ok (.ireturn, 1) := by decide +kernel
def bk_X9_trace_0 (l : Launch) (g : Gm) (G : Nat → CT) (P : PT) : CT := (oALd 0 (oGet [9] 1 (oGet [8] 0 (oIRet P))))
def bk_X9_trace (l : Launch) (g : Gm) (b : Nat) (G : Nat → CT) (P : PT) : CT := match b with
  | 0 => bk_X9_trace_0 l g G P
  | _ => fun _ _ _ _ _ => False
def pc_X9_trace (b : Nat) : Nat := match b with
  | 0 => 0
  | _ => 0
set_option maxRecDepth 100000 in
theorem sb_X9_trace_0 {p : Program} {l : Launch} {e : Env} {s : State} {m : MethodId} {args : Array Value} {below : List Frame} {meth : Method} {c : Code} {g : Gm} {h0 : Hp} {P : PT} {mc ms : Nat} (X : Cx g p s m args meth c (Adom h0 s.heap.size) cX9_trace RX9 1) (hr : meth.sig.returnType = some .int) (hn : meth.name = "trace") : SX g p l e s m args below meth c d_X9_trace 1 mc ms h0 P (bk_X9_trace_0 l g (fun b => GX g p l e s m args below meth c d_X9_trace 1 mc ms h0 P (pc_X9_trace b)) P) 0 := (s_aload_n X dX9_trace_0 rfl (s_get X dX9_trace_1 (mcn (⟨_, _, _, _, rfl, inU_X9, by decide, uw_165, rfl⟩) (mnl)) (s_get X dX9_trace_4 (mcn (⟨_, _, _, _, rfl, inU_X8, by decide, uw_32, rfl⟩) (mnl)) (s_iret X hr dX9_trace_7))))
set_option maxRecDepth 100000 in
theorem vc_X9_trace {l : Launch} {g : Gm} {a0 : Nat} {h : Hp} {mc ms : Nat} {P : PT} (H : ∀ G : Nat → CT, (∀ (b : Nat) (h : Hp) (cb sb : Nat) (ls : LocS) (st : List Value), bk_X9_trace l g b G P h cb sb ls st → G b h cb sb ls st) → G 0 h mc ms [some (.ref a0)] []) : Run l g d_X9_trace [.ref a0] h mc ms P :=
  Run.of (d := d_X9_trace) (by decide) (mcn rfl (mnl)) (Nat.le_of_ble_eq_true rfl) (fun p e s m args below meth c X hr hn => H (fun b => GX g p l e s m args below meth c d_X9_trace 1 mc ms h P (pc_X9_trace b)) (fun b h1 cb sb ls st hb => match b, hb with
    | 0, hb => sb_X9_trace_0 (p := p) (e := e) (below := below) X hr hn h1 cb sb ls st hb
    | _ + 1, hb => hb.elim))
theorem dX9_fault_0 : decode cX9_fault 0 = .ok (.aload_n 0, 1) := by decide +kernel
theorem dX9_fault_1 : decode cX9_fault 1 = .ok (.getfield 54, 3) := by decide +kernel
theorem dX9_fault_4 : decode cX9_fault 4 = .ok (.ireturn, 1) := by decide +kernel
def bk_X9_fault_0 (l : Launch) (g : Gm) (G : Nat → CT) (P : PT) : CT := (oALd 0 (oGet [9] 7 (oIRet P)))
def bk_X9_fault (l : Launch) (g : Gm) (b : Nat) (G : Nat → CT) (P : PT) : CT := match b with
  | 0 => bk_X9_fault_0 l g G P
  | _ => fun _ _ _ _ _ => False
def pc_X9_fault (b : Nat) : Nat := match b with
  | 0 => 0
  | _ => 0
set_option maxRecDepth 100000 in
theorem sb_X9_fault_0 {p : Program} {l : Launch} {e : Env} {s : State} {m : MethodId} {args : Array Value} {below : List Frame} {meth : Method} {c : Code} {g : Gm} {h0 : Hp} {P : PT} {mc ms : Nat} (X : Cx g p s m args meth c (Adom h0 s.heap.size) cX9_fault RX9 1) (hr : meth.sig.returnType = some .int) (hn : meth.name = "fault") : SX g p l e s m args below meth c d_X9_fault 1 mc ms h0 P (bk_X9_fault_0 l g (fun b => GX g p l e s m args below meth c d_X9_fault 1 mc ms h0 P (pc_X9_fault b)) P) 0 := (s_aload_n X dX9_fault_0 rfl (s_get X dX9_fault_1 (mcn (⟨_, _, _, _, rfl, inU_X9, by decide, uw_171, rfl⟩) (mnl)) (s_iret X hr dX9_fault_4)))
set_option maxRecDepth 100000 in
theorem vc_X9_fault {l : Launch} {g : Gm} {a0 : Nat} {h : Hp} {mc ms : Nat} {P : PT} (H : ∀ G : Nat → CT, (∀ (b : Nat) (h : Hp) (cb sb : Nat) (ls : LocS) (st : List Value), bk_X9_fault l g b G P h cb sb ls st → G b h cb sb ls st) → G 0 h mc ms [some (.ref a0)] []) : Run l g d_X9_fault [.ref a0] h mc ms P :=
  Run.of (d := d_X9_fault) (by decide) (mcn rfl (mnl)) (Nat.le_of_ble_eq_true rfl) (fun p e s m args below meth c X hr hn => H (fun b => GX g p l e s m args below meth c d_X9_fault 1 mc ms h P (pc_X9_fault b)) (fun b h1 cb sb ls st hb => match b, hb with
    | 0, hb => sb_X9_fault_0 (p := p) (e := e) (below := below) X hr hn h1 cb sb ls st hb
    | _ + 1, hb => hb.elim))
theorem dX9_many_0 : decode cX9_many 0 = .ok (.iload_n 1, 1) := by decide +kernel
theorem dX9_many_1 : decode cX9_many 1 = .ok (.tableswitch 79 0 4 #[35, 43, 51, 66, 74], 35) := by decide +kernel
theorem dX9_many_36 : decode cX9_many 36 = .ok (.aload_n 0, 1) := by decide +kernel
theorem dX9_many_37 : decode cX9_many 37 = .ok (.getfield 42, 3) := by decide +kernel
theorem dX9_many_40 : decode cX9_many 40 = .ok (.getfield 100, 3) := by decide +kernel
theorem dX9_many_43 : decode cX9_many 43 = .ok (.ireturn, 1) := by decide +kernel
theorem dX9_many_44 : decode cX9_many 44 = .ok (.aload_n 0, 1) := by decide +kernel
theorem dX9_many_45 : decode cX9_many 45 = .ok (.getfield 42, 3) := by decide +kernel
theorem dX9_many_48 : decode cX9_many 48 = .ok (.getfield 212, 3) := by decide +kernel
theorem dX9_many_51 : decode cX9_many 51 = .ok (.ireturn, 1) := by decide +kernel
theorem dX9_many_52 : decode cX9_many 52 = .ok (.aload_n 0, 1) := by decide +kernel
theorem dX9_many_53 : decode cX9_many 53 = .ok (.getfield 42, 3) := by decide +kernel
theorem dX9_many_56 : decode cX9_many 56 = .ok (.aload_n 0, 1) := by decide +kernel
theorem dX9_many_57 : decode cX9_many 57 = .ok (.getfield 42, 3) := by decide +kernel
theorem dX9_many_60 : decode cX9_many 60 = .ok (.getfield 110, 3) := by decide +kernel
theorem dX9_many_63 : decode cX9_many 63 = .ok (.invokevirtual 154, 3) := by decide +kernel
theorem dX9_many_66 : decode cX9_many 66 = .ok (.ireturn, 1) := by decide +kernel
theorem dX9_many_67 : decode cX9_many 67 = .ok (.aload_n 0, 1) := by decide +kernel
theorem dX9_many_68 : decode cX9_many 68 = .ok (.getfield 42, 3) := by decide +kernel
theorem dX9_many_71 : decode cX9_many 71 = .ok (.invokevirtual 268, 3) := by decide +kernel
theorem dX9_many_74 : decode cX9_many 74 = .ok (.ireturn, 1) := by decide +kernel
theorem dX9_many_75 : decode cX9_many 75 = .ok (.aload_n 0, 1) := by decide +kernel
theorem dX9_many_76 : decode cX9_many 76 = .ok (.getfield 97, 3) := by decide +kernel
theorem dX9_many_79 : decode cX9_many 79 = .ok (.ireturn, 1) := by decide +kernel
theorem dX9_many_80 : decode cX9_many 80 = .ok (.bipush (-2), 2) := by decide +kernel
theorem dX9_many_82 : decode cX9_many 82 = .ok (.ireturn, 1) := by decide +kernel
def bk_X9_many_0 (l : Launch) (g : Gm) (G : Nat → CT) (P : PT) : CT := (oILd 1 (oSw [(0, (oALd 0 (oGet [9] 8 (oGet [2] 4 (oIRet P))))), (1, (oALd 0 (oGet [9] 8 (oGet [2] 5 (oIRet P))))), (2, (oALd 0 (oGet [9] 8 (oALd 0 (oGet [9] 8 (oGet [2] 3 (oCallV l g [(2, d_X2_thingsIn)] 2 (oIRet P)))))))), (3, (oALd 0 (oGet [9] 8 (oCallV l g [(2, d_X2_lettersSent)] 1 (oIRet P))))), (4, (oALd 0 (oGet [9] 6 (oIRet P))))] (oPush (.int (-2)) (oIRet P))))
def bk_X9_many (l : Launch) (g : Gm) (b : Nat) (G : Nat → CT) (P : PT) : CT := match b with
  | 0 => bk_X9_many_0 l g G P
  | _ => fun _ _ _ _ _ => False
def pc_X9_many (b : Nat) : Nat := match b with
  | 0 => 0
  | _ => 0
set_option maxRecDepth 100000 in
theorem sb_X9_many_0 {p : Program} {l : Launch} {e : Env} {s : State} {m : MethodId} {args : Array Value} {below : List Frame} {meth : Method} {c : Code} {g : Gm} {h0 : Hp} {P : PT} {mc ms : Nat} (X : Cx g p s m args meth c (Adom h0 s.heap.size) cX9_many RX9 2) (hr : meth.sig.returnType = some .int) (hn : meth.name = "many") : SX g p l e s m args below meth c d_X9_many 2 mc ms h0 P (bk_X9_many_0 l g (fun b => GX g p l e s m args below meth c d_X9_many 2 mc ms h0 P (pc_X9_many b)) P) 0 := (s_iload_n X dX9_many_0 rfl (s_tsw X dX9_many_1 (by decide) rfl ⟨⟨rfl, 35, 36, rfl, by decide, (s_aload_n X dX9_many_36 rfl (s_get X dX9_many_37 (mcn (⟨_, _, _, _, rfl, inU_X9, by decide, uw_172, rfl⟩) (mnl)) (s_get X dX9_many_40 (mcn (⟨_, _, _, _, rfl, inU_X2, by decide, uw_89, rfl⟩) (mnl)) (s_iret X hr dX9_many_43))))⟩, ⟨⟨rfl, 43, 44, rfl, by decide, (s_aload_n X dX9_many_44 rfl (s_get X dX9_many_45 (mcn (⟨_, _, _, _, rfl, inU_X9, by decide, uw_172, rfl⟩) (mnl)) (s_get X dX9_many_48 (mcn (⟨_, _, _, _, rfl, inU_X2, by decide, uw_92, rfl⟩) (mnl)) (s_iret X hr dX9_many_51))))⟩, ⟨⟨rfl, 51, 52, rfl, by decide, (s_aload_n X dX9_many_52 rfl (s_get X dX9_many_53 (mcn (⟨_, _, _, _, rfl, inU_X9, by decide, uw_172, rfl⟩) (mnl)) (s_aload_n X dX9_many_56 rfl (s_get X dX9_many_57 (mcn (⟨_, _, _, _, rfl, inU_X9, by decide, uw_172, rfl⟩) (mnl)) (s_get X dX9_many_60 (mcn (⟨_, _, _, _, rfl, inU_X2, by decide, uw_86, rfl⟩) (mnl)) (s_callV X dX9_many_63 (mv (vok_V X rfl uw_444 uw_445 uw_446 uw_3 ci_X2_thingsIn yok_X2_thingsIn ⟨Nat.le_of_ble_eq_true rfl, Nat.le_of_ble_eq_true rfl⟩) mv0) (s_iret X hr dX9_many_66)))))))⟩, ⟨⟨rfl, 66, 67, rfl, by decide, (s_aload_n X dX9_many_67 rfl (s_get X dX9_many_68 (mcn (⟨_, _, _, _, rfl, inU_X9, by decide, uw_172, rfl⟩) (mnl)) (s_callV X dX9_many_71 (mv (vok_V X rfl uw_699 uw_700 uw_701 uw_3 ci_X2_lettersSent yok_X2_lettersSent ⟨Nat.le_of_ble_eq_true rfl, Nat.le_of_ble_eq_true rfl⟩) mv0) (s_iret X hr dX9_many_74))))⟩, ⟨⟨rfl, 74, 75, rfl, by decide, (s_aload_n X dX9_many_75 rfl (s_get X dX9_many_76 (mcn (⟨_, _, _, _, rfl, inU_X9, by decide, uw_170, rfl⟩) (mnl)) (s_iret X hr dX9_many_79)))⟩, trivial⟩⟩⟩⟩⟩ (s_bipush X dX9_many_80 rfl (s_iret X hr dX9_many_82))))
set_option maxRecDepth 100000 in
theorem vc_X9_many {l : Launch} {g : Gm} {a0 : Nat} {a1 : Int32} {h : Hp} {mc ms : Nat} {P : PT} (H : ∀ G : Nat → CT, (∀ (b : Nat) (h : Hp) (cb sb : Nat) (ls : LocS) (st : List Value), bk_X9_many l g b G P h cb sb ls st → G b h cb sb ls st) → G 0 h mc ms [some (.ref a0), some (.int a1)] []) : Run l g d_X9_many [.ref a0, .int a1] h mc ms P :=
  Run.of (d := d_X9_many) (by decide) (mcn rfl (mcn rfl (mnl))) (Nat.le_of_ble_eq_true rfl) (fun p e s m args below meth c X hr hn => H (fun b => GX g p l e s m args below meth c d_X9_many 2 mc ms h P (pc_X9_many b)) (fun b h1 cb sb ls st hb => match b, hb with
    | 0, hb => sb_X9_many_0 (p := p) (e := e) (below := below) X hr hn h1 cb sb ls st hb
    | _ + 1, hb => hb.elim))
theorem dX9_isSheet_0 : decode cX9_isSheet 0 = .ok (.iload_n 0, 1) := by decide +kernel
theorem dX9_isSheet_1 : decode cX9_isSheet 1 = .ok (.ifCond .lt 12, 3) := by decide +kernel
theorem dX9_isSheet_4 : decode cX9_isSheet 4 = .ok (.iload_n 0, 1) := by decide +kernel
theorem dX9_isSheet_5 : decode cX9_isSheet 5 = .ok (.iconst 4, 1) := by decide +kernel
theorem dX9_isSheet_6 : decode cX9_isSheet 6 = .ok (.if_icmp .ge 7, 3) := by decide +kernel
theorem dX9_isSheet_9 : decode cX9_isSheet 9 = .ok (.iconst 1, 1) := by decide +kernel
theorem dX9_isSheet_10 : decode cX9_isSheet 10 = .ok (.goto 4, 3) := by decide +kernel
theorem dX9_isSheet_13 : decode cX9_isSheet 13 = .ok (.iconst 0, 1) := by decide +kernel
theorem dX9_isSheet_14 : decode cX9_isSheet 14 = .ok (.ireturn, 1) := by decide +kernel
def bk_X9_isSheet_0 (l : Launch) (g : Gm) (G : Nat → CT) (P : PT) : CT := (oILd 0 (oIf (fun x => x < 0) (oPush (.int (0)) (oZRet P)) (oILd 0 (oPush (.int (4)) (oCmp (fun x y => y ≤ x) (oPush (.int (0)) (oZRet P)) (oPush (.int (1)) (oGo (oZRet P))))))))
def bk_X9_isSheet (l : Launch) (g : Gm) (b : Nat) (G : Nat → CT) (P : PT) : CT := match b with
  | 0 => bk_X9_isSheet_0 l g G P
  | _ => fun _ _ _ _ _ => False
def pc_X9_isSheet (b : Nat) : Nat := match b with
  | 0 => 0
  | _ => 0
set_option maxRecDepth 100000 in
theorem sb_X9_isSheet_0 {p : Program} {l : Launch} {e : Env} {s : State} {m : MethodId} {args : Array Value} {below : List Frame} {meth : Method} {c : Code} {g : Gm} {h0 : Hp} {P : PT} {mc ms : Nat} (X : Cx g p s m args meth c (Adom h0 s.heap.size) cX9_isSheet RX9 1) (hr : meth.sig.returnType = some .boolean) (hn : meth.name = "isSheet") : SX g p l e s m args below meth c d_X9_isSheet 1 mc ms h0 P (bk_X9_isSheet_0 l g (fun b => GX g p l e s m args below meth c d_X9_isSheet 1 mc ms h0 P (pc_X9_isSheet b)) P) 0 := (s_iload_n X dX9_isSheet_0 rfl (s_if_lt X dX9_isSheet_1 (by decide) (s_iconst X dX9_isSheet_13 rfl (s_zret X hr dX9_isSheet_14)) (s_iload_n X dX9_isSheet_4 rfl (s_iconst X dX9_isSheet_5 rfl (s_icmp_ge X dX9_isSheet_6 (by decide) (s_iconst X dX9_isSheet_13 rfl (s_zret X hr dX9_isSheet_14)) (s_iconst X dX9_isSheet_9 rfl (s_goto X dX9_isSheet_10 (by decide) (s_zret X hr dX9_isSheet_14))))))))
set_option maxRecDepth 100000 in
theorem vc_X9_isSheet {l : Launch} {g : Gm} {a0 : Int32} {h : Hp} {mc ms : Nat} {P : PT} (H : ∀ G : Nat → CT, (∀ (b : Nat) (h : Hp) (cb sb : Nat) (ls : LocS) (st : List Value), bk_X9_isSheet l g b G P h cb sb ls st → G b h cb sb ls st) → G 0 h mc ms [some (.int a0)] []) : Run l g d_X9_isSheet [.int a0] h mc ms P :=
  Run.of (d := d_X9_isSheet) (by decide) (mcn rfl (mnl)) (Nat.le_of_ble_eq_true rfl) (fun p e s m args below meth c X hr hn => H (fun b => GX g p l e s m args below meth c d_X9_isSheet 1 mc ms h P (pc_X9_isSheet b)) (fun b h1 cb sb ls st hb => match b, hb with
    | 0, hb => sb_X9_isSheet_0 (p := p) (e := e) (below := below) X hr hn h1 cb sb ls st hb
    | _ + 1, hb => hb.elim))
theorem dX9_isLane_0 : decode cX9_isLane 0 = .ok (.iload_n 0, 1) := by decide +kernel
theorem dX9_isLane_1 : decode cX9_isLane 1 = .ok (.ifCond .lt 12, 3) := by decide +kernel
theorem dX9_isLane_4 : decode cX9_isLane 4 = .ok (.iload_n 0, 1) := by decide +kernel
theorem dX9_isLane_5 : decode cX9_isLane 5 = .ok (.iconst 3, 1) := by decide +kernel
theorem dX9_isLane_6 : decode cX9_isLane 6 = .ok (.if_icmp .ge 7, 3) := by decide +kernel
theorem dX9_isLane_9 : decode cX9_isLane 9 = .ok (.iconst 1, 1) := by decide +kernel
theorem dX9_isLane_10 : decode cX9_isLane 10 = .ok (.goto 4, 3) := by decide +kernel
theorem dX9_isLane_13 : decode cX9_isLane 13 = .ok (.iconst 0, 1) := by decide +kernel
theorem dX9_isLane_14 : decode cX9_isLane 14 = .ok (.ireturn, 1) := by decide +kernel
def bk_X9_isLane_0 (l : Launch) (g : Gm) (G : Nat → CT) (P : PT) : CT := (oILd 0 (oIf (fun x => x < 0) (oPush (.int (0)) (oZRet P)) (oILd 0 (oPush (.int (3)) (oCmp (fun x y => y ≤ x) (oPush (.int (0)) (oZRet P)) (oPush (.int (1)) (oGo (oZRet P))))))))
def bk_X9_isLane (l : Launch) (g : Gm) (b : Nat) (G : Nat → CT) (P : PT) : CT := match b with
  | 0 => bk_X9_isLane_0 l g G P
  | _ => fun _ _ _ _ _ => False
def pc_X9_isLane (b : Nat) : Nat := match b with
  | 0 => 0
  | _ => 0
set_option maxRecDepth 100000 in
theorem sb_X9_isLane_0 {p : Program} {l : Launch} {e : Env} {s : State} {m : MethodId} {args : Array Value} {below : List Frame} {meth : Method} {c : Code} {g : Gm} {h0 : Hp} {P : PT} {mc ms : Nat} (X : Cx g p s m args meth c (Adom h0 s.heap.size) cX9_isLane RX9 1) (hr : meth.sig.returnType = some .boolean) (hn : meth.name = "isLane") : SX g p l e s m args below meth c d_X9_isLane 1 mc ms h0 P (bk_X9_isLane_0 l g (fun b => GX g p l e s m args below meth c d_X9_isLane 1 mc ms h0 P (pc_X9_isLane b)) P) 0 := (s_iload_n X dX9_isLane_0 rfl (s_if_lt X dX9_isLane_1 (by decide) (s_iconst X dX9_isLane_13 rfl (s_zret X hr dX9_isLane_14)) (s_iload_n X dX9_isLane_4 rfl (s_iconst X dX9_isLane_5 rfl (s_icmp_ge X dX9_isLane_6 (by decide) (s_iconst X dX9_isLane_13 rfl (s_zret X hr dX9_isLane_14)) (s_iconst X dX9_isLane_9 rfl (s_goto X dX9_isLane_10 (by decide) (s_zret X hr dX9_isLane_14))))))))
set_option maxRecDepth 100000 in
theorem vc_X9_isLane {l : Launch} {g : Gm} {a0 : Int32} {h : Hp} {mc ms : Nat} {P : PT} (H : ∀ G : Nat → CT, (∀ (b : Nat) (h : Hp) (cb sb : Nat) (ls : LocS) (st : List Value), bk_X9_isLane l g b G P h cb sb ls st → G b h cb sb ls st) → G 0 h mc ms [some (.int a0)] []) : Run l g d_X9_isLane [.int a0] h mc ms P :=
  Run.of (d := d_X9_isLane) (by decide) (mcn rfl (mnl)) (Nat.le_of_ble_eq_true rfl) (fun p e s m args below meth c X hr hn => H (fun b => GX g p l e s m args below meth c d_X9_isLane 1 mc ms h P (pc_X9_isLane b)) (fun b h1 cb sb ls st hb => match b, hb with
    | 0, hb => sb_X9_isLane_0 (p := p) (e := e) (below := below) X hr hn h1 cb sb ls st hb
    | _ + 1, hb => hb.elim))
theorem dX9_isSum_0 : decode cX9_isSum 0 = .ok (.iload_n 0, 1) := by decide +kernel
theorem dX9_isSum_1 : decode cX9_isSum 1 = .ok (.ifCond .lt 13, 3) := by decide +kernel
theorem dX9_isSum_4 : decode cX9_isSum 4 = .ok (.iload_n 0, 1) := by decide +kernel
theorem dX9_isSum_5 : decode cX9_isSum 5 = .ok (.bipush 99, 2) := by decide +kernel
theorem dX9_isSum_7 : decode cX9_isSum 7 = .ok (.if_icmp .gt 7, 3) := by decide +kernel
theorem dX9_isSum_10 : decode cX9_isSum 10 = .ok (.iconst 1, 1) := by decide +kernel
theorem dX9_isSum_11 : decode cX9_isSum 11 = .ok (.goto 4, 3) := by decide +kernel
theorem dX9_isSum_14 : decode cX9_isSum 14 = .ok (.iconst 0, 1) := by decide +kernel
theorem dX9_isSum_15 : decode cX9_isSum 15 = .ok (.ireturn, 1) := by decide +kernel
def bk_X9_isSum_0 (l : Launch) (g : Gm) (G : Nat → CT) (P : PT) : CT := (oILd 0 (oIf (fun x => x < 0) (oPush (.int (0)) (oZRet P)) (oILd 0 (oPush (.int (99)) (oCmp (fun x y => y < x) (oPush (.int (0)) (oZRet P)) (oPush (.int (1)) (oGo (oZRet P))))))))
def bk_X9_isSum (l : Launch) (g : Gm) (b : Nat) (G : Nat → CT) (P : PT) : CT := match b with
  | 0 => bk_X9_isSum_0 l g G P
  | _ => fun _ _ _ _ _ => False
def pc_X9_isSum (b : Nat) : Nat := match b with
  | 0 => 0
  | _ => 0
set_option maxRecDepth 100000 in
theorem sb_X9_isSum_0 {p : Program} {l : Launch} {e : Env} {s : State} {m : MethodId} {args : Array Value} {below : List Frame} {meth : Method} {c : Code} {g : Gm} {h0 : Hp} {P : PT} {mc ms : Nat} (X : Cx g p s m args meth c (Adom h0 s.heap.size) cX9_isSum RX9 1) (hr : meth.sig.returnType = some .boolean) (hn : meth.name = "isSum") : SX g p l e s m args below meth c d_X9_isSum 1 mc ms h0 P (bk_X9_isSum_0 l g (fun b => GX g p l e s m args below meth c d_X9_isSum 1 mc ms h0 P (pc_X9_isSum b)) P) 0 := (s_iload_n X dX9_isSum_0 rfl (s_if_lt X dX9_isSum_1 (by decide) (s_iconst X dX9_isSum_14 rfl (s_zret X hr dX9_isSum_15)) (s_iload_n X dX9_isSum_4 rfl (s_bipush X dX9_isSum_5 rfl (s_icmp_gt X dX9_isSum_7 (by decide) (s_iconst X dX9_isSum_14 rfl (s_zret X hr dX9_isSum_15)) (s_iconst X dX9_isSum_10 rfl (s_goto X dX9_isSum_11 (by decide) (s_zret X hr dX9_isSum_15))))))))
set_option maxRecDepth 100000 in
theorem vc_X9_isSum {l : Launch} {g : Gm} {a0 : Int32} {h : Hp} {mc ms : Nat} {P : PT} (H : ∀ G : Nat → CT, (∀ (b : Nat) (h : Hp) (cb sb : Nat) (ls : LocS) (st : List Value), bk_X9_isSum l g b G P h cb sb ls st → G b h cb sb ls st) → G 0 h mc ms [some (.int a0)] []) : Run l g d_X9_isSum [.int a0] h mc ms P :=
  Run.of (d := d_X9_isSum) (by decide) (mcn rfl (mnl)) (Nat.le_of_ble_eq_true rfl) (fun p e s m args below meth c X hr hn => H (fun b => GX g p l e s m args below meth c d_X9_isSum 1 mc ms h P (pc_X9_isSum b)) (fun b h1 cb sb ls st hb => match b, hb with
    | 0, hb => sb_X9_isSum_0 (p := p) (e := e) (below := below) X hr hn h1 cb sb ls st hb
    | _ + 1, hb => hb.elim))
theorem dX9_isOfVillage_0 : decode cX9_isOfVillage 0 = .ok (.iload_n 0, 1) := by decide +kernel
theorem dX9_isOfVillage_1 : decode cX9_isOfVillage 1 = .ok (.bipush 10, 2) := by decide +kernel
theorem dX9_isOfVillage_3 : decode cX9_isOfVillage 3 = .ok (.if_icmp .lt 13, 3) := by decide +kernel
theorem dX9_isOfVillage_6 : decode cX9_isOfVillage 6 = .ok (.iload_n 0, 1) := by decide +kernel
theorem dX9_isOfVillage_7 : decode cX9_isOfVillage 7 = .ok (.bipush 14, 2) := by decide +kernel
theorem dX9_isOfVillage_9 : decode cX9_isOfVillage 9 = .ok (.if_icmp .ge 7, 3) := by decide +kernel
theorem dX9_isOfVillage_12 : decode cX9_isOfVillage 12 = .ok (.iconst 1, 1) := by decide +kernel
theorem dX9_isOfVillage_13 : decode cX9_isOfVillage 13 = .ok (.goto 4, 3) := by decide +kernel
theorem dX9_isOfVillage_16 : decode cX9_isOfVillage 16 = .ok (.iconst 0, 1) := by decide +kernel
theorem dX9_isOfVillage_17 : decode cX9_isOfVillage 17 = .ok (.ireturn, 1) := by decide +kernel
def bk_X9_isOfVillage_0 (l : Launch) (g : Gm) (G : Nat → CT) (P : PT) : CT := (oILd 0 (oPush (.int (10)) (oCmp (fun x y => x < y) (oPush (.int (0)) (oZRet P)) (oILd 0 (oPush (.int (14)) (oCmp (fun x y => y ≤ x) (oPush (.int (0)) (oZRet P)) (oPush (.int (1)) (oGo (oZRet P)))))))))
def bk_X9_isOfVillage (l : Launch) (g : Gm) (b : Nat) (G : Nat → CT) (P : PT) : CT := match b with
  | 0 => bk_X9_isOfVillage_0 l g G P
  | _ => fun _ _ _ _ _ => False
def pc_X9_isOfVillage (b : Nat) : Nat := match b with
  | 0 => 0
  | _ => 0
set_option maxRecDepth 100000 in
theorem sb_X9_isOfVillage_0 {p : Program} {l : Launch} {e : Env} {s : State} {m : MethodId} {args : Array Value} {below : List Frame} {meth : Method} {c : Code} {g : Gm} {h0 : Hp} {P : PT} {mc ms : Nat} (X : Cx g p s m args meth c (Adom h0 s.heap.size) cX9_isOfVillage RX9 1) (hr : meth.sig.returnType = some .boolean) (hn : meth.name = "isOfVillage") : SX g p l e s m args below meth c d_X9_isOfVillage 1 mc ms h0 P (bk_X9_isOfVillage_0 l g (fun b => GX g p l e s m args below meth c d_X9_isOfVillage 1 mc ms h0 P (pc_X9_isOfVillage b)) P) 0 := (s_iload_n X dX9_isOfVillage_0 rfl (s_bipush X dX9_isOfVillage_1 rfl (s_icmp_lt X dX9_isOfVillage_3 (by decide) (s_iconst X dX9_isOfVillage_16 rfl (s_zret X hr dX9_isOfVillage_17)) (s_iload_n X dX9_isOfVillage_6 rfl (s_bipush X dX9_isOfVillage_7 rfl (s_icmp_ge X dX9_isOfVillage_9 (by decide) (s_iconst X dX9_isOfVillage_16 rfl (s_zret X hr dX9_isOfVillage_17)) (s_iconst X dX9_isOfVillage_12 rfl (s_goto X dX9_isOfVillage_13 (by decide) (s_zret X hr dX9_isOfVillage_17)))))))))
set_option maxRecDepth 100000 in
theorem vc_X9_isOfVillage {l : Launch} {g : Gm} {a0 : Int32} {h : Hp} {mc ms : Nat} {P : PT} (H : ∀ G : Nat → CT, (∀ (b : Nat) (h : Hp) (cb sb : Nat) (ls : LocS) (st : List Value), bk_X9_isOfVillage l g b G P h cb sb ls st → G b h cb sb ls st) → G 0 h mc ms [some (.int a0)] []) : Run l g d_X9_isOfVillage [.int a0] h mc ms P :=
  Run.of (d := d_X9_isOfVillage) (by decide) (mcn rfl (mnl)) (Nat.le_of_ble_eq_true rfl) (fun p e s m args below meth c X hr hn => H (fun b => GX g p l e s m args below meth c d_X9_isOfVillage 1 mc ms h P (pc_X9_isOfVillage b)) (fun b h1 cb sb ls st hb => match b, hb with
    | 0, hb => sb_X9_isOfVillage_0 (p := p) (e := e) (below := below) X hr hn h1 cb sb ls st hb
    | _ + 1, hb => hb.elim))
theorem dX9_isQuestion_0 : decode cX9_isQuestion 0 = .ok (.iload_n 0, 1) := by decide +kernel
theorem dX9_isQuestion_1 : decode cX9_isQuestion 1 = .ok (.ifCond .lt 8, 3) := by decide +kernel
theorem dX9_isQuestion_4 : decode cX9_isQuestion 4 = .ok (.iload_n 0, 1) := by decide +kernel
theorem dX9_isQuestion_5 : decode cX9_isQuestion 5 = .ok (.iconst 3, 1) := by decide +kernel
theorem dX9_isQuestion_6 : decode cX9_isQuestion 6 = .ok (.if_icmp .le 10, 3) := by decide +kernel
theorem dX9_isQuestion_9 : decode cX9_isQuestion 9 = .ok (.iload_n 0, 1) := by decide +kernel
theorem dX9_isQuestion_10 : decode cX9_isQuestion 10 = .ok (.invokestatic 135, 3) := by decide +kernel
theorem dX9_isQuestion_13 : decode cX9_isQuestion 13 = .ok (.ifCond .eq 7, 3) := by decide +kernel
theorem dX9_isQuestion_16 : decode cX9_isQuestion 16 = .ok (.iconst 1, 1) := by decide +kernel
theorem dX9_isQuestion_17 : decode cX9_isQuestion 17 = .ok (.goto 4, 3) := by decide +kernel
theorem dX9_isQuestion_20 : decode cX9_isQuestion 20 = .ok (.iconst 0, 1) := by decide +kernel
theorem dX9_isQuestion_21 : decode cX9_isQuestion 21 = .ok (.ireturn, 1) := by decide +kernel
def bk_X9_isQuestion_0 (l : Launch) (g : Gm) (G : Nat → CT) (P : PT) : CT := (oILd 0 (oIf (fun x => x < 0) (G 1) (oILd 0 (oPush (.int (3)) (oCmp (fun x y => x ≤ y) (oPush (.int (1)) (oGo (oZRet P))) (G 1))))))
def bk_X9_isQuestion_1 (l : Launch) (g : Gm) (G : Nat → CT) (P : PT) : CT := (oILd 0 (oCall l g d_X9_isOfVillage 1 (oIf (fun x => x = 0) (oPush (.int (0)) (oZRet P)) (oPush (.int (1)) (oGo (oZRet P))))))
def bk_X9_isQuestion (l : Launch) (g : Gm) (b : Nat) (G : Nat → CT) (P : PT) : CT := match b with
  | 0 => bk_X9_isQuestion_0 l g G P
  | 1 => bk_X9_isQuestion_1 l g G P
  | _ => fun _ _ _ _ _ => False
def pc_X9_isQuestion (b : Nat) : Nat := match b with
  | 0 => 0
  | 1 => 9
  | _ => 0
set_option maxRecDepth 100000 in
theorem sb_X9_isQuestion_0 {p : Program} {l : Launch} {e : Env} {s : State} {m : MethodId} {args : Array Value} {below : List Frame} {meth : Method} {c : Code} {g : Gm} {h0 : Hp} {P : PT} {mc ms : Nat} (X : Cx g p s m args meth c (Adom h0 s.heap.size) cX9_isQuestion RX9 1) (hr : meth.sig.returnType = some .boolean) (hn : meth.name = "isQuestion") : SX g p l e s m args below meth c d_X9_isQuestion 1 mc ms h0 P (bk_X9_isQuestion_0 l g (fun b => GX g p l e s m args below meth c d_X9_isQuestion 1 mc ms h0 P (pc_X9_isQuestion b)) P) 0 := (s_iload_n X dX9_isQuestion_0 rfl (s_if_lt X dX9_isQuestion_1 (by decide) Sd.rf (s_iload_n X dX9_isQuestion_4 rfl (s_iconst X dX9_isQuestion_5 rfl (s_icmp_le X dX9_isQuestion_6 (by decide) (s_iconst X dX9_isQuestion_16 rfl (s_goto X dX9_isQuestion_17 (by decide) (s_zret X hr dX9_isQuestion_21))) Sd.rf)))))
set_option maxRecDepth 100000 in
theorem sb_X9_isQuestion_1 {p : Program} {l : Launch} {e : Env} {s : State} {m : MethodId} {args : Array Value} {below : List Frame} {meth : Method} {c : Code} {g : Gm} {h0 : Hp} {P : PT} {mc ms : Nat} (X : Cx g p s m args meth c (Adom h0 s.heap.size) cX9_isQuestion RX9 1) (hr : meth.sig.returnType = some .boolean) (hn : meth.name = "isQuestion") : SX g p l e s m args below meth c d_X9_isQuestion 1 mc ms h0 P (bk_X9_isQuestion_1 l g (fun b => GX g p l e s m args below meth c d_X9_isQuestion 1 mc ms h0 P (pc_X9_isQuestion b)) P) 9 := (s_iload_n X dX9_isQuestion_9 rfl (s_callS X dX9_isQuestion_10 uw_418 uw_419 uw_1 ci_X9_isOfVillage yok_X9_isOfVillage ⟨Nat.le_of_ble_eq_true rfl, Nat.le_of_ble_eq_true rfl⟩ (s_if_eq X dX9_isQuestion_13 (by decide) (s_iconst X dX9_isQuestion_20 rfl (s_zret X hr dX9_isQuestion_21)) (s_iconst X dX9_isQuestion_16 rfl (s_goto X dX9_isQuestion_17 (by decide) (s_zret X hr dX9_isQuestion_21))))))
set_option maxRecDepth 100000 in
theorem vc_X9_isQuestion {l : Launch} {g : Gm} {a0 : Int32} {h : Hp} {mc ms : Nat} {P : PT} (H : ∀ G : Nat → CT, (∀ (b : Nat) (h : Hp) (cb sb : Nat) (ls : LocS) (st : List Value), bk_X9_isQuestion l g b G P h cb sb ls st → G b h cb sb ls st) → G 0 h mc ms [some (.int a0)] []) : Run l g d_X9_isQuestion [.int a0] h mc ms P :=
  Run.of (d := d_X9_isQuestion) (by decide) (mcn rfl (mnl)) (Nat.le_of_ble_eq_true rfl) (fun p e s m args below meth c X hr hn => H (fun b => GX g p l e s m args below meth c d_X9_isQuestion 1 mc ms h P (pc_X9_isQuestion b)) (fun b h1 cb sb ls st hb => match b, hb with
    | 0, hb => sb_X9_isQuestion_0 (p := p) (e := e) (below := below) X hr hn h1 cb sb ls st hb
    | 1, hb => sb_X9_isQuestion_1 (p := p) (e := e) (below := below) X hr hn h1 cb sb ls st hb
    | _ + 2, hb => hb.elim))
theorem dX9_isOfKind_0 : decode cX9_isOfKind 0 = .ok (.iload_n 1, 1) := by decide +kernel
theorem dX9_isOfKind_1 : decode cX9_isOfKind 1 = .ok (.iconst 2, 1) := by decide +kernel
theorem dX9_isOfKind_2 : decode cX9_isOfKind 2 = .ok (.if_icmp .ne 8, 3) := by decide +kernel
theorem dX9_isOfKind_5 : decode cX9_isOfKind 5 = .ok (.aload_n 0, 1) := by decide +kernel
theorem dX9_isOfKind_6 : decode cX9_isOfKind 6 = .ok (.instanceof 271, 3) := by decide +kernel
theorem dX9_isOfKind_9 : decode cX9_isOfKind 9 = .ok (.ireturn, 1) := by decide +kernel
theorem dX9_isOfKind_10 : decode cX9_isOfKind 10 = .ok (.iload_n 1, 1) := by decide +kernel
theorem dX9_isOfKind_11 : decode cX9_isOfKind 11 = .ok (.ifCond .eq 10, 3) := by decide +kernel
theorem dX9_isOfKind_14 : decode cX9_isOfKind 14 = .ok (.aload_n 0, 1) := by decide +kernel
theorem dX9_isOfKind_15 : decode cX9_isOfKind 15 = .ok (.instanceof 273, 3) := by decide +kernel
theorem dX9_isOfKind_18 : decode cX9_isOfKind 18 = .ok (.ifCond .eq 7, 3) := by decide +kernel
theorem dX9_isOfKind_21 : decode cX9_isOfKind 21 = .ok (.iconst 1, 1) := by decide +kernel
theorem dX9_isOfKind_22 : decode cX9_isOfKind 22 = .ok (.goto 4, 3) := by decide +kernel
theorem dX9_isOfKind_25 : decode cX9_isOfKind 25 = .ok (.iconst 0, 1) := by decide +kernel
theorem dX9_isOfKind_26 : decode cX9_isOfKind 26 = .ok (.ireturn, 1) := by decide +kernel
def bk_X9_isOfKind_0 (l : Launch) (g : Gm) (G : Nat → CT) (P : PT) : CT := (oILd 1 (oPush (.int (2)) (oCmp (fun x y => x = y) (oALd 0 (oInst [(4, 0), (0, 0), (1, 1)] (oZRet P))) (oILd 1 (oIf (fun x => x = 0) (oPush (.int (1)) (oGo (oZRet P))) (oALd 0 (oInst [(4, 0), (0, 1), (1, 1)] (oIf (fun x => x = 0) (oPush (.int (0)) (oZRet P)) (oPush (.int (1)) (oGo (oZRet P)))))))))))
def bk_X9_isOfKind (l : Launch) (g : Gm) (b : Nat) (G : Nat → CT) (P : PT) : CT := match b with
  | 0 => bk_X9_isOfKind_0 l g G P
  | _ => fun _ _ _ _ _ => False
def pc_X9_isOfKind (b : Nat) : Nat := match b with
  | 0 => 0
  | _ => 0
set_option maxRecDepth 100000 in
theorem sb_X9_isOfKind_0 {p : Program} {l : Launch} {e : Env} {s : State} {m : MethodId} {args : Array Value} {below : List Frame} {meth : Method} {c : Code} {g : Gm} {h0 : Hp} {P : PT} {mc ms : Nat} (X : Cx g p s m args meth c (Adom h0 s.heap.size) cX9_isOfKind RX9 2) (hr : meth.sig.returnType = some .boolean) (hn : meth.name = "isOfKind") : SX g p l e s m args below meth c d_X9_isOfKind 2 mc ms h0 P (bk_X9_isOfKind_0 l g (fun b => GX g p l e s m args below meth c d_X9_isOfKind 2 mc ms h0 P (pc_X9_isOfKind b)) P) 0 := (s_iload_n X dX9_isOfKind_0 rfl (s_iconst X dX9_isOfKind_1 rfl (s_icmp_ne X dX9_isOfKind_2 (by decide) (s_iload_n X dX9_isOfKind_10 rfl (s_if_eq X dX9_isOfKind_11 (by decide) (s_iconst X dX9_isOfKind_21 rfl (s_goto X dX9_isOfKind_22 (by decide) (s_zret X hr dX9_isOfKind_26))) (s_aload_n X dX9_isOfKind_14 rfl (s_inst X uw_686 (mi (⟨_, _, _, rfl, Or.inr ⟨rfl, X.2.2.2.2.2.1.2.2.2.2.2.1⟩⟩) (mi (⟨_, _, _, rfl, Or.inl ⟨rfl, Or.inr rfl⟩⟩) (mi (⟨_, _, _, rfl, Or.inl ⟨rfl, Or.inl X.2.2.2.2.2.1.2.2.2.1.1⟩⟩) (mi0)))) dX9_isOfKind_15 (s_if_eq X dX9_isOfKind_18 (by decide) (s_iconst X dX9_isOfKind_25 rfl (s_zret X hr dX9_isOfKind_26)) (s_iconst X dX9_isOfKind_21 rfl (s_goto X dX9_isOfKind_22 (by decide) (s_zret X hr dX9_isOfKind_26)))))))) (s_aload_n X dX9_isOfKind_5 rfl (s_inst X uw_685 (mi (⟨_, _, _, rfl, Or.inr ⟨rfl, X.2.2.2.2.2.1.2.2.2.2.1⟩⟩) (mi (⟨_, _, _, rfl, Or.inr ⟨rfl, X.2.2.2.2.2.1.2.2.2.2.2.2⟩⟩) (mi (⟨_, _, _, rfl, Or.inl ⟨rfl, Or.inr rfl⟩⟩) (mi0)))) dX9_isOfKind_6 (s_zret X hr dX9_isOfKind_9))))))
set_option maxRecDepth 100000 in
theorem vc_X9_isOfKind {l : Launch} {g : Gm} {a0 : Nat} {a1 : Int32} {h : Hp} {mc ms : Nat} {P : PT} (H : ∀ G : Nat → CT, (∀ (b : Nat) (h : Hp) (cb sb : Nat) (ls : LocS) (st : List Value), bk_X9_isOfKind l g b G P h cb sb ls st → G b h cb sb ls st) → G 0 h mc ms [some (.ref a0), some (.int a1)] []) : Run l g d_X9_isOfKind [.ref a0, .int a1] h mc ms P :=
  Run.of (d := d_X9_isOfKind) (by decide) (mcn rfl (mcn rfl (mnl))) (Nat.le_of_ble_eq_true rfl) (fun p e s m args below meth c X hr hn => H (fun b => GX g p l e s m args below meth c d_X9_isOfKind 2 mc ms h P (pc_X9_isOfKind b)) (fun b h1 cb sb ls st hb => match b, hb with
    | 0, hb => sb_X9_isOfKind_0 (p := p) (e := e) (below := below) X hr hn h1 cb sb ls st hb
    | _ + 1, hb => hb.elim))
theorem dX9_fallen_0 : decode cX9_fallen 0 = .ok (.aload_n 0, 1) := by decide +kernel
theorem dX9_fallen_1 : decode cX9_fallen 1 = .ok (.iload_n 1, 1) := by decide +kernel
theorem dX9_fallen_2 : decode cX9_fallen 2 = .ok (.putfield 54, 3) := by decide +kernel
theorem dX9_fallen_5 : decode cX9_fallen 5 = .ok (.bipush (-10), 2) := by decide +kernel
theorem dX9_fallen_7 : decode cX9_fallen 7 = .ok (.iload_n 1, 1) := by decide +kernel
theorem dX9_fallen_8 : decode cX9_fallen 8 = .ok (.isub, 1) := by decide +kernel
theorem dX9_fallen_9 : decode cX9_fallen 9 = .ok (.ireturn, 1) := by decide +kernel
def bk_X9_fallen_0 (l : Launch) (g : Gm) (G : Nat → CT) (P : PT) : CT := (oALd 0 (oILd 1 (oPutI [9] 7 (oPush (.int (-10)) (oILd 1 (oBin (fun x y => x - y) (oIRet P)))))))
def bk_X9_fallen (l : Launch) (g : Gm) (b : Nat) (G : Nat → CT) (P : PT) : CT := match b with
  | 0 => bk_X9_fallen_0 l g G P
  | _ => fun _ _ _ _ _ => False
def pc_X9_fallen (b : Nat) : Nat := match b with
  | 0 => 0
  | _ => 0
set_option maxRecDepth 100000 in
theorem sb_X9_fallen_0 {p : Program} {l : Launch} {e : Env} {s : State} {m : MethodId} {args : Array Value} {below : List Frame} {meth : Method} {c : Code} {g : Gm} {h0 : Hp} {P : PT} {mc ms : Nat} (X : Cx g p s m args meth c (Adom h0 s.heap.size) cX9_fallen RX9 2) (hr : meth.sig.returnType = some .int) (hn : meth.name = "fallen") : SX g p l e s m args below meth c d_X9_fallen 2 mc ms h0 P (bk_X9_fallen_0 l g (fun b => GX g p l e s m args below meth c d_X9_fallen 2 mc ms h0 P (pc_X9_fallen b)) P) 0 := (s_aload_n X dX9_fallen_0 rfl (s_iload_n X dX9_fallen_1 rfl (s_putI X dX9_fallen_2 (mcn (⟨_, _, _, _, tyX9, rfl, inU_X9, by decide, uw_171, rfl, tyX9_ok, nmX9, rfl, rfl⟩) (mnl)) (s_bipush X dX9_fallen_5 rfl (s_iload_n X dX9_fallen_7 rfl (s_isub X dX9_fallen_8 (s_iret X hr dX9_fallen_9)))))))
set_option maxRecDepth 100000 in
theorem vc_X9_fallen {l : Launch} {g : Gm} {a0 : Nat} {a1 : Int32} {h : Hp} {mc ms : Nat} {P : PT} (H : ∀ G : Nat → CT, (∀ (b : Nat) (h : Hp) (cb sb : Nat) (ls : LocS) (st : List Value), bk_X9_fallen l g b G P h cb sb ls st → G b h cb sb ls st) → G 0 h mc ms [some (.ref a0), some (.int a1)] []) : Run l g d_X9_fallen [.ref a0, .int a1] h mc ms P :=
  Run.of (d := d_X9_fallen) (by decide) (mcn rfl (mcn rfl (mnl))) (Nat.le_of_ble_eq_true rfl) (fun p e s m args below meth c X hr hn => H (fun b => GX g p l e s m args below meth c d_X9_fallen 2 mc ms h P (pc_X9_fallen b)) (fun b h1 cb sb ls st hb => match b, hb with
    | 0, hb => sb_X9_fallen_0 (p := p) (e := e) (below := below) X hr hn h1 cb sb ls st hb
    | _ + 1, hb => hb.elim))
theorem dX9_countOf_0 : decode cX9_countOf 0 = .ok (.aload_n 0, 1) := by decide +kernel
theorem dX9_countOf_1 : decode cX9_countOf 1 = .ok (.getfield 42, 3) := by decide +kernel
theorem dX9_countOf_4 : decode cX9_countOf 4 = .ok (.iload_n 2, 1) := by decide +kernel
theorem dX9_countOf_5 : decode cX9_countOf 5 = .ok (.invokevirtual 103, 3) := by decide +kernel
theorem dX9_countOf_8 : decode cX9_countOf 8 = .ok (.ifCond .eq 9, 3) := by decide +kernel
theorem dX9_countOf_11 : decode cX9_countOf 11 = .ok (.aload_n 1, 1) := by decide +kernel
theorem dX9_countOf_12 : decode cX9_countOf 12 = .ok (.iload_n 2, 1) := by decide +kernel
theorem dX9_countOf_13 : decode cX9_countOf 13 = .ok (.iaload, 1) := by decide +kernel
theorem dX9_countOf_14 : decode cX9_countOf 14 = .ok (.goto 5, 3) := by decide +kernel
theorem dX9_countOf_17 : decode cX9_countOf 17 = .ok (.bipush (-9), 2) := by decide +kernel
theorem dX9_countOf_19 : decode cX9_countOf 19 = .ok (.ireturn, 1) := by decide +kernel
def bk_X9_countOf_0 (l : Launch) (g : Gm) (G : Nat → CT) (P : PT) : CT := (oALd 0 (oGet [9] 8 (oILd 2 (oCallV l g [(2, d_X2_hasVillage)] 2 (oIf (fun x => x = 0) (oPush (.int (-9)) (oIRet P)) (oALd 1 (oILd 2 (oIAL g (oGo (oIRet P))))))))))
def bk_X9_countOf (l : Launch) (g : Gm) (b : Nat) (G : Nat → CT) (P : PT) : CT := match b with
  | 0 => bk_X9_countOf_0 l g G P
  | _ => fun _ _ _ _ _ => False
def pc_X9_countOf (b : Nat) : Nat := match b with
  | 0 => 0
  | _ => 0
set_option maxRecDepth 100000 in
theorem sb_X9_countOf_0 {p : Program} {l : Launch} {e : Env} {s : State} {m : MethodId} {args : Array Value} {below : List Frame} {meth : Method} {c : Code} {g : Gm} {h0 : Hp} {P : PT} {mc ms : Nat} (X : Cx g p s m args meth c (Adom h0 s.heap.size) cX9_countOf RX9 3) (hr : meth.sig.returnType = some .int) (hn : meth.name = "countOf") : SX g p l e s m args below meth c d_X9_countOf 3 mc ms h0 P (bk_X9_countOf_0 l g (fun b => GX g p l e s m args below meth c d_X9_countOf 3 mc ms h0 P (pc_X9_countOf b)) P) 0 := (s_aload_n X dX9_countOf_0 rfl (s_get X dX9_countOf_1 (mcn (⟨_, _, _, _, rfl, inU_X9, by decide, uw_172, rfl⟩) (mnl)) (s_iload_n X dX9_countOf_4 rfl (s_callV X dX9_countOf_5 (mv (vok_V X rfl uw_382 uw_383 uw_384 uw_3 ci_X2_hasVillage yok_X2_hasVillage ⟨Nat.le_of_ble_eq_true rfl, Nat.le_of_ble_eq_true rfl⟩) mv0) (s_if_eq X dX9_countOf_8 (by decide) (s_bipush X dX9_countOf_17 rfl (s_iret X hr dX9_countOf_19)) (s_aload_n X dX9_countOf_11 rfl (s_iload_n X dX9_countOf_12 rfl (s_iaload X dX9_countOf_13 (s_goto X dX9_countOf_14 (by decide) (s_iret X hr dX9_countOf_19))))))))))
set_option maxRecDepth 100000 in
theorem vc_X9_countOf {l : Launch} {g : Gm} {a0 : Nat} {a1 : Nat} {a2 : Int32} {h : Hp} {mc ms : Nat} {P : PT} (H : ∀ G : Nat → CT, (∀ (b : Nat) (h : Hp) (cb sb : Nat) (ls : LocS) (st : List Value), bk_X9_countOf l g b G P h cb sb ls st → G b h cb sb ls st) → G 0 h mc ms [some (.ref a0), some (.ref a1), some (.int a2)] []) : Run l g d_X9_countOf [.ref a0, .ref a1, .int a2] h mc ms P :=
  Run.of (d := d_X9_countOf) (by decide) (mcn rfl (mcn rfl (mcn rfl (mnl)))) (Nat.le_of_ble_eq_true rfl) (fun p e s m args below meth c X hr hn => H (fun b => GX g p l e s m args below meth c d_X9_countOf 3 mc ms h P (pc_X9_countOf b)) (fun b h1 cb sb ls st hb => match b, hb with
    | 0, hb => sb_X9_countOf_0 (p := p) (e := e) (below := below) X hr hn h1 cb sb ls st hb
    | _ + 1, hb => hb.elim))
theorem dX9_takeCut_0 : decode cX9_takeCut 0 = .ok (.aload_n 0, 1) := by decide +kernel
theorem dX9_takeCut_1 : decode cX9_takeCut 1 = .ok (.iconst 0, 1) := by decide +kernel
theorem dX9_takeCut_2 : decode cX9_takeCut 2 = .ok (.putfield 54, 3) := by decide +kernel
theorem dX9_takeCut_5 : decode cX9_takeCut 5 = .ok (.aload_n 0, 1) := by decide +kernel
theorem dX9_takeCut_6 : decode cX9_takeCut 6 = .ok (.getfield 42, 3) := by decide +kernel
theorem dX9_takeCut_9 : decode cX9_takeCut 9 = .ok (.getfield 100, 3) := by decide +kernel
theorem dX9_takeCut_12 : decode cX9_takeCut 12 = .ok (.ifCond .ne 6, 3) := by decide +kernel
theorem dX9_takeCut_15 : decode cX9_takeCut 15 = .ok (.bipush (-3), 2) := by decide +kernel
theorem dX9_takeCut_17 : decode cX9_takeCut 17 = .ok (.ireturn, 1) := by decide +kernel
theorem dX9_takeCut_18 : decode cX9_takeCut 18 = .ok (.iload_n 1, 1) := by decide +kernel
theorem dX9_takeCut_19 : decode cX9_takeCut 19 = .ok (.invokestatic 58, 3) := by decide +kernel
theorem dX9_takeCut_22 : decode cX9_takeCut 22 = .ok (.ifCond .ne 5, 3) := by decide +kernel
theorem dX9_takeCut_25 : decode cX9_takeCut 25 = .ok (.iconst (-1), 1) := by decide +kernel
theorem dX9_takeCut_26 : decode cX9_takeCut 26 = .ok (.ireturn, 1) := by decide +kernel
theorem dX9_takeCut_27 : decode cX9_takeCut 27 = .ok (.iload_n 2, 1) := by decide +kernel
theorem dX9_takeCut_28 : decode cX9_takeCut 28 = .ok (.invokestatic 62, 3) := by decide +kernel
theorem dX9_takeCut_31 : decode cX9_takeCut 31 = .ok (.ifCond .eq 8, 3) := by decide +kernel
theorem dX9_takeCut_34 : decode cX9_takeCut 34 = .ok (.iload 4, 2) := by decide +kernel
theorem dX9_takeCut_36 : decode cX9_takeCut 36 = .ok (.ifCond .ne 6, 3) := by decide +kernel
theorem dX9_takeCut_39 : decode cX9_takeCut 39 = .ok (.bipush (-2), 2) := by decide +kernel
theorem dX9_takeCut_41 : decode cX9_takeCut 41 = .ok (.ireturn, 1) := by decide +kernel
theorem dX9_takeCut_42 : decode cX9_takeCut 42 = .ok (.aload_n 0, 1) := by decide +kernel
theorem dX9_takeCut_43 : decode cX9_takeCut 43 = .ok (.getfield 13, 3) := by decide +kernel
theorem dX9_takeCut_46 : decode cX9_takeCut 46 = .ok (.iload_n 1, 1) := by decide +kernel
theorem dX9_takeCut_47 : decode cX9_takeCut 47 = .ok (.aaload, 1) := by decide +kernel
theorem dX9_takeCut_48 : decode cX9_takeCut 48 = .ok (.iload_n 2, 1) := by decide +kernel
theorem dX9_takeCut_49 : decode cX9_takeCut 49 = .ok (.iload_n 3, 1) := by decide +kernel
theorem dX9_takeCut_50 : decode cX9_takeCut 50 = .ok (.aload_n 0, 1) := by decide +kernel
theorem dX9_takeCut_51 : decode cX9_takeCut 51 = .ok (.getfield 42, 3) := by decide +kernel
theorem dX9_takeCut_54 : decode cX9_takeCut 54 = .ok (.getfield 100, 3) := by decide +kernel
theorem dX9_takeCut_57 : decode cX9_takeCut 57 = .ok (.invokevirtual 65, 3) := by decide +kernel
theorem dX9_takeCut_60 : decode cX9_takeCut 60 = .ok (.istore 5, 2) := by decide +kernel
theorem dX9_takeCut_62 : decode cX9_takeCut 62 = .ok (.iload 5, 2) := by decide +kernel
theorem dX9_takeCut_64 : decode cX9_takeCut 64 = .ok (.ifCond .eq 10, 3) := by decide +kernel
theorem dX9_takeCut_67 : decode cX9_takeCut 67 = .ok (.aload_n 0, 1) := by decide +kernel
theorem dX9_takeCut_68 : decode cX9_takeCut 68 = .ok (.iload 5, 2) := by decide +kernel
theorem dX9_takeCut_70 : decode cX9_takeCut 70 = .ok (.invokevirtual 69, 3) := by decide +kernel
theorem dX9_takeCut_73 : decode cX9_takeCut 73 = .ok (.ireturn, 1) := by decide +kernel
theorem dX9_takeCut_74 : decode cX9_takeCut 74 = .ok (.iconst 0, 1) := by decide +kernel
theorem dX9_takeCut_75 : decode cX9_takeCut 75 = .ok (.istore 6, 2) := by decide +kernel
theorem dX9_takeCut_77 : decode cX9_takeCut 77 = .ok (.iload 6, 2) := by decide +kernel
theorem dX9_takeCut_79 : decode cX9_takeCut 79 = .ok (.aload_n 0, 1) := by decide +kernel
theorem dX9_takeCut_80 : decode cX9_takeCut 80 = .ok (.getfield 42, 3) := by decide +kernel
theorem dX9_takeCut_83 : decode cX9_takeCut 83 = .ok (.getfield 100, 3) := by decide +kernel
theorem dX9_takeCut_86 : decode cX9_takeCut 86 = .ok (.if_icmp .ge 60, 3) := by decide +kernel
theorem dX9_takeCut_89 : decode cX9_takeCut 89 = .ok (.aload_n 0, 1) := by decide +kernel
theorem dX9_takeCut_90 : decode cX9_takeCut 90 = .ok (.getfield 13, 3) := by decide +kernel
theorem dX9_takeCut_93 : decode cX9_takeCut 93 = .ok (.iload_n 1, 1) := by decide +kernel
theorem dX9_takeCut_94 : decode cX9_takeCut 94 = .ok (.aaload, 1) := by decide +kernel
theorem dX9_takeCut_95 : decode cX9_takeCut 95 = .ok (.getfield 192, 3) := by decide +kernel
theorem dX9_takeCut_98 : decode cX9_takeCut 98 = .ok (.iload_n 3, 1) := by decide +kernel
theorem dX9_takeCut_99 : decode cX9_takeCut 99 = .ok (.iload 6, 2) := by decide +kernel
theorem dX9_takeCut_101 : decode cX9_takeCut 101 = .ok (.iadd, 1) := by decide +kernel
theorem dX9_takeCut_102 : decode cX9_takeCut 102 = .ok (.iaload, 1) := by decide +kernel
theorem dX9_takeCut_103 : decode cX9_takeCut 103 = .ok (.istore 7, 2) := by decide +kernel
theorem dX9_takeCut_105 : decode cX9_takeCut 105 = .ok (.iload 7, 2) := by decide +kernel
theorem dX9_takeCut_107 : decode cX9_takeCut 107 = .ok (.ifCond .lt 21, 3) := by decide +kernel
theorem dX9_takeCut_110 : decode cX9_takeCut 110 = .ok (.iload 7, 2) := by decide +kernel
theorem dX9_takeCut_112 : decode cX9_takeCut 112 = .ok (.aload_n 0, 1) := by decide +kernel
theorem dX9_takeCut_113 : decode cX9_takeCut 113 = .ok (.getfield 42, 3) := by decide +kernel
theorem dX9_takeCut_116 : decode cX9_takeCut 116 = .ok (.getfield 106, 3) := by decide +kernel
theorem dX9_takeCut_119 : decode cX9_takeCut 119 = .ok (.iload 6, 2) := by decide +kernel
theorem dX9_takeCut_121 : decode cX9_takeCut 121 = .ok (.aaload, 1) := by decide +kernel
theorem dX9_takeCut_122 : decode cX9_takeCut 122 = .ok (.getfield 118, 3) := by decide +kernel
theorem dX9_takeCut_125 : decode cX9_takeCut 125 = .ok (.if_icmp .le 6, 3) := by decide +kernel
theorem dX9_takeCut_128 : decode cX9_takeCut 128 = .ok (.bipush (-2), 2) := by decide +kernel
theorem dX9_takeCut_130 : decode cX9_takeCut 130 = .ok (.ireturn, 1) := by decide +kernel
theorem dX9_takeCut_131 : decode cX9_takeCut 131 = .ok (.aload_n 0, 1) := by decide +kernel
theorem dX9_takeCut_132 : decode cX9_takeCut 132 = .ok (.getfield 24, 3) := by decide +kernel
theorem dX9_takeCut_135 : decode cX9_takeCut 135 = .ok (.iload 6, 2) := by decide +kernel
theorem dX9_takeCut_137 : decode cX9_takeCut 137 = .ok (.iload 7, 2) := by decide +kernel
theorem dX9_takeCut_139 : decode cX9_takeCut 139 = .ok (.iastore, 1) := by decide +kernel
theorem dX9_takeCut_140 : decode cX9_takeCut 140 = .ok (.iinc 6 1, 3) := by decide +kernel
theorem dX9_takeCut_143 : decode cX9_takeCut 143 = .ok (.goto (-66), 3) := by decide +kernel
theorem dX9_takeCut_146 : decode cX9_takeCut 146 = .ok (.iconst 0, 1) := by decide +kernel
theorem dX9_takeCut_147 : decode cX9_takeCut 147 = .ok (.ireturn, 1) := by decide +kernel
def bk_X9_takeCut_0 (l : Launch) (g : Gm) (G : Nat → CT) (P : PT) : CT := (oALd 0 (oPush (.int (0)) (oPutI [9] 7 (oALd 0 (oGet [9] 8 (oGet [2] 4 (oIf (fun x => x = 0) (oPush (.int (-3)) (oIRet P)) (oILd 1 (oCall l g d_X9_isSheet 1 (oIf (fun x => x = 0) (oPush (.int (-1)) (oIRet P)) (oILd 2 (oCall l g d_X9_isLane 1 (oIf (fun x => x = 0) (oPush (.int (-2)) (oIRet P)) (oILd 4 (oIf (fun x => x = 0) (oPush (.int (-2)) (oIRet P)) (oALd 0 (oGet [9] 0 (oILd 1 (oRAL g 5 (oILd 2 (oILd 3 (oALd 0 (oGet [9] 8 (oGet [2] 4 (oCallV l g [(5, d_X5_faultOfTaking)] 4 (oISt 5 (oILd 5 (oIf (fun x => x = 0) (oPush (.int (0)) (oISt 6 (G 1))) (oALd 0 (oILd 5 (oCallV l g [(9, d_X9_fallen)] 2 (oIRet P))))))))))))))))))))))))))))))))
def bk_X9_takeCut_1 (l : Launch) (g : Gm) (G : Nat → CT) (P : PT) : CT := (oILd 6 (oALd 0 (oGet [9] 8 (oGet [2] 4 (oCmp (fun x y => y ≤ x) (oPush (.int (0)) (oIRet P)) (oALd 0 (oGet [9] 0 (oILd 1 (oRAL g 5 (oGet [5] 0 (oILd 3 (oILd 6 (oBin (fun x y => x + y) (oIAL g (oISt 7 (oILd 7 (oIf (fun x => x < 0) (oPush (.int (-2)) (oIRet P)) (oILd 7 (oALd 0 (oGet [9] 8 (oGet [2] 0 (oILd 6 (oRAL g 3 (oGet [4, 0, 1] 5 (oCmp (fun x y => x ≤ y) (oALd 0 (oGet [9] 2 (oILd 6 (oILd 7 (oIAS g (oInc 6 (1) (oGo (G 1)))))))) (oPush (.int (-2)) (oIRet P)))))))))))))))))))))))))))
def bk_X9_takeCut (l : Launch) (g : Gm) (b : Nat) (G : Nat → CT) (P : PT) : CT := match b with
  | 0 => bk_X9_takeCut_0 l g G P
  | 1 => bk_X9_takeCut_1 l g G P
  | _ => fun _ _ _ _ _ => False
def pc_X9_takeCut (b : Nat) : Nat := match b with
  | 0 => 0
  | 1 => 77
  | _ => 0
set_option maxRecDepth 100000 in
theorem sb_X9_takeCut_0 {p : Program} {l : Launch} {e : Env} {s : State} {m : MethodId} {args : Array Value} {below : List Frame} {meth : Method} {c : Code} {g : Gm} {h0 : Hp} {P : PT} {mc ms : Nat} (X : Cx g p s m args meth c (Adom h0 s.heap.size) cX9_takeCut RX9 8) (hr : meth.sig.returnType = some .int) (hn : meth.name = "takeCut") : SX g p l e s m args below meth c d_X9_takeCut 8 mc ms h0 P (bk_X9_takeCut_0 l g (fun b => GX g p l e s m args below meth c d_X9_takeCut 8 mc ms h0 P (pc_X9_takeCut b)) P) 0 := (s_aload_n X dX9_takeCut_0 rfl (s_iconst X dX9_takeCut_1 rfl (s_putI X dX9_takeCut_2 (mcn (⟨_, _, _, _, tyX9, rfl, inU_X9, by decide, uw_171, rfl, tyX9_ok, nmX9, rfl, rfl⟩) (mnl)) (s_aload_n X dX9_takeCut_5 rfl (s_get X dX9_takeCut_6 (mcn (⟨_, _, _, _, rfl, inU_X9, by decide, uw_172, rfl⟩) (mnl)) (s_get X dX9_takeCut_9 (mcn (⟨_, _, _, _, rfl, inU_X2, by decide, uw_89, rfl⟩) (mnl)) (s_if_ne X dX9_takeCut_12 (by decide) (s_iload_n X dX9_takeCut_18 rfl (s_callS X dX9_takeCut_19 uw_202 uw_203 uw_1 ci_X9_isSheet yok_X9_isSheet ⟨Nat.le_of_ble_eq_true rfl, Nat.le_of_ble_eq_true rfl⟩ (s_if_ne X dX9_takeCut_22 (by decide) (s_iload_n X dX9_takeCut_27 rfl (s_callS X dX9_takeCut_28 uw_205 uw_206 uw_1 ci_X9_isLane yok_X9_isLane ⟨Nat.le_of_ble_eq_true rfl, Nat.le_of_ble_eq_true rfl⟩ (s_if_eq X dX9_takeCut_31 (by decide) (s_bipush X dX9_takeCut_39 rfl (s_iret X hr dX9_takeCut_41)) (s_iload X dX9_takeCut_34 (s_if_ne X dX9_takeCut_36 (by decide) (s_aload_n X dX9_takeCut_42 rfl (s_get X dX9_takeCut_43 (mcn (⟨_, _, _, _, rfl, inU_X9, by decide, uw_164, rfl⟩) (mnl)) (s_iload_n X dX9_takeCut_46 rfl (s_aaload X (t := 5) (fun _ => rfl) rfl dX9_takeCut_47 (s_iload_n X dX9_takeCut_48 rfl (s_iload_n X dX9_takeCut_49 rfl (s_aload_n X dX9_takeCut_50 rfl (s_get X dX9_takeCut_51 (mcn (⟨_, _, _, _, rfl, inU_X9, by decide, uw_172, rfl⟩) (mnl)) (s_get X dX9_takeCut_54 (mcn (⟨_, _, _, _, rfl, inU_X2, by decide, uw_89, rfl⟩) (mnl)) (s_callV X dX9_takeCut_57 (mv (vok_V X rfl uw_208 uw_209 uw_210 uw_6 ci_X5_faultOfTaking yok_X5_faultOfTaking ⟨Nat.le_of_ble_eq_true rfl, Nat.le_of_ble_eq_true rfl⟩) mv0) (s_istore X dX9_takeCut_60 (by decide) (s_iload X dX9_takeCut_62 (s_if_eq X dX9_takeCut_64 (by decide) (s_iconst X dX9_takeCut_74 rfl (s_istore X dX9_takeCut_75 (by decide) Sd.rf)) (s_aload_n X dX9_takeCut_67 rfl (s_iload X dX9_takeCut_68 (s_callV X dX9_takeCut_70 (mv (vok_V X rfl uw_216 uw_218 (UW_pr 0 rfl rfl) uw_1 ci_X9_fallen yok_X9_fallen ⟨Nat.le_of_ble_eq_true rfl, Nat.le_of_ble_eq_true rfl⟩) mv0) (s_iret X hr dX9_takeCut_73))))))))))))))))) (s_bipush X dX9_takeCut_39 rfl (s_iret X hr dX9_takeCut_41))))))) (s_iconst X dX9_takeCut_25 rfl (s_iret X hr dX9_takeCut_26))))) (s_bipush X dX9_takeCut_15 rfl (s_iret X hr dX9_takeCut_17)))))))))
set_option maxRecDepth 100000 in
theorem sb_X9_takeCut_1 {p : Program} {l : Launch} {e : Env} {s : State} {m : MethodId} {args : Array Value} {below : List Frame} {meth : Method} {c : Code} {g : Gm} {h0 : Hp} {P : PT} {mc ms : Nat} (X : Cx g p s m args meth c (Adom h0 s.heap.size) cX9_takeCut RX9 8) (hr : meth.sig.returnType = some .int) (hn : meth.name = "takeCut") : SX g p l e s m args below meth c d_X9_takeCut 8 mc ms h0 P (bk_X9_takeCut_1 l g (fun b => GX g p l e s m args below meth c d_X9_takeCut 8 mc ms h0 P (pc_X9_takeCut b)) P) 77 := (s_iload X dX9_takeCut_77 (s_aload_n X dX9_takeCut_79 rfl (s_get X dX9_takeCut_80 (mcn (⟨_, _, _, _, rfl, inU_X9, by decide, uw_172, rfl⟩) (mnl)) (s_get X dX9_takeCut_83 (mcn (⟨_, _, _, _, rfl, inU_X2, by decide, uw_89, rfl⟩) (mnl)) (s_icmp_ge X dX9_takeCut_86 (by decide) (s_iconst X dX9_takeCut_146 rfl (s_iret X hr dX9_takeCut_147)) (s_aload_n X dX9_takeCut_89 rfl (s_get X dX9_takeCut_90 (mcn (⟨_, _, _, _, rfl, inU_X9, by decide, uw_164, rfl⟩) (mnl)) (s_iload_n X dX9_takeCut_93 rfl (s_aaload X (t := 5) (fun _ => rfl) rfl dX9_takeCut_94 (s_get X dX9_takeCut_95 (mcn (⟨_, _, _, _, rfl, inU_X5, by decide, uw_149, rfl⟩) (mnl)) (s_iload_n X dX9_takeCut_98 rfl (s_iload X dX9_takeCut_99 (s_iadd X dX9_takeCut_101 (s_iaload X dX9_takeCut_102 (s_istore X dX9_takeCut_103 (by decide) (s_iload X dX9_takeCut_105 (s_if_lt X dX9_takeCut_107 (by decide) (s_bipush X dX9_takeCut_128 rfl (s_iret X hr dX9_takeCut_130)) (s_iload X dX9_takeCut_110 (s_aload_n X dX9_takeCut_112 rfl (s_get X dX9_takeCut_113 (mcn (⟨_, _, _, _, rfl, inU_X9, by decide, uw_172, rfl⟩) (mnl)) (s_get X dX9_takeCut_116 (mcn (⟨_, _, _, _, rfl, inU_X2, by decide, uw_80, rfl⟩) (mnl)) (s_iload X dX9_takeCut_119 (s_aaload X (t := 3) (fun _ => rfl) rfl dX9_takeCut_121 (s_get X dX9_takeCut_122 (mcn (⟨_, _, _, _, rfl, inU_X4, by decide, uw_287, rfl⟩) (mcn (⟨_, _, _, _, rfl, inU_X0, by decide, uw_287, rfl⟩) (mcn (⟨_, _, _, _, rfl, inU_X1, by decide, uw_287, rfl⟩) (mnl)))) (s_icmp_le X dX9_takeCut_125 (by decide) (s_aload_n X dX9_takeCut_131 rfl (s_get X dX9_takeCut_132 (mcn (⟨_, _, _, _, rfl, inU_X9, by decide, uw_166, rfl⟩) (mnl)) (s_iload X dX9_takeCut_135 (s_iload X dX9_takeCut_137 (s_iastore X dX9_takeCut_139 (s_iinc X dX9_takeCut_140 rfl (by decide) (s_goto X dX9_takeCut_143 (by decide) Sd.rf))))))) (s_bipush X dX9_takeCut_128 rfl (s_iret X hr dX9_takeCut_130)))))))))))))))))))))))))))
set_option maxRecDepth 100000 in
theorem vc_X9_takeCut {l : Launch} {g : Gm} {a0 : Nat} {a1 : Int32} {a2 : Int32} {a3 : Int32} {a4 : Int32} {h : Hp} {mc ms : Nat} {P : PT} (H : ∀ G : Nat → CT, (∀ (b : Nat) (h : Hp) (cb sb : Nat) (ls : LocS) (st : List Value), bk_X9_takeCut l g b G P h cb sb ls st → G b h cb sb ls st) → G 0 h mc ms [some (.ref a0), some (.int a1), some (.int a2), some (.int a3), some (.int a4), none, none, none] []) : Run l g d_X9_takeCut [.ref a0, .int a1, .int a2, .int a3, .int a4] h mc ms P :=
  Run.of (d := d_X9_takeCut) (by decide) (mcn rfl (mcn rfl (mcn rfl (mcn rfl (mcn rfl (mnl)))))) (Nat.le_of_ble_eq_true rfl) (fun p e s m args below meth c X hr hn => H (fun b => GX g p l e s m args below meth c d_X9_takeCut 8 mc ms h P (pc_X9_takeCut b)) (fun b h1 cb sb ls st hb => match b, hb with
    | 0, hb => sb_X9_takeCut_0 (p := p) (e := e) (below := below) X hr hn h1 cb sb ls st hb
    | 1, hb => sb_X9_takeCut_1 (p := p) (e := e) (below := below) X hr hn h1 cb sb ls st hb
    | _ + 2, hb => hb.elim))
theorem dX9_endOfTale_0 : decode cX9_endOfTale 0 = .ok (.aload_n 0, 1) := by decide +kernel
theorem dX9_endOfTale_1 : decode cX9_endOfTale 1 = .ok (.getfield 42, 3) := by decide +kernel
theorem dX9_endOfTale_4 : decode cX9_endOfTale 4 = .ok (.getfield 110, 3) := by decide +kernel
theorem dX9_endOfTale_7 : decode cX9_endOfTale 7 = .ok (.iconst 0, 1) := by decide +kernel
theorem dX9_endOfTale_8 : decode cX9_endOfTale 8 = .ok (.aload_n 0, 1) := by decide +kernel
theorem dX9_endOfTale_9 : decode cX9_endOfTale 9 = .ok (.getfield 28, 3) := by decide +kernel
theorem dX9_endOfTale_12 : decode cX9_endOfTale 12 = .ok (.iconst 0, 1) := by decide +kernel
theorem dX9_endOfTale_13 : decode cX9_endOfTale 13 = .ok (.iconst 4, 1) := by decide +kernel
theorem dX9_endOfTale_14 : decode cX9_endOfTale 14 = .ok (.invokestatic 225, 3) := by decide +kernel
theorem dX9_endOfTale_17 : decode cX9_endOfTale 17 = .ok (.aload_n 0, 1) := by decide +kernel
theorem dX9_endOfTale_18 : decode cX9_endOfTale 18 = .ok (.getfield 42, 3) := by decide +kernel
theorem dX9_endOfTale_21 : decode cX9_endOfTale 21 = .ok (.aload_n 0, 1) := by decide +kernel
theorem dX9_endOfTale_22 : decode cX9_endOfTale 22 = .ok (.getfield 28, 3) := by decide +kernel
theorem dX9_endOfTale_25 : decode cX9_endOfTale 25 = .ok (.invokevirtual 175, 3) := by decide +kernel
theorem dX9_endOfTale_28 : decode cX9_endOfTale 28 = .ok (.istore 5, 2) := by decide +kernel
theorem dX9_endOfTale_30 : decode cX9_endOfTale 30 = .ok (.iconst 0, 1) := by decide +kernel
theorem dX9_endOfTale_31 : decode cX9_endOfTale 31 = .ok (.istore 6, 2) := by decide +kernel
theorem dX9_endOfTale_33 : decode cX9_endOfTale 33 = .ok (.iload 6, 2) := by decide +kernel
theorem dX9_endOfTale_35 : decode cX9_endOfTale 35 = .ok (.iload_n 3, 1) := by decide +kernel
theorem dX9_endOfTale_36 : decode cX9_endOfTale 36 = .ok (.if_icmp .ge 82, 3) := by decide +kernel
theorem dX9_endOfTale_39 : decode cX9_endOfTale 39 = .ok (.aload_n 1, 1) := by decide +kernel
theorem dX9_endOfTale_40 : decode cX9_endOfTale 40 = .ok (.getfield 192, 3) := by decide +kernel
theorem dX9_endOfTale_43 : decode cX9_endOfTale 43 = .ok (.iload_n 2, 1) := by decide +kernel
theorem dX9_endOfTale_44 : decode cX9_endOfTale 44 = .ok (.iload 6, 2) := by decide +kernel
theorem dX9_endOfTale_46 : decode cX9_endOfTale 46 = .ok (.iadd, 1) := by decide +kernel
theorem dX9_endOfTale_47 : decode cX9_endOfTale 47 = .ok (.iaload, 1) := by decide +kernel
theorem dX9_endOfTale_48 : decode cX9_endOfTale 48 = .ok (.istore 7, 2) := by decide +kernel
theorem dX9_endOfTale_50 : decode cX9_endOfTale 50 = .ok (.aload_n 0, 1) := by decide +kernel
theorem dX9_endOfTale_51 : decode cX9_endOfTale 51 = .ok (.getfield 42, 3) := by decide +kernel
theorem dX9_endOfTale_54 : decode cX9_endOfTale 54 = .ok (.aload_n 0, 1) := by decide +kernel
theorem dX9_endOfTale_55 : decode cX9_endOfTale 55 = .ok (.getfield 28, 3) := by decide +kernel
theorem dX9_endOfTale_58 : decode cX9_endOfTale 58 = .ok (.iload 7, 2) := by decide +kernel
theorem dX9_endOfTale_60 : decode cX9_endOfTale 60 = .ok (.invokevirtual 127, 3) := by decide +kernel
theorem dX9_endOfTale_63 : decode cX9_endOfTale 63 = .ok (.ifCond .ne 20, 3) := by decide +kernel
theorem dX9_endOfTale_66 : decode cX9_endOfTale 66 = .ok (.iload 4, 2) := by decide +kernel
theorem dX9_endOfTale_68 : decode cX9_endOfTale 68 = .ok (.iconst 1, 1) := by decide +kernel
theorem dX9_endOfTale_69 : decode cX9_endOfTale 69 = .ok (.if_icmp .ne 8, 3) := by decide +kernel
theorem dX9_endOfTale_72 : decode cX9_endOfTale 72 = .ok (.iload 6, 2) := by decide +kernel
theorem dX9_endOfTale_74 : decode cX9_endOfTale 74 = .ok (.goto 8, 3) := by decide +kernel
theorem dX9_endOfTale_77 : decode cX9_endOfTale 77 = .ok (.bipush (-100), 2) := by decide +kernel
theorem dX9_endOfTale_79 : decode cX9_endOfTale 79 = .ok (.iload 6, 2) := by decide +kernel
theorem dX9_endOfTale_81 : decode cX9_endOfTale 81 = .ok (.isub, 1) := by decide +kernel
theorem dX9_endOfTale_82 : decode cX9_endOfTale 82 = .ok (.ireturn, 1) := by decide +kernel
theorem dX9_endOfTale_83 : decode cX9_endOfTale 83 = .ok (.aload_n 0, 1) := by decide +kernel
theorem dX9_endOfTale_84 : decode cX9_endOfTale 84 = .ok (.getfield 28, 3) := by decide +kernel
theorem dX9_endOfTale_87 : decode cX9_endOfTale 87 = .ok (.iload 7, 2) := by decide +kernel
theorem dX9_endOfTale_89 : decode cX9_endOfTale 89 = .ok (.dup2, 1) := by decide +kernel
theorem dX9_endOfTale_90 : decode cX9_endOfTale 90 = .ok (.iaload, 1) := by decide +kernel
theorem dX9_endOfTale_91 : decode cX9_endOfTale 91 = .ok (.iconst 1, 1) := by decide +kernel
theorem dX9_endOfTale_92 : decode cX9_endOfTale 92 = .ok (.iadd, 1) := by decide +kernel
theorem dX9_endOfTale_93 : decode cX9_endOfTale 93 = .ok (.iastore, 1) := by decide +kernel
theorem dX9_endOfTale_94 : decode cX9_endOfTale 94 = .ok (.iload 5, 2) := by decide +kernel
theorem dX9_endOfTale_96 : decode cX9_endOfTale 96 = .ok (.aload_n 0, 1) := by decide +kernel
theorem dX9_endOfTale_97 : decode cX9_endOfTale 97 = .ok (.getfield 42, 3) := by decide +kernel
theorem dX9_endOfTale_100 : decode cX9_endOfTale 100 = .ok (.aload_n 0, 1) := by decide +kernel
theorem dX9_endOfTale_101 : decode cX9_endOfTale 101 = .ok (.getfield 28, 3) := by decide +kernel
theorem dX9_endOfTale_104 : decode cX9_endOfTale 104 = .ok (.invokevirtual 175, 3) := by decide +kernel
theorem dX9_endOfTale_107 : decode cX9_endOfTale 107 = .ok (.invokestatic 275, 3) := by decide +kernel
theorem dX9_endOfTale_110 : decode cX9_endOfTale 110 = .ok (.istore 5, 2) := by decide +kernel
theorem dX9_endOfTale_112 : decode cX9_endOfTale 112 = .ok (.iinc 6 1, 3) := by decide +kernel
theorem dX9_endOfTale_115 : decode cX9_endOfTale 115 = .ok (.goto (-82), 3) := by decide +kernel
theorem dX9_endOfTale_118 : decode cX9_endOfTale 118 = .ok (.iload 4, 2) := by decide +kernel
theorem dX9_endOfTale_120 : decode cX9_endOfTale 120 = .ok (.tableswitch 62 0 3 #[32, 44, 47, 59], 32) := by decide +kernel
theorem dX9_endOfTale_152 : decode cX9_endOfTale 152 = .ok (.aload_n 0, 1) := by decide +kernel
theorem dX9_endOfTale_153 : decode cX9_endOfTale 153 = .ok (.getfield 42, 3) := by decide +kernel
theorem dX9_endOfTale_156 : decode cX9_endOfTale 156 = .ok (.aload_n 0, 1) := by decide +kernel
theorem dX9_endOfTale_157 : decode cX9_endOfTale 157 = .ok (.getfield 28, 3) := by decide +kernel
theorem dX9_endOfTale_160 : decode cX9_endOfTale 160 = .ok (.invokevirtual 175, 3) := by decide +kernel
theorem dX9_endOfTale_163 : decode cX9_endOfTale 163 = .ok (.ireturn, 1) := by decide +kernel
theorem dX9_endOfTale_164 : decode cX9_endOfTale 164 = .ok (.bipush (-9), 2) := by decide +kernel
theorem dX9_endOfTale_166 : decode cX9_endOfTale 166 = .ok (.ireturn, 1) := by decide +kernel
theorem dX9_endOfTale_167 : decode cX9_endOfTale 167 = .ok (.aload_n 0, 1) := by decide +kernel
theorem dX9_endOfTale_168 : decode cX9_endOfTale 168 = .ok (.getfield 42, 3) := by decide +kernel
theorem dX9_endOfTale_171 : decode cX9_endOfTale 171 = .ok (.aload_n 0, 1) := by decide +kernel
theorem dX9_endOfTale_172 : decode cX9_endOfTale 172 = .ok (.getfield 28, 3) := by decide +kernel
theorem dX9_endOfTale_175 : decode cX9_endOfTale 175 = .ok (.invokevirtual 178, 3) := by decide +kernel
theorem dX9_endOfTale_178 : decode cX9_endOfTale 178 = .ok (.ireturn, 1) := by decide +kernel
theorem dX9_endOfTale_179 : decode cX9_endOfTale 179 = .ok (.iload 5, 2) := by decide +kernel
theorem dX9_endOfTale_181 : decode cX9_endOfTale 181 = .ok (.ireturn, 1) := by decide +kernel
theorem dX9_endOfTale_182 : decode cX9_endOfTale 182 = .ok (.aload_n 0, 1) := by decide +kernel
theorem dX9_endOfTale_183 : decode cX9_endOfTale 183 = .ok (.aload_n 0, 1) := by decide +kernel
theorem dX9_endOfTale_184 : decode cX9_endOfTale 184 = .ok (.getfield 28, 3) := by decide +kernel
theorem dX9_endOfTale_187 : decode cX9_endOfTale 187 = .ok (.iload 4, 2) := by decide +kernel
theorem dX9_endOfTale_189 : decode cX9_endOfTale 189 = .ok (.bipush 10, 2) := by decide +kernel
theorem dX9_endOfTale_191 : decode cX9_endOfTale 191 = .ok (.isub, 1) := by decide +kernel
theorem dX9_endOfTale_192 : decode cX9_endOfTale 192 = .ok (.invokevirtual 185, 3) := by decide +kernel
theorem dX9_endOfTale_195 : decode cX9_endOfTale 195 = .ok (.ireturn, 1) := by decide +kernel
def bk_X9_endOfTale_0 (l : Launch) (g : Gm) (G : Nat → CT) (P : PT) : CT := (oALd 0 (oGet [9] 8 (oGet [2] 3 (oPush (.int (0)) (oALd 0 (oGet [9] 3 (oPush (.int (0)) (oPush (.int (4)) (oCopy g (oALd 0 (oGet [9] 8 (oALd 0 (oGet [9] 3 (oCallV l g [(2, d_X2_sumOf)] 2 (oISt 5 (oPush (.int (0)) (oISt 6 (G 1))))))))))))))))))
def bk_X9_endOfTale_1 (l : Launch) (g : Gm) (G : Nat → CT) (P : PT) : CT := (oILd 6 (oILd 3 (oCmp (fun x y => y ≤ x) (oILd 4 (oSw [(0, (oALd 0 (oGet [9] 8 (oALd 0 (oGet [9] 3 (oCallV l g [(2, d_X2_sumOf)] 2 (oIRet P))))))), (1, (oPush (.int (-9)) (oIRet P))), (2, (oALd 0 (oGet [9] 8 (oALd 0 (oGet [9] 3 (oCallV l g [(2, d_X2_underWay)] 2 (oIRet P))))))), (3, (oILd 5 (oIRet P)))] (oALd 0 (oALd 0 (oGet [9] 3 (oILd 4 (oPush (.int (10)) (oBin (fun x y => x - y) (oCallV l g [(9, d_X9_countOf)] 3 (oIRet P)))))))))) (oALd 1 (oGet [5] 0 (oILd 2 (oILd 6 (oBin (fun x y => x + y) (oIAL g (oISt 7 (oALd 0 (oGet [9] 8 (oALd 0 (oGet [9] 3 (oILd 7 (oCallV l g [(2, d_X2_goesOn)] 3 (oIf (fun x => x = 0) (oILd 4 (oPush (.int (1)) (oCmp (fun x y => x = y) (oILd 6 (oGo (oIRet P))) (oPush (.int (-100)) (oILd 6 (oBin (fun x y => x - y) (oIRet P))))))) (oALd 0 (oGet [9] 3 (oILd 7 (oDup2 (oIAL g (oPush (.int (1)) (oBin (fun x y => x + y) (oIAS g (oILd 5 (oALd 0 (oGet [9] 8 (oALd 0 (oGet [9] 3 (oCallV l g [(2, d_X2_sumOf)] 2 (oMax (oISt 5 (oInc 6 (1) (oGo (G 1))))))))))))))))))))))))))))))))))))
def bk_X9_endOfTale (l : Launch) (g : Gm) (b : Nat) (G : Nat → CT) (P : PT) : CT := match b with
  | 0 => bk_X9_endOfTale_0 l g G P
  | 1 => bk_X9_endOfTale_1 l g G P
  | _ => fun _ _ _ _ _ => False
def pc_X9_endOfTale (b : Nat) : Nat := match b with
  | 0 => 0
  | 1 => 33
  | _ => 0
set_option maxRecDepth 100000 in
theorem sb_X9_endOfTale_0 {p : Program} {l : Launch} {e : Env} {s : State} {m : MethodId} {args : Array Value} {below : List Frame} {meth : Method} {c : Code} {g : Gm} {h0 : Hp} {P : PT} {mc ms : Nat} (X : Cx g p s m args meth c (Adom h0 s.heap.size) cX9_endOfTale RX9 8) (hr : meth.sig.returnType = some .int) (hn : meth.name = "endOfTale") : SX g p l e s m args below meth c d_X9_endOfTale 8 mc ms h0 P (bk_X9_endOfTale_0 l g (fun b => GX g p l e s m args below meth c d_X9_endOfTale 8 mc ms h0 P (pc_X9_endOfTale b)) P) 0 := (s_aload_n X dX9_endOfTale_0 rfl (s_get X dX9_endOfTale_1 (mcn (⟨_, _, _, _, rfl, inU_X9, by decide, uw_172, rfl⟩) (mnl)) (s_get X dX9_endOfTale_4 (mcn (⟨_, _, _, _, rfl, inU_X2, by decide, uw_86, rfl⟩) (mnl)) (s_iconst X dX9_endOfTale_7 rfl (s_aload_n X dX9_endOfTale_8 rfl (s_get X dX9_endOfTale_9 (mcn (⟨_, _, _, _, rfl, inU_X9, by decide, uw_167, rfl⟩) (mnl)) (s_iconst X dX9_endOfTale_12 rfl (s_iconst X dX9_endOfTale_13 rfl (s_copy X uw_503 uw_371 uw_370 uw_12 (Nat.le_of_ble_eq_true rfl) (Nat.le_of_ble_eq_true rfl) dX9_endOfTale_14 (s_aload_n X dX9_endOfTale_17 rfl (s_get X dX9_endOfTale_18 (mcn (⟨_, _, _, _, rfl, inU_X9, by decide, uw_172, rfl⟩) (mnl)) (s_aload_n X dX9_endOfTale_21 rfl (s_get X dX9_endOfTale_22 (mcn (⟨_, _, _, _, rfl, inU_X9, by decide, uw_167, rfl⟩) (mnl)) (s_callV X dX9_endOfTale_25 (mv (vok_V X rfl uw_466 uw_467 uw_468 uw_3 ci_X2_sumOf yok_X2_sumOf ⟨Nat.le_of_ble_eq_true rfl, Nat.le_of_ble_eq_true rfl⟩) mv0) (s_istore X dX9_endOfTale_28 (by decide) (s_iconst X dX9_endOfTale_30 rfl (s_istore X dX9_endOfTale_31 (by decide) Sd.rf)))))))))))))))))
set_option maxRecDepth 100000 in
theorem sb_X9_endOfTale_1 {p : Program} {l : Launch} {e : Env} {s : State} {m : MethodId} {args : Array Value} {below : List Frame} {meth : Method} {c : Code} {g : Gm} {h0 : Hp} {P : PT} {mc ms : Nat} (X : Cx g p s m args meth c (Adom h0 s.heap.size) cX9_endOfTale RX9 8) (hr : meth.sig.returnType = some .int) (hn : meth.name = "endOfTale") : SX g p l e s m args below meth c d_X9_endOfTale 8 mc ms h0 P (bk_X9_endOfTale_1 l g (fun b => GX g p l e s m args below meth c d_X9_endOfTale 8 mc ms h0 P (pc_X9_endOfTale b)) P) 33 := (s_iload X dX9_endOfTale_33 (s_iload_n X dX9_endOfTale_35 rfl (s_icmp_ge X dX9_endOfTale_36 (by decide) (s_iload X dX9_endOfTale_118 (s_tsw X dX9_endOfTale_120 (by decide) rfl ⟨⟨rfl, 32, 152, rfl, by decide, (s_aload_n X dX9_endOfTale_152 rfl (s_get X dX9_endOfTale_153 (mcn (⟨_, _, _, _, rfl, inU_X9, by decide, uw_172, rfl⟩) (mnl)) (s_aload_n X dX9_endOfTale_156 rfl (s_get X dX9_endOfTale_157 (mcn (⟨_, _, _, _, rfl, inU_X9, by decide, uw_167, rfl⟩) (mnl)) (s_callV X dX9_endOfTale_160 (mv (vok_V X rfl uw_466 uw_467 uw_468 uw_3 ci_X2_sumOf yok_X2_sumOf ⟨Nat.le_of_ble_eq_true rfl, Nat.le_of_ble_eq_true rfl⟩) mv0) (s_iret X hr dX9_endOfTale_163))))))⟩, ⟨⟨rfl, 44, 164, rfl, by decide, (s_bipush X dX9_endOfTale_164 rfl (s_iret X hr dX9_endOfTale_166))⟩, ⟨⟨rfl, 47, 167, rfl, by decide, (s_aload_n X dX9_endOfTale_167 rfl (s_get X dX9_endOfTale_168 (mcn (⟨_, _, _, _, rfl, inU_X9, by decide, uw_172, rfl⟩) (mnl)) (s_aload_n X dX9_endOfTale_171 rfl (s_get X dX9_endOfTale_172 (mcn (⟨_, _, _, _, rfl, inU_X9, by decide, uw_167, rfl⟩) (mnl)) (s_callV X dX9_endOfTale_175 (mv (vok_V X rfl uw_471 uw_472 uw_473 uw_3 ci_X2_underWay yok_X2_underWay ⟨Nat.le_of_ble_eq_true rfl, Nat.le_of_ble_eq_true rfl⟩) mv0) (s_iret X hr dX9_endOfTale_178))))))⟩, ⟨⟨rfl, 59, 179, rfl, by decide, (s_iload X dX9_endOfTale_179 (s_iret X hr dX9_endOfTale_181))⟩, trivial⟩⟩⟩⟩ (s_aload_n X dX9_endOfTale_182 rfl (s_aload_n X dX9_endOfTale_183 rfl (s_get X dX9_endOfTale_184 (mcn (⟨_, _, _, _, rfl, inU_X9, by decide, uw_167, rfl⟩) (mnl)) (s_iload X dX9_endOfTale_187 (s_bipush X dX9_endOfTale_189 rfl (s_isub X dX9_endOfTale_191 (s_callV X dX9_endOfTale_192 (mv (vok_V X rfl uw_483 uw_485 (UW_pr 7 rfl rfl) uw_1 ci_X9_countOf yok_X9_countOf ⟨Nat.le_of_ble_eq_true rfl, Nat.le_of_ble_eq_true rfl⟩) mv0) (s_iret X hr dX9_endOfTale_195)))))))))) (s_aload_n X dX9_endOfTale_39 rfl (s_get X dX9_endOfTale_40 (mcn (⟨_, _, _, _, rfl, inU_X5, by decide, uw_149, rfl⟩) (mnl)) (s_iload_n X dX9_endOfTale_43 rfl (s_iload X dX9_endOfTale_44 (s_iadd X dX9_endOfTale_46 (s_iaload X dX9_endOfTale_47 (s_istore X dX9_endOfTale_48 (by decide) (s_aload_n X dX9_endOfTale_50 rfl (s_get X dX9_endOfTale_51 (mcn (⟨_, _, _, _, rfl, inU_X9, by decide, uw_172, rfl⟩) (mnl)) (s_aload_n X dX9_endOfTale_54 rfl (s_get X dX9_endOfTale_55 (mcn (⟨_, _, _, _, rfl, inU_X9, by decide, uw_167, rfl⟩) (mnl)) (s_iload X dX9_endOfTale_58 (s_callV X dX9_endOfTale_60 (mv (vok_V X rfl uw_408 uw_358 uw_359 uw_3 ci_X2_goesOn yok_X2_goesOn ⟨Nat.le_of_ble_eq_true rfl, Nat.le_of_ble_eq_true rfl⟩) mv0) (s_if_ne X dX9_endOfTale_63 (by decide) (s_aload_n X dX9_endOfTale_83 rfl (s_get X dX9_endOfTale_84 (mcn (⟨_, _, _, _, rfl, inU_X9, by decide, uw_167, rfl⟩) (mnl)) (s_iload X dX9_endOfTale_87 (s_dup2 X dX9_endOfTale_89 (s_iaload X dX9_endOfTale_90 (s_iconst X dX9_endOfTale_91 rfl (s_iadd X dX9_endOfTale_92 (s_iastore X dX9_endOfTale_93 (s_iload X dX9_endOfTale_94 (s_aload_n X dX9_endOfTale_96 rfl (s_get X dX9_endOfTale_97 (mcn (⟨_, _, _, _, rfl, inU_X9, by decide, uw_172, rfl⟩) (mnl)) (s_aload_n X dX9_endOfTale_100 rfl (s_get X dX9_endOfTale_101 (mcn (⟨_, _, _, _, rfl, inU_X9, by decide, uw_167, rfl⟩) (mnl)) (s_callV X dX9_endOfTale_104 (mv (vok_V X rfl uw_466 uw_467 uw_468 uw_3 ci_X2_sumOf yok_X2_sumOf ⟨Nat.le_of_ble_eq_true rfl, Nat.le_of_ble_eq_true rfl⟩) mv0) (s_max X uw_504 uw_376 uw_13 uw_377 (Nat.le_of_ble_eq_true rfl) (Nat.le_of_ble_eq_true rfl) dX9_endOfTale_107 (s_istore X dX9_endOfTale_110 (by decide) (s_iinc X dX9_endOfTale_112 rfl (by decide) (s_goto X dX9_endOfTale_115 (by decide) Sd.rf)))))))))))))))))) (s_iload X dX9_endOfTale_66 (s_iconst X dX9_endOfTale_68 rfl (s_icmp_ne X dX9_endOfTale_69 (by decide) (s_bipush X dX9_endOfTale_77 rfl (s_iload X dX9_endOfTale_79 (s_isub X dX9_endOfTale_81 (s_iret X hr dX9_endOfTale_82)))) (s_iload X dX9_endOfTale_72 (s_goto X dX9_endOfTale_74 (by decide) (s_iret X hr dX9_endOfTale_82)))))))))))))))))))))))
set_option maxRecDepth 100000 in
theorem vc_X9_endOfTale {l : Launch} {g : Gm} {a0 : Nat} {a1 : Nat} {a2 : Int32} {a3 : Int32} {a4 : Int32} {h : Hp} {mc ms : Nat} {P : PT} (H : ∀ G : Nat → CT, (∀ (b : Nat) (h : Hp) (cb sb : Nat) (ls : LocS) (st : List Value), bk_X9_endOfTale l g b G P h cb sb ls st → G b h cb sb ls st) → G 0 h mc ms [some (.ref a0), some (.ref a1), some (.int a2), some (.int a3), some (.int a4), none, none, none] []) : Run l g d_X9_endOfTale [.ref a0, .ref a1, .int a2, .int a3, .int a4] h mc ms P :=
  Run.of (d := d_X9_endOfTale) (by decide) (mcn rfl (mcn rfl (mcn rfl (mcn rfl (mcn rfl (mnl)))))) (Nat.le_of_ble_eq_true rfl) (fun p e s m args below meth c X hr hn => H (fun b => GX g p l e s m args below meth c d_X9_endOfTale 8 mc ms h P (pc_X9_endOfTale b)) (fun b h1 cb sb ls st hb => match b, hb with
    | 0, hb => sb_X9_endOfTale_0 (p := p) (e := e) (below := below) X hr hn h1 cb sb ls st hb
    | 1, hb => sb_X9_endOfTale_1 (p := p) (e := e) (below := below) X hr hn h1 cb sb ls st hb
    | _ + 2, hb => hb.elim))
theorem dX9_surveyed_0 : decode cX9_surveyed 0 = .ok (.aload_n 0, 1) := by decide +kernel
theorem dX9_surveyed_1 : decode cX9_surveyed 1 = .ok (.getfield 93, 3) := by decide +kernel
theorem dX9_surveyed_4 : decode cX9_surveyed 4 = .ok (.ifCond .ne 19, 3) := by decide +kernel
theorem dX9_surveyed_7 : decode cX9_surveyed 7 = .ok (.aload_n 0, 1) := by decide +kernel
theorem dX9_surveyed_8 : decode cX9_surveyed 8 = .ok (.getfield 49, 3) := by decide +kernel
theorem dX9_surveyed_11 : decode cX9_surveyed 11 = .ok (.aload_n 0, 1) := by decide +kernel
theorem dX9_surveyed_12 : decode cX9_surveyed 12 = .ok (.getfield 42, 3) := by decide +kernel
theorem dX9_surveyed_15 : decode cX9_surveyed 15 = .ok (.invokevirtual 280, 3) := by decide +kernel
theorem dX9_surveyed_18 : decode cX9_surveyed 18 = .ok (.aload_n 0, 1) := by decide +kernel
theorem dX9_surveyed_19 : decode cX9_surveyed 19 = .ok (.iconst 1, 1) := by decide +kernel
theorem dX9_surveyed_20 : decode cX9_surveyed 20 = .ok (.putfield 93, 3) := by decide +kernel
theorem dX9_surveyed_23 : decode cX9_surveyed 23 = .ok (.aload_n 0, 1) := by decide +kernel
theorem dX9_surveyed_24 : decode cX9_surveyed 24 = .ok (.getfield 49, 3) := by decide +kernel
theorem dX9_surveyed_27 : decode cX9_surveyed 27 = .ok (.areturn, 1) := by decide +kernel
def bk_X9_surveyed_0 (l : Launch) (g : Gm) (G : Nat → CT) (P : PT) : CT := (oALd 0 (oGet [9] 10 (oIf (fun x => x = 0) (oALd 0 (oGet [9] 9 (oALd 0 (oGet [9] 8 (oCallV l g [(6, d_X6_walk)] 2 (oALd 0 (oPush (.int (1)) (oPutZ [9] 10 (oALd 0 (oGet [9] 9 (oARet P))))))))))) (oALd 0 (oGet [9] 9 (oARet P))))))
def bk_X9_surveyed (l : Launch) (g : Gm) (b : Nat) (G : Nat → CT) (P : PT) : CT := match b with
  | 0 => bk_X9_surveyed_0 l g G P
  | _ => fun _ _ _ _ _ => False
def pc_X9_surveyed (b : Nat) : Nat := match b with
  | 0 => 0
  | _ => 0
set_option maxRecDepth 100000 in
theorem sb_X9_surveyed_0 {p : Program} {l : Launch} {e : Env} {s : State} {m : MethodId} {args : Array Value} {below : List Frame} {meth : Method} {c : Code} {g : Gm} {h0 : Hp} {P : PT} {mc ms : Nat} (X : Cx g p s m args meth c (Adom h0 s.heap.size) cX9_surveyed RX9 1) (hr : meth.sig.returnType = some (.object RX6)) (hn : meth.name = "surveyed") : SX g p l e s m args below meth c d_X9_surveyed 1 mc ms h0 P (bk_X9_surveyed_0 l g (fun b => GX g p l e s m args below meth c d_X9_surveyed 1 mc ms h0 P (pc_X9_surveyed b)) P) 0 := (s_aload_n X dX9_surveyed_0 rfl (s_get X dX9_surveyed_1 (mcn (⟨_, _, _, _, rfl, inU_X9, by decide, uw_174, rfl⟩) (mnl)) (s_if_ne X dX9_surveyed_4 (by decide) (s_aload_n X dX9_surveyed_23 rfl (s_get X dX9_surveyed_24 (mcn (⟨_, _, _, _, rfl, inU_X9, by decide, uw_173, rfl⟩) (mnl)) (s_aret X hr (Or.inl ⟨_, rfl⟩) dX9_surveyed_27))) (s_aload_n X dX9_surveyed_7 rfl (s_get X dX9_surveyed_8 (mcn (⟨_, _, _, _, rfl, inU_X9, by decide, uw_173, rfl⟩) (mnl)) (s_aload_n X dX9_surveyed_11 rfl (s_get X dX9_surveyed_12 (mcn (⟨_, _, _, _, rfl, inU_X9, by decide, uw_172, rfl⟩) (mnl)) (s_callV X dX9_surveyed_15 (mv (vok_V X rfl uw_513 uw_514 uw_515 uw_5 ci_X6_walk yok_X6_walk ⟨Nat.le_of_ble_eq_true rfl, Nat.le_of_ble_eq_true rfl⟩) mv0) (s_aload_n X dX9_surveyed_18 rfl (s_iconst X dX9_surveyed_19 rfl (s_putZ X dX9_surveyed_20 (mcn (⟨_, _, _, _, tyX9, rfl, inU_X9, by decide, uw_174, rfl, tyX9_ok, nmX9, rfl, rfl⟩) (mnl)) (s_aload_n X dX9_surveyed_23 rfl (s_get X dX9_surveyed_24 (mcn (⟨_, _, _, _, rfl, inU_X9, by decide, uw_173, rfl⟩) (mnl)) (s_aret X hr (Or.inl ⟨_, rfl⟩) dX9_surveyed_27))))))))))))))
set_option maxRecDepth 100000 in
theorem vc_X9_surveyed {l : Launch} {g : Gm} {a0 : Nat} {h : Hp} {mc ms : Nat} {P : PT} (H : ∀ G : Nat → CT, (∀ (b : Nat) (h : Hp) (cb sb : Nat) (ls : LocS) (st : List Value), bk_X9_surveyed l g b G P h cb sb ls st → G b h cb sb ls st) → G 0 h mc ms [some (.ref a0)] []) : Run l g d_X9_surveyed [.ref a0] h mc ms P :=
  Run.of (d := d_X9_surveyed) (by decide) (mcn rfl (mnl)) (Nat.le_of_ble_eq_true rfl) (fun p e s m args below meth c X hr hn => H (fun b => GX g p l e s m args below meth c d_X9_surveyed 1 mc ms h P (pc_X9_surveyed b)) (fun b h1 cb sb ls st hb => match b, hb with
    | 0, hb => sb_X9_surveyed_0 (p := p) (e := e) (below := below) X hr hn h1 cb sb ls st hb
    | _ + 1, hb => hb.elim))
theorem dX9_areReadingsSo_0 : decode cX9_areReadingsSo 0 = .ok (.aload_n 0, 1) := by decide +kernel
theorem dX9_areReadingsSo_1 : decode cX9_areReadingsSo 1 = .ok (.getfield 42, 3) := by decide +kernel
theorem dX9_areReadingsSo_4 : decode cX9_areReadingsSo 4 = .ok (.getfield 106, 3) := by decide +kernel
theorem dX9_areReadingsSo_7 : decode cX9_areReadingsSo 7 = .ok (.iload_n 1, 1) := by decide +kernel
theorem dX9_areReadingsSo_8 : decode cX9_areReadingsSo 8 = .ok (.aaload, 1) := by decide +kernel
theorem dX9_areReadingsSo_9 : decode cX9_areReadingsSo 9 = .ok (.astore_n 3, 1) := by decide +kernel
theorem dX9_areReadingsSo_10 : decode cX9_areReadingsSo 10 = .ok (.iconst 0, 1) := by decide +kernel
theorem dX9_areReadingsSo_11 : decode cX9_areReadingsSo 11 = .ok (.istore 4, 2) := by decide +kernel
theorem dX9_areReadingsSo_13 : decode cX9_areReadingsSo 13 = .ok (.iload 4, 2) := by decide +kernel
theorem dX9_areReadingsSo_15 : decode cX9_areReadingsSo 15 = .ok (.aload_n 0, 1) := by decide +kernel
theorem dX9_areReadingsSo_16 : decode cX9_areReadingsSo 16 = .ok (.getfield 97, 3) := by decide +kernel
theorem dX9_areReadingsSo_19 : decode cX9_areReadingsSo 19 = .ok (.if_icmp .ge 65, 3) := by decide +kernel
theorem dX9_areReadingsSo_22 : decode cX9_areReadingsSo 22 = .ok (.aload_n 0, 1) := by decide +kernel
theorem dX9_areReadingsSo_23 : decode cX9_areReadingsSo 23 = .ok (.getfield 33, 3) := by decide +kernel
theorem dX9_areReadingsSo_26 : decode cX9_areReadingsSo 26 = .ok (.iload 4, 2) := by decide +kernel
theorem dX9_areReadingsSo_28 : decode cX9_areReadingsSo 28 = .ok (.aaload, 1) := by decide +kernel
theorem dX9_areReadingsSo_29 : decode cX9_areReadingsSo 29 = .ok (.astore 5, 2) := by decide +kernel
theorem dX9_areReadingsSo_31 : decode cX9_areReadingsSo 31 = .ok (.aload_n 0, 1) := by decide +kernel
theorem dX9_areReadingsSo_32 : decode cX9_areReadingsSo 32 = .ok (.getfield 42, 3) := by decide +kernel
theorem dX9_areReadingsSo_35 : decode cX9_areReadingsSo 35 = .ok (.aload 5, 2) := by decide +kernel
theorem dX9_areReadingsSo_37 : decode cX9_areReadingsSo 37 = .ok (.invokevirtual 175, 3) := by decide +kernel
theorem dX9_areReadingsSo_40 : decode cX9_areReadingsSo 40 = .ok (.aload_n 3, 1) := by decide +kernel
theorem dX9_areReadingsSo_41 : decode cX9_areReadingsSo 41 = .ok (.aload 5, 2) := by decide +kernel
theorem dX9_areReadingsSo_43 : decode cX9_areReadingsSo 43 = .ok (.iload_n 1, 1) := by decide +kernel
theorem dX9_areReadingsSo_44 : decode cX9_areReadingsSo 44 = .ok (.iaload, 1) := by decide +kernel
theorem dX9_areReadingsSo_45 : decode cX9_areReadingsSo 45 = .ok (.invokevirtual 124, 3) := by decide +kernel
theorem dX9_areReadingsSo_48 : decode cX9_areReadingsSo 48 = .ok (.isub, 1) := by decide +kernel
theorem dX9_areReadingsSo_49 : decode cX9_areReadingsSo 49 = .ok (.istore 6, 2) := by decide +kernel
theorem dX9_areReadingsSo_51 : decode cX9_areReadingsSo 51 = .ok (.iload 6, 2) := by decide +kernel
theorem dX9_areReadingsSo_53 : decode cX9_areReadingsSo 53 = .ok (.iload_n 2, 1) := by decide +kernel
theorem dX9_areReadingsSo_54 : decode cX9_areReadingsSo 54 = .ok (.aload_n 3, 1) := by decide +kernel
theorem dX9_areReadingsSo_55 : decode cX9_areReadingsSo 55 = .ok (.aload 5, 2) := by decide +kernel
theorem dX9_areReadingsSo_57 : decode cX9_areReadingsSo 57 = .ok (.iload_n 1, 1) := by decide +kernel
theorem dX9_areReadingsSo_58 : decode cX9_areReadingsSo 58 = .ok (.iaload, 1) := by decide +kernel
theorem dX9_areReadingsSo_59 : decode cX9_areReadingsSo 59 = .ok (.invokevirtual 121, 3) := by decide +kernel
theorem dX9_areReadingsSo_62 : decode cX9_areReadingsSo 62 = .ok (.invokestatic 284, 3) := by decide +kernel
theorem dX9_areReadingsSo_65 : decode cX9_areReadingsSo 65 = .ok (.iadd, 1) := by decide +kernel
theorem dX9_areReadingsSo_66 : decode cX9_areReadingsSo 66 = .ok (.aload_n 0, 1) := by decide +kernel
theorem dX9_areReadingsSo_67 : decode cX9_areReadingsSo 67 = .ok (.getfield 36, 3) := by decide +kernel
theorem dX9_areReadingsSo_70 : decode cX9_areReadingsSo 70 = .ok (.iload 4, 2) := by decide +kernel
theorem dX9_areReadingsSo_72 : decode cX9_areReadingsSo 72 = .ok (.iaload, 1) := by decide +kernel
theorem dX9_areReadingsSo_73 : decode cX9_areReadingsSo 73 = .ok (.if_icmp .eq 5, 3) := by decide +kernel
theorem dX9_areReadingsSo_76 : decode cX9_areReadingsSo 76 = .ok (.iconst 0, 1) := by decide +kernel
theorem dX9_areReadingsSo_77 : decode cX9_areReadingsSo 77 = .ok (.ireturn, 1) := by decide +kernel
theorem dX9_areReadingsSo_78 : decode cX9_areReadingsSo 78 = .ok (.iinc 4 1, 3) := by decide +kernel
theorem dX9_areReadingsSo_81 : decode cX9_areReadingsSo 81 = .ok (.goto (-68), 3) := by decide +kernel
theorem dX9_areReadingsSo_84 : decode cX9_areReadingsSo 84 = .ok (.iconst 1, 1) := by decide +kernel
theorem dX9_areReadingsSo_85 : decode cX9_areReadingsSo 85 = .ok (.ireturn, 1) := by decide +kernel
def bk_X9_areReadingsSo_0 (l : Launch) (g : Gm) (G : Nat → CT) (P : PT) : CT := (oALd 0 (oGet [9] 8 (oGet [2] 0 (oILd 1 (oRAL g 3 (oASt 3 (oPush (.int (0)) (oISt 4 (G 1)))))))))
def bk_X9_areReadingsSo_1 (l : Launch) (g : Gm) (G : Nat → CT) (P : PT) : CT := (oILd 4 (oALd 0 (oGet [9] 6 (oCmp (fun x y => y ≤ x) (oPush (.int (1)) (oZRet P)) (oALd 0 (oGet [9] 4 (oILd 4 (oRAL g 6 (oASt 5 (oALd 0 (oGet [9] 8 (oALd 5 (oCallV l g [(2, d_X2_sumOf)] 2 (oALd 3 (oALd 5 (oILd 1 (oIAL g (oCallV l g [(4, d_X4_worthAt), (0, d_X4_worthAt), (1, d_X4_worthAt)] 2 (oBin (fun x y => x - y) (oISt 6 (oILd 6 (oILd 2 (oALd 3 (oALd 5 (oILd 1 (oIAL g (oCallV l g [(4, d_X4_valueAt), (0, d_X4_valueAt), (1, d_X4_valueAt)] 2 (oCall l g d_X4_worthAs 2 (oBin (fun x y => x + y) (oALd 0 (oGet [9] 5 (oILd 4 (oIAL g (oCmp (fun x y => x = y) (oInc 4 (1) (oGo (G 1))) (oPush (.int (0)) (oZRet P))))))))))))))))))))))))))))))))))))
def bk_X9_areReadingsSo (l : Launch) (g : Gm) (b : Nat) (G : Nat → CT) (P : PT) : CT := match b with
  | 0 => bk_X9_areReadingsSo_0 l g G P
  | 1 => bk_X9_areReadingsSo_1 l g G P
  | _ => fun _ _ _ _ _ => False
def pc_X9_areReadingsSo (b : Nat) : Nat := match b with
  | 0 => 0
  | 1 => 13
  | _ => 0
set_option maxRecDepth 100000 in
theorem sb_X9_areReadingsSo_0 {p : Program} {l : Launch} {e : Env} {s : State} {m : MethodId} {args : Array Value} {below : List Frame} {meth : Method} {c : Code} {g : Gm} {h0 : Hp} {P : PT} {mc ms : Nat} (X : Cx g p s m args meth c (Adom h0 s.heap.size) cX9_areReadingsSo RX9 7) (hr : meth.sig.returnType = some .boolean) (hn : meth.name = "areReadingsSo") : SX g p l e s m args below meth c d_X9_areReadingsSo 7 mc ms h0 P (bk_X9_areReadingsSo_0 l g (fun b => GX g p l e s m args below meth c d_X9_areReadingsSo 7 mc ms h0 P (pc_X9_areReadingsSo b)) P) 0 := (s_aload_n X dX9_areReadingsSo_0 rfl (s_get X dX9_areReadingsSo_1 (mcn (⟨_, _, _, _, rfl, inU_X9, by decide, uw_172, rfl⟩) (mnl)) (s_get X dX9_areReadingsSo_4 (mcn (⟨_, _, _, _, rfl, inU_X2, by decide, uw_80, rfl⟩) (mnl)) (s_iload_n X dX9_areReadingsSo_7 rfl (s_aaload X (t := 3) (fun _ => rfl) rfl dX9_areReadingsSo_8 (s_astore_n X dX9_areReadingsSo_9 rfl (by decide) (s_iconst X dX9_areReadingsSo_10 rfl (s_istore X dX9_areReadingsSo_11 (by decide) Sd.rf))))))))
set_option maxRecDepth 100000 in
theorem sb_X9_areReadingsSo_1 {p : Program} {l : Launch} {e : Env} {s : State} {m : MethodId} {args : Array Value} {below : List Frame} {meth : Method} {c : Code} {g : Gm} {h0 : Hp} {P : PT} {mc ms : Nat} (X : Cx g p s m args meth c (Adom h0 s.heap.size) cX9_areReadingsSo RX9 7) (hr : meth.sig.returnType = some .boolean) (hn : meth.name = "areReadingsSo") : SX g p l e s m args below meth c d_X9_areReadingsSo 7 mc ms h0 P (bk_X9_areReadingsSo_1 l g (fun b => GX g p l e s m args below meth c d_X9_areReadingsSo 7 mc ms h0 P (pc_X9_areReadingsSo b)) P) 13 := (s_iload X dX9_areReadingsSo_13 (s_aload_n X dX9_areReadingsSo_15 rfl (s_get X dX9_areReadingsSo_16 (mcn (⟨_, _, _, _, rfl, inU_X9, by decide, uw_170, rfl⟩) (mnl)) (s_icmp_ge X dX9_areReadingsSo_19 (by decide) (s_iconst X dX9_areReadingsSo_84 rfl (s_zret X hr dX9_areReadingsSo_85)) (s_aload_n X dX9_areReadingsSo_22 rfl (s_get X dX9_areReadingsSo_23 (mcn (⟨_, _, _, _, rfl, inU_X9, by decide, uw_168, rfl⟩) (mnl)) (s_iload X dX9_areReadingsSo_26 (s_aaload X (t := 6) (fun _ => rfl) rfl dX9_areReadingsSo_28 (s_astore X dX9_areReadingsSo_29 (by decide) (s_aload_n X dX9_areReadingsSo_31 rfl (s_get X dX9_areReadingsSo_32 (mcn (⟨_, _, _, _, rfl, inU_X9, by decide, uw_172, rfl⟩) (mnl)) (s_aload X dX9_areReadingsSo_35 (s_callV X dX9_areReadingsSo_37 (mv (vok_V X rfl uw_466 uw_467 uw_468 uw_3 ci_X2_sumOf yok_X2_sumOf ⟨Nat.le_of_ble_eq_true rfl, Nat.le_of_ble_eq_true rfl⟩) mv0) (s_aload_n X dX9_areReadingsSo_40 rfl (s_aload X dX9_areReadingsSo_41 (s_iload_n X dX9_areReadingsSo_43 rfl (s_iaload X dX9_areReadingsSo_44 (s_callV X dX9_areReadingsSo_45 (mv (vok_U X (owner := RX4) (x := ⟨"VillageCuts$Plain", "worthAt", "(I)I"⟩) rfl rfl uw_397 uw_400 uw_399 uw_398 uw_9 ci_X4_worthAt (by decide +kernel) ⟨Nat.le_of_ble_eq_true rfl, Nat.le_of_ble_eq_true rfl⟩) (mv (vok_U X (owner := RX4) (x := ⟨"VillageCuts$Plain", "worthAt", "(I)I"⟩) rfl rfl uw_397 uw_400 uw_401 uw_398 uw_9 ci_X4_worthAt (by decide +kernel) ⟨Nat.le_of_ble_eq_true rfl, Nat.le_of_ble_eq_true rfl⟩) (mv (vok_U X (owner := RX4) (x := ⟨"VillageCuts$Plain", "worthAt", "(I)I"⟩) rfl rfl uw_397 uw_400 uw_402 uw_398 uw_9 ci_X4_worthAt (by decide +kernel) ⟨Nat.le_of_ble_eq_true rfl, Nat.le_of_ble_eq_true rfl⟩) (mv0)))) (s_isub X dX9_areReadingsSo_48 (s_istore X dX9_areReadingsSo_49 (by decide) (s_iload X dX9_areReadingsSo_51 (s_iload_n X dX9_areReadingsSo_53 rfl (s_aload_n X dX9_areReadingsSo_54 rfl (s_aload X dX9_areReadingsSo_55 (s_iload_n X dX9_areReadingsSo_57 rfl (s_iaload X dX9_areReadingsSo_58 (s_callV X dX9_areReadingsSo_59 (mv (vok_U X (owner := RX4) (x := ⟨"VillageCuts$Plain", "valueAt", "(I)I"⟩) rfl rfl uw_386 uw_389 uw_388 uw_387 uw_9 ci_X4_valueAt (by decide +kernel) ⟨Nat.le_of_ble_eq_true rfl, Nat.le_of_ble_eq_true rfl⟩) (mv (vok_U X (owner := RX4) (x := ⟨"VillageCuts$Plain", "valueAt", "(I)I"⟩) rfl rfl uw_386 uw_389 uw_390 uw_387 uw_9 ci_X4_valueAt (by decide +kernel) ⟨Nat.le_of_ble_eq_true rfl, Nat.le_of_ble_eq_true rfl⟩) (mv (vok_U X (owner := RX4) (x := ⟨"VillageCuts$Plain", "valueAt", "(I)I"⟩) rfl rfl uw_386 uw_389 uw_391 uw_387 uw_9 ci_X4_valueAt (by decide +kernel) ⟨Nat.le_of_ble_eq_true rfl, Nat.le_of_ble_eq_true rfl⟩) (mv0)))) (s_callS X dX9_areReadingsSo_62 uw_597 uw_406 uw_9 ci_X4_worthAs yok_X4_worthAs ⟨Nat.le_of_ble_eq_true rfl, Nat.le_of_ble_eq_true rfl⟩ (s_iadd X dX9_areReadingsSo_65 (s_aload_n X dX9_areReadingsSo_66 rfl (s_get X dX9_areReadingsSo_67 (mcn (⟨_, _, _, _, rfl, inU_X9, by decide, uw_169, rfl⟩) (mnl)) (s_iload X dX9_areReadingsSo_70 (s_iaload X dX9_areReadingsSo_72 (s_icmp_eq X dX9_areReadingsSo_73 (by decide) (s_iinc X dX9_areReadingsSo_78 rfl (by decide) (s_goto X dX9_areReadingsSo_81 (by decide) Sd.rf)) (s_iconst X dX9_areReadingsSo_76 rfl (s_zret X hr dX9_areReadingsSo_77))))))))))))))))))))))))))))))))))))
set_option maxRecDepth 100000 in
theorem vc_X9_areReadingsSo {l : Launch} {g : Gm} {a0 : Nat} {a1 : Int32} {a2 : Int32} {h : Hp} {mc ms : Nat} {P : PT} (H : ∀ G : Nat → CT, (∀ (b : Nat) (h : Hp) (cb sb : Nat) (ls : LocS) (st : List Value), bk_X9_areReadingsSo l g b G P h cb sb ls st → G b h cb sb ls st) → G 0 h mc ms [some (.ref a0), some (.int a1), some (.int a2), none, none, none, none] []) : Run l g d_X9_areReadingsSo [.ref a0, .int a1, .int a2] h mc ms P :=
  Run.of (d := d_X9_areReadingsSo) (by decide) (mcn rfl (mcn rfl (mcn rfl (mnl)))) (Nat.le_of_ble_eq_true rfl) (fun p e s m args below meth c X hr hn => H (fun b => GX g p l e s m args below meth c d_X9_areReadingsSo 7 mc ms h P (pc_X9_areReadingsSo b)) (fun b h1 cb sb ls st hb => match b, hb with
    | 0, hb => sb_X9_areReadingsSo_0 (p := p) (e := e) (below := below) X hr hn h1 cb sb ls st hb
    | 1, hb => sb_X9_areReadingsSo_1 (p := p) (e := e) (below := below) X hr hn h1 cb sb ls st hb
    | _ + 2, hb => hb.elim))
theorem dX9_commonDivisor_0 : decode cX9_commonDivisor 0 = .ok (.iload_n 0, 1) := by decide +kernel
theorem dX9_commonDivisor_1 : decode cX9_commonDivisor 1 = .ok (.istore_n 2, 1) := by decide +kernel
theorem dX9_commonDivisor_2 : decode cX9_commonDivisor 2 = .ok (.iload_n 1, 1) := by decide +kernel
theorem dX9_commonDivisor_3 : decode cX9_commonDivisor 3 = .ok (.istore_n 3, 1) := by decide +kernel
theorem dX9_commonDivisor_4 : decode cX9_commonDivisor 4 = .ok (.iconst 0, 1) := by decide +kernel
theorem dX9_commonDivisor_5 : decode cX9_commonDivisor 5 = .ok (.istore 4, 2) := by decide +kernel
theorem dX9_commonDivisor_7 : decode cX9_commonDivisor 7 = .ok (.iload 4, 2) := by decide +kernel
theorem dX9_commonDivisor_9 : decode cX9_commonDivisor 9 = .ok (.bipush 64, 2) := by decide +kernel
theorem dX9_commonDivisor_11 : decode cX9_commonDivisor 11 = .ok (.if_icmp .ge 23, 3) := by decide +kernel
theorem dX9_commonDivisor_14 : decode cX9_commonDivisor 14 = .ok (.iload_n 3, 1) := by decide +kernel
theorem dX9_commonDivisor_15 : decode cX9_commonDivisor 15 = .ok (.ifCond .eq 19, 3) := by decide +kernel
theorem dX9_commonDivisor_18 : decode cX9_commonDivisor 18 = .ok (.iload_n 2, 1) := by decide +kernel
theorem dX9_commonDivisor_19 : decode cX9_commonDivisor 19 = .ok (.iload_n 3, 1) := by decide +kernel
theorem dX9_commonDivisor_20 : decode cX9_commonDivisor 20 = .ok (.irem, 1) := by decide +kernel
theorem dX9_commonDivisor_21 : decode cX9_commonDivisor 21 = .ok (.istore 5, 2) := by decide +kernel
theorem dX9_commonDivisor_23 : decode cX9_commonDivisor 23 = .ok (.iload_n 3, 1) := by decide +kernel
theorem dX9_commonDivisor_24 : decode cX9_commonDivisor 24 = .ok (.istore_n 2, 1) := by decide +kernel
theorem dX9_commonDivisor_25 : decode cX9_commonDivisor 25 = .ok (.iload 5, 2) := by decide +kernel
theorem dX9_commonDivisor_27 : decode cX9_commonDivisor 27 = .ok (.istore_n 3, 1) := by decide +kernel
theorem dX9_commonDivisor_28 : decode cX9_commonDivisor 28 = .ok (.iinc 4 1, 3) := by decide +kernel
theorem dX9_commonDivisor_31 : decode cX9_commonDivisor 31 = .ok (.goto (-24), 3) := by decide +kernel
theorem dX9_commonDivisor_34 : decode cX9_commonDivisor 34 = .ok (.iload_n 2, 1) := by decide +kernel
theorem dX9_commonDivisor_35 : decode cX9_commonDivisor 35 = .ok (.ireturn, 1) := by decide +kernel
def bk_X9_commonDivisor_0 (l : Launch) (g : Gm) (G : Nat → CT) (P : PT) : CT := (oILd 0 (oISt 2 (oILd 1 (oISt 3 (oPush (.int (0)) (oISt 4 (G 1)))))))
def bk_X9_commonDivisor_1 (l : Launch) (g : Gm) (G : Nat → CT) (P : PT) : CT := (oILd 4 (oPush (.int (64)) (oCmp (fun x y => y ≤ x) (oILd 2 (oIRet P)) (oILd 3 (oIf (fun x => x = 0) (oILd 2 (oIRet P)) (oILd 2 (oILd 3 (oBinZ (fun x y => x - x / y * y) (oISt 5 (oILd 3 (oISt 2 (oILd 5 (oISt 3 (oInc 4 (1) (oGo (G 1))))))))))))))))
def bk_X9_commonDivisor (l : Launch) (g : Gm) (b : Nat) (G : Nat → CT) (P : PT) : CT := match b with
  | 0 => bk_X9_commonDivisor_0 l g G P
  | 1 => bk_X9_commonDivisor_1 l g G P
  | _ => fun _ _ _ _ _ => False
def pc_X9_commonDivisor (b : Nat) : Nat := match b with
  | 0 => 0
  | 1 => 7
  | _ => 0
set_option maxRecDepth 100000 in
theorem sb_X9_commonDivisor_0 {p : Program} {l : Launch} {e : Env} {s : State} {m : MethodId} {args : Array Value} {below : List Frame} {meth : Method} {c : Code} {g : Gm} {h0 : Hp} {P : PT} {mc ms : Nat} (X : Cx g p s m args meth c (Adom h0 s.heap.size) cX9_commonDivisor RX9 6) (hr : meth.sig.returnType = some .int) (hn : meth.name = "commonDivisor") : SX g p l e s m args below meth c d_X9_commonDivisor 6 mc ms h0 P (bk_X9_commonDivisor_0 l g (fun b => GX g p l e s m args below meth c d_X9_commonDivisor 6 mc ms h0 P (pc_X9_commonDivisor b)) P) 0 := (s_iload_n X dX9_commonDivisor_0 rfl (s_istore_n X dX9_commonDivisor_1 rfl (by decide) (s_iload_n X dX9_commonDivisor_2 rfl (s_istore_n X dX9_commonDivisor_3 rfl (by decide) (s_iconst X dX9_commonDivisor_4 rfl (s_istore X dX9_commonDivisor_5 (by decide) Sd.rf))))))
set_option maxRecDepth 100000 in
theorem sb_X9_commonDivisor_1 {p : Program} {l : Launch} {e : Env} {s : State} {m : MethodId} {args : Array Value} {below : List Frame} {meth : Method} {c : Code} {g : Gm} {h0 : Hp} {P : PT} {mc ms : Nat} (X : Cx g p s m args meth c (Adom h0 s.heap.size) cX9_commonDivisor RX9 6) (hr : meth.sig.returnType = some .int) (hn : meth.name = "commonDivisor") : SX g p l e s m args below meth c d_X9_commonDivisor 6 mc ms h0 P (bk_X9_commonDivisor_1 l g (fun b => GX g p l e s m args below meth c d_X9_commonDivisor 6 mc ms h0 P (pc_X9_commonDivisor b)) P) 7 := (s_iload X dX9_commonDivisor_7 (s_bipush X dX9_commonDivisor_9 rfl (s_icmp_ge X dX9_commonDivisor_11 (by decide) (s_iload_n X dX9_commonDivisor_34 rfl (s_iret X hr dX9_commonDivisor_35)) (s_iload_n X dX9_commonDivisor_14 rfl (s_if_eq X dX9_commonDivisor_15 (by decide) (s_iload_n X dX9_commonDivisor_34 rfl (s_iret X hr dX9_commonDivisor_35)) (s_iload_n X dX9_commonDivisor_18 rfl (s_iload_n X dX9_commonDivisor_19 rfl (s_irem X dX9_commonDivisor_20 (s_istore X dX9_commonDivisor_21 (by decide) (s_iload_n X dX9_commonDivisor_23 rfl (s_istore_n X dX9_commonDivisor_24 rfl (by decide) (s_iload X dX9_commonDivisor_25 (s_istore_n X dX9_commonDivisor_27 rfl (by decide) (s_iinc X dX9_commonDivisor_28 rfl (by decide) (s_goto X dX9_commonDivisor_31 (by decide) Sd.rf)))))))))))))))
set_option maxRecDepth 100000 in
theorem vc_X9_commonDivisor {l : Launch} {g : Gm} {a0 : Int32} {a1 : Int32} {h : Hp} {mc ms : Nat} {P : PT} (H : ∀ G : Nat → CT, (∀ (b : Nat) (h : Hp) (cb sb : Nat) (ls : LocS) (st : List Value), bk_X9_commonDivisor l g b G P h cb sb ls st → G b h cb sb ls st) → G 0 h mc ms [some (.int a0), some (.int a1), none, none, none, none] []) : Run l g d_X9_commonDivisor [.int a0, .int a1] h mc ms P :=
  Run.of (d := d_X9_commonDivisor) (by decide) (mcn rfl (mcn rfl (mnl))) (Nat.le_of_ble_eq_true rfl) (fun p e s m args below meth c X hr hn => H (fun b => GX g p l e s m args below meth c d_X9_commonDivisor 6 mc ms h P (pc_X9_commonDivisor b)) (fun b h1 cb sb ls st hb => match b, hb with
    | 0, hb => sb_X9_commonDivisor_0 (p := p) (e := e) (below := below) X hr hn h1 cb sb ls st hb
    | 1, hb => sb_X9_commonDivisor_1 (p := p) (e := e) (below := below) X hr hn h1 cb sb ls st hb
    | _ + 2, hb => hb.elim))
