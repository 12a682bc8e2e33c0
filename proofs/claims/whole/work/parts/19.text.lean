theorem dX7_init_0 : decode cX7_init 0 = .ok (.aload_n 0, 1) := by decide +kernel
theorem dX7_init_1 : decode cX7_init 1 = .ok (.invokespecial 3, 3) := by decide +kernel
theorem dX7_init_4 : decode cX7_init 4 = .ok (.aload_n 0, 1) := by decide +kernel
theorem dX7_init_5 : decode cX7_init 5 = .ok (.aload_n 1, 1) := by decide +kernel
theorem dX7_init_6 : decode cX7_init 6 = .ok (.putfield 9, 3) := by decide +kernel
theorem dX7_init_9 : decode cX7_init 9 = .ok (.aload_n 0, 1) := by decide +kernel
theorem dX7_init_10 : decode cX7_init 10 = .ok (.iload_n 2, 1) := by decide +kernel
theorem dX7_init_11 : decode cX7_init 11 = .ok (.putfield 15, 3) := by decide +kernel
theorem dX7_init_14 : decode cX7_init 14 = .ok (.aload_n 0, 1) := by decide +kernel
theorem dX7_init_15 : decode cX7_init 15 = .ok (.iload_n 3, 1) := by decide +kernel
theorem dX7_init_16 : decode cX7_init 16 = .ok (.putfield 19, 3) := by decide +kernel
theorem dX7_init_19 : decode cX7_init 19 = .ok (.return_, 1) := by decide +kernel
def bk_X7_init_0 (l : Launch) (g : Gm) (G : Nat → CT) (P : PT) : CT := (oALd 0 (oObj1 (oALd 0 (oALd 1 (oPutR [7] 0 (oALd 0 (oILd 2 (oPutI [7] 1 (oALd 0 (oILd 3 (oPutI [7] 2 (oVRet P))))))))))))
def bk_X7_init (l : Launch) (g : Gm) (b : Nat) (G : Nat → CT) (P : PT) : CT := match b with
  | 0 => bk_X7_init_0 l g G P
  | _ => fun _ _ _ _ _ => False
def pc_X7_init (b : Nat) : Nat := match b with
  | 0 => 0
  | _ => 0
set_option maxRecDepth 100000 in
theorem sb_X7_init_0 {p : Program} {l : Launch} {e : Env} {s : State} {m : MethodId} {args : Array Value} {below : List Frame} {meth : Method} {c : Code} {g : Gm} {h0 : Hp} {P : PT} {mc ms : Nat} (X : Cx g p s m args meth c (Adom h0 s.heap.size) cX7_init RX7 4) (hr : meth.sig.returnType = none) (hn : meth.name = "<init>") : SX g p l e s m args below meth c d_X7_init 4 mc ms h0 P (bk_X7_init_0 l g (fun b => GX g p l e s m args below meth c d_X7_init 4 mc ms h0 P (pc_X7_init b)) P) 0 := (s_aload_n X dX7_init_0 rfl (s_obj1 X uw_225 uw_21 uw_22 (Nat.le_of_ble_eq_true rfl) (Nat.le_of_ble_eq_true rfl) dX7_init_1 (s_aload_n X dX7_init_4 rfl (s_aload_n X dX7_init_5 rfl (s_putRF X dX7_init_6 rt_obj (mcn (⟨_, _, _, _, tyX7, rfl, inU_X7, by decide, uw_226, rfl, tyX7_ok, nmX7, rfl, rfl⟩) (mnl)) hn (mcn (fun C T1 N1 hq => by cases hq; rfl) (mnl)) (s_aload_n X dX7_init_9 rfl (s_iload_n X dX7_init_10 rfl (s_putIF X dX7_init_11 (mcn (⟨_, _, _, _, tyX7, rfl, inU_X7, by decide, uw_227, rfl, tyX7_ok, nmX7, rfl, rfl⟩) (mnl)) hn (mcn (fun C T1 N1 hq => by cases hq; rfl) (mnl)) (s_aload_n X dX7_init_14 rfl (s_iload_n X dX7_init_15 rfl (s_putIF X dX7_init_16 (mcn (⟨_, _, _, _, tyX7, rfl, inU_X7, by decide, uw_228, rfl, tyX7_ok, nmX7, rfl, rfl⟩) (mnl)) hn (mcn (fun C T1 N1 hq => by cases hq; rfl) (mnl)) (s_vret X hr dX7_init_19))))))))))))
set_option maxRecDepth 100000 in
theorem vc_X7_init {l : Launch} {g : Gm} {a0 : Nat} {a1 : Nat} {a2 : Int32} {a3 : Int32} {h : Hp} {mc ms : Nat} {P : PT} (H : ∀ G : Nat → CT, (∀ (b : Nat) (h : Hp) (cb sb : Nat) (ls : LocS) (st : List Value), bk_X7_init l g b G P h cb sb ls st → G b h cb sb ls st) → G 0 h mc ms [some (.ref a0), some (.ref a1), some (.int a2), some (.int a3)] []) : Run l g d_X7_init [.ref a0, .ref a1, .int a2, .int a3] h mc ms P :=
  Run.of (d := d_X7_init) (by decide) (mcn rfl (mcn rfl (mcn rfl (mcn rfl (mnl))))) (Nat.le_of_ble_eq_true rfl) (fun p e s m args below meth c X hr hn => H (fun b => GX g p l e s m args below meth c d_X7_init 4 mc ms h P (pc_X7_init b)) (fun b h1 cb sb ls st hb => match b, hb with
    | 0, hb => sb_X7_init_0 (p := p) (e := e) (below := below) X hr hn h1 cb sb ls st hb
    | _ + 1, hb => hb.elim))
theorem dX7_isReadInto_0 : decode cX7_isReadInto 0 = .ok (.aload_n 0, 1) := by decide +kernel
theorem dX7_isReadInto_1 : decode cX7_isReadInto 1 = .ok (.invokevirtual 22, 3) := by decide +kernel
theorem dX7_isReadInto_4 : decode cX7_isReadInto 4 = .ok (.bipush 118, 2) := by decide +kernel
theorem dX7_isReadInto_6 : decode cX7_isReadInto 6 = .ok (.if_icmp .eq 5, 3) := by decide +kernel
theorem dX7_isReadInto_9 : decode cX7_isReadInto 9 = .ok (.iconst 0, 1) := by decide +kernel
theorem dX7_isReadInto_10 : decode cX7_isReadInto 10 = .ok (.ireturn, 1) := by decide +kernel
theorem dX7_isReadInto_11 : decode cX7_isReadInto 11 = .ok (.aload_n 0, 1) := by decide +kernel
theorem dX7_isReadInto_12 : decode cX7_isReadInto 12 = .ok (.dup, 1) := by decide +kernel
theorem dX7_isReadInto_13 : decode cX7_isReadInto 13 = .ok (.getfield 26, 3) := by decide +kernel
theorem dX7_isReadInto_16 : decode cX7_isReadInto 16 = .ok (.iconst 1, 1) := by decide +kernel
theorem dX7_isReadInto_17 : decode cX7_isReadInto 17 = .ok (.iadd, 1) := by decide +kernel
theorem dX7_isReadInto_18 : decode cX7_isReadInto 18 = .ok (.putfield 26, 3) := by decide +kernel
theorem dX7_isReadInto_21 : decode cX7_isReadInto 21 = .ok (.iconst 0, 1) := by decide +kernel
theorem dX7_isReadInto_22 : decode cX7_isReadInto 22 = .ok (.istore_n 2, 1) := by decide +kernel
theorem dX7_isReadInto_23 : decode cX7_isReadInto 23 = .ok (.iload_n 2, 1) := by decide +kernel
theorem dX7_isReadInto_24 : decode cX7_isReadInto 24 = .ok (.iconst 4, 1) := by decide +kernel
theorem dX7_isReadInto_25 : decode cX7_isReadInto 25 = .ok (.if_icmp .ge 30, 3) := by decide +kernel
theorem dX7_isReadInto_28 : decode cX7_isReadInto 28 = .ok (.aload_n 0, 1) := by decide +kernel
theorem dX7_isReadInto_29 : decode cX7_isReadInto 29 = .ok (.getfield 26, 3) := by decide +kernel
theorem dX7_isReadInto_32 : decode cX7_isReadInto 32 = .ok (.aload_n 0, 1) := by decide +kernel
theorem dX7_isReadInto_33 : decode cX7_isReadInto 33 = .ok (.getfield 19, 3) := by decide +kernel
theorem dX7_isReadInto_36 : decode cX7_isReadInto 36 = .ok (.if_icmp .ge 19, 3) := by decide +kernel
theorem dX7_isReadInto_39 : decode cX7_isReadInto 39 = .ok (.aload_n 0, 1) := by decide +kernel
theorem dX7_isReadInto_40 : decode cX7_isReadInto 40 = .ok (.aload_n 1, 1) := by decide +kernel
theorem dX7_isReadInto_41 : decode cX7_isReadInto 41 = .ok (.invokevirtual 29, 3) := by decide +kernel
theorem dX7_isReadInto_44 : decode cX7_isReadInto 44 = .ok (.ifCond .ne 5, 3) := by decide +kernel
theorem dX7_isReadInto_47 : decode cX7_isReadInto 47 = .ok (.iconst 0, 1) := by decide +kernel
theorem dX7_isReadInto_48 : decode cX7_isReadInto 48 = .ok (.ireturn, 1) := by decide +kernel
theorem dX7_isReadInto_49 : decode cX7_isReadInto 49 = .ok (.iinc 2 1, 3) := by decide +kernel
theorem dX7_isReadInto_52 : decode cX7_isReadInto 52 = .ok (.goto (-29), 3) := by decide +kernel
theorem dX7_isReadInto_55 : decode cX7_isReadInto 55 = .ok (.aload_n 1, 1) := by decide +kernel
theorem dX7_isReadInto_56 : decode cX7_isReadInto 56 = .ok (.getfield 33, 3) := by decide +kernel
theorem dX7_isReadInto_59 : decode cX7_isReadInto 59 = .ok (.iconst 2, 1) := by decide +kernel
theorem dX7_isReadInto_60 : decode cX7_isReadInto 60 = .ok (.if_icmp .lt 18, 3) := by decide +kernel
theorem dX7_isReadInto_63 : decode cX7_isReadInto 63 = .ok (.aload_n 0, 1) := by decide +kernel
theorem dX7_isReadInto_64 : decode cX7_isReadInto 64 = .ok (.getfield 26, 3) := by decide +kernel
theorem dX7_isReadInto_67 : decode cX7_isReadInto 67 = .ok (.aload_n 0, 1) := by decide +kernel
theorem dX7_isReadInto_68 : decode cX7_isReadInto 68 = .ok (.getfield 19, 3) := by decide +kernel
theorem dX7_isReadInto_71 : decode cX7_isReadInto 71 = .ok (.if_icmp .ne 7, 3) := by decide +kernel
theorem dX7_isReadInto_74 : decode cX7_isReadInto 74 = .ok (.iconst 1, 1) := by decide +kernel
theorem dX7_isReadInto_75 : decode cX7_isReadInto 75 = .ok (.goto 4, 3) := by decide +kernel
theorem dX7_isReadInto_78 : decode cX7_isReadInto 78 = .ok (.iconst 0, 1) := by decide +kernel
theorem dX7_isReadInto_79 : decode cX7_isReadInto 79 = .ok (.ireturn, 1) := by decide +kernel
def bk_X7_isReadInto_0 (l : Launch) (g : Gm) (G : Nat → CT) (P : PT) : CT := (oALd 0 (oCallV l g [(7, d_X7_code)] 1 (oPush (.int (118)) (oCmp (fun x y => x = y) (oALd 0 (oDup (oGet [7] 3 (oPush (.int (1)) (oBin (fun x y => x + y) (oPutI [7] 3 (oPush (.int (0)) (oISt 2 (G 1))))))))) (oPush (.int (0)) (oZRet P))))))
def bk_X7_isReadInto_1 (l : Launch) (g : Gm) (G : Nat → CT) (P : PT) : CT := (oILd 2 (oPush (.int (4)) (oCmp (fun x y => y ≤ x) (G 2) (oALd 0 (oGet [7] 3 (oALd 0 (oGet [7] 2 (oCmp (fun x y => y ≤ x) (G 2) (oALd 0 (oALd 1 (oCallV l g [(7, d_X7_isVillageRead)] 2 (oIf (fun x => x = 0) (oPush (.int (0)) (oZRet P)) (oInc 2 (1) (oGo (G 1)))))))))))))))
def bk_X7_isReadInto_2 (l : Launch) (g : Gm) (G : Nat → CT) (P : PT) : CT := (oALd 1 (oGet [2] 4 (oPush (.int (2)) (oCmp (fun x y => x < y) (oPush (.int (0)) (oZRet P)) (oALd 0 (oGet [7] 3 (oALd 0 (oGet [7] 2 (oCmp (fun x y => x = y) (oPush (.int (1)) (oGo (oZRet P))) (oPush (.int (0)) (oZRet P)))))))))))
def bk_X7_isReadInto (l : Launch) (g : Gm) (b : Nat) (G : Nat → CT) (P : PT) : CT := match b with
  | 0 => bk_X7_isReadInto_0 l g G P
  | 1 => bk_X7_isReadInto_1 l g G P
  | 2 => bk_X7_isReadInto_2 l g G P
  | _ => fun _ _ _ _ _ => False
def pc_X7_isReadInto (b : Nat) : Nat := match b with
  | 0 => 0
  | 1 => 23
  | 2 => 55
  | _ => 0
set_option maxRecDepth 100000 in
theorem sb_X7_isReadInto_0 {p : Program} {l : Launch} {e : Env} {s : State} {m : MethodId} {args : Array Value} {below : List Frame} {meth : Method} {c : Code} {g : Gm} {h0 : Hp} {P : PT} {mc ms : Nat} (X : Cx g p s m args meth c (Adom h0 s.heap.size) cX7_isReadInto RX7 3) (hr : meth.sig.returnType = some .boolean) (hn : meth.name = "isReadInto") : SX g p l e s m args below meth c d_X7_isReadInto 3 mc ms h0 P (bk_X7_isReadInto_0 l g (fun b => GX g p l e s m args below meth c d_X7_isReadInto 3 mc ms h0 P (pc_X7_isReadInto b)) P) 0 := (s_aload_n X dX7_isReadInto_0 rfl (s_callV X dX7_isReadInto_1 (mv (vok_V X rfl uw_244 uw_246 (UW_pr 1 rfl rfl) uw_8 ci_X7_code yok_X7_code ⟨Nat.le_of_ble_eq_true rfl, Nat.le_of_ble_eq_true rfl⟩) mv0) (s_bipush X dX7_isReadInto_4 rfl (s_icmp_eq X dX7_isReadInto_6 (by decide) (s_aload_n X dX7_isReadInto_11 rfl (s_dup X dX7_isReadInto_12 (s_get X dX7_isReadInto_13 (mcn (⟨_, _, _, _, rfl, inU_X7, by decide, uw_229, rfl⟩) (mnl)) (s_iconst X dX7_isReadInto_16 rfl (s_iadd X dX7_isReadInto_17 (s_putI X dX7_isReadInto_18 (mcn (⟨_, _, _, _, tyX7, rfl, inU_X7, by decide, uw_229, rfl, tyX7_ok, nmX7, rfl, rfl⟩) (mnl)) (s_iconst X dX7_isReadInto_21 rfl (s_istore_n X dX7_isReadInto_22 rfl (by decide) Sd.rf)))))))) (s_iconst X dX7_isReadInto_9 rfl (s_zret X hr dX7_isReadInto_10))))))
set_option maxRecDepth 100000 in
theorem sb_X7_isReadInto_1 {p : Program} {l : Launch} {e : Env} {s : State} {m : MethodId} {args : Array Value} {below : List Frame} {meth : Method} {c : Code} {g : Gm} {h0 : Hp} {P : PT} {mc ms : Nat} (X : Cx g p s m args meth c (Adom h0 s.heap.size) cX7_isReadInto RX7 3) (hr : meth.sig.returnType = some .boolean) (hn : meth.name = "isReadInto") : SX g p l e s m args below meth c d_X7_isReadInto 3 mc ms h0 P (bk_X7_isReadInto_1 l g (fun b => GX g p l e s m args below meth c d_X7_isReadInto 3 mc ms h0 P (pc_X7_isReadInto b)) P) 23 := (s_iload_n X dX7_isReadInto_23 rfl (s_iconst X dX7_isReadInto_24 rfl (s_icmp_ge X dX7_isReadInto_25 (by decide) Sd.rf (s_aload_n X dX7_isReadInto_28 rfl (s_get X dX7_isReadInto_29 (mcn (⟨_, _, _, _, rfl, inU_X7, by decide, uw_229, rfl⟩) (mnl)) (s_aload_n X dX7_isReadInto_32 rfl (s_get X dX7_isReadInto_33 (mcn (⟨_, _, _, _, rfl, inU_X7, by decide, uw_228, rfl⟩) (mnl)) (s_icmp_ge X dX7_isReadInto_36 (by decide) Sd.rf (s_aload_n X dX7_isReadInto_39 rfl (s_aload_n X dX7_isReadInto_40 rfl (s_callV X dX7_isReadInto_41 (mv (vok_V X rfl uw_248 uw_250 (UW_pr 2 rfl rfl) uw_8 ci_X7_isVillageRead yok_X7_isVillageRead ⟨Nat.le_of_ble_eq_true rfl, Nat.le_of_ble_eq_true rfl⟩) mv0) (s_if_ne X dX7_isReadInto_44 (by decide) (s_iinc X dX7_isReadInto_49 rfl (by decide) (s_goto X dX7_isReadInto_52 (by decide) Sd.rf)) (s_iconst X dX7_isReadInto_47 rfl (s_zret X hr dX7_isReadInto_48))))))))))))))
set_option maxRecDepth 100000 in
theorem sb_X7_isReadInto_2 {p : Program} {l : Launch} {e : Env} {s : State} {m : MethodId} {args : Array Value} {below : List Frame} {meth : Method} {c : Code} {g : Gm} {h0 : Hp} {P : PT} {mc ms : Nat} (X : Cx g p s m args meth c (Adom h0 s.heap.size) cX7_isReadInto RX7 3) (hr : meth.sig.returnType = some .boolean) (hn : meth.name = "isReadInto") : SX g p l e s m args below meth c d_X7_isReadInto 3 mc ms h0 P (bk_X7_isReadInto_2 l g (fun b => GX g p l e s m args below meth c d_X7_isReadInto 3 mc ms h0 P (pc_X7_isReadInto b)) P) 55 := (s_aload_n X dX7_isReadInto_55 rfl (s_get X dX7_isReadInto_56 (mcn (⟨_, _, _, _, rfl, inU_X2, by decide, uw_88, rfl⟩) (mnl)) (s_iconst X dX7_isReadInto_59 rfl (s_icmp_lt X dX7_isReadInto_60 (by decide) (s_iconst X dX7_isReadInto_78 rfl (s_zret X hr dX7_isReadInto_79)) (s_aload_n X dX7_isReadInto_63 rfl (s_get X dX7_isReadInto_64 (mcn (⟨_, _, _, _, rfl, inU_X7, by decide, uw_229, rfl⟩) (mnl)) (s_aload_n X dX7_isReadInto_67 rfl (s_get X dX7_isReadInto_68 (mcn (⟨_, _, _, _, rfl, inU_X7, by decide, uw_228, rfl⟩) (mnl)) (s_icmp_ne X dX7_isReadInto_71 (by decide) (s_iconst X dX7_isReadInto_78 rfl (s_zret X hr dX7_isReadInto_79)) (s_iconst X dX7_isReadInto_74 rfl (s_goto X dX7_isReadInto_75 (by decide) (s_zret X hr dX7_isReadInto_79))))))))))))
set_option maxRecDepth 100000 in
theorem vc_X7_isReadInto {l : Launch} {g : Gm} {a0 : Nat} {a1 : Nat} {h : Hp} {mc ms : Nat} {P : PT} (H : ∀ G : Nat → CT, (∀ (b : Nat) (h : Hp) (cb sb : Nat) (ls : LocS) (st : List Value), bk_X7_isReadInto l g b G P h cb sb ls st → G b h cb sb ls st) → G 0 h mc ms [some (.ref a0), some (.ref a1), none] []) : Run l g d_X7_isReadInto [.ref a0, .ref a1] h mc ms P :=
  Run.of (d := d_X7_isReadInto) (by decide) (mcn rfl (mcn rfl (mnl))) (Nat.le_of_ble_eq_true rfl) (fun p e s m args below meth c X hr hn => H (fun b => GX g p l e s m args below meth c d_X7_isReadInto 3 mc ms h P (pc_X7_isReadInto b)) (fun b h1 cb sb ls st hb => match b, hb with
    | 0, hb => sb_X7_isReadInto_0 (p := p) (e := e) (below := below) X hr hn h1 cb sb ls st hb
    | 1, hb => sb_X7_isReadInto_1 (p := p) (e := e) (below := below) X hr hn h1 cb sb ls st hb
    | 2, hb => sb_X7_isReadInto_2 (p := p) (e := e) (below := below) X hr hn h1 cb sb ls st hb
    | _ + 3, hb => hb.elim))
theorem dX7_isVillageRead_0 : decode cX7_isVillageRead 0 = .ok (.aload_n 0, 1) := by decide +kernel
theorem dX7_isVillageRead_1 : decode cX7_isVillageRead 1 = .ok (.invokevirtual 22, 3) := by decide +kernel
theorem dX7_isVillageRead_4 : decode cX7_isVillageRead 4 = .ok (.bipush 59, 2) := by decide +kernel
theorem dX7_isVillageRead_6 : decode cX7_isVillageRead 6 = .ok (.if_icmp .eq 5, 3) := by decide +kernel
theorem dX7_isVillageRead_9 : decode cX7_isVillageRead 9 = .ok (.iconst 0, 1) := by decide +kernel
theorem dX7_isVillageRead_10 : decode cX7_isVillageRead 10 = .ok (.ireturn, 1) := by decide +kernel
theorem dX7_isVillageRead_11 : decode cX7_isVillageRead 11 = .ok (.aload_n 0, 1) := by decide +kernel
theorem dX7_isVillageRead_12 : decode cX7_isVillageRead 12 = .ok (.dup, 1) := by decide +kernel
theorem dX7_isVillageRead_13 : decode cX7_isVillageRead 13 = .ok (.getfield 26, 3) := by decide +kernel
theorem dX7_isVillageRead_16 : decode cX7_isVillageRead 16 = .ok (.iconst 1, 1) := by decide +kernel
theorem dX7_isVillageRead_17 : decode cX7_isVillageRead 17 = .ok (.iadd, 1) := by decide +kernel
theorem dX7_isVillageRead_18 : decode cX7_isVillageRead 18 = .ok (.putfield 26, 3) := by decide +kernel
theorem dX7_isVillageRead_21 : decode cX7_isVillageRead 21 = .ok (.aload_n 0, 1) := by decide +kernel
theorem dX7_isVillageRead_22 : decode cX7_isVillageRead 22 = .ok (.invokevirtual 22, 3) := by decide +kernel
theorem dX7_isVillageRead_25 : decode cX7_isVillageRead 25 = .ok (.invokestatic 38, 3) := by decide +kernel
theorem dX7_isVillageRead_28 : decode cX7_isVillageRead 28 = .ok (.istore_n 2, 1) := by decide +kernel
theorem dX7_isVillageRead_29 : decode cX7_isVillageRead 29 = .ok (.iload_n 2, 1) := by decide +kernel
theorem dX7_isVillageRead_30 : decode cX7_isVillageRead 30 = .ok (.bipush (-9), 2) := by decide +kernel
theorem dX7_isVillageRead_32 : decode cX7_isVillageRead 32 = .ok (.if_icmp .ne 5, 3) := by decide +kernel
theorem dX7_isVillageRead_35 : decode cX7_isVillageRead 35 = .ok (.iconst 0, 1) := by decide +kernel
theorem dX7_isVillageRead_36 : decode cX7_isVillageRead 36 = .ok (.ireturn, 1) := by decide +kernel
theorem dX7_isVillageRead_37 : decode cX7_isVillageRead 37 = .ok (.aload_n 0, 1) := by decide +kernel
theorem dX7_isVillageRead_38 : decode cX7_isVillageRead 38 = .ok (.dup, 1) := by decide +kernel
theorem dX7_isVillageRead_39 : decode cX7_isVillageRead 39 = .ok (.getfield 26, 3) := by decide +kernel
theorem dX7_isVillageRead_42 : decode cX7_isVillageRead 42 = .ok (.iconst 1, 1) := by decide +kernel
theorem dX7_isVillageRead_43 : decode cX7_isVillageRead 43 = .ok (.iadd, 1) := by decide +kernel
theorem dX7_isVillageRead_44 : decode cX7_isVillageRead 44 = .ok (.putfield 26, 3) := by decide +kernel
theorem dX7_isVillageRead_47 : decode cX7_isVillageRead 47 = .ok (.aload_n 1, 1) := by decide +kernel
theorem dX7_isVillageRead_48 : decode cX7_isVillageRead 48 = .ok (.iload_n 2, 1) := by decide +kernel
theorem dX7_isVillageRead_49 : decode cX7_isVillageRead 49 = .ok (.invokevirtual 42, 3) := by decide +kernel
theorem dX7_isVillageRead_52 : decode cX7_isVillageRead 52 = .ok (.iconst 0, 1) := by decide +kernel
theorem dX7_isVillageRead_53 : decode cX7_isVillageRead 53 = .ok (.istore_n 3, 1) := by decide +kernel
theorem dX7_isVillageRead_54 : decode cX7_isVillageRead 54 = .ok (.iload_n 3, 1) := by decide +kernel
theorem dX7_isVillageRead_55 : decode cX7_isVillageRead 55 = .ok (.iconst 5, 1) := by decide +kernel
theorem dX7_isVillageRead_56 : decode cX7_isVillageRead 56 = .ok (.if_icmp .ge 86, 3) := by decide +kernel
theorem dX7_isVillageRead_59 : decode cX7_isVillageRead 59 = .ok (.aload_n 0, 1) := by decide +kernel
theorem dX7_isVillageRead_60 : decode cX7_isVillageRead 60 = .ok (.invokevirtual 22, 3) := by decide +kernel
theorem dX7_isVillageRead_63 : decode cX7_isVillageRead 63 = .ok (.invokestatic 46, 3) := by decide +kernel
theorem dX7_isVillageRead_66 : decode cX7_isVillageRead 66 = .ok (.bipush (-9), 2) := by decide +kernel
theorem dX7_isVillageRead_68 : decode cX7_isVillageRead 68 = .ok (.if_icmp .eq 74, 3) := by decide +kernel
theorem dX7_isVillageRead_71 : decode cX7_isVillageRead 71 = .ok (.aload_n 0, 1) := by decide +kernel
theorem dX7_isVillageRead_72 : decode cX7_isVillageRead 72 = .ok (.invokevirtual 22, 3) := by decide +kernel
theorem dX7_isVillageRead_75 : decode cX7_isVillageRead 75 = .ok (.invokestatic 46, 3) := by decide +kernel
theorem dX7_isVillageRead_78 : decode cX7_isVillageRead 78 = .ok (.istore 4, 2) := by decide +kernel
theorem dX7_isVillageRead_80 : decode cX7_isVillageRead 80 = .ok (.aload_n 0, 1) := by decide +kernel
theorem dX7_isVillageRead_81 : decode cX7_isVillageRead 81 = .ok (.dup, 1) := by decide +kernel
theorem dX7_isVillageRead_82 : decode cX7_isVillageRead 82 = .ok (.getfield 26, 3) := by decide +kernel
theorem dX7_isVillageRead_85 : decode cX7_isVillageRead 85 = .ok (.iconst 1, 1) := by decide +kernel
theorem dX7_isVillageRead_86 : decode cX7_isVillageRead 86 = .ok (.iadd, 1) := by decide +kernel
theorem dX7_isVillageRead_87 : decode cX7_isVillageRead 87 = .ok (.putfield 26, 3) := by decide +kernel
theorem dX7_isVillageRead_90 : decode cX7_isVillageRead 90 = .ok (.aload_n 0, 1) := by decide +kernel
theorem dX7_isVillageRead_91 : decode cX7_isVillageRead 91 = .ok (.invokevirtual 22, 3) := by decide +kernel
theorem dX7_isVillageRead_94 : decode cX7_isVillageRead 94 = .ok (.bipush 48, 2) := by decide +kernel
theorem dX7_isVillageRead_96 : decode cX7_isVillageRead 96 = .ok (.if_icmp .lt 15, 3) := by decide +kernel
theorem dX7_isVillageRead_99 : decode cX7_isVillageRead 99 = .ok (.aload_n 0, 1) := by decide +kernel
theorem dX7_isVillageRead_100 : decode cX7_isVillageRead 100 = .ok (.invokevirtual 22, 3) := by decide +kernel
theorem dX7_isVillageRead_103 : decode cX7_isVillageRead 103 = .ok (.iload 4, 2) := by decide +kernel
theorem dX7_isVillageRead_105 : decode cX7_isVillageRead 105 = .ok (.invokestatic 49, 3) := by decide +kernel
theorem dX7_isVillageRead_108 : decode cX7_isVillageRead 108 = .ok (.if_icmp .le 5, 3) := by decide +kernel
theorem dX7_isVillageRead_111 : decode cX7_isVillageRead 111 = .ok (.iconst 0, 1) := by decide +kernel
theorem dX7_isVillageRead_112 : decode cX7_isVillageRead 112 = .ok (.ireturn, 1) := by decide +kernel
theorem dX7_isVillageRead_113 : decode cX7_isVillageRead 113 = .ok (.aload_n 1, 1) := by decide +kernel
theorem dX7_isVillageRead_114 : decode cX7_isVillageRead 114 = .ok (.iload 4, 2) := by decide +kernel
theorem dX7_isVillageRead_116 : decode cX7_isVillageRead 116 = .ok (.aload_n 0, 1) := by decide +kernel
theorem dX7_isVillageRead_117 : decode cX7_isVillageRead 117 = .ok (.invokevirtual 22, 3) := by decide +kernel
theorem dX7_isVillageRead_120 : decode cX7_isVillageRead 120 = .ok (.bipush 48, 2) := by decide +kernel
theorem dX7_isVillageRead_122 : decode cX7_isVillageRead 122 = .ok (.isub, 1) := by decide +kernel
theorem dX7_isVillageRead_123 : decode cX7_isVillageRead 123 = .ok (.invokevirtual 52, 3) := by decide +kernel
theorem dX7_isVillageRead_126 : decode cX7_isVillageRead 126 = .ok (.aload_n 0, 1) := by decide +kernel
theorem dX7_isVillageRead_127 : decode cX7_isVillageRead 127 = .ok (.dup, 1) := by decide +kernel
theorem dX7_isVillageRead_128 : decode cX7_isVillageRead 128 = .ok (.getfield 26, 3) := by decide +kernel
theorem dX7_isVillageRead_131 : decode cX7_isVillageRead 131 = .ok (.iconst 1, 1) := by decide +kernel
theorem dX7_isVillageRead_132 : decode cX7_isVillageRead 132 = .ok (.iadd, 1) := by decide +kernel
theorem dX7_isVillageRead_133 : decode cX7_isVillageRead 133 = .ok (.putfield 26, 3) := by decide +kernel
theorem dX7_isVillageRead_136 : decode cX7_isVillageRead 136 = .ok (.iinc 3 1, 3) := by decide +kernel
theorem dX7_isVillageRead_139 : decode cX7_isVillageRead 139 = .ok (.goto (-85), 3) := by decide +kernel
theorem dX7_isVillageRead_142 : decode cX7_isVillageRead 142 = .ok (.iload_n 3, 1) := by decide +kernel
theorem dX7_isVillageRead_143 : decode cX7_isVillageRead 143 = .ok (.ifCond .le 7, 3) := by decide +kernel
theorem dX7_isVillageRead_146 : decode cX7_isVillageRead 146 = .ok (.iconst 1, 1) := by decide +kernel
theorem dX7_isVillageRead_147 : decode cX7_isVillageRead 147 = .ok (.goto 4, 3) := by decide +kernel
theorem dX7_isVillageRead_150 : decode cX7_isVillageRead 150 = .ok (.iconst 0, 1) := by decide +kernel
theorem dX7_isVillageRead_151 : decode cX7_isVillageRead 151 = .ok (.ireturn, 1) := by decide +kernel
def bk_X7_isVillageRead_0 (l : Launch) (g : Gm) (G : Nat → CT) (P : PT) : CT := (oALd 0 (oCallV l g [(7, d_X7_code)] 1 (oPush (.int (59)) (oCmp (fun x y => x = y) (oALd 0 (oDup (oGet [7] 3 (oPush (.int (1)) (oBin (fun x y => x + y) (oPutI [7] 3 (oALd 0 (oCallV l g [(7, d_X7_code)] 1 (oCall l g d_X7_kindOf 1 (oISt 2 (oILd 2 (oPush (.int (-9)) (oCmp (fun x y => x = y) (oPush (.int (0)) (oZRet P)) (oALd 0 (oDup (oGet [7] 3 (oPush (.int (1)) (oBin (fun x y => x + y) (oPutI [7] 3 (oALd 1 (oILd 2 (oCallV l g [(2, d_X2_settle)] 2 (oPush (.int (0)) (oISt 3 (G 1))))))))))))))))))))))))) (oPush (.int (0)) (oZRet P))))))
def bk_X7_isVillageRead_1 (l : Launch) (g : Gm) (G : Nat → CT) (P : PT) : CT := (oILd 3 (oPush (.int (5)) (oCmp (fun x y => y ≤ x) (G 2) (oALd 0 (oCallV l g [(7, d_X7_code)] 1 (oCall l g d_X7_whatOf 1 (oPush (.int (-9)) (oCmp (fun x y => x = y) (G 2) (oALd 0 (oCallV l g [(7, d_X7_code)] 1 (oCall l g d_X7_whatOf 1 (oISt 4 (oALd 0 (oDup (oGet [7] 3 (oPush (.int (1)) (oBin (fun x y => x + y) (oPutI [7] 3 (oALd 0 (oCallV l g [(7, d_X7_code)] 1 (oPush (.int (48)) (oCmp (fun x y => x < y) (oPush (.int (0)) (oZRet P)) (oALd 0 (oCallV l g [(7, d_X7_code)] 1 (oILd 4 (oCall l g d_X7_greatestDigit 1 (oCmp (fun x y => x ≤ y) (oALd 1 (oILd 4 (oALd 0 (oCallV l g [(7, d_X7_code)] 1 (oPush (.int (48)) (oBin (fun x y => x - y) (oCallV l g [(2, d_X2_addThing)] 3 (oALd 0 (oDup (oGet [7] 3 (oPush (.int (1)) (oBin (fun x y => x + y) (oPutI [7] 3 (oInc 3 (1) (oGo (G 1)))))))))))))))) (oPush (.int (0)) (oZRet P)))))))))))))))))))))))))))))
def bk_X7_isVillageRead_2 (l : Launch) (g : Gm) (G : Nat → CT) (P : PT) : CT := (oILd 3 (oIf (fun x => x ≤ 0) (oPush (.int (0)) (oZRet P)) (oPush (.int (1)) (oGo (oZRet P)))))
def bk_X7_isVillageRead (l : Launch) (g : Gm) (b : Nat) (G : Nat → CT) (P : PT) : CT := match b with
  | 0 => bk_X7_isVillageRead_0 l g G P
  | 1 => bk_X7_isVillageRead_1 l g G P
  | 2 => bk_X7_isVillageRead_2 l g G P
  | _ => fun _ _ _ _ _ => False
def pc_X7_isVillageRead (b : Nat) : Nat := match b with
  | 0 => 0
  | 1 => 54
  | 2 => 142
  | _ => 0
set_option maxRecDepth 100000 in
theorem sb_X7_isVillageRead_0 {p : Program} {l : Launch} {e : Env} {s : State} {m : MethodId} {args : Array Value} {below : List Frame} {meth : Method} {c : Code} {g : Gm} {h0 : Hp} {P : PT} {mc ms : Nat} (X : Cx g p s m args meth c (Adom h0 s.heap.size) cX7_isVillageRead RX7 5) (hr : meth.sig.returnType = some .boolean) (hn : meth.name = "isVillageRead") : SX g p l e s m args below meth c d_X7_isVillageRead 5 mc ms h0 P (bk_X7_isVillageRead_0 l g (fun b => GX g p l e s m args below meth c d_X7_isVillageRead 5 mc ms h0 P (pc_X7_isVillageRead b)) P) 0 := (s_aload_n X dX7_isVillageRead_0 rfl (s_callV X dX7_isVillageRead_1 (mv (vok_V X rfl uw_244 uw_246 (UW_pr 1 rfl rfl) uw_8 ci_X7_code yok_X7_code ⟨Nat.le_of_ble_eq_true rfl, Nat.le_of_ble_eq_true rfl⟩) mv0) (s_bipush X dX7_isVillageRead_4 rfl (s_icmp_eq X dX7_isVillageRead_6 (by decide) (s_aload_n X dX7_isVillageRead_11 rfl (s_dup X dX7_isVillageRead_12 (s_get X dX7_isVillageRead_13 (mcn (⟨_, _, _, _, rfl, inU_X7, by decide, uw_229, rfl⟩) (mnl)) (s_iconst X dX7_isVillageRead_16 rfl (s_iadd X dX7_isVillageRead_17 (s_putI X dX7_isVillageRead_18 (mcn (⟨_, _, _, _, tyX7, rfl, inU_X7, by decide, uw_229, rfl, tyX7_ok, nmX7, rfl, rfl⟩) (mnl)) (s_aload_n X dX7_isVillageRead_21 rfl (s_callV X dX7_isVillageRead_22 (mv (vok_V X rfl uw_244 uw_246 (UW_pr 1 rfl rfl) uw_8 ci_X7_code yok_X7_code ⟨Nat.le_of_ble_eq_true rfl, Nat.le_of_ble_eq_true rfl⟩) mv0) (s_callS X dX7_isVillageRead_25 uw_252 uw_253 uw_8 ci_X7_kindOf yok_X7_kindOf ⟨Nat.le_of_ble_eq_true rfl, Nat.le_of_ble_eq_true rfl⟩ (s_istore_n X dX7_isVillageRead_28 rfl (by decide) (s_iload_n X dX7_isVillageRead_29 rfl (s_bipush X dX7_isVillageRead_30 rfl (s_icmp_ne X dX7_isVillageRead_32 (by decide) (s_aload_n X dX7_isVillageRead_37 rfl (s_dup X dX7_isVillageRead_38 (s_get X dX7_isVillageRead_39 (mcn (⟨_, _, _, _, rfl, inU_X7, by decide, uw_229, rfl⟩) (mnl)) (s_iconst X dX7_isVillageRead_42 rfl (s_iadd X dX7_isVillageRead_43 (s_putI X dX7_isVillageRead_44 (mcn (⟨_, _, _, _, tyX7, rfl, inU_X7, by decide, uw_229, rfl, tyX7_ok, nmX7, rfl, rfl⟩) (mnl)) (s_aload_n X dX7_isVillageRead_47 rfl (s_iload_n X dX7_isVillageRead_48 rfl (s_callV X dX7_isVillageRead_49 (mv (vok_V X rfl uw_255 uw_256 uw_257 uw_3 ci_X2_settle yok_X2_settle ⟨Nat.le_of_ble_eq_true rfl, Nat.le_of_ble_eq_true rfl⟩) mv0) (s_iconst X dX7_isVillageRead_52 rfl (s_istore_n X dX7_isVillageRead_53 rfl (by decide) Sd.rf))))))))))) (s_iconst X dX7_isVillageRead_35 rfl (s_zret X hr dX7_isVillageRead_36))))))))))))))) (s_iconst X dX7_isVillageRead_9 rfl (s_zret X hr dX7_isVillageRead_10))))))
set_option maxRecDepth 100000 in
theorem sb_X7_isVillageRead_1 {p : Program} {l : Launch} {e : Env} {s : State} {m : MethodId} {args : Array Value} {below : List Frame} {meth : Method} {c : Code} {g : Gm} {h0 : Hp} {P : PT} {mc ms : Nat} (X : Cx g p s m args meth c (Adom h0 s.heap.size) cX7_isVillageRead RX7 5) (hr : meth.sig.returnType = some .boolean) (hn : meth.name = "isVillageRead") : SX g p l e s m args below meth c d_X7_isVillageRead 5 mc ms h0 P (bk_X7_isVillageRead_1 l g (fun b => GX g p l e s m args below meth c d_X7_isVillageRead 5 mc ms h0 P (pc_X7_isVillageRead b)) P) 54 := (s_iload_n X dX7_isVillageRead_54 rfl (s_iconst X dX7_isVillageRead_55 rfl (s_icmp_ge X dX7_isVillageRead_56 (by decide) Sd.rf (s_aload_n X dX7_isVillageRead_59 rfl (s_callV X dX7_isVillageRead_60 (mv (vok_V X rfl uw_244 uw_246 (UW_pr 1 rfl rfl) uw_8 ci_X7_code yok_X7_code ⟨Nat.le_of_ble_eq_true rfl, Nat.le_of_ble_eq_true rfl⟩) mv0) (s_callS X dX7_isVillageRead_63 uw_320 uw_321 uw_8 ci_X7_whatOf yok_X7_whatOf ⟨Nat.le_of_ble_eq_true rfl, Nat.le_of_ble_eq_true rfl⟩ (s_bipush X dX7_isVillageRead_66 rfl (s_icmp_eq X dX7_isVillageRead_68 (by decide) Sd.rf (s_aload_n X dX7_isVillageRead_71 rfl (s_callV X dX7_isVillageRead_72 (mv (vok_V X rfl uw_244 uw_246 (UW_pr 1 rfl rfl) uw_8 ci_X7_code yok_X7_code ⟨Nat.le_of_ble_eq_true rfl, Nat.le_of_ble_eq_true rfl⟩) mv0) (s_callS X dX7_isVillageRead_75 uw_320 uw_321 uw_8 ci_X7_whatOf yok_X7_whatOf ⟨Nat.le_of_ble_eq_true rfl, Nat.le_of_ble_eq_true rfl⟩ (s_istore X dX7_isVillageRead_78 (by decide) (s_aload_n X dX7_isVillageRead_80 rfl (s_dup X dX7_isVillageRead_81 (s_get X dX7_isVillageRead_82 (mcn (⟨_, _, _, _, rfl, inU_X7, by decide, uw_229, rfl⟩) (mnl)) (s_iconst X dX7_isVillageRead_85 rfl (s_iadd X dX7_isVillageRead_86 (s_putI X dX7_isVillageRead_87 (mcn (⟨_, _, _, _, tyX7, rfl, inU_X7, by decide, uw_229, rfl, tyX7_ok, nmX7, rfl, rfl⟩) (mnl)) (s_aload_n X dX7_isVillageRead_90 rfl (s_callV X dX7_isVillageRead_91 (mv (vok_V X rfl uw_244 uw_246 (UW_pr 1 rfl rfl) uw_8 ci_X7_code yok_X7_code ⟨Nat.le_of_ble_eq_true rfl, Nat.le_of_ble_eq_true rfl⟩) mv0) (s_bipush X dX7_isVillageRead_94 rfl (s_icmp_lt X dX7_isVillageRead_96 (by decide) (s_iconst X dX7_isVillageRead_111 rfl (s_zret X hr dX7_isVillageRead_112)) (s_aload_n X dX7_isVillageRead_99 rfl (s_callV X dX7_isVillageRead_100 (mv (vok_V X rfl uw_244 uw_246 (UW_pr 1 rfl rfl) uw_8 ci_X7_code yok_X7_code ⟨Nat.le_of_ble_eq_true rfl, Nat.le_of_ble_eq_true rfl⟩) mv0) (s_iload X dX7_isVillageRead_103 (s_callS X dX7_isVillageRead_105 uw_323 uw_324 uw_8 ci_X7_greatestDigit yok_X7_greatestDigit ⟨Nat.le_of_ble_eq_true rfl, Nat.le_of_ble_eq_true rfl⟩ (s_icmp_le X dX7_isVillageRead_108 (by decide) (s_aload_n X dX7_isVillageRead_113 rfl (s_iload X dX7_isVillageRead_114 (s_aload_n X dX7_isVillageRead_116 rfl (s_callV X dX7_isVillageRead_117 (mv (vok_V X rfl uw_244 uw_246 (UW_pr 1 rfl rfl) uw_8 ci_X7_code yok_X7_code ⟨Nat.le_of_ble_eq_true rfl, Nat.le_of_ble_eq_true rfl⟩) mv0) (s_bipush X dX7_isVillageRead_120 rfl (s_isub X dX7_isVillageRead_122 (s_callV X dX7_isVillageRead_123 (mv (vok_V X rfl uw_326 uw_327 uw_328 uw_3 ci_X2_addThing yok_X2_addThing ⟨Nat.le_of_ble_eq_true rfl, Nat.le_of_ble_eq_true rfl⟩) mv0) (s_aload_n X dX7_isVillageRead_126 rfl (s_dup X dX7_isVillageRead_127 (s_get X dX7_isVillageRead_128 (mcn (⟨_, _, _, _, rfl, inU_X7, by decide, uw_229, rfl⟩) (mnl)) (s_iconst X dX7_isVillageRead_131 rfl (s_iadd X dX7_isVillageRead_132 (s_putI X dX7_isVillageRead_133 (mcn (⟨_, _, _, _, tyX7, rfl, inU_X7, by decide, uw_229, rfl, tyX7_ok, nmX7, rfl, rfl⟩) (mnl)) (s_iinc X dX7_isVillageRead_136 rfl (by decide) (s_goto X dX7_isVillageRead_139 (by decide) Sd.rf))))))))))))))) (s_iconst X dX7_isVillageRead_111 rfl (s_zret X hr dX7_isVillageRead_112)))))))))))))))))))))))))))))
set_option maxRecDepth 100000 in
theorem sb_X7_isVillageRead_2 {p : Program} {l : Launch} {e : Env} {s : State} {m : MethodId} {args : Array Value} {below : List Frame} {meth : Method} {c : Code} {g : Gm} {h0 : Hp} {P : PT} {mc ms : Nat} (X : Cx g p s m args meth c (Adom h0 s.heap.size) cX7_isVillageRead RX7 5) (hr : meth.sig.returnType = some .boolean) (hn : meth.name = "isVillageRead") : SX g p l e s m args below meth c d_X7_isVillageRead 5 mc ms h0 P (bk_X7_isVillageRead_2 l g (fun b => GX g p l e s m args below meth c d_X7_isVillageRead 5 mc ms h0 P (pc_X7_isVillageRead b)) P) 142 := (s_iload_n X dX7_isVillageRead_142 rfl (s_if_le X dX7_isVillageRead_143 (by decide) (s_iconst X dX7_isVillageRead_150 rfl (s_zret X hr dX7_isVillageRead_151)) (s_iconst X dX7_isVillageRead_146 rfl (s_goto X dX7_isVillageRead_147 (by decide) (s_zret X hr dX7_isVillageRead_151)))))
set_option maxRecDepth 100000 in
theorem vc_X7_isVillageRead {l : Launch} {g : Gm} {a0 : Nat} {a1 : Nat} {h : Hp} {mc ms : Nat} {P : PT} (H : ∀ G : Nat → CT, (∀ (b : Nat) (h : Hp) (cb sb : Nat) (ls : LocS) (st : List Value), bk_X7_isVillageRead l g b G P h cb sb ls st → G b h cb sb ls st) → G 0 h mc ms [some (.ref a0), some (.ref a1), none, none, none] []) : Run l g d_X7_isVillageRead [.ref a0, .ref a1] h mc ms P :=
  Run.of (d := d_X7_isVillageRead) (by decide) (mcn rfl (mcn rfl (mnl))) (Nat.le_of_ble_eq_true rfl) (fun p e s m args below meth c X hr hn => H (fun b => GX g p l e s m args below meth c d_X7_isVillageRead 5 mc ms h P (pc_X7_isVillageRead b)) (fun b h1 cb sb ls st hb => match b, hb with
    | 0, hb => sb_X7_isVillageRead_0 (p := p) (e := e) (below := below) X hr hn h1 cb sb ls st hb
    | 1, hb => sb_X7_isVillageRead_1 (p := p) (e := e) (below := below) X hr hn h1 cb sb ls st hb
    | 2, hb => sb_X7_isVillageRead_2 (p := p) (e := e) (below := below) X hr hn h1 cb sb ls st hb
    | _ + 3, hb => hb.elim))
theorem dX7_code_0 : decode cX7_code 0 = .ok (.aload_n 0, 1) := by decide +kernel
theorem dX7_code_1 : decode cX7_code 1 = .ok (.getfield 26, 3) := by decide +kernel
theorem dX7_code_4 : decode cX7_code 4 = .ok (.aload_n 0, 1) := by decide +kernel
theorem dX7_code_5 : decode cX7_code 5 = .ok (.getfield 19, 3) := by decide +kernel
theorem dX7_code_8 : decode cX7_code 8 = .ok (.if_icmp .ge 23, 3) := by decide +kernel
theorem dX7_code_11 : decode cX7_code 11 = .ok (.aload_n 0, 1) := by decide +kernel
theorem dX7_code_12 : decode cX7_code 12 = .ok (.getfield 9, 3) := by decide +kernel
theorem dX7_code_15 : decode cX7_code 15 = .ok (.getfield 56, 3) := by decide +kernel
theorem dX7_code_18 : decode cX7_code 18 = .ok (.aload_n 0, 1) := by decide +kernel
theorem dX7_code_19 : decode cX7_code 19 = .ok (.getfield 15, 3) := by decide +kernel
theorem dX7_code_22 : decode cX7_code 22 = .ok (.aload_n 0, 1) := by decide +kernel
theorem dX7_code_23 : decode cX7_code 23 = .ok (.getfield 26, 3) := by decide +kernel
theorem dX7_code_26 : decode cX7_code 26 = .ok (.iadd, 1) := by decide +kernel
theorem dX7_code_27 : decode cX7_code 27 = .ok (.iaload, 1) := by decide +kernel
theorem dX7_code_28 : decode cX7_code 28 = .ok (.goto 4, 3) := by decide +kernel
theorem dX7_code_31 : decode cX7_code 31 = .ok (.iconst (-1), 1) := by decide +kernel
theorem dX7_code_32 : decode cX7_code 32 = .ok (.ireturn, 1) := by decide +kernel
def bk_X7_code_0 (l : Launch) (g : Gm) (G : Nat → CT) (P : PT) : CT := (oALd 0 (oGet [7] 3 (oALd 0 (oGet [7] 2 (oCmp (fun x y => y ≤ x) (oPush (.int (-1)) (oIRet P)) (oALd 0 (oGet [7] 0 (oGet [5] 0 (oALd 0 (oGet [7] 1 (oALd 0 (oGet [7] 3 (oBin (fun x y => x + y) (oIAL g (oGo (oIRet P))))))))))))))))
def bk_X7_code (l : Launch) (g : Gm) (b : Nat) (G : Nat → CT) (P : PT) : CT := match b with
  | 0 => bk_X7_code_0 l g G P
  | _ => fun _ _ _ _ _ => False
def pc_X7_code (b : Nat) : Nat := match b with
  | 0 => 0
  | _ => 0
set_option maxRecDepth 100000 in
theorem sb_X7_code_0 {p : Program} {l : Launch} {e : Env} {s : State} {m : MethodId} {args : Array Value} {below : List Frame} {meth : Method} {c : Code} {g : Gm} {h0 : Hp} {P : PT} {mc ms : Nat} (X : Cx g p s m args meth c (Adom h0 s.heap.size) cX7_code RX7 1) (hr : meth.sig.returnType = some .int) (hn : meth.name = "code") : SX g p l e s m args below meth c d_X7_code 1 mc ms h0 P (bk_X7_code_0 l g (fun b => GX g p l e s m args below meth c d_X7_code 1 mc ms h0 P (pc_X7_code b)) P) 0 := (s_aload_n X dX7_code_0 rfl (s_get X dX7_code_1 (mcn (⟨_, _, _, _, rfl, inU_X7, by decide, uw_229, rfl⟩) (mnl)) (s_aload_n X dX7_code_4 rfl (s_get X dX7_code_5 (mcn (⟨_, _, _, _, rfl, inU_X7, by decide, uw_228, rfl⟩) (mnl)) (s_icmp_ge X dX7_code_8 (by decide) (s_iconst X dX7_code_31 rfl (s_iret X hr dX7_code_32)) (s_aload_n X dX7_code_11 rfl (s_get X dX7_code_12 (mcn (⟨_, _, _, _, rfl, inU_X7, by decide, uw_226, rfl⟩) (mnl)) (s_get X dX7_code_15 (mcn (⟨_, _, _, _, rfl, inU_X5, by decide, uw_148, rfl⟩) (mnl)) (s_aload_n X dX7_code_18 rfl (s_get X dX7_code_19 (mcn (⟨_, _, _, _, rfl, inU_X7, by decide, uw_227, rfl⟩) (mnl)) (s_aload_n X dX7_code_22 rfl (s_get X dX7_code_23 (mcn (⟨_, _, _, _, rfl, inU_X7, by decide, uw_229, rfl⟩) (mnl)) (s_iadd X dX7_code_26 (s_iaload X dX7_code_27 (s_goto X dX7_code_28 (by decide) (s_iret X hr dX7_code_32))))))))))))))))
set_option maxRecDepth 100000 in
theorem vc_X7_code {l : Launch} {g : Gm} {a0 : Nat} {h : Hp} {mc ms : Nat} {P : PT} (H : ∀ G : Nat → CT, (∀ (b : Nat) (h : Hp) (cb sb : Nat) (ls : LocS) (st : List Value), bk_X7_code l g b G P h cb sb ls st → G b h cb sb ls st) → G 0 h mc ms [some (.ref a0)] []) : Run l g d_X7_code [.ref a0] h mc ms P :=
  Run.of (d := d_X7_code) (by decide) (mcn rfl (mnl)) (Nat.le_of_ble_eq_true rfl) (fun p e s m args below meth c X hr hn => H (fun b => GX g p l e s m args below meth c d_X7_code 1 mc ms h P (pc_X7_code b)) (fun b h1 cb sb ls st hb => match b, hb with
    | 0, hb => sb_X7_code_0 (p := p) (e := e) (below := below) X hr hn h1 cb sb ls st hb
    | _ + 1, hb => hb.elim))
theorem dX7_kindOf_0 : decode cX7_kindOf 0 = .ok (.iload_n 0, 1) := by decide +kernel
theorem dX7_kindOf_1 : decode cX7_kindOf 1 = .ok (.lookupswitch 41 #[(98, 37), (100, 39), (112, 35)], 35) := by decide +kernel
theorem dX7_kindOf_36 : decode cX7_kindOf 36 = .ok (.iconst 0, 1) := by decide +kernel
theorem dX7_kindOf_37 : decode cX7_kindOf 37 = .ok (.ireturn, 1) := by decide +kernel
theorem dX7_kindOf_38 : decode cX7_kindOf 38 = .ok (.iconst 1, 1) := by decide +kernel
theorem dX7_kindOf_39 : decode cX7_kindOf 39 = .ok (.ireturn, 1) := by decide +kernel
theorem dX7_kindOf_40 : decode cX7_kindOf 40 = .ok (.iconst 2, 1) := by decide +kernel
theorem dX7_kindOf_41 : decode cX7_kindOf 41 = .ok (.ireturn, 1) := by decide +kernel
theorem dX7_kindOf_42 : decode cX7_kindOf 42 = .ok (.bipush (-9), 2) := by decide +kernel
theorem dX7_kindOf_44 : decode cX7_kindOf 44 = .ok (.ireturn, 1) := by decide +kernel
def bk_X7_kindOf_0 (l : Launch) (g : Gm) (G : Nat → CT) (P : PT) : CT := (oILd 0 (oSw [(98, (oPush (.int (1)) (oIRet P))), (100, (oPush (.int (2)) (oIRet P))), (112, (oPush (.int (0)) (oIRet P)))] (oPush (.int (-9)) (oIRet P))))
def bk_X7_kindOf (l : Launch) (g : Gm) (b : Nat) (G : Nat → CT) (P : PT) : CT := match b with
  | 0 => bk_X7_kindOf_0 l g G P
  | _ => fun _ _ _ _ _ => False
def pc_X7_kindOf (b : Nat) : Nat := match b with
  | 0 => 0
  | _ => 0
set_option maxRecDepth 100000 in
theorem sb_X7_kindOf_0 {p : Program} {l : Launch} {e : Env} {s : State} {m : MethodId} {args : Array Value} {below : List Frame} {meth : Method} {c : Code} {g : Gm} {h0 : Hp} {P : PT} {mc ms : Nat} (X : Cx g p s m args meth c (Adom h0 s.heap.size) cX7_kindOf RX7 1) (hr : meth.sig.returnType = some .int) (hn : meth.name = "kindOf") : SX g p l e s m args below meth c d_X7_kindOf 1 mc ms h0 P (bk_X7_kindOf_0 l g (fun b => GX g p l e s m args below meth c d_X7_kindOf 1 mc ms h0 P (pc_X7_kindOf b)) P) 0 := (s_iload_n X dX7_kindOf_0 rfl (s_lsw X dX7_kindOf_1 (by decide) (by decide) ⟨⟨rfl, 38, by decide, (s_iconst X dX7_kindOf_38 rfl (s_iret X hr dX7_kindOf_39))⟩, ⟨⟨rfl, 40, by decide, (s_iconst X dX7_kindOf_40 rfl (s_iret X hr dX7_kindOf_41))⟩, ⟨⟨rfl, 36, by decide, (s_iconst X dX7_kindOf_36 rfl (s_iret X hr dX7_kindOf_37))⟩, trivial⟩⟩⟩ (s_bipush X dX7_kindOf_42 rfl (s_iret X hr dX7_kindOf_44))))
set_option maxRecDepth 100000 in
theorem vc_X7_kindOf {l : Launch} {g : Gm} {a0 : Int32} {h : Hp} {mc ms : Nat} {P : PT} (H : ∀ G : Nat → CT, (∀ (b : Nat) (h : Hp) (cb sb : Nat) (ls : LocS) (st : List Value), bk_X7_kindOf l g b G P h cb sb ls st → G b h cb sb ls st) → G 0 h mc ms [some (.int a0)] []) : Run l g d_X7_kindOf [.int a0] h mc ms P :=
  Run.of (d := d_X7_kindOf) (by decide) (mcn rfl (mnl)) (Nat.le_of_ble_eq_true rfl) (fun p e s m args below meth c X hr hn => H (fun b => GX g p l e s m args below meth c d_X7_kindOf 1 mc ms h P (pc_X7_kindOf b)) (fun b h1 cb sb ls st hb => match b, hb with
    | 0, hb => sb_X7_kindOf_0 (p := p) (e := e) (below := below) X hr hn h1 cb sb ls st hb
    | _ + 1, hb => hb.elim))
theorem dX7_whatOf_0 : decode cX7_whatOf 0 = .ok (.iload_n 0, 1) := by decide +kernel
theorem dX7_whatOf_1 : decode cX7_whatOf 1 = .ok (.lookupswitch 41 #[(103, 39), (105, 35), (115, 37)], 35) := by decide +kernel
theorem dX7_whatOf_36 : decode cX7_whatOf 36 = .ok (.iconst 0, 1) := by decide +kernel
theorem dX7_whatOf_37 : decode cX7_whatOf 37 = .ok (.ireturn, 1) := by decide +kernel
theorem dX7_whatOf_38 : decode cX7_whatOf 38 = .ok (.iconst 1, 1) := by decide +kernel
theorem dX7_whatOf_39 : decode cX7_whatOf 39 = .ok (.ireturn, 1) := by decide +kernel
theorem dX7_whatOf_40 : decode cX7_whatOf 40 = .ok (.iconst 2, 1) := by decide +kernel
theorem dX7_whatOf_41 : decode cX7_whatOf 41 = .ok (.ireturn, 1) := by decide +kernel
theorem dX7_whatOf_42 : decode cX7_whatOf 42 = .ok (.bipush (-9), 2) := by decide +kernel
theorem dX7_whatOf_44 : decode cX7_whatOf 44 = .ok (.ireturn, 1) := by decide +kernel
def bk_X7_whatOf_0 (l : Launch) (g : Gm) (G : Nat → CT) (P : PT) : CT := (oILd 0 (oSw [(103, (oPush (.int (2)) (oIRet P))), (105, (oPush (.int (0)) (oIRet P))), (115, (oPush (.int (1)) (oIRet P)))] (oPush (.int (-9)) (oIRet P))))
def bk_X7_whatOf (l : Launch) (g : Gm) (b : Nat) (G : Nat → CT) (P : PT) : CT := match b with
  | 0 => bk_X7_whatOf_0 l g G P
  | _ => fun _ _ _ _ _ => False
def pc_X7_whatOf (b : Nat) : Nat := match b with
  | 0 => 0
  | _ => 0
set_option maxRecDepth 100000 in
theorem sb_X7_whatOf_0 {p : Program} {l : Launch} {e : Env} {s : State} {m : MethodId} {args : Array Value} {below : List Frame} {meth : Method} {c : Code} {g : Gm} {h0 : Hp} {P : PT} {mc ms : Nat} (X : Cx g p s m args meth c (Adom h0 s.heap.size) cX7_whatOf RX7 1) (hr : meth.sig.returnType = some .int) (hn : meth.name = "whatOf") : SX g p l e s m args below meth c d_X7_whatOf 1 mc ms h0 P (bk_X7_whatOf_0 l g (fun b => GX g p l e s m args below meth c d_X7_whatOf 1 mc ms h0 P (pc_X7_whatOf b)) P) 0 := (s_iload_n X dX7_whatOf_0 rfl (s_lsw X dX7_whatOf_1 (by decide) (by decide) ⟨⟨rfl, 40, by decide, (s_iconst X dX7_whatOf_40 rfl (s_iret X hr dX7_whatOf_41))⟩, ⟨⟨rfl, 36, by decide, (s_iconst X dX7_whatOf_36 rfl (s_iret X hr dX7_whatOf_37))⟩, ⟨⟨rfl, 38, by decide, (s_iconst X dX7_whatOf_38 rfl (s_iret X hr dX7_whatOf_39))⟩, trivial⟩⟩⟩ (s_bipush X dX7_whatOf_42 rfl (s_iret X hr dX7_whatOf_44))))
set_option maxRecDepth 100000 in
theorem vc_X7_whatOf {l : Launch} {g : Gm} {a0 : Int32} {h : Hp} {mc ms : Nat} {P : PT} (H : ∀ G : Nat → CT, (∀ (b : Nat) (h : Hp) (cb sb : Nat) (ls : LocS) (st : List Value), bk_X7_whatOf l g b G P h cb sb ls st → G b h cb sb ls st) → G 0 h mc ms [some (.int a0)] []) : Run l g d_X7_whatOf [.int a0] h mc ms P :=
  Run.of (d := d_X7_whatOf) (by decide) (mcn rfl (mnl)) (Nat.le_of_ble_eq_true rfl) (fun p e s m args below meth c X hr hn => H (fun b => GX g p l e s m args below meth c d_X7_whatOf 1 mc ms h P (pc_X7_whatOf b)) (fun b h1 cb sb ls st hb => match b, hb with
    | 0, hb => sb_X7_whatOf_0 (p := p) (e := e) (below := below) X hr hn h1 cb sb ls st hb
    | _ + 1, hb => hb.elim))
theorem dX7_greatestDigit_0 : decode cX7_greatestDigit 0 = .ok (.iload_n 0, 1) := by decide +kernel
theorem dX7_greatestDigit_1 : decode cX7_greatestDigit 1 = .ok (.ifCond .ne 8, 3) := by decide +kernel
theorem dX7_greatestDigit_4 : decode cX7_greatestDigit 4 = .ok (.bipush 57, 2) := by decide +kernel
theorem dX7_greatestDigit_6 : decode cX7_greatestDigit 6 = .ok (.goto 5, 3) := by decide +kernel
theorem dX7_greatestDigit_9 : decode cX7_greatestDigit 9 = .ok (.bipush 55, 2) := by decide +kernel
theorem dX7_greatestDigit_11 : decode cX7_greatestDigit 11 = .ok (.ireturn, 1) := by decide +kernel
def bk_X7_greatestDigit_0 (l : Launch) (g : Gm) (G : Nat → CT) (P : PT) : CT := (oILd 0 (oIf (fun x => x = 0) (oPush (.int (57)) (oGo (oIRet P))) (oPush (.int (55)) (oIRet P))))
def bk_X7_greatestDigit (l : Launch) (g : Gm) (b : Nat) (G : Nat → CT) (P : PT) : CT := match b with
  | 0 => bk_X7_greatestDigit_0 l g G P
  | _ => fun _ _ _ _ _ => False
def pc_X7_greatestDigit (b : Nat) : Nat := match b with
  | 0 => 0
  | _ => 0
set_option maxRecDepth 100000 in
theorem sb_X7_greatestDigit_0 {p : Program} {l : Launch} {e : Env} {s : State} {m : MethodId} {args : Array Value} {below : List Frame} {meth : Method} {c : Code} {g : Gm} {h0 : Hp} {P : PT} {mc ms : Nat} (X : Cx g p s m args meth c (Adom h0 s.heap.size) cX7_greatestDigit RX7 1) (hr : meth.sig.returnType = some .int) (hn : meth.name = "greatestDigit") : SX g p l e s m args below meth c d_X7_greatestDigit 1 mc ms h0 P (bk_X7_greatestDigit_0 l g (fun b => GX g p l e s m args below meth c d_X7_greatestDigit 1 mc ms h0 P (pc_X7_greatestDigit b)) P) 0 := (s_iload_n X dX7_greatestDigit_0 rfl (s_if_ne X dX7_greatestDigit_1 (by decide) (s_bipush X dX7_greatestDigit_9 rfl (s_iret X hr dX7_greatestDigit_11)) (s_bipush X dX7_greatestDigit_4 rfl (s_goto X dX7_greatestDigit_6 (by decide) (s_iret X hr dX7_greatestDigit_11)))))
set_option maxRecDepth 100000 in
theorem vc_X7_greatestDigit {l : Launch} {g : Gm} {a0 : Int32} {h : Hp} {mc ms : Nat} {P : PT} (H : ∀ G : Nat → CT, (∀ (b : Nat) (h : Hp) (cb sb : Nat) (ls : LocS) (st : List Value), bk_X7_greatestDigit l g b G P h cb sb ls st → G b h cb sb ls st) → G 0 h mc ms [some (.int a0)] []) : Run l g d_X7_greatestDigit [.int a0] h mc ms P :=
  Run.of (d := d_X7_greatestDigit) (by decide) (mcn rfl (mnl)) (Nat.le_of_ble_eq_true rfl) (fun p e s m args below meth c X hr hn => H (fun b => GX g p l e s m args below meth c d_X7_greatestDigit 1 mc ms h P (pc_X7_greatestDigit b)) (fun b h1 cb sb ls st hb => match b, hb with
    | 0, hb => sb_X7_greatestDigit_0 (p := p) (e := e) (below := below) X hr hn h1 cb sb ls st hb
    | _ + 1, hb => hb.elim))
