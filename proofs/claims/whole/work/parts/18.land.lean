theorem dX2_init_0 : decode cX2_init 0 = .ok (.aload_n 0, 1) := by decide +kernel
theorem dX2_init_1 : decode cX2_init 1 = .ok (.invokespecial 3, 3) := by decide +kernel
theorem dX2_init_4 : decode cX2_init 4 = .ok (.aload_n 0, 1) := by decide +kernel
theorem dX2_init_5 : decode cX2_init 5 = .ok (.iconst 4, 1) := by decide +kernel
theorem dX2_init_6 : decode cX2_init 6 = .ok (.anewarray 9, 3) := by decide +kernel
theorem dX2_init_9 : decode cX2_init 9 = .ok (.putfield 11, 3) := by decide +kernel
theorem dX2_init_12 : decode cX2_init 12 = .ok (.aload_n 0, 1) := by decide +kernel
theorem dX2_init_13 : decode cX2_init 13 = .ok (.bipush 8, 2) := by decide +kernel
theorem dX2_init_15 : decode cX2_init 15 = .ok (.anewarray 17, 3) := by decide +kernel
theorem dX2_init_18 : decode cX2_init 18 = .ok (.putfield 19, 3) := by decide +kernel
theorem dX2_init_21 : decode cX2_init 21 = .ok (.aload_n 0, 1) := by decide +kernel
theorem dX2_init_22 : decode cX2_init 22 = .ok (.bipush 20, 2) := by decide +kernel
theorem dX2_init_24 : decode cX2_init 24 = .ok (.newarray .int, 2) := by decide +kernel
theorem dX2_init_26 : decode cX2_init 26 = .ok (.putfield 23, 3) := by decide +kernel
theorem dX2_init_29 : decode cX2_init 29 = .ok (.aload_n 0, 1) := by decide +kernel
theorem dX2_init_30 : decode cX2_init 30 = .ok (.iconst 4, 1) := by decide +kernel
theorem dX2_init_31 : decode cX2_init 31 = .ok (.newarray .int, 2) := by decide +kernel
theorem dX2_init_33 : decode cX2_init 33 = .ok (.putfield 27, 3) := by decide +kernel
theorem dX2_init_36 : decode cX2_init 36 = .ok (.iconst 0, 1) := by decide +kernel
theorem dX2_init_37 : decode cX2_init 37 = .ok (.istore_n 1, 1) := by decide +kernel
theorem dX2_init_38 : decode cX2_init 38 = .ok (.iload_n 1, 1) := by decide +kernel
theorem dX2_init_39 : decode cX2_init 39 = .ok (.bipush 8, 2) := by decide +kernel
theorem dX2_init_41 : decode cX2_init 41 = .ok (.if_icmp .ge 22, 3) := by decide +kernel
theorem dX2_init_44 : decode cX2_init 44 = .ok (.aload_n 0, 1) := by decide +kernel
theorem dX2_init_45 : decode cX2_init 45 = .ok (.getfield 19, 3) := by decide +kernel
theorem dX2_init_48 : decode cX2_init 48 = .ok (.iload_n 1, 1) := by decide +kernel
theorem dX2_init_49 : decode cX2_init 49 = .ok (.new 17, 3) := by decide +kernel
theorem dX2_init_52 : decode cX2_init 52 = .ok (.dup, 1) := by decide +kernel
theorem dX2_init_53 : decode cX2_init 53 = .ok (.invokespecial 30, 3) := by decide +kernel
theorem dX2_init_56 : decode cX2_init 56 = .ok (.aastore, 1) := by decide +kernel
theorem dX2_init_57 : decode cX2_init 57 = .ok (.iinc 1 1, 3) := by decide +kernel
theorem dX2_init_60 : decode cX2_init 60 = .ok (.goto (-22), 3) := by decide +kernel
theorem dX2_init_63 : decode cX2_init 63 = .ok (.return_, 1) := by decide +kernel
def bk_X2_init_0 (l : Launch) (g : Gm) (G : Nat → CT) (P : PT) : CT := (oALd 0 (oObj1 (oALd 0 (oPush (.int (4)) (oNewR g 3 (oPutR [2] 0 (oALd 0 (oPush (.int (8)) (oNewR g 4 (oPutR [2] 1 (oALd 0 (oPush (.int (20)) (oNewI g (oPutR [2] 2 (oALd 0 (oPush (.int (4)) (oNewI g (oPutR [2] 3 (oPush (.int (0)) (oISt 1 (G 1)))))))))))))))))))))
def bk_X2_init_1 (l : Launch) (g : Gm) (G : Nat → CT) (P : PT) : CT := (oILd 1 (oPush (.int (8)) (oCmp (fun x y => y ≤ x) (oVRet P) (oALd 0 (oGet [2] 1 (oILd 1 (oNew 3 6 [.int 0, .int 0, .int 0, .int 0, .int 0, .int 0] (oDup (oCallI l g d_X3_init 0 (oRAS g 4 [3] (oInc 1 (1) (oGo (G 1)))))))))))))
def bk_X2_init (l : Launch) (g : Gm) (b : Nat) (G : Nat → CT) (P : PT) : CT := match b with
  | 0 => bk_X2_init_0 l g G P
  | 1 => bk_X2_init_1 l g G P
  | _ => fun _ _ _ _ _ => False
def pc_X2_init (b : Nat) : Nat := match b with
  | 0 => 0
  | 1 => 38
  | _ => 0
set_option maxRecDepth 100000 in
theorem sb_X2_init_0 {p : Program} {l : Launch} {e : Env} {s : State} {m : MethodId} {args : Array Value} {below : List Frame} {meth : Method} {c : Code} {g : Gm} {h0 : Hp} {P : PT} {mc ms : Nat} (X : Cx g p s m args meth c (Adom h0 s.heap.size) cX2_init RX2 2) (hr : meth.sig.returnType = none) (hn : meth.name = "<init>") : SX g p l e s m args below meth c d_X2_init 2 mc ms h0 P (bk_X2_init_0 l g (fun b => GX g p l e s m args below meth c d_X2_init 2 mc ms h0 P (pc_X2_init b)) P) 0 := (s_aload_n X dX2_init_0 rfl (s_obj1 X uw_43 uw_21 uw_22 (Nat.le_of_ble_eq_true rfl) (Nat.le_of_ble_eq_true rfl) dX2_init_1 (s_aload_n X dX2_init_4 rfl (s_iconst X dX2_init_5 rfl (s_newR X (t := 3) (fun _ => rfl) X.2.2.2.2.2.1.2.1.1 uw_44 dX2_init_6 (s_putRF X dX2_init_9 rt_arr (mcn (⟨_, _, _, _, tyX2, rfl, inU_X2, by decide, uw_79, rfl, tyX2_ok, nmX2, rfl, rfl⟩) (mnl)) hn (mcn (fun C T1 N1 hq => by cases hq; rfl) (mnl)) (s_aload_n X dX2_init_12 rfl (s_bipush X dX2_init_13 rfl (s_newR X (t := 4) (fun _ => rfl) X.2.2.2.2.2.1.2.1.2.1 uw_46 dX2_init_15 (s_putRF X dX2_init_18 rt_arr (mcn (⟨_, _, _, _, tyX2, rfl, inU_X2, by decide, uw_82, rfl, tyX2_ok, nmX2, rfl, rfl⟩) (mnl)) hn (mcn (fun C T1 N1 hq => by cases hq; rfl) (mnl)) (s_aload_n X dX2_init_21 rfl (s_bipush X dX2_init_22 rfl (s_newI X uw_78 dX2_init_24 (s_putRF X dX2_init_26 rt_arr (mcn (⟨_, _, _, _, tyX2, rfl, inU_X2, by decide, uw_83, rfl, tyX2_ok, nmX2, rfl, rfl⟩) (mnl)) hn (mcn (fun C T1 N1 hq => by cases hq; rfl) (mnl)) (s_aload_n X dX2_init_29 rfl (s_iconst X dX2_init_30 rfl (s_newI X uw_78 dX2_init_31 (s_putRF X dX2_init_33 rt_arr (mcn (⟨_, _, _, _, tyX2, rfl, inU_X2, by decide, uw_85, rfl, tyX2_ok, nmX2, rfl, rfl⟩) (mnl)) hn (mcn (fun C T1 N1 hq => by cases hq; rfl) (mnl)) (s_iconst X dX2_init_36 rfl (s_istore_n X dX2_init_37 rfl (by decide) Sd.rf))))))))))))))))))))
set_option maxRecDepth 100000 in
theorem sb_X2_init_1 {p : Program} {l : Launch} {e : Env} {s : State} {m : MethodId} {args : Array Value} {below : List Frame} {meth : Method} {c : Code} {g : Gm} {h0 : Hp} {P : PT} {mc ms : Nat} (X : Cx g p s m args meth c (Adom h0 s.heap.size) cX2_init RX2 2) (hr : meth.sig.returnType = none) (hn : meth.name = "<init>") : SX g p l e s m args below meth c d_X2_init 2 mc ms h0 P (bk_X2_init_1 l g (fun b => GX g p l e s m args below meth c d_X2_init 2 mc ms h0 P (pc_X2_init b)) P) 38 := (s_iload_n X dX2_init_38 rfl (s_bipush X dX2_init_39 rfl (s_icmp_ge X dX2_init_41 (by decide) (s_vret X hr dX2_init_63) (s_aload_n X dX2_init_44 rfl (s_get X dX2_init_45 (mcn (⟨_, _, _, _, rfl, inU_X2, by decide, uw_82, rfl⟩) (mnl)) (s_iload_n X dX2_init_48 rfl (s_new X tyX3 tyX3_ok rfl inU_X3 uw_46 uw_48 uw_4 (dsx3) dX2_init_49 (s_dup X dX2_init_52 (s_callIN X rfl rfl dX2_init_53 X.2.2.2.2.2.1.2.2.1.2.1 uw_50 uw_4 ci_X3_init yok_X3_init ⟨Nat.le_of_ble_eq_true rfl, Nat.le_of_ble_eq_true rfl⟩ (s_aastore X (t := 4) (fun _ => rfl) (mcn (AsgOk.self rfl) mnl) dX2_init_56 (s_iinc X dX2_init_57 rfl (by decide) (s_goto X dX2_init_60 (by decide) Sd.rf))))))))))))
set_option maxRecDepth 100000 in
theorem vc_X2_init {l : Launch} {g : Gm} {a0 : Nat} {h : Hp} {mc ms : Nat} {P : PT} (H : ∀ G : Nat → CT, (∀ (b : Nat) (h : Hp) (cb sb : Nat) (ls : LocS) (st : List Value), bk_X2_init l g b G P h cb sb ls st → G b h cb sb ls st) → G 0 h mc ms [some (.ref a0), none] []) : Run l g d_X2_init [.ref a0] h mc ms P :=
  Run.of (d := d_X2_init) (by decide) (mcn rfl (mnl)) (Nat.le_of_ble_eq_true rfl) (fun p e s m args below meth c X hr hn => H (fun b => GX g p l e s m args below meth c d_X2_init 2 mc ms h P (pc_X2_init b)) (fun b h1 cb sb ls st hb => match b, hb with
    | 0, hb => sb_X2_init_0 (p := p) (e := e) (below := below) X hr hn h1 cb sb ls st hb
    | 1, hb => sb_X2_init_1 (p := p) (e := e) (below := below) X hr hn h1 cb sb ls st hb
    | _ + 2, hb => hb.elim))
theorem dX2_hasVillage_0 : decode cX2_hasVillage 0 = .ok (.iload_n 1, 1) := by decide +kernel
theorem dX2_hasVillage_1 : decode cX2_hasVillage 1 = .ok (.ifCond .lt 15, 3) := by decide +kernel
theorem dX2_hasVillage_4 : decode cX2_hasVillage 4 = .ok (.iload_n 1, 1) := by decide +kernel
theorem dX2_hasVillage_5 : decode cX2_hasVillage 5 = .ok (.aload_n 0, 1) := by decide +kernel
theorem dX2_hasVillage_6 : decode cX2_hasVillage 6 = .ok (.getfield 31, 3) := by decide +kernel
theorem dX2_hasVillage_9 : decode cX2_hasVillage 9 = .ok (.if_icmp .ge 7, 3) := by decide +kernel
theorem dX2_hasVillage_12 : decode cX2_hasVillage 12 = .ok (.iconst 1, 1) := by decide +kernel
theorem dX2_hasVillage_13 : decode cX2_hasVillage 13 = .ok (.goto 4, 3) := by decide +kernel
theorem dX2_hasVillage_16 : decode cX2_hasVillage 16 = .ok (.iconst 0, 1) := by decide +kernel
theorem dX2_hasVillage_17 : decode cX2_hasVillage 17 = .ok (.ireturn, 1) := by decide +kernel
def bk_X2_hasVillage_0 (l : Launch) (g : Gm) (G : Nat → CT) (P : PT) : CT := (oILd 1 (oIf (fun x => x < 0) (oPush (.int (0)) (oZRet P)) (oILd 1 (oALd 0 (oGet [2] 4 (oCmp (fun x y => y ≤ x) (oPush (.int (0)) (oZRet P)) (oPush (.int (1)) (oGo (oZRet P)))))))))
def bk_X2_hasVillage (l : Launch) (g : Gm) (b : Nat) (G : Nat → CT) (P : PT) : CT := match b with
  | 0 => bk_X2_hasVillage_0 l g G P
  | _ => fun _ _ _ _ _ => False
def pc_X2_hasVillage (b : Nat) : Nat := match b with
  | 0 => 0
  | _ => 0
set_option maxRecDepth 100000 in
theorem sb_X2_hasVillage_0 {p : Program} {l : Launch} {e : Env} {s : State} {m : MethodId} {args : Array Value} {below : List Frame} {meth : Method} {c : Code} {g : Gm} {h0 : Hp} {P : PT} {mc ms : Nat} (X : Cx g p s m args meth c (Adom h0 s.heap.size) cX2_hasVillage RX2 2) (hr : meth.sig.returnType = some .boolean) (hn : meth.name = "hasVillage") : SX g p l e s m args below meth c d_X2_hasVillage 2 mc ms h0 P (bk_X2_hasVillage_0 l g (fun b => GX g p l e s m args below meth c d_X2_hasVillage 2 mc ms h0 P (pc_X2_hasVillage b)) P) 0 := (s_iload_n X dX2_hasVillage_0 rfl (s_if_lt X dX2_hasVillage_1 (by decide) (s_iconst X dX2_hasVillage_16 rfl (s_zret X hr dX2_hasVillage_17)) (s_iload_n X dX2_hasVillage_4 rfl (s_aload_n X dX2_hasVillage_5 rfl (s_get X dX2_hasVillage_6 (mcn (⟨_, _, _, _, rfl, inU_X2, by decide, uw_87, rfl⟩) (mnl)) (s_icmp_ge X dX2_hasVillage_9 (by decide) (s_iconst X dX2_hasVillage_16 rfl (s_zret X hr dX2_hasVillage_17)) (s_iconst X dX2_hasVillage_12 rfl (s_goto X dX2_hasVillage_13 (by decide) (s_zret X hr dX2_hasVillage_17)))))))))
set_option maxRecDepth 100000 in
theorem vc_X2_hasVillage {l : Launch} {g : Gm} {a0 : Nat} {a1 : Int32} {h : Hp} {mc ms : Nat} {P : PT} (H : ∀ G : Nat → CT, (∀ (b : Nat) (h : Hp) (cb sb : Nat) (ls : LocS) (st : List Value), bk_X2_hasVillage l g b G P h cb sb ls st → G b h cb sb ls st) → G 0 h mc ms [some (.ref a0), some (.int a1)] []) : Run l g d_X2_hasVillage [.ref a0, .int a1] h mc ms P :=
  Run.of (d := d_X2_hasVillage) (by decide) (mcn rfl (mcn rfl (mnl))) (Nat.le_of_ble_eq_true rfl) (fun p e s m args below meth c X hr hn => H (fun b => GX g p l e s m args below meth c d_X2_hasVillage 2 mc ms h P (pc_X2_hasVillage b)) (fun b h1 cb sb ls st hb => match b, hb with
    | 0, hb => sb_X2_hasVillage_0 (p := p) (e := e) (below := below) X hr hn h1 cb sb ls st hb
    | _ + 1, hb => hb.elim))
theorem dX2_hasThing_0 : decode cX2_hasThing 0 = .ok (.aload_n 0, 1) := by decide +kernel
theorem dX2_hasThing_1 : decode cX2_hasThing 1 = .ok (.iload_n 1, 1) := by decide +kernel
theorem dX2_hasThing_2 : decode cX2_hasThing 2 = .ok (.invokevirtual 35, 3) := by decide +kernel
theorem dX2_hasThing_5 : decode cX2_hasThing 5 = .ok (.ifCond .eq 24, 3) := by decide +kernel
theorem dX2_hasThing_8 : decode cX2_hasThing 8 = .ok (.iload_n 2, 1) := by decide +kernel
theorem dX2_hasThing_9 : decode cX2_hasThing 9 = .ok (.ifCond .lt 20, 3) := by decide +kernel
theorem dX2_hasThing_12 : decode cX2_hasThing 12 = .ok (.iload_n 2, 1) := by decide +kernel
theorem dX2_hasThing_13 : decode cX2_hasThing 13 = .ok (.aload_n 0, 1) := by decide +kernel
theorem dX2_hasThing_14 : decode cX2_hasThing 14 = .ok (.getfield 11, 3) := by decide +kernel
theorem dX2_hasThing_17 : decode cX2_hasThing 17 = .ok (.iload_n 1, 1) := by decide +kernel
theorem dX2_hasThing_18 : decode cX2_hasThing 18 = .ok (.aaload, 1) := by decide +kernel
theorem dX2_hasThing_19 : decode cX2_hasThing 19 = .ok (.getfield 39, 3) := by decide +kernel
theorem dX2_hasThing_22 : decode cX2_hasThing 22 = .ok (.if_icmp .ge 7, 3) := by decide +kernel
theorem dX2_hasThing_25 : decode cX2_hasThing 25 = .ok (.iconst 1, 1) := by decide +kernel
theorem dX2_hasThing_26 : decode cX2_hasThing 26 = .ok (.goto 4, 3) := by decide +kernel
theorem dX2_hasThing_29 : decode cX2_hasThing 29 = .ok (.iconst 0, 1) := by decide +kernel
theorem dX2_hasThing_30 : decode cX2_hasThing 30 = .ok (.ireturn, 1) := by decide +kernel
def bk_X2_hasThing_0 (l : Launch) (g : Gm) (G : Nat → CT) (P : PT) : CT := (oALd 0 (oILd 1 (oCallV l g [(2, d_X2_hasVillage)] 2 (oIf (fun x => x = 0) (oPush (.int (0)) (oZRet P)) (oILd 2 (oIf (fun x => x < 0) (oPush (.int (0)) (oZRet P)) (oILd 2 (oALd 0 (oGet [2] 0 (oILd 1 (oRAL g 3 (oGet [4, 0, 1] 5 (oCmp (fun x y => y ≤ x) (oPush (.int (0)) (oZRet P)) (oPush (.int (1)) (oGo (oZRet P))))))))))))))))
def bk_X2_hasThing (l : Launch) (g : Gm) (b : Nat) (G : Nat → CT) (P : PT) : CT := match b with
  | 0 => bk_X2_hasThing_0 l g G P
  | _ => fun _ _ _ _ _ => False
def pc_X2_hasThing (b : Nat) : Nat := match b with
  | 0 => 0
  | _ => 0
set_option maxRecDepth 100000 in
theorem sb_X2_hasThing_0 {p : Program} {l : Launch} {e : Env} {s : State} {m : MethodId} {args : Array Value} {below : List Frame} {meth : Method} {c : Code} {g : Gm} {h0 : Hp} {P : PT} {mc ms : Nat} (X : Cx g p s m args meth c (Adom h0 s.heap.size) cX2_hasThing RX2 3) (hr : meth.sig.returnType = some .boolean) (hn : meth.name = "hasThing") : SX g p l e s m args below meth c d_X2_hasThing 3 mc ms h0 P (bk_X2_hasThing_0 l g (fun b => GX g p l e s m args below meth c d_X2_hasThing 3 mc ms h0 P (pc_X2_hasThing b)) P) 0 := (s_aload_n X dX2_hasThing_0 rfl (s_iload_n X dX2_hasThing_1 rfl (s_callV X dX2_hasThing_2 (mv (vok_V X rfl uw_417 uw_383 uw_384 uw_3 ci_X2_hasVillage yok_X2_hasVillage ⟨Nat.le_of_ble_eq_true rfl, Nat.le_of_ble_eq_true rfl⟩) mv0) (s_if_eq X dX2_hasThing_5 (by decide) (s_iconst X dX2_hasThing_29 rfl (s_zret X hr dX2_hasThing_30)) (s_iload_n X dX2_hasThing_8 rfl (s_if_lt X dX2_hasThing_9 (by decide) (s_iconst X dX2_hasThing_29 rfl (s_zret X hr dX2_hasThing_30)) (s_iload_n X dX2_hasThing_12 rfl (s_aload_n X dX2_hasThing_13 rfl (s_get X dX2_hasThing_14 (mcn (⟨_, _, _, _, rfl, inU_X2, by decide, uw_79, rfl⟩) (mnl)) (s_iload_n X dX2_hasThing_17 rfl (s_aaload X (t := 3) (fun _ => rfl) rfl dX2_hasThing_18 (s_get X dX2_hasThing_19 (mcn (⟨_, _, _, _, rfl, inU_X4, by decide, uw_285, rfl⟩) (mcn (⟨_, _, _, _, rfl, inU_X0, by decide, uw_285, rfl⟩) (mcn (⟨_, _, _, _, rfl, inU_X1, by decide, uw_285, rfl⟩) (mnl)))) (s_icmp_ge X dX2_hasThing_22 (by decide) (s_iconst X dX2_hasThing_29 rfl (s_zret X hr dX2_hasThing_30)) (s_iconst X dX2_hasThing_25 rfl (s_goto X dX2_hasThing_26 (by decide) (s_zret X hr dX2_hasThing_30))))))))))))))))
set_option maxRecDepth 100000 in
theorem vc_X2_hasThing {l : Launch} {g : Gm} {a0 : Nat} {a1 : Int32} {a2 : Int32} {h : Hp} {mc ms : Nat} {P : PT} (H : ∀ G : Nat → CT, (∀ (b : Nat) (h : Hp) (cb sb : Nat) (ls : LocS) (st : List Value), bk_X2_hasThing l g b G P h cb sb ls st → G b h cb sb ls st) → G 0 h mc ms [some (.ref a0), some (.int a1), some (.int a2)] []) : Run l g d_X2_hasThing [.ref a0, .int a1, .int a2] h mc ms P :=
  Run.of (d := d_X2_hasThing) (by decide) (mcn rfl (mcn rfl (mcn rfl (mnl)))) (Nat.le_of_ble_eq_true rfl) (fun p e s m args below meth c X hr hn => H (fun b => GX g p l e s m args below meth c d_X2_hasThing 3 mc ms h P (pc_X2_hasThing b)) (fun b h1 cb sb ls st hb => match b, hb with
    | 0, hb => sb_X2_hasThing_0 (p := p) (e := e) (below := below) X hr hn h1 cb sb ls st hb
    | _ + 1, hb => hb.elim))
theorem dX2_settle_0 : decode cX2_settle 0 = .ok (.aload_n 0, 1) := by decide +kernel
theorem dX2_settle_1 : decode cX2_settle 1 = .ok (.getfield 31, 3) := by decide +kernel
theorem dX2_settle_4 : decode cX2_settle 4 = .ok (.iconst 4, 1) := by decide +kernel
theorem dX2_settle_5 : decode cX2_settle 5 = .ok (.if_icmp .lt 4, 3) := by decide +kernel
theorem dX2_settle_8 : decode cX2_settle 8 = .ok (.return_, 1) := by decide +kernel
theorem dX2_settle_9 : decode cX2_settle 9 = .ok (.iload_n 1, 1) := by decide +kernel
theorem dX2_settle_10 : decode cX2_settle 10 = .ok (.iconst 2, 1) := by decide +kernel
theorem dX2_settle_11 : decode cX2_settle 11 = .ok (.if_icmp .ne 22, 3) := by decide +kernel
theorem dX2_settle_14 : decode cX2_settle 14 = .ok (.aload_n 0, 1) := by decide +kernel
theorem dX2_settle_15 : decode cX2_settle 15 = .ok (.getfield 11, 3) := by decide +kernel
theorem dX2_settle_18 : decode cX2_settle 18 = .ok (.aload_n 0, 1) := by decide +kernel
theorem dX2_settle_19 : decode cX2_settle 19 = .ok (.getfield 31, 3) := by decide +kernel
theorem dX2_settle_22 : decode cX2_settle 22 = .ok (.new 42, 3) := by decide +kernel
theorem dX2_settle_25 : decode cX2_settle 25 = .ok (.dup, 1) := by decide +kernel
theorem dX2_settle_26 : decode cX2_settle 26 = .ok (.invokespecial 44, 3) := by decide +kernel
theorem dX2_settle_29 : decode cX2_settle 29 = .ok (.aastore, 1) := by decide +kernel
theorem dX2_settle_30 : decode cX2_settle 30 = .ok (.goto 36, 3) := by decide +kernel
theorem dX2_settle_33 : decode cX2_settle 33 = .ok (.aload_n 0, 1) := by decide +kernel
theorem dX2_settle_34 : decode cX2_settle 34 = .ok (.getfield 11, 3) := by decide +kernel
theorem dX2_settle_37 : decode cX2_settle 37 = .ok (.aload_n 0, 1) := by decide +kernel
theorem dX2_settle_38 : decode cX2_settle 38 = .ok (.getfield 31, 3) := by decide +kernel
theorem dX2_settle_41 : decode cX2_settle 41 = .ok (.iload_n 1, 1) := by decide +kernel
theorem dX2_settle_42 : decode cX2_settle 42 = .ok (.iconst 1, 1) := by decide +kernel
theorem dX2_settle_43 : decode cX2_settle 43 = .ok (.if_icmp .ne 14, 3) := by decide +kernel
theorem dX2_settle_46 : decode cX2_settle 46 = .ok (.new 45, 3) := by decide +kernel
theorem dX2_settle_49 : decode cX2_settle 49 = .ok (.dup, 1) := by decide +kernel
theorem dX2_settle_50 : decode cX2_settle 50 = .ok (.iconst 1, 1) := by decide +kernel
theorem dX2_settle_51 : decode cX2_settle 51 = .ok (.invokespecial 47, 3) := by decide +kernel
theorem dX2_settle_54 : decode cX2_settle 54 = .ok (.goto 11, 3) := by decide +kernel
theorem dX2_settle_57 : decode cX2_settle 57 = .ok (.new 9, 3) := by decide +kernel
theorem dX2_settle_60 : decode cX2_settle 60 = .ok (.dup, 1) := by decide +kernel
theorem dX2_settle_61 : decode cX2_settle 61 = .ok (.iconst 0, 1) := by decide +kernel
theorem dX2_settle_62 : decode cX2_settle 62 = .ok (.invokespecial 50, 3) := by decide +kernel
theorem dX2_settle_65 : decode cX2_settle 65 = .ok (.aastore, 1) := by decide +kernel
theorem dX2_settle_66 : decode cX2_settle 66 = .ok (.aload_n 0, 1) := by decide +kernel
theorem dX2_settle_67 : decode cX2_settle 67 = .ok (.dup, 1) := by decide +kernel
theorem dX2_settle_68 : decode cX2_settle 68 = .ok (.getfield 31, 3) := by decide +kernel
theorem dX2_settle_71 : decode cX2_settle 71 = .ok (.iconst 1, 1) := by decide +kernel
theorem dX2_settle_72 : decode cX2_settle 72 = .ok (.iadd, 1) := by decide +kernel
theorem dX2_settle_73 : decode cX2_settle 73 = .ok (.putfield 31, 3) := by decide +kernel
theorem dX2_settle_76 : decode cX2_settle 76 = .ok (.return_, 1) := by decide +kernel
def bk_X2_settle_0 (l : Launch) (g : Gm) (G : Nat → CT) (P : PT) : CT := (oALd 0 (oGet [2] 4 (oPush (.int (4)) (oCmp (fun x y => x < y) (oILd 1 (oPush (.int (2)) (oCmp (fun x y => x = y) (oALd 0 (oGet [2] 0 (oALd 0 (oGet [2] 4 (oNew 1 6 [.int 0, .null, .null, .null, .null, .int 0] (oDup (oCallI l g d_X1_init 0 (oRAS g 3 [4, 0, 1] (oGo (G 1)))))))))) (oALd 0 (oGet [2] 0 (oALd 0 (oGet [2] 4 (oILd 1 (oPush (.int (1)) (oCmp (fun x y => x = y) (oNew 0 6 [.int 0, .null, .null, .null, .null, .int 0] (oDup (oPush (.int (1)) (oCallI l g d_X0_init 1 (oGo (oRAS g 3 [4, 0, 1] (G 1))))))) (oNew 4 6 [.int 0, .null, .null, .null, .null, .int 0] (oDup (oPush (.int (0)) (oCallI l g d_X4_init 1 (oRAS g 3 [4, 0, 1] (G 1)))))))))))))))) (oVRet P)))))
def bk_X2_settle_1 (l : Launch) (g : Gm) (G : Nat → CT) (P : PT) : CT := (oALd 0 (oDup (oGet [2] 4 (oPush (.int (1)) (oBin (fun x y => x + y) (oPutI [2] 4 (oVRet P)))))))
def bk_X2_settle (l : Launch) (g : Gm) (b : Nat) (G : Nat → CT) (P : PT) : CT := match b with
  | 0 => bk_X2_settle_0 l g G P
  | 1 => bk_X2_settle_1 l g G P
  | _ => fun _ _ _ _ _ => False
def pc_X2_settle (b : Nat) : Nat := match b with
  | 0 => 0
  | 1 => 66
  | _ => 0
set_option maxRecDepth 100000 in
theorem sb_X2_settle_0 {p : Program} {l : Launch} {e : Env} {s : State} {m : MethodId} {args : Array Value} {below : List Frame} {meth : Method} {c : Code} {g : Gm} {h0 : Hp} {P : PT} {mc ms : Nat} (X : Cx g p s m args meth c (Adom h0 s.heap.size) cX2_settle RX2 2) (hr : meth.sig.returnType = none) (hn : meth.name = "settle") : SX g p l e s m args below meth c d_X2_settle 2 mc ms h0 P (bk_X2_settle_0 l g (fun b => GX g p l e s m args below meth c d_X2_settle 2 mc ms h0 P (pc_X2_settle b)) P) 0 := (s_aload_n X dX2_settle_0 rfl (s_get X dX2_settle_1 (mcn (⟨_, _, _, _, rfl, inU_X2, by decide, uw_87, rfl⟩) (mnl)) (s_iconst X dX2_settle_4 rfl (s_icmp_lt X dX2_settle_5 (by decide) (s_iload_n X dX2_settle_9 rfl (s_iconst X dX2_settle_10 rfl (s_icmp_ne X dX2_settle_11 (by decide) (s_aload_n X dX2_settle_33 rfl (s_get X dX2_settle_34 (mcn (⟨_, _, _, _, rfl, inU_X2, by decide, uw_79, rfl⟩) (mnl)) (s_aload_n X dX2_settle_37 rfl (s_get X dX2_settle_38 (mcn (⟨_, _, _, _, rfl, inU_X2, by decide, uw_87, rfl⟩) (mnl)) (s_iload_n X dX2_settle_41 rfl (s_iconst X dX2_settle_42 rfl (s_icmp_ne X dX2_settle_43 (by decide) (s_new X tyX4 tyX4_ok rfl inU_X4 uw_44 uw_311 uw_9 (dsx4) dX2_settle_57 (s_dup X dX2_settle_60 (s_iconst X dX2_settle_61 rfl (s_callI X rfl rfl dX2_settle_62 uw_312 uw_268 uw_9 ci_X4_init yok_X4_init ⟨Nat.le_of_ble_eq_true rfl, Nat.le_of_ble_eq_true rfl⟩ (s_aastore X (t := 3) (fun _ => rfl) (mcn (AsgOk.self rfl) (mcn (asgC X.2.2.2.2.2.1.2.2.2.1.2.2.1 rfl) (mcn (asgC X.2.2.2.2.2.1.2.2.2.1.2.1 rfl) mnl))) dX2_settle_65 Sd.rf))))) (s_new X tyX0 tyX0_ok rfl inU_X0 uw_301 uw_302 uw_10 (dsx0) dX2_settle_46 (s_dup X dX2_settle_49 (s_iconst X dX2_settle_50 rfl (s_callI X rfl rfl dX2_settle_51 uw_303 uw_265 uw_10 ci_X0_init yok_X0_init ⟨Nat.le_of_ble_eq_true rfl, Nat.le_of_ble_eq_true rfl⟩ (s_goto X dX2_settle_54 (by decide) (s_aastore X (t := 3) (fun _ => rfl) (mcn (AsgOk.self rfl) (mcn (asgC X.2.2.2.2.2.1.2.2.2.1.2.2.1 rfl) (mcn (asgC X.2.2.2.2.2.1.2.2.2.1.2.1 rfl) mnl))) dX2_settle_65 Sd.rf))))))))))))) (s_aload_n X dX2_settle_14 rfl (s_get X dX2_settle_15 (mcn (⟨_, _, _, _, rfl, inU_X2, by decide, uw_79, rfl⟩) (mnl)) (s_aload_n X dX2_settle_18 rfl (s_get X dX2_settle_19 (mcn (⟨_, _, _, _, rfl, inU_X2, by decide, uw_87, rfl⟩) (mnl)) (s_new X tyX1 tyX1_ok rfl inU_X1 uw_259 uw_260 uw_11 (dsx1) dX2_settle_22 (s_dup X dX2_settle_25 (s_callI X rfl rfl dX2_settle_26 uw_261 uw_262 uw_11 ci_X1_init yok_X1_init ⟨Nat.le_of_ble_eq_true rfl, Nat.le_of_ble_eq_true rfl⟩ (s_aastore X (t := 3) (fun _ => rfl) (mcn (AsgOk.self rfl) (mcn (asgC X.2.2.2.2.2.1.2.2.2.1.2.2.1 rfl) (mcn (asgC X.2.2.2.2.2.1.2.2.2.1.2.1 rfl) mnl))) dX2_settle_29 (s_goto X dX2_settle_30 (by decide) Sd.rf)))))))))))) (s_vret X hr dX2_settle_8)))))
set_option maxRecDepth 100000 in
theorem sb_X2_settle_1 {p : Program} {l : Launch} {e : Env} {s : State} {m : MethodId} {args : Array Value} {below : List Frame} {meth : Method} {c : Code} {g : Gm} {h0 : Hp} {P : PT} {mc ms : Nat} (X : Cx g p s m args meth c (Adom h0 s.heap.size) cX2_settle RX2 2) (hr : meth.sig.returnType = none) (hn : meth.name = "settle") : SX g p l e s m args below meth c d_X2_settle 2 mc ms h0 P (bk_X2_settle_1 l g (fun b => GX g p l e s m args below meth c d_X2_settle 2 mc ms h0 P (pc_X2_settle b)) P) 66 := (s_aload_n X dX2_settle_66 rfl (s_dup X dX2_settle_67 (s_get X dX2_settle_68 (mcn (⟨_, _, _, _, rfl, inU_X2, by decide, uw_87, rfl⟩) (mnl)) (s_iconst X dX2_settle_71 rfl (s_iadd X dX2_settle_72 (s_putI X dX2_settle_73 (mcn (⟨_, _, _, _, tyX2, rfl, inU_X2, by decide, uw_87, rfl, tyX2_ok, nmX2, rfl, rfl⟩) (mnl)) (s_vret X hr dX2_settle_76)))))))
set_option maxRecDepth 100000 in
theorem vc_X2_settle {l : Launch} {g : Gm} {a0 : Nat} {a1 : Int32} {h : Hp} {mc ms : Nat} {P : PT} (H : ∀ G : Nat → CT, (∀ (b : Nat) (h : Hp) (cb sb : Nat) (ls : LocS) (st : List Value), bk_X2_settle l g b G P h cb sb ls st → G b h cb sb ls st) → G 0 h mc ms [some (.ref a0), some (.int a1)] []) : Run l g d_X2_settle [.ref a0, .int a1] h mc ms P :=
  Run.of (d := d_X2_settle) (by decide) (mcn rfl (mcn rfl (mnl))) (Nat.le_of_ble_eq_true rfl) (fun p e s m args below meth c X hr hn => H (fun b => GX g p l e s m args below meth c d_X2_settle 2 mc ms h P (pc_X2_settle b)) (fun b h1 cb sb ls st hb => match b, hb with
    | 0, hb => sb_X2_settle_0 (p := p) (e := e) (below := below) X hr hn h1 cb sb ls st hb
    | 1, hb => sb_X2_settle_1 (p := p) (e := e) (below := below) X hr hn h1 cb sb ls st hb
    | _ + 2, hb => hb.elim))
theorem dX2_addThing_0 : decode cX2_addThing 0 = .ok (.aload_n 0, 1) := by decide +kernel
theorem dX2_addThing_1 : decode cX2_addThing 1 = .ok (.getfield 31, 3) := by decide +kernel
theorem dX2_addThing_4 : decode cX2_addThing 4 = .ok (.ifCond .eq 21, 3) := by decide +kernel
theorem dX2_addThing_7 : decode cX2_addThing 7 = .ok (.aload_n 0, 1) := by decide +kernel
theorem dX2_addThing_8 : decode cX2_addThing 8 = .ok (.getfield 11, 3) := by decide +kernel
theorem dX2_addThing_11 : decode cX2_addThing 11 = .ok (.aload_n 0, 1) := by decide +kernel
theorem dX2_addThing_12 : decode cX2_addThing 12 = .ok (.getfield 31, 3) := by decide +kernel
theorem dX2_addThing_15 : decode cX2_addThing 15 = .ok (.iconst 1, 1) := by decide +kernel
theorem dX2_addThing_16 : decode cX2_addThing 16 = .ok (.isub, 1) := by decide +kernel
theorem dX2_addThing_17 : decode cX2_addThing 17 = .ok (.aaload, 1) := by decide +kernel
theorem dX2_addThing_18 : decode cX2_addThing 18 = .ok (.getfield 39, 3) := by decide +kernel
theorem dX2_addThing_21 : decode cX2_addThing 21 = .ok (.iconst 5, 1) := by decide +kernel
theorem dX2_addThing_22 : decode cX2_addThing 22 = .ok (.if_icmp .lt 4, 3) := by decide +kernel
theorem dX2_addThing_25 : decode cX2_addThing 25 = .ok (.return_, 1) := by decide +kernel
theorem dX2_addThing_26 : decode cX2_addThing 26 = .ok (.aload_n 0, 1) := by decide +kernel
theorem dX2_addThing_27 : decode cX2_addThing 27 = .ok (.getfield 11, 3) := by decide +kernel
theorem dX2_addThing_30 : decode cX2_addThing 30 = .ok (.aload_n 0, 1) := by decide +kernel
theorem dX2_addThing_31 : decode cX2_addThing 31 = .ok (.getfield 31, 3) := by decide +kernel
theorem dX2_addThing_34 : decode cX2_addThing 34 = .ok (.iconst 1, 1) := by decide +kernel
theorem dX2_addThing_35 : decode cX2_addThing 35 = .ok (.isub, 1) := by decide +kernel
theorem dX2_addThing_36 : decode cX2_addThing 36 = .ok (.aaload, 1) := by decide +kernel
theorem dX2_addThing_37 : decode cX2_addThing 37 = .ok (.astore_n 3, 1) := by decide +kernel
theorem dX2_addThing_38 : decode cX2_addThing 38 = .ok (.iload_n 1, 1) := by decide +kernel
theorem dX2_addThing_39 : decode cX2_addThing 39 = .ok (.ifCond .eq 13, 3) := by decide +kernel
theorem dX2_addThing_42 : decode cX2_addThing 42 = .ok (.aload_n 0, 1) := by decide +kernel
theorem dX2_addThing_43 : decode cX2_addThing 43 = .ok (.iload_n 1, 1) := by decide +kernel
theorem dX2_addThing_44 : decode cX2_addThing 44 = .ok (.iload_n 2, 1) := by decide +kernel
theorem dX2_addThing_45 : decode cX2_addThing 45 = .ok (.aload_n 3, 1) := by decide +kernel
theorem dX2_addThing_46 : decode cX2_addThing 46 = .ok (.getfield 39, 3) := by decide +kernel
theorem dX2_addThing_49 : decode cX2_addThing 49 = .ok (.invokevirtual 51, 3) := by decide +kernel
theorem dX2_addThing_52 : decode cX2_addThing 52 = .ok (.aload_n 3, 1) := by decide +kernel
theorem dX2_addThing_53 : decode cX2_addThing 53 = .ok (.iload_n 1, 1) := by decide +kernel
theorem dX2_addThing_54 : decode cX2_addThing 54 = .ok (.iload_n 2, 1) := by decide +kernel
theorem dX2_addThing_55 : decode cX2_addThing 55 = .ok (.invokevirtual 55, 3) := by decide +kernel
theorem dX2_addThing_58 : decode cX2_addThing 58 = .ok (.aload_n 0, 1) := by decide +kernel
theorem dX2_addThing_59 : decode cX2_addThing 59 = .ok (.dup, 1) := by decide +kernel
theorem dX2_addThing_60 : decode cX2_addThing 60 = .ok (.getfield 59, 3) := by decide +kernel
theorem dX2_addThing_63 : decode cX2_addThing 63 = .ok (.iconst 1, 1) := by decide +kernel
theorem dX2_addThing_64 : decode cX2_addThing 64 = .ok (.iadd, 1) := by decide +kernel
theorem dX2_addThing_65 : decode cX2_addThing 65 = .ok (.putfield 59, 3) := by decide +kernel
theorem dX2_addThing_68 : decode cX2_addThing 68 = .ok (.return_, 1) := by decide +kernel
def bk_X2_addThing_0 (l : Launch) (g : Gm) (G : Nat → CT) (P : PT) : CT := (oALd 0 (oGet [2] 4 (oIf (fun x => x = 0) (oVRet P) (oALd 0 (oGet [2] 0 (oALd 0 (oGet [2] 4 (oPush (.int (1)) (oBin (fun x y => x - y) (oRAL g 3 (oGet [4, 0, 1] 5 (oPush (.int (5)) (oCmp (fun x y => x < y) (oALd 0 (oGet [2] 0 (oALd 0 (oGet [2] 4 (oPush (.int (1)) (oBin (fun x y => x - y) (oRAL g 3 (oASt 3 (oILd 1 (oIf (fun x => x = 0) (G 1) (oALd 0 (oILd 1 (oILd 2 (oALd 3 (oGet [4, 0, 1] 5 (oCallV l g [(2, d_X2_noteLetter)] 4 (G 1))))))))))))))))) (oVRet P))))))))))))))
def bk_X2_addThing_1 (l : Launch) (g : Gm) (G : Nat → CT) (P : PT) : CT := (oALd 3 (oILd 1 (oILd 2 (oCallV l g [(4, d_X4_add), (0, d_X4_add), (1, d_X4_add)] 3 (oALd 0 (oDup (oGet [2] 5 (oPush (.int (1)) (oBin (fun x y => x + y) (oPutI [2] 5 (oVRet P)))))))))))
def bk_X2_addThing (l : Launch) (g : Gm) (b : Nat) (G : Nat → CT) (P : PT) : CT := match b with
  | 0 => bk_X2_addThing_0 l g G P
  | 1 => bk_X2_addThing_1 l g G P
  | _ => fun _ _ _ _ _ => False
def pc_X2_addThing (b : Nat) : Nat := match b with
  | 0 => 0
  | 1 => 52
  | _ => 0
set_option maxRecDepth 100000 in
theorem sb_X2_addThing_0 {p : Program} {l : Launch} {e : Env} {s : State} {m : MethodId} {args : Array Value} {below : List Frame} {meth : Method} {c : Code} {g : Gm} {h0 : Hp} {P : PT} {mc ms : Nat} (X : Cx g p s m args meth c (Adom h0 s.heap.size) cX2_addThing RX2 4) (hr : meth.sig.returnType = none) (hn : meth.name = "addThing") : SX g p l e s m args below meth c d_X2_addThing 4 mc ms h0 P (bk_X2_addThing_0 l g (fun b => GX g p l e s m args below meth c d_X2_addThing 4 mc ms h0 P (pc_X2_addThing b)) P) 0 := (s_aload_n X dX2_addThing_0 rfl (s_get X dX2_addThing_1 (mcn (⟨_, _, _, _, rfl, inU_X2, by decide, uw_87, rfl⟩) (mnl)) (s_if_eq X dX2_addThing_4 (by decide) (s_vret X hr dX2_addThing_25) (s_aload_n X dX2_addThing_7 rfl (s_get X dX2_addThing_8 (mcn (⟨_, _, _, _, rfl, inU_X2, by decide, uw_79, rfl⟩) (mnl)) (s_aload_n X dX2_addThing_11 rfl (s_get X dX2_addThing_12 (mcn (⟨_, _, _, _, rfl, inU_X2, by decide, uw_87, rfl⟩) (mnl)) (s_iconst X dX2_addThing_15 rfl (s_isub X dX2_addThing_16 (s_aaload X (t := 3) (fun _ => rfl) rfl dX2_addThing_17 (s_get X dX2_addThing_18 (mcn (⟨_, _, _, _, rfl, inU_X4, by decide, uw_285, rfl⟩) (mcn (⟨_, _, _, _, rfl, inU_X0, by decide, uw_285, rfl⟩) (mcn (⟨_, _, _, _, rfl, inU_X1, by decide, uw_285, rfl⟩) (mnl)))) (s_iconst X dX2_addThing_21 rfl (s_icmp_lt X dX2_addThing_22 (by decide) (s_aload_n X dX2_addThing_26 rfl (s_get X dX2_addThing_27 (mcn (⟨_, _, _, _, rfl, inU_X2, by decide, uw_79, rfl⟩) (mnl)) (s_aload_n X dX2_addThing_30 rfl (s_get X dX2_addThing_31 (mcn (⟨_, _, _, _, rfl, inU_X2, by decide, uw_87, rfl⟩) (mnl)) (s_iconst X dX2_addThing_34 rfl (s_isub X dX2_addThing_35 (s_aaload X (t := 3) (fun _ => rfl) rfl dX2_addThing_36 (s_astore_n X dX2_addThing_37 rfl (by decide) (s_iload_n X dX2_addThing_38 rfl (s_if_eq X dX2_addThing_39 (by decide) Sd.rf (s_aload_n X dX2_addThing_42 rfl (s_iload_n X dX2_addThing_43 rfl (s_iload_n X dX2_addThing_44 rfl (s_aload_n X dX2_addThing_45 rfl (s_get X dX2_addThing_46 (mcn (⟨_, _, _, _, rfl, inU_X4, by decide, uw_285, rfl⟩) (mcn (⟨_, _, _, _, rfl, inU_X0, by decide, uw_285, rfl⟩) (mcn (⟨_, _, _, _, rfl, inU_X1, by decide, uw_285, rfl⟩) (mnl)))) (s_callV X dX2_addThing_49 (mv (vok_V X rfl uw_330 uw_332 (UW_pr 3 rfl rfl) uw_3 ci_X2_noteLetter yok_X2_noteLetter ⟨Nat.le_of_ble_eq_true rfl, Nat.le_of_ble_eq_true rfl⟩) mv0) Sd.rf)))))))))))))))) (s_vret X hr dX2_addThing_25))))))))))))))
set_option maxRecDepth 100000 in
theorem sb_X2_addThing_1 {p : Program} {l : Launch} {e : Env} {s : State} {m : MethodId} {args : Array Value} {below : List Frame} {meth : Method} {c : Code} {g : Gm} {h0 : Hp} {P : PT} {mc ms : Nat} (X : Cx g p s m args meth c (Adom h0 s.heap.size) cX2_addThing RX2 4) (hr : meth.sig.returnType = none) (hn : meth.name = "addThing") : SX g p l e s m args below meth c d_X2_addThing 4 mc ms h0 P (bk_X2_addThing_1 l g (fun b => GX g p l e s m args below meth c d_X2_addThing 4 mc ms h0 P (pc_X2_addThing b)) P) 52 := (s_aload_n X dX2_addThing_52 rfl (s_iload_n X dX2_addThing_53 rfl (s_iload_n X dX2_addThing_54 rfl (s_callV X dX2_addThing_55 (mv (vok_U X (owner := RX4) (x := ⟨"VillageCuts$Plain", "add", "(II)V"⟩) rfl rfl uw_334 uw_337 uw_336 uw_335 uw_9 ci_X4_add (by decide +kernel) ⟨Nat.le_of_ble_eq_true rfl, Nat.le_of_ble_eq_true rfl⟩) (mv (vok_U X (owner := RX4) (x := ⟨"VillageCuts$Plain", "add", "(II)V"⟩) rfl rfl uw_334 uw_337 uw_338 uw_335 uw_9 ci_X4_add (by decide +kernel) ⟨Nat.le_of_ble_eq_true rfl, Nat.le_of_ble_eq_true rfl⟩) (mv (vok_U X (owner := RX4) (x := ⟨"VillageCuts$Plain", "add", "(II)V"⟩) rfl rfl uw_334 uw_337 uw_339 uw_335 uw_9 ci_X4_add (by decide +kernel) ⟨Nat.le_of_ble_eq_true rfl, Nat.le_of_ble_eq_true rfl⟩) (mv0)))) (s_aload_n X dX2_addThing_58 rfl (s_dup X dX2_addThing_59 (s_get X dX2_addThing_60 (mcn (⟨_, _, _, _, rfl, inU_X2, by decide, uw_91, rfl⟩) (mnl)) (s_iconst X dX2_addThing_63 rfl (s_iadd X dX2_addThing_64 (s_putI X dX2_addThing_65 (mcn (⟨_, _, _, _, tyX2, rfl, inU_X2, by decide, uw_91, rfl, tyX2_ok, nmX2, rfl, rfl⟩) (mnl)) (s_vret X hr dX2_addThing_68)))))))))))
set_option maxRecDepth 100000 in
theorem vc_X2_addThing {l : Launch} {g : Gm} {a0 : Nat} {a1 : Int32} {a2 : Int32} {h : Hp} {mc ms : Nat} {P : PT} (H : ∀ G : Nat → CT, (∀ (b : Nat) (h : Hp) (cb sb : Nat) (ls : LocS) (st : List Value), bk_X2_addThing l g b G P h cb sb ls st → G b h cb sb ls st) → G 0 h mc ms [some (.ref a0), some (.int a1), some (.int a2), none] []) : Run l g d_X2_addThing [.ref a0, .int a1, .int a2] h mc ms P :=
  Run.of (d := d_X2_addThing) (by decide) (mcn rfl (mcn rfl (mcn rfl (mnl)))) (Nat.le_of_ble_eq_true rfl) (fun p e s m args below meth c X hr hn => H (fun b => GX g p l e s m args below meth c d_X2_addThing 4 mc ms h P (pc_X2_addThing b)) (fun b h1 cb sb ls st hb => match b, hb with
    | 0, hb => sb_X2_addThing_0 (p := p) (e := e) (below := below) X hr hn h1 cb sb ls st hb
    | 1, hb => sb_X2_addThing_1 (p := p) (e := e) (below := below) X hr hn h1 cb sb ls st hb
    | _ + 2, hb => hb.elim))
theorem dX2_noteLetter_0 : decode cX2_noteLetter 0 = .ok (.iload_n 2, 1) := by decide +kernel
theorem dX2_noteLetter_1 : decode cX2_noteLetter 1 = .ok (.ifCond .lt 9, 3) := by decide +kernel
theorem dX2_noteLetter_4 : decode cX2_noteLetter 4 = .ok (.iload_n 2, 1) := by decide +kernel
theorem dX2_noteLetter_5 : decode cX2_noteLetter 5 = .ok (.bipush 8, 2) := by decide +kernel
theorem dX2_noteLetter_7 : decode cX2_noteLetter 7 = .ok (.if_icmp .lt 4, 3) := by decide +kernel
theorem dX2_noteLetter_10 : decode cX2_noteLetter 10 = .ok (.return_, 1) := by decide +kernel
theorem dX2_noteLetter_11 : decode cX2_noteLetter 11 = .ok (.aload_n 0, 1) := by decide +kernel
theorem dX2_noteLetter_12 : decode cX2_noteLetter 12 = .ok (.getfield 19, 3) := by decide +kernel
theorem dX2_noteLetter_15 : decode cX2_noteLetter 15 = .ok (.iload_n 2, 1) := by decide +kernel
theorem dX2_noteLetter_16 : decode cX2_noteLetter 16 = .ok (.aaload, 1) := by decide +kernel
theorem dX2_noteLetter_17 : decode cX2_noteLetter 17 = .ok (.astore 4, 2) := by decide +kernel
theorem dX2_noteLetter_19 : decode cX2_noteLetter 19 = .ok (.iload_n 1, 1) := by decide +kernel
theorem dX2_noteLetter_20 : decode cX2_noteLetter 20 = .ok (.iconst 1, 1) := by decide +kernel
theorem dX2_noteLetter_21 : decode cX2_noteLetter 21 = .ok (.if_icmp .ne 34, 3) := by decide +kernel
theorem dX2_noteLetter_24 : decode cX2_noteLetter 24 = .ok (.aload 4, 2) := by decide +kernel
theorem dX2_noteLetter_26 : decode cX2_noteLetter 26 = .ok (.dup, 1) := by decide +kernel
theorem dX2_noteLetter_27 : decode cX2_noteLetter 27 = .ok (.getfield 60, 3) := by decide +kernel
theorem dX2_noteLetter_30 : decode cX2_noteLetter 30 = .ok (.iconst 1, 1) := by decide +kernel
theorem dX2_noteLetter_31 : decode cX2_noteLetter 31 = .ok (.iadd, 1) := by decide +kernel
theorem dX2_noteLetter_32 : decode cX2_noteLetter 32 = .ok (.putfield 60, 3) := by decide +kernel
theorem dX2_noteLetter_35 : decode cX2_noteLetter 35 = .ok (.aload 4, 2) := by decide +kernel
theorem dX2_noteLetter_37 : decode cX2_noteLetter 37 = .ok (.aload_n 0, 1) := by decide +kernel
theorem dX2_noteLetter_38 : decode cX2_noteLetter 38 = .ok (.getfield 31, 3) := by decide +kernel
theorem dX2_noteLetter_41 : decode cX2_noteLetter 41 = .ok (.iconst 1, 1) := by decide +kernel
theorem dX2_noteLetter_42 : decode cX2_noteLetter 42 = .ok (.isub, 1) := by decide +kernel
theorem dX2_noteLetter_43 : decode cX2_noteLetter 43 = .ok (.putfield 63, 3) := by decide +kernel
theorem dX2_noteLetter_46 : decode cX2_noteLetter 46 = .ok (.aload 4, 2) := by decide +kernel
theorem dX2_noteLetter_48 : decode cX2_noteLetter 48 = .ok (.iload_n 3, 1) := by decide +kernel
theorem dX2_noteLetter_49 : decode cX2_noteLetter 49 = .ok (.putfield 66, 3) := by decide +kernel
theorem dX2_noteLetter_52 : decode cX2_noteLetter 52 = .ok (.goto 31, 3) := by decide +kernel
theorem dX2_noteLetter_55 : decode cX2_noteLetter 55 = .ok (.aload 4, 2) := by decide +kernel
theorem dX2_noteLetter_57 : decode cX2_noteLetter 57 = .ok (.dup, 1) := by decide +kernel
theorem dX2_noteLetter_58 : decode cX2_noteLetter 58 = .ok (.getfield 69, 3) := by decide +kernel
theorem dX2_noteLetter_61 : decode cX2_noteLetter 61 = .ok (.iconst 1, 1) := by decide +kernel
theorem dX2_noteLetter_62 : decode cX2_noteLetter 62 = .ok (.iadd, 1) := by decide +kernel
theorem dX2_noteLetter_63 : decode cX2_noteLetter 63 = .ok (.putfield 69, 3) := by decide +kernel
theorem dX2_noteLetter_66 : decode cX2_noteLetter 66 = .ok (.aload 4, 2) := by decide +kernel
theorem dX2_noteLetter_68 : decode cX2_noteLetter 68 = .ok (.aload_n 0, 1) := by decide +kernel
theorem dX2_noteLetter_69 : decode cX2_noteLetter 69 = .ok (.getfield 31, 3) := by decide +kernel
theorem dX2_noteLetter_72 : decode cX2_noteLetter 72 = .ok (.iconst 1, 1) := by decide +kernel
theorem dX2_noteLetter_73 : decode cX2_noteLetter 73 = .ok (.isub, 1) := by decide +kernel
theorem dX2_noteLetter_74 : decode cX2_noteLetter 74 = .ok (.putfield 72, 3) := by decide +kernel
theorem dX2_noteLetter_77 : decode cX2_noteLetter 77 = .ok (.aload 4, 2) := by decide +kernel
theorem dX2_noteLetter_79 : decode cX2_noteLetter 79 = .ok (.iload_n 3, 1) := by decide +kernel
theorem dX2_noteLetter_80 : decode cX2_noteLetter 80 = .ok (.putfield 75, 3) := by decide +kernel
theorem dX2_noteLetter_83 : decode cX2_noteLetter 83 = .ok (.return_, 1) := by decide +kernel
def bk_X2_noteLetter_0 (l : Launch) (g : Gm) (G : Nat → CT) (P : PT) : CT := (oILd 2 (oIf (fun x => x < 0) (oVRet P) (oILd 2 (oPush (.int (8)) (oCmp (fun x y => x < y) (oALd 0 (oGet [2] 1 (oILd 2 (oRAL g 4 (oASt 4 (oILd 1 (oPush (.int (1)) (oCmp (fun x y => x = y) (oALd 4 (oDup (oGet [3] 0 (oPush (.int (1)) (oBin (fun x y => x + y) (oPutI [3] 0 (oALd 4 (oALd 0 (oGet [2] 4 (oPush (.int (1)) (oBin (fun x y => x - y) (oPutI [3] 1 (oALd 4 (oILd 3 (oPutI [3] 2 (oGo (oVRet P))))))))))))))))) (oALd 4 (oDup (oGet [3] 3 (oPush (.int (1)) (oBin (fun x y => x + y) (oPutI [3] 3 (oALd 4 (oALd 0 (oGet [2] 4 (oPush (.int (1)) (oBin (fun x y => x - y) (oPutI [3] 4 (oALd 4 (oILd 3 (oPutI [3] 5 (oVRet P)))))))))))))))))))))))) (oVRet P))))))
def bk_X2_noteLetter (l : Launch) (g : Gm) (b : Nat) (G : Nat → CT) (P : PT) : CT := match b with
  | 0 => bk_X2_noteLetter_0 l g G P
  | _ => fun _ _ _ _ _ => False
def pc_X2_noteLetter (b : Nat) : Nat := match b with
  | 0 => 0
  | _ => 0
set_option maxRecDepth 100000 in
theorem sb_X2_noteLetter_0 {p : Program} {l : Launch} {e : Env} {s : State} {m : MethodId} {args : Array Value} {below : List Frame} {meth : Method} {c : Code} {g : Gm} {h0 : Hp} {P : PT} {mc ms : Nat} (X : Cx g p s m args meth c (Adom h0 s.heap.size) cX2_noteLetter RX2 5) (hr : meth.sig.returnType = none) (hn : meth.name = "noteLetter") : SX g p l e s m args below meth c d_X2_noteLetter 5 mc ms h0 P (bk_X2_noteLetter_0 l g (fun b => GX g p l e s m args below meth c d_X2_noteLetter 5 mc ms h0 P (pc_X2_noteLetter b)) P) 0 := (s_iload_n X dX2_noteLetter_0 rfl (s_if_lt X dX2_noteLetter_1 (by decide) (s_vret X hr dX2_noteLetter_10) (s_iload_n X dX2_noteLetter_4 rfl (s_bipush X dX2_noteLetter_5 rfl (s_icmp_lt X dX2_noteLetter_7 (by decide) (s_aload_n X dX2_noteLetter_11 rfl (s_get X dX2_noteLetter_12 (mcn (⟨_, _, _, _, rfl, inU_X2, by decide, uw_82, rfl⟩) (mnl)) (s_iload_n X dX2_noteLetter_15 rfl (s_aaload X (t := 4) (fun _ => rfl) rfl dX2_noteLetter_16 (s_astore X dX2_noteLetter_17 (by decide) (s_iload_n X dX2_noteLetter_19 rfl (s_iconst X dX2_noteLetter_20 rfl (s_icmp_ne X dX2_noteLetter_21 (by decide) (s_aload X dX2_noteLetter_55 (s_dup X dX2_noteLetter_57 (s_get X dX2_noteLetter_58 (mcn (⟨_, _, _, _, rfl, inU_X3, by decide, uw_60, rfl⟩) (mnl)) (s_iconst X dX2_noteLetter_61 rfl (s_iadd X dX2_noteLetter_62 (s_putI X dX2_noteLetter_63 (mcn (⟨_, _, _, _, tyX3, rfl, inU_X3, by decide, uw_60, rfl, tyX3_ok, nmX3, rfl, rfl⟩) (mnl)) (s_aload X dX2_noteLetter_66 (s_aload_n X dX2_noteLetter_68 rfl (s_get X dX2_noteLetter_69 (mcn (⟨_, _, _, _, rfl, inU_X2, by decide, uw_87, rfl⟩) (mnl)) (s_iconst X dX2_noteLetter_72 rfl (s_isub X dX2_noteLetter_73 (s_putI X dX2_noteLetter_74 (mcn (⟨_, _, _, _, tyX3, rfl, inU_X3, by decide, uw_62, rfl, tyX3_ok, nmX3, rfl, rfl⟩) (mnl)) (s_aload X dX2_noteLetter_77 (s_iload_n X dX2_noteLetter_79 rfl (s_putI X dX2_noteLetter_80 (mcn (⟨_, _, _, _, tyX3, rfl, inU_X3, by decide, uw_64, rfl, tyX3_ok, nmX3, rfl, rfl⟩) (mnl)) (s_vret X hr dX2_noteLetter_83)))))))))))))))) (s_aload X dX2_noteLetter_24 (s_dup X dX2_noteLetter_26 (s_get X dX2_noteLetter_27 (mcn (⟨_, _, _, _, rfl, inU_X3, by decide, uw_54, rfl⟩) (mnl)) (s_iconst X dX2_noteLetter_30 rfl (s_iadd X dX2_noteLetter_31 (s_putI X dX2_noteLetter_32 (mcn (⟨_, _, _, _, tyX3, rfl, inU_X3, by decide, uw_54, rfl, tyX3_ok, nmX3, rfl, rfl⟩) (mnl)) (s_aload X dX2_noteLetter_35 (s_aload_n X dX2_noteLetter_37 rfl (s_get X dX2_noteLetter_38 (mcn (⟨_, _, _, _, rfl, inU_X2, by decide, uw_87, rfl⟩) (mnl)) (s_iconst X dX2_noteLetter_41 rfl (s_isub X dX2_noteLetter_42 (s_putI X dX2_noteLetter_43 (mcn (⟨_, _, _, _, tyX3, rfl, inU_X3, by decide, uw_56, rfl, tyX3_ok, nmX3, rfl, rfl⟩) (mnl)) (s_aload X dX2_noteLetter_46 (s_iload_n X dX2_noteLetter_48 rfl (s_putI X dX2_noteLetter_49 (mcn (⟨_, _, _, _, tyX3, rfl, inU_X3, by decide, uw_58, rfl, tyX3_ok, nmX3, rfl, rfl⟩) (mnl)) (s_goto X dX2_noteLetter_52 (by decide) (s_vret X hr dX2_noteLetter_83))))))))))))))))))))))))) (s_vret X hr dX2_noteLetter_10))))))
set_option maxRecDepth 100000 in
theorem vc_X2_noteLetter {l : Launch} {g : Gm} {a0 : Nat} {a1 : Int32} {a2 : Int32} {a3 : Int32} {h : Hp} {mc ms : Nat} {P : PT} (H : ∀ G : Nat → CT, (∀ (b : Nat) (h : Hp) (cb sb : Nat) (ls : LocS) (st : List Value), bk_X2_noteLetter l g b G P h cb sb ls st → G b h cb sb ls st) → G 0 h mc ms [some (.ref a0), some (.int a1), some (.int a2), some (.int a3), none] []) : Run l g d_X2_noteLetter [.ref a0, .int a1, .int a2, .int a3] h mc ms P :=
  Run.of (d := d_X2_noteLetter) (by decide) (mcn rfl (mcn rfl (mcn rfl (mcn rfl (mnl))))) (Nat.le_of_ble_eq_true rfl) (fun p e s m args below meth c X hr hn => H (fun b => GX g p l e s m args below meth c d_X2_noteLetter 5 mc ms h P (pc_X2_noteLetter b)) (fun b h1 cb sb ls st hb => match b, hb with
    | 0, hb => sb_X2_noteLetter_0 (p := p) (e := e) (below := below) X hr hn h1 cb sb ls st hb
    | _ + 1, hb => hb.elim))
theorem dX2_leastAmiss_0 : decode cX2_leastAmiss 0 = .ok (.iconst 0, 1) := by decide +kernel
theorem dX2_leastAmiss_1 : decode cX2_leastAmiss 1 = .ok (.istore_n 1, 1) := by decide +kernel
theorem dX2_leastAmiss_2 : decode cX2_leastAmiss 2 = .ok (.iload_n 1, 1) := by decide +kernel
theorem dX2_leastAmiss_3 : decode cX2_leastAmiss 3 = .ok (.bipush 8, 2) := by decide +kernel
theorem dX2_leastAmiss_5 : decode cX2_leastAmiss 5 = .ok (.if_icmp .ge 23, 3) := by decide +kernel
theorem dX2_leastAmiss_8 : decode cX2_leastAmiss 8 = .ok (.aload_n 0, 1) := by decide +kernel
theorem dX2_leastAmiss_9 : decode cX2_leastAmiss 9 = .ok (.getfield 19, 3) := by decide +kernel
theorem dX2_leastAmiss_12 : decode cX2_leastAmiss 12 = .ok (.iload_n 1, 1) := by decide +kernel
theorem dX2_leastAmiss_13 : decode cX2_leastAmiss 13 = .ok (.aaload, 1) := by decide +kernel
theorem dX2_leastAmiss_14 : decode cX2_leastAmiss 14 = .ok (.invokevirtual 78, 3) := by decide +kernel
theorem dX2_leastAmiss_17 : decode cX2_leastAmiss 17 = .ok (.ifCond .eq 5, 3) := by decide +kernel
theorem dX2_leastAmiss_20 : decode cX2_leastAmiss 20 = .ok (.iload_n 1, 1) := by decide +kernel
theorem dX2_leastAmiss_21 : decode cX2_leastAmiss 21 = .ok (.ireturn, 1) := by decide +kernel
theorem dX2_leastAmiss_22 : decode cX2_leastAmiss 22 = .ok (.iinc 1 1, 3) := by decide +kernel
theorem dX2_leastAmiss_25 : decode cX2_leastAmiss 25 = .ok (.goto (-23), 3) := by decide +kernel
theorem dX2_leastAmiss_28 : decode cX2_leastAmiss 28 = .ok (.bipush (-9), 2) := by decide +kernel
theorem dX2_leastAmiss_30 : decode cX2_leastAmiss 30 = .ok (.ireturn, 1) := by decide +kernel
def bk_X2_leastAmiss_0 (l : Launch) (g : Gm) (G : Nat → CT) (P : PT) : CT := (oPush (.int (0)) (oISt 1 (G 1)))
def bk_X2_leastAmiss_1 (l : Launch) (g : Gm) (G : Nat → CT) (P : PT) : CT := (oILd 1 (oPush (.int (8)) (oCmp (fun x y => y ≤ x) (oPush (.int (-9)) (oIRet P)) (oALd 0 (oGet [2] 1 (oILd 1 (oRAL g 4 (oCallV l g [(3, d_X3_isAmiss)] 1 (oIf (fun x => x = 0) (oInc 1 (1) (oGo (G 1))) (oILd 1 (oIRet P)))))))))))
def bk_X2_leastAmiss (l : Launch) (g : Gm) (b : Nat) (G : Nat → CT) (P : PT) : CT := match b with
  | 0 => bk_X2_leastAmiss_0 l g G P
  | 1 => bk_X2_leastAmiss_1 l g G P
  | _ => fun _ _ _ _ _ => False
def pc_X2_leastAmiss (b : Nat) : Nat := match b with
  | 0 => 0
  | 1 => 2
  | _ => 0
set_option maxRecDepth 100000 in
theorem sb_X2_leastAmiss_0 {p : Program} {l : Launch} {e : Env} {s : State} {m : MethodId} {args : Array Value} {below : List Frame} {meth : Method} {c : Code} {g : Gm} {h0 : Hp} {P : PT} {mc ms : Nat} (X : Cx g p s m args meth c (Adom h0 s.heap.size) cX2_leastAmiss RX2 2) (hr : meth.sig.returnType = some .int) (hn : meth.name = "leastAmiss") : SX g p l e s m args below meth c d_X2_leastAmiss 2 mc ms h0 P (bk_X2_leastAmiss_0 l g (fun b => GX g p l e s m args below meth c d_X2_leastAmiss 2 mc ms h0 P (pc_X2_leastAmiss b)) P) 0 := (s_iconst X dX2_leastAmiss_0 rfl (s_istore_n X dX2_leastAmiss_1 rfl (by decide) Sd.rf))
set_option maxRecDepth 100000 in
theorem sb_X2_leastAmiss_1 {p : Program} {l : Launch} {e : Env} {s : State} {m : MethodId} {args : Array Value} {below : List Frame} {meth : Method} {c : Code} {g : Gm} {h0 : Hp} {P : PT} {mc ms : Nat} (X : Cx g p s m args meth c (Adom h0 s.heap.size) cX2_leastAmiss RX2 2) (hr : meth.sig.returnType = some .int) (hn : meth.name = "leastAmiss") : SX g p l e s m args below meth c d_X2_leastAmiss 2 mc ms h0 P (bk_X2_leastAmiss_1 l g (fun b => GX g p l e s m args below meth c d_X2_leastAmiss 2 mc ms h0 P (pc_X2_leastAmiss b)) P) 2 := (s_iload_n X dX2_leastAmiss_2 rfl (s_bipush X dX2_leastAmiss_3 rfl (s_icmp_ge X dX2_leastAmiss_5 (by decide) (s_bipush X dX2_leastAmiss_28 rfl (s_iret X hr dX2_leastAmiss_30)) (s_aload_n X dX2_leastAmiss_8 rfl (s_get X dX2_leastAmiss_9 (mcn (⟨_, _, _, _, rfl, inU_X2, by decide, uw_82, rfl⟩) (mnl)) (s_iload_n X dX2_leastAmiss_12 rfl (s_aaload X (t := 4) (fun _ => rfl) rfl dX2_leastAmiss_13 (s_callV X dX2_leastAmiss_14 (mv (vok_V X rfl uw_345 uw_346 uw_347 uw_4 ci_X3_isAmiss yok_X3_isAmiss ⟨Nat.le_of_ble_eq_true rfl, Nat.le_of_ble_eq_true rfl⟩) mv0) (s_if_eq X dX2_leastAmiss_17 (by decide) (s_iinc X dX2_leastAmiss_22 rfl (by decide) (s_goto X dX2_leastAmiss_25 (by decide) Sd.rf)) (s_iload_n X dX2_leastAmiss_20 rfl (s_iret X hr dX2_leastAmiss_21)))))))))))
set_option maxRecDepth 100000 in
theorem vc_X2_leastAmiss {l : Launch} {g : Gm} {a0 : Nat} {h : Hp} {mc ms : Nat} {P : PT} (H : ∀ G : Nat → CT, (∀ (b : Nat) (h : Hp) (cb sb : Nat) (ls : LocS) (st : List Value), bk_X2_leastAmiss l g b G P h cb sb ls st → G b h cb sb ls st) → G 0 h mc ms [some (.ref a0), none] []) : Run l g d_X2_leastAmiss [.ref a0] h mc ms P :=
  Run.of (d := d_X2_leastAmiss) (by decide) (mcn rfl (mnl)) (Nat.le_of_ble_eq_true rfl) (fun p e s m args below meth c X hr hn => H (fun b => GX g p l e s m args below meth c d_X2_leastAmiss 2 mc ms h P (pc_X2_leastAmiss b)) (fun b h1 cb sb ls st hb => match b, hb with
    | 0, hb => sb_X2_leastAmiss_0 (p := p) (e := e) (below := below) X hr hn h1 cb sb ls st hb
    | 1, hb => sb_X2_leastAmiss_1 (p := p) (e := e) (below := below) X hr hn h1 cb sb ls st hb
    | _ + 2, hb => hb.elim))
theorem dX2_isOrdered_0 : decode cX2_isOrdered 0 = .ok (.iconst 4, 1) := by decide +kernel
theorem dX2_isOrdered_1 : decode cX2_isOrdered 1 = .ok (.newarray .int, 2) := by decide +kernel
theorem dX2_isOrdered_3 : decode cX2_isOrdered 3 = .ok (.astore_n 1, 1) := by decide +kernel
theorem dX2_isOrdered_4 : decode cX2_isOrdered 4 = .ok (.iconst 0, 1) := by decide +kernel
theorem dX2_isOrdered_5 : decode cX2_isOrdered 5 = .ok (.istore_n 2, 1) := by decide +kernel
theorem dX2_isOrdered_6 : decode cX2_isOrdered 6 = .ok (.iload_n 2, 1) := by decide +kernel
theorem dX2_isOrdered_7 : decode cX2_isOrdered 7 = .ok (.aload_n 0, 1) := by decide +kernel
theorem dX2_isOrdered_8 : decode cX2_isOrdered 8 = .ok (.getfield 59, 3) := by decide +kernel
theorem dX2_isOrdered_11 : decode cX2_isOrdered 11 = .ok (.if_icmp .ge 45, 3) := by decide +kernel
theorem dX2_isOrdered_14 : decode cX2_isOrdered 14 = .ok (.aload_n 0, 1) := by decide +kernel
theorem dX2_isOrdered_15 : decode cX2_isOrdered 15 = .ok (.aload_n 1, 1) := by decide +kernel
theorem dX2_isOrdered_16 : decode cX2_isOrdered 16 = .ok (.invokevirtual 82, 3) := by decide +kernel
theorem dX2_isOrdered_19 : decode cX2_isOrdered 19 = .ok (.istore_n 3, 1) := by decide +kernel
theorem dX2_isOrdered_20 : decode cX2_isOrdered 20 = .ok (.iload_n 3, 1) := by decide +kernel
theorem dX2_isOrdered_21 : decode cX2_isOrdered 21 = .ok (.bipush (-9), 2) := by decide +kernel
theorem dX2_isOrdered_23 : decode cX2_isOrdered 23 = .ok (.if_icmp .ne 5, 3) := by decide +kernel
theorem dX2_isOrdered_26 : decode cX2_isOrdered 26 = .ok (.iconst 0, 1) := by decide +kernel
theorem dX2_isOrdered_27 : decode cX2_isOrdered 27 = .ok (.ireturn, 1) := by decide +kernel
theorem dX2_isOrdered_28 : decode cX2_isOrdered 28 = .ok (.aload_n 0, 1) := by decide +kernel
theorem dX2_isOrdered_29 : decode cX2_isOrdered 29 = .ok (.getfield 23, 3) := by decide +kernel
theorem dX2_isOrdered_32 : decode cX2_isOrdered 32 = .ok (.iload_n 2, 1) := by decide +kernel
theorem dX2_isOrdered_33 : decode cX2_isOrdered 33 = .ok (.iload_n 3, 1) := by decide +kernel
theorem dX2_isOrdered_34 : decode cX2_isOrdered 34 = .ok (.iastore, 1) := by decide +kernel
theorem dX2_isOrdered_35 : decode cX2_isOrdered 35 = .ok (.aload_n 0, 1) := by decide +kernel
theorem dX2_isOrdered_36 : decode cX2_isOrdered 36 = .ok (.iload_n 3, 1) := by decide +kernel
theorem dX2_isOrdered_37 : decode cX2_isOrdered 37 = .ok (.aload_n 1, 1) := by decide +kernel
theorem dX2_isOrdered_38 : decode cX2_isOrdered 38 = .ok (.iload_n 3, 1) := by decide +kernel
theorem dX2_isOrdered_39 : decode cX2_isOrdered 39 = .ok (.iaload, 1) := by decide +kernel
theorem dX2_isOrdered_40 : decode cX2_isOrdered 40 = .ok (.invokevirtual 86, 3) := by decide +kernel
theorem dX2_isOrdered_43 : decode cX2_isOrdered 43 = .ok (.aload_n 1, 1) := by decide +kernel
theorem dX2_isOrdered_44 : decode cX2_isOrdered 44 = .ok (.iload_n 3, 1) := by decide +kernel
theorem dX2_isOrdered_45 : decode cX2_isOrdered 45 = .ok (.dup2, 1) := by decide +kernel
theorem dX2_isOrdered_46 : decode cX2_isOrdered 46 = .ok (.iaload, 1) := by decide +kernel
theorem dX2_isOrdered_47 : decode cX2_isOrdered 47 = .ok (.iconst 1, 1) := by decide +kernel
theorem dX2_isOrdered_48 : decode cX2_isOrdered 48 = .ok (.iadd, 1) := by decide +kernel
theorem dX2_isOrdered_49 : decode cX2_isOrdered 49 = .ok (.iastore, 1) := by decide +kernel
theorem dX2_isOrdered_50 : decode cX2_isOrdered 50 = .ok (.iinc 2 1, 3) := by decide +kernel
theorem dX2_isOrdered_53 : decode cX2_isOrdered 53 = .ok (.goto (-47), 3) := by decide +kernel
theorem dX2_isOrdered_56 : decode cX2_isOrdered 56 = .ok (.iconst 1, 1) := by decide +kernel
theorem dX2_isOrdered_57 : decode cX2_isOrdered 57 = .ok (.ireturn, 1) := by decide +kernel
def bk_X2_isOrdered_0 (l : Launch) (g : Gm) (G : Nat → CT) (P : PT) : CT := (oPush (.int (4)) (oNewI g (oASt 1 (oPush (.int (0)) (oISt 2 (G 1))))))
def bk_X2_isOrdered_1 (l : Launch) (g : Gm) (G : Nat → CT) (P : PT) : CT := (oILd 2 (oALd 0 (oGet [2] 5 (oCmp (fun x y => y ≤ x) (oPush (.int (1)) (oZRet P)) (oALd 0 (oALd 1 (oCallV l g [(2, d_X2_firstThatGoesOn)] 2 (oISt 3 (oILd 3 (oPush (.int (-9)) (oCmp (fun x y => x = y) (oPush (.int (0)) (oZRet P)) (oALd 0 (oGet [2] 2 (oILd 2 (oILd 3 (oIAS g (oALd 0 (oILd 3 (oALd 1 (oILd 3 (oIAL g (oCallV l g [(2, d_X2_noteNeed)] 3 (oALd 1 (oILd 3 (oDup2 (oIAL g (oPush (.int (1)) (oBin (fun x y => x + y) (oIAS g (oInc 2 (1) (oGo (G 1))))))))))))))))))))))))))))))))
def bk_X2_isOrdered (l : Launch) (g : Gm) (b : Nat) (G : Nat → CT) (P : PT) : CT := match b with
  | 0 => bk_X2_isOrdered_0 l g G P
  | 1 => bk_X2_isOrdered_1 l g G P
  | _ => fun _ _ _ _ _ => False
def pc_X2_isOrdered (b : Nat) : Nat := match b with
  | 0 => 0
  | 1 => 6
  | _ => 0
set_option maxRecDepth 100000 in
theorem sb_X2_isOrdered_0 {p : Program} {l : Launch} {e : Env} {s : State} {m : MethodId} {args : Array Value} {below : List Frame} {meth : Method} {c : Code} {g : Gm} {h0 : Hp} {P : PT} {mc ms : Nat} (X : Cx g p s m args meth c (Adom h0 s.heap.size) cX2_isOrdered RX2 4) (hr : meth.sig.returnType = some .boolean) (hn : meth.name = "isOrdered") : SX g p l e s m args below meth c d_X2_isOrdered 4 mc ms h0 P (bk_X2_isOrdered_0 l g (fun b => GX g p l e s m args below meth c d_X2_isOrdered 4 mc ms h0 P (pc_X2_isOrdered b)) P) 0 := (s_iconst X dX2_isOrdered_0 rfl (s_newI X uw_78 dX2_isOrdered_1 (s_astore_n X dX2_isOrdered_3 rfl (by decide) (s_iconst X dX2_isOrdered_4 rfl (s_istore_n X dX2_isOrdered_5 rfl (by decide) Sd.rf)))))
set_option maxRecDepth 100000 in
theorem sb_X2_isOrdered_1 {p : Program} {l : Launch} {e : Env} {s : State} {m : MethodId} {args : Array Value} {below : List Frame} {meth : Method} {c : Code} {g : Gm} {h0 : Hp} {P : PT} {mc ms : Nat} (X : Cx g p s m args meth c (Adom h0 s.heap.size) cX2_isOrdered RX2 4) (hr : meth.sig.returnType = some .boolean) (hn : meth.name = "isOrdered") : SX g p l e s m args below meth c d_X2_isOrdered 4 mc ms h0 P (bk_X2_isOrdered_1 l g (fun b => GX g p l e s m args below meth c d_X2_isOrdered 4 mc ms h0 P (pc_X2_isOrdered b)) P) 6 := (s_iload_n X dX2_isOrdered_6 rfl (s_aload_n X dX2_isOrdered_7 rfl (s_get X dX2_isOrdered_8 (mcn (⟨_, _, _, _, rfl, inU_X2, by decide, uw_91, rfl⟩) (mnl)) (s_icmp_ge X dX2_isOrdered_11 (by decide) (s_iconst X dX2_isOrdered_56 rfl (s_zret X hr dX2_isOrdered_57)) (s_aload_n X dX2_isOrdered_14 rfl (s_aload_n X dX2_isOrdered_15 rfl (s_callV X dX2_isOrdered_16 (mv (vok_V X rfl uw_353 uw_355 (UW_pr 4 rfl rfl) uw_3 ci_X2_firstThatGoesOn yok_X2_firstThatGoesOn ⟨Nat.le_of_ble_eq_true rfl, Nat.le_of_ble_eq_true rfl⟩) mv0) (s_istore_n X dX2_isOrdered_19 rfl (by decide) (s_iload_n X dX2_isOrdered_20 rfl (s_bipush X dX2_isOrdered_21 rfl (s_icmp_ne X dX2_isOrdered_23 (by decide) (s_aload_n X dX2_isOrdered_28 rfl (s_get X dX2_isOrdered_29 (mcn (⟨_, _, _, _, rfl, inU_X2, by decide, uw_83, rfl⟩) (mnl)) (s_iload_n X dX2_isOrdered_32 rfl (s_iload_n X dX2_isOrdered_33 rfl (s_iastore X dX2_isOrdered_34 (s_aload_n X dX2_isOrdered_35 rfl (s_iload_n X dX2_isOrdered_36 rfl (s_aload_n X dX2_isOrdered_37 rfl (s_iload_n X dX2_isOrdered_38 rfl (s_iaload X dX2_isOrdered_39 (s_callV X dX2_isOrdered_40 (mv (vok_V X rfl uw_365 uw_367 (UW_pr 5 rfl rfl) uw_3 ci_X2_noteNeed yok_X2_noteNeed ⟨Nat.le_of_ble_eq_true rfl, Nat.le_of_ble_eq_true rfl⟩) mv0) (s_aload_n X dX2_isOrdered_43 rfl (s_iload_n X dX2_isOrdered_44 rfl (s_dup2 X dX2_isOrdered_45 (s_iaload X dX2_isOrdered_46 (s_iconst X dX2_isOrdered_47 rfl (s_iadd X dX2_isOrdered_48 (s_iastore X dX2_isOrdered_49 (s_iinc X dX2_isOrdered_50 rfl (by decide) (s_goto X dX2_isOrdered_53 (by decide) Sd.rf)))))))))))))))))))) (s_iconst X dX2_isOrdered_26 rfl (s_zret X hr dX2_isOrdered_27)))))))))))))
set_option maxRecDepth 100000 in
theorem vc_X2_isOrdered {l : Launch} {g : Gm} {a0 : Nat} {h : Hp} {mc ms : Nat} {P : PT} (H : ∀ G : Nat → CT, (∀ (b : Nat) (h : Hp) (cb sb : Nat) (ls : LocS) (st : List Value), bk_X2_isOrdered l g b G P h cb sb ls st → G b h cb sb ls st) → G 0 h mc ms [some (.ref a0), none, none, none] []) : Run l g d_X2_isOrdered [.ref a0] h mc ms P :=
  Run.of (d := d_X2_isOrdered) (by decide) (mcn rfl (mnl)) (Nat.le_of_ble_eq_true rfl) (fun p e s m args below meth c X hr hn => H (fun b => GX g p l e s m args below meth c d_X2_isOrdered 4 mc ms h P (pc_X2_isOrdered b)) (fun b h1 cb sb ls st hb => match b, hb with
    | 0, hb => sb_X2_isOrdered_0 (p := p) (e := e) (below := below) X hr hn h1 cb sb ls st hb
    | 1, hb => sb_X2_isOrdered_1 (p := p) (e := e) (below := below) X hr hn h1 cb sb ls st hb
    | _ + 2, hb => hb.elim))
theorem dX2_firstThatGoesOn_0 : decode cX2_firstThatGoesOn 0 = .ok (.iconst 0, 1) := by decide +kernel
theorem dX2_firstThatGoesOn_1 : decode cX2_firstThatGoesOn 1 = .ok (.istore_n 2, 1) := by decide +kernel
theorem dX2_firstThatGoesOn_2 : decode cX2_firstThatGoesOn 2 = .ok (.iload_n 2, 1) := by decide +kernel
theorem dX2_firstThatGoesOn_3 : decode cX2_firstThatGoesOn 3 = .ok (.aload_n 0, 1) := by decide +kernel
theorem dX2_firstThatGoesOn_4 : decode cX2_firstThatGoesOn 4 = .ok (.getfield 31, 3) := by decide +kernel
theorem dX2_firstThatGoesOn_7 : decode cX2_firstThatGoesOn 7 = .ok (.if_icmp .ge 20, 3) := by decide +kernel
theorem dX2_firstThatGoesOn_10 : decode cX2_firstThatGoesOn 10 = .ok (.aload_n 0, 1) := by decide +kernel
theorem dX2_firstThatGoesOn_11 : decode cX2_firstThatGoesOn 11 = .ok (.aload_n 1, 1) := by decide +kernel
theorem dX2_firstThatGoesOn_12 : decode cX2_firstThatGoesOn 12 = .ok (.iload_n 2, 1) := by decide +kernel
theorem dX2_firstThatGoesOn_13 : decode cX2_firstThatGoesOn 13 = .ok (.invokevirtual 89, 3) := by decide +kernel
theorem dX2_firstThatGoesOn_16 : decode cX2_firstThatGoesOn 16 = .ok (.ifCond .eq 5, 3) := by decide +kernel
theorem dX2_firstThatGoesOn_19 : decode cX2_firstThatGoesOn 19 = .ok (.iload_n 2, 1) := by decide +kernel
theorem dX2_firstThatGoesOn_20 : decode cX2_firstThatGoesOn 20 = .ok (.ireturn, 1) := by decide +kernel
theorem dX2_firstThatGoesOn_21 : decode cX2_firstThatGoesOn 21 = .ok (.iinc 2 1, 3) := by decide +kernel
theorem dX2_firstThatGoesOn_24 : decode cX2_firstThatGoesOn 24 = .ok (.goto (-22), 3) := by decide +kernel
theorem dX2_firstThatGoesOn_27 : decode cX2_firstThatGoesOn 27 = .ok (.bipush (-9), 2) := by decide +kernel
theorem dX2_firstThatGoesOn_29 : decode cX2_firstThatGoesOn 29 = .ok (.ireturn, 1) := by decide +kernel
def bk_X2_firstThatGoesOn_0 (l : Launch) (g : Gm) (G : Nat → CT) (P : PT) : CT := (oPush (.int (0)) (oISt 2 (G 1)))
def bk_X2_firstThatGoesOn_1 (l : Launch) (g : Gm) (G : Nat → CT) (P : PT) : CT := (oILd 2 (oALd 0 (oGet [2] 4 (oCmp (fun x y => y ≤ x) (oPush (.int (-9)) (oIRet P)) (oALd 0 (oALd 1 (oILd 2 (oCallV l g [(2, d_X2_goesOn)] 3 (oIf (fun x => x = 0) (oInc 2 (1) (oGo (G 1))) (oILd 2 (oIRet P)))))))))))
def bk_X2_firstThatGoesOn (l : Launch) (g : Gm) (b : Nat) (G : Nat → CT) (P : PT) : CT := match b with
  | 0 => bk_X2_firstThatGoesOn_0 l g G P
  | 1 => bk_X2_firstThatGoesOn_1 l g G P
  | _ => fun _ _ _ _ _ => False
def pc_X2_firstThatGoesOn (b : Nat) : Nat := match b with
  | 0 => 0
  | 1 => 2
  | _ => 0
set_option maxRecDepth 100000 in
theorem sb_X2_firstThatGoesOn_0 {p : Program} {l : Launch} {e : Env} {s : State} {m : MethodId} {args : Array Value} {below : List Frame} {meth : Method} {c : Code} {g : Gm} {h0 : Hp} {P : PT} {mc ms : Nat} (X : Cx g p s m args meth c (Adom h0 s.heap.size) cX2_firstThatGoesOn RX2 3) (hr : meth.sig.returnType = some .int) (hn : meth.name = "firstThatGoesOn") : SX g p l e s m args below meth c d_X2_firstThatGoesOn 3 mc ms h0 P (bk_X2_firstThatGoesOn_0 l g (fun b => GX g p l e s m args below meth c d_X2_firstThatGoesOn 3 mc ms h0 P (pc_X2_firstThatGoesOn b)) P) 0 := (s_iconst X dX2_firstThatGoesOn_0 rfl (s_istore_n X dX2_firstThatGoesOn_1 rfl (by decide) Sd.rf))
set_option maxRecDepth 100000 in
theorem sb_X2_firstThatGoesOn_1 {p : Program} {l : Launch} {e : Env} {s : State} {m : MethodId} {args : Array Value} {below : List Frame} {meth : Method} {c : Code} {g : Gm} {h0 : Hp} {P : PT} {mc ms : Nat} (X : Cx g p s m args meth c (Adom h0 s.heap.size) cX2_firstThatGoesOn RX2 3) (hr : meth.sig.returnType = some .int) (hn : meth.name = "firstThatGoesOn") : SX g p l e s m args below meth c d_X2_firstThatGoesOn 3 mc ms h0 P (bk_X2_firstThatGoesOn_1 l g (fun b => GX g p l e s m args below meth c d_X2_firstThatGoesOn 3 mc ms h0 P (pc_X2_firstThatGoesOn b)) P) 2 := (s_iload_n X dX2_firstThatGoesOn_2 rfl (s_aload_n X dX2_firstThatGoesOn_3 rfl (s_get X dX2_firstThatGoesOn_4 (mcn (⟨_, _, _, _, rfl, inU_X2, by decide, uw_87, rfl⟩) (mnl)) (s_icmp_ge X dX2_firstThatGoesOn_7 (by decide) (s_bipush X dX2_firstThatGoesOn_27 rfl (s_iret X hr dX2_firstThatGoesOn_29)) (s_aload_n X dX2_firstThatGoesOn_10 rfl (s_aload_n X dX2_firstThatGoesOn_11 rfl (s_iload_n X dX2_firstThatGoesOn_12 rfl (s_callV X dX2_firstThatGoesOn_13 (mv (vok_V X rfl uw_357 uw_358 uw_359 uw_3 ci_X2_goesOn yok_X2_goesOn ⟨Nat.le_of_ble_eq_true rfl, Nat.le_of_ble_eq_true rfl⟩) mv0) (s_if_eq X dX2_firstThatGoesOn_16 (by decide) (s_iinc X dX2_firstThatGoesOn_21 rfl (by decide) (s_goto X dX2_firstThatGoesOn_24 (by decide) Sd.rf)) (s_iload_n X dX2_firstThatGoesOn_19 rfl (s_iret X hr dX2_firstThatGoesOn_20)))))))))))
set_option maxRecDepth 100000 in
theorem vc_X2_firstThatGoesOn {l : Launch} {g : Gm} {a0 : Nat} {a1 : Nat} {h : Hp} {mc ms : Nat} {P : PT} (H : ∀ G : Nat → CT, (∀ (b : Nat) (h : Hp) (cb sb : Nat) (ls : LocS) (st : List Value), bk_X2_firstThatGoesOn l g b G P h cb sb ls st → G b h cb sb ls st) → G 0 h mc ms [some (.ref a0), some (.ref a1), none] []) : Run l g d_X2_firstThatGoesOn [.ref a0, .ref a1] h mc ms P :=
  Run.of (d := d_X2_firstThatGoesOn) (by decide) (mcn rfl (mcn rfl (mnl))) (Nat.le_of_ble_eq_true rfl) (fun p e s m args below meth c X hr hn => H (fun b => GX g p l e s m args below meth c d_X2_firstThatGoesOn 3 mc ms h P (pc_X2_firstThatGoesOn b)) (fun b h1 cb sb ls st hb => match b, hb with
    | 0, hb => sb_X2_firstThatGoesOn_0 (p := p) (e := e) (below := below) X hr hn h1 cb sb ls st hb
    | 1, hb => sb_X2_firstThatGoesOn_1 (p := p) (e := e) (below := below) X hr hn h1 cb sb ls st hb
    | _ + 2, hb => hb.elim))
theorem dX2_noteNeed_0 : decode cX2_noteNeed 0 = .ok (.aload_n 0, 1) := by decide +kernel
theorem dX2_noteNeed_1 : decode cX2_noteNeed 1 = .ok (.getfield 11, 3) := by decide +kernel
theorem dX2_noteNeed_4 : decode cX2_noteNeed 4 = .ok (.iload_n 1, 1) := by decide +kernel
theorem dX2_noteNeed_5 : decode cX2_noteNeed 5 = .ok (.aaload, 1) := by decide +kernel
theorem dX2_noteNeed_6 : decode cX2_noteNeed 6 = .ok (.astore_n 3, 1) := by decide +kernel
theorem dX2_noteNeed_7 : decode cX2_noteNeed 7 = .ok (.aload_n 3, 1) := by decide +kernel
theorem dX2_noteNeed_8 : decode cX2_noteNeed 8 = .ok (.getfield 93, 3) := by decide +kernel
theorem dX2_noteNeed_11 : decode cX2_noteNeed 11 = .ok (.iload_n 2, 1) := by decide +kernel
theorem dX2_noteNeed_12 : decode cX2_noteNeed 12 = .ok (.aaload, 1) := by decide +kernel
theorem dX2_noteNeed_13 : decode cX2_noteNeed 13 = .ok (.astore 4, 2) := by decide +kernel
theorem dX2_noteNeed_15 : decode cX2_noteNeed 15 = .ok (.iload_n 2, 1) := by decide +kernel
theorem dX2_noteNeed_16 : decode cX2_noteNeed 16 = .ok (.ifCond .le 19, 3) := by decide +kernel
theorem dX2_noteNeed_19 : decode cX2_noteNeed 19 = .ok (.aload_n 3, 1) := by decide +kernel
theorem dX2_noteNeed_20 : decode cX2_noteNeed 20 = .ok (.getfield 93, 3) := by decide +kernel
theorem dX2_noteNeed_23 : decode cX2_noteNeed 23 = .ok (.iload_n 2, 1) := by decide +kernel
theorem dX2_noteNeed_24 : decode cX2_noteNeed 24 = .ok (.iconst 1, 1) := by decide +kernel
theorem dX2_noteNeed_25 : decode cX2_noteNeed 25 = .ok (.isub, 1) := by decide +kernel
theorem dX2_noteNeed_26 : decode cX2_noteNeed 26 = .ok (.aaload, 1) := by decide +kernel
theorem dX2_noteNeed_27 : decode cX2_noteNeed 27 = .ok (.iconst 0, 1) := by decide +kernel
theorem dX2_noteNeed_28 : decode cX2_noteNeed 28 = .ok (.aload 4, 2) := by decide +kernel
theorem dX2_noteNeed_30 : decode cX2_noteNeed 30 = .ok (.iconst 0, 1) := by decide +kernel
theorem dX2_noteNeed_31 : decode cX2_noteNeed 31 = .ok (.iconst 4, 1) := by decide +kernel
theorem dX2_noteNeed_32 : decode cX2_noteNeed 32 = .ok (.invokestatic 97, 3) := by decide +kernel
theorem dX2_noteNeed_35 : decode cX2_noteNeed 35 = .ok (.aload 4, 2) := by decide +kernel
theorem dX2_noteNeed_37 : decode cX2_noteNeed 37 = .ok (.iload_n 1, 1) := by decide +kernel
theorem dX2_noteNeed_38 : decode cX2_noteNeed 38 = .ok (.iload_n 2, 1) := by decide +kernel
theorem dX2_noteNeed_39 : decode cX2_noteNeed 39 = .ok (.iastore, 1) := by decide +kernel
theorem dX2_noteNeed_40 : decode cX2_noteNeed 40 = .ok (.aload_n 3, 1) := by decide +kernel
theorem dX2_noteNeed_41 : decode cX2_noteNeed 41 = .ok (.getfield 103, 3) := by decide +kernel
theorem dX2_noteNeed_44 : decode cX2_noteNeed 44 = .ok (.iload_n 2, 1) := by decide +kernel
theorem dX2_noteNeed_45 : decode cX2_noteNeed 45 = .ok (.iaload, 1) := by decide +kernel
theorem dX2_noteNeed_46 : decode cX2_noteNeed 46 = .ok (.iconst 2, 1) := by decide +kernel
theorem dX2_noteNeed_47 : decode cX2_noteNeed 47 = .ok (.if_icmp .ne 66, 3) := by decide +kernel
theorem dX2_noteNeed_50 : decode cX2_noteNeed 50 = .ok (.aload_n 0, 1) := by decide +kernel
theorem dX2_noteNeed_51 : decode cX2_noteNeed 51 = .ok (.getfield 19, 3) := by decide +kernel
theorem dX2_noteNeed_54 : decode cX2_noteNeed 54 = .ok (.aload_n 3, 1) := by decide +kernel
theorem dX2_noteNeed_55 : decode cX2_noteNeed 55 = .ok (.getfield 106, 3) := by decide +kernel
theorem dX2_noteNeed_58 : decode cX2_noteNeed 58 = .ok (.iload_n 2, 1) := by decide +kernel
theorem dX2_noteNeed_59 : decode cX2_noteNeed 59 = .ok (.iaload, 1) := by decide +kernel
theorem dX2_noteNeed_60 : decode cX2_noteNeed 60 = .ok (.aaload, 1) := by decide +kernel
theorem dX2_noteNeed_61 : decode cX2_noteNeed 61 = .ok (.astore 5, 2) := by decide +kernel
theorem dX2_noteNeed_63 : decode cX2_noteNeed 63 = .ok (.aload 4, 2) := by decide +kernel
theorem dX2_noteNeed_65 : decode cX2_noteNeed 65 = .ok (.aload_n 0, 1) := by decide +kernel
theorem dX2_noteNeed_66 : decode cX2_noteNeed 66 = .ok (.getfield 11, 3) := by decide +kernel
theorem dX2_noteNeed_69 : decode cX2_noteNeed 69 = .ok (.aload 5, 2) := by decide +kernel
theorem dX2_noteNeed_71 : decode cX2_noteNeed 71 = .ok (.getfield 63, 3) := by decide +kernel
theorem dX2_noteNeed_74 : decode cX2_noteNeed 74 = .ok (.aaload, 1) := by decide +kernel
theorem dX2_noteNeed_75 : decode cX2_noteNeed 75 = .ok (.getfield 93, 3) := by decide +kernel
theorem dX2_noteNeed_78 : decode cX2_noteNeed 78 = .ok (.aload 5, 2) := by decide +kernel
theorem dX2_noteNeed_80 : decode cX2_noteNeed 80 = .ok (.getfield 66, 3) := by decide +kernel
theorem dX2_noteNeed_83 : decode cX2_noteNeed 83 = .ok (.aaload, 1) := by decide +kernel
theorem dX2_noteNeed_84 : decode cX2_noteNeed 84 = .ok (.invokestatic 109, 3) := by decide +kernel
theorem dX2_noteNeed_87 : decode cX2_noteNeed 87 = .ok (.aload 4, 2) := by decide +kernel
theorem dX2_noteNeed_89 : decode cX2_noteNeed 89 = .ok (.aload 5, 2) := by decide +kernel
theorem dX2_noteNeed_91 : decode cX2_noteNeed 91 = .ok (.getfield 63, 3) := by decide +kernel
theorem dX2_noteNeed_94 : decode cX2_noteNeed 94 = .ok (.aload 4, 2) := by decide +kernel
theorem dX2_noteNeed_96 : decode cX2_noteNeed 96 = .ok (.aload 5, 2) := by decide +kernel
theorem dX2_noteNeed_98 : decode cX2_noteNeed 98 = .ok (.getfield 63, 3) := by decide +kernel
theorem dX2_noteNeed_101 : decode cX2_noteNeed 101 = .ok (.iaload, 1) := by decide +kernel
theorem dX2_noteNeed_102 : decode cX2_noteNeed 102 = .ok (.aload 5, 2) := by decide +kernel
theorem dX2_noteNeed_104 : decode cX2_noteNeed 104 = .ok (.getfield 66, 3) := by decide +kernel
theorem dX2_noteNeed_107 : decode cX2_noteNeed 107 = .ok (.iconst 1, 1) := by decide +kernel
theorem dX2_noteNeed_108 : decode cX2_noteNeed 108 = .ok (.iadd, 1) := by decide +kernel
theorem dX2_noteNeed_109 : decode cX2_noteNeed 109 = .ok (.invokestatic 113, 3) := by decide +kernel
theorem dX2_noteNeed_112 : decode cX2_noteNeed 112 = .ok (.iastore, 1) := by decide +kernel
theorem dX2_noteNeed_113 : decode cX2_noteNeed 113 = .ok (.return_, 1) := by decide +kernel
def bk_X2_noteNeed_0 (l : Launch) (g : Gm) (G : Nat → CT) (P : PT) : CT := (oALd 0 (oGet [2] 0 (oILd 1 (oRAL g 3 (oASt 3 (oALd 3 (oGet [4, 0, 1] 3 (oILd 2 (oRAL g 6 (oASt 4 (oILd 2 (oIf (fun x => x ≤ 0) (G 1) (oALd 3 (oGet [4, 0, 1] 3 (oILd 2 (oPush (.int (1)) (oBin (fun x y => x - y) (oRAL g 6 (oPush (.int (0)) (oALd 4 (oPush (.int (0)) (oPush (.int (4)) (oCopy g (G 1))))))))))))))))))))))))
def bk_X2_noteNeed_1 (l : Launch) (g : Gm) (G : Nat → CT) (P : PT) : CT := (oALd 4 (oILd 1 (oILd 2 (oIAS g (oALd 3 (oGet [4, 0, 1] 1 (oILd 2 (oIAL g (oPush (.int (2)) (oCmp (fun x y => x = y) (oALd 0 (oGet [2] 1 (oALd 3 (oGet [4, 0, 1] 2 (oILd 2 (oIAL g (oRAL g 4 (oASt 5 (oALd 4 (oALd 0 (oGet [2] 0 (oALd 5 (oGet [3] 1 (oRAL g 3 (oGet [4, 0, 1] 3 (oALd 5 (oGet [3] 2 (oRAL g 6 (oCall l g d_X2_raise 2 (oALd 4 (oALd 5 (oGet [3] 1 (oALd 4 (oALd 5 (oGet [3] 1 (oIAL g (oALd 5 (oGet [3] 2 (oPush (.int (1)) (oBin (fun x y => x + y) (oMax (oIAS g (oVRet P))))))))))))))))))))))))))))))))) (oVRet P)))))))))))
def bk_X2_noteNeed (l : Launch) (g : Gm) (b : Nat) (G : Nat → CT) (P : PT) : CT := match b with
  | 0 => bk_X2_noteNeed_0 l g G P
  | 1 => bk_X2_noteNeed_1 l g G P
  | _ => fun _ _ _ _ _ => False
def pc_X2_noteNeed (b : Nat) : Nat := match b with
  | 0 => 0
  | 1 => 35
  | _ => 0
set_option maxRecDepth 100000 in
theorem sb_X2_noteNeed_0 {p : Program} {l : Launch} {e : Env} {s : State} {m : MethodId} {args : Array Value} {below : List Frame} {meth : Method} {c : Code} {g : Gm} {h0 : Hp} {P : PT} {mc ms : Nat} (X : Cx g p s m args meth c (Adom h0 s.heap.size) cX2_noteNeed RX2 6) (hr : meth.sig.returnType = none) (hn : meth.name = "noteNeed") : SX g p l e s m args below meth c d_X2_noteNeed 6 mc ms h0 P (bk_X2_noteNeed_0 l g (fun b => GX g p l e s m args below meth c d_X2_noteNeed 6 mc ms h0 P (pc_X2_noteNeed b)) P) 0 := (s_aload_n X dX2_noteNeed_0 rfl (s_get X dX2_noteNeed_1 (mcn (⟨_, _, _, _, rfl, inU_X2, by decide, uw_79, rfl⟩) (mnl)) (s_iload_n X dX2_noteNeed_4 rfl (s_aaload X (t := 3) (fun _ => rfl) rfl dX2_noteNeed_5 (s_astore_n X dX2_noteNeed_6 rfl (by decide) (s_aload_n X dX2_noteNeed_7 rfl (s_get X dX2_noteNeed_8 (mcn (⟨_, _, _, _, rfl, inU_X4, by decide, uw_282, rfl⟩) (mcn (⟨_, _, _, _, rfl, inU_X0, by decide, uw_282, rfl⟩) (mcn (⟨_, _, _, _, rfl, inU_X1, by decide, uw_282, rfl⟩) (mnl)))) (s_iload_n X dX2_noteNeed_11 rfl (s_aaload X (t := 6) (fun _ => rfl) rfl dX2_noteNeed_12 (s_astore X dX2_noteNeed_13 (by decide) (s_iload_n X dX2_noteNeed_15 rfl (s_if_le X dX2_noteNeed_16 (by decide) Sd.rf (s_aload_n X dX2_noteNeed_19 rfl (s_get X dX2_noteNeed_20 (mcn (⟨_, _, _, _, rfl, inU_X4, by decide, uw_282, rfl⟩) (mcn (⟨_, _, _, _, rfl, inU_X0, by decide, uw_282, rfl⟩) (mcn (⟨_, _, _, _, rfl, inU_X1, by decide, uw_282, rfl⟩) (mnl)))) (s_iload_n X dX2_noteNeed_23 rfl (s_iconst X dX2_noteNeed_24 rfl (s_isub X dX2_noteNeed_25 (s_aaload X (t := 6) (fun _ => rfl) rfl dX2_noteNeed_26 (s_iconst X dX2_noteNeed_27 rfl (s_aload X dX2_noteNeed_28 (s_iconst X dX2_noteNeed_30 rfl (s_iconst X dX2_noteNeed_31 rfl (s_copy X uw_369 uw_371 uw_370 uw_12 (Nat.le_of_ble_eq_true rfl) (Nat.le_of_ble_eq_true rfl) dX2_noteNeed_32 Sd.rf)))))))))))))))))))))))
set_option maxRecDepth 100000 in
theorem sb_X2_noteNeed_1 {p : Program} {l : Launch} {e : Env} {s : State} {m : MethodId} {args : Array Value} {below : List Frame} {meth : Method} {c : Code} {g : Gm} {h0 : Hp} {P : PT} {mc ms : Nat} (X : Cx g p s m args meth c (Adom h0 s.heap.size) cX2_noteNeed RX2 6) (hr : meth.sig.returnType = none) (hn : meth.name = "noteNeed") : SX g p l e s m args below meth c d_X2_noteNeed 6 mc ms h0 P (bk_X2_noteNeed_1 l g (fun b => GX g p l e s m args below meth c d_X2_noteNeed 6 mc ms h0 P (pc_X2_noteNeed b)) P) 35 := (s_aload X dX2_noteNeed_35 (s_iload_n X dX2_noteNeed_37 rfl (s_iload_n X dX2_noteNeed_38 rfl (s_iastore X dX2_noteNeed_39 (s_aload_n X dX2_noteNeed_40 rfl (s_get X dX2_noteNeed_41 (mcn (⟨_, _, _, _, rfl, inU_X4, by decide, uw_276, rfl⟩) (mcn (⟨_, _, _, _, rfl, inU_X0, by decide, uw_276, rfl⟩) (mcn (⟨_, _, _, _, rfl, inU_X1, by decide, uw_276, rfl⟩) (mnl)))) (s_iload_n X dX2_noteNeed_44 rfl (s_iaload X dX2_noteNeed_45 (s_iconst X dX2_noteNeed_46 rfl (s_icmp_ne X dX2_noteNeed_47 (by decide) (s_vret X hr dX2_noteNeed_113) (s_aload_n X dX2_noteNeed_50 rfl (s_get X dX2_noteNeed_51 (mcn (⟨_, _, _, _, rfl, inU_X2, by decide, uw_82, rfl⟩) (mnl)) (s_aload_n X dX2_noteNeed_54 rfl (s_get X dX2_noteNeed_55 (mcn (⟨_, _, _, _, rfl, inU_X4, by decide, uw_279, rfl⟩) (mcn (⟨_, _, _, _, rfl, inU_X0, by decide, uw_279, rfl⟩) (mcn (⟨_, _, _, _, rfl, inU_X1, by decide, uw_279, rfl⟩) (mnl)))) (s_iload_n X dX2_noteNeed_58 rfl (s_iaload X dX2_noteNeed_59 (s_aaload X (t := 4) (fun _ => rfl) rfl dX2_noteNeed_60 (s_astore X dX2_noteNeed_61 (by decide) (s_aload X dX2_noteNeed_63 (s_aload_n X dX2_noteNeed_65 rfl (s_get X dX2_noteNeed_66 (mcn (⟨_, _, _, _, rfl, inU_X2, by decide, uw_79, rfl⟩) (mnl)) (s_aload X dX2_noteNeed_69 (s_get X dX2_noteNeed_71 (mcn (⟨_, _, _, _, rfl, inU_X3, by decide, uw_56, rfl⟩) (mnl)) (s_aaload X (t := 3) (fun _ => rfl) rfl dX2_noteNeed_74 (s_get X dX2_noteNeed_75 (mcn (⟨_, _, _, _, rfl, inU_X4, by decide, uw_282, rfl⟩) (mcn (⟨_, _, _, _, rfl, inU_X0, by decide, uw_282, rfl⟩) (mcn (⟨_, _, _, _, rfl, inU_X1, by decide, uw_282, rfl⟩) (mnl)))) (s_aload X dX2_noteNeed_78 (s_get X dX2_noteNeed_80 (mcn (⟨_, _, _, _, rfl, inU_X3, by decide, uw_58, rfl⟩) (mnl)) (s_aaload X (t := 6) (fun _ => rfl) rfl dX2_noteNeed_83 (s_callS X dX2_noteNeed_84 uw_372 uw_373 uw_3 ci_X2_raise yok_X2_raise ⟨Nat.le_of_ble_eq_true rfl, Nat.le_of_ble_eq_true rfl⟩ (s_aload X dX2_noteNeed_87 (s_aload X dX2_noteNeed_89 (s_get X dX2_noteNeed_91 (mcn (⟨_, _, _, _, rfl, inU_X3, by decide, uw_56, rfl⟩) (mnl)) (s_aload X dX2_noteNeed_94 (s_aload X dX2_noteNeed_96 (s_get X dX2_noteNeed_98 (mcn (⟨_, _, _, _, rfl, inU_X3, by decide, uw_56, rfl⟩) (mnl)) (s_iaload X dX2_noteNeed_101 (s_aload X dX2_noteNeed_102 (s_get X dX2_noteNeed_104 (mcn (⟨_, _, _, _, rfl, inU_X3, by decide, uw_58, rfl⟩) (mnl)) (s_iconst X dX2_noteNeed_107 rfl (s_iadd X dX2_noteNeed_108 (s_max X uw_375 uw_376 uw_13 uw_377 (Nat.le_of_ble_eq_true rfl) (Nat.le_of_ble_eq_true rfl) dX2_noteNeed_109 (s_iastore X dX2_noteNeed_112 (s_vret X hr dX2_noteNeed_113)))))))))))))))))))))))))))))))))))))))))))
set_option maxRecDepth 100000 in
theorem vc_X2_noteNeed {l : Launch} {g : Gm} {a0 : Nat} {a1 : Int32} {a2 : Int32} {h : Hp} {mc ms : Nat} {P : PT} (H : ∀ G : Nat → CT, (∀ (b : Nat) (h : Hp) (cb sb : Nat) (ls : LocS) (st : List Value), bk_X2_noteNeed l g b G P h cb sb ls st → G b h cb sb ls st) → G 0 h mc ms [some (.ref a0), some (.int a1), some (.int a2), none, none, none] []) : Run l g d_X2_noteNeed [.ref a0, .int a1, .int a2] h mc ms P :=
  Run.of (d := d_X2_noteNeed) (by decide) (mcn rfl (mcn rfl (mcn rfl (mnl)))) (Nat.le_of_ble_eq_true rfl) (fun p e s m args below meth c X hr hn => H (fun b => GX g p l e s m args below meth c d_X2_noteNeed 6 mc ms h P (pc_X2_noteNeed b)) (fun b h1 cb sb ls st hb => match b, hb with
    | 0, hb => sb_X2_noteNeed_0 (p := p) (e := e) (below := below) X hr hn h1 cb sb ls st hb
    | 1, hb => sb_X2_noteNeed_1 (p := p) (e := e) (below := below) X hr hn h1 cb sb ls st hb
    | _ + 2, hb => hb.elim))
theorem dX2_raise_0 : decode cX2_raise 0 = .ok (.iconst 0, 1) := by decide +kernel
theorem dX2_raise_1 : decode cX2_raise 1 = .ok (.istore_n 2, 1) := by decide +kernel
theorem dX2_raise_2 : decode cX2_raise 2 = .ok (.iload_n 2, 1) := by decide +kernel
theorem dX2_raise_3 : decode cX2_raise 3 = .ok (.iconst 4, 1) := by decide +kernel
theorem dX2_raise_4 : decode cX2_raise 4 = .ok (.if_icmp .ge 21, 3) := by decide +kernel
theorem dX2_raise_7 : decode cX2_raise 7 = .ok (.aload_n 0, 1) := by decide +kernel
theorem dX2_raise_8 : decode cX2_raise 8 = .ok (.iload_n 2, 1) := by decide +kernel
theorem dX2_raise_9 : decode cX2_raise 9 = .ok (.aload_n 0, 1) := by decide +kernel
theorem dX2_raise_10 : decode cX2_raise 10 = .ok (.iload_n 2, 1) := by decide +kernel
theorem dX2_raise_11 : decode cX2_raise 11 = .ok (.iaload, 1) := by decide +kernel
theorem dX2_raise_12 : decode cX2_raise 12 = .ok (.aload_n 1, 1) := by decide +kernel
theorem dX2_raise_13 : decode cX2_raise 13 = .ok (.iload_n 2, 1) := by decide +kernel
theorem dX2_raise_14 : decode cX2_raise 14 = .ok (.iaload, 1) := by decide +kernel
theorem dX2_raise_15 : decode cX2_raise 15 = .ok (.invokestatic 113, 3) := by decide +kernel
theorem dX2_raise_18 : decode cX2_raise 18 = .ok (.iastore, 1) := by decide +kernel
theorem dX2_raise_19 : decode cX2_raise 19 = .ok (.iinc 2 1, 3) := by decide +kernel
theorem dX2_raise_22 : decode cX2_raise 22 = .ok (.goto (-20), 3) := by decide +kernel
theorem dX2_raise_25 : decode cX2_raise 25 = .ok (.return_, 1) := by decide +kernel
def bk_X2_raise_0 (l : Launch) (g : Gm) (G : Nat → CT) (P : PT) : CT := (oPush (.int (0)) (oISt 2 (G 1)))
def bk_X2_raise_1 (l : Launch) (g : Gm) (G : Nat → CT) (P : PT) : CT := (oILd 2 (oPush (.int (4)) (oCmp (fun x y => y ≤ x) (oVRet P) (oALd 0 (oILd 2 (oALd 0 (oILd 2 (oIAL g (oALd 1 (oILd 2 (oIAL g (oMax (oIAS g (oInc 2 (1) (oGo (G 1))))))))))))))))
def bk_X2_raise (l : Launch) (g : Gm) (b : Nat) (G : Nat → CT) (P : PT) : CT := match b with
  | 0 => bk_X2_raise_0 l g G P
  | 1 => bk_X2_raise_1 l g G P
  | _ => fun _ _ _ _ _ => False
def pc_X2_raise (b : Nat) : Nat := match b with
  | 0 => 0
  | 1 => 2
  | _ => 0
set_option maxRecDepth 100000 in
theorem sb_X2_raise_0 {p : Program} {l : Launch} {e : Env} {s : State} {m : MethodId} {args : Array Value} {below : List Frame} {meth : Method} {c : Code} {g : Gm} {h0 : Hp} {P : PT} {mc ms : Nat} (X : Cx g p s m args meth c (Adom h0 s.heap.size) cX2_raise RX2 3) (hr : meth.sig.returnType = none) (hn : meth.name = "raise") : SX g p l e s m args below meth c d_X2_raise 3 mc ms h0 P (bk_X2_raise_0 l g (fun b => GX g p l e s m args below meth c d_X2_raise 3 mc ms h0 P (pc_X2_raise b)) P) 0 := (s_iconst X dX2_raise_0 rfl (s_istore_n X dX2_raise_1 rfl (by decide) Sd.rf))
set_option maxRecDepth 100000 in
theorem sb_X2_raise_1 {p : Program} {l : Launch} {e : Env} {s : State} {m : MethodId} {args : Array Value} {below : List Frame} {meth : Method} {c : Code} {g : Gm} {h0 : Hp} {P : PT} {mc ms : Nat} (X : Cx g p s m args meth c (Adom h0 s.heap.size) cX2_raise RX2 3) (hr : meth.sig.returnType = none) (hn : meth.name = "raise") : SX g p l e s m args below meth c d_X2_raise 3 mc ms h0 P (bk_X2_raise_1 l g (fun b => GX g p l e s m args below meth c d_X2_raise 3 mc ms h0 P (pc_X2_raise b)) P) 2 := (s_iload_n X dX2_raise_2 rfl (s_iconst X dX2_raise_3 rfl (s_icmp_ge X dX2_raise_4 (by decide) (s_vret X hr dX2_raise_25) (s_aload_n X dX2_raise_7 rfl (s_iload_n X dX2_raise_8 rfl (s_aload_n X dX2_raise_9 rfl (s_iload_n X dX2_raise_10 rfl (s_iaload X dX2_raise_11 (s_aload_n X dX2_raise_12 rfl (s_iload_n X dX2_raise_13 rfl (s_iaload X dX2_raise_14 (s_max X uw_375 uw_376 uw_13 uw_377 (Nat.le_of_ble_eq_true rfl) (Nat.le_of_ble_eq_true rfl) dX2_raise_15 (s_iastore X dX2_raise_18 (s_iinc X dX2_raise_19 rfl (by decide) (s_goto X dX2_raise_22 (by decide) Sd.rf)))))))))))))))
set_option maxRecDepth 100000 in
theorem vc_X2_raise {l : Launch} {g : Gm} {a0 : Nat} {a1 : Nat} {h : Hp} {mc ms : Nat} {P : PT} (H : ∀ G : Nat → CT, (∀ (b : Nat) (h : Hp) (cb sb : Nat) (ls : LocS) (st : List Value), bk_X2_raise l g b G P h cb sb ls st → G b h cb sb ls st) → G 0 h mc ms [some (.ref a0), some (.ref a1), none] []) : Run l g d_X2_raise [.ref a0, .ref a1] h mc ms P :=
  Run.of (d := d_X2_raise) (by decide) (mcn rfl (mcn rfl (mnl))) (Nat.le_of_ble_eq_true rfl) (fun p e s m args below meth c X hr hn => H (fun b => GX g p l e s m args below meth c d_X2_raise 3 mc ms h P (pc_X2_raise b)) (fun b h1 cb sb ls st hb => match b, hb with
    | 0, hb => sb_X2_raise_0 (p := p) (e := e) (below := below) X hr hn h1 cb sb ls st hb
    | 1, hb => sb_X2_raise_1 (p := p) (e := e) (below := below) X hr hn h1 cb sb ls st hb
    | _ + 2, hb => hb.elim))
theorem dX2_isAhead_0 : decode cX2_isAhead 0 = .ok (.aload_n 0, 1) := by decide +kernel
theorem dX2_isAhead_1 : decode cX2_isAhead 1 = .ok (.getfield 11, 3) := by decide +kernel
theorem dX2_isAhead_4 : decode cX2_isAhead 4 = .ok (.iload_n 3, 1) := by decide +kernel
theorem dX2_isAhead_5 : decode cX2_isAhead 5 = .ok (.aaload, 1) := by decide +kernel
theorem dX2_isAhead_6 : decode cX2_isAhead 6 = .ok (.getfield 93, 3) := by decide +kernel
theorem dX2_isAhead_9 : decode cX2_isAhead 9 = .ok (.iload 4, 2) := by decide +kernel
theorem dX2_isAhead_11 : decode cX2_isAhead 11 = .ok (.aaload, 1) := by decide +kernel
theorem dX2_isAhead_12 : decode cX2_isAhead 12 = .ok (.iload_n 1, 1) := by decide +kernel
theorem dX2_isAhead_13 : decode cX2_isAhead 13 = .ok (.iaload, 1) := by decide +kernel
theorem dX2_isAhead_14 : decode cX2_isAhead 14 = .ok (.iload_n 2, 1) := by decide +kernel
theorem dX2_isAhead_15 : decode cX2_isAhead 15 = .ok (.if_icmp .le 7, 3) := by decide +kernel
theorem dX2_isAhead_18 : decode cX2_isAhead 18 = .ok (.iconst 1, 1) := by decide +kernel
theorem dX2_isAhead_19 : decode cX2_isAhead 19 = .ok (.goto 4, 3) := by decide +kernel
theorem dX2_isAhead_22 : decode cX2_isAhead 22 = .ok (.iconst 0, 1) := by decide +kernel
theorem dX2_isAhead_23 : decode cX2_isAhead 23 = .ok (.ireturn, 1) := by decide +kernel
def bk_X2_isAhead_0 (l : Launch) (g : Gm) (G : Nat → CT) (P : PT) : CT := (oALd 0 (oGet [2] 0 (oILd 3 (oRAL g 3 (oGet [4, 0, 1] 3 (oILd 4 (oRAL g 6 (oILd 1 (oIAL g (oILd 2 (oCmp (fun x y => x ≤ y) (oPush (.int (0)) (oZRet P)) (oPush (.int (1)) (oGo (oZRet P))))))))))))))
def bk_X2_isAhead (l : Launch) (g : Gm) (b : Nat) (G : Nat → CT) (P : PT) : CT := match b with
  | 0 => bk_X2_isAhead_0 l g G P
  | _ => fun _ _ _ _ _ => False
def pc_X2_isAhead (b : Nat) : Nat := match b with
  | 0 => 0
  | _ => 0
set_option maxRecDepth 100000 in
theorem sb_X2_isAhead_0 {p : Program} {l : Launch} {e : Env} {s : State} {m : MethodId} {args : Array Value} {below : List Frame} {meth : Method} {c : Code} {g : Gm} {h0 : Hp} {P : PT} {mc ms : Nat} (X : Cx g p s m args meth c (Adom h0 s.heap.size) cX2_isAhead RX2 5) (hr : meth.sig.returnType = some .boolean) (hn : meth.name = "isAhead") : SX g p l e s m args below meth c d_X2_isAhead 5 mc ms h0 P (bk_X2_isAhead_0 l g (fun b => GX g p l e s m args below meth c d_X2_isAhead 5 mc ms h0 P (pc_X2_isAhead b)) P) 0 := (s_aload_n X dX2_isAhead_0 rfl (s_get X dX2_isAhead_1 (mcn (⟨_, _, _, _, rfl, inU_X2, by decide, uw_79, rfl⟩) (mnl)) (s_iload_n X dX2_isAhead_4 rfl (s_aaload X (t := 3) (fun _ => rfl) rfl dX2_isAhead_5 (s_get X dX2_isAhead_6 (mcn (⟨_, _, _, _, rfl, inU_X4, by decide, uw_282, rfl⟩) (mcn (⟨_, _, _, _, rfl, inU_X0, by decide, uw_282, rfl⟩) (mcn (⟨_, _, _, _, rfl, inU_X1, by decide, uw_282, rfl⟩) (mnl)))) (s_iload X dX2_isAhead_9 (s_aaload X (t := 6) (fun _ => rfl) rfl dX2_isAhead_11 (s_iload_n X dX2_isAhead_12 rfl (s_iaload X dX2_isAhead_13 (s_iload_n X dX2_isAhead_14 rfl (s_icmp_le X dX2_isAhead_15 (by decide) (s_iconst X dX2_isAhead_22 rfl (s_zret X hr dX2_isAhead_23)) (s_iconst X dX2_isAhead_18 rfl (s_goto X dX2_isAhead_19 (by decide) (s_zret X hr dX2_isAhead_23))))))))))))))
set_option maxRecDepth 100000 in
theorem vc_X2_isAhead {l : Launch} {g : Gm} {a0 : Nat} {a1 : Int32} {a2 : Int32} {a3 : Int32} {a4 : Int32} {h : Hp} {mc ms : Nat} {P : PT} (H : ∀ G : Nat → CT, (∀ (b : Nat) (h : Hp) (cb sb : Nat) (ls : LocS) (st : List Value), bk_X2_isAhead l g b G P h cb sb ls st → G b h cb sb ls st) → G 0 h mc ms [some (.ref a0), some (.int a1), some (.int a2), some (.int a3), some (.int a4)] []) : Run l g d_X2_isAhead [.ref a0, .int a1, .int a2, .int a3, .int a4] h mc ms P :=
  Run.of (d := d_X2_isAhead) (by decide) (mcn rfl (mcn rfl (mcn rfl (mcn rfl (mcn rfl (mnl)))))) (Nat.le_of_ble_eq_true rfl) (fun p e s m args below meth c X hr hn => H (fun b => GX g p l e s m args below meth c d_X2_isAhead 5 mc ms h P (pc_X2_isAhead b)) (fun b h1 cb sb ls st hb => match b, hb with
    | 0, hb => sb_X2_isAhead_0 (p := p) (e := e) (below := below) X hr hn h1 cb sb ls st hb
    | _ + 1, hb => hb.elim))
theorem dX2_goesOn_0 : decode cX2_goesOn 0 = .ok (.aload_n 0, 1) := by decide +kernel
theorem dX2_goesOn_1 : decode cX2_goesOn 1 = .ok (.getfield 11, 3) := by decide +kernel
theorem dX2_goesOn_4 : decode cX2_goesOn 4 = .ok (.iload_n 2, 1) := by decide +kernel
theorem dX2_goesOn_5 : decode cX2_goesOn 5 = .ok (.aaload, 1) := by decide +kernel
theorem dX2_goesOn_6 : decode cX2_goesOn 6 = .ok (.astore_n 3, 1) := by decide +kernel
theorem dX2_goesOn_7 : decode cX2_goesOn 7 = .ok (.aload_n 1, 1) := by decide +kernel
theorem dX2_goesOn_8 : decode cX2_goesOn 8 = .ok (.iload_n 2, 1) := by decide +kernel
theorem dX2_goesOn_9 : decode cX2_goesOn 9 = .ok (.iaload, 1) := by decide +kernel
theorem dX2_goesOn_10 : decode cX2_goesOn 10 = .ok (.istore 4, 2) := by decide +kernel
theorem dX2_goesOn_12 : decode cX2_goesOn 12 = .ok (.iload 4, 2) := by decide +kernel
theorem dX2_goesOn_14 : decode cX2_goesOn 14 = .ok (.aload_n 3, 1) := by decide +kernel
theorem dX2_goesOn_15 : decode cX2_goesOn 15 = .ok (.getfield 39, 3) := by decide +kernel
theorem dX2_goesOn_18 : decode cX2_goesOn 18 = .ok (.if_icmp .lt 5, 3) := by decide +kernel
theorem dX2_goesOn_21 : decode cX2_goesOn 21 = .ok (.iconst 0, 1) := by decide +kernel
theorem dX2_goesOn_22 : decode cX2_goesOn 22 = .ok (.ireturn, 1) := by decide +kernel
theorem dX2_goesOn_23 : decode cX2_goesOn 23 = .ok (.aload_n 3, 1) := by decide +kernel
theorem dX2_goesOn_24 : decode cX2_goesOn 24 = .ok (.getfield 103, 3) := by decide +kernel
theorem dX2_goesOn_27 : decode cX2_goesOn 27 = .ok (.iload 4, 2) := by decide +kernel
theorem dX2_goesOn_29 : decode cX2_goesOn 29 = .ok (.iaload, 1) := by decide +kernel
theorem dX2_goesOn_30 : decode cX2_goesOn 30 = .ok (.iconst 2, 1) := by decide +kernel
theorem dX2_goesOn_31 : decode cX2_goesOn 31 = .ok (.if_icmp .ne 22, 3) := by decide +kernel
theorem dX2_goesOn_34 : decode cX2_goesOn 34 = .ok (.aload_n 0, 1) := by decide +kernel
theorem dX2_goesOn_35 : decode cX2_goesOn 35 = .ok (.getfield 19, 3) := by decide +kernel
theorem dX2_goesOn_38 : decode cX2_goesOn 38 = .ok (.aload_n 3, 1) := by decide +kernel
theorem dX2_goesOn_39 : decode cX2_goesOn 39 = .ok (.getfield 106, 3) := by decide +kernel
theorem dX2_goesOn_42 : decode cX2_goesOn 42 = .ok (.iload 4, 2) := by decide +kernel
theorem dX2_goesOn_44 : decode cX2_goesOn 44 = .ok (.iaload, 1) := by decide +kernel
theorem dX2_goesOn_45 : decode cX2_goesOn 45 = .ok (.aaload, 1) := by decide +kernel
theorem dX2_goesOn_46 : decode cX2_goesOn 46 = .ok (.aload_n 1, 1) := by decide +kernel
theorem dX2_goesOn_47 : decode cX2_goesOn 47 = .ok (.invokevirtual 119, 3) := by decide +kernel
theorem dX2_goesOn_50 : decode cX2_goesOn 50 = .ok (.ifCond .eq 7, 3) := by decide +kernel
theorem dX2_goesOn_53 : decode cX2_goesOn 53 = .ok (.iconst 1, 1) := by decide +kernel
theorem dX2_goesOn_54 : decode cX2_goesOn 54 = .ok (.goto 4, 3) := by decide +kernel
theorem dX2_goesOn_57 : decode cX2_goesOn 57 = .ok (.iconst 0, 1) := by decide +kernel
theorem dX2_goesOn_58 : decode cX2_goesOn 58 = .ok (.ireturn, 1) := by decide +kernel
def bk_X2_goesOn_0 (l : Launch) (g : Gm) (G : Nat → CT) (P : PT) : CT := (oALd 0 (oGet [2] 0 (oILd 2 (oRAL g 3 (oASt 3 (oALd 1 (oILd 2 (oIAL g (oISt 4 (oILd 4 (oALd 3 (oGet [4, 0, 1] 5 (oCmp (fun x y => x < y) (oALd 3 (oGet [4, 0, 1] 1 (oILd 4 (oIAL g (oPush (.int (2)) (oCmp (fun x y => x = y) (oALd 0 (oGet [2] 1 (oALd 3 (oGet [4, 0, 1] 2 (oILd 4 (oIAL g (oRAL g 4 (oALd 1 (oCallV l g [(3, d_X3_isSentIn)] 2 (oIf (fun x => x = 0) (oPush (.int (0)) (oZRet P)) (oPush (.int (1)) (oGo (oZRet P))))))))))))) (oPush (.int (1)) (oGo (oZRet P))))))))) (oPush (.int (0)) (oZRet P)))))))))))))))
def bk_X2_goesOn (l : Launch) (g : Gm) (b : Nat) (G : Nat → CT) (P : PT) : CT := match b with
  | 0 => bk_X2_goesOn_0 l g G P
  | _ => fun _ _ _ _ _ => False
def pc_X2_goesOn (b : Nat) : Nat := match b with
  | 0 => 0
  | _ => 0
set_option maxRecDepth 100000 in
theorem sb_X2_goesOn_0 {p : Program} {l : Launch} {e : Env} {s : State} {m : MethodId} {args : Array Value} {below : List Frame} {meth : Method} {c : Code} {g : Gm} {h0 : Hp} {P : PT} {mc ms : Nat} (X : Cx g p s m args meth c (Adom h0 s.heap.size) cX2_goesOn RX2 5) (hr : meth.sig.returnType = some .boolean) (hn : meth.name = "goesOn") : SX g p l e s m args below meth c d_X2_goesOn 5 mc ms h0 P (bk_X2_goesOn_0 l g (fun b => GX g p l e s m args below meth c d_X2_goesOn 5 mc ms h0 P (pc_X2_goesOn b)) P) 0 := (s_aload_n X dX2_goesOn_0 rfl (s_get X dX2_goesOn_1 (mcn (⟨_, _, _, _, rfl, inU_X2, by decide, uw_79, rfl⟩) (mnl)) (s_iload_n X dX2_goesOn_4 rfl (s_aaload X (t := 3) (fun _ => rfl) rfl dX2_goesOn_5 (s_astore_n X dX2_goesOn_6 rfl (by decide) (s_aload_n X dX2_goesOn_7 rfl (s_iload_n X dX2_goesOn_8 rfl (s_iaload X dX2_goesOn_9 (s_istore X dX2_goesOn_10 (by decide) (s_iload X dX2_goesOn_12 (s_aload_n X dX2_goesOn_14 rfl (s_get X dX2_goesOn_15 (mcn (⟨_, _, _, _, rfl, inU_X4, by decide, uw_285, rfl⟩) (mcn (⟨_, _, _, _, rfl, inU_X0, by decide, uw_285, rfl⟩) (mcn (⟨_, _, _, _, rfl, inU_X1, by decide, uw_285, rfl⟩) (mnl)))) (s_icmp_lt X dX2_goesOn_18 (by decide) (s_aload_n X dX2_goesOn_23 rfl (s_get X dX2_goesOn_24 (mcn (⟨_, _, _, _, rfl, inU_X4, by decide, uw_276, rfl⟩) (mcn (⟨_, _, _, _, rfl, inU_X0, by decide, uw_276, rfl⟩) (mcn (⟨_, _, _, _, rfl, inU_X1, by decide, uw_276, rfl⟩) (mnl)))) (s_iload X dX2_goesOn_27 (s_iaload X dX2_goesOn_29 (s_iconst X dX2_goesOn_30 rfl (s_icmp_ne X dX2_goesOn_31 (by decide) (s_iconst X dX2_goesOn_53 rfl (s_goto X dX2_goesOn_54 (by decide) (s_zret X hr dX2_goesOn_58))) (s_aload_n X dX2_goesOn_34 rfl (s_get X dX2_goesOn_35 (mcn (⟨_, _, _, _, rfl, inU_X2, by decide, uw_82, rfl⟩) (mnl)) (s_aload_n X dX2_goesOn_38 rfl (s_get X dX2_goesOn_39 (mcn (⟨_, _, _, _, rfl, inU_X4, by decide, uw_279, rfl⟩) (mcn (⟨_, _, _, _, rfl, inU_X0, by decide, uw_279, rfl⟩) (mcn (⟨_, _, _, _, rfl, inU_X1, by decide, uw_279, rfl⟩) (mnl)))) (s_iload X dX2_goesOn_42 (s_iaload X dX2_goesOn_44 (s_aaload X (t := 4) (fun _ => rfl) rfl dX2_goesOn_45 (s_aload_n X dX2_goesOn_46 rfl (s_callV X dX2_goesOn_47 (mv (vok_V X rfl uw_361 uw_362 uw_363 uw_4 ci_X3_isSentIn yok_X3_isSentIn ⟨Nat.le_of_ble_eq_true rfl, Nat.le_of_ble_eq_true rfl⟩) mv0) (s_if_eq X dX2_goesOn_50 (by decide) (s_iconst X dX2_goesOn_57 rfl (s_zret X hr dX2_goesOn_58)) (s_iconst X dX2_goesOn_53 rfl (s_goto X dX2_goesOn_54 (by decide) (s_zret X hr dX2_goesOn_58))))))))))))))))))) (s_iconst X dX2_goesOn_21 rfl (s_zret X hr dX2_goesOn_22)))))))))))))))
set_option maxRecDepth 100000 in
theorem vc_X2_goesOn {l : Launch} {g : Gm} {a0 : Nat} {a1 : Nat} {a2 : Int32} {h : Hp} {mc ms : Nat} {P : PT} (H : ∀ G : Nat → CT, (∀ (b : Nat) (h : Hp) (cb sb : Nat) (ls : LocS) (st : List Value), bk_X2_goesOn l g b G P h cb sb ls st → G b h cb sb ls st) → G 0 h mc ms [some (.ref a0), some (.ref a1), some (.int a2), none, none] []) : Run l g d_X2_goesOn [.ref a0, .ref a1, .int a2] h mc ms P :=
  Run.of (d := d_X2_goesOn) (by decide) (mcn rfl (mcn rfl (mcn rfl (mnl)))) (Nat.le_of_ble_eq_true rfl) (fun p e s m args below meth c X hr hn => H (fun b => GX g p l e s m args below meth c d_X2_goesOn 5 mc ms h P (pc_X2_goesOn b)) (fun b h1 cb sb ls st hb => match b, hb with
    | 0, hb => sb_X2_goesOn_0 (p := p) (e := e) (below := below) X hr hn h1 cb sb ls st hb
    | _ + 1, hb => hb.elim))
theorem dX2_thatGoOn_0 : decode cX2_thatGoOn 0 = .ok (.iconst 0, 1) := by decide +kernel
theorem dX2_thatGoOn_1 : decode cX2_thatGoOn 1 = .ok (.istore_n 2, 1) := by decide +kernel
theorem dX2_thatGoOn_2 : decode cX2_thatGoOn 2 = .ok (.iconst 0, 1) := by decide +kernel
theorem dX2_thatGoOn_3 : decode cX2_thatGoOn 3 = .ok (.istore_n 3, 1) := by decide +kernel
theorem dX2_thatGoOn_4 : decode cX2_thatGoOn 4 = .ok (.iload_n 3, 1) := by decide +kernel
theorem dX2_thatGoOn_5 : decode cX2_thatGoOn 5 = .ok (.aload_n 0, 1) := by decide +kernel
theorem dX2_thatGoOn_6 : decode cX2_thatGoOn 6 = .ok (.getfield 31, 3) := by decide +kernel
theorem dX2_thatGoOn_9 : decode cX2_thatGoOn 9 = .ok (.if_icmp .ge 24, 3) := by decide +kernel
theorem dX2_thatGoOn_12 : decode cX2_thatGoOn 12 = .ok (.aload_n 0, 1) := by decide +kernel
theorem dX2_thatGoOn_13 : decode cX2_thatGoOn 13 = .ok (.aload_n 1, 1) := by decide +kernel
theorem dX2_thatGoOn_14 : decode cX2_thatGoOn 14 = .ok (.iload_n 3, 1) := by decide +kernel
theorem dX2_thatGoOn_15 : decode cX2_thatGoOn 15 = .ok (.invokevirtual 89, 3) := by decide +kernel
theorem dX2_thatGoOn_18 : decode cX2_thatGoOn 18 = .ok (.ifCond .eq 9, 3) := by decide +kernel
theorem dX2_thatGoOn_21 : decode cX2_thatGoOn 21 = .ok (.iload_n 2, 1) := by decide +kernel
theorem dX2_thatGoOn_22 : decode cX2_thatGoOn 22 = .ok (.iconst 1, 1) := by decide +kernel
theorem dX2_thatGoOn_23 : decode cX2_thatGoOn 23 = .ok (.iload_n 3, 1) := by decide +kernel
theorem dX2_thatGoOn_24 : decode cX2_thatGoOn 24 = .ok (.ishl, 1) := by decide +kernel
theorem dX2_thatGoOn_25 : decode cX2_thatGoOn 25 = .ok (.ior, 1) := by decide +kernel
theorem dX2_thatGoOn_26 : decode cX2_thatGoOn 26 = .ok (.istore_n 2, 1) := by decide +kernel
theorem dX2_thatGoOn_27 : decode cX2_thatGoOn 27 = .ok (.iinc 3 1, 3) := by decide +kernel
theorem dX2_thatGoOn_30 : decode cX2_thatGoOn 30 = .ok (.goto (-26), 3) := by decide +kernel
theorem dX2_thatGoOn_33 : decode cX2_thatGoOn 33 = .ok (.iload_n 2, 1) := by decide +kernel
theorem dX2_thatGoOn_34 : decode cX2_thatGoOn 34 = .ok (.ireturn, 1) := by decide +kernel
def bk_X2_thatGoOn_0 (l : Launch) (g : Gm) (G : Nat → CT) (P : PT) : CT := (oPush (.int (0)) (oISt 2 (oPush (.int (0)) (oISt 3 (G 1)))))
def bk_X2_thatGoOn_1 (l : Launch) (g : Gm) (G : Nat → CT) (P : PT) : CT := (oILd 3 (oALd 0 (oGet [2] 4 (oCmp (fun x y => y ≤ x) (oILd 2 (oIRet P)) (oALd 0 (oALd 1 (oILd 3 (oCallV l g [(2, d_X2_goesOn)] 3 (oIf (fun x => x = 0) (oInc 3 (1) (oGo (G 1))) (oILd 2 (oPush (.int (1)) (oILd 3 (oBin (fun x y => x <<< (y &&& 31)) (oBin (fun x y => x ||| y) (oISt 2 (oInc 3 (1) (oGo (G 1))))))))))))))))))
def bk_X2_thatGoOn (l : Launch) (g : Gm) (b : Nat) (G : Nat → CT) (P : PT) : CT := match b with
  | 0 => bk_X2_thatGoOn_0 l g G P
  | 1 => bk_X2_thatGoOn_1 l g G P
  | _ => fun _ _ _ _ _ => False
def pc_X2_thatGoOn (b : Nat) : Nat := match b with
  | 0 => 0
  | 1 => 4
  | _ => 0
set_option maxRecDepth 100000 in
theorem sb_X2_thatGoOn_0 {p : Program} {l : Launch} {e : Env} {s : State} {m : MethodId} {args : Array Value} {below : List Frame} {meth : Method} {c : Code} {g : Gm} {h0 : Hp} {P : PT} {mc ms : Nat} (X : Cx g p s m args meth c (Adom h0 s.heap.size) cX2_thatGoOn RX2 4) (hr : meth.sig.returnType = some .int) (hn : meth.name = "thatGoOn") : SX g p l e s m args below meth c d_X2_thatGoOn 4 mc ms h0 P (bk_X2_thatGoOn_0 l g (fun b => GX g p l e s m args below meth c d_X2_thatGoOn 4 mc ms h0 P (pc_X2_thatGoOn b)) P) 0 := (s_iconst X dX2_thatGoOn_0 rfl (s_istore_n X dX2_thatGoOn_1 rfl (by decide) (s_iconst X dX2_thatGoOn_2 rfl (s_istore_n X dX2_thatGoOn_3 rfl (by decide) Sd.rf))))
set_option maxRecDepth 100000 in
theorem sb_X2_thatGoOn_1 {p : Program} {l : Launch} {e : Env} {s : State} {m : MethodId} {args : Array Value} {below : List Frame} {meth : Method} {c : Code} {g : Gm} {h0 : Hp} {P : PT} {mc ms : Nat} (X : Cx g p s m args meth c (Adom h0 s.heap.size) cX2_thatGoOn RX2 4) (hr : meth.sig.returnType = some .int) (hn : meth.name = "thatGoOn") : SX g p l e s m args below meth c d_X2_thatGoOn 4 mc ms h0 P (bk_X2_thatGoOn_1 l g (fun b => GX g p l e s m args below meth c d_X2_thatGoOn 4 mc ms h0 P (pc_X2_thatGoOn b)) P) 4 := (s_iload_n X dX2_thatGoOn_4 rfl (s_aload_n X dX2_thatGoOn_5 rfl (s_get X dX2_thatGoOn_6 (mcn (⟨_, _, _, _, rfl, inU_X2, by decide, uw_87, rfl⟩) (mnl)) (s_icmp_ge X dX2_thatGoOn_9 (by decide) (s_iload_n X dX2_thatGoOn_33 rfl (s_iret X hr dX2_thatGoOn_34)) (s_aload_n X dX2_thatGoOn_12 rfl (s_aload_n X dX2_thatGoOn_13 rfl (s_iload_n X dX2_thatGoOn_14 rfl (s_callV X dX2_thatGoOn_15 (mv (vok_V X rfl uw_357 uw_358 uw_359 uw_3 ci_X2_goesOn yok_X2_goesOn ⟨Nat.le_of_ble_eq_true rfl, Nat.le_of_ble_eq_true rfl⟩) mv0) (s_if_eq X dX2_thatGoOn_18 (by decide) (s_iinc X dX2_thatGoOn_27 rfl (by decide) (s_goto X dX2_thatGoOn_30 (by decide) Sd.rf)) (s_iload_n X dX2_thatGoOn_21 rfl (s_iconst X dX2_thatGoOn_22 rfl (s_iload_n X dX2_thatGoOn_23 rfl (s_ishl X dX2_thatGoOn_24 (s_ior X dX2_thatGoOn_25 (s_istore_n X dX2_thatGoOn_26 rfl (by decide) (s_iinc X dX2_thatGoOn_27 rfl (by decide) (s_goto X dX2_thatGoOn_30 (by decide) Sd.rf)))))))))))))))))
set_option maxRecDepth 100000 in
theorem vc_X2_thatGoOn {l : Launch} {g : Gm} {a0 : Nat} {a1 : Nat} {h : Hp} {mc ms : Nat} {P : PT} (H : ∀ G : Nat → CT, (∀ (b : Nat) (h : Hp) (cb sb : Nat) (ls : LocS) (st : List Value), bk_X2_thatGoOn l g b G P h cb sb ls st → G b h cb sb ls st) → G 0 h mc ms [some (.ref a0), some (.ref a1), none, none] []) : Run l g d_X2_thatGoOn [.ref a0, .ref a1] h mc ms P :=
  Run.of (d := d_X2_thatGoOn) (by decide) (mcn rfl (mcn rfl (mnl))) (Nat.le_of_ble_eq_true rfl) (fun p e s m args below meth c X hr hn => H (fun b => GX g p l e s m args below meth c d_X2_thatGoOn 4 mc ms h P (pc_X2_thatGoOn b)) (fun b h1 cb sb ls st hb => match b, hb with
    | 0, hb => sb_X2_thatGoOn_0 (p := p) (e := e) (below := below) X hr hn h1 cb sb ls st hb
    | 1, hb => sb_X2_thatGoOn_1 (p := p) (e := e) (below := below) X hr hn h1 cb sb ls st hb
    | _ + 2, hb => hb.elim))
theorem dX2_close_0 : decode cX2_close 0 = .ok (.aload_n 1, 1) := by decide +kernel
theorem dX2_close_1 : decode cX2_close 1 = .ok (.iconst 0, 1) := by decide +kernel
theorem dX2_close_2 : decode cX2_close 2 = .ok (.aload_n 2, 1) := by decide +kernel
theorem dX2_close_3 : decode cX2_close 3 = .ok (.iconst 0, 1) := by decide +kernel
theorem dX2_close_4 : decode cX2_close 4 = .ok (.iconst 4, 1) := by decide +kernel
theorem dX2_close_5 : decode cX2_close 5 = .ok (.invokestatic 97, 3) := by decide +kernel
theorem dX2_close_8 : decode cX2_close 8 = .ok (.iconst 0, 1) := by decide +kernel
theorem dX2_close_9 : decode cX2_close 9 = .ok (.istore_n 3, 1) := by decide +kernel
theorem dX2_close_10 : decode cX2_close 10 = .ok (.iload_n 3, 1) := by decide +kernel
theorem dX2_close_11 : decode cX2_close 11 = .ok (.aload_n 0, 1) := by decide +kernel
theorem dX2_close_12 : decode cX2_close 12 = .ok (.getfield 31, 3) := by decide +kernel
theorem dX2_close_15 : decode cX2_close 15 = .ok (.if_icmp .ge 34, 3) := by decide +kernel
theorem dX2_close_18 : decode cX2_close 18 = .ok (.aload_n 1, 1) := by decide +kernel
theorem dX2_close_19 : decode cX2_close 19 = .ok (.iload_n 3, 1) := by decide +kernel
theorem dX2_close_20 : decode cX2_close 20 = .ok (.iaload, 1) := by decide +kernel
theorem dX2_close_21 : decode cX2_close 21 = .ok (.ifCond .le 22, 3) := by decide +kernel
theorem dX2_close_24 : decode cX2_close 24 = .ok (.aload_n 2, 1) := by decide +kernel
theorem dX2_close_25 : decode cX2_close 25 = .ok (.aload_n 0, 1) := by decide +kernel
theorem dX2_close_26 : decode cX2_close 26 = .ok (.getfield 11, 3) := by decide +kernel
theorem dX2_close_29 : decode cX2_close 29 = .ok (.iload_n 3, 1) := by decide +kernel
theorem dX2_close_30 : decode cX2_close 30 = .ok (.aaload, 1) := by decide +kernel
theorem dX2_close_31 : decode cX2_close 31 = .ok (.getfield 93, 3) := by decide +kernel
theorem dX2_close_34 : decode cX2_close 34 = .ok (.aload_n 1, 1) := by decide +kernel
theorem dX2_close_35 : decode cX2_close 35 = .ok (.iload_n 3, 1) := by decide +kernel
theorem dX2_close_36 : decode cX2_close 36 = .ok (.iaload, 1) := by decide +kernel
theorem dX2_close_37 : decode cX2_close 37 = .ok (.iconst 1, 1) := by decide +kernel
theorem dX2_close_38 : decode cX2_close 38 = .ok (.isub, 1) := by decide +kernel
theorem dX2_close_39 : decode cX2_close 39 = .ok (.aaload, 1) := by decide +kernel
theorem dX2_close_40 : decode cX2_close 40 = .ok (.invokestatic 109, 3) := by decide +kernel
theorem dX2_close_43 : decode cX2_close 43 = .ok (.iinc 3 1, 3) := by decide +kernel
theorem dX2_close_46 : decode cX2_close 46 = .ok (.goto (-36), 3) := by decide +kernel
theorem dX2_close_49 : decode cX2_close 49 = .ok (.return_, 1) := by decide +kernel
def bk_X2_close_0 (l : Launch) (g : Gm) (G : Nat → CT) (P : PT) : CT := (oALd 1 (oPush (.int (0)) (oALd 2 (oPush (.int (0)) (oPush (.int (4)) (oCopy g (oPush (.int (0)) (oISt 3 (G 1)))))))))
def bk_X2_close_1 (l : Launch) (g : Gm) (G : Nat → CT) (P : PT) : CT := (oILd 3 (oALd 0 (oGet [2] 4 (oCmp (fun x y => y ≤ x) (oVRet P) (oALd 1 (oILd 3 (oIAL g (oIf (fun x => x ≤ 0) (oInc 3 (1) (oGo (G 1))) (oALd 2 (oALd 0 (oGet [2] 0 (oILd 3 (oRAL g 3 (oGet [4, 0, 1] 3 (oALd 1 (oILd 3 (oIAL g (oPush (.int (1)) (oBin (fun x y => x - y) (oRAL g 6 (oCall l g d_X2_raise 2 (oInc 3 (1) (oGo (G 1))))))))))))))))))))))))
def bk_X2_close (l : Launch) (g : Gm) (b : Nat) (G : Nat → CT) (P : PT) : CT := match b with
  | 0 => bk_X2_close_0 l g G P
  | 1 => bk_X2_close_1 l g G P
  | _ => fun _ _ _ _ _ => False
def pc_X2_close (b : Nat) : Nat := match b with
  | 0 => 0
  | 1 => 10
  | _ => 0
set_option maxRecDepth 100000 in
theorem sb_X2_close_0 {p : Program} {l : Launch} {e : Env} {s : State} {m : MethodId} {args : Array Value} {below : List Frame} {meth : Method} {c : Code} {g : Gm} {h0 : Hp} {P : PT} {mc ms : Nat} (X : Cx g p s m args meth c (Adom h0 s.heap.size) cX2_close RX2 4) (hr : meth.sig.returnType = none) (hn : meth.name = "close") : SX g p l e s m args below meth c d_X2_close 4 mc ms h0 P (bk_X2_close_0 l g (fun b => GX g p l e s m args below meth c d_X2_close 4 mc ms h0 P (pc_X2_close b)) P) 0 := (s_aload_n X dX2_close_0 rfl (s_iconst X dX2_close_1 rfl (s_aload_n X dX2_close_2 rfl (s_iconst X dX2_close_3 rfl (s_iconst X dX2_close_4 rfl (s_copy X uw_369 uw_371 uw_370 uw_12 (Nat.le_of_ble_eq_true rfl) (Nat.le_of_ble_eq_true rfl) dX2_close_5 (s_iconst X dX2_close_8 rfl (s_istore_n X dX2_close_9 rfl (by decide) Sd.rf))))))))
set_option maxRecDepth 100000 in
theorem sb_X2_close_1 {p : Program} {l : Launch} {e : Env} {s : State} {m : MethodId} {args : Array Value} {below : List Frame} {meth : Method} {c : Code} {g : Gm} {h0 : Hp} {P : PT} {mc ms : Nat} (X : Cx g p s m args meth c (Adom h0 s.heap.size) cX2_close RX2 4) (hr : meth.sig.returnType = none) (hn : meth.name = "close") : SX g p l e s m args below meth c d_X2_close 4 mc ms h0 P (bk_X2_close_1 l g (fun b => GX g p l e s m args below meth c d_X2_close 4 mc ms h0 P (pc_X2_close b)) P) 10 := (s_iload_n X dX2_close_10 rfl (s_aload_n X dX2_close_11 rfl (s_get X dX2_close_12 (mcn (⟨_, _, _, _, rfl, inU_X2, by decide, uw_87, rfl⟩) (mnl)) (s_icmp_ge X dX2_close_15 (by decide) (s_vret X hr dX2_close_49) (s_aload_n X dX2_close_18 rfl (s_iload_n X dX2_close_19 rfl (s_iaload X dX2_close_20 (s_if_le X dX2_close_21 (by decide) (s_iinc X dX2_close_43 rfl (by decide) (s_goto X dX2_close_46 (by decide) Sd.rf)) (s_aload_n X dX2_close_24 rfl (s_aload_n X dX2_close_25 rfl (s_get X dX2_close_26 (mcn (⟨_, _, _, _, rfl, inU_X2, by decide, uw_79, rfl⟩) (mnl)) (s_iload_n X dX2_close_29 rfl (s_aaload X (t := 3) (fun _ => rfl) rfl dX2_close_30 (s_get X dX2_close_31 (mcn (⟨_, _, _, _, rfl, inU_X4, by decide, uw_282, rfl⟩) (mcn (⟨_, _, _, _, rfl, inU_X0, by decide, uw_282, rfl⟩) (mcn (⟨_, _, _, _, rfl, inU_X1, by decide, uw_282, rfl⟩) (mnl)))) (s_aload_n X dX2_close_34 rfl (s_iload_n X dX2_close_35 rfl (s_iaload X dX2_close_36 (s_iconst X dX2_close_37 rfl (s_isub X dX2_close_38 (s_aaload X (t := 6) (fun _ => rfl) rfl dX2_close_39 (s_callS X dX2_close_40 uw_372 uw_373 uw_3 ci_X2_raise yok_X2_raise ⟨Nat.le_of_ble_eq_true rfl, Nat.le_of_ble_eq_true rfl⟩ (s_iinc X dX2_close_43 rfl (by decide) (s_goto X dX2_close_46 (by decide) Sd.rf)))))))))))))))))))))))
set_option maxRecDepth 100000 in
theorem vc_X2_close {l : Launch} {g : Gm} {a0 : Nat} {a1 : Nat} {a2 : Nat} {h : Hp} {mc ms : Nat} {P : PT} (H : ∀ G : Nat → CT, (∀ (b : Nat) (h : Hp) (cb sb : Nat) (ls : LocS) (st : List Value), bk_X2_close l g b G P h cb sb ls st → G b h cb sb ls st) → G 0 h mc ms [some (.ref a0), some (.ref a1), some (.ref a2), none] []) : Run l g d_X2_close [.ref a0, .ref a1, .ref a2] h mc ms P :=
  Run.of (d := d_X2_close) (by decide) (mcn rfl (mcn rfl (mcn rfl (mnl)))) (Nat.le_of_ble_eq_true rfl) (fun p e s m args below meth c X hr hn => H (fun b => GX g p l e s m args below meth c d_X2_close 4 mc ms h P (pc_X2_close b)) (fun b h1 cb sb ls st hb => match b, hb with
    | 0, hb => sb_X2_close_0 (p := p) (e := e) (below := below) X hr hn h1 cb sb ls st hb
    | 1, hb => sb_X2_close_1 (p := p) (e := e) (below := below) X hr hn h1 cb sb ls st hb
    | _ + 2, hb => hb.elim))
theorem dX2_canBe_0 : decode cX2_canBe 0 = .ok (.iconst 0, 1) := by decide +kernel
theorem dX2_canBe_1 : decode cX2_canBe 1 = .ok (.istore_n 2, 1) := by decide +kernel
theorem dX2_canBe_2 : decode cX2_canBe 2 = .ok (.iload_n 2, 1) := by decide +kernel
theorem dX2_canBe_3 : decode cX2_canBe 3 = .ok (.aload_n 0, 1) := by decide +kernel
theorem dX2_canBe_4 : decode cX2_canBe 4 = .ok (.getfield 31, 3) := by decide +kernel
theorem dX2_canBe_7 : decode cX2_canBe 7 = .ok (.if_icmp .ge 56, 3) := by decide +kernel
theorem dX2_canBe_10 : decode cX2_canBe 10 = .ok (.iconst 0, 1) := by decide +kernel
theorem dX2_canBe_11 : decode cX2_canBe 11 = .ok (.istore_n 3, 1) := by decide +kernel
theorem dX2_canBe_12 : decode cX2_canBe 12 = .ok (.iload_n 3, 1) := by decide +kernel
theorem dX2_canBe_13 : decode cX2_canBe 13 = .ok (.aload_n 0, 1) := by decide +kernel
theorem dX2_canBe_14 : decode cX2_canBe 14 = .ok (.getfield 31, 3) := by decide +kernel
theorem dX2_canBe_17 : decode cX2_canBe 17 = .ok (.if_icmp .ge 40, 3) := by decide +kernel
theorem dX2_canBe_20 : decode cX2_canBe 20 = .ok (.aload_n 1, 1) := by decide +kernel
theorem dX2_canBe_21 : decode cX2_canBe 21 = .ok (.iload_n 2, 1) := by decide +kernel
theorem dX2_canBe_22 : decode cX2_canBe 22 = .ok (.iaload, 1) := by decide +kernel
theorem dX2_canBe_23 : decode cX2_canBe 23 = .ok (.ifCond .le 28, 3) := by decide +kernel
theorem dX2_canBe_26 : decode cX2_canBe 26 = .ok (.aload_n 0, 1) := by decide +kernel
theorem dX2_canBe_27 : decode cX2_canBe 27 = .ok (.getfield 11, 3) := by decide +kernel
theorem dX2_canBe_30 : decode cX2_canBe 30 = .ok (.iload_n 2, 1) := by decide +kernel
theorem dX2_canBe_31 : decode cX2_canBe 31 = .ok (.aaload, 1) := by decide +kernel
theorem dX2_canBe_32 : decode cX2_canBe 32 = .ok (.getfield 93, 3) := by decide +kernel
theorem dX2_canBe_35 : decode cX2_canBe 35 = .ok (.aload_n 1, 1) := by decide +kernel
theorem dX2_canBe_36 : decode cX2_canBe 36 = .ok (.iload_n 2, 1) := by decide +kernel
theorem dX2_canBe_37 : decode cX2_canBe 37 = .ok (.iaload, 1) := by decide +kernel
theorem dX2_canBe_38 : decode cX2_canBe 38 = .ok (.iconst 1, 1) := by decide +kernel
theorem dX2_canBe_39 : decode cX2_canBe 39 = .ok (.isub, 1) := by decide +kernel
theorem dX2_canBe_40 : decode cX2_canBe 40 = .ok (.aaload, 1) := by decide +kernel
theorem dX2_canBe_41 : decode cX2_canBe 41 = .ok (.iload_n 3, 1) := by decide +kernel
theorem dX2_canBe_42 : decode cX2_canBe 42 = .ok (.iaload, 1) := by decide +kernel
theorem dX2_canBe_43 : decode cX2_canBe 43 = .ok (.aload_n 1, 1) := by decide +kernel
theorem dX2_canBe_44 : decode cX2_canBe 44 = .ok (.iload_n 3, 1) := by decide +kernel
theorem dX2_canBe_45 : decode cX2_canBe 45 = .ok (.iaload, 1) := by decide +kernel
theorem dX2_canBe_46 : decode cX2_canBe 46 = .ok (.if_icmp .le 5, 3) := by decide +kernel
theorem dX2_canBe_49 : decode cX2_canBe 49 = .ok (.iconst 0, 1) := by decide +kernel
theorem dX2_canBe_50 : decode cX2_canBe 50 = .ok (.ireturn, 1) := by decide +kernel
theorem dX2_canBe_51 : decode cX2_canBe 51 = .ok (.iinc 3 1, 3) := by decide +kernel
theorem dX2_canBe_54 : decode cX2_canBe 54 = .ok (.goto (-42), 3) := by decide +kernel
theorem dX2_canBe_57 : decode cX2_canBe 57 = .ok (.iinc 2 1, 3) := by decide +kernel
theorem dX2_canBe_60 : decode cX2_canBe 60 = .ok (.goto (-58), 3) := by decide +kernel
theorem dX2_canBe_63 : decode cX2_canBe 63 = .ok (.iconst 1, 1) := by decide +kernel
theorem dX2_canBe_64 : decode cX2_canBe 64 = .ok (.ireturn, 1) := by decide +kernel
def bk_X2_canBe_0 (l : Launch) (g : Gm) (G : Nat → CT) (P : PT) : CT := (oPush (.int (0)) (oISt 2 (G 1)))
def bk_X2_canBe_1 (l : Launch) (g : Gm) (G : Nat → CT) (P : PT) : CT := (oILd 2 (oALd 0 (oGet [2] 4 (oCmp (fun x y => y ≤ x) (oPush (.int (1)) (oZRet P)) (oPush (.int (0)) (oISt 3 (G 2)))))))
def bk_X2_canBe_2 (l : Launch) (g : Gm) (G : Nat → CT) (P : PT) : CT := (oILd 3 (oALd 0 (oGet [2] 4 (oCmp (fun x y => y ≤ x) (oInc 2 (1) (oGo (G 1))) (oALd 1 (oILd 2 (oIAL g (oIf (fun x => x ≤ 0) (oInc 3 (1) (oGo (G 2))) (oALd 0 (oGet [2] 0 (oILd 2 (oRAL g 3 (oGet [4, 0, 1] 3 (oALd 1 (oILd 2 (oIAL g (oPush (.int (1)) (oBin (fun x y => x - y) (oRAL g 6 (oILd 3 (oIAL g (oALd 1 (oILd 3 (oIAL g (oCmp (fun x y => x ≤ y) (oInc 3 (1) (oGo (G 2))) (oPush (.int (0)) (oZRet P)))))))))))))))))))))))))))
def bk_X2_canBe (l : Launch) (g : Gm) (b : Nat) (G : Nat → CT) (P : PT) : CT := match b with
  | 0 => bk_X2_canBe_0 l g G P
  | 1 => bk_X2_canBe_1 l g G P
  | 2 => bk_X2_canBe_2 l g G P
  | _ => fun _ _ _ _ _ => False
def pc_X2_canBe (b : Nat) : Nat := match b with
  | 0 => 0
  | 1 => 2
  | 2 => 12
  | _ => 0
set_option maxRecDepth 100000 in
theorem sb_X2_canBe_0 {p : Program} {l : Launch} {e : Env} {s : State} {m : MethodId} {args : Array Value} {below : List Frame} {meth : Method} {c : Code} {g : Gm} {h0 : Hp} {P : PT} {mc ms : Nat} (X : Cx g p s m args meth c (Adom h0 s.heap.size) cX2_canBe RX2 4) (hr : meth.sig.returnType = some .boolean) (hn : meth.name = "canBe") : SX g p l e s m args below meth c d_X2_canBe 4 mc ms h0 P (bk_X2_canBe_0 l g (fun b => GX g p l e s m args below meth c d_X2_canBe 4 mc ms h0 P (pc_X2_canBe b)) P) 0 := (s_iconst X dX2_canBe_0 rfl (s_istore_n X dX2_canBe_1 rfl (by decide) Sd.rf))
set_option maxRecDepth 100000 in
theorem sb_X2_canBe_1 {p : Program} {l : Launch} {e : Env} {s : State} {m : MethodId} {args : Array Value} {below : List Frame} {meth : Method} {c : Code} {g : Gm} {h0 : Hp} {P : PT} {mc ms : Nat} (X : Cx g p s m args meth c (Adom h0 s.heap.size) cX2_canBe RX2 4) (hr : meth.sig.returnType = some .boolean) (hn : meth.name = "canBe") : SX g p l e s m args below meth c d_X2_canBe 4 mc ms h0 P (bk_X2_canBe_1 l g (fun b => GX g p l e s m args below meth c d_X2_canBe 4 mc ms h0 P (pc_X2_canBe b)) P) 2 := (s_iload_n X dX2_canBe_2 rfl (s_aload_n X dX2_canBe_3 rfl (s_get X dX2_canBe_4 (mcn (⟨_, _, _, _, rfl, inU_X2, by decide, uw_87, rfl⟩) (mnl)) (s_icmp_ge X dX2_canBe_7 (by decide) (s_iconst X dX2_canBe_63 rfl (s_zret X hr dX2_canBe_64)) (s_iconst X dX2_canBe_10 rfl (s_istore_n X dX2_canBe_11 rfl (by decide) Sd.rf))))))
set_option maxRecDepth 100000 in
theorem sb_X2_canBe_2 {p : Program} {l : Launch} {e : Env} {s : State} {m : MethodId} {args : Array Value} {below : List Frame} {meth : Method} {c : Code} {g : Gm} {h0 : Hp} {P : PT} {mc ms : Nat} (X : Cx g p s m args meth c (Adom h0 s.heap.size) cX2_canBe RX2 4) (hr : meth.sig.returnType = some .boolean) (hn : meth.name = "canBe") : SX g p l e s m args below meth c d_X2_canBe 4 mc ms h0 P (bk_X2_canBe_2 l g (fun b => GX g p l e s m args below meth c d_X2_canBe 4 mc ms h0 P (pc_X2_canBe b)) P) 12 := (s_iload_n X dX2_canBe_12 rfl (s_aload_n X dX2_canBe_13 rfl (s_get X dX2_canBe_14 (mcn (⟨_, _, _, _, rfl, inU_X2, by decide, uw_87, rfl⟩) (mnl)) (s_icmp_ge X dX2_canBe_17 (by decide) (s_iinc X dX2_canBe_57 rfl (by decide) (s_goto X dX2_canBe_60 (by decide) Sd.rf)) (s_aload_n X dX2_canBe_20 rfl (s_iload_n X dX2_canBe_21 rfl (s_iaload X dX2_canBe_22 (s_if_le X dX2_canBe_23 (by decide) (s_iinc X dX2_canBe_51 rfl (by decide) (s_goto X dX2_canBe_54 (by decide) Sd.rf)) (s_aload_n X dX2_canBe_26 rfl (s_get X dX2_canBe_27 (mcn (⟨_, _, _, _, rfl, inU_X2, by decide, uw_79, rfl⟩) (mnl)) (s_iload_n X dX2_canBe_30 rfl (s_aaload X (t := 3) (fun _ => rfl) rfl dX2_canBe_31 (s_get X dX2_canBe_32 (mcn (⟨_, _, _, _, rfl, inU_X4, by decide, uw_282, rfl⟩) (mcn (⟨_, _, _, _, rfl, inU_X0, by decide, uw_282, rfl⟩) (mcn (⟨_, _, _, _, rfl, inU_X1, by decide, uw_282, rfl⟩) (mnl)))) (s_aload_n X dX2_canBe_35 rfl (s_iload_n X dX2_canBe_36 rfl (s_iaload X dX2_canBe_37 (s_iconst X dX2_canBe_38 rfl (s_isub X dX2_canBe_39 (s_aaload X (t := 6) (fun _ => rfl) rfl dX2_canBe_40 (s_iload_n X dX2_canBe_41 rfl (s_iaload X dX2_canBe_42 (s_aload_n X dX2_canBe_43 rfl (s_iload_n X dX2_canBe_44 rfl (s_iaload X dX2_canBe_45 (s_icmp_le X dX2_canBe_46 (by decide) (s_iinc X dX2_canBe_51 rfl (by decide) (s_goto X dX2_canBe_54 (by decide) Sd.rf)) (s_iconst X dX2_canBe_49 rfl (s_zret X hr dX2_canBe_50)))))))))))))))))))))))))))
set_option maxRecDepth 100000 in
theorem vc_X2_canBe {l : Launch} {g : Gm} {a0 : Nat} {a1 : Nat} {h : Hp} {mc ms : Nat} {P : PT} (H : ∀ G : Nat → CT, (∀ (b : Nat) (h : Hp) (cb sb : Nat) (ls : LocS) (st : List Value), bk_X2_canBe l g b G P h cb sb ls st → G b h cb sb ls st) → G 0 h mc ms [some (.ref a0), some (.ref a1), none, none] []) : Run l g d_X2_canBe [.ref a0, .ref a1] h mc ms P :=
  Run.of (d := d_X2_canBe) (by decide) (mcn rfl (mcn rfl (mnl))) (Nat.le_of_ble_eq_true rfl) (fun p e s m args below meth c X hr hn => H (fun b => GX g p l e s m args below meth c d_X2_canBe 4 mc ms h P (pc_X2_canBe b)) (fun b h1 cb sb ls st hb => match b, hb with
    | 0, hb => sb_X2_canBe_0 (p := p) (e := e) (below := below) X hr hn h1 cb sb ls st hb
    | 1, hb => sb_X2_canBe_1 (p := p) (e := e) (below := below) X hr hn h1 cb sb ls st hb
    | 2, hb => sb_X2_canBe_2 (p := p) (e := e) (below := below) X hr hn h1 cb sb ls st hb
    | _ + 3, hb => hb.elim))
theorem dX2_sumOf_0 : decode cX2_sumOf 0 = .ok (.iconst 0, 1) := by decide +kernel
theorem dX2_sumOf_1 : decode cX2_sumOf 1 = .ok (.istore_n 2, 1) := by decide +kernel
theorem dX2_sumOf_2 : decode cX2_sumOf 2 = .ok (.iconst 0, 1) := by decide +kernel
theorem dX2_sumOf_3 : decode cX2_sumOf 3 = .ok (.istore_n 3, 1) := by decide +kernel
theorem dX2_sumOf_4 : decode cX2_sumOf 4 = .ok (.iload_n 3, 1) := by decide +kernel
theorem dX2_sumOf_5 : decode cX2_sumOf 5 = .ok (.aload_n 0, 1) := by decide +kernel
theorem dX2_sumOf_6 : decode cX2_sumOf 6 = .ok (.getfield 31, 3) := by decide +kernel
theorem dX2_sumOf_9 : decode cX2_sumOf 9 = .ok (.if_icmp .ge 24, 3) := by decide +kernel
theorem dX2_sumOf_12 : decode cX2_sumOf 12 = .ok (.iload_n 2, 1) := by decide +kernel
theorem dX2_sumOf_13 : decode cX2_sumOf 13 = .ok (.aload_n 0, 1) := by decide +kernel
theorem dX2_sumOf_14 : decode cX2_sumOf 14 = .ok (.getfield 11, 3) := by decide +kernel
theorem dX2_sumOf_17 : decode cX2_sumOf 17 = .ok (.iload_n 3, 1) := by decide +kernel
theorem dX2_sumOf_18 : decode cX2_sumOf 18 = .ok (.aaload, 1) := by decide +kernel
theorem dX2_sumOf_19 : decode cX2_sumOf 19 = .ok (.aload_n 1, 1) := by decide +kernel
theorem dX2_sumOf_20 : decode cX2_sumOf 20 = .ok (.iload_n 3, 1) := by decide +kernel
theorem dX2_sumOf_21 : decode cX2_sumOf 21 = .ok (.iaload, 1) := by decide +kernel
theorem dX2_sumOf_22 : decode cX2_sumOf 22 = .ok (.invokevirtual 123, 3) := by decide +kernel
theorem dX2_sumOf_25 : decode cX2_sumOf 25 = .ok (.iadd, 1) := by decide +kernel
theorem dX2_sumOf_26 : decode cX2_sumOf 26 = .ok (.istore_n 2, 1) := by decide +kernel
theorem dX2_sumOf_27 : decode cX2_sumOf 27 = .ok (.iinc 3 1, 3) := by decide +kernel
theorem dX2_sumOf_30 : decode cX2_sumOf 30 = .ok (.goto (-26), 3) := by decide +kernel
theorem dX2_sumOf_33 : decode cX2_sumOf 33 = .ok (.iload_n 2, 1) := by decide +kernel
theorem dX2_sumOf_34 : decode cX2_sumOf 34 = .ok (.ireturn, 1) := by decide +kernel
def bk_X2_sumOf_0 (l : Launch) (g : Gm) (G : Nat → CT) (P : PT) : CT := (oPush (.int (0)) (oISt 2 (oPush (.int (0)) (oISt 3 (G 1)))))
def bk_X2_sumOf_1 (l : Launch) (g : Gm) (G : Nat → CT) (P : PT) : CT := (oILd 3 (oALd 0 (oGet [2] 4 (oCmp (fun x y => y ≤ x) (oILd 2 (oIRet P)) (oILd 2 (oALd 0 (oGet [2] 0 (oILd 3 (oRAL g 3 (oALd 1 (oILd 3 (oIAL g (oCallV l g [(4, d_X4_worthAt), (0, d_X4_worthAt), (1, d_X4_worthAt)] 2 (oBin (fun x y => x + y) (oISt 2 (oInc 3 (1) (oGo (G 1))))))))))))))))))
def bk_X2_sumOf (l : Launch) (g : Gm) (b : Nat) (G : Nat → CT) (P : PT) : CT := match b with
  | 0 => bk_X2_sumOf_0 l g G P
  | 1 => bk_X2_sumOf_1 l g G P
  | _ => fun _ _ _ _ _ => False
def pc_X2_sumOf (b : Nat) : Nat := match b with
  | 0 => 0
  | 1 => 4
  | _ => 0
set_option maxRecDepth 100000 in
theorem sb_X2_sumOf_0 {p : Program} {l : Launch} {e : Env} {s : State} {m : MethodId} {args : Array Value} {below : List Frame} {meth : Method} {c : Code} {g : Gm} {h0 : Hp} {P : PT} {mc ms : Nat} (X : Cx g p s m args meth c (Adom h0 s.heap.size) cX2_sumOf RX2 4) (hr : meth.sig.returnType = some .int) (hn : meth.name = "sumOf") : SX g p l e s m args below meth c d_X2_sumOf 4 mc ms h0 P (bk_X2_sumOf_0 l g (fun b => GX g p l e s m args below meth c d_X2_sumOf 4 mc ms h0 P (pc_X2_sumOf b)) P) 0 := (s_iconst X dX2_sumOf_0 rfl (s_istore_n X dX2_sumOf_1 rfl (by decide) (s_iconst X dX2_sumOf_2 rfl (s_istore_n X dX2_sumOf_3 rfl (by decide) Sd.rf))))
set_option maxRecDepth 100000 in
theorem sb_X2_sumOf_1 {p : Program} {l : Launch} {e : Env} {s : State} {m : MethodId} {args : Array Value} {below : List Frame} {meth : Method} {c : Code} {g : Gm} {h0 : Hp} {P : PT} {mc ms : Nat} (X : Cx g p s m args meth c (Adom h0 s.heap.size) cX2_sumOf RX2 4) (hr : meth.sig.returnType = some .int) (hn : meth.name = "sumOf") : SX g p l e s m args below meth c d_X2_sumOf 4 mc ms h0 P (bk_X2_sumOf_1 l g (fun b => GX g p l e s m args below meth c d_X2_sumOf 4 mc ms h0 P (pc_X2_sumOf b)) P) 4 := (s_iload_n X dX2_sumOf_4 rfl (s_aload_n X dX2_sumOf_5 rfl (s_get X dX2_sumOf_6 (mcn (⟨_, _, _, _, rfl, inU_X2, by decide, uw_87, rfl⟩) (mnl)) (s_icmp_ge X dX2_sumOf_9 (by decide) (s_iload_n X dX2_sumOf_33 rfl (s_iret X hr dX2_sumOf_34)) (s_iload_n X dX2_sumOf_12 rfl (s_aload_n X dX2_sumOf_13 rfl (s_get X dX2_sumOf_14 (mcn (⟨_, _, _, _, rfl, inU_X2, by decide, uw_79, rfl⟩) (mnl)) (s_iload_n X dX2_sumOf_17 rfl (s_aaload X (t := 3) (fun _ => rfl) rfl dX2_sumOf_18 (s_aload_n X dX2_sumOf_19 rfl (s_iload_n X dX2_sumOf_20 rfl (s_iaload X dX2_sumOf_21 (s_callV X dX2_sumOf_22 (mv (vok_U X (owner := RX4) (x := ⟨"VillageCuts$Plain", "worthAt", "(I)I"⟩) rfl rfl uw_470 uw_400 uw_399 uw_398 uw_9 ci_X4_worthAt (by decide +kernel) ⟨Nat.le_of_ble_eq_true rfl, Nat.le_of_ble_eq_true rfl⟩) (mv (vok_U X (owner := RX4) (x := ⟨"VillageCuts$Plain", "worthAt", "(I)I"⟩) rfl rfl uw_470 uw_400 uw_401 uw_398 uw_9 ci_X4_worthAt (by decide +kernel) ⟨Nat.le_of_ble_eq_true rfl, Nat.le_of_ble_eq_true rfl⟩) (mv (vok_U X (owner := RX4) (x := ⟨"VillageCuts$Plain", "worthAt", "(I)I"⟩) rfl rfl uw_470 uw_400 uw_402 uw_398 uw_9 ci_X4_worthAt (by decide +kernel) ⟨Nat.le_of_ble_eq_true rfl, Nat.le_of_ble_eq_true rfl⟩) (mv0)))) (s_iadd X dX2_sumOf_25 (s_istore_n X dX2_sumOf_26 rfl (by decide) (s_iinc X dX2_sumOf_27 rfl (by decide) (s_goto X dX2_sumOf_30 (by decide) Sd.rf)))))))))))))))))
set_option maxRecDepth 100000 in
theorem vc_X2_sumOf {l : Launch} {g : Gm} {a0 : Nat} {a1 : Nat} {h : Hp} {mc ms : Nat} {P : PT} (H : ∀ G : Nat → CT, (∀ (b : Nat) (h : Hp) (cb sb : Nat) (ls : LocS) (st : List Value), bk_X2_sumOf l g b G P h cb sb ls st → G b h cb sb ls st) → G 0 h mc ms [some (.ref a0), some (.ref a1), none, none] []) : Run l g d_X2_sumOf [.ref a0, .ref a1] h mc ms P :=
  Run.of (d := d_X2_sumOf) (by decide) (mcn rfl (mcn rfl (mnl))) (Nat.le_of_ble_eq_true rfl) (fun p e s m args below meth c X hr hn => H (fun b => GX g p l e s m args below meth c d_X2_sumOf 4 mc ms h P (pc_X2_sumOf b)) (fun b h1 cb sb ls st hb => match b, hb with
    | 0, hb => sb_X2_sumOf_0 (p := p) (e := e) (below := below) X hr hn h1 cb sb ls st hb
    | 1, hb => sb_X2_sumOf_1 (p := p) (e := e) (below := below) X hr hn h1 cb sb ls st hb
    | _ + 2, hb => hb.elim))
theorem dX2_underWay_0 : decode cX2_underWay 0 = .ok (.iconst 0, 1) := by decide +kernel
theorem dX2_underWay_1 : decode cX2_underWay 1 = .ok (.istore_n 2, 1) := by decide +kernel
theorem dX2_underWay_2 : decode cX2_underWay 2 = .ok (.iconst 0, 1) := by decide +kernel
theorem dX2_underWay_3 : decode cX2_underWay 3 = .ok (.istore_n 3, 1) := by decide +kernel
theorem dX2_underWay_4 : decode cX2_underWay 4 = .ok (.iload_n 3, 1) := by decide +kernel
theorem dX2_underWay_5 : decode cX2_underWay 5 = .ok (.bipush 8, 2) := by decide +kernel
theorem dX2_underWay_7 : decode cX2_underWay 7 = .ok (.if_icmp .ge 41, 3) := by decide +kernel
theorem dX2_underWay_10 : decode cX2_underWay 10 = .ok (.aload_n 0, 1) := by decide +kernel
theorem dX2_underWay_11 : decode cX2_underWay 11 = .ok (.getfield 19, 3) := by decide +kernel
theorem dX2_underWay_14 : decode cX2_underWay 14 = .ok (.iload_n 3, 1) := by decide +kernel
theorem dX2_underWay_15 : decode cX2_underWay 15 = .ok (.aaload, 1) := by decide +kernel
theorem dX2_underWay_16 : decode cX2_underWay 16 = .ok (.aload_n 1, 1) := by decide +kernel
theorem dX2_underWay_17 : decode cX2_underWay 17 = .ok (.invokevirtual 119, 3) := by decide +kernel
theorem dX2_underWay_20 : decode cX2_underWay 20 = .ok (.ifCond .eq 22, 3) := by decide +kernel
theorem dX2_underWay_23 : decode cX2_underWay 23 = .ok (.aload_n 0, 1) := by decide +kernel
theorem dX2_underWay_24 : decode cX2_underWay 24 = .ok (.getfield 19, 3) := by decide +kernel
theorem dX2_underWay_27 : decode cX2_underWay 27 = .ok (.iload_n 3, 1) := by decide +kernel
theorem dX2_underWay_28 : decode cX2_underWay 28 = .ok (.aaload, 1) := by decide +kernel
theorem dX2_underWay_29 : decode cX2_underWay 29 = .ok (.aload_n 1, 1) := by decide +kernel
theorem dX2_underWay_30 : decode cX2_underWay 30 = .ok (.invokevirtual 127, 3) := by decide +kernel
theorem dX2_underWay_33 : decode cX2_underWay 33 = .ok (.ifCond .ne 9, 3) := by decide +kernel
theorem dX2_underWay_36 : decode cX2_underWay 36 = .ok (.iload_n 2, 1) := by decide +kernel
theorem dX2_underWay_37 : decode cX2_underWay 37 = .ok (.iconst 1, 1) := by decide +kernel
theorem dX2_underWay_38 : decode cX2_underWay 38 = .ok (.iload_n 3, 1) := by decide +kernel
theorem dX2_underWay_39 : decode cX2_underWay 39 = .ok (.ishl, 1) := by decide +kernel
theorem dX2_underWay_40 : decode cX2_underWay 40 = .ok (.ior, 1) := by decide +kernel
theorem dX2_underWay_41 : decode cX2_underWay 41 = .ok (.istore_n 2, 1) := by decide +kernel
theorem dX2_underWay_42 : decode cX2_underWay 42 = .ok (.iinc 3 1, 3) := by decide +kernel
theorem dX2_underWay_45 : decode cX2_underWay 45 = .ok (.goto (-41), 3) := by decide +kernel
theorem dX2_underWay_48 : decode cX2_underWay 48 = .ok (.iload_n 2, 1) := by decide +kernel
theorem dX2_underWay_49 : decode cX2_underWay 49 = .ok (.ireturn, 1) := by decide +kernel
def bk_X2_underWay_0 (l : Launch) (g : Gm) (G : Nat → CT) (P : PT) : CT := (oPush (.int (0)) (oISt 2 (oPush (.int (0)) (oISt 3 (G 1)))))
def bk_X2_underWay_1 (l : Launch) (g : Gm) (G : Nat → CT) (P : PT) : CT := (oILd 3 (oPush (.int (8)) (oCmp (fun x y => y ≤ x) (oILd 2 (oIRet P)) (oALd 0 (oGet [2] 1 (oILd 3 (oRAL g 4 (oALd 1 (oCallV l g [(3, d_X3_isSentIn)] 2 (oIf (fun x => x = 0) (oInc 3 (1) (oGo (G 1))) (oALd 0 (oGet [2] 1 (oILd 3 (oRAL g 4 (oALd 1 (oCallV l g [(3, d_X3_isGotIn)] 2 (oIf (fun x => x = 0) (oILd 2 (oPush (.int (1)) (oILd 3 (oBin (fun x y => x <<< (y &&& 31)) (oBin (fun x y => x ||| y) (oISt 2 (oInc 3 (1) (oGo (G 1))))))))) (oInc 3 (1) (oGo (G 1))))))))))))))))))))
def bk_X2_underWay (l : Launch) (g : Gm) (b : Nat) (G : Nat → CT) (P : PT) : CT := match b with
  | 0 => bk_X2_underWay_0 l g G P
  | 1 => bk_X2_underWay_1 l g G P
  | _ => fun _ _ _ _ _ => False
def pc_X2_underWay (b : Nat) : Nat := match b with
  | 0 => 0
  | 1 => 4
  | _ => 0
set_option maxRecDepth 100000 in
theorem sb_X2_underWay_0 {p : Program} {l : Launch} {e : Env} {s : State} {m : MethodId} {args : Array Value} {below : List Frame} {meth : Method} {c : Code} {g : Gm} {h0 : Hp} {P : PT} {mc ms : Nat} (X : Cx g p s m args meth c (Adom h0 s.heap.size) cX2_underWay RX2 4) (hr : meth.sig.returnType = some .int) (hn : meth.name = "underWay") : SX g p l e s m args below meth c d_X2_underWay 4 mc ms h0 P (bk_X2_underWay_0 l g (fun b => GX g p l e s m args below meth c d_X2_underWay 4 mc ms h0 P (pc_X2_underWay b)) P) 0 := (s_iconst X dX2_underWay_0 rfl (s_istore_n X dX2_underWay_1 rfl (by decide) (s_iconst X dX2_underWay_2 rfl (s_istore_n X dX2_underWay_3 rfl (by decide) Sd.rf))))
set_option maxRecDepth 100000 in
theorem sb_X2_underWay_1 {p : Program} {l : Launch} {e : Env} {s : State} {m : MethodId} {args : Array Value} {below : List Frame} {meth : Method} {c : Code} {g : Gm} {h0 : Hp} {P : PT} {mc ms : Nat} (X : Cx g p s m args meth c (Adom h0 s.heap.size) cX2_underWay RX2 4) (hr : meth.sig.returnType = some .int) (hn : meth.name = "underWay") : SX g p l e s m args below meth c d_X2_underWay 4 mc ms h0 P (bk_X2_underWay_1 l g (fun b => GX g p l e s m args below meth c d_X2_underWay 4 mc ms h0 P (pc_X2_underWay b)) P) 4 := (s_iload_n X dX2_underWay_4 rfl (s_bipush X dX2_underWay_5 rfl (s_icmp_ge X dX2_underWay_7 (by decide) (s_iload_n X dX2_underWay_48 rfl (s_iret X hr dX2_underWay_49)) (s_aload_n X dX2_underWay_10 rfl (s_get X dX2_underWay_11 (mcn (⟨_, _, _, _, rfl, inU_X2, by decide, uw_82, rfl⟩) (mnl)) (s_iload_n X dX2_underWay_14 rfl (s_aaload X (t := 4) (fun _ => rfl) rfl dX2_underWay_15 (s_aload_n X dX2_underWay_16 rfl (s_callV X dX2_underWay_17 (mv (vok_V X rfl uw_361 uw_362 uw_363 uw_4 ci_X3_isSentIn yok_X3_isSentIn ⟨Nat.le_of_ble_eq_true rfl, Nat.le_of_ble_eq_true rfl⟩) mv0) (s_if_eq X dX2_underWay_20 (by decide) (s_iinc X dX2_underWay_42 rfl (by decide) (s_goto X dX2_underWay_45 (by decide) Sd.rf)) (s_aload_n X dX2_underWay_23 rfl (s_get X dX2_underWay_24 (mcn (⟨_, _, _, _, rfl, inU_X2, by decide, uw_82, rfl⟩) (mnl)) (s_iload_n X dX2_underWay_27 rfl (s_aaload X (t := 4) (fun _ => rfl) rfl dX2_underWay_28 (s_aload_n X dX2_underWay_29 rfl (s_callV X dX2_underWay_30 (mv (vok_V X rfl uw_475 uw_476 uw_477 uw_4 ci_X3_isGotIn yok_X3_isGotIn ⟨Nat.le_of_ble_eq_true rfl, Nat.le_of_ble_eq_true rfl⟩) mv0) (s_if_ne X dX2_underWay_33 (by decide) (s_iinc X dX2_underWay_42 rfl (by decide) (s_goto X dX2_underWay_45 (by decide) Sd.rf)) (s_iload_n X dX2_underWay_36 rfl (s_iconst X dX2_underWay_37 rfl (s_iload_n X dX2_underWay_38 rfl (s_ishl X dX2_underWay_39 (s_ior X dX2_underWay_40 (s_istore_n X dX2_underWay_41 rfl (by decide) (s_iinc X dX2_underWay_42 rfl (by decide) (s_goto X dX2_underWay_45 (by decide) Sd.rf)))))))))))))))))))))))))
set_option maxRecDepth 100000 in
theorem vc_X2_underWay {l : Launch} {g : Gm} {a0 : Nat} {a1 : Nat} {h : Hp} {mc ms : Nat} {P : PT} (H : ∀ G : Nat → CT, (∀ (b : Nat) (h : Hp) (cb sb : Nat) (ls : LocS) (st : List Value), bk_X2_underWay l g b G P h cb sb ls st → G b h cb sb ls st) → G 0 h mc ms [some (.ref a0), some (.ref a1), none, none] []) : Run l g d_X2_underWay [.ref a0, .ref a1] h mc ms P :=
  Run.of (d := d_X2_underWay) (by decide) (mcn rfl (mcn rfl (mnl))) (Nat.le_of_ble_eq_true rfl) (fun p e s m args below meth c X hr hn => H (fun b => GX g p l e s m args below meth c d_X2_underWay 4 mc ms h P (pc_X2_underWay b)) (fun b h1 cb sb ls st hb => match b, hb with
    | 0, hb => sb_X2_underWay_0 (p := p) (e := e) (below := below) X hr hn h1 cb sb ls st hb
    | 1, hb => sb_X2_underWay_1 (p := p) (e := e) (below := below) X hr hn h1 cb sb ls st hb
    | _ + 2, hb => hb.elim))
theorem dX2_thingsIn_0 : decode cX2_thingsIn 0 = .ok (.iconst 0, 1) := by decide +kernel
theorem dX2_thingsIn_1 : decode cX2_thingsIn 1 = .ok (.istore_n 2, 1) := by decide +kernel
theorem dX2_thingsIn_2 : decode cX2_thingsIn 2 = .ok (.iconst 0, 1) := by decide +kernel
theorem dX2_thingsIn_3 : decode cX2_thingsIn 3 = .ok (.istore_n 3, 1) := by decide +kernel
theorem dX2_thingsIn_4 : decode cX2_thingsIn 4 = .ok (.iload_n 3, 1) := by decide +kernel
theorem dX2_thingsIn_5 : decode cX2_thingsIn 5 = .ok (.aload_n 0, 1) := by decide +kernel
theorem dX2_thingsIn_6 : decode cX2_thingsIn 6 = .ok (.getfield 31, 3) := by decide +kernel
theorem dX2_thingsIn_9 : decode cX2_thingsIn 9 = .ok (.if_icmp .ge 15, 3) := by decide +kernel
theorem dX2_thingsIn_12 : decode cX2_thingsIn 12 = .ok (.iload_n 2, 1) := by decide +kernel
theorem dX2_thingsIn_13 : decode cX2_thingsIn 13 = .ok (.aload_n 1, 1) := by decide +kernel
theorem dX2_thingsIn_14 : decode cX2_thingsIn 14 = .ok (.iload_n 3, 1) := by decide +kernel
theorem dX2_thingsIn_15 : decode cX2_thingsIn 15 = .ok (.iaload, 1) := by decide +kernel
theorem dX2_thingsIn_16 : decode cX2_thingsIn 16 = .ok (.iadd, 1) := by decide +kernel
theorem dX2_thingsIn_17 : decode cX2_thingsIn 17 = .ok (.istore_n 2, 1) := by decide +kernel
theorem dX2_thingsIn_18 : decode cX2_thingsIn 18 = .ok (.iinc 3 1, 3) := by decide +kernel
theorem dX2_thingsIn_21 : decode cX2_thingsIn 21 = .ok (.goto (-17), 3) := by decide +kernel
theorem dX2_thingsIn_24 : decode cX2_thingsIn 24 = .ok (.iload_n 2, 1) := by decide +kernel
theorem dX2_thingsIn_25 : decode cX2_thingsIn 25 = .ok (.ireturn, 1) := by decide +kernel
def bk_X2_thingsIn_0 (l : Launch) (g : Gm) (G : Nat → CT) (P : PT) : CT := (oPush (.int (0)) (oISt 2 (oPush (.int (0)) (oISt 3 (G 1)))))
def bk_X2_thingsIn_1 (l : Launch) (g : Gm) (G : Nat → CT) (P : PT) : CT := (oILd 3 (oALd 0 (oGet [2] 4 (oCmp (fun x y => y ≤ x) (oILd 2 (oIRet P)) (oILd 2 (oALd 1 (oILd 3 (oIAL g (oBin (fun x y => x + y) (oISt 2 (oInc 3 (1) (oGo (G 1)))))))))))))
def bk_X2_thingsIn (l : Launch) (g : Gm) (b : Nat) (G : Nat → CT) (P : PT) : CT := match b with
  | 0 => bk_X2_thingsIn_0 l g G P
  | 1 => bk_X2_thingsIn_1 l g G P
  | _ => fun _ _ _ _ _ => False
def pc_X2_thingsIn (b : Nat) : Nat := match b with
  | 0 => 0
  | 1 => 4
  | _ => 0
set_option maxRecDepth 100000 in
theorem sb_X2_thingsIn_0 {p : Program} {l : Launch} {e : Env} {s : State} {m : MethodId} {args : Array Value} {below : List Frame} {meth : Method} {c : Code} {g : Gm} {h0 : Hp} {P : PT} {mc ms : Nat} (X : Cx g p s m args meth c (Adom h0 s.heap.size) cX2_thingsIn RX2 4) (hr : meth.sig.returnType = some .int) (hn : meth.name = "thingsIn") : SX g p l e s m args below meth c d_X2_thingsIn 4 mc ms h0 P (bk_X2_thingsIn_0 l g (fun b => GX g p l e s m args below meth c d_X2_thingsIn 4 mc ms h0 P (pc_X2_thingsIn b)) P) 0 := (s_iconst X dX2_thingsIn_0 rfl (s_istore_n X dX2_thingsIn_1 rfl (by decide) (s_iconst X dX2_thingsIn_2 rfl (s_istore_n X dX2_thingsIn_3 rfl (by decide) Sd.rf))))
set_option maxRecDepth 100000 in
theorem sb_X2_thingsIn_1 {p : Program} {l : Launch} {e : Env} {s : State} {m : MethodId} {args : Array Value} {below : List Frame} {meth : Method} {c : Code} {g : Gm} {h0 : Hp} {P : PT} {mc ms : Nat} (X : Cx g p s m args meth c (Adom h0 s.heap.size) cX2_thingsIn RX2 4) (hr : meth.sig.returnType = some .int) (hn : meth.name = "thingsIn") : SX g p l e s m args below meth c d_X2_thingsIn 4 mc ms h0 P (bk_X2_thingsIn_1 l g (fun b => GX g p l e s m args below meth c d_X2_thingsIn 4 mc ms h0 P (pc_X2_thingsIn b)) P) 4 := (s_iload_n X dX2_thingsIn_4 rfl (s_aload_n X dX2_thingsIn_5 rfl (s_get X dX2_thingsIn_6 (mcn (⟨_, _, _, _, rfl, inU_X2, by decide, uw_87, rfl⟩) (mnl)) (s_icmp_ge X dX2_thingsIn_9 (by decide) (s_iload_n X dX2_thingsIn_24 rfl (s_iret X hr dX2_thingsIn_25)) (s_iload_n X dX2_thingsIn_12 rfl (s_aload_n X dX2_thingsIn_13 rfl (s_iload_n X dX2_thingsIn_14 rfl (s_iaload X dX2_thingsIn_15 (s_iadd X dX2_thingsIn_16 (s_istore_n X dX2_thingsIn_17 rfl (by decide) (s_iinc X dX2_thingsIn_18 rfl (by decide) (s_goto X dX2_thingsIn_21 (by decide) Sd.rf))))))))))))
set_option maxRecDepth 100000 in
theorem vc_X2_thingsIn {l : Launch} {g : Gm} {a0 : Nat} {a1 : Nat} {h : Hp} {mc ms : Nat} {P : PT} (H : ∀ G : Nat → CT, (∀ (b : Nat) (h : Hp) (cb sb : Nat) (ls : LocS) (st : List Value), bk_X2_thingsIn l g b G P h cb sb ls st → G b h cb sb ls st) → G 0 h mc ms [some (.ref a0), some (.ref a1), none, none] []) : Run l g d_X2_thingsIn [.ref a0, .ref a1] h mc ms P :=
  Run.of (d := d_X2_thingsIn) (by decide) (mcn rfl (mcn rfl (mnl))) (Nat.le_of_ble_eq_true rfl) (fun p e s m args below meth c X hr hn => H (fun b => GX g p l e s m args below meth c d_X2_thingsIn 4 mc ms h P (pc_X2_thingsIn b)) (fun b h1 cb sb ls st hb => match b, hb with
    | 0, hb => sb_X2_thingsIn_0 (p := p) (e := e) (below := below) X hr hn h1 cb sb ls st hb
    | 1, hb => sb_X2_thingsIn_1 (p := p) (e := e) (below := below) X hr hn h1 cb sb ls st hb
    | _ + 2, hb => hb.elim))
theorem dX2_lettersSent_0 : decode cX2_lettersSent 0 = .ok (.iconst 0, 1) := by decide +kernel
theorem dX2_lettersSent_1 : decode cX2_lettersSent 1 = .ok (.istore_n 1, 1) := by decide +kernel
theorem dX2_lettersSent_2 : decode cX2_lettersSent 2 = .ok (.iconst 0, 1) := by decide +kernel
theorem dX2_lettersSent_3 : decode cX2_lettersSent 3 = .ok (.istore_n 2, 1) := by decide +kernel
theorem dX2_lettersSent_4 : decode cX2_lettersSent 4 = .ok (.iload_n 2, 1) := by decide +kernel
theorem dX2_lettersSent_5 : decode cX2_lettersSent 5 = .ok (.bipush 8, 2) := by decide +kernel
theorem dX2_lettersSent_7 : decode cX2_lettersSent 7 = .ok (.if_icmp .ge 24, 3) := by decide +kernel
theorem dX2_lettersSent_10 : decode cX2_lettersSent 10 = .ok (.aload_n 0, 1) := by decide +kernel
theorem dX2_lettersSent_11 : decode cX2_lettersSent 11 = .ok (.getfield 19, 3) := by decide +kernel
theorem dX2_lettersSent_14 : decode cX2_lettersSent 14 = .ok (.iload_n 2, 1) := by decide +kernel
theorem dX2_lettersSent_15 : decode cX2_lettersSent 15 = .ok (.aaload, 1) := by decide +kernel
theorem dX2_lettersSent_16 : decode cX2_lettersSent 16 = .ok (.getfield 60, 3) := by decide +kernel
theorem dX2_lettersSent_19 : decode cX2_lettersSent 19 = .ok (.ifCond .le 6, 3) := by decide +kernel
theorem dX2_lettersSent_22 : decode cX2_lettersSent 22 = .ok (.iinc 1 1, 3) := by decide +kernel
theorem dX2_lettersSent_25 : decode cX2_lettersSent 25 = .ok (.iinc 2 1, 3) := by decide +kernel
theorem dX2_lettersSent_28 : decode cX2_lettersSent 28 = .ok (.goto (-24), 3) := by decide +kernel
theorem dX2_lettersSent_31 : decode cX2_lettersSent 31 = .ok (.iload_n 1, 1) := by decide +kernel
theorem dX2_lettersSent_32 : decode cX2_lettersSent 32 = .ok (.ireturn, 1) := by decide +kernel
def bk_X2_lettersSent_0 (l : Launch) (g : Gm) (G : Nat → CT) (P : PT) : CT := (oPush (.int (0)) (oISt 1 (oPush (.int (0)) (oISt 2 (G 1)))))
def bk_X2_lettersSent_1 (l : Launch) (g : Gm) (G : Nat → CT) (P : PT) : CT := (oILd 2 (oPush (.int (8)) (oCmp (fun x y => y ≤ x) (oILd 1 (oIRet P)) (oALd 0 (oGet [2] 1 (oILd 2 (oRAL g 4 (oGet [3] 0 (oIf (fun x => x ≤ 0) (oInc 2 (1) (oGo (G 1))) (oInc 1 (1) (oInc 2 (1) (oGo (G 1)))))))))))))
def bk_X2_lettersSent (l : Launch) (g : Gm) (b : Nat) (G : Nat → CT) (P : PT) : CT := match b with
  | 0 => bk_X2_lettersSent_0 l g G P
  | 1 => bk_X2_lettersSent_1 l g G P
  | _ => fun _ _ _ _ _ => False
def pc_X2_lettersSent (b : Nat) : Nat := match b with
  | 0 => 0
  | 1 => 4
  | _ => 0
set_option maxRecDepth 100000 in
theorem sb_X2_lettersSent_0 {p : Program} {l : Launch} {e : Env} {s : State} {m : MethodId} {args : Array Value} {below : List Frame} {meth : Method} {c : Code} {g : Gm} {h0 : Hp} {P : PT} {mc ms : Nat} (X : Cx g p s m args meth c (Adom h0 s.heap.size) cX2_lettersSent RX2 3) (hr : meth.sig.returnType = some .int) (hn : meth.name = "lettersSent") : SX g p l e s m args below meth c d_X2_lettersSent 3 mc ms h0 P (bk_X2_lettersSent_0 l g (fun b => GX g p l e s m args below meth c d_X2_lettersSent 3 mc ms h0 P (pc_X2_lettersSent b)) P) 0 := (s_iconst X dX2_lettersSent_0 rfl (s_istore_n X dX2_lettersSent_1 rfl (by decide) (s_iconst X dX2_lettersSent_2 rfl (s_istore_n X dX2_lettersSent_3 rfl (by decide) Sd.rf))))
set_option maxRecDepth 100000 in
theorem sb_X2_lettersSent_1 {p : Program} {l : Launch} {e : Env} {s : State} {m : MethodId} {args : Array Value} {below : List Frame} {meth : Method} {c : Code} {g : Gm} {h0 : Hp} {P : PT} {mc ms : Nat} (X : Cx g p s m args meth c (Adom h0 s.heap.size) cX2_lettersSent RX2 3) (hr : meth.sig.returnType = some .int) (hn : meth.name = "lettersSent") : SX g p l e s m args below meth c d_X2_lettersSent 3 mc ms h0 P (bk_X2_lettersSent_1 l g (fun b => GX g p l e s m args below meth c d_X2_lettersSent 3 mc ms h0 P (pc_X2_lettersSent b)) P) 4 := (s_iload_n X dX2_lettersSent_4 rfl (s_bipush X dX2_lettersSent_5 rfl (s_icmp_ge X dX2_lettersSent_7 (by decide) (s_iload_n X dX2_lettersSent_31 rfl (s_iret X hr dX2_lettersSent_32)) (s_aload_n X dX2_lettersSent_10 rfl (s_get X dX2_lettersSent_11 (mcn (⟨_, _, _, _, rfl, inU_X2, by decide, uw_82, rfl⟩) (mnl)) (s_iload_n X dX2_lettersSent_14 rfl (s_aaload X (t := 4) (fun _ => rfl) rfl dX2_lettersSent_15 (s_get X dX2_lettersSent_16 (mcn (⟨_, _, _, _, rfl, inU_X3, by decide, uw_54, rfl⟩) (mnl)) (s_if_le X dX2_lettersSent_19 (by decide) (s_iinc X dX2_lettersSent_25 rfl (by decide) (s_goto X dX2_lettersSent_28 (by decide) Sd.rf)) (s_iinc X dX2_lettersSent_22 rfl (by decide) (s_iinc X dX2_lettersSent_25 rfl (by decide) (s_goto X dX2_lettersSent_28 (by decide) Sd.rf))))))))))))
set_option maxRecDepth 100000 in
theorem vc_X2_lettersSent {l : Launch} {g : Gm} {a0 : Nat} {h : Hp} {mc ms : Nat} {P : PT} (H : ∀ G : Nat → CT, (∀ (b : Nat) (h : Hp) (cb sb : Nat) (ls : LocS) (st : List Value), bk_X2_lettersSent l g b G P h cb sb ls st → G b h cb sb ls st) → G 0 h mc ms [some (.ref a0), none, none] []) : Run l g d_X2_lettersSent [.ref a0] h mc ms P :=
  Run.of (d := d_X2_lettersSent) (by decide) (mcn rfl (mnl)) (Nat.le_of_ble_eq_true rfl) (fun p e s m args below meth c X hr hn => H (fun b => GX g p l e s m args below meth c d_X2_lettersSent 3 mc ms h P (pc_X2_lettersSent b)) (fun b h1 cb sb ls st hb => match b, hb with
    | 0, hb => sb_X2_lettersSent_0 (p := p) (e := e) (below := below) X hr hn h1 cb sb ls st hb
    | 1, hb => sb_X2_lettersSent_1 (p := p) (e := e) (below := below) X hr hn h1 cb sb ls st hb
    | _ + 2, hb => hb.elim))
