theorem dX3_init_0 : decode cX3_init 0 = .ok (.aload_n 0, 1) := by decide +kernel
theorem dX3_init_1 : decode cX3_init 1 = .ok (.invokespecial 1, 3) := by decide +kernel
theorem dX3_init_4 : decode cX3_init 4 = .ok (.return_, 1) := by decide +kernel
def bk_X3_init_0 (l : Launch) (g : Gm) (G : Nat → CT) (P : PT) : CT := (oALd 0 (oObj1 (oVRet P)))
def bk_X3_init (l : Launch) (g : Gm) (b : Nat) (G : Nat → CT) (P : PT) : CT := match b with
  | 0 => bk_X3_init_0 l g G P
  | _ => fun _ _ _ _ _ => False
def pc_X3_init (b : Nat) : Nat := match b with
  | 0 => 0
  | _ => 0
set_option maxRecDepth 100000 in
theorem sb_X3_init_0 {p : Program} {l : Launch} {e : Env} {s : State} {m : MethodId} {args : Array Value} {below : List Frame} {meth : Method} {c : Code} {g : Gm} {h0 : Hp} {P : PT} {mc ms : Nat} (X : Cx g p s m args meth c (Adom h0 s.heap.size) cX3_init RX3 1) (hr : meth.sig.returnType = none) (hn : meth.name = "<init>") : SX g p l e s m args below meth c d_X3_init 1 mc ms h0 P (bk_X3_init_0 l g (fun b => GX g p l e s m args below meth c d_X3_init 1 mc ms h0 P (pc_X3_init b)) P) 0 := (s_aload_n X dX3_init_0 rfl (s_obj1 X uw_52 uw_21 uw_22 (Nat.le_of_ble_eq_true rfl) (Nat.le_of_ble_eq_true rfl) dX3_init_1 (s_vret X hr dX3_init_4)))
set_option maxRecDepth 100000 in
theorem vc_X3_init {l : Launch} {g : Gm} {a0 : Nat} {h : Hp} {mc ms : Nat} {P : PT} (H : ∀ G : Nat → CT, (∀ (b : Nat) (h : Hp) (cb sb : Nat) (ls : LocS) (st : List Value), bk_X3_init l g b G P h cb sb ls st → G b h cb sb ls st) → G 0 h mc ms [some (.ref a0)] []) : Run l g d_X3_init [.ref a0] h mc ms P :=
  Run.of (d := d_X3_init) (by decide) (mcn rfl (mnl)) (Nat.le_of_ble_eq_true rfl) (fun p e s m args below meth c X hr hn => H (fun b => GX g p l e s m args below meth c d_X3_init 1 mc ms h P (pc_X3_init b)) (fun b h1 cb sb ls st hb => match b, hb with
    | 0, hb => sb_X3_init_0 (p := p) (e := e) (below := below) X hr hn h1 cb sb ls st hb
    | _ + 1, hb => hb.elim))
theorem dX3_isAmiss_0 : decode cX3_isAmiss 0 = .ok (.aload_n 0, 1) := by decide +kernel
theorem dX3_isAmiss_1 : decode cX3_isAmiss 1 = .ok (.getfield 7, 3) := by decide +kernel
theorem dX3_isAmiss_4 : decode cX3_isAmiss 4 = .ok (.iconst 1, 1) := by decide +kernel
theorem dX3_isAmiss_5 : decode cX3_isAmiss 5 = .ok (.if_icmp .gt 37, 3) := by decide +kernel
theorem dX3_isAmiss_8 : decode cX3_isAmiss 8 = .ok (.aload_n 0, 1) := by decide +kernel
theorem dX3_isAmiss_9 : decode cX3_isAmiss 9 = .ok (.getfield 13, 3) := by decide +kernel
theorem dX3_isAmiss_12 : decode cX3_isAmiss 12 = .ok (.iconst 1, 1) := by decide +kernel
theorem dX3_isAmiss_13 : decode cX3_isAmiss 13 = .ok (.if_icmp .gt 29, 3) := by decide +kernel
theorem dX3_isAmiss_16 : decode cX3_isAmiss 16 = .ok (.aload_n 0, 1) := by decide +kernel
theorem dX3_isAmiss_17 : decode cX3_isAmiss 17 = .ok (.getfield 13, 3) := by decide +kernel
theorem dX3_isAmiss_20 : decode cX3_isAmiss 20 = .ok (.iconst 1, 1) := by decide +kernel
theorem dX3_isAmiss_21 : decode cX3_isAmiss 21 = .ok (.if_icmp .ne 25, 3) := by decide +kernel
theorem dX3_isAmiss_24 : decode cX3_isAmiss 24 = .ok (.aload_n 0, 1) := by decide +kernel
theorem dX3_isAmiss_25 : decode cX3_isAmiss 25 = .ok (.getfield 7, 3) := by decide +kernel
theorem dX3_isAmiss_28 : decode cX3_isAmiss 28 = .ok (.ifCond .eq 14, 3) := by decide +kernel
theorem dX3_isAmiss_31 : decode cX3_isAmiss 31 = .ok (.aload_n 0, 1) := by decide +kernel
theorem dX3_isAmiss_32 : decode cX3_isAmiss 32 = .ok (.getfield 16, 3) := by decide +kernel
theorem dX3_isAmiss_35 : decode cX3_isAmiss 35 = .ok (.aload_n 0, 1) := by decide +kernel
theorem dX3_isAmiss_36 : decode cX3_isAmiss 36 = .ok (.getfield 19, 3) := by decide +kernel
theorem dX3_isAmiss_39 : decode cX3_isAmiss 39 = .ok (.if_icmp .ne 7, 3) := by decide +kernel
theorem dX3_isAmiss_42 : decode cX3_isAmiss 42 = .ok (.iconst 1, 1) := by decide +kernel
theorem dX3_isAmiss_43 : decode cX3_isAmiss 43 = .ok (.goto 4, 3) := by decide +kernel
theorem dX3_isAmiss_46 : decode cX3_isAmiss 46 = .ok (.iconst 0, 1) := by decide +kernel
theorem dX3_isAmiss_47 : decode cX3_isAmiss 47 = .ok (.ireturn, 1) := by decide +kernel
def bk_X3_isAmiss_0 (l : Launch) (g : Gm) (G : Nat → CT) (P : PT) : CT := (oALd 0 (oGet [3] 0 (oPush (.int (1)) (oCmp (fun x y => y < x) (oPush (.int (1)) (oGo (oZRet P))) (oALd 0 (oGet [3] 3 (oPush (.int (1)) (oCmp (fun x y => y < x) (oPush (.int (1)) (oGo (oZRet P))) (oALd 0 (oGet [3] 3 (oPush (.int (1)) (oCmp (fun x y => x = y) (oALd 0 (oGet [3] 0 (oIf (fun x => x = 0) (oPush (.int (1)) (oGo (oZRet P))) (oALd 0 (oGet [3] 1 (oALd 0 (oGet [3] 4 (oCmp (fun x y => x = y) (oPush (.int (1)) (oGo (oZRet P))) (oPush (.int (0)) (oZRet P)))))))))) (oPush (.int (0)) (oZRet P))))))))))))))
def bk_X3_isAmiss (l : Launch) (g : Gm) (b : Nat) (G : Nat → CT) (P : PT) : CT := match b with
  | 0 => bk_X3_isAmiss_0 l g G P
  | _ => fun _ _ _ _ _ => False
def pc_X3_isAmiss (b : Nat) : Nat := match b with
  | 0 => 0
  | _ => 0
set_option maxRecDepth 100000 in
theorem sb_X3_isAmiss_0 {p : Program} {l : Launch} {e : Env} {s : State} {m : MethodId} {args : Array Value} {below : List Frame} {meth : Method} {c : Code} {g : Gm} {h0 : Hp} {P : PT} {mc ms : Nat} (X : Cx g p s m args meth c (Adom h0 s.heap.size) cX3_isAmiss RX3 1) (hr : meth.sig.returnType = some .boolean) (hn : meth.name = "isAmiss") : SX g p l e s m args below meth c d_X3_isAmiss 1 mc ms h0 P (bk_X3_isAmiss_0 l g (fun b => GX g p l e s m args below meth c d_X3_isAmiss 1 mc ms h0 P (pc_X3_isAmiss b)) P) 0 := (s_aload_n X dX3_isAmiss_0 rfl (s_get X dX3_isAmiss_1 (mcn (⟨_, _, _, _, rfl, inU_X3, by decide, uw_53, rfl⟩) (mnl)) (s_iconst X dX3_isAmiss_4 rfl (s_icmp_gt X dX3_isAmiss_5 (by decide) (s_iconst X dX3_isAmiss_42 rfl (s_goto X dX3_isAmiss_43 (by decide) (s_zret X hr dX3_isAmiss_47))) (s_aload_n X dX3_isAmiss_8 rfl (s_get X dX3_isAmiss_9 (mcn (⟨_, _, _, _, rfl, inU_X3, by decide, uw_59, rfl⟩) (mnl)) (s_iconst X dX3_isAmiss_12 rfl (s_icmp_gt X dX3_isAmiss_13 (by decide) (s_iconst X dX3_isAmiss_42 rfl (s_goto X dX3_isAmiss_43 (by decide) (s_zret X hr dX3_isAmiss_47))) (s_aload_n X dX3_isAmiss_16 rfl (s_get X dX3_isAmiss_17 (mcn (⟨_, _, _, _, rfl, inU_X3, by decide, uw_59, rfl⟩) (mnl)) (s_iconst X dX3_isAmiss_20 rfl (s_icmp_ne X dX3_isAmiss_21 (by decide) (s_iconst X dX3_isAmiss_46 rfl (s_zret X hr dX3_isAmiss_47)) (s_aload_n X dX3_isAmiss_24 rfl (s_get X dX3_isAmiss_25 (mcn (⟨_, _, _, _, rfl, inU_X3, by decide, uw_53, rfl⟩) (mnl)) (s_if_eq X dX3_isAmiss_28 (by decide) (s_iconst X dX3_isAmiss_42 rfl (s_goto X dX3_isAmiss_43 (by decide) (s_zret X hr dX3_isAmiss_47))) (s_aload_n X dX3_isAmiss_31 rfl (s_get X dX3_isAmiss_32 (mcn (⟨_, _, _, _, rfl, inU_X3, by decide, uw_55, rfl⟩) (mnl)) (s_aload_n X dX3_isAmiss_35 rfl (s_get X dX3_isAmiss_36 (mcn (⟨_, _, _, _, rfl, inU_X3, by decide, uw_61, rfl⟩) (mnl)) (s_icmp_ne X dX3_isAmiss_39 (by decide) (s_iconst X dX3_isAmiss_46 rfl (s_zret X hr dX3_isAmiss_47)) (s_iconst X dX3_isAmiss_42 rfl (s_goto X dX3_isAmiss_43 (by decide) (s_zret X hr dX3_isAmiss_47)))))))))))))))))))))))
set_option maxRecDepth 100000 in
theorem vc_X3_isAmiss {l : Launch} {g : Gm} {a0 : Nat} {h : Hp} {mc ms : Nat} {P : PT} (H : ∀ G : Nat → CT, (∀ (b : Nat) (h : Hp) (cb sb : Nat) (ls : LocS) (st : List Value), bk_X3_isAmiss l g b G P h cb sb ls st → G b h cb sb ls st) → G 0 h mc ms [some (.ref a0)] []) : Run l g d_X3_isAmiss [.ref a0] h mc ms P :=
  Run.of (d := d_X3_isAmiss) (by decide) (mcn rfl (mnl)) (Nat.le_of_ble_eq_true rfl) (fun p e s m args below meth c X hr hn => H (fun b => GX g p l e s m args below meth c d_X3_isAmiss 1 mc ms h P (pc_X3_isAmiss b)) (fun b h1 cb sb ls st hb => match b, hb with
    | 0, hb => sb_X3_isAmiss_0 (p := p) (e := e) (below := below) X hr hn h1 cb sb ls st hb
    | _ + 1, hb => hb.elim))
theorem dX3_isSentIn_0 : decode cX3_isSentIn 0 = .ok (.aload_n 0, 1) := by decide +kernel
theorem dX3_isSentIn_1 : decode cX3_isSentIn 1 = .ok (.getfield 7, 3) := by decide +kernel
theorem dX3_isSentIn_4 : decode cX3_isSentIn 4 = .ok (.ifCond .le 20, 3) := by decide +kernel
theorem dX3_isSentIn_7 : decode cX3_isSentIn 7 = .ok (.aload_n 1, 1) := by decide +kernel
theorem dX3_isSentIn_8 : decode cX3_isSentIn 8 = .ok (.aload_n 0, 1) := by decide +kernel
theorem dX3_isSentIn_9 : decode cX3_isSentIn 9 = .ok (.getfield 16, 3) := by decide +kernel
theorem dX3_isSentIn_12 : decode cX3_isSentIn 12 = .ok (.iaload, 1) := by decide +kernel
theorem dX3_isSentIn_13 : decode cX3_isSentIn 13 = .ok (.aload_n 0, 1) := by decide +kernel
theorem dX3_isSentIn_14 : decode cX3_isSentIn 14 = .ok (.getfield 22, 3) := by decide +kernel
theorem dX3_isSentIn_17 : decode cX3_isSentIn 17 = .ok (.if_icmp .le 7, 3) := by decide +kernel
theorem dX3_isSentIn_20 : decode cX3_isSentIn 20 = .ok (.iconst 1, 1) := by decide +kernel
theorem dX3_isSentIn_21 : decode cX3_isSentIn 21 = .ok (.goto 4, 3) := by decide +kernel
theorem dX3_isSentIn_24 : decode cX3_isSentIn 24 = .ok (.iconst 0, 1) := by decide +kernel
theorem dX3_isSentIn_25 : decode cX3_isSentIn 25 = .ok (.ireturn, 1) := by decide +kernel
def bk_X3_isSentIn_0 (l : Launch) (g : Gm) (G : Nat → CT) (P : PT) : CT := (oALd 0 (oGet [3] 0 (oIf (fun x => x ≤ 0) (oPush (.int (0)) (oZRet P)) (oALd 1 (oALd 0 (oGet [3] 1 (oIAL g (oALd 0 (oGet [3] 2 (oCmp (fun x y => x ≤ y) (oPush (.int (0)) (oZRet P)) (oPush (.int (1)) (oGo (oZRet P)))))))))))))
def bk_X3_isSentIn (l : Launch) (g : Gm) (b : Nat) (G : Nat → CT) (P : PT) : CT := match b with
  | 0 => bk_X3_isSentIn_0 l g G P
  | _ => fun _ _ _ _ _ => False
def pc_X3_isSentIn (b : Nat) : Nat := match b with
  | 0 => 0
  | _ => 0
set_option maxRecDepth 100000 in
theorem sb_X3_isSentIn_0 {p : Program} {l : Launch} {e : Env} {s : State} {m : MethodId} {args : Array Value} {below : List Frame} {meth : Method} {c : Code} {g : Gm} {h0 : Hp} {P : PT} {mc ms : Nat} (X : Cx g p s m args meth c (Adom h0 s.heap.size) cX3_isSentIn RX3 2) (hr : meth.sig.returnType = some .boolean) (hn : meth.name = "isSentIn") : SX g p l e s m args below meth c d_X3_isSentIn 2 mc ms h0 P (bk_X3_isSentIn_0 l g (fun b => GX g p l e s m args below meth c d_X3_isSentIn 2 mc ms h0 P (pc_X3_isSentIn b)) P) 0 := (s_aload_n X dX3_isSentIn_0 rfl (s_get X dX3_isSentIn_1 (mcn (⟨_, _, _, _, rfl, inU_X3, by decide, uw_53, rfl⟩) (mnl)) (s_if_le X dX3_isSentIn_4 (by decide) (s_iconst X dX3_isSentIn_24 rfl (s_zret X hr dX3_isSentIn_25)) (s_aload_n X dX3_isSentIn_7 rfl (s_aload_n X dX3_isSentIn_8 rfl (s_get X dX3_isSentIn_9 (mcn (⟨_, _, _, _, rfl, inU_X3, by decide, uw_55, rfl⟩) (mnl)) (s_iaload X dX3_isSentIn_12 (s_aload_n X dX3_isSentIn_13 rfl (s_get X dX3_isSentIn_14 (mcn (⟨_, _, _, _, rfl, inU_X3, by decide, uw_57, rfl⟩) (mnl)) (s_icmp_le X dX3_isSentIn_17 (by decide) (s_iconst X dX3_isSentIn_24 rfl (s_zret X hr dX3_isSentIn_25)) (s_iconst X dX3_isSentIn_20 rfl (s_goto X dX3_isSentIn_21 (by decide) (s_zret X hr dX3_isSentIn_25)))))))))))))
set_option maxRecDepth 100000 in
theorem vc_X3_isSentIn {l : Launch} {g : Gm} {a0 : Nat} {a1 : Nat} {h : Hp} {mc ms : Nat} {P : PT} (H : ∀ G : Nat → CT, (∀ (b : Nat) (h : Hp) (cb sb : Nat) (ls : LocS) (st : List Value), bk_X3_isSentIn l g b G P h cb sb ls st → G b h cb sb ls st) → G 0 h mc ms [some (.ref a0), some (.ref a1)] []) : Run l g d_X3_isSentIn [.ref a0, .ref a1] h mc ms P :=
  Run.of (d := d_X3_isSentIn) (by decide) (mcn rfl (mcn rfl (mnl))) (Nat.le_of_ble_eq_true rfl) (fun p e s m args below meth c X hr hn => H (fun b => GX g p l e s m args below meth c d_X3_isSentIn 2 mc ms h P (pc_X3_isSentIn b)) (fun b h1 cb sb ls st hb => match b, hb with
    | 0, hb => sb_X3_isSentIn_0 (p := p) (e := e) (below := below) X hr hn h1 cb sb ls st hb
    | _ + 1, hb => hb.elim))
theorem dX3_isGotIn_0 : decode cX3_isGotIn 0 = .ok (.aload_n 0, 1) := by decide +kernel
theorem dX3_isGotIn_1 : decode cX3_isGotIn 1 = .ok (.getfield 13, 3) := by decide +kernel
theorem dX3_isGotIn_4 : decode cX3_isGotIn 4 = .ok (.ifCond .le 20, 3) := by decide +kernel
theorem dX3_isGotIn_7 : decode cX3_isGotIn 7 = .ok (.aload_n 1, 1) := by decide +kernel
theorem dX3_isGotIn_8 : decode cX3_isGotIn 8 = .ok (.aload_n 0, 1) := by decide +kernel
theorem dX3_isGotIn_9 : decode cX3_isGotIn 9 = .ok (.getfield 19, 3) := by decide +kernel
theorem dX3_isGotIn_12 : decode cX3_isGotIn 12 = .ok (.iaload, 1) := by decide +kernel
theorem dX3_isGotIn_13 : decode cX3_isGotIn 13 = .ok (.aload_n 0, 1) := by decide +kernel
theorem dX3_isGotIn_14 : decode cX3_isGotIn 14 = .ok (.getfield 25, 3) := by decide +kernel
theorem dX3_isGotIn_17 : decode cX3_isGotIn 17 = .ok (.if_icmp .le 7, 3) := by decide +kernel
theorem dX3_isGotIn_20 : decode cX3_isGotIn 20 = .ok (.iconst 1, 1) := by decide +kernel
theorem dX3_isGotIn_21 : decode cX3_isGotIn 21 = .ok (.goto 4, 3) := by decide +kernel
theorem dX3_isGotIn_24 : decode cX3_isGotIn 24 = .ok (.iconst 0, 1) := by decide +kernel
theorem dX3_isGotIn_25 : decode cX3_isGotIn 25 = .ok (.ireturn, 1) := by decide +kernel
def bk_X3_isGotIn_0 (l : Launch) (g : Gm) (G : Nat → CT) (P : PT) : CT := (oALd 0 (oGet [3] 3 (oIf (fun x => x ≤ 0) (oPush (.int (0)) (oZRet P)) (oALd 1 (oALd 0 (oGet [3] 4 (oIAL g (oALd 0 (oGet [3] 5 (oCmp (fun x y => x ≤ y) (oPush (.int (0)) (oZRet P)) (oPush (.int (1)) (oGo (oZRet P)))))))))))))
def bk_X3_isGotIn (l : Launch) (g : Gm) (b : Nat) (G : Nat → CT) (P : PT) : CT := match b with
  | 0 => bk_X3_isGotIn_0 l g G P
  | _ => fun _ _ _ _ _ => False
def pc_X3_isGotIn (b : Nat) : Nat := match b with
  | 0 => 0
  | _ => 0
set_option maxRecDepth 100000 in
theorem sb_X3_isGotIn_0 {p : Program} {l : Launch} {e : Env} {s : State} {m : MethodId} {args : Array Value} {below : List Frame} {meth : Method} {c : Code} {g : Gm} {h0 : Hp} {P : PT} {mc ms : Nat} (X : Cx g p s m args meth c (Adom h0 s.heap.size) cX3_isGotIn RX3 2) (hr : meth.sig.returnType = some .boolean) (hn : meth.name = "isGotIn") : SX g p l e s m args below meth c d_X3_isGotIn 2 mc ms h0 P (bk_X3_isGotIn_0 l g (fun b => GX g p l e s m args below meth c d_X3_isGotIn 2 mc ms h0 P (pc_X3_isGotIn b)) P) 0 := (s_aload_n X dX3_isGotIn_0 rfl (s_get X dX3_isGotIn_1 (mcn (⟨_, _, _, _, rfl, inU_X3, by decide, uw_59, rfl⟩) (mnl)) (s_if_le X dX3_isGotIn_4 (by decide) (s_iconst X dX3_isGotIn_24 rfl (s_zret X hr dX3_isGotIn_25)) (s_aload_n X dX3_isGotIn_7 rfl (s_aload_n X dX3_isGotIn_8 rfl (s_get X dX3_isGotIn_9 (mcn (⟨_, _, _, _, rfl, inU_X3, by decide, uw_61, rfl⟩) (mnl)) (s_iaload X dX3_isGotIn_12 (s_aload_n X dX3_isGotIn_13 rfl (s_get X dX3_isGotIn_14 (mcn (⟨_, _, _, _, rfl, inU_X3, by decide, uw_63, rfl⟩) (mnl)) (s_icmp_le X dX3_isGotIn_17 (by decide) (s_iconst X dX3_isGotIn_24 rfl (s_zret X hr dX3_isGotIn_25)) (s_iconst X dX3_isGotIn_20 rfl (s_goto X dX3_isGotIn_21 (by decide) (s_zret X hr dX3_isGotIn_25)))))))))))))
set_option maxRecDepth 100000 in
theorem vc_X3_isGotIn {l : Launch} {g : Gm} {a0 : Nat} {a1 : Nat} {h : Hp} {mc ms : Nat} {P : PT} (H : ∀ G : Nat → CT, (∀ (b : Nat) (h : Hp) (cb sb : Nat) (ls : LocS) (st : List Value), bk_X3_isGotIn l g b G P h cb sb ls st → G b h cb sb ls st) → G 0 h mc ms [some (.ref a0), some (.ref a1)] []) : Run l g d_X3_isGotIn [.ref a0, .ref a1] h mc ms P :=
  Run.of (d := d_X3_isGotIn) (by decide) (mcn rfl (mcn rfl (mnl))) (Nat.le_of_ble_eq_true rfl) (fun p e s m args below meth c X hr hn => H (fun b => GX g p l e s m args below meth c d_X3_isGotIn 2 mc ms h P (pc_X3_isGotIn b)) (fun b h1 cb sb ls st hb => match b, hb with
    | 0, hb => sb_X3_isGotIn_0 (p := p) (e := e) (below := below) X hr hn h1 cb sb ls st hb
    | _ + 1, hb => hb.elim))
