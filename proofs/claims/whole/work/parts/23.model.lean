theorem dX10_init_0 : decode cX10_init 0 = .ok (.aload_n 0, 1) := by decide +kernel
theorem dX10_init_1 : decode cX10_init 1 = .ok (.invokespecial 1, 3) := by decide +kernel
theorem dX10_init_4 : decode cX10_init 4 = .ok (.aload_n 0, 1) := by decide +kernel
theorem dX10_init_5 : decode cX10_init 5 = .ok (.iconst 4, 1) := by decide +kernel
theorem dX10_init_6 : decode cX10_init 6 = .ok (.newarray .int, 2) := by decide +kernel
theorem dX10_init_8 : decode cX10_init 8 = .ok (.dup, 1) := by decide +kernel
theorem dX10_init_9 : decode cX10_init 9 = .ok (.iconst 0, 1) := by decide +kernel
theorem dX10_init_10 : decode cX10_init 10 = .ok (.bipush (-9), 2) := by decide +kernel
theorem dX10_init_12 : decode cX10_init 12 = .ok (.iastore, 1) := by decide +kernel
theorem dX10_init_13 : decode cX10_init 13 = .ok (.dup, 1) := by decide +kernel
theorem dX10_init_14 : decode cX10_init 14 = .ok (.iconst 1, 1) := by decide +kernel
theorem dX10_init_15 : decode cX10_init 15 = .ok (.bipush (-9), 2) := by decide +kernel
theorem dX10_init_17 : decode cX10_init 17 = .ok (.iastore, 1) := by decide +kernel
theorem dX10_init_18 : decode cX10_init 18 = .ok (.dup, 1) := by decide +kernel
theorem dX10_init_19 : decode cX10_init 19 = .ok (.iconst 2, 1) := by decide +kernel
theorem dX10_init_20 : decode cX10_init 20 = .ok (.bipush (-9), 2) := by decide +kernel
theorem dX10_init_22 : decode cX10_init 22 = .ok (.iastore, 1) := by decide +kernel
theorem dX10_init_23 : decode cX10_init 23 = .ok (.dup, 1) := by decide +kernel
theorem dX10_init_24 : decode cX10_init 24 = .ok (.iconst 3, 1) := by decide +kernel
theorem dX10_init_25 : decode cX10_init 25 = .ok (.bipush (-9), 2) := by decide +kernel
theorem dX10_init_27 : decode cX10_init 27 = .ok (.iastore, 1) := by decide +kernel
theorem dX10_init_28 : decode cX10_init 28 = .ok (.putfield 9, 3) := by decide +kernel
theorem dX10_init_31 : decode cX10_init 31 = .ok (.aload_n 0, 1) := by decide +kernel
theorem dX10_init_32 : decode cX10_init 32 = .ok (.iconst 4, 1) := by decide +kernel
theorem dX10_init_33 : decode cX10_init 33 = .ok (.newarray .int, 2) := by decide +kernel
theorem dX10_init_35 : decode cX10_init 35 = .ok (.putfield 13, 3) := by decide +kernel
theorem dX10_init_38 : decode cX10_init 38 = .ok (.aload_n 0, 1) := by decide +kernel
theorem dX10_init_39 : decode cX10_init 39 = .ok (.sipush 240, 3) := by decide +kernel
theorem dX10_init_42 : decode cX10_init 42 = .ok (.newarray .int, 2) := by decide +kernel
theorem dX10_init_44 : decode cX10_init 44 = .ok (.putfield 16, 3) := by decide +kernel
theorem dX10_init_47 : decode cX10_init 47 = .ok (.aload_n 0, 1) := by decide +kernel
theorem dX10_init_48 : decode cX10_init 48 = .ok (.iconst 4, 1) := by decide +kernel
theorem dX10_init_49 : decode cX10_init 49 = .ok (.newarray .int, 2) := by decide +kernel
theorem dX10_init_51 : decode cX10_init 51 = .ok (.putfield 19, 3) := by decide +kernel
theorem dX10_init_54 : decode cX10_init 54 = .ok (.aload_n 0, 1) := by decide +kernel
theorem dX10_init_55 : decode cX10_init 55 = .ok (.iconst 4, 1) := by decide +kernel
theorem dX10_init_56 : decode cX10_init 56 = .ok (.newarray .int, 2) := by decide +kernel
theorem dX10_init_58 : decode cX10_init 58 = .ok (.putfield 22, 3) := by decide +kernel
theorem dX10_init_61 : decode cX10_init 61 = .ok (.aload_n 0, 1) := by decide +kernel
theorem dX10_init_62 : decode cX10_init 62 = .ok (.bipush 20, 2) := by decide +kernel
theorem dX10_init_64 : decode cX10_init 64 = .ok (.newarray .int, 2) := by decide +kernel
theorem dX10_init_66 : decode cX10_init 66 = .ok (.putfield 25, 3) := by decide +kernel
theorem dX10_init_69 : decode cX10_init 69 = .ok (.aload_n 0, 1) := by decide +kernel
theorem dX10_init_70 : decode cX10_init 70 = .ok (.bipush 20, 2) := by decide +kernel
theorem dX10_init_72 : decode cX10_init 72 = .ok (.newarray .int, 2) := by decide +kernel
theorem dX10_init_74 : decode cX10_init 74 = .ok (.putfield 28, 3) := by decide +kernel
theorem dX10_init_77 : decode cX10_init 77 = .ok (.aload_n 0, 1) := by decide +kernel
theorem dX10_init_78 : decode cX10_init 78 = .ok (.bipush 80, 2) := by decide +kernel
theorem dX10_init_80 : decode cX10_init 80 = .ok (.newarray .int, 2) := by decide +kernel
theorem dX10_init_82 : decode cX10_init 82 = .ok (.putfield 31, 3) := by decide +kernel
theorem dX10_init_85 : decode cX10_init 85 = .ok (.aload_n 0, 1) := by decide +kernel
theorem dX10_init_86 : decode cX10_init 86 = .ok (.iconst 4, 1) := by decide +kernel
theorem dX10_init_87 : decode cX10_init 87 = .ok (.newarray .int, 2) := by decide +kernel
theorem dX10_init_89 : decode cX10_init 89 = .ok (.putfield 34, 3) := by decide +kernel
theorem dX10_init_92 : decode cX10_init 92 = .ok (.aload_n 0, 1) := by decide +kernel
theorem dX10_init_93 : decode cX10_init 93 = .ok (.iconst 4, 1) := by decide +kernel
theorem dX10_init_94 : decode cX10_init 94 = .ok (.newarray .int, 2) := by decide +kernel
theorem dX10_init_96 : decode cX10_init 96 = .ok (.putfield 37, 3) := by decide +kernel
theorem dX10_init_99 : decode cX10_init 99 = .ok (.aload_n 0, 1) := by decide +kernel
theorem dX10_init_100 : decode cX10_init 100 = .ok (.iconst 4, 1) := by decide +kernel
theorem dX10_init_101 : decode cX10_init 101 = .ok (.newarray .int, 2) := by decide +kernel
theorem dX10_init_103 : decode cX10_init 103 = .ok (.putfield 40, 3) := by decide +kernel
theorem dX10_init_106 : decode cX10_init 106 = .ok (.aload_n 0, 1) := by decide +kernel
theorem dX10_init_107 : decode cX10_init 107 = .ok (.bipush 20, 2) := by decide +kernel
theorem dX10_init_109 : decode cX10_init 109 = .ok (.newarray .int, 2) := by decide +kernel
theorem dX10_init_111 : decode cX10_init 111 = .ok (.putfield 43, 3) := by decide +kernel
theorem dX10_init_114 : decode cX10_init 114 = .ok (.aload_n 0, 1) := by decide +kernel
theorem dX10_init_115 : decode cX10_init 115 = .ok (.bipush 20, 2) := by decide +kernel
theorem dX10_init_117 : decode cX10_init 117 = .ok (.newarray .int, 2) := by decide +kernel
theorem dX10_init_119 : decode cX10_init 119 = .ok (.putfield 46, 3) := by decide +kernel
theorem dX10_init_122 : decode cX10_init 122 = .ok (.aload_n 0, 1) := by decide +kernel
theorem dX10_init_123 : decode cX10_init 123 = .ok (.bipush 80, 2) := by decide +kernel
theorem dX10_init_125 : decode cX10_init 125 = .ok (.newarray .int, 2) := by decide +kernel
theorem dX10_init_127 : decode cX10_init 127 = .ok (.putfield 49, 3) := by decide +kernel
theorem dX10_init_130 : decode cX10_init 130 = .ok (.aload_n 0, 1) := by decide +kernel
theorem dX10_init_131 : decode cX10_init 131 = .ok (.bipush 8, 2) := by decide +kernel
theorem dX10_init_133 : decode cX10_init 133 = .ok (.newarray .int, 2) := by decide +kernel
theorem dX10_init_135 : decode cX10_init 135 = .ok (.putfield 52, 3) := by decide +kernel
theorem dX10_init_138 : decode cX10_init 138 = .ok (.aload_n 0, 1) := by decide +kernel
theorem dX10_init_139 : decode cX10_init 139 = .ok (.bipush 8, 2) := by decide +kernel
theorem dX10_init_141 : decode cX10_init 141 = .ok (.newarray .int, 2) := by decide +kernel
theorem dX10_init_143 : decode cX10_init 143 = .ok (.putfield 55, 3) := by decide +kernel
theorem dX10_init_146 : decode cX10_init 146 = .ok (.aload_n 0, 1) := by decide +kernel
theorem dX10_init_147 : decode cX10_init 147 = .ok (.iconst 4, 1) := by decide +kernel
theorem dX10_init_148 : decode cX10_init 148 = .ok (.newarray .int, 2) := by decide +kernel
theorem dX10_init_150 : decode cX10_init 150 = .ok (.putfield 58, 3) := by decide +kernel
theorem dX10_init_153 : decode cX10_init 153 = .ok (.aload_n 0, 1) := by decide +kernel
theorem dX10_init_154 : decode cX10_init 154 = .ok (.sipush 1296, 3) := by decide +kernel
theorem dX10_init_157 : decode cX10_init 157 = .ok (.newarray .long, 2) := by decide +kernel
theorem dX10_init_159 : decode cX10_init 159 = .ok (.putfield 61, 3) := by decide +kernel
theorem dX10_init_162 : decode cX10_init 162 = .ok (.aload_n 0, 1) := by decide +kernel
theorem dX10_init_163 : decode cX10_init 163 = .ok (.bipush 32, 2) := by decide +kernel
theorem dX10_init_165 : decode cX10_init 165 = .ok (.newarray .int, 2) := by decide +kernel
theorem dX10_init_167 : decode cX10_init 167 = .ok (.putfield 65, 3) := by decide +kernel
theorem dX10_init_170 : decode cX10_init 170 = .ok (.aload_n 0, 1) := by decide +kernel
theorem dX10_init_171 : decode cX10_init 171 = .ok (.bipush 8, 2) := by decide +kernel
theorem dX10_init_173 : decode cX10_init 173 = .ok (.newarray .int, 2) := by decide +kernel
theorem dX10_init_175 : decode cX10_init 175 = .ok (.putfield 68, 3) := by decide +kernel
theorem dX10_init_178 : decode cX10_init 178 = .ok (.return_, 1) := by decide +kernel
def bk_X10_init_0 (l : Launch) (g : Gm) (G : Nat → CT) (P : PT) : CT := (oALd 0 (oObj1 (oALd 0 (oPush (.int (4)) (oNewI g (oDup (oPush (.int (0)) (oPush (.int (-9)) (oIAS g (oDup (oPush (.int (1)) (oPush (.int (-9)) (oIAS g (oDup (oPush (.int (2)) (oPush (.int (-9)) (oIAS g (oDup (oPush (.int (3)) (oPush (.int (-9)) (oIAS g (oPutR [10] 2 (oALd 0 (oPush (.int (4)) (oNewI g (oPutR [10] 3 (oALd 0 (oPush (.int (240)) (oNewI g (oPutR [10] 4 (oALd 0 (oPush (.int (4)) (oNewI g (oPutR [10] 6 (oALd 0 (oPush (.int (4)) (oNewI g (oPutR [10] 7 (oALd 0 (oPush (.int (20)) (oNewI g (oPutR [10] 8 (oALd 0 (oPush (.int (20)) (oNewI g (oPutR [10] 9 (oALd 0 (oPush (.int (80)) (oNewI g (oPutR [10] 10 (oALd 0 (oPush (.int (4)) (oNewI g (oPutR [10] 11 (oALd 0 (oPush (.int (4)) (oNewI g (oPutR [10] 14 (oALd 0 (oPush (.int (4)) (oNewI g (oPutR [10] 15 (oALd 0 (oPush (.int (20)) (oNewI g (oPutR [10] 16 (oALd 0 (oPush (.int (20)) (oNewI g (oPutR [10] 17 (oALd 0 (oPush (.int (80)) (oNewI g (oPutR [10] 18 (oALd 0 (oPush (.int (8)) (oNewI g (oPutR [10] 19 (oALd 0 (oPush (.int (8)) (oNewI g (oPutR [10] 20 (oALd 0 (oPush (.int (4)) (oNewI g (oPutR [10] 21 (oALd 0 (oPush (.int (1296)) (oNewJ g (oPutR [10] 23 (oALd 0 (oPush (.int (32)) (oNewI g (oPutR [10] 25 (oALd 0 (oPush (.int (8)) (oNewI g (oPutR [10] 26 (oVRet P)))))))))))))))))))))))))))))))))))))))))))))))))))))))))))))))))))))))))))))))))))))))))))))))))))
def bk_X10_init (l : Launch) (g : Gm) (b : Nat) (G : Nat → CT) (P : PT) : CT := match b with
  | 0 => bk_X10_init_0 l g G P
  | _ => fun _ _ _ _ _ => False
def pc_X10_init (b : Nat) : Nat := match b with
  | 0 => 0
  | _ => 0
set_option maxRecDepth 100000 in
theorem sb_X10_init_0 {p : Program} {l : Launch} {e : Env} {s : State} {m : MethodId} {args : Array Value} {below : List Frame} {meth : Method} {c : Code} {g : Gm} {h0 : Hp} {P : PT} {mc ms : Nat} (X : Cx g p s m args meth c (Adom h0 s.heap.size) cX10_init RX10 1) (hr : meth.sig.returnType = none) (hn : meth.name = "<init>") : SX g p l e s m args below meth c d_X10_init 1 mc ms h0 P (bk_X10_init_0 l g (fun b => GX g p l e s m args below meth c d_X10_init 1 mc ms h0 P (pc_X10_init b)) P) 0 := (s_aload_n X dX10_init_0 rfl (s_obj1 X uw_708 uw_21 uw_22 (Nat.le_of_ble_eq_true rfl) (Nat.le_of_ble_eq_true rfl) dX10_init_1 (s_aload_n X dX10_init_4 rfl (s_iconst X dX10_init_5 rfl (s_newI X uw_78 dX10_init_6 (s_dup X dX10_init_8 (s_iconst X dX10_init_9 rfl (s_bipush X dX10_init_10 rfl (s_iastore X dX10_init_12 (s_dup X dX10_init_13 (s_iconst X dX10_init_14 rfl (s_bipush X dX10_init_15 rfl (s_iastore X dX10_init_17 (s_dup X dX10_init_18 (s_iconst X dX10_init_19 rfl (s_bipush X dX10_init_20 rfl (s_iastore X dX10_init_22 (s_dup X dX10_init_23 (s_iconst X dX10_init_24 rfl (s_bipush X dX10_init_25 rfl (s_iastore X dX10_init_27 (s_putRF X dX10_init_28 rt_arr (mcn (⟨_, _, _, _, tyX10, rfl, inU_X10, by decide, uw_711, rfl, tyX10_ok, nmX10, rfl, rfl⟩) (mnl)) hn (mcn (fun C T1 N1 hq => by cases hq; rfl) (mnl)) (s_aload_n X dX10_init_31 rfl (s_iconst X dX10_init_32 rfl (s_newI X uw_78 dX10_init_33 (s_putRF X dX10_init_35 rt_arr (mcn (⟨_, _, _, _, tyX10, rfl, inU_X10, by decide, uw_712, rfl, tyX10_ok, nmX10, rfl, rfl⟩) (mnl)) hn (mcn (fun C T1 N1 hq => by cases hq; rfl) (mnl)) (s_aload_n X dX10_init_38 rfl (s_sipush X dX10_init_39 rfl (s_newI X uw_78 dX10_init_42 (s_putRF X dX10_init_44 rt_arr (mcn (⟨_, _, _, _, tyX10, rfl, inU_X10, by decide, uw_713, rfl, tyX10_ok, nmX10, rfl, rfl⟩) (mnl)) hn (mcn (fun C T1 N1 hq => by cases hq; rfl) (mnl)) (s_aload_n X dX10_init_47 rfl (s_iconst X dX10_init_48 rfl (s_newI X uw_78 dX10_init_49 (s_putRF X dX10_init_51 rt_arr (mcn (⟨_, _, _, _, tyX10, rfl, inU_X10, by decide, uw_715, rfl, tyX10_ok, nmX10, rfl, rfl⟩) (mnl)) hn (mcn (fun C T1 N1 hq => by cases hq; rfl) (mnl)) (s_aload_n X dX10_init_54 rfl (s_iconst X dX10_init_55 rfl (s_newI X uw_78 dX10_init_56 (s_putRF X dX10_init_58 rt_arr (mcn (⟨_, _, _, _, tyX10, rfl, inU_X10, by decide, uw_716, rfl, tyX10_ok, nmX10, rfl, rfl⟩) (mnl)) hn (mcn (fun C T1 N1 hq => by cases hq; rfl) (mnl)) (s_aload_n X dX10_init_61 rfl (s_bipush X dX10_init_62 rfl (s_newI X uw_78 dX10_init_64 (s_putRF X dX10_init_66 rt_arr (mcn (⟨_, _, _, _, tyX10, rfl, inU_X10, by decide, uw_717, rfl, tyX10_ok, nmX10, rfl, rfl⟩) (mnl)) hn (mcn (fun C T1 N1 hq => by cases hq; rfl) (mnl)) (s_aload_n X dX10_init_69 rfl (s_bipush X dX10_init_70 rfl (s_newI X uw_78 dX10_init_72 (s_putRF X dX10_init_74 rt_arr (mcn (⟨_, _, _, _, tyX10, rfl, inU_X10, by decide, uw_718, rfl, tyX10_ok, nmX10, rfl, rfl⟩) (mnl)) hn (mcn (fun C T1 N1 hq => by cases hq; rfl) (mnl)) (s_aload_n X dX10_init_77 rfl (s_bipush X dX10_init_78 rfl (s_newI X uw_78 dX10_init_80 (s_putRF X dX10_init_82 rt_arr (mcn (⟨_, _, _, _, tyX10, rfl, inU_X10, by decide, uw_719, rfl, tyX10_ok, nmX10, rfl, rfl⟩) (mnl)) hn (mcn (fun C T1 N1 hq => by cases hq; rfl) (mnl)) (s_aload_n X dX10_init_85 rfl (s_iconst X dX10_init_86 rfl (s_newI X uw_78 dX10_init_87 (s_putRF X dX10_init_89 rt_arr (mcn (⟨_, _, _, _, tyX10, rfl, inU_X10, by decide, uw_720, rfl, tyX10_ok, nmX10, rfl, rfl⟩) (mnl)) hn (mcn (fun C T1 N1 hq => by cases hq; rfl) (mnl)) (s_aload_n X dX10_init_92 rfl (s_iconst X dX10_init_93 rfl (s_newI X uw_78 dX10_init_94 (s_putRF X dX10_init_96 rt_arr (mcn (⟨_, _, _, _, tyX10, rfl, inU_X10, by decide, uw_723, rfl, tyX10_ok, nmX10, rfl, rfl⟩) (mnl)) hn (mcn (fun C T1 N1 hq => by cases hq; rfl) (mnl)) (s_aload_n X dX10_init_99 rfl (s_iconst X dX10_init_100 rfl (s_newI X uw_78 dX10_init_101 (s_putRF X dX10_init_103 rt_arr (mcn (⟨_, _, _, _, tyX10, rfl, inU_X10, by decide, uw_724, rfl, tyX10_ok, nmX10, rfl, rfl⟩) (mnl)) hn (mcn (fun C T1 N1 hq => by cases hq; rfl) (mnl)) (s_aload_n X dX10_init_106 rfl (s_bipush X dX10_init_107 rfl (s_newI X uw_78 dX10_init_109 (s_putRF X dX10_init_111 rt_arr (mcn (⟨_, _, _, _, tyX10, rfl, inU_X10, by decide, uw_725, rfl, tyX10_ok, nmX10, rfl, rfl⟩) (mnl)) hn (mcn (fun C T1 N1 hq => by cases hq; rfl) (mnl)) (s_aload_n X dX10_init_114 rfl (s_bipush X dX10_init_115 rfl (s_newI X uw_78 dX10_init_117 (s_putRF X dX10_init_119 rt_arr (mcn (⟨_, _, _, _, tyX10, rfl, inU_X10, by decide, uw_726, rfl, tyX10_ok, nmX10, rfl, rfl⟩) (mnl)) hn (mcn (fun C T1 N1 hq => by cases hq; rfl) (mnl)) (s_aload_n X dX10_init_122 rfl (s_bipush X dX10_init_123 rfl (s_newI X uw_78 dX10_init_125 (s_putRF X dX10_init_127 rt_arr (mcn (⟨_, _, _, _, tyX10, rfl, inU_X10, by decide, uw_727, rfl, tyX10_ok, nmX10, rfl, rfl⟩) (mnl)) hn (mcn (fun C T1 N1 hq => by cases hq; rfl) (mnl)) (s_aload_n X dX10_init_130 rfl (s_bipush X dX10_init_131 rfl (s_newI X uw_78 dX10_init_133 (s_putRF X dX10_init_135 rt_arr (mcn (⟨_, _, _, _, tyX10, rfl, inU_X10, by decide, uw_728, rfl, tyX10_ok, nmX10, rfl, rfl⟩) (mnl)) hn (mcn (fun C T1 N1 hq => by cases hq; rfl) (mnl)) (s_aload_n X dX10_init_138 rfl (s_bipush X dX10_init_139 rfl (s_newI X uw_78 dX10_init_141 (s_putRF X dX10_init_143 rt_arr (mcn (⟨_, _, _, _, tyX10, rfl, inU_X10, by decide, uw_729, rfl, tyX10_ok, nmX10, rfl, rfl⟩) (mnl)) hn (mcn (fun C T1 N1 hq => by cases hq; rfl) (mnl)) (s_aload_n X dX10_init_146 rfl (s_iconst X dX10_init_147 rfl (s_newI X uw_78 dX10_init_148 (s_putRF X dX10_init_150 rt_arr (mcn (⟨_, _, _, _, tyX10, rfl, inU_X10, by decide, uw_730, rfl, tyX10_ok, nmX10, rfl, rfl⟩) (mnl)) hn (mcn (fun C T1 N1 hq => by cases hq; rfl) (mnl)) (s_aload_n X dX10_init_153 rfl (s_sipush X dX10_init_154 rfl (s_newJ X uw_140 dX10_init_157 (s_putRF X dX10_init_159 rt_arr (mcn (⟨_, _, _, _, tyX10, rfl, inU_X10, by decide, uw_732, rfl, tyX10_ok, nmX10, rfl, rfl⟩) (mnl)) hn (mcn (fun C T1 N1 hq => by cases hq; rfl) (mnl)) (s_aload_n X dX10_init_162 rfl (s_bipush X dX10_init_163 rfl (s_newI X uw_78 dX10_init_165 (s_putRF X dX10_init_167 rt_arr (mcn (⟨_, _, _, _, tyX10, rfl, inU_X10, by decide, uw_734, rfl, tyX10_ok, nmX10, rfl, rfl⟩) (mnl)) hn (mcn (fun C T1 N1 hq => by cases hq; rfl) (mnl)) (s_aload_n X dX10_init_170 rfl (s_bipush X dX10_init_171 rfl (s_newI X uw_78 dX10_init_173 (s_putRF X dX10_init_175 rt_arr (mcn (⟨_, _, _, _, tyX10, rfl, inU_X10, by decide, uw_735, rfl, tyX10_ok, nmX10, rfl, rfl⟩) (mnl)) hn (mcn (fun C T1 N1 hq => by cases hq; rfl) (mnl)) (s_vret X hr dX10_init_178)))))))))))))))))))))))))))))))))))))))))))))))))))))))))))))))))))))))))))))))))))))))))))))))))))
set_option maxRecDepth 100000 in
theorem vc_X10_init {l : Launch} {g : Gm} {a0 : Nat} {h : Hp} {mc ms : Nat} {P : PT} (H : ∀ G : Nat → CT, (∀ (b : Nat) (h : Hp) (cb sb : Nat) (ls : LocS) (st : List Value), bk_X10_init l g b G P h cb sb ls st → G b h cb sb ls st) → G 0 h mc ms [some (.ref a0)] []) : Run l g d_X10_init [.ref a0] h mc ms P :=
  Run.of (d := d_X10_init) (by decide) (mcn rfl (mnl)) (Nat.le_of_ble_eq_true rfl) (fun p e s m args below meth c X hr hn => H (fun b => GX g p l e s m args below meth c d_X10_init 1 mc ms h P (pc_X10_init b)) (fun b h1 cb sb ls st hb => match b, hb with
    | 0, hb => sb_X10_init_0 (p := p) (e := e) (below := below) X hr hn h1 cb sb ls st hb
    | _ + 1, hb => hb.elim))
theorem dX10_fails_0 : decode cX10_fails 0 = .ok (.aload_n 0, 1) := by decide +kernel
theorem dX10_fails_1 : decode cX10_fails 1 = .ok (.iload_n 1, 1) := by decide +kernel
theorem dX10_fails_2 : decode cX10_fails 2 = .ok (.putfield 71, 3) := by decide +kernel
theorem dX10_fails_5 : decode cX10_fails 5 = .ok (.bipush (-10), 2) := by decide +kernel
theorem dX10_fails_7 : decode cX10_fails 7 = .ok (.iload_n 1, 1) := by decide +kernel
theorem dX10_fails_8 : decode cX10_fails 8 = .ok (.isub, 1) := by decide +kernel
theorem dX10_fails_9 : decode cX10_fails 9 = .ok (.ireturn, 1) := by decide +kernel
def bk_X10_fails_0 (l : Launch) (g : Gm) (G : Nat → CT) (P : PT) : CT := (oALd 0 (oILd 1 (oPutI [10] 0 (oPush (.int (-10)) (oILd 1 (oBin (fun x y => x - y) (oIRet P)))))))
def bk_X10_fails (l : Launch) (g : Gm) (b : Nat) (G : Nat → CT) (P : PT) : CT := match b with
  | 0 => bk_X10_fails_0 l g G P
  | _ => fun _ _ _ _ _ => False
def pc_X10_fails (b : Nat) : Nat := match b with
  | 0 => 0
  | _ => 0
set_option maxRecDepth 100000 in
theorem sb_X10_fails_0 {p : Program} {l : Launch} {e : Env} {s : State} {m : MethodId} {args : Array Value} {below : List Frame} {meth : Method} {c : Code} {g : Gm} {h0 : Hp} {P : PT} {mc ms : Nat} (X : Cx g p s m args meth c (Adom h0 s.heap.size) cX10_fails RX10 2) (hr : meth.sig.returnType = some .int) (hn : meth.name = "fails") : SX g p l e s m args below meth c d_X10_fails 2 mc ms h0 P (bk_X10_fails_0 l g (fun b => GX g p l e s m args below meth c d_X10_fails 2 mc ms h0 P (pc_X10_fails b)) P) 0 := (s_aload_n X dX10_fails_0 rfl (s_iload_n X dX10_fails_1 rfl (s_putI X dX10_fails_2 (mcn (⟨_, _, _, _, tyX10, rfl, inU_X10, by decide, uw_709, rfl, tyX10_ok, nmX10, rfl, rfl⟩) (mnl)) (s_bipush X dX10_fails_5 rfl (s_iload_n X dX10_fails_7 rfl (s_isub X dX10_fails_8 (s_iret X hr dX10_fails_9)))))))
set_option maxRecDepth 100000 in
theorem vc_X10_fails {l : Launch} {g : Gm} {a0 : Nat} {a1 : Int32} {h : Hp} {mc ms : Nat} {P : PT} (H : ∀ G : Nat → CT, (∀ (b : Nat) (h : Hp) (cb sb : Nat) (ls : LocS) (st : List Value), bk_X10_fails l g b G P h cb sb ls st → G b h cb sb ls st) → G 0 h mc ms [some (.ref a0), some (.int a1)] []) : Run l g d_X10_fails [.ref a0, .int a1] h mc ms P :=
  Run.of (d := d_X10_fails) (by decide) (mcn rfl (mcn rfl (mnl))) (Nat.le_of_ble_eq_true rfl) (fun p e s m args below meth c X hr hn => H (fun b => GX g p l e s m args below meth c d_X10_fails 2 mc ms h P (pc_X10_fails b)) (fun b h1 cb sb ls st hb => match b, hb with
    | 0, hb => sb_X10_fails_0 (p := p) (e := e) (below := below) X hr hn h1 cb sb ls st hb
    | _ + 1, hb => hb.elim))
theorem dX10_lost_0 : decode cX10_lost 0 = .ok (.aload_n 0, 1) := by decide +kernel
theorem dX10_lost_1 : decode cX10_lost 1 = .ok (.iload_n 1, 1) := by decide +kernel
theorem dX10_lost_2 : decode cX10_lost 2 = .ok (.putfield 71, 3) := by decide +kernel
theorem dX10_lost_5 : decode cX10_lost 5 = .ok (.ldc2_w 75, 3) := by decide +kernel
theorem dX10_lost_8 : decode cX10_lost 8 = .ok (.lreturn, 1) := by decide +kernel
def bk_X10_lost_0 (l : Launch) (g : Gm) (G : Nat → CT) (P : PT) : CT := (oALd 0 (oILd 1 (oPutI [10] 0 (oPush (.long (-9223372036854775808)) (oJRet P)))))
def bk_X10_lost (l : Launch) (g : Gm) (b : Nat) (G : Nat → CT) (P : PT) : CT := match b with
  | 0 => bk_X10_lost_0 l g G P
  | _ => fun _ _ _ _ _ => False
def pc_X10_lost (b : Nat) : Nat := match b with
  | 0 => 0
  | _ => 0
set_option maxRecDepth 100000 in
theorem sb_X10_lost_0 {p : Program} {l : Launch} {e : Env} {s : State} {m : MethodId} {args : Array Value} {below : List Frame} {meth : Method} {c : Code} {g : Gm} {h0 : Hp} {P : PT} {mc ms : Nat} (X : Cx g p s m args meth c (Adom h0 s.heap.size) cX10_lost RX10 2) (hr : meth.sig.returnType = some .long) (hn : meth.name = "lost") : SX g p l e s m args below meth c d_X10_lost 2 mc ms h0 P (bk_X10_lost_0 l g (fun b => GX g p l e s m args below meth c d_X10_lost 2 mc ms h0 P (pc_X10_lost b)) P) 0 := (s_aload_n X dX10_lost_0 rfl (s_iload_n X dX10_lost_1 rfl (s_putI X dX10_lost_2 (mcn (⟨_, _, _, _, tyX10, rfl, inU_X10, by decide, uw_709, rfl, tyX10_ok, nmX10, rfl, rfl⟩) (mnl)) (s_ldc2 X dX10_lost_5 uw_972 (s_jret X hr dX10_lost_8)))))
set_option maxRecDepth 100000 in
theorem vc_X10_lost {l : Launch} {g : Gm} {a0 : Nat} {a1 : Int32} {h : Hp} {mc ms : Nat} {P : PT} (H : ∀ G : Nat → CT, (∀ (b : Nat) (h : Hp) (cb sb : Nat) (ls : LocS) (st : List Value), bk_X10_lost l g b G P h cb sb ls st → G b h cb sb ls st) → G 0 h mc ms [some (.ref a0), some (.int a1)] []) : Run l g d_X10_lost [.ref a0, .int a1] h mc ms P :=
  Run.of (d := d_X10_lost) (by decide) (mcn rfl (mcn rfl (mnl))) (Nat.le_of_ble_eq_true rfl) (fun p e s m args below meth c X hr hn => H (fun b => GX g p l e s m args below meth c d_X10_lost 2 mc ms h P (pc_X10_lost b)) (fun b h1 cb sb ls st hb => match b, hb with
    | 0, hb => sb_X10_lost_0 (p := p) (e := e) (below := below) X hr hn h1 cb sb ls st hb
    | _ + 1, hb => hb.elim))
theorem dX10_within_0 : decode cX10_within 0 = .ok (.iload_n 0, 1) := by decide +kernel
theorem dX10_within_1 : decode cX10_within 1 = .ok (.iload_n 1, 1) := by decide +kernel
theorem dX10_within_2 : decode cX10_within 2 = .ok (.if_icmp .lt 12, 3) := by decide +kernel
theorem dX10_within_5 : decode cX10_within 5 = .ok (.iload_n 0, 1) := by decide +kernel
theorem dX10_within_6 : decode cX10_within 6 = .ok (.iload_n 2, 1) := by decide +kernel
theorem dX10_within_7 : decode cX10_within 7 = .ok (.if_icmp .gt 7, 3) := by decide +kernel
theorem dX10_within_10 : decode cX10_within 10 = .ok (.iconst 1, 1) := by decide +kernel
theorem dX10_within_11 : decode cX10_within 11 = .ok (.goto 4, 3) := by decide +kernel
theorem dX10_within_14 : decode cX10_within 14 = .ok (.iconst 0, 1) := by decide +kernel
theorem dX10_within_15 : decode cX10_within 15 = .ok (.ireturn, 1) := by decide +kernel
def bk_X10_within_0 (l : Launch) (g : Gm) (G : Nat → CT) (P : PT) : CT := (oILd 0 (oILd 1 (oCmp (fun x y => x < y) (oPush (.int (0)) (oZRet P)) (oILd 0 (oILd 2 (oCmp (fun x y => y < x) (oPush (.int (0)) (oZRet P)) (oPush (.int (1)) (oGo (oZRet P)))))))))
def bk_X10_within (l : Launch) (g : Gm) (b : Nat) (G : Nat → CT) (P : PT) : CT := match b with
  | 0 => bk_X10_within_0 l g G P
  | _ => fun _ _ _ _ _ => False
def pc_X10_within (b : Nat) : Nat := match b with
  | 0 => 0
  | _ => 0
set_option maxRecDepth 100000 in
theorem sb_X10_within_0 {p : Program} {l : Launch} {e : Env} {s : State} {m : MethodId} {args : Array Value} {below : List Frame} {meth : Method} {c : Code} {g : Gm} {h0 : Hp} {P : PT} {mc ms : Nat} (X : Cx g p s m args meth c (Adom h0 s.heap.size) cX10_within RX10 3) (hr : meth.sig.returnType = some .boolean) (hn : meth.name = "within") : SX g p l e s m args below meth c d_X10_within 3 mc ms h0 P (bk_X10_within_0 l g (fun b => GX g p l e s m args below meth c d_X10_within 3 mc ms h0 P (pc_X10_within b)) P) 0 := (s_iload_n X dX10_within_0 rfl (s_iload_n X dX10_within_1 rfl (s_icmp_lt X dX10_within_2 (by decide) (s_iconst X dX10_within_14 rfl (s_zret X hr dX10_within_15)) (s_iload_n X dX10_within_5 rfl (s_iload_n X dX10_within_6 rfl (s_icmp_gt X dX10_within_7 (by decide) (s_iconst X dX10_within_14 rfl (s_zret X hr dX10_within_15)) (s_iconst X dX10_within_10 rfl (s_goto X dX10_within_11 (by decide) (s_zret X hr dX10_within_15)))))))))
set_option maxRecDepth 100000 in
theorem vc_X10_within {l : Launch} {g : Gm} {a0 : Int32} {a1 : Int32} {a2 : Int32} {h : Hp} {mc ms : Nat} {P : PT} (H : ∀ G : Nat → CT, (∀ (b : Nat) (h : Hp) (cb sb : Nat) (ls : LocS) (st : List Value), bk_X10_within l g b G P h cb sb ls st → G b h cb sb ls st) → G 0 h mc ms [some (.int a0), some (.int a1), some (.int a2)] []) : Run l g d_X10_within [.int a0, .int a1, .int a2] h mc ms P :=
  Run.of (d := d_X10_within) (by decide) (mcn rfl (mcn rfl (mcn rfl (mnl)))) (Nat.le_of_ble_eq_true rfl) (fun p e s m args below meth c X hr hn => H (fun b => GX g p l e s m args below meth c d_X10_within 3 mc ms h P (pc_X10_within b)) (fun b h1 cb sb ls st hb => match b, hb with
    | 0, hb => sb_X10_within_0 (p := p) (e := e) (below := below) X hr hn h1 cb sb ls st hb
    | _ + 1, hb => hb.elim))
theorem dX10_isSheet_0 : decode cX10_isSheet 0 = .ok (.iload_n 0, 1) := by decide +kernel
theorem dX10_isSheet_1 : decode cX10_isSheet 1 = .ok (.iconst 0, 1) := by decide +kernel
theorem dX10_isSheet_2 : decode cX10_isSheet 2 = .ok (.iconst 3, 1) := by decide +kernel
theorem dX10_isSheet_3 : decode cX10_isSheet 3 = .ok (.invokestatic 77, 3) := by decide +kernel
theorem dX10_isSheet_6 : decode cX10_isSheet 6 = .ok (.ireturn, 1) := by decide +kernel
def bk_X10_isSheet_0 (l : Launch) (g : Gm) (G : Nat → CT) (P : PT) : CT := (oILd 0 (oPush (.int (0)) (oPush (.int (3)) (oCall l g d_X10_within 3 (oZRet P)))))
def bk_X10_isSheet (l : Launch) (g : Gm) (b : Nat) (G : Nat → CT) (P : PT) : CT := match b with
  | 0 => bk_X10_isSheet_0 l g G P
  | _ => fun _ _ _ _ _ => False
def pc_X10_isSheet (b : Nat) : Nat := match b with
  | 0 => 0
  | _ => 0
set_option maxRecDepth 100000 in
theorem sb_X10_isSheet_0 {p : Program} {l : Launch} {e : Env} {s : State} {m : MethodId} {args : Array Value} {below : List Frame} {meth : Method} {c : Code} {g : Gm} {h0 : Hp} {P : PT} {mc ms : Nat} (X : Cx g p s m args meth c (Adom h0 s.heap.size) cX10_isSheet RX10 1) (hr : meth.sig.returnType = some .boolean) (hn : meth.name = "isSheet") : SX g p l e s m args below meth c d_X10_isSheet 1 mc ms h0 P (bk_X10_isSheet_0 l g (fun b => GX g p l e s m args below meth c d_X10_isSheet 1 mc ms h0 P (pc_X10_isSheet b)) P) 0 := (s_iload_n X dX10_isSheet_0 rfl (s_iconst X dX10_isSheet_1 rfl (s_iconst X dX10_isSheet_2 rfl (s_callS X dX10_isSheet_3 uw_798 uw_799 uw_7 ci_X10_within yok_X10_within ⟨Nat.le_of_ble_eq_true rfl, Nat.le_of_ble_eq_true rfl⟩ (s_zret X hr dX10_isSheet_6)))))
set_option maxRecDepth 100000 in
theorem vc_X10_isSheet {l : Launch} {g : Gm} {a0 : Int32} {h : Hp} {mc ms : Nat} {P : PT} (H : ∀ G : Nat → CT, (∀ (b : Nat) (h : Hp) (cb sb : Nat) (ls : LocS) (st : List Value), bk_X10_isSheet l g b G P h cb sb ls st → G b h cb sb ls st) → G 0 h mc ms [some (.int a0)] []) : Run l g d_X10_isSheet [.int a0] h mc ms P :=
  Run.of (d := d_X10_isSheet) (by decide) (mcn rfl (mnl)) (Nat.le_of_ble_eq_true rfl) (fun p e s m args below meth c X hr hn => H (fun b => GX g p l e s m args below meth c d_X10_isSheet 1 mc ms h P (pc_X10_isSheet b)) (fun b h1 cb sb ls st hb => match b, hb with
    | 0, hb => sb_X10_isSheet_0 (p := p) (e := e) (below := below) X hr hn h1 cb sb ls st hb
    | _ + 1, hb => hb.elim))
theorem dX10_isSort_0 : decode cX10_isSort 0 = .ok (.iload_n 0, 1) := by decide +kernel
theorem dX10_isSort_1 : decode cX10_isSort 1 = .ok (.iconst 0, 1) := by decide +kernel
theorem dX10_isSort_2 : decode cX10_isSort 2 = .ok (.iconst 2, 1) := by decide +kernel
theorem dX10_isSort_3 : decode cX10_isSort 3 = .ok (.invokestatic 77, 3) := by decide +kernel
theorem dX10_isSort_6 : decode cX10_isSort 6 = .ok (.ireturn, 1) := by decide +kernel
def bk_X10_isSort_0 (l : Launch) (g : Gm) (G : Nat → CT) (P : PT) : CT := (oILd 0 (oPush (.int (0)) (oPush (.int (2)) (oCall l g d_X10_within 3 (oZRet P)))))
def bk_X10_isSort (l : Launch) (g : Gm) (b : Nat) (G : Nat → CT) (P : PT) : CT := match b with
  | 0 => bk_X10_isSort_0 l g G P
  | _ => fun _ _ _ _ _ => False
def pc_X10_isSort (b : Nat) : Nat := match b with
  | 0 => 0
  | _ => 0
set_option maxRecDepth 100000 in
theorem sb_X10_isSort_0 {p : Program} {l : Launch} {e : Env} {s : State} {m : MethodId} {args : Array Value} {below : List Frame} {meth : Method} {c : Code} {g : Gm} {h0 : Hp} {P : PT} {mc ms : Nat} (X : Cx g p s m args meth c (Adom h0 s.heap.size) cX10_isSort RX10 1) (hr : meth.sig.returnType = some .boolean) (hn : meth.name = "isSort") : SX g p l e s m args below meth c d_X10_isSort 1 mc ms h0 P (bk_X10_isSort_0 l g (fun b => GX g p l e s m args below meth c d_X10_isSort 1 mc ms h0 P (pc_X10_isSort b)) P) 0 := (s_iload_n X dX10_isSort_0 rfl (s_iconst X dX10_isSort_1 rfl (s_iconst X dX10_isSort_2 rfl (s_callS X dX10_isSort_3 uw_798 uw_799 uw_7 ci_X10_within yok_X10_within ⟨Nat.le_of_ble_eq_true rfl, Nat.le_of_ble_eq_true rfl⟩ (s_zret X hr dX10_isSort_6)))))
set_option maxRecDepth 100000 in
theorem vc_X10_isSort {l : Launch} {g : Gm} {a0 : Int32} {h : Hp} {mc ms : Nat} {P : PT} (H : ∀ G : Nat → CT, (∀ (b : Nat) (h : Hp) (cb sb : Nat) (ls : LocS) (st : List Value), bk_X10_isSort l g b G P h cb sb ls st → G b h cb sb ls st) → G 0 h mc ms [some (.int a0)] []) : Run l g d_X10_isSort [.int a0] h mc ms P :=
  Run.of (d := d_X10_isSort) (by decide) (mcn rfl (mnl)) (Nat.le_of_ble_eq_true rfl) (fun p e s m args below meth c X hr hn => H (fun b => GX g p l e s m args below meth c d_X10_isSort 1 mc ms h P (pc_X10_isSort b)) (fun b h1 cb sb ls st hb => match b, hb with
    | 0, hb => sb_X10_isSort_0 (p := p) (e := e) (below := below) X hr hn h1 cb sb ls st hb
    | _ + 1, hb => hb.elim))
theorem dX10_against_0 : decode cX10_against 0 = .ok (.aload_n 0, 1) := by decide +kernel
theorem dX10_against_1 : decode cX10_against 1 = .ok (.getfield 9, 3) := by decide +kernel
theorem dX10_against_4 : decode cX10_against 4 = .ok (.iload_n 1, 1) := by decide +kernel
theorem dX10_against_5 : decode cX10_against 5 = .ok (.iaload, 1) := by decide +kernel
theorem dX10_against_6 : decode cX10_against 6 = .ok (.bipush (-9), 2) := by decide +kernel
theorem dX10_against_8 : decode cX10_against 8 = .ok (.if_icmp .eq 15, 3) := by decide +kernel
theorem dX10_against_11 : decode cX10_against 11 = .ok (.aload_n 0, 1) := by decide +kernel
theorem dX10_against_12 : decode cX10_against 12 = .ok (.getfield 9, 3) := by decide +kernel
theorem dX10_against_15 : decode cX10_against 15 = .ok (.iload_n 1, 1) := by decide +kernel
theorem dX10_against_16 : decode cX10_against 16 = .ok (.iaload, 1) := by decide +kernel
theorem dX10_against_17 : decode cX10_against 17 = .ok (.iload_n 2, 1) := by decide +kernel
theorem dX10_against_18 : decode cX10_against 18 = .ok (.if_icmp .eq 5, 3) := by decide +kernel
theorem dX10_against_21 : decode cX10_against 21 = .ok (.iconst 2, 1) := by decide +kernel
theorem dX10_against_22 : decode cX10_against 22 = .ok (.ireturn, 1) := by decide +kernel
theorem dX10_against_23 : decode cX10_against 23 = .ok (.aload_n 0, 1) := by decide +kernel
theorem dX10_against_24 : decode cX10_against 24 = .ok (.getfield 9, 3) := by decide +kernel
theorem dX10_against_27 : decode cX10_against 27 = .ok (.iload_n 1, 1) := by decide +kernel
theorem dX10_against_28 : decode cX10_against 28 = .ok (.iaload, 1) := by decide +kernel
theorem dX10_against_29 : decode cX10_against 29 = .ok (.bipush (-9), 2) := by decide +kernel
theorem dX10_against_31 : decode cX10_against 31 = .ok (.if_icmp .ne 5, 3) := by decide +kernel
theorem dX10_against_34 : decode cX10_against 34 = .ok (.iconst 1, 1) := by decide +kernel
theorem dX10_against_35 : decode cX10_against 35 = .ok (.ireturn, 1) := by decide +kernel
theorem dX10_against_36 : decode cX10_against 36 = .ok (.iload 4, 2) := by decide +kernel
theorem dX10_against_38 : decode cX10_against 38 = .ok (.ifCond .ge 5, 3) := by decide +kernel
theorem dX10_against_41 : decode cX10_against 41 = .ok (.iconst 4, 1) := by decide +kernel
theorem dX10_against_42 : decode cX10_against 42 = .ok (.ireturn, 1) := by decide +kernel
theorem dX10_against_43 : decode cX10_against 43 = .ok (.iload_n 3, 1) := by decide +kernel
theorem dX10_against_44 : decode cX10_against 44 = .ok (.ifCond .lt 26, 3) := by decide +kernel
theorem dX10_against_47 : decode cX10_against 47 = .ok (.iload_n 3, 1) := by decide +kernel
theorem dX10_against_48 : decode cX10_against 48 = .ok (.aload_n 0, 1) := by decide +kernel
theorem dX10_against_49 : decode cX10_against 49 = .ok (.getfield 13, 3) := by decide +kernel
theorem dX10_against_52 : decode cX10_against 52 = .ok (.iload_n 1, 1) := by decide +kernel
theorem dX10_against_53 : decode cX10_against 53 = .ok (.iaload, 1) := by decide +kernel
theorem dX10_against_54 : decode cX10_against 54 = .ok (.if_icmp .gt 16, 3) := by decide +kernel
theorem dX10_against_57 : decode cX10_against 57 = .ok (.iload 4, 2) := by decide +kernel
theorem dX10_against_59 : decode cX10_against 59 = .ok (.aload_n 0, 1) := by decide +kernel
theorem dX10_against_60 : decode cX10_against 60 = .ok (.getfield 13, 3) := by decide +kernel
theorem dX10_against_63 : decode cX10_against 63 = .ok (.iload_n 1, 1) := by decide +kernel
theorem dX10_against_64 : decode cX10_against 64 = .ok (.iaload, 1) := by decide +kernel
theorem dX10_against_65 : decode cX10_against 65 = .ok (.iload_n 3, 1) := by decide +kernel
theorem dX10_against_66 : decode cX10_against 66 = .ok (.isub, 1) := by decide +kernel
theorem dX10_against_67 : decode cX10_against 67 = .ok (.if_icmp .le 7, 3) := by decide +kernel
theorem dX10_against_70 : decode cX10_against 70 = .ok (.iconst 3, 1) := by decide +kernel
theorem dX10_against_71 : decode cX10_against 71 = .ok (.goto 4, 3) := by decide +kernel
theorem dX10_against_74 : decode cX10_against 74 = .ok (.iconst 0, 1) := by decide +kernel
theorem dX10_against_75 : decode cX10_against 75 = .ok (.ireturn, 1) := by decide +kernel
def bk_X10_against_0 (l : Launch) (g : Gm) (G : Nat → CT) (P : PT) : CT := (oALd 0 (oGet [10] 2 (oILd 1 (oIAL g (oPush (.int (-9)) (oCmp (fun x y => x = y) (G 1) (oALd 0 (oGet [10] 2 (oILd 1 (oIAL g (oILd 2 (oCmp (fun x y => x = y) (G 1) (oPush (.int (2)) (oIRet P))))))))))))))
def bk_X10_against_1 (l : Launch) (g : Gm) (G : Nat → CT) (P : PT) : CT := (oALd 0 (oGet [10] 2 (oILd 1 (oIAL g (oPush (.int (-9)) (oCmp (fun x y => x = y) (oPush (.int (1)) (oIRet P)) (oILd 4 (oIf (fun x => 0 ≤ x) (oILd 3 (oIf (fun x => x < 0) (oPush (.int (3)) (oGo (oIRet P))) (oILd 3 (oALd 0 (oGet [10] 3 (oILd 1 (oIAL g (oCmp (fun x y => y < x) (oPush (.int (3)) (oGo (oIRet P))) (oILd 4 (oALd 0 (oGet [10] 3 (oILd 1 (oIAL g (oILd 3 (oBin (fun x y => x - y) (oCmp (fun x y => x ≤ y) (oPush (.int (0)) (oIRet P)) (oPush (.int (3)) (oGo (oIRet P))))))))))))))))))) (oPush (.int (4)) (oIRet P))))))))))
def bk_X10_against (l : Launch) (g : Gm) (b : Nat) (G : Nat → CT) (P : PT) : CT := match b with
  | 0 => bk_X10_against_0 l g G P
  | 1 => bk_X10_against_1 l g G P
  | _ => fun _ _ _ _ _ => False
def pc_X10_against (b : Nat) : Nat := match b with
  | 0 => 0
  | 1 => 23
  | _ => 0
set_option maxRecDepth 100000 in
theorem sb_X10_against_0 {p : Program} {l : Launch} {e : Env} {s : State} {m : MethodId} {args : Array Value} {below : List Frame} {meth : Method} {c : Code} {g : Gm} {h0 : Hp} {P : PT} {mc ms : Nat} (X : Cx g p s m args meth c (Adom h0 s.heap.size) cX10_against RX10 5) (hr : meth.sig.returnType = some .int) (hn : meth.name = "against") : SX g p l e s m args below meth c d_X10_against 5 mc ms h0 P (bk_X10_against_0 l g (fun b => GX g p l e s m args below meth c d_X10_against 5 mc ms h0 P (pc_X10_against b)) P) 0 := (s_aload_n X dX10_against_0 rfl (s_get X dX10_against_1 (mcn (⟨_, _, _, _, rfl, inU_X10, by decide, uw_711, rfl⟩) (mnl)) (s_iload_n X dX10_against_4 rfl (s_iaload X dX10_against_5 (s_bipush X dX10_against_6 rfl (s_icmp_eq X dX10_against_8 (by decide) Sd.rf (s_aload_n X dX10_against_11 rfl (s_get X dX10_against_12 (mcn (⟨_, _, _, _, rfl, inU_X10, by decide, uw_711, rfl⟩) (mnl)) (s_iload_n X dX10_against_15 rfl (s_iaload X dX10_against_16 (s_iload_n X dX10_against_17 rfl (s_icmp_eq X dX10_against_18 (by decide) Sd.rf (s_iconst X dX10_against_21 rfl (s_iret X hr dX10_against_22))))))))))))))
set_option maxRecDepth 100000 in
theorem sb_X10_against_1 {p : Program} {l : Launch} {e : Env} {s : State} {m : MethodId} {args : Array Value} {below : List Frame} {meth : Method} {c : Code} {g : Gm} {h0 : Hp} {P : PT} {mc ms : Nat} (X : Cx g p s m args meth c (Adom h0 s.heap.size) cX10_against RX10 5) (hr : meth.sig.returnType = some .int) (hn : meth.name = "against") : SX g p l e s m args below meth c d_X10_against 5 mc ms h0 P (bk_X10_against_1 l g (fun b => GX g p l e s m args below meth c d_X10_against 5 mc ms h0 P (pc_X10_against b)) P) 23 := (s_aload_n X dX10_against_23 rfl (s_get X dX10_against_24 (mcn (⟨_, _, _, _, rfl, inU_X10, by decide, uw_711, rfl⟩) (mnl)) (s_iload_n X dX10_against_27 rfl (s_iaload X dX10_against_28 (s_bipush X dX10_against_29 rfl (s_icmp_ne X dX10_against_31 (by decide) (s_iload X dX10_against_36 (s_if_ge X dX10_against_38 (by decide) (s_iload_n X dX10_against_43 rfl (s_if_lt X dX10_against_44 (by decide) (s_iconst X dX10_against_70 rfl (s_goto X dX10_against_71 (by decide) (s_iret X hr dX10_against_75))) (s_iload_n X dX10_against_47 rfl (s_aload_n X dX10_against_48 rfl (s_get X dX10_against_49 (mcn (⟨_, _, _, _, rfl, inU_X10, by decide, uw_712, rfl⟩) (mnl)) (s_iload_n X dX10_against_52 rfl (s_iaload X dX10_against_53 (s_icmp_gt X dX10_against_54 (by decide) (s_iconst X dX10_against_70 rfl (s_goto X dX10_against_71 (by decide) (s_iret X hr dX10_against_75))) (s_iload X dX10_against_57 (s_aload_n X dX10_against_59 rfl (s_get X dX10_against_60 (mcn (⟨_, _, _, _, rfl, inU_X10, by decide, uw_712, rfl⟩) (mnl)) (s_iload_n X dX10_against_63 rfl (s_iaload X dX10_against_64 (s_iload_n X dX10_against_65 rfl (s_isub X dX10_against_66 (s_icmp_le X dX10_against_67 (by decide) (s_iconst X dX10_against_74 rfl (s_iret X hr dX10_against_75)) (s_iconst X dX10_against_70 rfl (s_goto X dX10_against_71 (by decide) (s_iret X hr dX10_against_75))))))))))))))))))) (s_iconst X dX10_against_41 rfl (s_iret X hr dX10_against_42)))) (s_iconst X dX10_against_34 rfl (s_iret X hr dX10_against_35))))))))
set_option maxRecDepth 100000 in
theorem vc_X10_against {l : Launch} {g : Gm} {a0 : Nat} {a1 : Int32} {a2 : Int32} {a3 : Int32} {a4 : Int32} {h : Hp} {mc ms : Nat} {P : PT} (H : ∀ G : Nat → CT, (∀ (b : Nat) (h : Hp) (cb sb : Nat) (ls : LocS) (st : List Value), bk_X10_against l g b G P h cb sb ls st → G b h cb sb ls st) → G 0 h mc ms [some (.ref a0), some (.int a1), some (.int a2), some (.int a3), some (.int a4)] []) : Run l g d_X10_against [.ref a0, .int a1, .int a2, .int a3, .int a4] h mc ms P :=
  Run.of (d := d_X10_against) (by decide) (mcn rfl (mcn rfl (mcn rfl (mcn rfl (mcn rfl (mnl)))))) (Nat.le_of_ble_eq_true rfl) (fun p e s m args below meth c X hr hn => H (fun b => GX g p l e s m args below meth c d_X10_against 5 mc ms h P (pc_X10_against b)) (fun b h1 cb sb ls st hb => match b, hb with
    | 0, hb => sb_X10_against_0 (p := p) (e := e) (below := below) X hr hn h1 cb sb ls st hb
    | 1, hb => sb_X10_against_1 (p := p) (e := e) (below := below) X hr hn h1 cb sb ls st hb
    | _ + 2, hb => hb.elim))
theorem dX10_isVillage_0 : decode cX10_isVillage 0 = .ok (.iload_n 1, 1) := by decide +kernel
theorem dX10_isVillage_1 : decode cX10_isVillage 1 = .ok (.ifCond .lt 15, 3) := by decide +kernel
theorem dX10_isVillage_4 : decode cX10_isVillage 4 = .ok (.iload_n 1, 1) := by decide +kernel
theorem dX10_isVillage_5 : decode cX10_isVillage 5 = .ok (.aload_n 0, 1) := by decide +kernel
theorem dX10_isVillage_6 : decode cX10_isVillage 6 = .ok (.getfield 81, 3) := by decide +kernel
theorem dX10_isVillage_9 : decode cX10_isVillage 9 = .ok (.if_icmp .ge 7, 3) := by decide +kernel
theorem dX10_isVillage_12 : decode cX10_isVillage 12 = .ok (.iconst 1, 1) := by decide +kernel
theorem dX10_isVillage_13 : decode cX10_isVillage 13 = .ok (.goto 4, 3) := by decide +kernel
theorem dX10_isVillage_16 : decode cX10_isVillage 16 = .ok (.iconst 0, 1) := by decide +kernel
theorem dX10_isVillage_17 : decode cX10_isVillage 17 = .ok (.ireturn, 1) := by decide +kernel
def bk_X10_isVillage_0 (l : Launch) (g : Gm) (G : Nat → CT) (P : PT) : CT := (oILd 1 (oIf (fun x => x < 0) (oPush (.int (0)) (oZRet P)) (oILd 1 (oALd 0 (oGet [10] 5 (oCmp (fun x y => y ≤ x) (oPush (.int (0)) (oZRet P)) (oPush (.int (1)) (oGo (oZRet P)))))))))
def bk_X10_isVillage (l : Launch) (g : Gm) (b : Nat) (G : Nat → CT) (P : PT) : CT := match b with
  | 0 => bk_X10_isVillage_0 l g G P
  | _ => fun _ _ _ _ _ => False
def pc_X10_isVillage (b : Nat) : Nat := match b with
  | 0 => 0
  | _ => 0
set_option maxRecDepth 100000 in
theorem sb_X10_isVillage_0 {p : Program} {l : Launch} {e : Env} {s : State} {m : MethodId} {args : Array Value} {below : List Frame} {meth : Method} {c : Code} {g : Gm} {h0 : Hp} {P : PT} {mc ms : Nat} (X : Cx g p s m args meth c (Adom h0 s.heap.size) cX10_isVillage RX10 2) (hr : meth.sig.returnType = some .boolean) (hn : meth.name = "isVillage") : SX g p l e s m args below meth c d_X10_isVillage 2 mc ms h0 P (bk_X10_isVillage_0 l g (fun b => GX g p l e s m args below meth c d_X10_isVillage 2 mc ms h0 P (pc_X10_isVillage b)) P) 0 := (s_iload_n X dX10_isVillage_0 rfl (s_if_lt X dX10_isVillage_1 (by decide) (s_iconst X dX10_isVillage_16 rfl (s_zret X hr dX10_isVillage_17)) (s_iload_n X dX10_isVillage_4 rfl (s_aload_n X dX10_isVillage_5 rfl (s_get X dX10_isVillage_6 (mcn (⟨_, _, _, _, rfl, inU_X10, by decide, uw_714, rfl⟩) (mnl)) (s_icmp_ge X dX10_isVillage_9 (by decide) (s_iconst X dX10_isVillage_16 rfl (s_zret X hr dX10_isVillage_17)) (s_iconst X dX10_isVillage_12 rfl (s_goto X dX10_isVillage_13 (by decide) (s_zret X hr dX10_isVillage_17)))))))))
set_option maxRecDepth 100000 in
theorem vc_X10_isVillage {l : Launch} {g : Gm} {a0 : Nat} {a1 : Int32} {h : Hp} {mc ms : Nat} {P : PT} (H : ∀ G : Nat → CT, (∀ (b : Nat) (h : Hp) (cb sb : Nat) (ls : LocS) (st : List Value), bk_X10_isVillage l g b G P h cb sb ls st → G b h cb sb ls st) → G 0 h mc ms [some (.ref a0), some (.int a1)] []) : Run l g d_X10_isVillage [.ref a0, .int a1] h mc ms P :=
  Run.of (d := d_X10_isVillage) (by decide) (mcn rfl (mcn rfl (mnl))) (Nat.le_of_ble_eq_true rfl) (fun p e s m args below meth c X hr hn => H (fun b => GX g p l e s m args below meth c d_X10_isVillage 2 mc ms h P (pc_X10_isVillage b)) (fun b h1 cb sb ls st hb => match b, hb with
    | 0, hb => sb_X10_isVillage_0 (p := p) (e := e) (below := below) X hr hn h1 cb sb ls st hb
    | _ + 1, hb => hb.elim))
theorem dX10_isThing_0 : decode cX10_isThing 0 = .ok (.aload_n 0, 1) := by decide +kernel
theorem dX10_isThing_1 : decode cX10_isThing 1 = .ok (.iload_n 1, 1) := by decide +kernel
theorem dX10_isThing_2 : decode cX10_isThing 2 = .ok (.invokevirtual 84, 3) := by decide +kernel
theorem dX10_isThing_5 : decode cX10_isThing 5 = .ok (.ifCond .eq 21, 3) := by decide +kernel
theorem dX10_isThing_8 : decode cX10_isThing 8 = .ok (.iload_n 2, 1) := by decide +kernel
theorem dX10_isThing_9 : decode cX10_isThing 9 = .ok (.ifCond .lt 17, 3) := by decide +kernel
theorem dX10_isThing_12 : decode cX10_isThing 12 = .ok (.iload_n 2, 1) := by decide +kernel
theorem dX10_isThing_13 : decode cX10_isThing 13 = .ok (.aload_n 0, 1) := by decide +kernel
theorem dX10_isThing_14 : decode cX10_isThing 14 = .ok (.getfield 22, 3) := by decide +kernel
theorem dX10_isThing_17 : decode cX10_isThing 17 = .ok (.iload_n 1, 1) := by decide +kernel
theorem dX10_isThing_18 : decode cX10_isThing 18 = .ok (.iaload, 1) := by decide +kernel
theorem dX10_isThing_19 : decode cX10_isThing 19 = .ok (.if_icmp .ge 7, 3) := by decide +kernel
theorem dX10_isThing_22 : decode cX10_isThing 22 = .ok (.iconst 1, 1) := by decide +kernel
theorem dX10_isThing_23 : decode cX10_isThing 23 = .ok (.goto 4, 3) := by decide +kernel
theorem dX10_isThing_26 : decode cX10_isThing 26 = .ok (.iconst 0, 1) := by decide +kernel
theorem dX10_isThing_27 : decode cX10_isThing 27 = .ok (.ireturn, 1) := by decide +kernel
def bk_X10_isThing_0 (l : Launch) (g : Gm) (G : Nat → CT) (P : PT) : CT := (oALd 0 (oILd 1 (oCallV l g [(10, d_X10_isVillage)] 2 (oIf (fun x => x = 0) (oPush (.int (0)) (oZRet P)) (oILd 2 (oIf (fun x => x < 0) (oPush (.int (0)) (oZRet P)) (oILd 2 (oALd 0 (oGet [10] 7 (oILd 1 (oIAL g (oCmp (fun x y => y ≤ x) (oPush (.int (0)) (oZRet P)) (oPush (.int (1)) (oGo (oZRet P)))))))))))))))
def bk_X10_isThing (l : Launch) (g : Gm) (b : Nat) (G : Nat → CT) (P : PT) : CT := match b with
  | 0 => bk_X10_isThing_0 l g G P
  | _ => fun _ _ _ _ _ => False
def pc_X10_isThing (b : Nat) : Nat := match b with
  | 0 => 0
  | _ => 0
set_option maxRecDepth 100000 in
theorem sb_X10_isThing_0 {p : Program} {l : Launch} {e : Env} {s : State} {m : MethodId} {args : Array Value} {below : List Frame} {meth : Method} {c : Code} {g : Gm} {h0 : Hp} {P : PT} {mc ms : Nat} (X : Cx g p s m args meth c (Adom h0 s.heap.size) cX10_isThing RX10 3) (hr : meth.sig.returnType = some .boolean) (hn : meth.name = "isThing") : SX g p l e s m args below meth c d_X10_isThing 3 mc ms h0 P (bk_X10_isThing_0 l g (fun b => GX g p l e s m args below meth c d_X10_isThing 3 mc ms h0 P (pc_X10_isThing b)) P) 0 := (s_aload_n X dX10_isThing_0 rfl (s_iload_n X dX10_isThing_1 rfl (s_callV X dX10_isThing_2 (mv (vok_V X rfl uw_864 uw_866 (UW_pr 30 rfl rfl) uw_7 ci_X10_isVillage yok_X10_isVillage ⟨Nat.le_of_ble_eq_true rfl, Nat.le_of_ble_eq_true rfl⟩) mv0) (s_if_eq X dX10_isThing_5 (by decide) (s_iconst X dX10_isThing_26 rfl (s_zret X hr dX10_isThing_27)) (s_iload_n X dX10_isThing_8 rfl (s_if_lt X dX10_isThing_9 (by decide) (s_iconst X dX10_isThing_26 rfl (s_zret X hr dX10_isThing_27)) (s_iload_n X dX10_isThing_12 rfl (s_aload_n X dX10_isThing_13 rfl (s_get X dX10_isThing_14 (mcn (⟨_, _, _, _, rfl, inU_X10, by decide, uw_716, rfl⟩) (mnl)) (s_iload_n X dX10_isThing_17 rfl (s_iaload X dX10_isThing_18 (s_icmp_ge X dX10_isThing_19 (by decide) (s_iconst X dX10_isThing_26 rfl (s_zret X hr dX10_isThing_27)) (s_iconst X dX10_isThing_22 rfl (s_goto X dX10_isThing_23 (by decide) (s_zret X hr dX10_isThing_27)))))))))))))))
set_option maxRecDepth 100000 in
theorem vc_X10_isThing {l : Launch} {g : Gm} {a0 : Nat} {a1 : Int32} {a2 : Int32} {h : Hp} {mc ms : Nat} {P : PT} (H : ∀ G : Nat → CT, (∀ (b : Nat) (h : Hp) (cb sb : Nat) (ls : LocS) (st : List Value), bk_X10_isThing l g b G P h cb sb ls st → G b h cb sb ls st) → G 0 h mc ms [some (.ref a0), some (.int a1), some (.int a2)] []) : Run l g d_X10_isThing [.ref a0, .int a1, .int a2] h mc ms P :=
  Run.of (d := d_X10_isThing) (by decide) (mcn rfl (mcn rfl (mcn rfl (mnl)))) (Nat.le_of_ble_eq_true rfl) (fun p e s m args below meth c X hr hn => H (fun b => GX g p l e s m args below meth c d_X10_isThing 3 mc ms h P (pc_X10_isThing b)) (fun b h1 cb sb ls st hb => match b, hb with
    | 0, hb => sb_X10_isThing_0 (p := p) (e := e) (below := below) X hr hn h1 cb sb ls st hb
    | _ + 1, hb => hb.elim))
theorem dX10_digit_0 : decode cX10_digit 0 = .ok (.aload_n 0, 1) := by decide +kernel
theorem dX10_digit_1 : decode cX10_digit 1 = .ok (.getfield 88, 3) := by decide +kernel
theorem dX10_digit_4 : decode cX10_digit 4 = .ok (.iload_n 1, 1) := by decide +kernel
theorem dX10_digit_5 : decode cX10_digit 5 = .ok (.if_icmp .ge 24, 3) := by decide +kernel
theorem dX10_digit_8 : decode cX10_digit 8 = .ok (.aload_n 0, 1) := by decide +kernel
theorem dX10_digit_9 : decode cX10_digit 9 = .ok (.getfield 16, 3) := by decide +kernel
theorem dX10_digit_12 : decode cX10_digit 12 = .ok (.aload_n 0, 1) := by decide +kernel
theorem dX10_digit_13 : decode cX10_digit 13 = .ok (.getfield 88, 3) := by decide +kernel
theorem dX10_digit_16 : decode cX10_digit 16 = .ok (.iaload, 1) := by decide +kernel
theorem dX10_digit_17 : decode cX10_digit 17 = .ok (.bipush 48, 2) := by decide +kernel
theorem dX10_digit_19 : decode cX10_digit 19 = .ok (.bipush 48, 2) := by decide +kernel
theorem dX10_digit_21 : decode cX10_digit 21 = .ok (.iload_n 2, 1) := by decide +kernel
theorem dX10_digit_22 : decode cX10_digit 22 = .ok (.iadd, 1) := by decide +kernel
theorem dX10_digit_23 : decode cX10_digit 23 = .ok (.invokestatic 77, 3) := by decide +kernel
theorem dX10_digit_26 : decode cX10_digit 26 = .ok (.ifCond .ne 6, 3) := by decide +kernel
theorem dX10_digit_29 : decode cX10_digit 29 = .ok (.bipush (-9), 2) := by decide +kernel
theorem dX10_digit_31 : decode cX10_digit 31 = .ok (.ireturn, 1) := by decide +kernel
theorem dX10_digit_32 : decode cX10_digit 32 = .ok (.aload_n 0, 1) := by decide +kernel
theorem dX10_digit_33 : decode cX10_digit 33 = .ok (.dup, 1) := by decide +kernel
theorem dX10_digit_34 : decode cX10_digit 34 = .ok (.getfield 88, 3) := by decide +kernel
theorem dX10_digit_37 : decode cX10_digit 37 = .ok (.iconst 1, 1) := by decide +kernel
theorem dX10_digit_38 : decode cX10_digit 38 = .ok (.iadd, 1) := by decide +kernel
theorem dX10_digit_39 : decode cX10_digit 39 = .ok (.putfield 88, 3) := by decide +kernel
theorem dX10_digit_42 : decode cX10_digit 42 = .ok (.aload_n 0, 1) := by decide +kernel
theorem dX10_digit_43 : decode cX10_digit 43 = .ok (.getfield 16, 3) := by decide +kernel
theorem dX10_digit_46 : decode cX10_digit 46 = .ok (.aload_n 0, 1) := by decide +kernel
theorem dX10_digit_47 : decode cX10_digit 47 = .ok (.getfield 88, 3) := by decide +kernel
theorem dX10_digit_50 : decode cX10_digit 50 = .ok (.iconst 1, 1) := by decide +kernel
theorem dX10_digit_51 : decode cX10_digit 51 = .ok (.isub, 1) := by decide +kernel
theorem dX10_digit_52 : decode cX10_digit 52 = .ok (.iaload, 1) := by decide +kernel
theorem dX10_digit_53 : decode cX10_digit 53 = .ok (.bipush 48, 2) := by decide +kernel
theorem dX10_digit_55 : decode cX10_digit 55 = .ok (.isub, 1) := by decide +kernel
theorem dX10_digit_56 : decode cX10_digit 56 = .ok (.ireturn, 1) := by decide +kernel
def bk_X10_digit_0 (l : Launch) (g : Gm) (G : Nat → CT) (P : PT) : CT := (oALd 0 (oGet [10] 12 (oILd 1 (oCmp (fun x y => y ≤ x) (oPush (.int (-9)) (oIRet P)) (oALd 0 (oGet [10] 4 (oALd 0 (oGet [10] 12 (oIAL g (oPush (.int (48)) (oPush (.int (48)) (oILd 2 (oBin (fun x y => x + y) (oCall l g d_X10_within 3 (oIf (fun x => x = 0) (oPush (.int (-9)) (oIRet P)) (oALd 0 (oDup (oGet [10] 12 (oPush (.int (1)) (oBin (fun x y => x + y) (oPutI [10] 12 (oALd 0 (oGet [10] 4 (oALd 0 (oGet [10] 12 (oPush (.int (1)) (oBin (fun x y => x - y) (oIAL g (oPush (.int (48)) (oBin (fun x y => x - y) (oIRet P)))))))))))))))))))))))))))))))
def bk_X10_digit (l : Launch) (g : Gm) (b : Nat) (G : Nat → CT) (P : PT) : CT := match b with
  | 0 => bk_X10_digit_0 l g G P
  | _ => fun _ _ _ _ _ => False
def pc_X10_digit (b : Nat) : Nat := match b with
  | 0 => 0
  | _ => 0
set_option maxRecDepth 100000 in
theorem sb_X10_digit_0 {p : Program} {l : Launch} {e : Env} {s : State} {m : MethodId} {args : Array Value} {below : List Frame} {meth : Method} {c : Code} {g : Gm} {h0 : Hp} {P : PT} {mc ms : Nat} (X : Cx g p s m args meth c (Adom h0 s.heap.size) cX10_digit RX10 3) (hr : meth.sig.returnType = some .int) (hn : meth.name = "digit") : SX g p l e s m args below meth c d_X10_digit 3 mc ms h0 P (bk_X10_digit_0 l g (fun b => GX g p l e s m args below meth c d_X10_digit 3 mc ms h0 P (pc_X10_digit b)) P) 0 := (s_aload_n X dX10_digit_0 rfl (s_get X dX10_digit_1 (mcn (⟨_, _, _, _, rfl, inU_X10, by decide, uw_721, rfl⟩) (mnl)) (s_iload_n X dX10_digit_4 rfl (s_icmp_ge X dX10_digit_5 (by decide) (s_bipush X dX10_digit_29 rfl (s_iret X hr dX10_digit_31)) (s_aload_n X dX10_digit_8 rfl (s_get X dX10_digit_9 (mcn (⟨_, _, _, _, rfl, inU_X10, by decide, uw_713, rfl⟩) (mnl)) (s_aload_n X dX10_digit_12 rfl (s_get X dX10_digit_13 (mcn (⟨_, _, _, _, rfl, inU_X10, by decide, uw_721, rfl⟩) (mnl)) (s_iaload X dX10_digit_16 (s_bipush X dX10_digit_17 rfl (s_bipush X dX10_digit_19 rfl (s_iload_n X dX10_digit_21 rfl (s_iadd X dX10_digit_22 (s_callS X dX10_digit_23 uw_798 uw_799 uw_7 ci_X10_within yok_X10_within ⟨Nat.le_of_ble_eq_true rfl, Nat.le_of_ble_eq_true rfl⟩ (s_if_ne X dX10_digit_26 (by decide) (s_aload_n X dX10_digit_32 rfl (s_dup X dX10_digit_33 (s_get X dX10_digit_34 (mcn (⟨_, _, _, _, rfl, inU_X10, by decide, uw_721, rfl⟩) (mnl)) (s_iconst X dX10_digit_37 rfl (s_iadd X dX10_digit_38 (s_putI X dX10_digit_39 (mcn (⟨_, _, _, _, tyX10, rfl, inU_X10, by decide, uw_721, rfl, tyX10_ok, nmX10, rfl, rfl⟩) (mnl)) (s_aload_n X dX10_digit_42 rfl (s_get X dX10_digit_43 (mcn (⟨_, _, _, _, rfl, inU_X10, by decide, uw_713, rfl⟩) (mnl)) (s_aload_n X dX10_digit_46 rfl (s_get X dX10_digit_47 (mcn (⟨_, _, _, _, rfl, inU_X10, by decide, uw_721, rfl⟩) (mnl)) (s_iconst X dX10_digit_50 rfl (s_isub X dX10_digit_51 (s_iaload X dX10_digit_52 (s_bipush X dX10_digit_53 rfl (s_isub X dX10_digit_55 (s_iret X hr dX10_digit_56)))))))))))))))) (s_bipush X dX10_digit_29 rfl (s_iret X hr dX10_digit_31)))))))))))))))))
set_option maxRecDepth 100000 in
theorem vc_X10_digit {l : Launch} {g : Gm} {a0 : Nat} {a1 : Int32} {a2 : Int32} {h : Hp} {mc ms : Nat} {P : PT} (H : ∀ G : Nat → CT, (∀ (b : Nat) (h : Hp) (cb sb : Nat) (ls : LocS) (st : List Value), bk_X10_digit l g b G P h cb sb ls st → G b h cb sb ls st) → G 0 h mc ms [some (.ref a0), some (.int a1), some (.int a2)] []) : Run l g d_X10_digit [.ref a0, .int a1, .int a2] h mc ms P :=
  Run.of (d := d_X10_digit) (by decide) (mcn rfl (mcn rfl (mcn rfl (mnl)))) (Nat.le_of_ble_eq_true rfl) (fun p e s m args below meth c X hr hn => H (fun b => GX g p l e s m args below meth c d_X10_digit 3 mc ms h P (pc_X10_digit b)) (fun b h1 cb sb ls st hb => match b, hb with
    | 0, hb => sb_X10_digit_0 (p := p) (e := e) (below := below) X hr hn h1 cb sb ls st hb
    | _ + 1, hb => hb.elim))
theorem dX10_isSign_0 : decode cX10_isSign 0 = .ok (.aload_n 0, 1) := by decide +kernel
theorem dX10_isSign_1 : decode cX10_isSign 1 = .ok (.getfield 88, 3) := by decide +kernel
theorem dX10_isSign_4 : decode cX10_isSign 4 = .ok (.iload_n 1, 1) := by decide +kernel
theorem dX10_isSign_5 : decode cX10_isSign 5 = .ok (.if_icmp .ge 16, 3) := by decide +kernel
theorem dX10_isSign_8 : decode cX10_isSign 8 = .ok (.aload_n 0, 1) := by decide +kernel
theorem dX10_isSign_9 : decode cX10_isSign 9 = .ok (.getfield 16, 3) := by decide +kernel
theorem dX10_isSign_12 : decode cX10_isSign 12 = .ok (.aload_n 0, 1) := by decide +kernel
theorem dX10_isSign_13 : decode cX10_isSign 13 = .ok (.getfield 88, 3) := by decide +kernel
theorem dX10_isSign_16 : decode cX10_isSign 16 = .ok (.iaload, 1) := by decide +kernel
theorem dX10_isSign_17 : decode cX10_isSign 17 = .ok (.iload_n 2, 1) := by decide +kernel
theorem dX10_isSign_18 : decode cX10_isSign 18 = .ok (.if_icmp .eq 5, 3) := by decide +kernel
theorem dX10_isSign_21 : decode cX10_isSign 21 = .ok (.iconst 0, 1) := by decide +kernel
theorem dX10_isSign_22 : decode cX10_isSign 22 = .ok (.ireturn, 1) := by decide +kernel
theorem dX10_isSign_23 : decode cX10_isSign 23 = .ok (.aload_n 0, 1) := by decide +kernel
theorem dX10_isSign_24 : decode cX10_isSign 24 = .ok (.dup, 1) := by decide +kernel
theorem dX10_isSign_25 : decode cX10_isSign 25 = .ok (.getfield 88, 3) := by decide +kernel
theorem dX10_isSign_28 : decode cX10_isSign 28 = .ok (.iconst 1, 1) := by decide +kernel
theorem dX10_isSign_29 : decode cX10_isSign 29 = .ok (.iadd, 1) := by decide +kernel
theorem dX10_isSign_30 : decode cX10_isSign 30 = .ok (.putfield 88, 3) := by decide +kernel
theorem dX10_isSign_33 : decode cX10_isSign 33 = .ok (.iconst 1, 1) := by decide +kernel
theorem dX10_isSign_34 : decode cX10_isSign 34 = .ok (.ireturn, 1) := by decide +kernel
def bk_X10_isSign_0 (l : Launch) (g : Gm) (G : Nat → CT) (P : PT) : CT := (oALd 0 (oGet [10] 12 (oILd 1 (oCmp (fun x y => y ≤ x) (oPush (.int (0)) (oZRet P)) (oALd 0 (oGet [10] 4 (oALd 0 (oGet [10] 12 (oIAL g (oILd 2 (oCmp (fun x y => x = y) (oALd 0 (oDup (oGet [10] 12 (oPush (.int (1)) (oBin (fun x y => x + y) (oPutI [10] 12 (oPush (.int (1)) (oZRet P)))))))) (oPush (.int (0)) (oZRet P)))))))))))))
def bk_X10_isSign (l : Launch) (g : Gm) (b : Nat) (G : Nat → CT) (P : PT) : CT := match b with
  | 0 => bk_X10_isSign_0 l g G P
  | _ => fun _ _ _ _ _ => False
def pc_X10_isSign (b : Nat) : Nat := match b with
  | 0 => 0
  | _ => 0
set_option maxRecDepth 100000 in
theorem sb_X10_isSign_0 {p : Program} {l : Launch} {e : Env} {s : State} {m : MethodId} {args : Array Value} {below : List Frame} {meth : Method} {c : Code} {g : Gm} {h0 : Hp} {P : PT} {mc ms : Nat} (X : Cx g p s m args meth c (Adom h0 s.heap.size) cX10_isSign RX10 3) (hr : meth.sig.returnType = some .boolean) (hn : meth.name = "isSign") : SX g p l e s m args below meth c d_X10_isSign 3 mc ms h0 P (bk_X10_isSign_0 l g (fun b => GX g p l e s m args below meth c d_X10_isSign 3 mc ms h0 P (pc_X10_isSign b)) P) 0 := (s_aload_n X dX10_isSign_0 rfl (s_get X dX10_isSign_1 (mcn (⟨_, _, _, _, rfl, inU_X10, by decide, uw_721, rfl⟩) (mnl)) (s_iload_n X dX10_isSign_4 rfl (s_icmp_ge X dX10_isSign_5 (by decide) (s_iconst X dX10_isSign_21 rfl (s_zret X hr dX10_isSign_22)) (s_aload_n X dX10_isSign_8 rfl (s_get X dX10_isSign_9 (mcn (⟨_, _, _, _, rfl, inU_X10, by decide, uw_713, rfl⟩) (mnl)) (s_aload_n X dX10_isSign_12 rfl (s_get X dX10_isSign_13 (mcn (⟨_, _, _, _, rfl, inU_X10, by decide, uw_721, rfl⟩) (mnl)) (s_iaload X dX10_isSign_16 (s_iload_n X dX10_isSign_17 rfl (s_icmp_eq X dX10_isSign_18 (by decide) (s_aload_n X dX10_isSign_23 rfl (s_dup X dX10_isSign_24 (s_get X dX10_isSign_25 (mcn (⟨_, _, _, _, rfl, inU_X10, by decide, uw_721, rfl⟩) (mnl)) (s_iconst X dX10_isSign_28 rfl (s_iadd X dX10_isSign_29 (s_putI X dX10_isSign_30 (mcn (⟨_, _, _, _, tyX10, rfl, inU_X10, by decide, uw_721, rfl, tyX10_ok, nmX10, rfl, rfl⟩) (mnl)) (s_iconst X dX10_isSign_33 rfl (s_zret X hr dX10_isSign_34)))))))) (s_iconst X dX10_isSign_21 rfl (s_zret X hr dX10_isSign_22)))))))))))))
set_option maxRecDepth 100000 in
theorem vc_X10_isSign {l : Launch} {g : Gm} {a0 : Nat} {a1 : Int32} {a2 : Int32} {h : Hp} {mc ms : Nat} {P : PT} (H : ∀ G : Nat → CT, (∀ (b : Nat) (h : Hp) (cb sb : Nat) (ls : LocS) (st : List Value), bk_X10_isSign l g b G P h cb sb ls st → G b h cb sb ls st) → G 0 h mc ms [some (.ref a0), some (.int a1), some (.int a2)] []) : Run l g d_X10_isSign [.ref a0, .int a1, .int a2] h mc ms P :=
  Run.of (d := d_X10_isSign) (by decide) (mcn rfl (mcn rfl (mcn rfl (mnl)))) (Nat.le_of_ble_eq_true rfl) (fun p e s m args below meth c X hr hn => H (fun b => GX g p l e s m args below meth c d_X10_isSign 3 mc ms h P (pc_X10_isSign b)) (fun b h1 cb sb ls st hb => match b, hb with
    | 0, hb => sb_X10_isSign_0 (p := p) (e := e) (below := below) X hr hn h1 cb sb ls st hb
    | _ + 1, hb => hb.elim))
theorem dX10_land_0 : decode cX10_land 0 = .ok (.aload_n 0, 1) := by decide +kernel
theorem dX10_land_1 : decode cX10_land 1 = .ok (.iconst 0, 1) := by decide +kernel
theorem dX10_land_2 : decode cX10_land 2 = .ok (.putfield 71, 3) := by decide +kernel
theorem dX10_land_5 : decode cX10_land 5 = .ok (.iload_n 1, 1) := by decide +kernel
theorem dX10_land_6 : decode cX10_land 6 = .ok (.invokestatic 91, 3) := by decide +kernel
theorem dX10_land_9 : decode cX10_land 9 = .ok (.ifCond .ne 5, 3) := by decide +kernel
theorem dX10_land_12 : decode cX10_land 12 = .ok (.iconst (-1), 1) := by decide +kernel
theorem dX10_land_13 : decode cX10_land 13 = .ok (.ireturn, 1) := by decide +kernel
theorem dX10_land_14 : decode cX10_land 14 = .ok (.iload_n 2, 1) := by decide +kernel
theorem dX10_land_15 : decode cX10_land 15 = .ok (.invokestatic 94, 3) := by decide +kernel
theorem dX10_land_18 : decode cX10_land 18 = .ok (.ifCond .ne 6, 3) := by decide +kernel
theorem dX10_land_21 : decode cX10_land 21 = .ok (.bipush (-2), 2) := by decide +kernel
theorem dX10_land_23 : decode cX10_land 23 = .ok (.ireturn, 1) := by decide +kernel
theorem dX10_land_24 : decode cX10_land 24 = .ok (.aload_n 0, 1) := by decide +kernel
theorem dX10_land_25 : decode cX10_land 25 = .ok (.iload_n 1, 1) := by decide +kernel
theorem dX10_land_26 : decode cX10_land 26 = .ok (.iload_n 2, 1) := by decide +kernel
theorem dX10_land_27 : decode cX10_land 27 = .ok (.iload_n 3, 1) := by decide +kernel
theorem dX10_land_28 : decode cX10_land 28 = .ok (.iload 4, 2) := by decide +kernel
theorem dX10_land_30 : decode cX10_land 30 = .ok (.invokevirtual 97, 3) := by decide +kernel
theorem dX10_land_33 : decode cX10_land 33 = .ok (.istore 5, 2) := by decide +kernel
theorem dX10_land_35 : decode cX10_land 35 = .ok (.iload 5, 2) := by decide +kernel
theorem dX10_land_37 : decode cX10_land 37 = .ok (.ifCond .eq 10, 3) := by decide +kernel
theorem dX10_land_40 : decode cX10_land 40 = .ok (.aload_n 0, 1) := by decide +kernel
theorem dX10_land_41 : decode cX10_land 41 = .ok (.iload 5, 2) := by decide +kernel
theorem dX10_land_43 : decode cX10_land 43 = .ok (.invokevirtual 101, 3) := by decide +kernel
theorem dX10_land_46 : decode cX10_land 46 = .ok (.ireturn, 1) := by decide +kernel
theorem dX10_land_47 : decode cX10_land 47 = .ok (.bipush 60, 2) := by decide +kernel
theorem dX10_land_49 : decode cX10_land 49 = .ok (.iload_n 1, 1) := by decide +kernel
theorem dX10_land_50 : decode cX10_land 50 = .ok (.imul, 1) := by decide +kernel
theorem dX10_land_51 : decode cX10_land 51 = .ok (.iload_n 3, 1) := by decide +kernel
theorem dX10_land_52 : decode cX10_land 52 = .ok (.iadd, 1) := by decide +kernel
theorem dX10_land_53 : decode cX10_land 53 = .ok (.istore 6, 2) := by decide +kernel
theorem dX10_land_55 : decode cX10_land 55 = .ok (.aload_n 0, 1) := by decide +kernel
theorem dX10_land_56 : decode cX10_land 56 = .ok (.iload 6, 2) := by decide +kernel
theorem dX10_land_58 : decode cX10_land 58 = .ok (.putfield 88, 3) := by decide +kernel
theorem dX10_land_61 : decode cX10_land 61 = .ok (.aload_n 0, 1) := by decide +kernel
theorem dX10_land_62 : decode cX10_land 62 = .ok (.iload 6, 2) := by decide +kernel
theorem dX10_land_64 : decode cX10_land 64 = .ok (.iload 4, 2) := by decide +kernel
theorem dX10_land_66 : decode cX10_land 66 = .ok (.iadd, 1) := by decide +kernel
theorem dX10_land_67 : decode cX10_land 67 = .ok (.invokevirtual 105, 3) := by decide +kernel
theorem dX10_land_70 : decode cX10_land 70 = .ok (.ifCond .ne 14, 3) := by decide +kernel
theorem dX10_land_73 : decode cX10_land 73 = .ok (.bipush (-100), 2) := by decide +kernel
theorem dX10_land_75 : decode cX10_land 75 = .ok (.aload_n 0, 1) := by decide +kernel
theorem dX10_land_76 : decode cX10_land 76 = .ok (.getfield 88, 3) := by decide +kernel
theorem dX10_land_79 : decode cX10_land 79 = .ok (.iload 6, 2) := by decide +kernel
theorem dX10_land_81 : decode cX10_land 81 = .ok (.isub, 1) := by decide +kernel
theorem dX10_land_82 : decode cX10_land 82 = .ok (.isub, 1) := by decide +kernel
theorem dX10_land_83 : decode cX10_land 83 = .ok (.ireturn, 1) := by decide +kernel
theorem dX10_land_84 : decode cX10_land 84 = .ok (.aload_n 0, 1) := by decide +kernel
theorem dX10_land_85 : decode cX10_land 85 = .ok (.invokevirtual 108, 3) := by decide +kernel
theorem dX10_land_88 : decode cX10_land 88 = .ok (.istore 7, 2) := by decide +kernel
theorem dX10_land_90 : decode cX10_land 90 = .ok (.iload 7, 2) := by decide +kernel
theorem dX10_land_92 : decode cX10_land 92 = .ok (.bipush (-9), 2) := by decide +kernel
theorem dX10_land_94 : decode cX10_land 94 = .ok (.if_icmp .eq 10, 3) := by decide +kernel
theorem dX10_land_97 : decode cX10_land 97 = .ok (.sipush (-200), 3) := by decide +kernel
theorem dX10_land_100 : decode cX10_land 100 = .ok (.iload 7, 2) := by decide +kernel
theorem dX10_land_102 : decode cX10_land 102 = .ok (.isub, 1) := by decide +kernel
theorem dX10_land_103 : decode cX10_land 103 = .ok (.ireturn, 1) := by decide +kernel
theorem dX10_land_104 : decode cX10_land 104 = .ok (.aload_n 0, 1) := by decide +kernel
theorem dX10_land_105 : decode cX10_land 105 = .ok (.invokevirtual 112, 3) := by decide +kernel
theorem dX10_land_108 : decode cX10_land 108 = .ok (.ifCond .eq 7, 3) := by decide +kernel
theorem dX10_land_111 : decode cX10_land 111 = .ok (.sipush (-300), 3) := by decide +kernel
theorem dX10_land_114 : decode cX10_land 114 = .ok (.ireturn, 1) := by decide +kernel
theorem dX10_land_115 : decode cX10_land 115 = .ok (.aload_n 0, 1) := by decide +kernel
theorem dX10_land_116 : decode cX10_land 116 = .ok (.invokevirtual 116, 3) := by decide +kernel
theorem dX10_land_119 : decode cX10_land 119 = .ok (.aload_n 0, 1) := by decide +kernel
theorem dX10_land_120 : decode cX10_land 120 = .ok (.getfield 81, 3) := by decide +kernel
theorem dX10_land_123 : decode cX10_land 123 = .ok (.ireturn, 1) := by decide +kernel
def bk_X10_land_0 (l : Launch) (g : Gm) (G : Nat → CT) (P : PT) : CT := (oALd 0 (oPush (.int (0)) (oPutI [10] 0 (oILd 1 (oCall l g d_X10_isSheet 1 (oIf (fun x => x = 0) (oPush (.int (-1)) (oIRet P)) (oILd 2 (oCall l g d_X10_isSort 1 (oIf (fun x => x = 0) (oPush (.int (-2)) (oIRet P)) (oALd 0 (oILd 1 (oILd 2 (oILd 3 (oILd 4 (oCallV l g [(10, d_X10_against)] 5 (oISt 5 (oILd 5 (oIf (fun x => x = 0) (oPush (.int (60)) (oILd 1 (oBin (fun x y => x * y) (oILd 3 (oBin (fun x y => x + y) (oISt 6 (oALd 0 (oILd 6 (oPutI [10] 12 (oALd 0 (oILd 6 (oILd 4 (oBin (fun x y => x + y) (oCallV l g [(10, d_X10_readLand)] 2 (oIf (fun x => x = 0) (oPush (.int (-100)) (oALd 0 (oGet [10] 12 (oILd 6 (oBin (fun x y => x - y) (oBin (fun x y => x - y) (oIRet P))))))) (oALd 0 (oCallV l g [(10, d_X10_firstAmiss)] 1 (oISt 7 (oILd 7 (oPush (.int (-9)) (oCmp (fun x y => x = y) (oALd 0 (oCallV l g [(10, d_X10_isCircle)] 1 (oIf (fun x => x = 0) (oALd 0 (oCallV l g [(10, d_X10_takeLand)] 1 (oALd 0 (oGet [10] 5 (oIRet P))))) (oPush (.int (-300)) (oIRet P))))) (oPush (.int (-200)) (oILd 7 (oBin (fun x y => x - y) (oIRet P))))))))))))))))))))))))) (oALd 0 (oILd 5 (oCallV l g [(10, d_X10_fails)] 2 (oIRet P))))))))))))))))))))))
def bk_X10_land (l : Launch) (g : Gm) (b : Nat) (G : Nat → CT) (P : PT) : CT := match b with
  | 0 => bk_X10_land_0 l g G P
  | _ => fun _ _ _ _ _ => False
def pc_X10_land (b : Nat) : Nat := match b with
  | 0 => 0
  | _ => 0
set_option maxRecDepth 100000 in
theorem sb_X10_land_0 {p : Program} {l : Launch} {e : Env} {s : State} {m : MethodId} {args : Array Value} {below : List Frame} {meth : Method} {c : Code} {g : Gm} {h0 : Hp} {P : PT} {mc ms : Nat} (X : Cx g p s m args meth c (Adom h0 s.heap.size) cX10_land RX10 8) (hr : meth.sig.returnType = some .int) (hn : meth.name = "land") : SX g p l e s m args below meth c d_X10_land 8 mc ms h0 P (bk_X10_land_0 l g (fun b => GX g p l e s m args below meth c d_X10_land 8 mc ms h0 P (pc_X10_land b)) P) 0 := (s_aload_n X dX10_land_0 rfl (s_iconst X dX10_land_1 rfl (s_putI X dX10_land_2 (mcn (⟨_, _, _, _, tyX10, rfl, inU_X10, by decide, uw_709, rfl, tyX10_ok, nmX10, rfl, rfl⟩) (mnl)) (s_iload_n X dX10_land_5 rfl (s_callS X dX10_land_6 uw_795 uw_796 uw_7 ci_X10_isSheet yok_X10_isSheet ⟨Nat.le_of_ble_eq_true rfl, Nat.le_of_ble_eq_true rfl⟩ (s_if_ne X dX10_land_9 (by decide) (s_iload_n X dX10_land_14 rfl (s_callS X dX10_land_15 uw_801 uw_802 uw_7 ci_X10_isSort yok_X10_isSort ⟨Nat.le_of_ble_eq_true rfl, Nat.le_of_ble_eq_true rfl⟩ (s_if_ne X dX10_land_18 (by decide) (s_aload_n X dX10_land_24 rfl (s_iload_n X dX10_land_25 rfl (s_iload_n X dX10_land_26 rfl (s_iload_n X dX10_land_27 rfl (s_iload X dX10_land_28 (s_callV X dX10_land_30 (mv (vok_V X rfl uw_804 uw_806 (UW_pr 16 rfl rfl) uw_7 ci_X10_against yok_X10_against ⟨Nat.le_of_ble_eq_true rfl, Nat.le_of_ble_eq_true rfl⟩) mv0) (s_istore X dX10_land_33 (by decide) (s_iload X dX10_land_35 (s_if_eq X dX10_land_37 (by decide) (s_bipush X dX10_land_47 rfl (s_iload_n X dX10_land_49 rfl (s_imul X dX10_land_50 (s_iload_n X dX10_land_51 rfl (s_iadd X dX10_land_52 (s_istore X dX10_land_53 (by decide) (s_aload_n X dX10_land_55 rfl (s_iload X dX10_land_56 (s_putI X dX10_land_58 (mcn (⟨_, _, _, _, tyX10, rfl, inU_X10, by decide, uw_721, rfl, tyX10_ok, nmX10, rfl, rfl⟩) (mnl)) (s_aload_n X dX10_land_61 rfl (s_iload X dX10_land_62 (s_iload X dX10_land_64 (s_iadd X dX10_land_66 (s_callV X dX10_land_67 (mv (vok_V X rfl uw_812 uw_814 (UW_pr 18 rfl rfl) uw_7 ci_X10_readLand yok_X10_readLand ⟨Nat.le_of_ble_eq_true rfl, Nat.le_of_ble_eq_true rfl⟩) mv0) (s_if_ne X dX10_land_70 (by decide) (s_aload_n X dX10_land_84 rfl (s_callV X dX10_land_85 (mv (vok_V X rfl uw_836 uw_838 (UW_pr 24 rfl rfl) uw_7 ci_X10_firstAmiss yok_X10_firstAmiss ⟨Nat.le_of_ble_eq_true rfl, Nat.le_of_ble_eq_true rfl⟩) mv0) (s_istore X dX10_land_88 (by decide) (s_iload X dX10_land_90 (s_bipush X dX10_land_92 rfl (s_icmp_eq X dX10_land_94 (by decide) (s_aload_n X dX10_land_104 rfl (s_callV X dX10_land_105 (mv (vok_V X rfl uw_840 uw_842 (UW_pr 25 rfl rfl) uw_7 ci_X10_isCircle yok_X10_isCircle ⟨Nat.le_of_ble_eq_true rfl, Nat.le_of_ble_eq_true rfl⟩) mv0) (s_if_eq X dX10_land_108 (by decide) (s_aload_n X dX10_land_115 rfl (s_callV X dX10_land_116 (mv (vok_V X rfl uw_856 uw_858 (UW_pr 29 rfl rfl) uw_7 ci_X10_takeLand yok_X10_takeLand ⟨Nat.le_of_ble_eq_true rfl, Nat.le_of_ble_eq_true rfl⟩) mv0) (s_aload_n X dX10_land_119 rfl (s_get X dX10_land_120 (mcn (⟨_, _, _, _, rfl, inU_X10, by decide, uw_714, rfl⟩) (mnl)) (s_iret X hr dX10_land_123))))) (s_sipush X dX10_land_111 rfl (s_iret X hr dX10_land_114))))) (s_sipush X dX10_land_97 rfl (s_iload X dX10_land_100 (s_isub X dX10_land_102 (s_iret X hr dX10_land_103)))))))))) (s_bipush X dX10_land_73 rfl (s_aload_n X dX10_land_75 rfl (s_get X dX10_land_76 (mcn (⟨_, _, _, _, rfl, inU_X10, by decide, uw_721, rfl⟩) (mnl)) (s_iload X dX10_land_79 (s_isub X dX10_land_81 (s_isub X dX10_land_82 (s_iret X hr dX10_land_83)))))))))))))))))))))) (s_aload_n X dX10_land_40 rfl (s_iload X dX10_land_41 (s_callV X dX10_land_43 (mv (vok_V X rfl uw_808 uw_810 (UW_pr 17 rfl rfl) uw_7 ci_X10_fails yok_X10_fails ⟨Nat.le_of_ble_eq_true rfl, Nat.le_of_ble_eq_true rfl⟩) mv0) (s_iret X hr dX10_land_46))))))))))))) (s_bipush X dX10_land_21 rfl (s_iret X hr dX10_land_23))))) (s_iconst X dX10_land_12 rfl (s_iret X hr dX10_land_13))))))))
set_option maxRecDepth 100000 in
theorem vc_X10_land {l : Launch} {g : Gm} {a0 : Nat} {a1 : Int32} {a2 : Int32} {a3 : Int32} {a4 : Int32} {h : Hp} {mc ms : Nat} {P : PT} (H : ∀ G : Nat → CT, (∀ (b : Nat) (h : Hp) (cb sb : Nat) (ls : LocS) (st : List Value), bk_X10_land l g b G P h cb sb ls st → G b h cb sb ls st) → G 0 h mc ms [some (.ref a0), some (.int a1), some (.int a2), some (.int a3), some (.int a4), none, none, none] []) : Run l g d_X10_land [.ref a0, .int a1, .int a2, .int a3, .int a4] h mc ms P :=
  Run.of (d := d_X10_land) (by decide) (mcn rfl (mcn rfl (mcn rfl (mcn rfl (mcn rfl (mnl)))))) (Nat.le_of_ble_eq_true rfl) (fun p e s m args below meth c X hr hn => H (fun b => GX g p l e s m args below meth c d_X10_land 8 mc ms h P (pc_X10_land b)) (fun b h1 cb sb ls st hb => match b, hb with
    | 0, hb => sb_X10_land_0 (p := p) (e := e) (below := below) X hr hn h1 cb sb ls st hb
    | _ + 1, hb => hb.elim))
theorem dX10_takeLand_0 : decode cX10_takeLand 0 = .ok (.aload_n 0, 1) := by decide +kernel
theorem dX10_takeLand_1 : decode cX10_takeLand 1 = .ok (.aload_n 0, 1) := by decide +kernel
theorem dX10_takeLand_2 : decode cX10_takeLand 2 = .ok (.getfield 119, 3) := by decide +kernel
theorem dX10_takeLand_5 : decode cX10_takeLand 5 = .ok (.putfield 81, 3) := by decide +kernel
theorem dX10_takeLand_8 : decode cX10_takeLand 8 = .ok (.iconst 0, 1) := by decide +kernel
theorem dX10_takeLand_9 : decode cX10_takeLand 9 = .ok (.istore_n 1, 1) := by decide +kernel
theorem dX10_takeLand_10 : decode cX10_takeLand 10 = .ok (.iload_n 1, 1) := by decide +kernel
theorem dX10_takeLand_11 : decode cX10_takeLand 11 = .ok (.aload_n 0, 1) := by decide +kernel
theorem dX10_takeLand_12 : decode cX10_takeLand 12 = .ok (.getfield 81, 3) := by decide +kernel
theorem dX10_takeLand_15 : decode cX10_takeLand 15 = .ok (.if_icmp .ge 40, 3) := by decide +kernel
theorem dX10_takeLand_18 : decode cX10_takeLand 18 = .ok (.aload_n 0, 1) := by decide +kernel
theorem dX10_takeLand_19 : decode cX10_takeLand 19 = .ok (.getfield 19, 3) := by decide +kernel
theorem dX10_takeLand_22 : decode cX10_takeLand 22 = .ok (.iload_n 1, 1) := by decide +kernel
theorem dX10_takeLand_23 : decode cX10_takeLand 23 = .ok (.aload_n 0, 1) := by decide +kernel
theorem dX10_takeLand_24 : decode cX10_takeLand 24 = .ok (.getfield 37, 3) := by decide +kernel
theorem dX10_takeLand_27 : decode cX10_takeLand 27 = .ok (.iload_n 1, 1) := by decide +kernel
theorem dX10_takeLand_28 : decode cX10_takeLand 28 = .ok (.iaload, 1) := by decide +kernel
theorem dX10_takeLand_29 : decode cX10_takeLand 29 = .ok (.iastore, 1) := by decide +kernel
theorem dX10_takeLand_30 : decode cX10_takeLand 30 = .ok (.aload_n 0, 1) := by decide +kernel
theorem dX10_takeLand_31 : decode cX10_takeLand 31 = .ok (.getfield 22, 3) := by decide +kernel
theorem dX10_takeLand_34 : decode cX10_takeLand 34 = .ok (.iload_n 1, 1) := by decide +kernel
theorem dX10_takeLand_35 : decode cX10_takeLand 35 = .ok (.aload_n 0, 1) := by decide +kernel
theorem dX10_takeLand_36 : decode cX10_takeLand 36 = .ok (.getfield 40, 3) := by decide +kernel
theorem dX10_takeLand_39 : decode cX10_takeLand 39 = .ok (.iload_n 1, 1) := by decide +kernel
theorem dX10_takeLand_40 : decode cX10_takeLand 40 = .ok (.iaload, 1) := by decide +kernel
theorem dX10_takeLand_41 : decode cX10_takeLand 41 = .ok (.iastore, 1) := by decide +kernel
theorem dX10_takeLand_42 : decode cX10_takeLand 42 = .ok (.aload_n 0, 1) := by decide +kernel
theorem dX10_takeLand_43 : decode cX10_takeLand 43 = .ok (.getfield 34, 3) := by decide +kernel
theorem dX10_takeLand_46 : decode cX10_takeLand 46 = .ok (.iload_n 1, 1) := by decide +kernel
theorem dX10_takeLand_47 : decode cX10_takeLand 47 = .ok (.iconst 0, 1) := by decide +kernel
theorem dX10_takeLand_48 : decode cX10_takeLand 48 = .ok (.iastore, 1) := by decide +kernel
theorem dX10_takeLand_49 : decode cX10_takeLand 49 = .ok (.iinc 1 1, 3) := by decide +kernel
theorem dX10_takeLand_52 : decode cX10_takeLand 52 = .ok (.goto (-42), 3) := by decide +kernel
theorem dX10_takeLand_55 : decode cX10_takeLand 55 = .ok (.iconst 0, 1) := by decide +kernel
theorem dX10_takeLand_56 : decode cX10_takeLand 56 = .ok (.istore_n 1, 1) := by decide +kernel
theorem dX10_takeLand_57 : decode cX10_takeLand 57 = .ok (.iload_n 1, 1) := by decide +kernel
theorem dX10_takeLand_58 : decode cX10_takeLand 58 = .ok (.bipush 20, 2) := by decide +kernel
theorem dX10_takeLand_60 : decode cX10_takeLand 60 = .ok (.if_icmp .ge 33, 3) := by decide +kernel
theorem dX10_takeLand_63 : decode cX10_takeLand 63 = .ok (.aload_n 0, 1) := by decide +kernel
theorem dX10_takeLand_64 : decode cX10_takeLand 64 = .ok (.getfield 25, 3) := by decide +kernel
theorem dX10_takeLand_67 : decode cX10_takeLand 67 = .ok (.iload_n 1, 1) := by decide +kernel
theorem dX10_takeLand_68 : decode cX10_takeLand 68 = .ok (.aload_n 0, 1) := by decide +kernel
theorem dX10_takeLand_69 : decode cX10_takeLand 69 = .ok (.getfield 43, 3) := by decide +kernel
theorem dX10_takeLand_72 : decode cX10_takeLand 72 = .ok (.iload_n 1, 1) := by decide +kernel
theorem dX10_takeLand_73 : decode cX10_takeLand 73 = .ok (.iaload, 1) := by decide +kernel
theorem dX10_takeLand_74 : decode cX10_takeLand 74 = .ok (.iastore, 1) := by decide +kernel
theorem dX10_takeLand_75 : decode cX10_takeLand 75 = .ok (.aload_n 0, 1) := by decide +kernel
theorem dX10_takeLand_76 : decode cX10_takeLand 76 = .ok (.getfield 28, 3) := by decide +kernel
theorem dX10_takeLand_79 : decode cX10_takeLand 79 = .ok (.iload_n 1, 1) := by decide +kernel
theorem dX10_takeLand_80 : decode cX10_takeLand 80 = .ok (.aload_n 0, 1) := by decide +kernel
theorem dX10_takeLand_81 : decode cX10_takeLand 81 = .ok (.getfield 46, 3) := by decide +kernel
theorem dX10_takeLand_84 : decode cX10_takeLand 84 = .ok (.iload_n 1, 1) := by decide +kernel
theorem dX10_takeLand_85 : decode cX10_takeLand 85 = .ok (.iaload, 1) := by decide +kernel
theorem dX10_takeLand_86 : decode cX10_takeLand 86 = .ok (.iastore, 1) := by decide +kernel
theorem dX10_takeLand_87 : decode cX10_takeLand 87 = .ok (.iinc 1 1, 3) := by decide +kernel
theorem dX10_takeLand_90 : decode cX10_takeLand 90 = .ok (.goto (-33), 3) := by decide +kernel
theorem dX10_takeLand_93 : decode cX10_takeLand 93 = .ok (.iconst 0, 1) := by decide +kernel
theorem dX10_takeLand_94 : decode cX10_takeLand 94 = .ok (.istore_n 1, 1) := by decide +kernel
theorem dX10_takeLand_95 : decode cX10_takeLand 95 = .ok (.iload_n 1, 1) := by decide +kernel
theorem dX10_takeLand_96 : decode cX10_takeLand 96 = .ok (.bipush 80, 2) := by decide +kernel
theorem dX10_takeLand_98 : decode cX10_takeLand 98 = .ok (.if_icmp .ge 21, 3) := by decide +kernel
theorem dX10_takeLand_101 : decode cX10_takeLand 101 = .ok (.aload_n 0, 1) := by decide +kernel
theorem dX10_takeLand_102 : decode cX10_takeLand 102 = .ok (.getfield 31, 3) := by decide +kernel
theorem dX10_takeLand_105 : decode cX10_takeLand 105 = .ok (.iload_n 1, 1) := by decide +kernel
theorem dX10_takeLand_106 : decode cX10_takeLand 106 = .ok (.aload_n 0, 1) := by decide +kernel
theorem dX10_takeLand_107 : decode cX10_takeLand 107 = .ok (.getfield 49, 3) := by decide +kernel
theorem dX10_takeLand_110 : decode cX10_takeLand 110 = .ok (.iload_n 1, 1) := by decide +kernel
theorem dX10_takeLand_111 : decode cX10_takeLand 111 = .ok (.iaload, 1) := by decide +kernel
theorem dX10_takeLand_112 : decode cX10_takeLand 112 = .ok (.iastore, 1) := by decide +kernel
theorem dX10_takeLand_113 : decode cX10_takeLand 113 = .ok (.iinc 1 1, 3) := by decide +kernel
theorem dX10_takeLand_116 : decode cX10_takeLand 116 = .ok (.goto (-21), 3) := by decide +kernel
theorem dX10_takeLand_119 : decode cX10_takeLand 119 = .ok (.aload_n 0, 1) := by decide +kernel
theorem dX10_takeLand_120 : decode cX10_takeLand 120 = .ok (.iconst 0, 1) := by decide +kernel
theorem dX10_takeLand_121 : decode cX10_takeLand 121 = .ok (.putfield 122, 3) := by decide +kernel
theorem dX10_takeLand_124 : decode cX10_takeLand 124 = .ok (.return_, 1) := by decide +kernel
def bk_X10_takeLand_0 (l : Launch) (g : Gm) (G : Nat → CT) (P : PT) : CT := (oALd 0 (oALd 0 (oGet [10] 13 (oPutI [10] 5 (oPush (.int (0)) (oISt 1 (G 1)))))))
def bk_X10_takeLand_1 (l : Launch) (g : Gm) (G : Nat → CT) (P : PT) : CT := (oILd 1 (oALd 0 (oGet [10] 5 (oCmp (fun x y => y ≤ x) (oPush (.int (0)) (oISt 1 (G 2))) (oALd 0 (oGet [10] 6 (oILd 1 (oALd 0 (oGet [10] 14 (oILd 1 (oIAL g (oIAS g (oALd 0 (oGet [10] 7 (oILd 1 (oALd 0 (oGet [10] 15 (oILd 1 (oIAL g (oIAS g (oALd 0 (oGet [10] 11 (oILd 1 (oPush (.int (0)) (oIAS g (oInc 1 (1) (oGo (G 1))))))))))))))))))))))))))))
def bk_X10_takeLand_2 (l : Launch) (g : Gm) (G : Nat → CT) (P : PT) : CT := (oILd 1 (oPush (.int (20)) (oCmp (fun x y => y ≤ x) (oPush (.int (0)) (oISt 1 (G 3))) (oALd 0 (oGet [10] 8 (oILd 1 (oALd 0 (oGet [10] 16 (oILd 1 (oIAL g (oIAS g (oALd 0 (oGet [10] 9 (oILd 1 (oALd 0 (oGet [10] 17 (oILd 1 (oIAL g (oIAS g (oInc 1 (1) (oGo (G 2))))))))))))))))))))))
def bk_X10_takeLand_3 (l : Launch) (g : Gm) (G : Nat → CT) (P : PT) : CT := (oILd 1 (oPush (.int (80)) (oCmp (fun x y => y ≤ x) (oALd 0 (oPush (.int (0)) (oPutI [10] 24 (oVRet P)))) (oALd 0 (oGet [10] 10 (oILd 1 (oALd 0 (oGet [10] 18 (oILd 1 (oIAL g (oIAS g (oInc 1 (1) (oGo (G 3))))))))))))))
def bk_X10_takeLand (l : Launch) (g : Gm) (b : Nat) (G : Nat → CT) (P : PT) : CT := match b with
  | 0 => bk_X10_takeLand_0 l g G P
  | 1 => bk_X10_takeLand_1 l g G P
  | 2 => bk_X10_takeLand_2 l g G P
  | 3 => bk_X10_takeLand_3 l g G P
  | _ => fun _ _ _ _ _ => False
def pc_X10_takeLand (b : Nat) : Nat := match b with
  | 0 => 0
  | 1 => 10
  | 2 => 57
  | 3 => 95
  | _ => 0
set_option maxRecDepth 100000 in
theorem sb_X10_takeLand_0 {p : Program} {l : Launch} {e : Env} {s : State} {m : MethodId} {args : Array Value} {below : List Frame} {meth : Method} {c : Code} {g : Gm} {h0 : Hp} {P : PT} {mc ms : Nat} (X : Cx g p s m args meth c (Adom h0 s.heap.size) cX10_takeLand RX10 2) (hr : meth.sig.returnType = none) (hn : meth.name = "takeLand") : SX g p l e s m args below meth c d_X10_takeLand 2 mc ms h0 P (bk_X10_takeLand_0 l g (fun b => GX g p l e s m args below meth c d_X10_takeLand 2 mc ms h0 P (pc_X10_takeLand b)) P) 0 := (s_aload_n X dX10_takeLand_0 rfl (s_aload_n X dX10_takeLand_1 rfl (s_get X dX10_takeLand_2 (mcn (⟨_, _, _, _, rfl, inU_X10, by decide, uw_722, rfl⟩) (mnl)) (s_putI X dX10_takeLand_5 (mcn (⟨_, _, _, _, tyX10, rfl, inU_X10, by decide, uw_714, rfl, tyX10_ok, nmX10, rfl, rfl⟩) (mnl)) (s_iconst X dX10_takeLand_8 rfl (s_istore_n X dX10_takeLand_9 rfl (by decide) Sd.rf))))))
set_option maxRecDepth 100000 in
theorem sb_X10_takeLand_1 {p : Program} {l : Launch} {e : Env} {s : State} {m : MethodId} {args : Array Value} {below : List Frame} {meth : Method} {c : Code} {g : Gm} {h0 : Hp} {P : PT} {mc ms : Nat} (X : Cx g p s m args meth c (Adom h0 s.heap.size) cX10_takeLand RX10 2) (hr : meth.sig.returnType = none) (hn : meth.name = "takeLand") : SX g p l e s m args below meth c d_X10_takeLand 2 mc ms h0 P (bk_X10_takeLand_1 l g (fun b => GX g p l e s m args below meth c d_X10_takeLand 2 mc ms h0 P (pc_X10_takeLand b)) P) 10 := (s_iload_n X dX10_takeLand_10 rfl (s_aload_n X dX10_takeLand_11 rfl (s_get X dX10_takeLand_12 (mcn (⟨_, _, _, _, rfl, inU_X10, by decide, uw_714, rfl⟩) (mnl)) (s_icmp_ge X dX10_takeLand_15 (by decide) (s_iconst X dX10_takeLand_55 rfl (s_istore_n X dX10_takeLand_56 rfl (by decide) Sd.rf)) (s_aload_n X dX10_takeLand_18 rfl (s_get X dX10_takeLand_19 (mcn (⟨_, _, _, _, rfl, inU_X10, by decide, uw_715, rfl⟩) (mnl)) (s_iload_n X dX10_takeLand_22 rfl (s_aload_n X dX10_takeLand_23 rfl (s_get X dX10_takeLand_24 (mcn (⟨_, _, _, _, rfl, inU_X10, by decide, uw_723, rfl⟩) (mnl)) (s_iload_n X dX10_takeLand_27 rfl (s_iaload X dX10_takeLand_28 (s_iastore X dX10_takeLand_29 (s_aload_n X dX10_takeLand_30 rfl (s_get X dX10_takeLand_31 (mcn (⟨_, _, _, _, rfl, inU_X10, by decide, uw_716, rfl⟩) (mnl)) (s_iload_n X dX10_takeLand_34 rfl (s_aload_n X dX10_takeLand_35 rfl (s_get X dX10_takeLand_36 (mcn (⟨_, _, _, _, rfl, inU_X10, by decide, uw_724, rfl⟩) (mnl)) (s_iload_n X dX10_takeLand_39 rfl (s_iaload X dX10_takeLand_40 (s_iastore X dX10_takeLand_41 (s_aload_n X dX10_takeLand_42 rfl (s_get X dX10_takeLand_43 (mcn (⟨_, _, _, _, rfl, inU_X10, by decide, uw_720, rfl⟩) (mnl)) (s_iload_n X dX10_takeLand_46 rfl (s_iconst X dX10_takeLand_47 rfl (s_iastore X dX10_takeLand_48 (s_iinc X dX10_takeLand_49 rfl (by decide) (s_goto X dX10_takeLand_52 (by decide) Sd.rf)))))))))))))))))))))))))))
set_option maxRecDepth 100000 in
theorem sb_X10_takeLand_2 {p : Program} {l : Launch} {e : Env} {s : State} {m : MethodId} {args : Array Value} {below : List Frame} {meth : Method} {c : Code} {g : Gm} {h0 : Hp} {P : PT} {mc ms : Nat} (X : Cx g p s m args meth c (Adom h0 s.heap.size) cX10_takeLand RX10 2) (hr : meth.sig.returnType = none) (hn : meth.name = "takeLand") : SX g p l e s m args below meth c d_X10_takeLand 2 mc ms h0 P (bk_X10_takeLand_2 l g (fun b => GX g p l e s m args below meth c d_X10_takeLand 2 mc ms h0 P (pc_X10_takeLand b)) P) 57 := (s_iload_n X dX10_takeLand_57 rfl (s_bipush X dX10_takeLand_58 rfl (s_icmp_ge X dX10_takeLand_60 (by decide) (s_iconst X dX10_takeLand_93 rfl (s_istore_n X dX10_takeLand_94 rfl (by decide) Sd.rf)) (s_aload_n X dX10_takeLand_63 rfl (s_get X dX10_takeLand_64 (mcn (⟨_, _, _, _, rfl, inU_X10, by decide, uw_717, rfl⟩) (mnl)) (s_iload_n X dX10_takeLand_67 rfl (s_aload_n X dX10_takeLand_68 rfl (s_get X dX10_takeLand_69 (mcn (⟨_, _, _, _, rfl, inU_X10, by decide, uw_725, rfl⟩) (mnl)) (s_iload_n X dX10_takeLand_72 rfl (s_iaload X dX10_takeLand_73 (s_iastore X dX10_takeLand_74 (s_aload_n X dX10_takeLand_75 rfl (s_get X dX10_takeLand_76 (mcn (⟨_, _, _, _, rfl, inU_X10, by decide, uw_718, rfl⟩) (mnl)) (s_iload_n X dX10_takeLand_79 rfl (s_aload_n X dX10_takeLand_80 rfl (s_get X dX10_takeLand_81 (mcn (⟨_, _, _, _, rfl, inU_X10, by decide, uw_726, rfl⟩) (mnl)) (s_iload_n X dX10_takeLand_84 rfl (s_iaload X dX10_takeLand_85 (s_iastore X dX10_takeLand_86 (s_iinc X dX10_takeLand_87 rfl (by decide) (s_goto X dX10_takeLand_90 (by decide) Sd.rf)))))))))))))))))))))
set_option maxRecDepth 100000 in
theorem sb_X10_takeLand_3 {p : Program} {l : Launch} {e : Env} {s : State} {m : MethodId} {args : Array Value} {below : List Frame} {meth : Method} {c : Code} {g : Gm} {h0 : Hp} {P : PT} {mc ms : Nat} (X : Cx g p s m args meth c (Adom h0 s.heap.size) cX10_takeLand RX10 2) (hr : meth.sig.returnType = none) (hn : meth.name = "takeLand") : SX g p l e s m args below meth c d_X10_takeLand 2 mc ms h0 P (bk_X10_takeLand_3 l g (fun b => GX g p l e s m args below meth c d_X10_takeLand 2 mc ms h0 P (pc_X10_takeLand b)) P) 95 := (s_iload_n X dX10_takeLand_95 rfl (s_bipush X dX10_takeLand_96 rfl (s_icmp_ge X dX10_takeLand_98 (by decide) (s_aload_n X dX10_takeLand_119 rfl (s_iconst X dX10_takeLand_120 rfl (s_putI X dX10_takeLand_121 (mcn (⟨_, _, _, _, tyX10, rfl, inU_X10, by decide, uw_733, rfl, tyX10_ok, nmX10, rfl, rfl⟩) (mnl)) (s_vret X hr dX10_takeLand_124)))) (s_aload_n X dX10_takeLand_101 rfl (s_get X dX10_takeLand_102 (mcn (⟨_, _, _, _, rfl, inU_X10, by decide, uw_719, rfl⟩) (mnl)) (s_iload_n X dX10_takeLand_105 rfl (s_aload_n X dX10_takeLand_106 rfl (s_get X dX10_takeLand_107 (mcn (⟨_, _, _, _, rfl, inU_X10, by decide, uw_727, rfl⟩) (mnl)) (s_iload_n X dX10_takeLand_110 rfl (s_iaload X dX10_takeLand_111 (s_iastore X dX10_takeLand_112 (s_iinc X dX10_takeLand_113 rfl (by decide) (s_goto X dX10_takeLand_116 (by decide) Sd.rf)))))))))))))
set_option maxRecDepth 100000 in
theorem vc_X10_takeLand {l : Launch} {g : Gm} {a0 : Nat} {h : Hp} {mc ms : Nat} {P : PT} (H : ∀ G : Nat → CT, (∀ (b : Nat) (h : Hp) (cb sb : Nat) (ls : LocS) (st : List Value), bk_X10_takeLand l g b G P h cb sb ls st → G b h cb sb ls st) → G 0 h mc ms [some (.ref a0), none] []) : Run l g d_X10_takeLand [.ref a0] h mc ms P :=
  Run.of (d := d_X10_takeLand) (by decide) (mcn rfl (mnl)) (Nat.le_of_ble_eq_true rfl) (fun p e s m args below meth c X hr hn => H (fun b => GX g p l e s m args below meth c d_X10_takeLand 2 mc ms h P (pc_X10_takeLand b)) (fun b h1 cb sb ls st hb => match b, hb with
    | 0, hb => sb_X10_takeLand_0 (p := p) (e := e) (below := below) X hr hn h1 cb sb ls st hb
    | 1, hb => sb_X10_takeLand_1 (p := p) (e := e) (below := below) X hr hn h1 cb sb ls st hb
    | 2, hb => sb_X10_takeLand_2 (p := p) (e := e) (below := below) X hr hn h1 cb sb ls st hb
    | 3, hb => sb_X10_takeLand_3 (p := p) (e := e) (below := below) X hr hn h1 cb sb ls st hb
    | _ + 4, hb => hb.elim))
theorem dX10_readLand_0 : decode cX10_readLand 0 = .ok (.aload_n 0, 1) := by decide +kernel
theorem dX10_readLand_1 : decode cX10_readLand 1 = .ok (.iconst 0, 1) := by decide +kernel
theorem dX10_readLand_2 : decode cX10_readLand 2 = .ok (.putfield 119, 3) := by decide +kernel
theorem dX10_readLand_5 : decode cX10_readLand 5 = .ok (.aload_n 0, 1) := by decide +kernel
theorem dX10_readLand_6 : decode cX10_readLand 6 = .ok (.iload_n 1, 1) := by decide +kernel
theorem dX10_readLand_7 : decode cX10_readLand 7 = .ok (.bipush 118, 2) := by decide +kernel
theorem dX10_readLand_9 : decode cX10_readLand 9 = .ok (.invokevirtual 125, 3) := by decide +kernel
theorem dX10_readLand_12 : decode cX10_readLand 12 = .ok (.ifCond .ne 5, 3) := by decide +kernel
theorem dX10_readLand_15 : decode cX10_readLand 15 = .ok (.iconst 0, 1) := by decide +kernel
theorem dX10_readLand_16 : decode cX10_readLand 16 = .ok (.ireturn, 1) := by decide +kernel
theorem dX10_readLand_17 : decode cX10_readLand 17 = .ok (.aload_n 0, 1) := by decide +kernel
theorem dX10_readLand_18 : decode cX10_readLand 18 = .ok (.getfield 119, 3) := by decide +kernel
theorem dX10_readLand_21 : decode cX10_readLand 21 = .ok (.iconst 2, 1) := by decide +kernel
theorem dX10_readLand_22 : decode cX10_readLand 22 = .ok (.if_icmp .lt 19, 3) := by decide +kernel
theorem dX10_readLand_25 : decode cX10_readLand 25 = .ok (.aload_n 0, 1) := by decide +kernel
theorem dX10_readLand_26 : decode cX10_readLand 26 = .ok (.getfield 119, 3) := by decide +kernel
theorem dX10_readLand_29 : decode cX10_readLand 29 = .ok (.iconst 4, 1) := by decide +kernel
theorem dX10_readLand_30 : decode cX10_readLand 30 = .ok (.if_icmp .ge 31, 3) := by decide +kernel
theorem dX10_readLand_33 : decode cX10_readLand 33 = .ok (.aload_n 0, 1) := by decide +kernel
theorem dX10_readLand_34 : decode cX10_readLand 34 = .ok (.getfield 88, 3) := by decide +kernel
theorem dX10_readLand_37 : decode cX10_readLand 37 = .ok (.iload_n 1, 1) := by decide +kernel
theorem dX10_readLand_38 : decode cX10_readLand 38 = .ok (.if_icmp .ge 23, 3) := by decide +kernel
theorem dX10_readLand_41 : decode cX10_readLand 41 = .ok (.aload_n 0, 1) := by decide +kernel
theorem dX10_readLand_42 : decode cX10_readLand 42 = .ok (.iload_n 1, 1) := by decide +kernel
theorem dX10_readLand_43 : decode cX10_readLand 43 = .ok (.bipush 59, 2) := by decide +kernel
theorem dX10_readLand_45 : decode cX10_readLand 45 = .ok (.invokevirtual 125, 3) := by decide +kernel
theorem dX10_readLand_48 : decode cX10_readLand 48 = .ok (.ifCond .eq 11, 3) := by decide +kernel
theorem dX10_readLand_51 : decode cX10_readLand 51 = .ok (.aload_n 0, 1) := by decide +kernel
theorem dX10_readLand_52 : decode cX10_readLand 52 = .ok (.iload_n 1, 1) := by decide +kernel
theorem dX10_readLand_53 : decode cX10_readLand 53 = .ok (.invokevirtual 129, 3) := by decide +kernel
theorem dX10_readLand_56 : decode cX10_readLand 56 = .ok (.ifCond .ne (-39), 3) := by decide +kernel
theorem dX10_readLand_59 : decode cX10_readLand 59 = .ok (.iconst 0, 1) := by decide +kernel
theorem dX10_readLand_60 : decode cX10_readLand 60 = .ok (.ireturn, 1) := by decide +kernel
theorem dX10_readLand_61 : decode cX10_readLand 61 = .ok (.aload_n 0, 1) := by decide +kernel
theorem dX10_readLand_62 : decode cX10_readLand 62 = .ok (.getfield 88, 3) := by decide +kernel
theorem dX10_readLand_65 : decode cX10_readLand 65 = .ok (.iload_n 1, 1) := by decide +kernel
theorem dX10_readLand_66 : decode cX10_readLand 66 = .ok (.if_icmp .ne 7, 3) := by decide +kernel
theorem dX10_readLand_69 : decode cX10_readLand 69 = .ok (.iconst 1, 1) := by decide +kernel
theorem dX10_readLand_70 : decode cX10_readLand 70 = .ok (.goto 4, 3) := by decide +kernel
theorem dX10_readLand_73 : decode cX10_readLand 73 = .ok (.iconst 0, 1) := by decide +kernel
theorem dX10_readLand_74 : decode cX10_readLand 74 = .ok (.ireturn, 1) := by decide +kernel
def bk_X10_readLand_0 (l : Launch) (g : Gm) (G : Nat → CT) (P : PT) : CT := (oALd 0 (oPush (.int (0)) (oPutI [10] 13 (oALd 0 (oILd 1 (oPush (.int (118)) (oCallV l g [(10, d_X10_isSign)] 3 (oIf (fun x => x = 0) (oPush (.int (0)) (oZRet P)) (G 1)))))))))
def bk_X10_readLand_1 (l : Launch) (g : Gm) (G : Nat → CT) (P : PT) : CT := (oALd 0 (oGet [10] 13 (oPush (.int (2)) (oCmp (fun x y => x < y) (G 2) (oALd 0 (oGet [10] 13 (oPush (.int (4)) (oCmp (fun x y => y ≤ x) (G 3) (oALd 0 (oGet [10] 12 (oILd 1 (oCmp (fun x y => y ≤ x) (G 3) (G 2)))))))))))))
def bk_X10_readLand_2 (l : Launch) (g : Gm) (G : Nat → CT) (P : PT) : CT := (oALd 0 (oILd 1 (oPush (.int (59)) (oCallV l g [(10, d_X10_isSign)] 3 (oIf (fun x => x = 0) (oPush (.int (0)) (oZRet P)) (oALd 0 (oILd 1 (oCallV l g [(10, d_X10_readVillage)] 2 (oIf (fun x => x = 0) (oPush (.int (0)) (oZRet P)) (G 1))))))))))
def bk_X10_readLand_3 (l : Launch) (g : Gm) (G : Nat → CT) (P : PT) : CT := (oALd 0 (oGet [10] 12 (oILd 1 (oCmp (fun x y => x = y) (oPush (.int (1)) (oGo (oZRet P))) (oPush (.int (0)) (oZRet P))))))
def bk_X10_readLand (l : Launch) (g : Gm) (b : Nat) (G : Nat → CT) (P : PT) : CT := match b with
  | 0 => bk_X10_readLand_0 l g G P
  | 1 => bk_X10_readLand_1 l g G P
  | 2 => bk_X10_readLand_2 l g G P
  | 3 => bk_X10_readLand_3 l g G P
  | _ => fun _ _ _ _ _ => False
def pc_X10_readLand (b : Nat) : Nat := match b with
  | 0 => 0
  | 1 => 17
  | 2 => 41
  | 3 => 61
  | _ => 0
set_option maxRecDepth 100000 in
theorem sb_X10_readLand_0 {p : Program} {l : Launch} {e : Env} {s : State} {m : MethodId} {args : Array Value} {below : List Frame} {meth : Method} {c : Code} {g : Gm} {h0 : Hp} {P : PT} {mc ms : Nat} (X : Cx g p s m args meth c (Adom h0 s.heap.size) cX10_readLand RX10 2) (hr : meth.sig.returnType = some .boolean) (hn : meth.name = "readLand") : SX g p l e s m args below meth c d_X10_readLand 2 mc ms h0 P (bk_X10_readLand_0 l g (fun b => GX g p l e s m args below meth c d_X10_readLand 2 mc ms h0 P (pc_X10_readLand b)) P) 0 := (s_aload_n X dX10_readLand_0 rfl (s_iconst X dX10_readLand_1 rfl (s_putI X dX10_readLand_2 (mcn (⟨_, _, _, _, tyX10, rfl, inU_X10, by decide, uw_722, rfl, tyX10_ok, nmX10, rfl, rfl⟩) (mnl)) (s_aload_n X dX10_readLand_5 rfl (s_iload_n X dX10_readLand_6 rfl (s_bipush X dX10_readLand_7 rfl (s_callV X dX10_readLand_9 (mv (vok_V X rfl uw_816 uw_818 (UW_pr 19 rfl rfl) uw_7 ci_X10_isSign yok_X10_isSign ⟨Nat.le_of_ble_eq_true rfl, Nat.le_of_ble_eq_true rfl⟩) mv0) (s_if_ne X dX10_readLand_12 (by decide) Sd.rf (s_iconst X dX10_readLand_15 rfl (s_zret X hr dX10_readLand_16))))))))))
set_option maxRecDepth 100000 in
theorem sb_X10_readLand_1 {p : Program} {l : Launch} {e : Env} {s : State} {m : MethodId} {args : Array Value} {below : List Frame} {meth : Method} {c : Code} {g : Gm} {h0 : Hp} {P : PT} {mc ms : Nat} (X : Cx g p s m args meth c (Adom h0 s.heap.size) cX10_readLand RX10 2) (hr : meth.sig.returnType = some .boolean) (hn : meth.name = "readLand") : SX g p l e s m args below meth c d_X10_readLand 2 mc ms h0 P (bk_X10_readLand_1 l g (fun b => GX g p l e s m args below meth c d_X10_readLand 2 mc ms h0 P (pc_X10_readLand b)) P) 17 := (s_aload_n X dX10_readLand_17 rfl (s_get X dX10_readLand_18 (mcn (⟨_, _, _, _, rfl, inU_X10, by decide, uw_722, rfl⟩) (mnl)) (s_iconst X dX10_readLand_21 rfl (s_icmp_lt X dX10_readLand_22 (by decide) Sd.rf (s_aload_n X dX10_readLand_25 rfl (s_get X dX10_readLand_26 (mcn (⟨_, _, _, _, rfl, inU_X10, by decide, uw_722, rfl⟩) (mnl)) (s_iconst X dX10_readLand_29 rfl (s_icmp_ge X dX10_readLand_30 (by decide) Sd.rf (s_aload_n X dX10_readLand_33 rfl (s_get X dX10_readLand_34 (mcn (⟨_, _, _, _, rfl, inU_X10, by decide, uw_721, rfl⟩) (mnl)) (s_iload_n X dX10_readLand_37 rfl (s_icmp_ge X dX10_readLand_38 (by decide) Sd.rf Sd.rf))))))))))))
set_option maxRecDepth 100000 in
theorem sb_X10_readLand_2 {p : Program} {l : Launch} {e : Env} {s : State} {m : MethodId} {args : Array Value} {below : List Frame} {meth : Method} {c : Code} {g : Gm} {h0 : Hp} {P : PT} {mc ms : Nat} (X : Cx g p s m args meth c (Adom h0 s.heap.size) cX10_readLand RX10 2) (hr : meth.sig.returnType = some .boolean) (hn : meth.name = "readLand") : SX g p l e s m args below meth c d_X10_readLand 2 mc ms h0 P (bk_X10_readLand_2 l g (fun b => GX g p l e s m args below meth c d_X10_readLand 2 mc ms h0 P (pc_X10_readLand b)) P) 41 := (s_aload_n X dX10_readLand_41 rfl (s_iload_n X dX10_readLand_42 rfl (s_bipush X dX10_readLand_43 rfl (s_callV X dX10_readLand_45 (mv (vok_V X rfl uw_816 uw_818 (UW_pr 19 rfl rfl) uw_7 ci_X10_isSign yok_X10_isSign ⟨Nat.le_of_ble_eq_true rfl, Nat.le_of_ble_eq_true rfl⟩) mv0) (s_if_eq X dX10_readLand_48 (by decide) (s_iconst X dX10_readLand_59 rfl (s_zret X hr dX10_readLand_60)) (s_aload_n X dX10_readLand_51 rfl (s_iload_n X dX10_readLand_52 rfl (s_callV X dX10_readLand_53 (mv (vok_V X rfl uw_820 uw_822 (UW_pr 20 rfl rfl) uw_7 ci_X10_readVillage yok_X10_readVillage ⟨Nat.le_of_ble_eq_true rfl, Nat.le_of_ble_eq_true rfl⟩) mv0) (s_if_ne X dX10_readLand_56 (by decide) Sd.rf (s_iconst X dX10_readLand_59 rfl (s_zret X hr dX10_readLand_60)))))))))))
set_option maxRecDepth 100000 in
theorem sb_X10_readLand_3 {p : Program} {l : Launch} {e : Env} {s : State} {m : MethodId} {args : Array Value} {below : List Frame} {meth : Method} {c : Code} {g : Gm} {h0 : Hp} {P : PT} {mc ms : Nat} (X : Cx g p s m args meth c (Adom h0 s.heap.size) cX10_readLand RX10 2) (hr : meth.sig.returnType = some .boolean) (hn : meth.name = "readLand") : SX g p l e s m args below meth c d_X10_readLand 2 mc ms h0 P (bk_X10_readLand_3 l g (fun b => GX g p l e s m args below meth c d_X10_readLand 2 mc ms h0 P (pc_X10_readLand b)) P) 61 := (s_aload_n X dX10_readLand_61 rfl (s_get X dX10_readLand_62 (mcn (⟨_, _, _, _, rfl, inU_X10, by decide, uw_721, rfl⟩) (mnl)) (s_iload_n X dX10_readLand_65 rfl (s_icmp_ne X dX10_readLand_66 (by decide) (s_iconst X dX10_readLand_73 rfl (s_zret X hr dX10_readLand_74)) (s_iconst X dX10_readLand_69 rfl (s_goto X dX10_readLand_70 (by decide) (s_zret X hr dX10_readLand_74)))))))
set_option maxRecDepth 100000 in
theorem vc_X10_readLand {l : Launch} {g : Gm} {a0 : Nat} {a1 : Int32} {h : Hp} {mc ms : Nat} {P : PT} (H : ∀ G : Nat → CT, (∀ (b : Nat) (h : Hp) (cb sb : Nat) (ls : LocS) (st : List Value), bk_X10_readLand l g b G P h cb sb ls st → G b h cb sb ls st) → G 0 h mc ms [some (.ref a0), some (.int a1)] []) : Run l g d_X10_readLand [.ref a0, .int a1] h mc ms P :=
  Run.of (d := d_X10_readLand) (by decide) (mcn rfl (mcn rfl (mnl))) (Nat.le_of_ble_eq_true rfl) (fun p e s m args below meth c X hr hn => H (fun b => GX g p l e s m args below meth c d_X10_readLand 2 mc ms h P (pc_X10_readLand b)) (fun b h1 cb sb ls st hb => match b, hb with
    | 0, hb => sb_X10_readLand_0 (p := p) (e := e) (below := below) X hr hn h1 cb sb ls st hb
    | 1, hb => sb_X10_readLand_1 (p := p) (e := e) (below := below) X hr hn h1 cb sb ls st hb
    | 2, hb => sb_X10_readLand_2 (p := p) (e := e) (below := below) X hr hn h1 cb sb ls st hb
    | 3, hb => sb_X10_readLand_3 (p := p) (e := e) (below := below) X hr hn h1 cb sb ls st hb
    | _ + 4, hb => hb.elim))
theorem dX10_readVillage_0 : decode cX10_readVillage 0 = .ok (.aload_n 0, 1) := by decide +kernel
theorem dX10_readVillage_1 : decode cX10_readVillage 1 = .ok (.getfield 88, 3) := by decide +kernel
theorem dX10_readVillage_4 : decode cX10_readVillage 4 = .ok (.iload_n 1, 1) := by decide +kernel
theorem dX10_readVillage_5 : decode cX10_readVillage 5 = .ok (.if_icmp .ge 15, 3) := by decide +kernel
theorem dX10_readVillage_8 : decode cX10_readVillage 8 = .ok (.aload_n 0, 1) := by decide +kernel
theorem dX10_readVillage_9 : decode cX10_readVillage 9 = .ok (.getfield 16, 3) := by decide +kernel
theorem dX10_readVillage_12 : decode cX10_readVillage 12 = .ok (.aload_n 0, 1) := by decide +kernel
theorem dX10_readVillage_13 : decode cX10_readVillage 13 = .ok (.getfield 88, 3) := by decide +kernel
theorem dX10_readVillage_16 : decode cX10_readVillage 16 = .ok (.iaload, 1) := by decide +kernel
theorem dX10_readVillage_17 : decode cX10_readVillage 17 = .ok (.goto 4, 3) := by decide +kernel
theorem dX10_readVillage_20 : decode cX10_readVillage 20 = .ok (.iconst 0, 1) := by decide +kernel
theorem dX10_readVillage_21 : decode cX10_readVillage 21 = .ok (.istore_n 2, 1) := by decide +kernel
theorem dX10_readVillage_22 : decode cX10_readVillage 22 = .ok (.iload_n 2, 1) := by decide +kernel
theorem dX10_readVillage_23 : decode cX10_readVillage 23 = .ok (.bipush 112, 2) := by decide +kernel
theorem dX10_readVillage_25 : decode cX10_readVillage 25 = .ok (.if_icmp .ne 7, 3) := by decide +kernel
theorem dX10_readVillage_28 : decode cX10_readVillage 28 = .ok (.iconst 0, 1) := by decide +kernel
theorem dX10_readVillage_29 : decode cX10_readVillage 29 = .ok (.goto 25, 3) := by decide +kernel
theorem dX10_readVillage_32 : decode cX10_readVillage 32 = .ok (.iload_n 2, 1) := by decide +kernel
theorem dX10_readVillage_33 : decode cX10_readVillage 33 = .ok (.bipush 98, 2) := by decide +kernel
theorem dX10_readVillage_35 : decode cX10_readVillage 35 = .ok (.if_icmp .ne 7, 3) := by decide +kernel
theorem dX10_readVillage_38 : decode cX10_readVillage 38 = .ok (.iconst 1, 1) := by decide +kernel
theorem dX10_readVillage_39 : decode cX10_readVillage 39 = .ok (.goto 15, 3) := by decide +kernel
theorem dX10_readVillage_42 : decode cX10_readVillage 42 = .ok (.iload_n 2, 1) := by decide +kernel
theorem dX10_readVillage_43 : decode cX10_readVillage 43 = .ok (.bipush 100, 2) := by decide +kernel
theorem dX10_readVillage_45 : decode cX10_readVillage 45 = .ok (.if_icmp .ne 7, 3) := by decide +kernel
theorem dX10_readVillage_48 : decode cX10_readVillage 48 = .ok (.iconst 2, 1) := by decide +kernel
theorem dX10_readVillage_49 : decode cX10_readVillage 49 = .ok (.goto 5, 3) := by decide +kernel
theorem dX10_readVillage_52 : decode cX10_readVillage 52 = .ok (.bipush (-9), 2) := by decide +kernel
theorem dX10_readVillage_54 : decode cX10_readVillage 54 = .ok (.istore_n 3, 1) := by decide +kernel
theorem dX10_readVillage_55 : decode cX10_readVillage 55 = .ok (.iload_n 3, 1) := by decide +kernel
theorem dX10_readVillage_56 : decode cX10_readVillage 56 = .ok (.bipush (-9), 2) := by decide +kernel
theorem dX10_readVillage_58 : decode cX10_readVillage 58 = .ok (.if_icmp .ne 5, 3) := by decide +kernel
theorem dX10_readVillage_61 : decode cX10_readVillage 61 = .ok (.iconst 0, 1) := by decide +kernel
theorem dX10_readVillage_62 : decode cX10_readVillage 62 = .ok (.ireturn, 1) := by decide +kernel
theorem dX10_readVillage_63 : decode cX10_readVillage 63 = .ok (.aload_n 0, 1) := by decide +kernel
theorem dX10_readVillage_64 : decode cX10_readVillage 64 = .ok (.dup, 1) := by decide +kernel
theorem dX10_readVillage_65 : decode cX10_readVillage 65 = .ok (.getfield 88, 3) := by decide +kernel
theorem dX10_readVillage_68 : decode cX10_readVillage 68 = .ok (.iconst 1, 1) := by decide +kernel
theorem dX10_readVillage_69 : decode cX10_readVillage 69 = .ok (.iadd, 1) := by decide +kernel
theorem dX10_readVillage_70 : decode cX10_readVillage 70 = .ok (.putfield 88, 3) := by decide +kernel
theorem dX10_readVillage_73 : decode cX10_readVillage 73 = .ok (.aload_n 0, 1) := by decide +kernel
theorem dX10_readVillage_74 : decode cX10_readVillage 74 = .ok (.getfield 37, 3) := by decide +kernel
theorem dX10_readVillage_77 : decode cX10_readVillage 77 = .ok (.aload_n 0, 1) := by decide +kernel
theorem dX10_readVillage_78 : decode cX10_readVillage 78 = .ok (.getfield 119, 3) := by decide +kernel
theorem dX10_readVillage_81 : decode cX10_readVillage 81 = .ok (.iload_n 3, 1) := by decide +kernel
theorem dX10_readVillage_82 : decode cX10_readVillage 82 = .ok (.iastore, 1) := by decide +kernel
theorem dX10_readVillage_83 : decode cX10_readVillage 83 = .ok (.aload_n 0, 1) := by decide +kernel
theorem dX10_readVillage_84 : decode cX10_readVillage 84 = .ok (.getfield 40, 3) := by decide +kernel
theorem dX10_readVillage_87 : decode cX10_readVillage 87 = .ok (.aload_n 0, 1) := by decide +kernel
theorem dX10_readVillage_88 : decode cX10_readVillage 88 = .ok (.getfield 119, 3) := by decide +kernel
theorem dX10_readVillage_91 : decode cX10_readVillage 91 = .ok (.iconst 0, 1) := by decide +kernel
theorem dX10_readVillage_92 : decode cX10_readVillage 92 = .ok (.iastore, 1) := by decide +kernel
theorem dX10_readVillage_93 : decode cX10_readVillage 93 = .ok (.aload_n 0, 1) := by decide +kernel
theorem dX10_readVillage_94 : decode cX10_readVillage 94 = .ok (.getfield 40, 3) := by decide +kernel
theorem dX10_readVillage_97 : decode cX10_readVillage 97 = .ok (.aload_n 0, 1) := by decide +kernel
theorem dX10_readVillage_98 : decode cX10_readVillage 98 = .ok (.getfield 119, 3) := by decide +kernel
theorem dX10_readVillage_101 : decode cX10_readVillage 101 = .ok (.iaload, 1) := by decide +kernel
theorem dX10_readVillage_102 : decode cX10_readVillage 102 = .ok (.ifCond .eq 24, 3) := by decide +kernel
theorem dX10_readVillage_105 : decode cX10_readVillage 105 = .ok (.aload_n 0, 1) := by decide +kernel
theorem dX10_readVillage_106 : decode cX10_readVillage 106 = .ok (.getfield 40, 3) := by decide +kernel
theorem dX10_readVillage_109 : decode cX10_readVillage 109 = .ok (.aload_n 0, 1) := by decide +kernel
theorem dX10_readVillage_110 : decode cX10_readVillage 110 = .ok (.getfield 119, 3) := by decide +kernel
theorem dX10_readVillage_113 : decode cX10_readVillage 113 = .ok (.iaload, 1) := by decide +kernel
theorem dX10_readVillage_114 : decode cX10_readVillage 114 = .ok (.iconst 5, 1) := by decide +kernel
theorem dX10_readVillage_115 : decode cX10_readVillage 115 = .ok (.if_icmp .ge 29, 3) := by decide +kernel
theorem dX10_readVillage_118 : decode cX10_readVillage 118 = .ok (.aload_n 0, 1) := by decide +kernel
theorem dX10_readVillage_119 : decode cX10_readVillage 119 = .ok (.iload_n 1, 1) := by decide +kernel
theorem dX10_readVillage_120 : decode cX10_readVillage 120 = .ok (.invokevirtual 132, 3) := by decide +kernel
theorem dX10_readVillage_123 : decode cX10_readVillage 123 = .ok (.ifCond .eq 21, 3) := by decide +kernel
theorem dX10_readVillage_126 : decode cX10_readVillage 126 = .ok (.aload_n 0, 1) := by decide +kernel
theorem dX10_readVillage_127 : decode cX10_readVillage 127 = .ok (.iload_n 1, 1) := by decide +kernel
theorem dX10_readVillage_128 : decode cX10_readVillage 128 = .ok (.invokevirtual 132, 3) := by decide +kernel
theorem dX10_readVillage_131 : decode cX10_readVillage 131 = .ok (.ifCond .eq 11, 3) := by decide +kernel
theorem dX10_readVillage_134 : decode cX10_readVillage 134 = .ok (.aload_n 0, 1) := by decide +kernel
theorem dX10_readVillage_135 : decode cX10_readVillage 135 = .ok (.iload_n 1, 1) := by decide +kernel
theorem dX10_readVillage_136 : decode cX10_readVillage 136 = .ok (.invokevirtual 135, 3) := by decide +kernel
theorem dX10_readVillage_139 : decode cX10_readVillage 139 = .ok (.ifCond .ne (-46), 3) := by decide +kernel
theorem dX10_readVillage_142 : decode cX10_readVillage 142 = .ok (.iconst 0, 1) := by decide +kernel
theorem dX10_readVillage_143 : decode cX10_readVillage 143 = .ok (.ireturn, 1) := by decide +kernel
theorem dX10_readVillage_144 : decode cX10_readVillage 144 = .ok (.aload_n 0, 1) := by decide +kernel
theorem dX10_readVillage_145 : decode cX10_readVillage 145 = .ok (.dup, 1) := by decide +kernel
theorem dX10_readVillage_146 : decode cX10_readVillage 146 = .ok (.getfield 119, 3) := by decide +kernel
theorem dX10_readVillage_149 : decode cX10_readVillage 149 = .ok (.iconst 1, 1) := by decide +kernel
theorem dX10_readVillage_150 : decode cX10_readVillage 150 = .ok (.iadd, 1) := by decide +kernel
theorem dX10_readVillage_151 : decode cX10_readVillage 151 = .ok (.putfield 119, 3) := by decide +kernel
theorem dX10_readVillage_154 : decode cX10_readVillage 154 = .ok (.iconst 1, 1) := by decide +kernel
theorem dX10_readVillage_155 : decode cX10_readVillage 155 = .ok (.ireturn, 1) := by decide +kernel
def bk_X10_readVillage_0 (l : Launch) (g : Gm) (G : Nat → CT) (P : PT) : CT := (oALd 0 (oGet [10] 12 (oILd 1 (oCmp (fun x y => y ≤ x) (oPush (.int (0)) (G 1)) (oALd 0 (oGet [10] 4 (oALd 0 (oGet [10] 12 (oIAL g (oGo (G 1)))))))))))
def bk_X10_readVillage_1 (l : Launch) (g : Gm) (G : Nat → CT) (P : PT) : CT := (oISt 2 (oILd 2 (oPush (.int (112)) (oCmp (fun x y => x = y) (oPush (.int (0)) (oGo (G 2))) (oILd 2 (oPush (.int (98)) (oCmp (fun x y => x = y) (oPush (.int (1)) (oGo (G 2))) (oILd 2 (oPush (.int (100)) (oCmp (fun x y => x = y) (oPush (.int (2)) (oGo (G 2))) (oPush (.int (-9)) (G 2))))))))))))
def bk_X10_readVillage_2 (l : Launch) (g : Gm) (G : Nat → CT) (P : PT) : CT := (oISt 3 (oILd 3 (oPush (.int (-9)) (oCmp (fun x y => x = y) (oPush (.int (0)) (oZRet P)) (oALd 0 (oDup (oGet [10] 12 (oPush (.int (1)) (oBin (fun x y => x + y) (oPutI [10] 12 (oALd 0 (oGet [10] 14 (oALd 0 (oGet [10] 13 (oILd 3 (oIAS g (oALd 0 (oGet [10] 15 (oALd 0 (oGet [10] 13 (oPush (.int (0)) (oIAS g (G 3)))))))))))))))))))))))
def bk_X10_readVillage_3 (l : Launch) (g : Gm) (G : Nat → CT) (P : PT) : CT := (oALd 0 (oGet [10] 15 (oALd 0 (oGet [10] 13 (oIAL g (oIf (fun x => x = 0) (G 4) (oALd 0 (oGet [10] 15 (oALd 0 (oGet [10] 13 (oIAL g (oPush (.int (5)) (oCmp (fun x y => y ≤ x) (G 5) (oALd 0 (oILd 1 (oCallV l g [(10, d_X10_isThingNext)] 2 (oIf (fun x => x = 0) (G 5) (G 4))))))))))))))))))
def bk_X10_readVillage_4 (l : Launch) (g : Gm) (G : Nat → CT) (P : PT) : CT := (oALd 0 (oILd 1 (oCallV l g [(10, d_X10_isThingNext)] 2 (oIf (fun x => x = 0) (oPush (.int (0)) (oZRet P)) (oALd 0 (oILd 1 (oCallV l g [(10, d_X10_readThing)] 2 (oIf (fun x => x = 0) (oPush (.int (0)) (oZRet P)) (G 3)))))))))
def bk_X10_readVillage_5 (l : Launch) (g : Gm) (G : Nat → CT) (P : PT) : CT := (oALd 0 (oDup (oGet [10] 13 (oPush (.int (1)) (oBin (fun x y => x + y) (oPutI [10] 13 (oPush (.int (1)) (oZRet P))))))))
def bk_X10_readVillage (l : Launch) (g : Gm) (b : Nat) (G : Nat → CT) (P : PT) : CT := match b with
  | 0 => bk_X10_readVillage_0 l g G P
  | 1 => bk_X10_readVillage_1 l g G P
  | 2 => bk_X10_readVillage_2 l g G P
  | 3 => bk_X10_readVillage_3 l g G P
  | 4 => bk_X10_readVillage_4 l g G P
  | 5 => bk_X10_readVillage_5 l g G P
  | _ => fun _ _ _ _ _ => False
def pc_X10_readVillage (b : Nat) : Nat := match b with
  | 0 => 0
  | 1 => 21
  | 2 => 54
  | 3 => 93
  | 4 => 126
  | 5 => 144
  | _ => 0
set_option maxRecDepth 100000 in
theorem sb_X10_readVillage_0 {p : Program} {l : Launch} {e : Env} {s : State} {m : MethodId} {args : Array Value} {below : List Frame} {meth : Method} {c : Code} {g : Gm} {h0 : Hp} {P : PT} {mc ms : Nat} (X : Cx g p s m args meth c (Adom h0 s.heap.size) cX10_readVillage RX10 4) (hr : meth.sig.returnType = some .boolean) (hn : meth.name = "readVillage") : SX g p l e s m args below meth c d_X10_readVillage 4 mc ms h0 P (bk_X10_readVillage_0 l g (fun b => GX g p l e s m args below meth c d_X10_readVillage 4 mc ms h0 P (pc_X10_readVillage b)) P) 0 := (s_aload_n X dX10_readVillage_0 rfl (s_get X dX10_readVillage_1 (mcn (⟨_, _, _, _, rfl, inU_X10, by decide, uw_721, rfl⟩) (mnl)) (s_iload_n X dX10_readVillage_4 rfl (s_icmp_ge X dX10_readVillage_5 (by decide) (s_iconst X dX10_readVillage_20 rfl Sd.rf) (s_aload_n X dX10_readVillage_8 rfl (s_get X dX10_readVillage_9 (mcn (⟨_, _, _, _, rfl, inU_X10, by decide, uw_713, rfl⟩) (mnl)) (s_aload_n X dX10_readVillage_12 rfl (s_get X dX10_readVillage_13 (mcn (⟨_, _, _, _, rfl, inU_X10, by decide, uw_721, rfl⟩) (mnl)) (s_iaload X dX10_readVillage_16 (s_goto X dX10_readVillage_17 (by decide) Sd.rf))))))))))
set_option maxRecDepth 100000 in
theorem sb_X10_readVillage_1 {p : Program} {l : Launch} {e : Env} {s : State} {m : MethodId} {args : Array Value} {below : List Frame} {meth : Method} {c : Code} {g : Gm} {h0 : Hp} {P : PT} {mc ms : Nat} (X : Cx g p s m args meth c (Adom h0 s.heap.size) cX10_readVillage RX10 4) (hr : meth.sig.returnType = some .boolean) (hn : meth.name = "readVillage") : SX g p l e s m args below meth c d_X10_readVillage 4 mc ms h0 P (bk_X10_readVillage_1 l g (fun b => GX g p l e s m args below meth c d_X10_readVillage 4 mc ms h0 P (pc_X10_readVillage b)) P) 21 := (s_istore_n X dX10_readVillage_21 rfl (by decide) (s_iload_n X dX10_readVillage_22 rfl (s_bipush X dX10_readVillage_23 rfl (s_icmp_ne X dX10_readVillage_25 (by decide) (s_iload_n X dX10_readVillage_32 rfl (s_bipush X dX10_readVillage_33 rfl (s_icmp_ne X dX10_readVillage_35 (by decide) (s_iload_n X dX10_readVillage_42 rfl (s_bipush X dX10_readVillage_43 rfl (s_icmp_ne X dX10_readVillage_45 (by decide) (s_bipush X dX10_readVillage_52 rfl Sd.rf) (s_iconst X dX10_readVillage_48 rfl (s_goto X dX10_readVillage_49 (by decide) Sd.rf))))) (s_iconst X dX10_readVillage_38 rfl (s_goto X dX10_readVillage_39 (by decide) Sd.rf))))) (s_iconst X dX10_readVillage_28 rfl (s_goto X dX10_readVillage_29 (by decide) Sd.rf))))))
set_option maxRecDepth 100000 in
theorem sb_X10_readVillage_2 {p : Program} {l : Launch} {e : Env} {s : State} {m : MethodId} {args : Array Value} {below : List Frame} {meth : Method} {c : Code} {g : Gm} {h0 : Hp} {P : PT} {mc ms : Nat} (X : Cx g p s m args meth c (Adom h0 s.heap.size) cX10_readVillage RX10 4) (hr : meth.sig.returnType = some .boolean) (hn : meth.name = "readVillage") : SX g p l e s m args below meth c d_X10_readVillage 4 mc ms h0 P (bk_X10_readVillage_2 l g (fun b => GX g p l e s m args below meth c d_X10_readVillage 4 mc ms h0 P (pc_X10_readVillage b)) P) 54 := (s_istore_n X dX10_readVillage_54 rfl (by decide) (s_iload_n X dX10_readVillage_55 rfl (s_bipush X dX10_readVillage_56 rfl (s_icmp_ne X dX10_readVillage_58 (by decide) (s_aload_n X dX10_readVillage_63 rfl (s_dup X dX10_readVillage_64 (s_get X dX10_readVillage_65 (mcn (⟨_, _, _, _, rfl, inU_X10, by decide, uw_721, rfl⟩) (mnl)) (s_iconst X dX10_readVillage_68 rfl (s_iadd X dX10_readVillage_69 (s_putI X dX10_readVillage_70 (mcn (⟨_, _, _, _, tyX10, rfl, inU_X10, by decide, uw_721, rfl, tyX10_ok, nmX10, rfl, rfl⟩) (mnl)) (s_aload_n X dX10_readVillage_73 rfl (s_get X dX10_readVillage_74 (mcn (⟨_, _, _, _, rfl, inU_X10, by decide, uw_723, rfl⟩) (mnl)) (s_aload_n X dX10_readVillage_77 rfl (s_get X dX10_readVillage_78 (mcn (⟨_, _, _, _, rfl, inU_X10, by decide, uw_722, rfl⟩) (mnl)) (s_iload_n X dX10_readVillage_81 rfl (s_iastore X dX10_readVillage_82 (s_aload_n X dX10_readVillage_83 rfl (s_get X dX10_readVillage_84 (mcn (⟨_, _, _, _, rfl, inU_X10, by decide, uw_724, rfl⟩) (mnl)) (s_aload_n X dX10_readVillage_87 rfl (s_get X dX10_readVillage_88 (mcn (⟨_, _, _, _, rfl, inU_X10, by decide, uw_722, rfl⟩) (mnl)) (s_iconst X dX10_readVillage_91 rfl (s_iastore X dX10_readVillage_92 Sd.rf)))))))))))))))))) (s_iconst X dX10_readVillage_61 rfl (s_zret X hr dX10_readVillage_62))))))
set_option maxRecDepth 100000 in
theorem sb_X10_readVillage_3 {p : Program} {l : Launch} {e : Env} {s : State} {m : MethodId} {args : Array Value} {below : List Frame} {meth : Method} {c : Code} {g : Gm} {h0 : Hp} {P : PT} {mc ms : Nat} (X : Cx g p s m args meth c (Adom h0 s.heap.size) cX10_readVillage RX10 4) (hr : meth.sig.returnType = some .boolean) (hn : meth.name = "readVillage") : SX g p l e s m args below meth c d_X10_readVillage 4 mc ms h0 P (bk_X10_readVillage_3 l g (fun b => GX g p l e s m args below meth c d_X10_readVillage 4 mc ms h0 P (pc_X10_readVillage b)) P) 93 := (s_aload_n X dX10_readVillage_93 rfl (s_get X dX10_readVillage_94 (mcn (⟨_, _, _, _, rfl, inU_X10, by decide, uw_724, rfl⟩) (mnl)) (s_aload_n X dX10_readVillage_97 rfl (s_get X dX10_readVillage_98 (mcn (⟨_, _, _, _, rfl, inU_X10, by decide, uw_722, rfl⟩) (mnl)) (s_iaload X dX10_readVillage_101 (s_if_eq X dX10_readVillage_102 (by decide) Sd.rf (s_aload_n X dX10_readVillage_105 rfl (s_get X dX10_readVillage_106 (mcn (⟨_, _, _, _, rfl, inU_X10, by decide, uw_724, rfl⟩) (mnl)) (s_aload_n X dX10_readVillage_109 rfl (s_get X dX10_readVillage_110 (mcn (⟨_, _, _, _, rfl, inU_X10, by decide, uw_722, rfl⟩) (mnl)) (s_iaload X dX10_readVillage_113 (s_iconst X dX10_readVillage_114 rfl (s_icmp_ge X dX10_readVillage_115 (by decide) Sd.rf (s_aload_n X dX10_readVillage_118 rfl (s_iload_n X dX10_readVillage_119 rfl (s_callV X dX10_readVillage_120 (mv (vok_V X rfl uw_824 uw_826 (UW_pr 21 rfl rfl) uw_7 ci_X10_isThingNext yok_X10_isThingNext ⟨Nat.le_of_ble_eq_true rfl, Nat.le_of_ble_eq_true rfl⟩) mv0) (s_if_eq X dX10_readVillage_123 (by decide) Sd.rf Sd.rf)))))))))))))))))
set_option maxRecDepth 100000 in
theorem sb_X10_readVillage_4 {p : Program} {l : Launch} {e : Env} {s : State} {m : MethodId} {args : Array Value} {below : List Frame} {meth : Method} {c : Code} {g : Gm} {h0 : Hp} {P : PT} {mc ms : Nat} (X : Cx g p s m args meth c (Adom h0 s.heap.size) cX10_readVillage RX10 4) (hr : meth.sig.returnType = some .boolean) (hn : meth.name = "readVillage") : SX g p l e s m args below meth c d_X10_readVillage 4 mc ms h0 P (bk_X10_readVillage_4 l g (fun b => GX g p l e s m args below meth c d_X10_readVillage 4 mc ms h0 P (pc_X10_readVillage b)) P) 126 := (s_aload_n X dX10_readVillage_126 rfl (s_iload_n X dX10_readVillage_127 rfl (s_callV X dX10_readVillage_128 (mv (vok_V X rfl uw_824 uw_826 (UW_pr 21 rfl rfl) uw_7 ci_X10_isThingNext yok_X10_isThingNext ⟨Nat.le_of_ble_eq_true rfl, Nat.le_of_ble_eq_true rfl⟩) mv0) (s_if_eq X dX10_readVillage_131 (by decide) (s_iconst X dX10_readVillage_142 rfl (s_zret X hr dX10_readVillage_143)) (s_aload_n X dX10_readVillage_134 rfl (s_iload_n X dX10_readVillage_135 rfl (s_callV X dX10_readVillage_136 (mv (vok_V X rfl uw_828 uw_830 (UW_pr 22 rfl rfl) uw_7 ci_X10_readThing yok_X10_readThing ⟨Nat.le_of_ble_eq_true rfl, Nat.le_of_ble_eq_true rfl⟩) mv0) (s_if_ne X dX10_readVillage_139 (by decide) Sd.rf (s_iconst X dX10_readVillage_142 rfl (s_zret X hr dX10_readVillage_143))))))))))
set_option maxRecDepth 100000 in
theorem sb_X10_readVillage_5 {p : Program} {l : Launch} {e : Env} {s : State} {m : MethodId} {args : Array Value} {below : List Frame} {meth : Method} {c : Code} {g : Gm} {h0 : Hp} {P : PT} {mc ms : Nat} (X : Cx g p s m args meth c (Adom h0 s.heap.size) cX10_readVillage RX10 4) (hr : meth.sig.returnType = some .boolean) (hn : meth.name = "readVillage") : SX g p l e s m args below meth c d_X10_readVillage 4 mc ms h0 P (bk_X10_readVillage_5 l g (fun b => GX g p l e s m args below meth c d_X10_readVillage 4 mc ms h0 P (pc_X10_readVillage b)) P) 144 := (s_aload_n X dX10_readVillage_144 rfl (s_dup X dX10_readVillage_145 (s_get X dX10_readVillage_146 (mcn (⟨_, _, _, _, rfl, inU_X10, by decide, uw_722, rfl⟩) (mnl)) (s_iconst X dX10_readVillage_149 rfl (s_iadd X dX10_readVillage_150 (s_putI X dX10_readVillage_151 (mcn (⟨_, _, _, _, tyX10, rfl, inU_X10, by decide, uw_722, rfl, tyX10_ok, nmX10, rfl, rfl⟩) (mnl)) (s_iconst X dX10_readVillage_154 rfl (s_zret X hr dX10_readVillage_155))))))))
set_option maxRecDepth 100000 in
theorem vc_X10_readVillage {l : Launch} {g : Gm} {a0 : Nat} {a1 : Int32} {h : Hp} {mc ms : Nat} {P : PT} (H : ∀ G : Nat → CT, (∀ (b : Nat) (h : Hp) (cb sb : Nat) (ls : LocS) (st : List Value), bk_X10_readVillage l g b G P h cb sb ls st → G b h cb sb ls st) → G 0 h mc ms [some (.ref a0), some (.int a1), none, none] []) : Run l g d_X10_readVillage [.ref a0, .int a1] h mc ms P :=
  Run.of (d := d_X10_readVillage) (by decide) (mcn rfl (mcn rfl (mnl))) (Nat.le_of_ble_eq_true rfl) (fun p e s m args below meth c X hr hn => H (fun b => GX g p l e s m args below meth c d_X10_readVillage 4 mc ms h P (pc_X10_readVillage b)) (fun b h1 cb sb ls st hb => match b, hb with
    | 0, hb => sb_X10_readVillage_0 (p := p) (e := e) (below := below) X hr hn h1 cb sb ls st hb
    | 1, hb => sb_X10_readVillage_1 (p := p) (e := e) (below := below) X hr hn h1 cb sb ls st hb
    | 2, hb => sb_X10_readVillage_2 (p := p) (e := e) (below := below) X hr hn h1 cb sb ls st hb
    | 3, hb => sb_X10_readVillage_3 (p := p) (e := e) (below := below) X hr hn h1 cb sb ls st hb
    | 4, hb => sb_X10_readVillage_4 (p := p) (e := e) (below := below) X hr hn h1 cb sb ls st hb
    | 5, hb => sb_X10_readVillage_5 (p := p) (e := e) (below := below) X hr hn h1 cb sb ls st hb
    | _ + 6, hb => hb.elim))
theorem dX10_isThingNext_0 : decode cX10_isThingNext 0 = .ok (.aload_n 0, 1) := by decide +kernel
theorem dX10_isThingNext_1 : decode cX10_isThingNext 1 = .ok (.getfield 88, 3) := by decide +kernel
theorem dX10_isThingNext_4 : decode cX10_isThingNext 4 = .ok (.iload_n 1, 1) := by decide +kernel
theorem dX10_isThingNext_5 : decode cX10_isThingNext 5 = .ok (.if_icmp .ge 49, 3) := by decide +kernel
theorem dX10_isThingNext_8 : decode cX10_isThingNext 8 = .ok (.aload_n 0, 1) := by decide +kernel
theorem dX10_isThingNext_9 : decode cX10_isThingNext 9 = .ok (.getfield 16, 3) := by decide +kernel
theorem dX10_isThingNext_12 : decode cX10_isThingNext 12 = .ok (.aload_n 0, 1) := by decide +kernel
theorem dX10_isThingNext_13 : decode cX10_isThingNext 13 = .ok (.getfield 88, 3) := by decide +kernel
theorem dX10_isThingNext_16 : decode cX10_isThingNext 16 = .ok (.iaload, 1) := by decide +kernel
theorem dX10_isThingNext_17 : decode cX10_isThingNext 17 = .ok (.bipush 105, 2) := by decide +kernel
theorem dX10_isThingNext_19 : decode cX10_isThingNext 19 = .ok (.if_icmp .eq 31, 3) := by decide +kernel
theorem dX10_isThingNext_22 : decode cX10_isThingNext 22 = .ok (.aload_n 0, 1) := by decide +kernel
theorem dX10_isThingNext_23 : decode cX10_isThingNext 23 = .ok (.getfield 16, 3) := by decide +kernel
theorem dX10_isThingNext_26 : decode cX10_isThingNext 26 = .ok (.aload_n 0, 1) := by decide +kernel
theorem dX10_isThingNext_27 : decode cX10_isThingNext 27 = .ok (.getfield 88, 3) := by decide +kernel
theorem dX10_isThingNext_30 : decode cX10_isThingNext 30 = .ok (.iaload, 1) := by decide +kernel
theorem dX10_isThingNext_31 : decode cX10_isThingNext 31 = .ok (.bipush 115, 2) := by decide +kernel
theorem dX10_isThingNext_33 : decode cX10_isThingNext 33 = .ok (.if_icmp .eq 17, 3) := by decide +kernel
theorem dX10_isThingNext_36 : decode cX10_isThingNext 36 = .ok (.aload_n 0, 1) := by decide +kernel
theorem dX10_isThingNext_37 : decode cX10_isThingNext 37 = .ok (.getfield 16, 3) := by decide +kernel
theorem dX10_isThingNext_40 : decode cX10_isThingNext 40 = .ok (.aload_n 0, 1) := by decide +kernel
theorem dX10_isThingNext_41 : decode cX10_isThingNext 41 = .ok (.getfield 88, 3) := by decide +kernel
theorem dX10_isThingNext_44 : decode cX10_isThingNext 44 = .ok (.iaload, 1) := by decide +kernel
theorem dX10_isThingNext_45 : decode cX10_isThingNext 45 = .ok (.bipush 103, 2) := by decide +kernel
theorem dX10_isThingNext_47 : decode cX10_isThingNext 47 = .ok (.if_icmp .ne 7, 3) := by decide +kernel
theorem dX10_isThingNext_50 : decode cX10_isThingNext 50 = .ok (.iconst 1, 1) := by decide +kernel
theorem dX10_isThingNext_51 : decode cX10_isThingNext 51 = .ok (.goto 4, 3) := by decide +kernel
theorem dX10_isThingNext_54 : decode cX10_isThingNext 54 = .ok (.iconst 0, 1) := by decide +kernel
theorem dX10_isThingNext_55 : decode cX10_isThingNext 55 = .ok (.ireturn, 1) := by decide +kernel
def bk_X10_isThingNext_0 (l : Launch) (g : Gm) (G : Nat → CT) (P : PT) : CT := (oALd 0 (oGet [10] 12 (oILd 1 (oCmp (fun x y => y ≤ x) (oPush (.int (0)) (oZRet P)) (oALd 0 (oGet [10] 4 (oALd 0 (oGet [10] 12 (oIAL g (oPush (.int (105)) (oCmp (fun x y => x = y) (oPush (.int (1)) (oGo (oZRet P))) (oALd 0 (oGet [10] 4 (oALd 0 (oGet [10] 12 (oIAL g (oPush (.int (115)) (oCmp (fun x y => x = y) (oPush (.int (1)) (oGo (oZRet P))) (oALd 0 (oGet [10] 4 (oALd 0 (oGet [10] 12 (oIAL g (oPush (.int (103)) (oCmp (fun x y => x = y) (oPush (.int (1)) (oGo (oZRet P))) (oPush (.int (0)) (oZRet P)))))))))))))))))))))))))))
def bk_X10_isThingNext (l : Launch) (g : Gm) (b : Nat) (G : Nat → CT) (P : PT) : CT := match b with
  | 0 => bk_X10_isThingNext_0 l g G P
  | _ => fun _ _ _ _ _ => False
def pc_X10_isThingNext (b : Nat) : Nat := match b with
  | 0 => 0
  | _ => 0
set_option maxRecDepth 100000 in
theorem sb_X10_isThingNext_0 {p : Program} {l : Launch} {e : Env} {s : State} {m : MethodId} {args : Array Value} {below : List Frame} {meth : Method} {c : Code} {g : Gm} {h0 : Hp} {P : PT} {mc ms : Nat} (X : Cx g p s m args meth c (Adom h0 s.heap.size) cX10_isThingNext RX10 2) (hr : meth.sig.returnType = some .boolean) (hn : meth.name = "isThingNext") : SX g p l e s m args below meth c d_X10_isThingNext 2 mc ms h0 P (bk_X10_isThingNext_0 l g (fun b => GX g p l e s m args below meth c d_X10_isThingNext 2 mc ms h0 P (pc_X10_isThingNext b)) P) 0 := (s_aload_n X dX10_isThingNext_0 rfl (s_get X dX10_isThingNext_1 (mcn (⟨_, _, _, _, rfl, inU_X10, by decide, uw_721, rfl⟩) (mnl)) (s_iload_n X dX10_isThingNext_4 rfl (s_icmp_ge X dX10_isThingNext_5 (by decide) (s_iconst X dX10_isThingNext_54 rfl (s_zret X hr dX10_isThingNext_55)) (s_aload_n X dX10_isThingNext_8 rfl (s_get X dX10_isThingNext_9 (mcn (⟨_, _, _, _, rfl, inU_X10, by decide, uw_713, rfl⟩) (mnl)) (s_aload_n X dX10_isThingNext_12 rfl (s_get X dX10_isThingNext_13 (mcn (⟨_, _, _, _, rfl, inU_X10, by decide, uw_721, rfl⟩) (mnl)) (s_iaload X dX10_isThingNext_16 (s_bipush X dX10_isThingNext_17 rfl (s_icmp_eq X dX10_isThingNext_19 (by decide) (s_iconst X dX10_isThingNext_50 rfl (s_goto X dX10_isThingNext_51 (by decide) (s_zret X hr dX10_isThingNext_55))) (s_aload_n X dX10_isThingNext_22 rfl (s_get X dX10_isThingNext_23 (mcn (⟨_, _, _, _, rfl, inU_X10, by decide, uw_713, rfl⟩) (mnl)) (s_aload_n X dX10_isThingNext_26 rfl (s_get X dX10_isThingNext_27 (mcn (⟨_, _, _, _, rfl, inU_X10, by decide, uw_721, rfl⟩) (mnl)) (s_iaload X dX10_isThingNext_30 (s_bipush X dX10_isThingNext_31 rfl (s_icmp_eq X dX10_isThingNext_33 (by decide) (s_iconst X dX10_isThingNext_50 rfl (s_goto X dX10_isThingNext_51 (by decide) (s_zret X hr dX10_isThingNext_55))) (s_aload_n X dX10_isThingNext_36 rfl (s_get X dX10_isThingNext_37 (mcn (⟨_, _, _, _, rfl, inU_X10, by decide, uw_713, rfl⟩) (mnl)) (s_aload_n X dX10_isThingNext_40 rfl (s_get X dX10_isThingNext_41 (mcn (⟨_, _, _, _, rfl, inU_X10, by decide, uw_721, rfl⟩) (mnl)) (s_iaload X dX10_isThingNext_44 (s_bipush X dX10_isThingNext_45 rfl (s_icmp_ne X dX10_isThingNext_47 (by decide) (s_iconst X dX10_isThingNext_54 rfl (s_zret X hr dX10_isThingNext_55)) (s_iconst X dX10_isThingNext_50 rfl (s_goto X dX10_isThingNext_51 (by decide) (s_zret X hr dX10_isThingNext_55))))))))))))))))))))))))))))
set_option maxRecDepth 100000 in
theorem vc_X10_isThingNext {l : Launch} {g : Gm} {a0 : Nat} {a1 : Int32} {h : Hp} {mc ms : Nat} {P : PT} (H : ∀ G : Nat → CT, (∀ (b : Nat) (h : Hp) (cb sb : Nat) (ls : LocS) (st : List Value), bk_X10_isThingNext l g b G P h cb sb ls st → G b h cb sb ls st) → G 0 h mc ms [some (.ref a0), some (.int a1)] []) : Run l g d_X10_isThingNext [.ref a0, .int a1] h mc ms P :=
  Run.of (d := d_X10_isThingNext) (by decide) (mcn rfl (mcn rfl (mnl))) (Nat.le_of_ble_eq_true rfl) (fun p e s m args below meth c X hr hn => H (fun b => GX g p l e s m args below meth c d_X10_isThingNext 2 mc ms h P (pc_X10_isThingNext b)) (fun b h1 cb sb ls st hb => match b, hb with
    | 0, hb => sb_X10_isThingNext_0 (p := p) (e := e) (below := below) X hr hn h1 cb sb ls st hb
    | _ + 1, hb => hb.elim))
theorem dX10_readThing_0 : decode cX10_readThing 0 = .ok (.aload_n 0, 1) := by decide +kernel
theorem dX10_readThing_1 : decode cX10_readThing 1 = .ok (.getfield 16, 3) := by decide +kernel
theorem dX10_readThing_4 : decode cX10_readThing 4 = .ok (.aload_n 0, 1) := by decide +kernel
theorem dX10_readThing_5 : decode cX10_readThing 5 = .ok (.getfield 88, 3) := by decide +kernel
theorem dX10_readThing_8 : decode cX10_readThing 8 = .ok (.iaload, 1) := by decide +kernel
theorem dX10_readThing_9 : decode cX10_readThing 9 = .ok (.istore_n 2, 1) := by decide +kernel
theorem dX10_readThing_10 : decode cX10_readThing 10 = .ok (.aload_n 0, 1) := by decide +kernel
theorem dX10_readThing_11 : decode cX10_readThing 11 = .ok (.dup, 1) := by decide +kernel
theorem dX10_readThing_12 : decode cX10_readThing 12 = .ok (.getfield 88, 3) := by decide +kernel
theorem dX10_readThing_15 : decode cX10_readThing 15 = .ok (.iconst 1, 1) := by decide +kernel
theorem dX10_readThing_16 : decode cX10_readThing 16 = .ok (.iadd, 1) := by decide +kernel
theorem dX10_readThing_17 : decode cX10_readThing 17 = .ok (.putfield 88, 3) := by decide +kernel
theorem dX10_readThing_20 : decode cX10_readThing 20 = .ok (.iconst 5, 1) := by decide +kernel
theorem dX10_readThing_21 : decode cX10_readThing 21 = .ok (.aload_n 0, 1) := by decide +kernel
theorem dX10_readThing_22 : decode cX10_readThing 22 = .ok (.getfield 119, 3) := by decide +kernel
theorem dX10_readThing_25 : decode cX10_readThing 25 = .ok (.imul, 1) := by decide +kernel
theorem dX10_readThing_26 : decode cX10_readThing 26 = .ok (.aload_n 0, 1) := by decide +kernel
theorem dX10_readThing_27 : decode cX10_readThing 27 = .ok (.getfield 40, 3) := by decide +kernel
theorem dX10_readThing_30 : decode cX10_readThing 30 = .ok (.aload_n 0, 1) := by decide +kernel
theorem dX10_readThing_31 : decode cX10_readThing 31 = .ok (.getfield 119, 3) := by decide +kernel
theorem dX10_readThing_34 : decode cX10_readThing 34 = .ok (.iaload, 1) := by decide +kernel
theorem dX10_readThing_35 : decode cX10_readThing 35 = .ok (.iadd, 1) := by decide +kernel
theorem dX10_readThing_36 : decode cX10_readThing 36 = .ok (.istore_n 3, 1) := by decide +kernel
theorem dX10_readThing_37 : decode cX10_readThing 37 = .ok (.aload_n 0, 1) := by decide +kernel
theorem dX10_readThing_38 : decode cX10_readThing 38 = .ok (.getfield 43, 3) := by decide +kernel
theorem dX10_readThing_41 : decode cX10_readThing 41 = .ok (.iload_n 3, 1) := by decide +kernel
theorem dX10_readThing_42 : decode cX10_readThing 42 = .ok (.iload_n 2, 1) := by decide +kernel
theorem dX10_readThing_43 : decode cX10_readThing 43 = .ok (.bipush 105, 2) := by decide +kernel
theorem dX10_readThing_45 : decode cX10_readThing 45 = .ok (.if_icmp .ne 7, 3) := by decide +kernel
theorem dX10_readThing_48 : decode cX10_readThing 48 = .ok (.iconst 0, 1) := by decide +kernel
theorem dX10_readThing_49 : decode cX10_readThing 49 = .ok (.goto 14, 3) := by decide +kernel
theorem dX10_readThing_52 : decode cX10_readThing 52 = .ok (.iload_n 2, 1) := by decide +kernel
theorem dX10_readThing_53 : decode cX10_readThing 53 = .ok (.bipush 115, 2) := by decide +kernel
theorem dX10_readThing_55 : decode cX10_readThing 55 = .ok (.if_icmp .ne 7, 3) := by decide +kernel
theorem dX10_readThing_58 : decode cX10_readThing 58 = .ok (.iconst 1, 1) := by decide +kernel
theorem dX10_readThing_59 : decode cX10_readThing 59 = .ok (.goto 4, 3) := by decide +kernel
theorem dX10_readThing_62 : decode cX10_readThing 62 = .ok (.iconst 2, 1) := by decide +kernel
theorem dX10_readThing_63 : decode cX10_readThing 63 = .ok (.iastore, 1) := by decide +kernel
theorem dX10_readThing_64 : decode cX10_readThing 64 = .ok (.aload_n 0, 1) := by decide +kernel
theorem dX10_readThing_65 : decode cX10_readThing 65 = .ok (.getfield 46, 3) := by decide +kernel
theorem dX10_readThing_68 : decode cX10_readThing 68 = .ok (.iload_n 3, 1) := by decide +kernel
theorem dX10_readThing_69 : decode cX10_readThing 69 = .ok (.aload_n 0, 1) := by decide +kernel
theorem dX10_readThing_70 : decode cX10_readThing 70 = .ok (.iload_n 1, 1) := by decide +kernel
theorem dX10_readThing_71 : decode cX10_readThing 71 = .ok (.iload_n 2, 1) := by decide +kernel
theorem dX10_readThing_72 : decode cX10_readThing 72 = .ok (.bipush 105, 2) := by decide +kernel
theorem dX10_readThing_74 : decode cX10_readThing 74 = .ok (.if_icmp .ne 8, 3) := by decide +kernel
theorem dX10_readThing_77 : decode cX10_readThing 77 = .ok (.bipush 9, 2) := by decide +kernel
theorem dX10_readThing_79 : decode cX10_readThing 79 = .ok (.goto 5, 3) := by decide +kernel
theorem dX10_readThing_82 : decode cX10_readThing 82 = .ok (.bipush 7, 2) := by decide +kernel
theorem dX10_readThing_84 : decode cX10_readThing 84 = .ok (.invokevirtual 138, 3) := by decide +kernel
theorem dX10_readThing_87 : decode cX10_readThing 87 = .ok (.iastore, 1) := by decide +kernel
theorem dX10_readThing_88 : decode cX10_readThing 88 = .ok (.aload_n 0, 1) := by decide +kernel
theorem dX10_readThing_89 : decode cX10_readThing 89 = .ok (.getfield 40, 3) := by decide +kernel
theorem dX10_readThing_92 : decode cX10_readThing 92 = .ok (.aload_n 0, 1) := by decide +kernel
theorem dX10_readThing_93 : decode cX10_readThing 93 = .ok (.getfield 119, 3) := by decide +kernel
theorem dX10_readThing_96 : decode cX10_readThing 96 = .ok (.dup2, 1) := by decide +kernel
theorem dX10_readThing_97 : decode cX10_readThing 97 = .ok (.iaload, 1) := by decide +kernel
theorem dX10_readThing_98 : decode cX10_readThing 98 = .ok (.iconst 1, 1) := by decide +kernel
theorem dX10_readThing_99 : decode cX10_readThing 99 = .ok (.iadd, 1) := by decide +kernel
theorem dX10_readThing_100 : decode cX10_readThing 100 = .ok (.iastore, 1) := by decide +kernel
theorem dX10_readThing_101 : decode cX10_readThing 101 = .ok (.aload_n 0, 1) := by decide +kernel
theorem dX10_readThing_102 : decode cX10_readThing 102 = .ok (.getfield 46, 3) := by decide +kernel
theorem dX10_readThing_105 : decode cX10_readThing 105 = .ok (.iload_n 3, 1) := by decide +kernel
theorem dX10_readThing_106 : decode cX10_readThing 106 = .ok (.iaload, 1) := by decide +kernel
theorem dX10_readThing_107 : decode cX10_readThing 107 = .ok (.bipush (-9), 2) := by decide +kernel
theorem dX10_readThing_109 : decode cX10_readThing 109 = .ok (.if_icmp .eq 7, 3) := by decide +kernel
theorem dX10_readThing_112 : decode cX10_readThing 112 = .ok (.iconst 1, 1) := by decide +kernel
theorem dX10_readThing_113 : decode cX10_readThing 113 = .ok (.goto 4, 3) := by decide +kernel
theorem dX10_readThing_116 : decode cX10_readThing 116 = .ok (.iconst 0, 1) := by decide +kernel
theorem dX10_readThing_117 : decode cX10_readThing 117 = .ok (.ireturn, 1) := by decide +kernel
def bk_X10_readThing_0 (l : Launch) (g : Gm) (G : Nat → CT) (P : PT) : CT := (oALd 0 (oGet [10] 4 (oALd 0 (oGet [10] 12 (oIAL g (oISt 2 (oALd 0 (oDup (oGet [10] 12 (oPush (.int (1)) (oBin (fun x y => x + y) (oPutI [10] 12 (oPush (.int (5)) (oALd 0 (oGet [10] 13 (oBin (fun x y => x * y) (oALd 0 (oGet [10] 15 (oALd 0 (oGet [10] 13 (oIAL g (oBin (fun x y => x + y) (oISt 3 (oALd 0 (oGet [10] 16 (oILd 3 (oILd 2 (oPush (.int (105)) (oCmp (fun x y => x = y) (oPush (.int (0)) (oGo (G 1))) (oILd 2 (oPush (.int (115)) (oCmp (fun x y => x = y) (oPush (.int (1)) (oGo (G 1))) (oPush (.int (2)) (G 1))))))))))))))))))))))))))))))))))
def bk_X10_readThing_1 (l : Launch) (g : Gm) (G : Nat → CT) (P : PT) : CT := (oIAS g (oALd 0 (oGet [10] 17 (oILd 3 (oALd 0 (oILd 1 (oILd 2 (oPush (.int (105)) (oCmp (fun x y => x = y) (oPush (.int (9)) (oGo (G 2))) (oPush (.int (7)) (G 2)))))))))))
def bk_X10_readThing_2 (l : Launch) (g : Gm) (G : Nat → CT) (P : PT) : CT := (oCallV l g [(10, d_X10_digit)] 3 (oIAS g (oALd 0 (oGet [10] 15 (oALd 0 (oGet [10] 13 (oDup2 (oIAL g (oPush (.int (1)) (oBin (fun x y => x + y) (oIAS g (oALd 0 (oGet [10] 17 (oILd 3 (oIAL g (oPush (.int (-9)) (oCmp (fun x y => x = y) (oPush (.int (0)) (oZRet P)) (oPush (.int (1)) (oGo (oZRet P))))))))))))))))))))
def bk_X10_readThing (l : Launch) (g : Gm) (b : Nat) (G : Nat → CT) (P : PT) : CT := match b with
  | 0 => bk_X10_readThing_0 l g G P
  | 1 => bk_X10_readThing_1 l g G P
  | 2 => bk_X10_readThing_2 l g G P
  | _ => fun _ _ _ _ _ => False
def pc_X10_readThing (b : Nat) : Nat := match b with
  | 0 => 0
  | 1 => 63
  | 2 => 84
  | _ => 0
set_option maxRecDepth 100000 in
theorem sb_X10_readThing_0 {p : Program} {l : Launch} {e : Env} {s : State} {m : MethodId} {args : Array Value} {below : List Frame} {meth : Method} {c : Code} {g : Gm} {h0 : Hp} {P : PT} {mc ms : Nat} (X : Cx g p s m args meth c (Adom h0 s.heap.size) cX10_readThing RX10 4) (hr : meth.sig.returnType = some .boolean) (hn : meth.name = "readThing") : SX g p l e s m args below meth c d_X10_readThing 4 mc ms h0 P (bk_X10_readThing_0 l g (fun b => GX g p l e s m args below meth c d_X10_readThing 4 mc ms h0 P (pc_X10_readThing b)) P) 0 := (s_aload_n X dX10_readThing_0 rfl (s_get X dX10_readThing_1 (mcn (⟨_, _, _, _, rfl, inU_X10, by decide, uw_713, rfl⟩) (mnl)) (s_aload_n X dX10_readThing_4 rfl (s_get X dX10_readThing_5 (mcn (⟨_, _, _, _, rfl, inU_X10, by decide, uw_721, rfl⟩) (mnl)) (s_iaload X dX10_readThing_8 (s_istore_n X dX10_readThing_9 rfl (by decide) (s_aload_n X dX10_readThing_10 rfl (s_dup X dX10_readThing_11 (s_get X dX10_readThing_12 (mcn (⟨_, _, _, _, rfl, inU_X10, by decide, uw_721, rfl⟩) (mnl)) (s_iconst X dX10_readThing_15 rfl (s_iadd X dX10_readThing_16 (s_putI X dX10_readThing_17 (mcn (⟨_, _, _, _, tyX10, rfl, inU_X10, by decide, uw_721, rfl, tyX10_ok, nmX10, rfl, rfl⟩) (mnl)) (s_iconst X dX10_readThing_20 rfl (s_aload_n X dX10_readThing_21 rfl (s_get X dX10_readThing_22 (mcn (⟨_, _, _, _, rfl, inU_X10, by decide, uw_722, rfl⟩) (mnl)) (s_imul X dX10_readThing_25 (s_aload_n X dX10_readThing_26 rfl (s_get X dX10_readThing_27 (mcn (⟨_, _, _, _, rfl, inU_X10, by decide, uw_724, rfl⟩) (mnl)) (s_aload_n X dX10_readThing_30 rfl (s_get X dX10_readThing_31 (mcn (⟨_, _, _, _, rfl, inU_X10, by decide, uw_722, rfl⟩) (mnl)) (s_iaload X dX10_readThing_34 (s_iadd X dX10_readThing_35 (s_istore_n X dX10_readThing_36 rfl (by decide) (s_aload_n X dX10_readThing_37 rfl (s_get X dX10_readThing_38 (mcn (⟨_, _, _, _, rfl, inU_X10, by decide, uw_725, rfl⟩) (mnl)) (s_iload_n X dX10_readThing_41 rfl (s_iload_n X dX10_readThing_42 rfl (s_bipush X dX10_readThing_43 rfl (s_icmp_ne X dX10_readThing_45 (by decide) (s_iload_n X dX10_readThing_52 rfl (s_bipush X dX10_readThing_53 rfl (s_icmp_ne X dX10_readThing_55 (by decide) (s_iconst X dX10_readThing_62 rfl Sd.rf) (s_iconst X dX10_readThing_58 rfl (s_goto X dX10_readThing_59 (by decide) Sd.rf))))) (s_iconst X dX10_readThing_48 rfl (s_goto X dX10_readThing_49 (by decide) Sd.rf)))))))))))))))))))))))))))))))
set_option maxRecDepth 100000 in
theorem sb_X10_readThing_1 {p : Program} {l : Launch} {e : Env} {s : State} {m : MethodId} {args : Array Value} {below : List Frame} {meth : Method} {c : Code} {g : Gm} {h0 : Hp} {P : PT} {mc ms : Nat} (X : Cx g p s m args meth c (Adom h0 s.heap.size) cX10_readThing RX10 4) (hr : meth.sig.returnType = some .boolean) (hn : meth.name = "readThing") : SX g p l e s m args below meth c d_X10_readThing 4 mc ms h0 P (bk_X10_readThing_1 l g (fun b => GX g p l e s m args below meth c d_X10_readThing 4 mc ms h0 P (pc_X10_readThing b)) P) 63 := (s_iastore X dX10_readThing_63 (s_aload_n X dX10_readThing_64 rfl (s_get X dX10_readThing_65 (mcn (⟨_, _, _, _, rfl, inU_X10, by decide, uw_726, rfl⟩) (mnl)) (s_iload_n X dX10_readThing_68 rfl (s_aload_n X dX10_readThing_69 rfl (s_iload_n X dX10_readThing_70 rfl (s_iload_n X dX10_readThing_71 rfl (s_bipush X dX10_readThing_72 rfl (s_icmp_ne X dX10_readThing_74 (by decide) (s_bipush X dX10_readThing_82 rfl Sd.rf) (s_bipush X dX10_readThing_77 rfl (s_goto X dX10_readThing_79 (by decide) Sd.rf)))))))))))
set_option maxRecDepth 100000 in
theorem sb_X10_readThing_2 {p : Program} {l : Launch} {e : Env} {s : State} {m : MethodId} {args : Array Value} {below : List Frame} {meth : Method} {c : Code} {g : Gm} {h0 : Hp} {P : PT} {mc ms : Nat} (X : Cx g p s m args meth c (Adom h0 s.heap.size) cX10_readThing RX10 4) (hr : meth.sig.returnType = some .boolean) (hn : meth.name = "readThing") : SX g p l e s m args below meth c d_X10_readThing 4 mc ms h0 P (bk_X10_readThing_2 l g (fun b => GX g p l e s m args below meth c d_X10_readThing 4 mc ms h0 P (pc_X10_readThing b)) P) 84 := (s_callV X dX10_readThing_84 (mv (vok_V X rfl uw_832 uw_834 (UW_pr 23 rfl rfl) uw_7 ci_X10_digit yok_X10_digit ⟨Nat.le_of_ble_eq_true rfl, Nat.le_of_ble_eq_true rfl⟩) mv0) (s_iastore X dX10_readThing_87 (s_aload_n X dX10_readThing_88 rfl (s_get X dX10_readThing_89 (mcn (⟨_, _, _, _, rfl, inU_X10, by decide, uw_724, rfl⟩) (mnl)) (s_aload_n X dX10_readThing_92 rfl (s_get X dX10_readThing_93 (mcn (⟨_, _, _, _, rfl, inU_X10, by decide, uw_722, rfl⟩) (mnl)) (s_dup2 X dX10_readThing_96 (s_iaload X dX10_readThing_97 (s_iconst X dX10_readThing_98 rfl (s_iadd X dX10_readThing_99 (s_iastore X dX10_readThing_100 (s_aload_n X dX10_readThing_101 rfl (s_get X dX10_readThing_102 (mcn (⟨_, _, _, _, rfl, inU_X10, by decide, uw_726, rfl⟩) (mnl)) (s_iload_n X dX10_readThing_105 rfl (s_iaload X dX10_readThing_106 (s_bipush X dX10_readThing_107 rfl (s_icmp_eq X dX10_readThing_109 (by decide) (s_iconst X dX10_readThing_116 rfl (s_zret X hr dX10_readThing_117)) (s_iconst X dX10_readThing_112 rfl (s_goto X dX10_readThing_113 (by decide) (s_zret X hr dX10_readThing_117))))))))))))))))))))
set_option maxRecDepth 100000 in
theorem vc_X10_readThing {l : Launch} {g : Gm} {a0 : Nat} {a1 : Int32} {h : Hp} {mc ms : Nat} {P : PT} (H : ∀ G : Nat → CT, (∀ (b : Nat) (h : Hp) (cb sb : Nat) (ls : LocS) (st : List Value), bk_X10_readThing l g b G P h cb sb ls st → G b h cb sb ls st) → G 0 h mc ms [some (.ref a0), some (.int a1), none, none] []) : Run l g d_X10_readThing [.ref a0, .int a1] h mc ms P :=
  Run.of (d := d_X10_readThing) (by decide) (mcn rfl (mcn rfl (mnl))) (Nat.le_of_ble_eq_true rfl) (fun p e s m args below meth c X hr hn => H (fun b => GX g p l e s m args below meth c d_X10_readThing 4 mc ms h P (pc_X10_readThing b)) (fun b h1 cb sb ls st hb => match b, hb with
    | 0, hb => sb_X10_readThing_0 (p := p) (e := e) (below := below) X hr hn h1 cb sb ls st hb
    | 1, hb => sb_X10_readThing_1 (p := p) (e := e) (below := below) X hr hn h1 cb sb ls st hb
    | 2, hb => sb_X10_readThing_2 (p := p) (e := e) (below := below) X hr hn h1 cb sb ls st hb
    | _ + 3, hb => hb.elim))
theorem dX10_firstAmiss_0 : decode cX10_firstAmiss 0 = .ok (.iconst 0, 1) := by decide +kernel
theorem dX10_firstAmiss_1 : decode cX10_firstAmiss 1 = .ok (.istore_n 1, 1) := by decide +kernel
theorem dX10_firstAmiss_2 : decode cX10_firstAmiss 2 = .ok (.iconst 0, 1) := by decide +kernel
theorem dX10_firstAmiss_3 : decode cX10_firstAmiss 3 = .ok (.istore_n 2, 1) := by decide +kernel
theorem dX10_firstAmiss_4 : decode cX10_firstAmiss 4 = .ok (.iload_n 2, 1) := by decide +kernel
theorem dX10_firstAmiss_5 : decode cX10_firstAmiss 5 = .ok (.bipush 8, 2) := by decide +kernel
theorem dX10_firstAmiss_7 : decode cX10_firstAmiss 7 = .ok (.if_icmp .ge 25, 3) := by decide +kernel
theorem dX10_firstAmiss_10 : decode cX10_firstAmiss 10 = .ok (.aload_n 0, 1) := by decide +kernel
theorem dX10_firstAmiss_11 : decode cX10_firstAmiss 11 = .ok (.getfield 52, 3) := by decide +kernel
theorem dX10_firstAmiss_14 : decode cX10_firstAmiss 14 = .ok (.iload_n 2, 1) := by decide +kernel
theorem dX10_firstAmiss_15 : decode cX10_firstAmiss 15 = .ok (.bipush (-9), 2) := by decide +kernel
theorem dX10_firstAmiss_17 : decode cX10_firstAmiss 17 = .ok (.iastore, 1) := by decide +kernel
theorem dX10_firstAmiss_18 : decode cX10_firstAmiss 18 = .ok (.aload_n 0, 1) := by decide +kernel
theorem dX10_firstAmiss_19 : decode cX10_firstAmiss 19 = .ok (.getfield 55, 3) := by decide +kernel
theorem dX10_firstAmiss_22 : decode cX10_firstAmiss 22 = .ok (.iload_n 2, 1) := by decide +kernel
theorem dX10_firstAmiss_23 : decode cX10_firstAmiss 23 = .ok (.bipush (-9), 2) := by decide +kernel
theorem dX10_firstAmiss_25 : decode cX10_firstAmiss 25 = .ok (.iastore, 1) := by decide +kernel
theorem dX10_firstAmiss_26 : decode cX10_firstAmiss 26 = .ok (.iinc 2 1, 3) := by decide +kernel
theorem dX10_firstAmiss_29 : decode cX10_firstAmiss 29 = .ok (.goto (-25), 3) := by decide +kernel
theorem dX10_firstAmiss_32 : decode cX10_firstAmiss 32 = .ok (.iconst 0, 1) := by decide +kernel
theorem dX10_firstAmiss_33 : decode cX10_firstAmiss 33 = .ok (.istore_n 2, 1) := by decide +kernel
theorem dX10_firstAmiss_34 : decode cX10_firstAmiss 34 = .ok (.iload_n 2, 1) := by decide +kernel
theorem dX10_firstAmiss_35 : decode cX10_firstAmiss 35 = .ok (.aload_n 0, 1) := by decide +kernel
theorem dX10_firstAmiss_36 : decode cX10_firstAmiss 36 = .ok (.getfield 119, 3) := by decide +kernel
theorem dX10_firstAmiss_39 : decode cX10_firstAmiss 39 = .ok (.if_icmp .ge 129, 3) := by decide +kernel
theorem dX10_firstAmiss_42 : decode cX10_firstAmiss 42 = .ok (.iconst 0, 1) := by decide +kernel
theorem dX10_firstAmiss_43 : decode cX10_firstAmiss 43 = .ok (.istore_n 3, 1) := by decide +kernel
theorem dX10_firstAmiss_44 : decode cX10_firstAmiss 44 = .ok (.iload_n 3, 1) := by decide +kernel
theorem dX10_firstAmiss_45 : decode cX10_firstAmiss 45 = .ok (.aload_n 0, 1) := by decide +kernel
theorem dX10_firstAmiss_46 : decode cX10_firstAmiss 46 = .ok (.getfield 40, 3) := by decide +kernel
theorem dX10_firstAmiss_49 : decode cX10_firstAmiss 49 = .ok (.iload_n 2, 1) := by decide +kernel
theorem dX10_firstAmiss_50 : decode cX10_firstAmiss 50 = .ok (.iaload, 1) := by decide +kernel
theorem dX10_firstAmiss_51 : decode cX10_firstAmiss 51 = .ok (.if_icmp .ge 111, 3) := by decide +kernel
theorem dX10_firstAmiss_54 : decode cX10_firstAmiss 54 = .ok (.iconst 5, 1) := by decide +kernel
theorem dX10_firstAmiss_55 : decode cX10_firstAmiss 55 = .ok (.iload_n 2, 1) := by decide +kernel
theorem dX10_firstAmiss_56 : decode cX10_firstAmiss 56 = .ok (.imul, 1) := by decide +kernel
theorem dX10_firstAmiss_57 : decode cX10_firstAmiss 57 = .ok (.iload_n 3, 1) := by decide +kernel
theorem dX10_firstAmiss_58 : decode cX10_firstAmiss 58 = .ok (.iadd, 1) := by decide +kernel
theorem dX10_firstAmiss_59 : decode cX10_firstAmiss 59 = .ok (.istore 4, 2) := by decide +kernel
theorem dX10_firstAmiss_61 : decode cX10_firstAmiss 61 = .ok (.aload_n 0, 1) := by decide +kernel
theorem dX10_firstAmiss_62 : decode cX10_firstAmiss 62 = .ok (.getfield 46, 3) := by decide +kernel
theorem dX10_firstAmiss_65 : decode cX10_firstAmiss 65 = .ok (.iload 4, 2) := by decide +kernel
theorem dX10_firstAmiss_67 : decode cX10_firstAmiss 67 = .ok (.iaload, 1) := by decide +kernel
theorem dX10_firstAmiss_68 : decode cX10_firstAmiss 68 = .ok (.istore 5, 2) := by decide +kernel
theorem dX10_firstAmiss_70 : decode cX10_firstAmiss 70 = .ok (.aload_n 0, 1) := by decide +kernel
theorem dX10_firstAmiss_71 : decode cX10_firstAmiss 71 = .ok (.getfield 43, 3) := by decide +kernel
theorem dX10_firstAmiss_74 : decode cX10_firstAmiss 74 = .ok (.iload 4, 2) := by decide +kernel
theorem dX10_firstAmiss_76 : decode cX10_firstAmiss 76 = .ok (.iaload, 1) := by decide +kernel
theorem dX10_firstAmiss_77 : decode cX10_firstAmiss 77 = .ok (.iconst 1, 1) := by decide +kernel
theorem dX10_firstAmiss_78 : decode cX10_firstAmiss 78 = .ok (.if_icmp .ne 35, 3) := by decide +kernel
theorem dX10_firstAmiss_81 : decode cX10_firstAmiss 81 = .ok (.iload_n 1, 1) := by decide +kernel
theorem dX10_firstAmiss_82 : decode cX10_firstAmiss 82 = .ok (.aload_n 0, 1) := by decide +kernel
theorem dX10_firstAmiss_83 : decode cX10_firstAmiss 83 = .ok (.getfield 52, 3) := by decide +kernel
theorem dX10_firstAmiss_86 : decode cX10_firstAmiss 86 = .ok (.iload 5, 2) := by decide +kernel
theorem dX10_firstAmiss_88 : decode cX10_firstAmiss 88 = .ok (.iaload, 1) := by decide +kernel
theorem dX10_firstAmiss_89 : decode cX10_firstAmiss 89 = .ok (.bipush (-9), 2) := by decide +kernel
theorem dX10_firstAmiss_91 : decode cX10_firstAmiss 91 = .ok (.if_icmp .ne 7, 3) := by decide +kernel
theorem dX10_firstAmiss_94 : decode cX10_firstAmiss 94 = .ok (.iconst 0, 1) := by decide +kernel
theorem dX10_firstAmiss_95 : decode cX10_firstAmiss 95 = .ok (.goto 7, 3) := by decide +kernel
theorem dX10_firstAmiss_98 : decode cX10_firstAmiss 98 = .ok (.iconst 1, 1) := by decide +kernel
theorem dX10_firstAmiss_99 : decode cX10_firstAmiss 99 = .ok (.iload 5, 2) := by decide +kernel
theorem dX10_firstAmiss_101 : decode cX10_firstAmiss 101 = .ok (.ishl, 1) := by decide +kernel
theorem dX10_firstAmiss_102 : decode cX10_firstAmiss 102 = .ok (.ior, 1) := by decide +kernel
theorem dX10_firstAmiss_103 : decode cX10_firstAmiss 103 = .ok (.istore_n 1, 1) := by decide +kernel
theorem dX10_firstAmiss_104 : decode cX10_firstAmiss 104 = .ok (.aload_n 0, 1) := by decide +kernel
theorem dX10_firstAmiss_105 : decode cX10_firstAmiss 105 = .ok (.getfield 52, 3) := by decide +kernel
theorem dX10_firstAmiss_108 : decode cX10_firstAmiss 108 = .ok (.iload 5, 2) := by decide +kernel
theorem dX10_firstAmiss_110 : decode cX10_firstAmiss 110 = .ok (.iload 4, 2) := by decide +kernel
theorem dX10_firstAmiss_112 : decode cX10_firstAmiss 112 = .ok (.iastore, 1) := by decide +kernel
theorem dX10_firstAmiss_113 : decode cX10_firstAmiss 113 = .ok (.aload_n 0, 1) := by decide +kernel
theorem dX10_firstAmiss_114 : decode cX10_firstAmiss 114 = .ok (.getfield 43, 3) := by decide +kernel
theorem dX10_firstAmiss_117 : decode cX10_firstAmiss 117 = .ok (.iload 4, 2) := by decide +kernel
theorem dX10_firstAmiss_119 : decode cX10_firstAmiss 119 = .ok (.iaload, 1) := by decide +kernel
theorem dX10_firstAmiss_120 : decode cX10_firstAmiss 120 = .ok (.iconst 2, 1) := by decide +kernel
theorem dX10_firstAmiss_121 : decode cX10_firstAmiss 121 = .ok (.if_icmp .ne 35, 3) := by decide +kernel
theorem dX10_firstAmiss_124 : decode cX10_firstAmiss 124 = .ok (.iload_n 1, 1) := by decide +kernel
theorem dX10_firstAmiss_125 : decode cX10_firstAmiss 125 = .ok (.aload_n 0, 1) := by decide +kernel
theorem dX10_firstAmiss_126 : decode cX10_firstAmiss 126 = .ok (.getfield 55, 3) := by decide +kernel
theorem dX10_firstAmiss_129 : decode cX10_firstAmiss 129 = .ok (.iload 5, 2) := by decide +kernel
theorem dX10_firstAmiss_131 : decode cX10_firstAmiss 131 = .ok (.iaload, 1) := by decide +kernel
theorem dX10_firstAmiss_132 : decode cX10_firstAmiss 132 = .ok (.bipush (-9), 2) := by decide +kernel
theorem dX10_firstAmiss_134 : decode cX10_firstAmiss 134 = .ok (.if_icmp .ne 7, 3) := by decide +kernel
theorem dX10_firstAmiss_137 : decode cX10_firstAmiss 137 = .ok (.iconst 0, 1) := by decide +kernel
theorem dX10_firstAmiss_138 : decode cX10_firstAmiss 138 = .ok (.goto 7, 3) := by decide +kernel
theorem dX10_firstAmiss_141 : decode cX10_firstAmiss 141 = .ok (.iconst 1, 1) := by decide +kernel
theorem dX10_firstAmiss_142 : decode cX10_firstAmiss 142 = .ok (.iload 5, 2) := by decide +kernel
theorem dX10_firstAmiss_144 : decode cX10_firstAmiss 144 = .ok (.ishl, 1) := by decide +kernel
theorem dX10_firstAmiss_145 : decode cX10_firstAmiss 145 = .ok (.ior, 1) := by decide +kernel
theorem dX10_firstAmiss_146 : decode cX10_firstAmiss 146 = .ok (.istore_n 1, 1) := by decide +kernel
theorem dX10_firstAmiss_147 : decode cX10_firstAmiss 147 = .ok (.aload_n 0, 1) := by decide +kernel
theorem dX10_firstAmiss_148 : decode cX10_firstAmiss 148 = .ok (.getfield 55, 3) := by decide +kernel
theorem dX10_firstAmiss_151 : decode cX10_firstAmiss 151 = .ok (.iload 5, 2) := by decide +kernel
theorem dX10_firstAmiss_153 : decode cX10_firstAmiss 153 = .ok (.iload 4, 2) := by decide +kernel
theorem dX10_firstAmiss_155 : decode cX10_firstAmiss 155 = .ok (.iastore, 1) := by decide +kernel
theorem dX10_firstAmiss_156 : decode cX10_firstAmiss 156 = .ok (.iinc 3 1, 3) := by decide +kernel
theorem dX10_firstAmiss_159 : decode cX10_firstAmiss 159 = .ok (.goto (-115), 3) := by decide +kernel
theorem dX10_firstAmiss_162 : decode cX10_firstAmiss 162 = .ok (.iinc 2 1, 3) := by decide +kernel
theorem dX10_firstAmiss_165 : decode cX10_firstAmiss 165 = .ok (.goto (-131), 3) := by decide +kernel
theorem dX10_firstAmiss_168 : decode cX10_firstAmiss 168 = .ok (.iconst 0, 1) := by decide +kernel
theorem dX10_firstAmiss_169 : decode cX10_firstAmiss 169 = .ok (.istore_n 2, 1) := by decide +kernel
theorem dX10_firstAmiss_170 : decode cX10_firstAmiss 170 = .ok (.iload_n 2, 1) := by decide +kernel
theorem dX10_firstAmiss_171 : decode cX10_firstAmiss 171 = .ok (.bipush 8, 2) := by decide +kernel
theorem dX10_firstAmiss_173 : decode cX10_firstAmiss 173 = .ok (.if_icmp .ge 83, 3) := by decide +kernel
theorem dX10_firstAmiss_176 : decode cX10_firstAmiss 176 = .ok (.aload_n 0, 1) := by decide +kernel
theorem dX10_firstAmiss_177 : decode cX10_firstAmiss 177 = .ok (.getfield 55, 3) := by decide +kernel
theorem dX10_firstAmiss_180 : decode cX10_firstAmiss 180 = .ok (.iload_n 2, 1) := by decide +kernel
theorem dX10_firstAmiss_181 : decode cX10_firstAmiss 181 = .ok (.iaload, 1) := by decide +kernel
theorem dX10_firstAmiss_182 : decode cX10_firstAmiss 182 = .ok (.bipush (-9), 2) := by decide +kernel
theorem dX10_firstAmiss_184 : decode cX10_firstAmiss 184 = .ok (.if_icmp .eq 7, 3) := by decide +kernel
theorem dX10_firstAmiss_187 : decode cX10_firstAmiss 187 = .ok (.iconst 1, 1) := by decide +kernel
theorem dX10_firstAmiss_188 : decode cX10_firstAmiss 188 = .ok (.goto 4, 3) := by decide +kernel
theorem dX10_firstAmiss_191 : decode cX10_firstAmiss 191 = .ok (.iconst 0, 1) := by decide +kernel
theorem dX10_firstAmiss_192 : decode cX10_firstAmiss 192 = .ok (.istore_n 3, 1) := by decide +kernel
theorem dX10_firstAmiss_193 : decode cX10_firstAmiss 193 = .ok (.iload_n 3, 1) := by decide +kernel
theorem dX10_firstAmiss_194 : decode cX10_firstAmiss 194 = .ok (.ifCond .eq 33, 3) := by decide +kernel
theorem dX10_firstAmiss_197 : decode cX10_firstAmiss 197 = .ok (.aload_n 0, 1) := by decide +kernel
theorem dX10_firstAmiss_198 : decode cX10_firstAmiss 198 = .ok (.getfield 52, 3) := by decide +kernel
theorem dX10_firstAmiss_201 : decode cX10_firstAmiss 201 = .ok (.iload_n 2, 1) := by decide +kernel
theorem dX10_firstAmiss_202 : decode cX10_firstAmiss 202 = .ok (.iaload, 1) := by decide +kernel
theorem dX10_firstAmiss_203 : decode cX10_firstAmiss 203 = .ok (.bipush (-9), 2) := by decide +kernel
theorem dX10_firstAmiss_205 : decode cX10_firstAmiss 205 = .ok (.if_icmp .eq 26, 3) := by decide +kernel
theorem dX10_firstAmiss_208 : decode cX10_firstAmiss 208 = .ok (.aload_n 0, 1) := by decide +kernel
theorem dX10_firstAmiss_209 : decode cX10_firstAmiss 209 = .ok (.getfield 52, 3) := by decide +kernel
theorem dX10_firstAmiss_212 : decode cX10_firstAmiss 212 = .ok (.iload_n 2, 1) := by decide +kernel
theorem dX10_firstAmiss_213 : decode cX10_firstAmiss 213 = .ok (.iaload, 1) := by decide +kernel
theorem dX10_firstAmiss_214 : decode cX10_firstAmiss 214 = .ok (.iconst 5, 1) := by decide +kernel
theorem dX10_firstAmiss_215 : decode cX10_firstAmiss 215 = .ok (.idiv, 1) := by decide +kernel
theorem dX10_firstAmiss_216 : decode cX10_firstAmiss 216 = .ok (.aload_n 0, 1) := by decide +kernel
theorem dX10_firstAmiss_217 : decode cX10_firstAmiss 217 = .ok (.getfield 55, 3) := by decide +kernel
theorem dX10_firstAmiss_220 : decode cX10_firstAmiss 220 = .ok (.iload_n 2, 1) := by decide +kernel
theorem dX10_firstAmiss_221 : decode cX10_firstAmiss 221 = .ok (.iaload, 1) := by decide +kernel
theorem dX10_firstAmiss_222 : decode cX10_firstAmiss 222 = .ok (.iconst 5, 1) := by decide +kernel
theorem dX10_firstAmiss_223 : decode cX10_firstAmiss 223 = .ok (.idiv, 1) := by decide +kernel
theorem dX10_firstAmiss_224 : decode cX10_firstAmiss 224 = .ok (.if_icmp .eq 7, 3) := by decide +kernel
theorem dX10_firstAmiss_227 : decode cX10_firstAmiss 227 = .ok (.iconst 1, 1) := by decide +kernel
theorem dX10_firstAmiss_228 : decode cX10_firstAmiss 228 = .ok (.goto 4, 3) := by decide +kernel
theorem dX10_firstAmiss_231 : decode cX10_firstAmiss 231 = .ok (.iconst 0, 1) := by decide +kernel
theorem dX10_firstAmiss_232 : decode cX10_firstAmiss 232 = .ok (.istore 4, 2) := by decide +kernel
theorem dX10_firstAmiss_234 : decode cX10_firstAmiss 234 = .ok (.iload_n 1, 1) := by decide +kernel
theorem dX10_firstAmiss_235 : decode cX10_firstAmiss 235 = .ok (.iload_n 2, 1) := by decide +kernel
theorem dX10_firstAmiss_236 : decode cX10_firstAmiss 236 = .ok (.ishr, 1) := by decide +kernel
theorem dX10_firstAmiss_237 : decode cX10_firstAmiss 237 = .ok (.iconst 1, 1) := by decide +kernel
theorem dX10_firstAmiss_238 : decode cX10_firstAmiss 238 = .ok (.iand, 1) := by decide +kernel
theorem dX10_firstAmiss_239 : decode cX10_firstAmiss 239 = .ok (.iconst 1, 1) := by decide +kernel
theorem dX10_firstAmiss_240 : decode cX10_firstAmiss 240 = .ok (.if_icmp .eq 8, 3) := by decide +kernel
theorem dX10_firstAmiss_243 : decode cX10_firstAmiss 243 = .ok (.iload 4, 2) := by decide +kernel
theorem dX10_firstAmiss_245 : decode cX10_firstAmiss 245 = .ok (.ifCond .ne 5, 3) := by decide +kernel
theorem dX10_firstAmiss_248 : decode cX10_firstAmiss 248 = .ok (.iload_n 2, 1) := by decide +kernel
theorem dX10_firstAmiss_249 : decode cX10_firstAmiss 249 = .ok (.ireturn, 1) := by decide +kernel
theorem dX10_firstAmiss_250 : decode cX10_firstAmiss 250 = .ok (.iinc 2 1, 3) := by decide +kernel
theorem dX10_firstAmiss_253 : decode cX10_firstAmiss 253 = .ok (.goto (-83), 3) := by decide +kernel
theorem dX10_firstAmiss_256 : decode cX10_firstAmiss 256 = .ok (.bipush (-9), 2) := by decide +kernel
theorem dX10_firstAmiss_258 : decode cX10_firstAmiss 258 = .ok (.ireturn, 1) := by decide +kernel
def bk_X10_firstAmiss_0 (l : Launch) (g : Gm) (G : Nat → CT) (P : PT) : CT := (oPush (.int (0)) (oISt 1 (oPush (.int (0)) (oISt 2 (G 1)))))
def bk_X10_firstAmiss_1 (l : Launch) (g : Gm) (G : Nat → CT) (P : PT) : CT := (oILd 2 (oPush (.int (8)) (oCmp (fun x y => y ≤ x) (oPush (.int (0)) (oISt 2 (G 2))) (oALd 0 (oGet [10] 19 (oILd 2 (oPush (.int (-9)) (oIAS g (oALd 0 (oGet [10] 20 (oILd 2 (oPush (.int (-9)) (oIAS g (oInc 2 (1) (oGo (G 1))))))))))))))))
def bk_X10_firstAmiss_2 (l : Launch) (g : Gm) (G : Nat → CT) (P : PT) : CT := (oILd 2 (oALd 0 (oGet [10] 13 (oCmp (fun x y => y ≤ x) (oPush (.int (0)) (oISt 2 (G 7))) (oPush (.int (0)) (oISt 3 (G 3)))))))
def bk_X10_firstAmiss_3 (l : Launch) (g : Gm) (G : Nat → CT) (P : PT) : CT := (oILd 3 (oALd 0 (oGet [10] 15 (oILd 2 (oIAL g (oCmp (fun x y => y ≤ x) (oInc 2 (1) (oGo (G 2))) (oPush (.int (5)) (oILd 2 (oBin (fun x y => x * y) (oILd 3 (oBin (fun x y => x + y) (oISt 4 (oALd 0 (oGet [10] 17 (oILd 4 (oIAL g (oISt 5 (oALd 0 (oGet [10] 16 (oILd 4 (oIAL g (oPush (.int (1)) (oCmp (fun x y => x = y) (oILd 1 (oALd 0 (oGet [10] 19 (oILd 5 (oIAL g (oPush (.int (-9)) (oCmp (fun x y => x = y) (oPush (.int (0)) (oGo (G 4))) (oPush (.int (1)) (oILd 5 (oBin (fun x y => x <<< (y &&& 31)) (G 4))))))))))) (G 5))))))))))))))))))))))))
def bk_X10_firstAmiss_4 (l : Launch) (g : Gm) (G : Nat → CT) (P : PT) : CT := (oBin (fun x y => x ||| y) (oISt 1 (oALd 0 (oGet [10] 19 (oILd 5 (oILd 4 (oIAS g (G 5))))))))
def bk_X10_firstAmiss_5 (l : Launch) (g : Gm) (G : Nat → CT) (P : PT) : CT := (oALd 0 (oGet [10] 16 (oILd 4 (oIAL g (oPush (.int (2)) (oCmp (fun x y => x = y) (oILd 1 (oALd 0 (oGet [10] 20 (oILd 5 (oIAL g (oPush (.int (-9)) (oCmp (fun x y => x = y) (oPush (.int (0)) (oGo (G 6))) (oPush (.int (1)) (oILd 5 (oBin (fun x y => x <<< (y &&& 31)) (G 6))))))))))) (oInc 3 (1) (oGo (G 3)))))))))
def bk_X10_firstAmiss_6 (l : Launch) (g : Gm) (G : Nat → CT) (P : PT) : CT := (oBin (fun x y => x ||| y) (oISt 1 (oALd 0 (oGet [10] 20 (oILd 5 (oILd 4 (oIAS g (oInc 3 (1) (oGo (G 3))))))))))
def bk_X10_firstAmiss_7 (l : Launch) (g : Gm) (G : Nat → CT) (P : PT) : CT := (oILd 2 (oPush (.int (8)) (oCmp (fun x y => y ≤ x) (oPush (.int (-9)) (oIRet P)) (oALd 0 (oGet [10] 20 (oILd 2 (oIAL g (oPush (.int (-9)) (oCmp (fun x y => x = y) (oPush (.int (0)) (G 8)) (oPush (.int (1)) (oGo (G 8))))))))))))
def bk_X10_firstAmiss_8 (l : Launch) (g : Gm) (G : Nat → CT) (P : PT) : CT := (oISt 3 (oILd 3 (oIf (fun x => x = 0) (oPush (.int (1)) (oGo (G 9))) (oALd 0 (oGet [10] 19 (oILd 2 (oIAL g (oPush (.int (-9)) (oCmp (fun x y => x = y) (oPush (.int (0)) (G 9)) (oALd 0 (oGet [10] 19 (oILd 2 (oIAL g (oPush (.int (5)) (oBinZ (fun x y => x / y) (oALd 0 (oGet [10] 20 (oILd 2 (oIAL g (oPush (.int (5)) (oBinZ (fun x y => x / y) (oCmp (fun x y => x = y) (oPush (.int (0)) (G 9)) (oPush (.int (1)) (oGo (G 9)))))))))))))))))))))))))
def bk_X10_firstAmiss_9 (l : Launch) (g : Gm) (G : Nat → CT) (P : PT) : CT := (oISt 4 (oILd 1 (oILd 2 (oBin (fun x y => x >>> (y &&& 31)) (oPush (.int (1)) (oBin (fun x y => x &&& y) (oPush (.int (1)) (oCmp (fun x y => x = y) (oILd 2 (oIRet P)) (oILd 4 (oIf (fun x => x = 0) (oILd 2 (oIRet P)) (oInc 2 (1) (oGo (G 7)))))))))))))
def bk_X10_firstAmiss (l : Launch) (g : Gm) (b : Nat) (G : Nat → CT) (P : PT) : CT := match b with
  | 0 => bk_X10_firstAmiss_0 l g G P
  | 1 => bk_X10_firstAmiss_1 l g G P
  | 2 => bk_X10_firstAmiss_2 l g G P
  | 3 => bk_X10_firstAmiss_3 l g G P
  | 4 => bk_X10_firstAmiss_4 l g G P
  | 5 => bk_X10_firstAmiss_5 l g G P
  | 6 => bk_X10_firstAmiss_6 l g G P
  | 7 => bk_X10_firstAmiss_7 l g G P
  | 8 => bk_X10_firstAmiss_8 l g G P
  | 9 => bk_X10_firstAmiss_9 l g G P
  | _ => fun _ _ _ _ _ => False
def pc_X10_firstAmiss (b : Nat) : Nat := match b with
  | 0 => 0
  | 1 => 4
  | 2 => 34
  | 3 => 44
  | 4 => 102
  | 5 => 113
  | 6 => 145
  | 7 => 170
  | 8 => 192
  | 9 => 232
  | _ => 0
set_option maxRecDepth 100000 in
theorem sb_X10_firstAmiss_0 {p : Program} {l : Launch} {e : Env} {s : State} {m : MethodId} {args : Array Value} {below : List Frame} {meth : Method} {c : Code} {g : Gm} {h0 : Hp} {P : PT} {mc ms : Nat} (X : Cx g p s m args meth c (Adom h0 s.heap.size) cX10_firstAmiss RX10 6) (hr : meth.sig.returnType = some .int) (hn : meth.name = "firstAmiss") : SX g p l e s m args below meth c d_X10_firstAmiss 6 mc ms h0 P (bk_X10_firstAmiss_0 l g (fun b => GX g p l e s m args below meth c d_X10_firstAmiss 6 mc ms h0 P (pc_X10_firstAmiss b)) P) 0 := (s_iconst X dX10_firstAmiss_0 rfl (s_istore_n X dX10_firstAmiss_1 rfl (by decide) (s_iconst X dX10_firstAmiss_2 rfl (s_istore_n X dX10_firstAmiss_3 rfl (by decide) Sd.rf))))
set_option maxRecDepth 100000 in
theorem sb_X10_firstAmiss_1 {p : Program} {l : Launch} {e : Env} {s : State} {m : MethodId} {args : Array Value} {below : List Frame} {meth : Method} {c : Code} {g : Gm} {h0 : Hp} {P : PT} {mc ms : Nat} (X : Cx g p s m args meth c (Adom h0 s.heap.size) cX10_firstAmiss RX10 6) (hr : meth.sig.returnType = some .int) (hn : meth.name = "firstAmiss") : SX g p l e s m args below meth c d_X10_firstAmiss 6 mc ms h0 P (bk_X10_firstAmiss_1 l g (fun b => GX g p l e s m args below meth c d_X10_firstAmiss 6 mc ms h0 P (pc_X10_firstAmiss b)) P) 4 := (s_iload_n X dX10_firstAmiss_4 rfl (s_bipush X dX10_firstAmiss_5 rfl (s_icmp_ge X dX10_firstAmiss_7 (by decide) (s_iconst X dX10_firstAmiss_32 rfl (s_istore_n X dX10_firstAmiss_33 rfl (by decide) Sd.rf)) (s_aload_n X dX10_firstAmiss_10 rfl (s_get X dX10_firstAmiss_11 (mcn (⟨_, _, _, _, rfl, inU_X10, by decide, uw_728, rfl⟩) (mnl)) (s_iload_n X dX10_firstAmiss_14 rfl (s_bipush X dX10_firstAmiss_15 rfl (s_iastore X dX10_firstAmiss_17 (s_aload_n X dX10_firstAmiss_18 rfl (s_get X dX10_firstAmiss_19 (mcn (⟨_, _, _, _, rfl, inU_X10, by decide, uw_729, rfl⟩) (mnl)) (s_iload_n X dX10_firstAmiss_22 rfl (s_bipush X dX10_firstAmiss_23 rfl (s_iastore X dX10_firstAmiss_25 (s_iinc X dX10_firstAmiss_26 rfl (by decide) (s_goto X dX10_firstAmiss_29 (by decide) Sd.rf)))))))))))))))
set_option maxRecDepth 100000 in
theorem sb_X10_firstAmiss_2 {p : Program} {l : Launch} {e : Env} {s : State} {m : MethodId} {args : Array Value} {below : List Frame} {meth : Method} {c : Code} {g : Gm} {h0 : Hp} {P : PT} {mc ms : Nat} (X : Cx g p s m args meth c (Adom h0 s.heap.size) cX10_firstAmiss RX10 6) (hr : meth.sig.returnType = some .int) (hn : meth.name = "firstAmiss") : SX g p l e s m args below meth c d_X10_firstAmiss 6 mc ms h0 P (bk_X10_firstAmiss_2 l g (fun b => GX g p l e s m args below meth c d_X10_firstAmiss 6 mc ms h0 P (pc_X10_firstAmiss b)) P) 34 := (s_iload_n X dX10_firstAmiss_34 rfl (s_aload_n X dX10_firstAmiss_35 rfl (s_get X dX10_firstAmiss_36 (mcn (⟨_, _, _, _, rfl, inU_X10, by decide, uw_722, rfl⟩) (mnl)) (s_icmp_ge X dX10_firstAmiss_39 (by decide) (s_iconst X dX10_firstAmiss_168 rfl (s_istore_n X dX10_firstAmiss_169 rfl (by decide) Sd.rf)) (s_iconst X dX10_firstAmiss_42 rfl (s_istore_n X dX10_firstAmiss_43 rfl (by decide) Sd.rf))))))
set_option maxRecDepth 100000 in
theorem sb_X10_firstAmiss_3 {p : Program} {l : Launch} {e : Env} {s : State} {m : MethodId} {args : Array Value} {below : List Frame} {meth : Method} {c : Code} {g : Gm} {h0 : Hp} {P : PT} {mc ms : Nat} (X : Cx g p s m args meth c (Adom h0 s.heap.size) cX10_firstAmiss RX10 6) (hr : meth.sig.returnType = some .int) (hn : meth.name = "firstAmiss") : SX g p l e s m args below meth c d_X10_firstAmiss 6 mc ms h0 P (bk_X10_firstAmiss_3 l g (fun b => GX g p l e s m args below meth c d_X10_firstAmiss 6 mc ms h0 P (pc_X10_firstAmiss b)) P) 44 := (s_iload_n X dX10_firstAmiss_44 rfl (s_aload_n X dX10_firstAmiss_45 rfl (s_get X dX10_firstAmiss_46 (mcn (⟨_, _, _, _, rfl, inU_X10, by decide, uw_724, rfl⟩) (mnl)) (s_iload_n X dX10_firstAmiss_49 rfl (s_iaload X dX10_firstAmiss_50 (s_icmp_ge X dX10_firstAmiss_51 (by decide) (s_iinc X dX10_firstAmiss_162 rfl (by decide) (s_goto X dX10_firstAmiss_165 (by decide) Sd.rf)) (s_iconst X dX10_firstAmiss_54 rfl (s_iload_n X dX10_firstAmiss_55 rfl (s_imul X dX10_firstAmiss_56 (s_iload_n X dX10_firstAmiss_57 rfl (s_iadd X dX10_firstAmiss_58 (s_istore X dX10_firstAmiss_59 (by decide) (s_aload_n X dX10_firstAmiss_61 rfl (s_get X dX10_firstAmiss_62 (mcn (⟨_, _, _, _, rfl, inU_X10, by decide, uw_726, rfl⟩) (mnl)) (s_iload X dX10_firstAmiss_65 (s_iaload X dX10_firstAmiss_67 (s_istore X dX10_firstAmiss_68 (by decide) (s_aload_n X dX10_firstAmiss_70 rfl (s_get X dX10_firstAmiss_71 (mcn (⟨_, _, _, _, rfl, inU_X10, by decide, uw_725, rfl⟩) (mnl)) (s_iload X dX10_firstAmiss_74 (s_iaload X dX10_firstAmiss_76 (s_iconst X dX10_firstAmiss_77 rfl (s_icmp_ne X dX10_firstAmiss_78 (by decide) Sd.rf (s_iload_n X dX10_firstAmiss_81 rfl (s_aload_n X dX10_firstAmiss_82 rfl (s_get X dX10_firstAmiss_83 (mcn (⟨_, _, _, _, rfl, inU_X10, by decide, uw_728, rfl⟩) (mnl)) (s_iload X dX10_firstAmiss_86 (s_iaload X dX10_firstAmiss_88 (s_bipush X dX10_firstAmiss_89 rfl (s_icmp_ne X dX10_firstAmiss_91 (by decide) (s_iconst X dX10_firstAmiss_98 rfl (s_iload X dX10_firstAmiss_99 (s_ishl X dX10_firstAmiss_101 Sd.rf))) (s_iconst X dX10_firstAmiss_94 rfl (s_goto X dX10_firstAmiss_95 (by decide) Sd.rf))))))))))))))))))))))))))))))))
set_option maxRecDepth 100000 in
theorem sb_X10_firstAmiss_4 {p : Program} {l : Launch} {e : Env} {s : State} {m : MethodId} {args : Array Value} {below : List Frame} {meth : Method} {c : Code} {g : Gm} {h0 : Hp} {P : PT} {mc ms : Nat} (X : Cx g p s m args meth c (Adom h0 s.heap.size) cX10_firstAmiss RX10 6) (hr : meth.sig.returnType = some .int) (hn : meth.name = "firstAmiss") : SX g p l e s m args below meth c d_X10_firstAmiss 6 mc ms h0 P (bk_X10_firstAmiss_4 l g (fun b => GX g p l e s m args below meth c d_X10_firstAmiss 6 mc ms h0 P (pc_X10_firstAmiss b)) P) 102 := (s_ior X dX10_firstAmiss_102 (s_istore_n X dX10_firstAmiss_103 rfl (by decide) (s_aload_n X dX10_firstAmiss_104 rfl (s_get X dX10_firstAmiss_105 (mcn (⟨_, _, _, _, rfl, inU_X10, by decide, uw_728, rfl⟩) (mnl)) (s_iload X dX10_firstAmiss_108 (s_iload X dX10_firstAmiss_110 (s_iastore X dX10_firstAmiss_112 Sd.rf)))))))
set_option maxRecDepth 100000 in
theorem sb_X10_firstAmiss_5 {p : Program} {l : Launch} {e : Env} {s : State} {m : MethodId} {args : Array Value} {below : List Frame} {meth : Method} {c : Code} {g : Gm} {h0 : Hp} {P : PT} {mc ms : Nat} (X : Cx g p s m args meth c (Adom h0 s.heap.size) cX10_firstAmiss RX10 6) (hr : meth.sig.returnType = some .int) (hn : meth.name = "firstAmiss") : SX g p l e s m args below meth c d_X10_firstAmiss 6 mc ms h0 P (bk_X10_firstAmiss_5 l g (fun b => GX g p l e s m args below meth c d_X10_firstAmiss 6 mc ms h0 P (pc_X10_firstAmiss b)) P) 113 := (s_aload_n X dX10_firstAmiss_113 rfl (s_get X dX10_firstAmiss_114 (mcn (⟨_, _, _, _, rfl, inU_X10, by decide, uw_725, rfl⟩) (mnl)) (s_iload X dX10_firstAmiss_117 (s_iaload X dX10_firstAmiss_119 (s_iconst X dX10_firstAmiss_120 rfl (s_icmp_ne X dX10_firstAmiss_121 (by decide) (s_iinc X dX10_firstAmiss_156 rfl (by decide) (s_goto X dX10_firstAmiss_159 (by decide) Sd.rf)) (s_iload_n X dX10_firstAmiss_124 rfl (s_aload_n X dX10_firstAmiss_125 rfl (s_get X dX10_firstAmiss_126 (mcn (⟨_, _, _, _, rfl, inU_X10, by decide, uw_729, rfl⟩) (mnl)) (s_iload X dX10_firstAmiss_129 (s_iaload X dX10_firstAmiss_131 (s_bipush X dX10_firstAmiss_132 rfl (s_icmp_ne X dX10_firstAmiss_134 (by decide) (s_iconst X dX10_firstAmiss_141 rfl (s_iload X dX10_firstAmiss_142 (s_ishl X dX10_firstAmiss_144 Sd.rf))) (s_iconst X dX10_firstAmiss_137 rfl (s_goto X dX10_firstAmiss_138 (by decide) Sd.rf)))))))))))))))
set_option maxRecDepth 100000 in
theorem sb_X10_firstAmiss_6 {p : Program} {l : Launch} {e : Env} {s : State} {m : MethodId} {args : Array Value} {below : List Frame} {meth : Method} {c : Code} {g : Gm} {h0 : Hp} {P : PT} {mc ms : Nat} (X : Cx g p s m args meth c (Adom h0 s.heap.size) cX10_firstAmiss RX10 6) (hr : meth.sig.returnType = some .int) (hn : meth.name = "firstAmiss") : SX g p l e s m args below meth c d_X10_firstAmiss 6 mc ms h0 P (bk_X10_firstAmiss_6 l g (fun b => GX g p l e s m args below meth c d_X10_firstAmiss 6 mc ms h0 P (pc_X10_firstAmiss b)) P) 145 := (s_ior X dX10_firstAmiss_145 (s_istore_n X dX10_firstAmiss_146 rfl (by decide) (s_aload_n X dX10_firstAmiss_147 rfl (s_get X dX10_firstAmiss_148 (mcn (⟨_, _, _, _, rfl, inU_X10, by decide, uw_729, rfl⟩) (mnl)) (s_iload X dX10_firstAmiss_151 (s_iload X dX10_firstAmiss_153 (s_iastore X dX10_firstAmiss_155 (s_iinc X dX10_firstAmiss_156 rfl (by decide) (s_goto X dX10_firstAmiss_159 (by decide) Sd.rf)))))))))
set_option maxRecDepth 100000 in
theorem sb_X10_firstAmiss_7 {p : Program} {l : Launch} {e : Env} {s : State} {m : MethodId} {args : Array Value} {below : List Frame} {meth : Method} {c : Code} {g : Gm} {h0 : Hp} {P : PT} {mc ms : Nat} (X : Cx g p s m args meth c (Adom h0 s.heap.size) cX10_firstAmiss RX10 6) (hr : meth.sig.returnType = some .int) (hn : meth.name = "firstAmiss") : SX g p l e s m args below meth c d_X10_firstAmiss 6 mc ms h0 P (bk_X10_firstAmiss_7 l g (fun b => GX g p l e s m args below meth c d_X10_firstAmiss 6 mc ms h0 P (pc_X10_firstAmiss b)) P) 170 := (s_iload_n X dX10_firstAmiss_170 rfl (s_bipush X dX10_firstAmiss_171 rfl (s_icmp_ge X dX10_firstAmiss_173 (by decide) (s_bipush X dX10_firstAmiss_256 rfl (s_iret X hr dX10_firstAmiss_258)) (s_aload_n X dX10_firstAmiss_176 rfl (s_get X dX10_firstAmiss_177 (mcn (⟨_, _, _, _, rfl, inU_X10, by decide, uw_729, rfl⟩) (mnl)) (s_iload_n X dX10_firstAmiss_180 rfl (s_iaload X dX10_firstAmiss_181 (s_bipush X dX10_firstAmiss_182 rfl (s_icmp_eq X dX10_firstAmiss_184 (by decide) (s_iconst X dX10_firstAmiss_191 rfl Sd.rf) (s_iconst X dX10_firstAmiss_187 rfl (s_goto X dX10_firstAmiss_188 (by decide) Sd.rf)))))))))))
set_option maxRecDepth 100000 in
theorem sb_X10_firstAmiss_8 {p : Program} {l : Launch} {e : Env} {s : State} {m : MethodId} {args : Array Value} {below : List Frame} {meth : Method} {c : Code} {g : Gm} {h0 : Hp} {P : PT} {mc ms : Nat} (X : Cx g p s m args meth c (Adom h0 s.heap.size) cX10_firstAmiss RX10 6) (hr : meth.sig.returnType = some .int) (hn : meth.name = "firstAmiss") : SX g p l e s m args below meth c d_X10_firstAmiss 6 mc ms h0 P (bk_X10_firstAmiss_8 l g (fun b => GX g p l e s m args below meth c d_X10_firstAmiss 6 mc ms h0 P (pc_X10_firstAmiss b)) P) 192 := (s_istore_n X dX10_firstAmiss_192 rfl (by decide) (s_iload_n X dX10_firstAmiss_193 rfl (s_if_eq X dX10_firstAmiss_194 (by decide) (s_iconst X dX10_firstAmiss_227 rfl (s_goto X dX10_firstAmiss_228 (by decide) Sd.rf)) (s_aload_n X dX10_firstAmiss_197 rfl (s_get X dX10_firstAmiss_198 (mcn (⟨_, _, _, _, rfl, inU_X10, by decide, uw_728, rfl⟩) (mnl)) (s_iload_n X dX10_firstAmiss_201 rfl (s_iaload X dX10_firstAmiss_202 (s_bipush X dX10_firstAmiss_203 rfl (s_icmp_eq X dX10_firstAmiss_205 (by decide) (s_iconst X dX10_firstAmiss_231 rfl Sd.rf) (s_aload_n X dX10_firstAmiss_208 rfl (s_get X dX10_firstAmiss_209 (mcn (⟨_, _, _, _, rfl, inU_X10, by decide, uw_728, rfl⟩) (mnl)) (s_iload_n X dX10_firstAmiss_212 rfl (s_iaload X dX10_firstAmiss_213 (s_iconst X dX10_firstAmiss_214 rfl (s_idiv X dX10_firstAmiss_215 (s_aload_n X dX10_firstAmiss_216 rfl (s_get X dX10_firstAmiss_217 (mcn (⟨_, _, _, _, rfl, inU_X10, by decide, uw_729, rfl⟩) (mnl)) (s_iload_n X dX10_firstAmiss_220 rfl (s_iaload X dX10_firstAmiss_221 (s_iconst X dX10_firstAmiss_222 rfl (s_idiv X dX10_firstAmiss_223 (s_icmp_eq X dX10_firstAmiss_224 (by decide) (s_iconst X dX10_firstAmiss_231 rfl Sd.rf) (s_iconst X dX10_firstAmiss_227 rfl (s_goto X dX10_firstAmiss_228 (by decide) Sd.rf))))))))))))))))))))))))
set_option maxRecDepth 100000 in
theorem sb_X10_firstAmiss_9 {p : Program} {l : Launch} {e : Env} {s : State} {m : MethodId} {args : Array Value} {below : List Frame} {meth : Method} {c : Code} {g : Gm} {h0 : Hp} {P : PT} {mc ms : Nat} (X : Cx g p s m args meth c (Adom h0 s.heap.size) cX10_firstAmiss RX10 6) (hr : meth.sig.returnType = some .int) (hn : meth.name = "firstAmiss") : SX g p l e s m args below meth c d_X10_firstAmiss 6 mc ms h0 P (bk_X10_firstAmiss_9 l g (fun b => GX g p l e s m args below meth c d_X10_firstAmiss 6 mc ms h0 P (pc_X10_firstAmiss b)) P) 232 := (s_istore X dX10_firstAmiss_232 (by decide) (s_iload_n X dX10_firstAmiss_234 rfl (s_iload_n X dX10_firstAmiss_235 rfl (s_ishr X dX10_firstAmiss_236 (s_iconst X dX10_firstAmiss_237 rfl (s_iand X dX10_firstAmiss_238 (s_iconst X dX10_firstAmiss_239 rfl (s_icmp_eq X dX10_firstAmiss_240 (by decide) (s_iload_n X dX10_firstAmiss_248 rfl (s_iret X hr dX10_firstAmiss_249)) (s_iload X dX10_firstAmiss_243 (s_if_ne X dX10_firstAmiss_245 (by decide) (s_iinc X dX10_firstAmiss_250 rfl (by decide) (s_goto X dX10_firstAmiss_253 (by decide) Sd.rf)) (s_iload_n X dX10_firstAmiss_248 rfl (s_iret X hr dX10_firstAmiss_249))))))))))))
set_option maxRecDepth 100000 in
theorem vc_X10_firstAmiss {l : Launch} {g : Gm} {a0 : Nat} {h : Hp} {mc ms : Nat} {P : PT} (H : ∀ G : Nat → CT, (∀ (b : Nat) (h : Hp) (cb sb : Nat) (ls : LocS) (st : List Value), bk_X10_firstAmiss l g b G P h cb sb ls st → G b h cb sb ls st) → G 0 h mc ms [some (.ref a0), none, none, none, none, none] []) : Run l g d_X10_firstAmiss [.ref a0] h mc ms P :=
  Run.of (d := d_X10_firstAmiss) (by decide) (mcn rfl (mnl)) (Nat.le_of_ble_eq_true rfl) (fun p e s m args below meth c X hr hn => H (fun b => GX g p l e s m args below meth c d_X10_firstAmiss 6 mc ms h P (pc_X10_firstAmiss b)) (fun b h1 cb sb ls st hb => match b, hb with
    | 0, hb => sb_X10_firstAmiss_0 (p := p) (e := e) (below := below) X hr hn h1 cb sb ls st hb
    | 1, hb => sb_X10_firstAmiss_1 (p := p) (e := e) (below := below) X hr hn h1 cb sb ls st hb
    | 2, hb => sb_X10_firstAmiss_2 (p := p) (e := e) (below := below) X hr hn h1 cb sb ls st hb
    | 3, hb => sb_X10_firstAmiss_3 (p := p) (e := e) (below := below) X hr hn h1 cb sb ls st hb
    | 4, hb => sb_X10_firstAmiss_4 (p := p) (e := e) (below := below) X hr hn h1 cb sb ls st hb
    | 5, hb => sb_X10_firstAmiss_5 (p := p) (e := e) (below := below) X hr hn h1 cb sb ls st hb
    | 6, hb => sb_X10_firstAmiss_6 (p := p) (e := e) (below := below) X hr hn h1 cb sb ls st hb
    | 7, hb => sb_X10_firstAmiss_7 (p := p) (e := e) (below := below) X hr hn h1 cb sb ls st hb
    | 8, hb => sb_X10_firstAmiss_8 (p := p) (e := e) (below := below) X hr hn h1 cb sb ls st hb
    | 9, hb => sb_X10_firstAmiss_9 (p := p) (e := e) (below := below) X hr hn h1 cb sb ls st hb
    | _ + 10, hb => hb.elim))
theorem dX10_isCircle_0 : decode cX10_isCircle 0 = .ok (.iconst 0, 1) := by decide +kernel
theorem dX10_isCircle_1 : decode cX10_isCircle 1 = .ok (.istore_n 1, 1) := by decide +kernel
theorem dX10_isCircle_2 : decode cX10_isCircle 2 = .ok (.iload_n 1, 1) := by decide +kernel
theorem dX10_isCircle_3 : decode cX10_isCircle 3 = .ok (.aload_n 0, 1) := by decide +kernel
theorem dX10_isCircle_4 : decode cX10_isCircle 4 = .ok (.getfield 119, 3) := by decide +kernel
theorem dX10_isCircle_7 : decode cX10_isCircle 7 = .ok (.if_icmp .ge 33, 3) := by decide +kernel
theorem dX10_isCircle_10 : decode cX10_isCircle 10 = .ok (.iconst 0, 1) := by decide +kernel
theorem dX10_isCircle_11 : decode cX10_isCircle 11 = .ok (.istore_n 2, 1) := by decide +kernel
theorem dX10_isCircle_12 : decode cX10_isCircle 12 = .ok (.iload_n 2, 1) := by decide +kernel
theorem dX10_isCircle_13 : decode cX10_isCircle 13 = .ok (.aload_n 0, 1) := by decide +kernel
theorem dX10_isCircle_14 : decode cX10_isCircle 14 = .ok (.getfield 40, 3) := by decide +kernel
theorem dX10_isCircle_17 : decode cX10_isCircle 17 = .ok (.iload_n 1, 1) := by decide +kernel
theorem dX10_isCircle_18 : decode cX10_isCircle 18 = .ok (.iaload, 1) := by decide +kernel
theorem dX10_isCircle_19 : decode cX10_isCircle 19 = .ok (.if_icmp .ge 15, 3) := by decide +kernel
theorem dX10_isCircle_22 : decode cX10_isCircle 22 = .ok (.aload_n 0, 1) := by decide +kernel
theorem dX10_isCircle_23 : decode cX10_isCircle 23 = .ok (.iload_n 1, 1) := by decide +kernel
theorem dX10_isCircle_24 : decode cX10_isCircle 24 = .ok (.iload_n 2, 1) := by decide +kernel
theorem dX10_isCircle_25 : decode cX10_isCircle 25 = .ok (.invokevirtual 142, 3) := by decide +kernel
theorem dX10_isCircle_28 : decode cX10_isCircle 28 = .ok (.iinc 2 1, 3) := by decide +kernel
theorem dX10_isCircle_31 : decode cX10_isCircle 31 = .ok (.goto (-19), 3) := by decide +kernel
theorem dX10_isCircle_34 : decode cX10_isCircle 34 = .ok (.iinc 1 1, 3) := by decide +kernel
theorem dX10_isCircle_37 : decode cX10_isCircle 37 = .ok (.goto (-35), 3) := by decide +kernel
theorem dX10_isCircle_40 : decode cX10_isCircle 40 = .ok (.iconst 1, 1) := by decide +kernel
theorem dX10_isCircle_41 : decode cX10_isCircle 41 = .ok (.istore_n 1, 1) := by decide +kernel
theorem dX10_isCircle_42 : decode cX10_isCircle 42 = .ok (.iload_n 1, 1) := by decide +kernel
theorem dX10_isCircle_43 : decode cX10_isCircle 43 = .ok (.ifCond .eq 11, 3) := by decide +kernel
theorem dX10_isCircle_46 : decode cX10_isCircle 46 = .ok (.aload_n 0, 1) := by decide +kernel
theorem dX10_isCircle_47 : decode cX10_isCircle 47 = .ok (.invokevirtual 146, 3) := by decide +kernel
theorem dX10_isCircle_50 : decode cX10_isCircle 50 = .ok (.istore_n 1, 1) := by decide +kernel
theorem dX10_isCircle_51 : decode cX10_isCircle 51 = .ok (.goto (-9), 3) := by decide +kernel
theorem dX10_isCircle_54 : decode cX10_isCircle 54 = .ok (.iconst 0, 1) := by decide +kernel
theorem dX10_isCircle_55 : decode cX10_isCircle 55 = .ok (.istore_n 2, 1) := by decide +kernel
theorem dX10_isCircle_56 : decode cX10_isCircle 56 = .ok (.iload_n 2, 1) := by decide +kernel
theorem dX10_isCircle_57 : decode cX10_isCircle 57 = .ok (.aload_n 0, 1) := by decide +kernel
theorem dX10_isCircle_58 : decode cX10_isCircle 58 = .ok (.getfield 119, 3) := by decide +kernel
theorem dX10_isCircle_61 : decode cX10_isCircle 61 = .ok (.if_icmp .ge 47, 3) := by decide +kernel
theorem dX10_isCircle_64 : decode cX10_isCircle 64 = .ok (.iconst 0, 1) := by decide +kernel
theorem dX10_isCircle_65 : decode cX10_isCircle 65 = .ok (.istore_n 3, 1) := by decide +kernel
theorem dX10_isCircle_66 : decode cX10_isCircle 66 = .ok (.iload_n 3, 1) := by decide +kernel
theorem dX10_isCircle_67 : decode cX10_isCircle 67 = .ok (.aload_n 0, 1) := by decide +kernel
theorem dX10_isCircle_68 : decode cX10_isCircle 68 = .ok (.getfield 40, 3) := by decide +kernel
theorem dX10_isCircle_71 : decode cX10_isCircle 71 = .ok (.iload_n 2, 1) := by decide +kernel
theorem dX10_isCircle_72 : decode cX10_isCircle 72 = .ok (.iaload, 1) := by decide +kernel
theorem dX10_isCircle_73 : decode cX10_isCircle 73 = .ok (.if_icmp .ge 29, 3) := by decide +kernel
theorem dX10_isCircle_76 : decode cX10_isCircle 76 = .ok (.aload_n 0, 1) := by decide +kernel
theorem dX10_isCircle_77 : decode cX10_isCircle 77 = .ok (.getfield 49, 3) := by decide +kernel
theorem dX10_isCircle_80 : decode cX10_isCircle 80 = .ok (.iconst 4, 1) := by decide +kernel
theorem dX10_isCircle_81 : decode cX10_isCircle 81 = .ok (.iconst 5, 1) := by decide +kernel
theorem dX10_isCircle_82 : decode cX10_isCircle 82 = .ok (.iload_n 2, 1) := by decide +kernel
theorem dX10_isCircle_83 : decode cX10_isCircle 83 = .ok (.imul, 1) := by decide +kernel
theorem dX10_isCircle_84 : decode cX10_isCircle 84 = .ok (.iload_n 3, 1) := by decide +kernel
theorem dX10_isCircle_85 : decode cX10_isCircle 85 = .ok (.iadd, 1) := by decide +kernel
theorem dX10_isCircle_86 : decode cX10_isCircle 86 = .ok (.imul, 1) := by decide +kernel
theorem dX10_isCircle_87 : decode cX10_isCircle 87 = .ok (.iload_n 2, 1) := by decide +kernel
theorem dX10_isCircle_88 : decode cX10_isCircle 88 = .ok (.iadd, 1) := by decide +kernel
theorem dX10_isCircle_89 : decode cX10_isCircle 89 = .ok (.iaload, 1) := by decide +kernel
theorem dX10_isCircle_90 : decode cX10_isCircle 90 = .ok (.iload_n 3, 1) := by decide +kernel
theorem dX10_isCircle_91 : decode cX10_isCircle 91 = .ok (.if_icmp .le 5, 3) := by decide +kernel
theorem dX10_isCircle_94 : decode cX10_isCircle 94 = .ok (.iconst 1, 1) := by decide +kernel
theorem dX10_isCircle_95 : decode cX10_isCircle 95 = .ok (.ireturn, 1) := by decide +kernel
theorem dX10_isCircle_96 : decode cX10_isCircle 96 = .ok (.iinc 3 1, 3) := by decide +kernel
theorem dX10_isCircle_99 : decode cX10_isCircle 99 = .ok (.goto (-33), 3) := by decide +kernel
theorem dX10_isCircle_102 : decode cX10_isCircle 102 = .ok (.iinc 2 1, 3) := by decide +kernel
theorem dX10_isCircle_105 : decode cX10_isCircle 105 = .ok (.goto (-49), 3) := by decide +kernel
theorem dX10_isCircle_108 : decode cX10_isCircle 108 = .ok (.iconst 0, 1) := by decide +kernel
theorem dX10_isCircle_109 : decode cX10_isCircle 109 = .ok (.ireturn, 1) := by decide +kernel
def bk_X10_isCircle_0 (l : Launch) (g : Gm) (G : Nat → CT) (P : PT) : CT := (oPush (.int (0)) (oISt 1 (G 1)))
def bk_X10_isCircle_1 (l : Launch) (g : Gm) (G : Nat → CT) (P : PT) : CT := (oILd 1 (oALd 0 (oGet [10] 13 (oCmp (fun x y => y ≤ x) (oPush (.int (1)) (oISt 1 (G 3))) (oPush (.int (0)) (oISt 2 (G 2)))))))
def bk_X10_isCircle_2 (l : Launch) (g : Gm) (G : Nat → CT) (P : PT) : CT := (oILd 2 (oALd 0 (oGet [10] 15 (oILd 1 (oIAL g (oCmp (fun x y => y ≤ x) (oInc 1 (1) (oGo (G 1))) (oALd 0 (oILd 1 (oILd 2 (oCallV l g [(10, d_X10_startAheads)] 3 (oInc 2 (1) (oGo (G 2)))))))))))))
def bk_X10_isCircle_3 (l : Launch) (g : Gm) (G : Nat → CT) (P : PT) : CT := (oILd 1 (oIf (fun x => x = 0) (oPush (.int (0)) (oISt 2 (G 4))) (oALd 0 (oCallV l g [(10, d_X10_goesOn)] 1 (oISt 1 (oGo (G 3)))))))
def bk_X10_isCircle_4 (l : Launch) (g : Gm) (G : Nat → CT) (P : PT) : CT := (oILd 2 (oALd 0 (oGet [10] 13 (oCmp (fun x y => y ≤ x) (oPush (.int (0)) (oZRet P)) (oPush (.int (0)) (oISt 3 (G 5)))))))
def bk_X10_isCircle_5 (l : Launch) (g : Gm) (G : Nat → CT) (P : PT) : CT := (oILd 3 (oALd 0 (oGet [10] 15 (oILd 2 (oIAL g (oCmp (fun x y => y ≤ x) (oInc 2 (1) (oGo (G 4))) (oALd 0 (oGet [10] 18 (oPush (.int (4)) (oPush (.int (5)) (oILd 2 (oBin (fun x y => x * y) (oILd 3 (oBin (fun x y => x + y) (oBin (fun x y => x * y) (oILd 2 (oBin (fun x y => x + y) (oIAL g (oILd 3 (oCmp (fun x y => x ≤ y) (oInc 3 (1) (oGo (G 5))) (oPush (.int (1)) (oZRet P))))))))))))))))))))))
def bk_X10_isCircle (l : Launch) (g : Gm) (b : Nat) (G : Nat → CT) (P : PT) : CT := match b with
  | 0 => bk_X10_isCircle_0 l g G P
  | 1 => bk_X10_isCircle_1 l g G P
  | 2 => bk_X10_isCircle_2 l g G P
  | 3 => bk_X10_isCircle_3 l g G P
  | 4 => bk_X10_isCircle_4 l g G P
  | 5 => bk_X10_isCircle_5 l g G P
  | _ => fun _ _ _ _ _ => False
def pc_X10_isCircle (b : Nat) : Nat := match b with
  | 0 => 0
  | 1 => 2
  | 2 => 12
  | 3 => 42
  | 4 => 56
  | 5 => 66
  | _ => 0
set_option maxRecDepth 100000 in
theorem sb_X10_isCircle_0 {p : Program} {l : Launch} {e : Env} {s : State} {m : MethodId} {args : Array Value} {below : List Frame} {meth : Method} {c : Code} {g : Gm} {h0 : Hp} {P : PT} {mc ms : Nat} (X : Cx g p s m args meth c (Adom h0 s.heap.size) cX10_isCircle RX10 4) (hr : meth.sig.returnType = some .boolean) (hn : meth.name = "isCircle") : SX g p l e s m args below meth c d_X10_isCircle 4 mc ms h0 P (bk_X10_isCircle_0 l g (fun b => GX g p l e s m args below meth c d_X10_isCircle 4 mc ms h0 P (pc_X10_isCircle b)) P) 0 := (s_iconst X dX10_isCircle_0 rfl (s_istore_n X dX10_isCircle_1 rfl (by decide) Sd.rf))
set_option maxRecDepth 100000 in
theorem sb_X10_isCircle_1 {p : Program} {l : Launch} {e : Env} {s : State} {m : MethodId} {args : Array Value} {below : List Frame} {meth : Method} {c : Code} {g : Gm} {h0 : Hp} {P : PT} {mc ms : Nat} (X : Cx g p s m args meth c (Adom h0 s.heap.size) cX10_isCircle RX10 4) (hr : meth.sig.returnType = some .boolean) (hn : meth.name = "isCircle") : SX g p l e s m args below meth c d_X10_isCircle 4 mc ms h0 P (bk_X10_isCircle_1 l g (fun b => GX g p l e s m args below meth c d_X10_isCircle 4 mc ms h0 P (pc_X10_isCircle b)) P) 2 := (s_iload_n X dX10_isCircle_2 rfl (s_aload_n X dX10_isCircle_3 rfl (s_get X dX10_isCircle_4 (mcn (⟨_, _, _, _, rfl, inU_X10, by decide, uw_722, rfl⟩) (mnl)) (s_icmp_ge X dX10_isCircle_7 (by decide) (s_iconst X dX10_isCircle_40 rfl (s_istore_n X dX10_isCircle_41 rfl (by decide) Sd.rf)) (s_iconst X dX10_isCircle_10 rfl (s_istore_n X dX10_isCircle_11 rfl (by decide) Sd.rf))))))
set_option maxRecDepth 100000 in
theorem sb_X10_isCircle_2 {p : Program} {l : Launch} {e : Env} {s : State} {m : MethodId} {args : Array Value} {below : List Frame} {meth : Method} {c : Code} {g : Gm} {h0 : Hp} {P : PT} {mc ms : Nat} (X : Cx g p s m args meth c (Adom h0 s.heap.size) cX10_isCircle RX10 4) (hr : meth.sig.returnType = some .boolean) (hn : meth.name = "isCircle") : SX g p l e s m args below meth c d_X10_isCircle 4 mc ms h0 P (bk_X10_isCircle_2 l g (fun b => GX g p l e s m args below meth c d_X10_isCircle 4 mc ms h0 P (pc_X10_isCircle b)) P) 12 := (s_iload_n X dX10_isCircle_12 rfl (s_aload_n X dX10_isCircle_13 rfl (s_get X dX10_isCircle_14 (mcn (⟨_, _, _, _, rfl, inU_X10, by decide, uw_724, rfl⟩) (mnl)) (s_iload_n X dX10_isCircle_17 rfl (s_iaload X dX10_isCircle_18 (s_icmp_ge X dX10_isCircle_19 (by decide) (s_iinc X dX10_isCircle_34 rfl (by decide) (s_goto X dX10_isCircle_37 (by decide) Sd.rf)) (s_aload_n X dX10_isCircle_22 rfl (s_iload_n X dX10_isCircle_23 rfl (s_iload_n X dX10_isCircle_24 rfl (s_callV X dX10_isCircle_25 (mv (vok_V X rfl uw_844 uw_846 (UW_pr 26 rfl rfl) uw_7 ci_X10_startAheads yok_X10_startAheads ⟨Nat.le_of_ble_eq_true rfl, Nat.le_of_ble_eq_true rfl⟩) mv0) (s_iinc X dX10_isCircle_28 rfl (by decide) (s_goto X dX10_isCircle_31 (by decide) Sd.rf))))))))))))
set_option maxRecDepth 100000 in
theorem sb_X10_isCircle_3 {p : Program} {l : Launch} {e : Env} {s : State} {m : MethodId} {args : Array Value} {below : List Frame} {meth : Method} {c : Code} {g : Gm} {h0 : Hp} {P : PT} {mc ms : Nat} (X : Cx g p s m args meth c (Adom h0 s.heap.size) cX10_isCircle RX10 4) (hr : meth.sig.returnType = some .boolean) (hn : meth.name = "isCircle") : SX g p l e s m args below meth c d_X10_isCircle 4 mc ms h0 P (bk_X10_isCircle_3 l g (fun b => GX g p l e s m args below meth c d_X10_isCircle 4 mc ms h0 P (pc_X10_isCircle b)) P) 42 := (s_iload_n X dX10_isCircle_42 rfl (s_if_eq X dX10_isCircle_43 (by decide) (s_iconst X dX10_isCircle_54 rfl (s_istore_n X dX10_isCircle_55 rfl (by decide) Sd.rf)) (s_aload_n X dX10_isCircle_46 rfl (s_callV X dX10_isCircle_47 (mv (vok_V X rfl uw_848 uw_850 (UW_pr 27 rfl rfl) uw_7 ci_X10_goesOn yok_X10_goesOn ⟨Nat.le_of_ble_eq_true rfl, Nat.le_of_ble_eq_true rfl⟩) mv0) (s_istore_n X dX10_isCircle_50 rfl (by decide) (s_goto X dX10_isCircle_51 (by decide) Sd.rf))))))
set_option maxRecDepth 100000 in
theorem sb_X10_isCircle_4 {p : Program} {l : Launch} {e : Env} {s : State} {m : MethodId} {args : Array Value} {below : List Frame} {meth : Method} {c : Code} {g : Gm} {h0 : Hp} {P : PT} {mc ms : Nat} (X : Cx g p s m args meth c (Adom h0 s.heap.size) cX10_isCircle RX10 4) (hr : meth.sig.returnType = some .boolean) (hn : meth.name = "isCircle") : SX g p l e s m args below meth c d_X10_isCircle 4 mc ms h0 P (bk_X10_isCircle_4 l g (fun b => GX g p l e s m args below meth c d_X10_isCircle 4 mc ms h0 P (pc_X10_isCircle b)) P) 56 := (s_iload_n X dX10_isCircle_56 rfl (s_aload_n X dX10_isCircle_57 rfl (s_get X dX10_isCircle_58 (mcn (⟨_, _, _, _, rfl, inU_X10, by decide, uw_722, rfl⟩) (mnl)) (s_icmp_ge X dX10_isCircle_61 (by decide) (s_iconst X dX10_isCircle_108 rfl (s_zret X hr dX10_isCircle_109)) (s_iconst X dX10_isCircle_64 rfl (s_istore_n X dX10_isCircle_65 rfl (by decide) Sd.rf))))))
set_option maxRecDepth 100000 in
theorem sb_X10_isCircle_5 {p : Program} {l : Launch} {e : Env} {s : State} {m : MethodId} {args : Array Value} {below : List Frame} {meth : Method} {c : Code} {g : Gm} {h0 : Hp} {P : PT} {mc ms : Nat} (X : Cx g p s m args meth c (Adom h0 s.heap.size) cX10_isCircle RX10 4) (hr : meth.sig.returnType = some .boolean) (hn : meth.name = "isCircle") : SX g p l e s m args below meth c d_X10_isCircle 4 mc ms h0 P (bk_X10_isCircle_5 l g (fun b => GX g p l e s m args below meth c d_X10_isCircle 4 mc ms h0 P (pc_X10_isCircle b)) P) 66 := (s_iload_n X dX10_isCircle_66 rfl (s_aload_n X dX10_isCircle_67 rfl (s_get X dX10_isCircle_68 (mcn (⟨_, _, _, _, rfl, inU_X10, by decide, uw_724, rfl⟩) (mnl)) (s_iload_n X dX10_isCircle_71 rfl (s_iaload X dX10_isCircle_72 (s_icmp_ge X dX10_isCircle_73 (by decide) (s_iinc X dX10_isCircle_102 rfl (by decide) (s_goto X dX10_isCircle_105 (by decide) Sd.rf)) (s_aload_n X dX10_isCircle_76 rfl (s_get X dX10_isCircle_77 (mcn (⟨_, _, _, _, rfl, inU_X10, by decide, uw_727, rfl⟩) (mnl)) (s_iconst X dX10_isCircle_80 rfl (s_iconst X dX10_isCircle_81 rfl (s_iload_n X dX10_isCircle_82 rfl (s_imul X dX10_isCircle_83 (s_iload_n X dX10_isCircle_84 rfl (s_iadd X dX10_isCircle_85 (s_imul X dX10_isCircle_86 (s_iload_n X dX10_isCircle_87 rfl (s_iadd X dX10_isCircle_88 (s_iaload X dX10_isCircle_89 (s_iload_n X dX10_isCircle_90 rfl (s_icmp_le X dX10_isCircle_91 (by decide) (s_iinc X dX10_isCircle_96 rfl (by decide) (s_goto X dX10_isCircle_99 (by decide) Sd.rf)) (s_iconst X dX10_isCircle_94 rfl (s_zret X hr dX10_isCircle_95))))))))))))))))))))))
set_option maxRecDepth 100000 in
theorem vc_X10_isCircle {l : Launch} {g : Gm} {a0 : Nat} {h : Hp} {mc ms : Nat} {P : PT} (H : ∀ G : Nat → CT, (∀ (b : Nat) (h : Hp) (cb sb : Nat) (ls : LocS) (st : List Value), bk_X10_isCircle l g b G P h cb sb ls st → G b h cb sb ls st) → G 0 h mc ms [some (.ref a0), none, none, none] []) : Run l g d_X10_isCircle [.ref a0] h mc ms P :=
  Run.of (d := d_X10_isCircle) (by decide) (mcn rfl (mnl)) (Nat.le_of_ble_eq_true rfl) (fun p e s m args below meth c X hr hn => H (fun b => GX g p l e s m args below meth c d_X10_isCircle 4 mc ms h P (pc_X10_isCircle b)) (fun b h1 cb sb ls st hb => match b, hb with
    | 0, hb => sb_X10_isCircle_0 (p := p) (e := e) (below := below) X hr hn h1 cb sb ls st hb
    | 1, hb => sb_X10_isCircle_1 (p := p) (e := e) (below := below) X hr hn h1 cb sb ls st hb
    | 2, hb => sb_X10_isCircle_2 (p := p) (e := e) (below := below) X hr hn h1 cb sb ls st hb
    | 3, hb => sb_X10_isCircle_3 (p := p) (e := e) (below := below) X hr hn h1 cb sb ls st hb
    | 4, hb => sb_X10_isCircle_4 (p := p) (e := e) (below := below) X hr hn h1 cb sb ls st hb
    | 5, hb => sb_X10_isCircle_5 (p := p) (e := e) (below := below) X hr hn h1 cb sb ls st hb
    | _ + 6, hb => hb.elim))
theorem dX10_startAheads_0 : decode cX10_startAheads 0 = .ok (.iconst 5, 1) := by decide +kernel
theorem dX10_startAheads_1 : decode cX10_startAheads 1 = .ok (.iload_n 1, 1) := by decide +kernel
theorem dX10_startAheads_2 : decode cX10_startAheads 2 = .ok (.imul, 1) := by decide +kernel
theorem dX10_startAheads_3 : decode cX10_startAheads 3 = .ok (.iload_n 2, 1) := by decide +kernel
theorem dX10_startAheads_4 : decode cX10_startAheads 4 = .ok (.iadd, 1) := by decide +kernel
theorem dX10_startAheads_5 : decode cX10_startAheads 5 = .ok (.istore_n 3, 1) := by decide +kernel
theorem dX10_startAheads_6 : decode cX10_startAheads 6 = .ok (.iconst 0, 1) := by decide +kernel
theorem dX10_startAheads_7 : decode cX10_startAheads 7 = .ok (.istore 4, 2) := by decide +kernel
theorem dX10_startAheads_9 : decode cX10_startAheads 9 = .ok (.iload 4, 2) := by decide +kernel
theorem dX10_startAheads_11 : decode cX10_startAheads 11 = .ok (.iconst 4, 1) := by decide +kernel
theorem dX10_startAheads_12 : decode cX10_startAheads 12 = .ok (.if_icmp .ge 31, 3) := by decide +kernel
theorem dX10_startAheads_15 : decode cX10_startAheads 15 = .ok (.aload_n 0, 1) := by decide +kernel
theorem dX10_startAheads_16 : decode cX10_startAheads 16 = .ok (.getfield 49, 3) := by decide +kernel
theorem dX10_startAheads_19 : decode cX10_startAheads 19 = .ok (.iconst 4, 1) := by decide +kernel
theorem dX10_startAheads_20 : decode cX10_startAheads 20 = .ok (.iload_n 3, 1) := by decide +kernel
theorem dX10_startAheads_21 : decode cX10_startAheads 21 = .ok (.imul, 1) := by decide +kernel
theorem dX10_startAheads_22 : decode cX10_startAheads 22 = .ok (.iload 4, 2) := by decide +kernel
theorem dX10_startAheads_24 : decode cX10_startAheads 24 = .ok (.iadd, 1) := by decide +kernel
theorem dX10_startAheads_25 : decode cX10_startAheads 25 = .ok (.iload 4, 2) := by decide +kernel
theorem dX10_startAheads_27 : decode cX10_startAheads 27 = .ok (.iload_n 1, 1) := by decide +kernel
theorem dX10_startAheads_28 : decode cX10_startAheads 28 = .ok (.if_icmp .ne 7, 3) := by decide +kernel
theorem dX10_startAheads_31 : decode cX10_startAheads 31 = .ok (.iload_n 2, 1) := by decide +kernel
theorem dX10_startAheads_32 : decode cX10_startAheads 32 = .ok (.goto 4, 3) := by decide +kernel
theorem dX10_startAheads_35 : decode cX10_startAheads 35 = .ok (.iconst 0, 1) := by decide +kernel
theorem dX10_startAheads_36 : decode cX10_startAheads 36 = .ok (.iastore, 1) := by decide +kernel
theorem dX10_startAheads_37 : decode cX10_startAheads 37 = .ok (.iinc 4 1, 3) := by decide +kernel
theorem dX10_startAheads_40 : decode cX10_startAheads 40 = .ok (.goto (-31), 3) := by decide +kernel
theorem dX10_startAheads_43 : decode cX10_startAheads 43 = .ok (.aload_n 0, 1) := by decide +kernel
theorem dX10_startAheads_44 : decode cX10_startAheads 44 = .ok (.getfield 43, 3) := by decide +kernel
theorem dX10_startAheads_47 : decode cX10_startAheads 47 = .ok (.iload_n 3, 1) := by decide +kernel
theorem dX10_startAheads_48 : decode cX10_startAheads 48 = .ok (.iaload, 1) := by decide +kernel
theorem dX10_startAheads_49 : decode cX10_startAheads 49 = .ok (.iconst 2, 1) := by decide +kernel
theorem dX10_startAheads_50 : decode cX10_startAheads 50 = .ok (.if_icmp .ne 35, 3) := by decide +kernel
theorem dX10_startAheads_53 : decode cX10_startAheads 53 = .ok (.aload_n 0, 1) := by decide +kernel
theorem dX10_startAheads_54 : decode cX10_startAheads 54 = .ok (.getfield 52, 3) := by decide +kernel
theorem dX10_startAheads_57 : decode cX10_startAheads 57 = .ok (.aload_n 0, 1) := by decide +kernel
theorem dX10_startAheads_58 : decode cX10_startAheads 58 = .ok (.getfield 46, 3) := by decide +kernel
theorem dX10_startAheads_61 : decode cX10_startAheads 61 = .ok (.iload_n 3, 1) := by decide +kernel
theorem dX10_startAheads_62 : decode cX10_startAheads 62 = .ok (.iaload, 1) := by decide +kernel
theorem dX10_startAheads_63 : decode cX10_startAheads 63 = .ok (.iaload, 1) := by decide +kernel
theorem dX10_startAheads_64 : decode cX10_startAheads 64 = .ok (.istore 4, 2) := by decide +kernel
theorem dX10_startAheads_66 : decode cX10_startAheads 66 = .ok (.aload_n 0, 1) := by decide +kernel
theorem dX10_startAheads_67 : decode cX10_startAheads 67 = .ok (.getfield 49, 3) := by decide +kernel
theorem dX10_startAheads_70 : decode cX10_startAheads 70 = .ok (.iconst 4, 1) := by decide +kernel
theorem dX10_startAheads_71 : decode cX10_startAheads 71 = .ok (.iload_n 3, 1) := by decide +kernel
theorem dX10_startAheads_72 : decode cX10_startAheads 72 = .ok (.imul, 1) := by decide +kernel
theorem dX10_startAheads_73 : decode cX10_startAheads 73 = .ok (.iload 4, 2) := by decide +kernel
theorem dX10_startAheads_75 : decode cX10_startAheads 75 = .ok (.iconst 5, 1) := by decide +kernel
theorem dX10_startAheads_76 : decode cX10_startAheads 76 = .ok (.idiv, 1) := by decide +kernel
theorem dX10_startAheads_77 : decode cX10_startAheads 77 = .ok (.iadd, 1) := by decide +kernel
theorem dX10_startAheads_78 : decode cX10_startAheads 78 = .ok (.iload 4, 2) := by decide +kernel
theorem dX10_startAheads_80 : decode cX10_startAheads 80 = .ok (.iconst 5, 1) := by decide +kernel
theorem dX10_startAheads_81 : decode cX10_startAheads 81 = .ok (.irem, 1) := by decide +kernel
theorem dX10_startAheads_82 : decode cX10_startAheads 82 = .ok (.iconst 1, 1) := by decide +kernel
theorem dX10_startAheads_83 : decode cX10_startAheads 83 = .ok (.iadd, 1) := by decide +kernel
theorem dX10_startAheads_84 : decode cX10_startAheads 84 = .ok (.iastore, 1) := by decide +kernel
theorem dX10_startAheads_85 : decode cX10_startAheads 85 = .ok (.return_, 1) := by decide +kernel
def bk_X10_startAheads_0 (l : Launch) (g : Gm) (G : Nat → CT) (P : PT) : CT := (oPush (.int (5)) (oILd 1 (oBin (fun x y => x * y) (oILd 2 (oBin (fun x y => x + y) (oISt 3 (oPush (.int (0)) (oISt 4 (G 1)))))))))
def bk_X10_startAheads_1 (l : Launch) (g : Gm) (G : Nat → CT) (P : PT) : CT := (oILd 4 (oPush (.int (4)) (oCmp (fun x y => y ≤ x) (oALd 0 (oGet [10] 16 (oILd 3 (oIAL g (oPush (.int (2)) (oCmp (fun x y => x = y) (oALd 0 (oGet [10] 19 (oALd 0 (oGet [10] 17 (oILd 3 (oIAL g (oIAL g (oISt 4 (oALd 0 (oGet [10] 18 (oPush (.int (4)) (oILd 3 (oBin (fun x y => x * y) (oILd 4 (oPush (.int (5)) (oBinZ (fun x y => x / y) (oBin (fun x y => x + y) (oILd 4 (oPush (.int (5)) (oBinZ (fun x y => x - x / y * y) (oPush (.int (1)) (oBin (fun x y => x + y) (oIAS g (oVRet P)))))))))))))))))))))))) (oVRet P))))))) (oALd 0 (oGet [10] 18 (oPush (.int (4)) (oILd 3 (oBin (fun x y => x * y) (oILd 4 (oBin (fun x y => x + y) (oILd 4 (oILd 1 (oCmp (fun x y => x = y) (oILd 2 (oGo (G 2))) (oPush (.int (0)) (G 2)))))))))))))))
def bk_X10_startAheads_2 (l : Launch) (g : Gm) (G : Nat → CT) (P : PT) : CT := (oIAS g (oInc 4 (1) (oGo (G 1))))
def bk_X10_startAheads (l : Launch) (g : Gm) (b : Nat) (G : Nat → CT) (P : PT) : CT := match b with
  | 0 => bk_X10_startAheads_0 l g G P
  | 1 => bk_X10_startAheads_1 l g G P
  | 2 => bk_X10_startAheads_2 l g G P
  | _ => fun _ _ _ _ _ => False
def pc_X10_startAheads (b : Nat) : Nat := match b with
  | 0 => 0
  | 1 => 9
  | 2 => 36
  | _ => 0
set_option maxRecDepth 100000 in
theorem sb_X10_startAheads_0 {p : Program} {l : Launch} {e : Env} {s : State} {m : MethodId} {args : Array Value} {below : List Frame} {meth : Method} {c : Code} {g : Gm} {h0 : Hp} {P : PT} {mc ms : Nat} (X : Cx g p s m args meth c (Adom h0 s.heap.size) cX10_startAheads RX10 5) (hr : meth.sig.returnType = none) (hn : meth.name = "startAheads") : SX g p l e s m args below meth c d_X10_startAheads 5 mc ms h0 P (bk_X10_startAheads_0 l g (fun b => GX g p l e s m args below meth c d_X10_startAheads 5 mc ms h0 P (pc_X10_startAheads b)) P) 0 := (s_iconst X dX10_startAheads_0 rfl (s_iload_n X dX10_startAheads_1 rfl (s_imul X dX10_startAheads_2 (s_iload_n X dX10_startAheads_3 rfl (s_iadd X dX10_startAheads_4 (s_istore_n X dX10_startAheads_5 rfl (by decide) (s_iconst X dX10_startAheads_6 rfl (s_istore X dX10_startAheads_7 (by decide) Sd.rf))))))))
set_option maxRecDepth 100000 in
theorem sb_X10_startAheads_1 {p : Program} {l : Launch} {e : Env} {s : State} {m : MethodId} {args : Array Value} {below : List Frame} {meth : Method} {c : Code} {g : Gm} {h0 : Hp} {P : PT} {mc ms : Nat} (X : Cx g p s m args meth c (Adom h0 s.heap.size) cX10_startAheads RX10 5) (hr : meth.sig.returnType = none) (hn : meth.name = "startAheads") : SX g p l e s m args below meth c d_X10_startAheads 5 mc ms h0 P (bk_X10_startAheads_1 l g (fun b => GX g p l e s m args below meth c d_X10_startAheads 5 mc ms h0 P (pc_X10_startAheads b)) P) 9 := (s_iload X dX10_startAheads_9 (s_iconst X dX10_startAheads_11 rfl (s_icmp_ge X dX10_startAheads_12 (by decide) (s_aload_n X dX10_startAheads_43 rfl (s_get X dX10_startAheads_44 (mcn (⟨_, _, _, _, rfl, inU_X10, by decide, uw_725, rfl⟩) (mnl)) (s_iload_n X dX10_startAheads_47 rfl (s_iaload X dX10_startAheads_48 (s_iconst X dX10_startAheads_49 rfl (s_icmp_ne X dX10_startAheads_50 (by decide) (s_vret X hr dX10_startAheads_85) (s_aload_n X dX10_startAheads_53 rfl (s_get X dX10_startAheads_54 (mcn (⟨_, _, _, _, rfl, inU_X10, by decide, uw_728, rfl⟩) (mnl)) (s_aload_n X dX10_startAheads_57 rfl (s_get X dX10_startAheads_58 (mcn (⟨_, _, _, _, rfl, inU_X10, by decide, uw_726, rfl⟩) (mnl)) (s_iload_n X dX10_startAheads_61 rfl (s_iaload X dX10_startAheads_62 (s_iaload X dX10_startAheads_63 (s_istore X dX10_startAheads_64 (by decide) (s_aload_n X dX10_startAheads_66 rfl (s_get X dX10_startAheads_67 (mcn (⟨_, _, _, _, rfl, inU_X10, by decide, uw_727, rfl⟩) (mnl)) (s_iconst X dX10_startAheads_70 rfl (s_iload_n X dX10_startAheads_71 rfl (s_imul X dX10_startAheads_72 (s_iload X dX10_startAheads_73 (s_iconst X dX10_startAheads_75 rfl (s_idiv X dX10_startAheads_76 (s_iadd X dX10_startAheads_77 (s_iload X dX10_startAheads_78 (s_iconst X dX10_startAheads_80 rfl (s_irem X dX10_startAheads_81 (s_iconst X dX10_startAheads_82 rfl (s_iadd X dX10_startAheads_83 (s_iastore X dX10_startAheads_84 (s_vret X hr dX10_startAheads_85)))))))))))))))))))))))))))))) (s_aload_n X dX10_startAheads_15 rfl (s_get X dX10_startAheads_16 (mcn (⟨_, _, _, _, rfl, inU_X10, by decide, uw_727, rfl⟩) (mnl)) (s_iconst X dX10_startAheads_19 rfl (s_iload_n X dX10_startAheads_20 rfl (s_imul X dX10_startAheads_21 (s_iload X dX10_startAheads_22 (s_iadd X dX10_startAheads_24 (s_iload X dX10_startAheads_25 (s_iload_n X dX10_startAheads_27 rfl (s_icmp_ne X dX10_startAheads_28 (by decide) (s_iconst X dX10_startAheads_35 rfl Sd.rf) (s_iload_n X dX10_startAheads_31 rfl (s_goto X dX10_startAheads_32 (by decide) Sd.rf)))))))))))))))
set_option maxRecDepth 100000 in
theorem sb_X10_startAheads_2 {p : Program} {l : Launch} {e : Env} {s : State} {m : MethodId} {args : Array Value} {below : List Frame} {meth : Method} {c : Code} {g : Gm} {h0 : Hp} {P : PT} {mc ms : Nat} (X : Cx g p s m args meth c (Adom h0 s.heap.size) cX10_startAheads RX10 5) (hr : meth.sig.returnType = none) (hn : meth.name = "startAheads") : SX g p l e s m args below meth c d_X10_startAheads 5 mc ms h0 P (bk_X10_startAheads_2 l g (fun b => GX g p l e s m args below meth c d_X10_startAheads 5 mc ms h0 P (pc_X10_startAheads b)) P) 36 := (s_iastore X dX10_startAheads_36 (s_iinc X dX10_startAheads_37 rfl (by decide) (s_goto X dX10_startAheads_40 (by decide) Sd.rf)))
set_option maxRecDepth 100000 in
theorem vc_X10_startAheads {l : Launch} {g : Gm} {a0 : Nat} {a1 : Int32} {a2 : Int32} {h : Hp} {mc ms : Nat} {P : PT} (H : ∀ G : Nat → CT, (∀ (b : Nat) (h : Hp) (cb sb : Nat) (ls : LocS) (st : List Value), bk_X10_startAheads l g b G P h cb sb ls st → G b h cb sb ls st) → G 0 h mc ms [some (.ref a0), some (.int a1), some (.int a2), none, none] []) : Run l g d_X10_startAheads [.ref a0, .int a1, .int a2] h mc ms P :=
  Run.of (d := d_X10_startAheads) (by decide) (mcn rfl (mcn rfl (mcn rfl (mnl)))) (Nat.le_of_ble_eq_true rfl) (fun p e s m args below meth c X hr hn => H (fun b => GX g p l e s m args below meth c d_X10_startAheads 5 mc ms h P (pc_X10_startAheads b)) (fun b h1 cb sb ls st hb => match b, hb with
    | 0, hb => sb_X10_startAheads_0 (p := p) (e := e) (below := below) X hr hn h1 cb sb ls st hb
    | 1, hb => sb_X10_startAheads_1 (p := p) (e := e) (below := below) X hr hn h1 cb sb ls st hb
    | 2, hb => sb_X10_startAheads_2 (p := p) (e := e) (below := below) X hr hn h1 cb sb ls st hb
    | _ + 3, hb => hb.elim))
theorem dX10_goesOn_0 : decode cX10_goesOn 0 = .ok (.iconst 0, 1) := by decide +kernel
theorem dX10_goesOn_1 : decode cX10_goesOn 1 = .ok (.istore_n 1, 1) := by decide +kernel
theorem dX10_goesOn_2 : decode cX10_goesOn 2 = .ok (.iconst 0, 1) := by decide +kernel
theorem dX10_goesOn_3 : decode cX10_goesOn 3 = .ok (.istore_n 2, 1) := by decide +kernel
theorem dX10_goesOn_4 : decode cX10_goesOn 4 = .ok (.iload_n 2, 1) := by decide +kernel
theorem dX10_goesOn_5 : decode cX10_goesOn 5 = .ok (.aload_n 0, 1) := by decide +kernel
theorem dX10_goesOn_6 : decode cX10_goesOn 6 = .ok (.getfield 119, 3) := by decide +kernel
theorem dX10_goesOn_9 : decode cX10_goesOn 9 = .ok (.if_icmp .ge 49, 3) := by decide +kernel
theorem dX10_goesOn_12 : decode cX10_goesOn 12 = .ok (.iconst 0, 1) := by decide +kernel
theorem dX10_goesOn_13 : decode cX10_goesOn 13 = .ok (.istore_n 3, 1) := by decide +kernel
theorem dX10_goesOn_14 : decode cX10_goesOn 14 = .ok (.iload_n 3, 1) := by decide +kernel
theorem dX10_goesOn_15 : decode cX10_goesOn 15 = .ok (.aload_n 0, 1) := by decide +kernel
theorem dX10_goesOn_16 : decode cX10_goesOn 16 = .ok (.getfield 40, 3) := by decide +kernel
theorem dX10_goesOn_19 : decode cX10_goesOn 19 = .ok (.iload_n 2, 1) := by decide +kernel
theorem dX10_goesOn_20 : decode cX10_goesOn 20 = .ok (.iaload, 1) := by decide +kernel
theorem dX10_goesOn_21 : decode cX10_goesOn 21 = .ok (.if_icmp .ge 31, 3) := by decide +kernel
theorem dX10_goesOn_24 : decode cX10_goesOn 24 = .ok (.aload_n 0, 1) := by decide +kernel
theorem dX10_goesOn_25 : decode cX10_goesOn 25 = .ok (.iconst 5, 1) := by decide +kernel
theorem dX10_goesOn_26 : decode cX10_goesOn 26 = .ok (.iload_n 2, 1) := by decide +kernel
theorem dX10_goesOn_27 : decode cX10_goesOn 27 = .ok (.imul, 1) := by decide +kernel
theorem dX10_goesOn_28 : decode cX10_goesOn 28 = .ok (.iload_n 3, 1) := by decide +kernel
theorem dX10_goesOn_29 : decode cX10_goesOn 29 = .ok (.iadd, 1) := by decide +kernel
theorem dX10_goesOn_30 : decode cX10_goesOn 30 = .ok (.invokevirtual 149, 3) := by decide +kernel
theorem dX10_goesOn_33 : decode cX10_goesOn 33 = .ok (.ifCond .ne 7, 3) := by decide +kernel
theorem dX10_goesOn_36 : decode cX10_goesOn 36 = .ok (.iload_n 1, 1) := by decide +kernel
theorem dX10_goesOn_37 : decode cX10_goesOn 37 = .ok (.ifCond .eq 7, 3) := by decide +kernel
theorem dX10_goesOn_40 : decode cX10_goesOn 40 = .ok (.iconst 1, 1) := by decide +kernel
theorem dX10_goesOn_41 : decode cX10_goesOn 41 = .ok (.goto 4, 3) := by decide +kernel
theorem dX10_goesOn_44 : decode cX10_goesOn 44 = .ok (.iconst 0, 1) := by decide +kernel
theorem dX10_goesOn_45 : decode cX10_goesOn 45 = .ok (.istore_n 1, 1) := by decide +kernel
theorem dX10_goesOn_46 : decode cX10_goesOn 46 = .ok (.iinc 3 1, 3) := by decide +kernel
theorem dX10_goesOn_49 : decode cX10_goesOn 49 = .ok (.goto (-35), 3) := by decide +kernel
theorem dX10_goesOn_52 : decode cX10_goesOn 52 = .ok (.iinc 2 1, 3) := by decide +kernel
theorem dX10_goesOn_55 : decode cX10_goesOn 55 = .ok (.goto (-51), 3) := by decide +kernel
theorem dX10_goesOn_58 : decode cX10_goesOn 58 = .ok (.iload_n 1, 1) := by decide +kernel
theorem dX10_goesOn_59 : decode cX10_goesOn 59 = .ok (.ireturn, 1) := by decide +kernel
def bk_X10_goesOn_0 (l : Launch) (g : Gm) (G : Nat → CT) (P : PT) : CT := (oPush (.int (0)) (oISt 1 (oPush (.int (0)) (oISt 2 (G 1)))))
def bk_X10_goesOn_1 (l : Launch) (g : Gm) (G : Nat → CT) (P : PT) : CT := (oILd 2 (oALd 0 (oGet [10] 13 (oCmp (fun x y => y ≤ x) (oILd 1 (oZRet P)) (oPush (.int (0)) (oISt 3 (G 2)))))))
def bk_X10_goesOn_2 (l : Launch) (g : Gm) (G : Nat → CT) (P : PT) : CT := (oILd 3 (oALd 0 (oGet [10] 15 (oILd 2 (oIAL g (oCmp (fun x y => y ≤ x) (oInc 2 (1) (oGo (G 1))) (oALd 0 (oPush (.int (5)) (oILd 2 (oBin (fun x y => x * y) (oILd 3 (oBin (fun x y => x + y) (oCallV l g [(10, d_X10_takesFromAheads)] 2 (oIf (fun x => x = 0) (oILd 1 (oIf (fun x => x = 0) (oPush (.int (0)) (G 3)) (oPush (.int (1)) (oGo (G 3))))) (oPush (.int (1)) (oGo (G 3)))))))))))))))))
def bk_X10_goesOn_3 (l : Launch) (g : Gm) (G : Nat → CT) (P : PT) : CT := (oISt 1 (oInc 3 (1) (oGo (G 2))))
def bk_X10_goesOn (l : Launch) (g : Gm) (b : Nat) (G : Nat → CT) (P : PT) : CT := match b with
  | 0 => bk_X10_goesOn_0 l g G P
  | 1 => bk_X10_goesOn_1 l g G P
  | 2 => bk_X10_goesOn_2 l g G P
  | 3 => bk_X10_goesOn_3 l g G P
  | _ => fun _ _ _ _ _ => False
def pc_X10_goesOn (b : Nat) : Nat := match b with
  | 0 => 0
  | 1 => 4
  | 2 => 14
  | 3 => 45
  | _ => 0
set_option maxRecDepth 100000 in
theorem sb_X10_goesOn_0 {p : Program} {l : Launch} {e : Env} {s : State} {m : MethodId} {args : Array Value} {below : List Frame} {meth : Method} {c : Code} {g : Gm} {h0 : Hp} {P : PT} {mc ms : Nat} (X : Cx g p s m args meth c (Adom h0 s.heap.size) cX10_goesOn RX10 4) (hr : meth.sig.returnType = some .boolean) (hn : meth.name = "goesOn") : SX g p l e s m args below meth c d_X10_goesOn 4 mc ms h0 P (bk_X10_goesOn_0 l g (fun b => GX g p l e s m args below meth c d_X10_goesOn 4 mc ms h0 P (pc_X10_goesOn b)) P) 0 := (s_iconst X dX10_goesOn_0 rfl (s_istore_n X dX10_goesOn_1 rfl (by decide) (s_iconst X dX10_goesOn_2 rfl (s_istore_n X dX10_goesOn_3 rfl (by decide) Sd.rf))))
set_option maxRecDepth 100000 in
theorem sb_X10_goesOn_1 {p : Program} {l : Launch} {e : Env} {s : State} {m : MethodId} {args : Array Value} {below : List Frame} {meth : Method} {c : Code} {g : Gm} {h0 : Hp} {P : PT} {mc ms : Nat} (X : Cx g p s m args meth c (Adom h0 s.heap.size) cX10_goesOn RX10 4) (hr : meth.sig.returnType = some .boolean) (hn : meth.name = "goesOn") : SX g p l e s m args below meth c d_X10_goesOn 4 mc ms h0 P (bk_X10_goesOn_1 l g (fun b => GX g p l e s m args below meth c d_X10_goesOn 4 mc ms h0 P (pc_X10_goesOn b)) P) 4 := (s_iload_n X dX10_goesOn_4 rfl (s_aload_n X dX10_goesOn_5 rfl (s_get X dX10_goesOn_6 (mcn (⟨_, _, _, _, rfl, inU_X10, by decide, uw_722, rfl⟩) (mnl)) (s_icmp_ge X dX10_goesOn_9 (by decide) (s_iload_n X dX10_goesOn_58 rfl (s_zret X hr dX10_goesOn_59)) (s_iconst X dX10_goesOn_12 rfl (s_istore_n X dX10_goesOn_13 rfl (by decide) Sd.rf))))))
set_option maxRecDepth 100000 in
theorem sb_X10_goesOn_2 {p : Program} {l : Launch} {e : Env} {s : State} {m : MethodId} {args : Array Value} {below : List Frame} {meth : Method} {c : Code} {g : Gm} {h0 : Hp} {P : PT} {mc ms : Nat} (X : Cx g p s m args meth c (Adom h0 s.heap.size) cX10_goesOn RX10 4) (hr : meth.sig.returnType = some .boolean) (hn : meth.name = "goesOn") : SX g p l e s m args below meth c d_X10_goesOn 4 mc ms h0 P (bk_X10_goesOn_2 l g (fun b => GX g p l e s m args below meth c d_X10_goesOn 4 mc ms h0 P (pc_X10_goesOn b)) P) 14 := (s_iload_n X dX10_goesOn_14 rfl (s_aload_n X dX10_goesOn_15 rfl (s_get X dX10_goesOn_16 (mcn (⟨_, _, _, _, rfl, inU_X10, by decide, uw_724, rfl⟩) (mnl)) (s_iload_n X dX10_goesOn_19 rfl (s_iaload X dX10_goesOn_20 (s_icmp_ge X dX10_goesOn_21 (by decide) (s_iinc X dX10_goesOn_52 rfl (by decide) (s_goto X dX10_goesOn_55 (by decide) Sd.rf)) (s_aload_n X dX10_goesOn_24 rfl (s_iconst X dX10_goesOn_25 rfl (s_iload_n X dX10_goesOn_26 rfl (s_imul X dX10_goesOn_27 (s_iload_n X dX10_goesOn_28 rfl (s_iadd X dX10_goesOn_29 (s_callV X dX10_goesOn_30 (mv (vok_V X rfl uw_852 uw_854 (UW_pr 28 rfl rfl) uw_7 ci_X10_takesFromAheads yok_X10_takesFromAheads ⟨Nat.le_of_ble_eq_true rfl, Nat.le_of_ble_eq_true rfl⟩) mv0) (s_if_ne X dX10_goesOn_33 (by decide) (s_iconst X dX10_goesOn_40 rfl (s_goto X dX10_goesOn_41 (by decide) Sd.rf)) (s_iload_n X dX10_goesOn_36 rfl (s_if_eq X dX10_goesOn_37 (by decide) (s_iconst X dX10_goesOn_44 rfl Sd.rf) (s_iconst X dX10_goesOn_40 rfl (s_goto X dX10_goesOn_41 (by decide) Sd.rf))))))))))))))))))
set_option maxRecDepth 100000 in
theorem sb_X10_goesOn_3 {p : Program} {l : Launch} {e : Env} {s : State} {m : MethodId} {args : Array Value} {below : List Frame} {meth : Method} {c : Code} {g : Gm} {h0 : Hp} {P : PT} {mc ms : Nat} (X : Cx g p s m args meth c (Adom h0 s.heap.size) cX10_goesOn RX10 4) (hr : meth.sig.returnType = some .boolean) (hn : meth.name = "goesOn") : SX g p l e s m args below meth c d_X10_goesOn 4 mc ms h0 P (bk_X10_goesOn_3 l g (fun b => GX g p l e s m args below meth c d_X10_goesOn 4 mc ms h0 P (pc_X10_goesOn b)) P) 45 := (s_istore_n X dX10_goesOn_45 rfl (by decide) (s_iinc X dX10_goesOn_46 rfl (by decide) (s_goto X dX10_goesOn_49 (by decide) Sd.rf)))
set_option maxRecDepth 100000 in
theorem vc_X10_goesOn {l : Launch} {g : Gm} {a0 : Nat} {h : Hp} {mc ms : Nat} {P : PT} (H : ∀ G : Nat → CT, (∀ (b : Nat) (h : Hp) (cb sb : Nat) (ls : LocS) (st : List Value), bk_X10_goesOn l g b G P h cb sb ls st → G b h cb sb ls st) → G 0 h mc ms [some (.ref a0), none, none, none] []) : Run l g d_X10_goesOn [.ref a0] h mc ms P :=
  Run.of (d := d_X10_goesOn) (by decide) (mcn rfl (mnl)) (Nat.le_of_ble_eq_true rfl) (fun p e s m args below meth c X hr hn => H (fun b => GX g p l e s m args below meth c d_X10_goesOn 4 mc ms h P (pc_X10_goesOn b)) (fun b h1 cb sb ls st hb => match b, hb with
    | 0, hb => sb_X10_goesOn_0 (p := p) (e := e) (below := below) X hr hn h1 cb sb ls st hb
    | 1, hb => sb_X10_goesOn_1 (p := p) (e := e) (below := below) X hr hn h1 cb sb ls st hb
    | 2, hb => sb_X10_goesOn_2 (p := p) (e := e) (below := below) X hr hn h1 cb sb ls st hb
    | 3, hb => sb_X10_goesOn_3 (p := p) (e := e) (below := below) X hr hn h1 cb sb ls st hb
    | _ + 4, hb => hb.elim))
theorem dX10_takesFromAheads_0 : decode cX10_takesFromAheads 0 = .ok (.iconst 0, 1) := by decide +kernel
theorem dX10_takesFromAheads_1 : decode cX10_takesFromAheads 1 = .ok (.istore_n 2, 1) := by decide +kernel
theorem dX10_takesFromAheads_2 : decode cX10_takesFromAheads 2 = .ok (.iconst 0, 1) := by decide +kernel
theorem dX10_takesFromAheads_3 : decode cX10_takesFromAheads 3 = .ok (.istore_n 3, 1) := by decide +kernel
theorem dX10_takesFromAheads_4 : decode cX10_takesFromAheads 4 = .ok (.iload_n 3, 1) := by decide +kernel
theorem dX10_takesFromAheads_5 : decode cX10_takesFromAheads 5 = .ok (.aload_n 0, 1) := by decide +kernel
theorem dX10_takesFromAheads_6 : decode cX10_takesFromAheads 6 = .ok (.getfield 119, 3) := by decide +kernel
theorem dX10_takesFromAheads_9 : decode cX10_takesFromAheads 9 = .ok (.if_icmp .ge 92, 3) := by decide +kernel
theorem dX10_takesFromAheads_12 : decode cX10_takesFromAheads 12 = .ok (.aload_n 0, 1) := by decide +kernel
theorem dX10_takesFromAheads_13 : decode cX10_takesFromAheads 13 = .ok (.getfield 49, 3) := by decide +kernel
theorem dX10_takesFromAheads_16 : decode cX10_takesFromAheads 16 = .ok (.iconst 4, 1) := by decide +kernel
theorem dX10_takesFromAheads_17 : decode cX10_takesFromAheads 17 = .ok (.iload_n 1, 1) := by decide +kernel
theorem dX10_takesFromAheads_18 : decode cX10_takesFromAheads 18 = .ok (.imul, 1) := by decide +kernel
theorem dX10_takesFromAheads_19 : decode cX10_takesFromAheads 19 = .ok (.iload_n 3, 1) := by decide +kernel
theorem dX10_takesFromAheads_20 : decode cX10_takesFromAheads 20 = .ok (.iadd, 1) := by decide +kernel
theorem dX10_takesFromAheads_21 : decode cX10_takesFromAheads 21 = .ok (.iaload, 1) := by decide +kernel
theorem dX10_takesFromAheads_22 : decode cX10_takesFromAheads 22 = .ok (.iconst 1, 1) := by decide +kernel
theorem dX10_takesFromAheads_23 : decode cX10_takesFromAheads 23 = .ok (.isub, 1) := by decide +kernel
theorem dX10_takesFromAheads_24 : decode cX10_takesFromAheads 24 = .ok (.istore 4, 2) := by decide +kernel
theorem dX10_takesFromAheads_26 : decode cX10_takesFromAheads 26 = .ok (.iconst 0, 1) := by decide +kernel
theorem dX10_takesFromAheads_27 : decode cX10_takesFromAheads 27 = .ok (.istore 5, 2) := by decide +kernel
theorem dX10_takesFromAheads_29 : decode cX10_takesFromAheads 29 = .ok (.iload 5, 2) := by decide +kernel
theorem dX10_takesFromAheads_31 : decode cX10_takesFromAheads 31 = .ok (.iconst 4, 1) := by decide +kernel
theorem dX10_takesFromAheads_32 : decode cX10_takesFromAheads 32 = .ok (.if_icmp .ge 63, 3) := by decide +kernel
theorem dX10_takesFromAheads_35 : decode cX10_takesFromAheads 35 = .ok (.iload 4, 2) := by decide +kernel
theorem dX10_takesFromAheads_37 : decode cX10_takesFromAheads 37 = .ok (.ifCond .lt 58, 3) := by decide +kernel
theorem dX10_takesFromAheads_40 : decode cX10_takesFromAheads 40 = .ok (.aload_n 0, 1) := by decide +kernel
theorem dX10_takesFromAheads_41 : decode cX10_takesFromAheads 41 = .ok (.getfield 49, 3) := by decide +kernel
theorem dX10_takesFromAheads_44 : decode cX10_takesFromAheads 44 = .ok (.iconst 4, 1) := by decide +kernel
theorem dX10_takesFromAheads_45 : decode cX10_takesFromAheads 45 = .ok (.iconst 5, 1) := by decide +kernel
theorem dX10_takesFromAheads_46 : decode cX10_takesFromAheads 46 = .ok (.iload_n 3, 1) := by decide +kernel
theorem dX10_takesFromAheads_47 : decode cX10_takesFromAheads 47 = .ok (.imul, 1) := by decide +kernel
theorem dX10_takesFromAheads_48 : decode cX10_takesFromAheads 48 = .ok (.iload 4, 2) := by decide +kernel
theorem dX10_takesFromAheads_50 : decode cX10_takesFromAheads 50 = .ok (.iadd, 1) := by decide +kernel
theorem dX10_takesFromAheads_51 : decode cX10_takesFromAheads 51 = .ok (.imul, 1) := by decide +kernel
theorem dX10_takesFromAheads_52 : decode cX10_takesFromAheads 52 = .ok (.iload 5, 2) := by decide +kernel
theorem dX10_takesFromAheads_54 : decode cX10_takesFromAheads 54 = .ok (.iadd, 1) := by decide +kernel
theorem dX10_takesFromAheads_55 : decode cX10_takesFromAheads 55 = .ok (.iaload, 1) := by decide +kernel
theorem dX10_takesFromAheads_56 : decode cX10_takesFromAheads 56 = .ok (.istore 6, 2) := by decide +kernel
theorem dX10_takesFromAheads_58 : decode cX10_takesFromAheads 58 = .ok (.iload 6, 2) := by decide +kernel
theorem dX10_takesFromAheads_60 : decode cX10_takesFromAheads 60 = .ok (.aload_n 0, 1) := by decide +kernel
theorem dX10_takesFromAheads_61 : decode cX10_takesFromAheads 61 = .ok (.getfield 49, 3) := by decide +kernel
theorem dX10_takesFromAheads_64 : decode cX10_takesFromAheads 64 = .ok (.iconst 4, 1) := by decide +kernel
theorem dX10_takesFromAheads_65 : decode cX10_takesFromAheads 65 = .ok (.iload_n 1, 1) := by decide +kernel
theorem dX10_takesFromAheads_66 : decode cX10_takesFromAheads 66 = .ok (.imul, 1) := by decide +kernel
theorem dX10_takesFromAheads_67 : decode cX10_takesFromAheads 67 = .ok (.iload 5, 2) := by decide +kernel
theorem dX10_takesFromAheads_69 : decode cX10_takesFromAheads 69 = .ok (.iadd, 1) := by decide +kernel
theorem dX10_takesFromAheads_70 : decode cX10_takesFromAheads 70 = .ok (.iaload, 1) := by decide +kernel
theorem dX10_takesFromAheads_71 : decode cX10_takesFromAheads 71 = .ok (.if_icmp .le 18, 3) := by decide +kernel
theorem dX10_takesFromAheads_74 : decode cX10_takesFromAheads 74 = .ok (.aload_n 0, 1) := by decide +kernel
theorem dX10_takesFromAheads_75 : decode cX10_takesFromAheads 75 = .ok (.getfield 49, 3) := by decide +kernel
theorem dX10_takesFromAheads_78 : decode cX10_takesFromAheads 78 = .ok (.iconst 4, 1) := by decide +kernel
theorem dX10_takesFromAheads_79 : decode cX10_takesFromAheads 79 = .ok (.iload_n 1, 1) := by decide +kernel
theorem dX10_takesFromAheads_80 : decode cX10_takesFromAheads 80 = .ok (.imul, 1) := by decide +kernel
theorem dX10_takesFromAheads_81 : decode cX10_takesFromAheads 81 = .ok (.iload 5, 2) := by decide +kernel
theorem dX10_takesFromAheads_83 : decode cX10_takesFromAheads 83 = .ok (.iadd, 1) := by decide +kernel
theorem dX10_takesFromAheads_84 : decode cX10_takesFromAheads 84 = .ok (.iload 6, 2) := by decide +kernel
theorem dX10_takesFromAheads_86 : decode cX10_takesFromAheads 86 = .ok (.iastore, 1) := by decide +kernel
theorem dX10_takesFromAheads_87 : decode cX10_takesFromAheads 87 = .ok (.iconst 1, 1) := by decide +kernel
theorem dX10_takesFromAheads_88 : decode cX10_takesFromAheads 88 = .ok (.istore_n 2, 1) := by decide +kernel
theorem dX10_takesFromAheads_89 : decode cX10_takesFromAheads 89 = .ok (.iinc 5 1, 3) := by decide +kernel
theorem dX10_takesFromAheads_92 : decode cX10_takesFromAheads 92 = .ok (.goto (-63), 3) := by decide +kernel
theorem dX10_takesFromAheads_95 : decode cX10_takesFromAheads 95 = .ok (.iinc 3 1, 3) := by decide +kernel
theorem dX10_takesFromAheads_98 : decode cX10_takesFromAheads 98 = .ok (.goto (-94), 3) := by decide +kernel
theorem dX10_takesFromAheads_101 : decode cX10_takesFromAheads 101 = .ok (.iload_n 2, 1) := by decide +kernel
theorem dX10_takesFromAheads_102 : decode cX10_takesFromAheads 102 = .ok (.ireturn, 1) := by decide +kernel
def bk_X10_takesFromAheads_0 (l : Launch) (g : Gm) (G : Nat → CT) (P : PT) : CT := (oPush (.int (0)) (oISt 2 (oPush (.int (0)) (oISt 3 (G 1)))))
def bk_X10_takesFromAheads_1 (l : Launch) (g : Gm) (G : Nat → CT) (P : PT) : CT := (oILd 3 (oALd 0 (oGet [10] 13 (oCmp (fun x y => y ≤ x) (oILd 2 (oZRet P)) (oALd 0 (oGet [10] 18 (oPush (.int (4)) (oILd 1 (oBin (fun x y => x * y) (oILd 3 (oBin (fun x y => x + y) (oIAL g (oPush (.int (1)) (oBin (fun x y => x - y) (oISt 4 (oPush (.int (0)) (oISt 5 (G 2))))))))))))))))))
def bk_X10_takesFromAheads_2 (l : Launch) (g : Gm) (G : Nat → CT) (P : PT) : CT := (oILd 5 (oPush (.int (4)) (oCmp (fun x y => y ≤ x) (oInc 3 (1) (oGo (G 1))) (oILd 4 (oIf (fun x => x < 0) (oInc 3 (1) (oGo (G 1))) (oALd 0 (oGet [10] 18 (oPush (.int (4)) (oPush (.int (5)) (oILd 3 (oBin (fun x y => x * y) (oILd 4 (oBin (fun x y => x + y) (oBin (fun x y => x * y) (oILd 5 (oBin (fun x y => x + y) (oIAL g (oISt 6 (oILd 6 (oALd 0 (oGet [10] 18 (oPush (.int (4)) (oILd 1 (oBin (fun x y => x * y) (oILd 5 (oBin (fun x y => x + y) (oIAL g (oCmp (fun x y => x ≤ y) (oInc 5 (1) (oGo (G 2))) (oALd 0 (oGet [10] 18 (oPush (.int (4)) (oILd 1 (oBin (fun x y => x * y) (oILd 5 (oBin (fun x y => x + y) (oILd 6 (oIAS g (oPush (.int (1)) (oISt 2 (oInc 5 (1) (oGo (G 2))))))))))))))))))))))))))))))))))))))))))
def bk_X10_takesFromAheads (l : Launch) (g : Gm) (b : Nat) (G : Nat → CT) (P : PT) : CT := match b with
  | 0 => bk_X10_takesFromAheads_0 l g G P
  | 1 => bk_X10_takesFromAheads_1 l g G P
  | 2 => bk_X10_takesFromAheads_2 l g G P
  | _ => fun _ _ _ _ _ => False
def pc_X10_takesFromAheads (b : Nat) : Nat := match b with
  | 0 => 0
  | 1 => 4
  | 2 => 29
  | _ => 0
set_option maxRecDepth 100000 in
theorem sb_X10_takesFromAheads_0 {p : Program} {l : Launch} {e : Env} {s : State} {m : MethodId} {args : Array Value} {below : List Frame} {meth : Method} {c : Code} {g : Gm} {h0 : Hp} {P : PT} {mc ms : Nat} (X : Cx g p s m args meth c (Adom h0 s.heap.size) cX10_takesFromAheads RX10 7) (hr : meth.sig.returnType = some .boolean) (hn : meth.name = "takesFromAheads") : SX g p l e s m args below meth c d_X10_takesFromAheads 7 mc ms h0 P (bk_X10_takesFromAheads_0 l g (fun b => GX g p l e s m args below meth c d_X10_takesFromAheads 7 mc ms h0 P (pc_X10_takesFromAheads b)) P) 0 := (s_iconst X dX10_takesFromAheads_0 rfl (s_istore_n X dX10_takesFromAheads_1 rfl (by decide) (s_iconst X dX10_takesFromAheads_2 rfl (s_istore_n X dX10_takesFromAheads_3 rfl (by decide) Sd.rf))))
set_option maxRecDepth 100000 in
theorem sb_X10_takesFromAheads_1 {p : Program} {l : Launch} {e : Env} {s : State} {m : MethodId} {args : Array Value} {below : List Frame} {meth : Method} {c : Code} {g : Gm} {h0 : Hp} {P : PT} {mc ms : Nat} (X : Cx g p s m args meth c (Adom h0 s.heap.size) cX10_takesFromAheads RX10 7) (hr : meth.sig.returnType = some .boolean) (hn : meth.name = "takesFromAheads") : SX g p l e s m args below meth c d_X10_takesFromAheads 7 mc ms h0 P (bk_X10_takesFromAheads_1 l g (fun b => GX g p l e s m args below meth c d_X10_takesFromAheads 7 mc ms h0 P (pc_X10_takesFromAheads b)) P) 4 := (s_iload_n X dX10_takesFromAheads_4 rfl (s_aload_n X dX10_takesFromAheads_5 rfl (s_get X dX10_takesFromAheads_6 (mcn (⟨_, _, _, _, rfl, inU_X10, by decide, uw_722, rfl⟩) (mnl)) (s_icmp_ge X dX10_takesFromAheads_9 (by decide) (s_iload_n X dX10_takesFromAheads_101 rfl (s_zret X hr dX10_takesFromAheads_102)) (s_aload_n X dX10_takesFromAheads_12 rfl (s_get X dX10_takesFromAheads_13 (mcn (⟨_, _, _, _, rfl, inU_X10, by decide, uw_727, rfl⟩) (mnl)) (s_iconst X dX10_takesFromAheads_16 rfl (s_iload_n X dX10_takesFromAheads_17 rfl (s_imul X dX10_takesFromAheads_18 (s_iload_n X dX10_takesFromAheads_19 rfl (s_iadd X dX10_takesFromAheads_20 (s_iaload X dX10_takesFromAheads_21 (s_iconst X dX10_takesFromAheads_22 rfl (s_isub X dX10_takesFromAheads_23 (s_istore X dX10_takesFromAheads_24 (by decide) (s_iconst X dX10_takesFromAheads_26 rfl (s_istore X dX10_takesFromAheads_27 (by decide) Sd.rf)))))))))))))))))
set_option maxRecDepth 100000 in
theorem sb_X10_takesFromAheads_2 {p : Program} {l : Launch} {e : Env} {s : State} {m : MethodId} {args : Array Value} {below : List Frame} {meth : Method} {c : Code} {g : Gm} {h0 : Hp} {P : PT} {mc ms : Nat} (X : Cx g p s m args meth c (Adom h0 s.heap.size) cX10_takesFromAheads RX10 7) (hr : meth.sig.returnType = some .boolean) (hn : meth.name = "takesFromAheads") : SX g p l e s m args below meth c d_X10_takesFromAheads 7 mc ms h0 P (bk_X10_takesFromAheads_2 l g (fun b => GX g p l e s m args below meth c d_X10_takesFromAheads 7 mc ms h0 P (pc_X10_takesFromAheads b)) P) 29 := (s_iload X dX10_takesFromAheads_29 (s_iconst X dX10_takesFromAheads_31 rfl (s_icmp_ge X dX10_takesFromAheads_32 (by decide) (s_iinc X dX10_takesFromAheads_95 rfl (by decide) (s_goto X dX10_takesFromAheads_98 (by decide) Sd.rf)) (s_iload X dX10_takesFromAheads_35 (s_if_lt X dX10_takesFromAheads_37 (by decide) (s_iinc X dX10_takesFromAheads_95 rfl (by decide) (s_goto X dX10_takesFromAheads_98 (by decide) Sd.rf)) (s_aload_n X dX10_takesFromAheads_40 rfl (s_get X dX10_takesFromAheads_41 (mcn (⟨_, _, _, _, rfl, inU_X10, by decide, uw_727, rfl⟩) (mnl)) (s_iconst X dX10_takesFromAheads_44 rfl (s_iconst X dX10_takesFromAheads_45 rfl (s_iload_n X dX10_takesFromAheads_46 rfl (s_imul X dX10_takesFromAheads_47 (s_iload X dX10_takesFromAheads_48 (s_iadd X dX10_takesFromAheads_50 (s_imul X dX10_takesFromAheads_51 (s_iload X dX10_takesFromAheads_52 (s_iadd X dX10_takesFromAheads_54 (s_iaload X dX10_takesFromAheads_55 (s_istore X dX10_takesFromAheads_56 (by decide) (s_iload X dX10_takesFromAheads_58 (s_aload_n X dX10_takesFromAheads_60 rfl (s_get X dX10_takesFromAheads_61 (mcn (⟨_, _, _, _, rfl, inU_X10, by decide, uw_727, rfl⟩) (mnl)) (s_iconst X dX10_takesFromAheads_64 rfl (s_iload_n X dX10_takesFromAheads_65 rfl (s_imul X dX10_takesFromAheads_66 (s_iload X dX10_takesFromAheads_67 (s_iadd X dX10_takesFromAheads_69 (s_iaload X dX10_takesFromAheads_70 (s_icmp_le X dX10_takesFromAheads_71 (by decide) (s_iinc X dX10_takesFromAheads_89 rfl (by decide) (s_goto X dX10_takesFromAheads_92 (by decide) Sd.rf)) (s_aload_n X dX10_takesFromAheads_74 rfl (s_get X dX10_takesFromAheads_75 (mcn (⟨_, _, _, _, rfl, inU_X10, by decide, uw_727, rfl⟩) (mnl)) (s_iconst X dX10_takesFromAheads_78 rfl (s_iload_n X dX10_takesFromAheads_79 rfl (s_imul X dX10_takesFromAheads_80 (s_iload X dX10_takesFromAheads_81 (s_iadd X dX10_takesFromAheads_83 (s_iload X dX10_takesFromAheads_84 (s_iastore X dX10_takesFromAheads_86 (s_iconst X dX10_takesFromAheads_87 rfl (s_istore_n X dX10_takesFromAheads_88 rfl (by decide) (s_iinc X dX10_takesFromAheads_89 rfl (by decide) (s_goto X dX10_takesFromAheads_92 (by decide) Sd.rf)))))))))))))))))))))))))))))))))))))))))
set_option maxRecDepth 100000 in
theorem vc_X10_takesFromAheads {l : Launch} {g : Gm} {a0 : Nat} {a1 : Int32} {h : Hp} {mc ms : Nat} {P : PT} (H : ∀ G : Nat → CT, (∀ (b : Nat) (h : Hp) (cb sb : Nat) (ls : LocS) (st : List Value), bk_X10_takesFromAheads l g b G P h cb sb ls st → G b h cb sb ls st) → G 0 h mc ms [some (.ref a0), some (.int a1), none, none, none, none, none] []) : Run l g d_X10_takesFromAheads [.ref a0, .int a1] h mc ms P :=
  Run.of (d := d_X10_takesFromAheads) (by decide) (mcn rfl (mcn rfl (mnl))) (Nat.le_of_ble_eq_true rfl) (fun p e s m args below meth c X hr hn => H (fun b => GX g p l e s m args below meth c d_X10_takesFromAheads 7 mc ms h P (pc_X10_takesFromAheads b)) (fun b h1 cb sb ls st hb => match b, hb with
    | 0, hb => sb_X10_takesFromAheads_0 (p := p) (e := e) (below := below) X hr hn h1 cb sb ls st hb
    | 1, hb => sb_X10_takesFromAheads_1 (p := p) (e := e) (below := below) X hr hn h1 cb sb ls st hb
    | 2, hb => sb_X10_takesFromAheads_2 (p := p) (e := e) (below := below) X hr hn h1 cb sb ls st hb
    | _ + 3, hb => hb.elim))
theorem dX10_aheadOf_0 : decode cX10_aheadOf 0 = .ok (.aload_n 0, 1) := by decide +kernel
theorem dX10_aheadOf_1 : decode cX10_aheadOf 1 = .ok (.getfield 31, 3) := by decide +kernel
theorem dX10_aheadOf_4 : decode cX10_aheadOf 4 = .ok (.iconst 4, 1) := by decide +kernel
theorem dX10_aheadOf_5 : decode cX10_aheadOf 5 = .ok (.iconst 5, 1) := by decide +kernel
theorem dX10_aheadOf_6 : decode cX10_aheadOf 6 = .ok (.iload_n 1, 1) := by decide +kernel
theorem dX10_aheadOf_7 : decode cX10_aheadOf 7 = .ok (.imul, 1) := by decide +kernel
theorem dX10_aheadOf_8 : decode cX10_aheadOf 8 = .ok (.iload_n 2, 1) := by decide +kernel
theorem dX10_aheadOf_9 : decode cX10_aheadOf 9 = .ok (.iadd, 1) := by decide +kernel
theorem dX10_aheadOf_10 : decode cX10_aheadOf 10 = .ok (.imul, 1) := by decide +kernel
theorem dX10_aheadOf_11 : decode cX10_aheadOf 11 = .ok (.iload_n 3, 1) := by decide +kernel
theorem dX10_aheadOf_12 : decode cX10_aheadOf 12 = .ok (.iadd, 1) := by decide +kernel
theorem dX10_aheadOf_13 : decode cX10_aheadOf 13 = .ok (.iaload, 1) := by decide +kernel
theorem dX10_aheadOf_14 : decode cX10_aheadOf 14 = .ok (.ireturn, 1) := by decide +kernel
def bk_X10_aheadOf_0 (l : Launch) (g : Gm) (G : Nat → CT) (P : PT) : CT := (oALd 0 (oGet [10] 10 (oPush (.int (4)) (oPush (.int (5)) (oILd 1 (oBin (fun x y => x * y) (oILd 2 (oBin (fun x y => x + y) (oBin (fun x y => x * y) (oILd 3 (oBin (fun x y => x + y) (oIAL g (oIRet P)))))))))))))
def bk_X10_aheadOf (l : Launch) (g : Gm) (b : Nat) (G : Nat → CT) (P : PT) : CT := match b with
  | 0 => bk_X10_aheadOf_0 l g G P
  | _ => fun _ _ _ _ _ => False
def pc_X10_aheadOf (b : Nat) : Nat := match b with
  | 0 => 0
  | _ => 0
set_option maxRecDepth 100000 in
theorem sb_X10_aheadOf_0 {p : Program} {l : Launch} {e : Env} {s : State} {m : MethodId} {args : Array Value} {below : List Frame} {meth : Method} {c : Code} {g : Gm} {h0 : Hp} {P : PT} {mc ms : Nat} (X : Cx g p s m args meth c (Adom h0 s.heap.size) cX10_aheadOf RX10 4) (hr : meth.sig.returnType = some .int) (hn : meth.name = "aheadOf") : SX g p l e s m args below meth c d_X10_aheadOf 4 mc ms h0 P (bk_X10_aheadOf_0 l g (fun b => GX g p l e s m args below meth c d_X10_aheadOf 4 mc ms h0 P (pc_X10_aheadOf b)) P) 0 := (s_aload_n X dX10_aheadOf_0 rfl (s_get X dX10_aheadOf_1 (mcn (⟨_, _, _, _, rfl, inU_X10, by decide, uw_719, rfl⟩) (mnl)) (s_iconst X dX10_aheadOf_4 rfl (s_iconst X dX10_aheadOf_5 rfl (s_iload_n X dX10_aheadOf_6 rfl (s_imul X dX10_aheadOf_7 (s_iload_n X dX10_aheadOf_8 rfl (s_iadd X dX10_aheadOf_9 (s_imul X dX10_aheadOf_10 (s_iload_n X dX10_aheadOf_11 rfl (s_iadd X dX10_aheadOf_12 (s_iaload X dX10_aheadOf_13 (s_iret X hr dX10_aheadOf_14)))))))))))))
set_option maxRecDepth 100000 in
theorem vc_X10_aheadOf {l : Launch} {g : Gm} {a0 : Nat} {a1 : Int32} {a2 : Int32} {a3 : Int32} {h : Hp} {mc ms : Nat} {P : PT} (H : ∀ G : Nat → CT, (∀ (b : Nat) (h : Hp) (cb sb : Nat) (ls : LocS) (st : List Value), bk_X10_aheadOf l g b G P h cb sb ls st → G b h cb sb ls st) → G 0 h mc ms [some (.ref a0), some (.int a1), some (.int a2), some (.int a3)] []) : Run l g d_X10_aheadOf [.ref a0, .int a1, .int a2, .int a3] h mc ms P :=
  Run.of (d := d_X10_aheadOf) (by decide) (mcn rfl (mcn rfl (mcn rfl (mcn rfl (mnl))))) (Nat.le_of_ble_eq_true rfl) (fun p e s m args below meth c X hr hn => H (fun b => GX g p l e s m args below meth c d_X10_aheadOf 4 mc ms h P (pc_X10_aheadOf b)) (fun b h1 cb sb ls st hb => match b, hb with
    | 0, hb => sb_X10_aheadOf_0 (p := p) (e := e) (below := below) X hr hn h1 cb sb ls st hb
    | _ + 1, hb => hb.elim))
theorem dX10_valueOf_0 : decode cX10_valueOf 0 = .ok (.iconst 0, 1) := by decide +kernel
theorem dX10_valueOf_1 : decode cX10_valueOf 1 = .ok (.istore_n 2, 1) := by decide +kernel
theorem dX10_valueOf_2 : decode cX10_valueOf 2 = .ok (.iconst 0, 1) := by decide +kernel
theorem dX10_valueOf_3 : decode cX10_valueOf 3 = .ok (.istore_n 3, 1) := by decide +kernel
theorem dX10_valueOf_4 : decode cX10_valueOf 4 = .ok (.iload_n 3, 1) := by decide +kernel
theorem dX10_valueOf_5 : decode cX10_valueOf 5 = .ok (.aload_n 0, 1) := by decide +kernel
theorem dX10_valueOf_6 : decode cX10_valueOf 6 = .ok (.getfield 58, 3) := by decide +kernel
theorem dX10_valueOf_9 : decode cX10_valueOf 9 = .ok (.iload_n 1, 1) := by decide +kernel
theorem dX10_valueOf_10 : decode cX10_valueOf 10 = .ok (.iaload, 1) := by decide +kernel
theorem dX10_valueOf_11 : decode cX10_valueOf 11 = .ok (.if_icmp .ge 37, 3) := by decide +kernel
theorem dX10_valueOf_14 : decode cX10_valueOf 14 = .ok (.aload_n 0, 1) := by decide +kernel
theorem dX10_valueOf_15 : decode cX10_valueOf 15 = .ok (.getfield 25, 3) := by decide +kernel
theorem dX10_valueOf_18 : decode cX10_valueOf 18 = .ok (.iconst 5, 1) := by decide +kernel
theorem dX10_valueOf_19 : decode cX10_valueOf 19 = .ok (.iload_n 1, 1) := by decide +kernel
theorem dX10_valueOf_20 : decode cX10_valueOf 20 = .ok (.imul, 1) := by decide +kernel
theorem dX10_valueOf_21 : decode cX10_valueOf 21 = .ok (.iload_n 3, 1) := by decide +kernel
theorem dX10_valueOf_22 : decode cX10_valueOf 22 = .ok (.iadd, 1) := by decide +kernel
theorem dX10_valueOf_23 : decode cX10_valueOf 23 = .ok (.iaload, 1) := by decide +kernel
theorem dX10_valueOf_24 : decode cX10_valueOf 24 = .ok (.ifCond .ne 16, 3) := by decide +kernel
theorem dX10_valueOf_27 : decode cX10_valueOf 27 = .ok (.aload_n 0, 1) := by decide +kernel
theorem dX10_valueOf_28 : decode cX10_valueOf 28 = .ok (.getfield 28, 3) := by decide +kernel
theorem dX10_valueOf_31 : decode cX10_valueOf 31 = .ok (.iconst 5, 1) := by decide +kernel
theorem dX10_valueOf_32 : decode cX10_valueOf 32 = .ok (.iload_n 1, 1) := by decide +kernel
theorem dX10_valueOf_33 : decode cX10_valueOf 33 = .ok (.imul, 1) := by decide +kernel
theorem dX10_valueOf_34 : decode cX10_valueOf 34 = .ok (.iload_n 3, 1) := by decide +kernel
theorem dX10_valueOf_35 : decode cX10_valueOf 35 = .ok (.iadd, 1) := by decide +kernel
theorem dX10_valueOf_36 : decode cX10_valueOf 36 = .ok (.iaload, 1) := by decide +kernel
theorem dX10_valueOf_37 : decode cX10_valueOf 37 = .ok (.goto 4, 3) := by decide +kernel
theorem dX10_valueOf_40 : decode cX10_valueOf 40 = .ok (.iload_n 2, 1) := by decide +kernel
theorem dX10_valueOf_41 : decode cX10_valueOf 41 = .ok (.istore_n 2, 1) := by decide +kernel
theorem dX10_valueOf_42 : decode cX10_valueOf 42 = .ok (.iinc 3 1, 3) := by decide +kernel
theorem dX10_valueOf_45 : decode cX10_valueOf 45 = .ok (.goto (-41), 3) := by decide +kernel
theorem dX10_valueOf_48 : decode cX10_valueOf 48 = .ok (.iload_n 2, 1) := by decide +kernel
theorem dX10_valueOf_49 : decode cX10_valueOf 49 = .ok (.ireturn, 1) := by decide +kernel
def bk_X10_valueOf_0 (l : Launch) (g : Gm) (G : Nat → CT) (P : PT) : CT := (oPush (.int (0)) (oISt 2 (oPush (.int (0)) (oISt 3 (G 1)))))
def bk_X10_valueOf_1 (l : Launch) (g : Gm) (G : Nat → CT) (P : PT) : CT := (oILd 3 (oALd 0 (oGet [10] 21 (oILd 1 (oIAL g (oCmp (fun x y => y ≤ x) (oILd 2 (oIRet P)) (oALd 0 (oGet [10] 8 (oPush (.int (5)) (oILd 1 (oBin (fun x y => x * y) (oILd 3 (oBin (fun x y => x + y) (oIAL g (oIf (fun x => x = 0) (oALd 0 (oGet [10] 9 (oPush (.int (5)) (oILd 1 (oBin (fun x y => x * y) (oILd 3 (oBin (fun x y => x + y) (oIAL g (oGo (G 2)))))))))) (oILd 2 (G 2)))))))))))))))))
def bk_X10_valueOf_2 (l : Launch) (g : Gm) (G : Nat → CT) (P : PT) : CT := (oISt 2 (oInc 3 (1) (oGo (G 1))))
def bk_X10_valueOf (l : Launch) (g : Gm) (b : Nat) (G : Nat → CT) (P : PT) : CT := match b with
  | 0 => bk_X10_valueOf_0 l g G P
  | 1 => bk_X10_valueOf_1 l g G P
  | 2 => bk_X10_valueOf_2 l g G P
  | _ => fun _ _ _ _ _ => False
def pc_X10_valueOf (b : Nat) : Nat := match b with
  | 0 => 0
  | 1 => 4
  | 2 => 41
  | _ => 0
set_option maxRecDepth 100000 in
theorem sb_X10_valueOf_0 {p : Program} {l : Launch} {e : Env} {s : State} {m : MethodId} {args : Array Value} {below : List Frame} {meth : Method} {c : Code} {g : Gm} {h0 : Hp} {P : PT} {mc ms : Nat} (X : Cx g p s m args meth c (Adom h0 s.heap.size) cX10_valueOf RX10 4) (hr : meth.sig.returnType = some .int) (hn : meth.name = "valueOf") : SX g p l e s m args below meth c d_X10_valueOf 4 mc ms h0 P (bk_X10_valueOf_0 l g (fun b => GX g p l e s m args below meth c d_X10_valueOf 4 mc ms h0 P (pc_X10_valueOf b)) P) 0 := (s_iconst X dX10_valueOf_0 rfl (s_istore_n X dX10_valueOf_1 rfl (by decide) (s_iconst X dX10_valueOf_2 rfl (s_istore_n X dX10_valueOf_3 rfl (by decide) Sd.rf))))
set_option maxRecDepth 100000 in
theorem sb_X10_valueOf_1 {p : Program} {l : Launch} {e : Env} {s : State} {m : MethodId} {args : Array Value} {below : List Frame} {meth : Method} {c : Code} {g : Gm} {h0 : Hp} {P : PT} {mc ms : Nat} (X : Cx g p s m args meth c (Adom h0 s.heap.size) cX10_valueOf RX10 4) (hr : meth.sig.returnType = some .int) (hn : meth.name = "valueOf") : SX g p l e s m args below meth c d_X10_valueOf 4 mc ms h0 P (bk_X10_valueOf_1 l g (fun b => GX g p l e s m args below meth c d_X10_valueOf 4 mc ms h0 P (pc_X10_valueOf b)) P) 4 := (s_iload_n X dX10_valueOf_4 rfl (s_aload_n X dX10_valueOf_5 rfl (s_get X dX10_valueOf_6 (mcn (⟨_, _, _, _, rfl, inU_X10, by decide, uw_730, rfl⟩) (mnl)) (s_iload_n X dX10_valueOf_9 rfl (s_iaload X dX10_valueOf_10 (s_icmp_ge X dX10_valueOf_11 (by decide) (s_iload_n X dX10_valueOf_48 rfl (s_iret X hr dX10_valueOf_49)) (s_aload_n X dX10_valueOf_14 rfl (s_get X dX10_valueOf_15 (mcn (⟨_, _, _, _, rfl, inU_X10, by decide, uw_717, rfl⟩) (mnl)) (s_iconst X dX10_valueOf_18 rfl (s_iload_n X dX10_valueOf_19 rfl (s_imul X dX10_valueOf_20 (s_iload_n X dX10_valueOf_21 rfl (s_iadd X dX10_valueOf_22 (s_iaload X dX10_valueOf_23 (s_if_ne X dX10_valueOf_24 (by decide) (s_iload_n X dX10_valueOf_40 rfl Sd.rf) (s_aload_n X dX10_valueOf_27 rfl (s_get X dX10_valueOf_28 (mcn (⟨_, _, _, _, rfl, inU_X10, by decide, uw_718, rfl⟩) (mnl)) (s_iconst X dX10_valueOf_31 rfl (s_iload_n X dX10_valueOf_32 rfl (s_imul X dX10_valueOf_33 (s_iload_n X dX10_valueOf_34 rfl (s_iadd X dX10_valueOf_35 (s_iaload X dX10_valueOf_36 (s_goto X dX10_valueOf_37 (by decide) Sd.rf))))))))))))))))))))))))
set_option maxRecDepth 100000 in
theorem sb_X10_valueOf_2 {p : Program} {l : Launch} {e : Env} {s : State} {m : MethodId} {args : Array Value} {below : List Frame} {meth : Method} {c : Code} {g : Gm} {h0 : Hp} {P : PT} {mc ms : Nat} (X : Cx g p s m args meth c (Adom h0 s.heap.size) cX10_valueOf RX10 4) (hr : meth.sig.returnType = some .int) (hn : meth.name = "valueOf") : SX g p l e s m args below meth c d_X10_valueOf 4 mc ms h0 P (bk_X10_valueOf_2 l g (fun b => GX g p l e s m args below meth c d_X10_valueOf 4 mc ms h0 P (pc_X10_valueOf b)) P) 41 := (s_istore_n X dX10_valueOf_41 rfl (by decide) (s_iinc X dX10_valueOf_42 rfl (by decide) (s_goto X dX10_valueOf_45 (by decide) Sd.rf)))
set_option maxRecDepth 100000 in
theorem vc_X10_valueOf {l : Launch} {g : Gm} {a0 : Nat} {a1 : Int32} {h : Hp} {mc ms : Nat} {P : PT} (H : ∀ G : Nat → CT, (∀ (b : Nat) (h : Hp) (cb sb : Nat) (ls : LocS) (st : List Value), bk_X10_valueOf l g b G P h cb sb ls st → G b h cb sb ls st) → G 0 h mc ms [some (.ref a0), some (.int a1), none, none] []) : Run l g d_X10_valueOf [.ref a0, .int a1] h mc ms P :=
  Run.of (d := d_X10_valueOf) (by decide) (mcn rfl (mcn rfl (mnl))) (Nat.le_of_ble_eq_true rfl) (fun p e s m args below meth c X hr hn => H (fun b => GX g p l e s m args below meth c d_X10_valueOf 4 mc ms h P (pc_X10_valueOf b)) (fun b h1 cb sb ls st hb => match b, hb with
    | 0, hb => sb_X10_valueOf_0 (p := p) (e := e) (below := below) X hr hn h1 cb sb ls st hb
    | 1, hb => sb_X10_valueOf_1 (p := p) (e := e) (below := below) X hr hn h1 cb sb ls st hb
    | 2, hb => sb_X10_valueOf_2 (p := p) (e := e) (below := below) X hr hn h1 cb sb ls st hb
    | _ + 3, hb => hb.elim))
theorem dX10_worthOf_0 : decode cX10_worthOf 0 = .ok (.aload_n 0, 1) := by decide +kernel
theorem dX10_worthOf_1 : decode cX10_worthOf 1 = .ok (.iload_n 1, 1) := by decide +kernel
theorem dX10_worthOf_2 : decode cX10_worthOf 2 = .ok (.invokevirtual 152, 3) := by decide +kernel
theorem dX10_worthOf_5 : decode cX10_worthOf 5 = .ok (.istore_n 2, 1) := by decide +kernel
theorem dX10_worthOf_6 : decode cX10_worthOf 6 = .ok (.aload_n 0, 1) := by decide +kernel
theorem dX10_worthOf_7 : decode cX10_worthOf 7 = .ok (.getfield 19, 3) := by decide +kernel
theorem dX10_worthOf_10 : decode cX10_worthOf 10 = .ok (.iload_n 1, 1) := by decide +kernel
theorem dX10_worthOf_11 : decode cX10_worthOf 11 = .ok (.iaload, 1) := by decide +kernel
theorem dX10_worthOf_12 : decode cX10_worthOf 12 = .ok (.ifCond .ne 7, 3) := by decide +kernel
theorem dX10_worthOf_15 : decode cX10_worthOf 15 = .ok (.iload_n 2, 1) := by decide +kernel
theorem dX10_worthOf_16 : decode cX10_worthOf 16 = .ok (.goto 22, 3) := by decide +kernel
theorem dX10_worthOf_19 : decode cX10_worthOf 19 = .ok (.aload_n 0, 1) := by decide +kernel
theorem dX10_worthOf_20 : decode cX10_worthOf 20 = .ok (.getfield 19, 3) := by decide +kernel
theorem dX10_worthOf_23 : decode cX10_worthOf 23 = .ok (.iload_n 1, 1) := by decide +kernel
theorem dX10_worthOf_24 : decode cX10_worthOf 24 = .ok (.iaload, 1) := by decide +kernel
theorem dX10_worthOf_25 : decode cX10_worthOf 25 = .ok (.iconst 1, 1) := by decide +kernel
theorem dX10_worthOf_26 : decode cX10_worthOf 26 = .ok (.if_icmp .ne 9, 3) := by decide +kernel
theorem dX10_worthOf_29 : decode cX10_worthOf 29 = .ok (.iload_n 2, 1) := by decide +kernel
theorem dX10_worthOf_30 : decode cX10_worthOf 30 = .ok (.iconst 1, 1) := by decide +kernel
theorem dX10_worthOf_31 : decode cX10_worthOf 31 = .ok (.iadd, 1) := by decide +kernel
theorem dX10_worthOf_32 : decode cX10_worthOf 32 = .ok (.goto 6, 3) := by decide +kernel
theorem dX10_worthOf_35 : decode cX10_worthOf 35 = .ok (.iconst 2, 1) := by decide +kernel
theorem dX10_worthOf_36 : decode cX10_worthOf 36 = .ok (.iload_n 2, 1) := by decide +kernel
theorem dX10_worthOf_37 : decode cX10_worthOf 37 = .ok (.imul, 1) := by decide +kernel
theorem dX10_worthOf_38 : decode cX10_worthOf 38 = .ok (.ireturn, 1) := by decide +kernel
def bk_X10_worthOf_0 (l : Launch) (g : Gm) (G : Nat → CT) (P : PT) : CT := (oALd 0 (oILd 1 (oCallV l g [(10, d_X10_valueOf)] 2 (oISt 2 (oALd 0 (oGet [10] 6 (oILd 1 (oIAL g (oIf (fun x => x = 0) (oILd 2 (oGo (oIRet P))) (oALd 0 (oGet [10] 6 (oILd 1 (oIAL g (oPush (.int (1)) (oCmp (fun x y => x = y) (oILd 2 (oPush (.int (1)) (oBin (fun x y => x + y) (oGo (oIRet P))))) (oPush (.int (2)) (oILd 2 (oBin (fun x y => x * y) (oIRet P)))))))))))))))))))
def bk_X10_worthOf (l : Launch) (g : Gm) (b : Nat) (G : Nat → CT) (P : PT) : CT := match b with
  | 0 => bk_X10_worthOf_0 l g G P
  | _ => fun _ _ _ _ _ => False
def pc_X10_worthOf (b : Nat) : Nat := match b with
  | 0 => 0
  | _ => 0
set_option maxRecDepth 100000 in
theorem sb_X10_worthOf_0 {p : Program} {l : Launch} {e : Env} {s : State} {m : MethodId} {args : Array Value} {below : List Frame} {meth : Method} {c : Code} {g : Gm} {h0 : Hp} {P : PT} {mc ms : Nat} (X : Cx g p s m args meth c (Adom h0 s.heap.size) cX10_worthOf RX10 3) (hr : meth.sig.returnType = some .int) (hn : meth.name = "worthOf") : SX g p l e s m args below meth c d_X10_worthOf 3 mc ms h0 P (bk_X10_worthOf_0 l g (fun b => GX g p l e s m args below meth c d_X10_worthOf 3 mc ms h0 P (pc_X10_worthOf b)) P) 0 := (s_aload_n X dX10_worthOf_0 rfl (s_iload_n X dX10_worthOf_1 rfl (s_callV X dX10_worthOf_2 (mv (vok_V X rfl uw_872 uw_874 (UW_pr 32 rfl rfl) uw_7 ci_X10_valueOf yok_X10_valueOf ⟨Nat.le_of_ble_eq_true rfl, Nat.le_of_ble_eq_true rfl⟩) mv0) (s_istore_n X dX10_worthOf_5 rfl (by decide) (s_aload_n X dX10_worthOf_6 rfl (s_get X dX10_worthOf_7 (mcn (⟨_, _, _, _, rfl, inU_X10, by decide, uw_715, rfl⟩) (mnl)) (s_iload_n X dX10_worthOf_10 rfl (s_iaload X dX10_worthOf_11 (s_if_ne X dX10_worthOf_12 (by decide) (s_aload_n X dX10_worthOf_19 rfl (s_get X dX10_worthOf_20 (mcn (⟨_, _, _, _, rfl, inU_X10, by decide, uw_715, rfl⟩) (mnl)) (s_iload_n X dX10_worthOf_23 rfl (s_iaload X dX10_worthOf_24 (s_iconst X dX10_worthOf_25 rfl (s_icmp_ne X dX10_worthOf_26 (by decide) (s_iconst X dX10_worthOf_35 rfl (s_iload_n X dX10_worthOf_36 rfl (s_imul X dX10_worthOf_37 (s_iret X hr dX10_worthOf_38)))) (s_iload_n X dX10_worthOf_29 rfl (s_iconst X dX10_worthOf_30 rfl (s_iadd X dX10_worthOf_31 (s_goto X dX10_worthOf_32 (by decide) (s_iret X hr dX10_worthOf_38))))))))))) (s_iload_n X dX10_worthOf_15 rfl (s_goto X dX10_worthOf_16 (by decide) (s_iret X hr dX10_worthOf_38))))))))))))
set_option maxRecDepth 100000 in
theorem vc_X10_worthOf {l : Launch} {g : Gm} {a0 : Nat} {a1 : Int32} {h : Hp} {mc ms : Nat} {P : PT} (H : ∀ G : Nat → CT, (∀ (b : Nat) (h : Hp) (cb sb : Nat) (ls : LocS) (st : List Value), bk_X10_worthOf l g b G P h cb sb ls st → G b h cb sb ls st) → G 0 h mc ms [some (.ref a0), some (.int a1), none] []) : Run l g d_X10_worthOf [.ref a0, .int a1] h mc ms P :=
  Run.of (d := d_X10_worthOf) (by decide) (mcn rfl (mcn rfl (mnl))) (Nat.le_of_ble_eq_true rfl) (fun p e s m args below meth c X hr hn => H (fun b => GX g p l e s m args below meth c d_X10_worthOf 3 mc ms h P (pc_X10_worthOf b)) (fun b h1 cb sb ls st hb => match b, hb with
    | 0, hb => sb_X10_worthOf_0 (p := p) (e := e) (below := below) X hr hn h1 cb sb ls st hb
    | _ + 1, hb => hb.elim))
theorem dX10_sumOf_0 : decode cX10_sumOf 0 = .ok (.iconst 0, 1) := by decide +kernel
theorem dX10_sumOf_1 : decode cX10_sumOf 1 = .ok (.istore_n 1, 1) := by decide +kernel
theorem dX10_sumOf_2 : decode cX10_sumOf 2 = .ok (.iconst 0, 1) := by decide +kernel
theorem dX10_sumOf_3 : decode cX10_sumOf 3 = .ok (.istore_n 2, 1) := by decide +kernel
theorem dX10_sumOf_4 : decode cX10_sumOf 4 = .ok (.iload_n 2, 1) := by decide +kernel
theorem dX10_sumOf_5 : decode cX10_sumOf 5 = .ok (.aload_n 0, 1) := by decide +kernel
theorem dX10_sumOf_6 : decode cX10_sumOf 6 = .ok (.getfield 81, 3) := by decide +kernel
theorem dX10_sumOf_9 : decode cX10_sumOf 9 = .ok (.if_icmp .ge 17, 3) := by decide +kernel
theorem dX10_sumOf_12 : decode cX10_sumOf 12 = .ok (.iload_n 1, 1) := by decide +kernel
theorem dX10_sumOf_13 : decode cX10_sumOf 13 = .ok (.aload_n 0, 1) := by decide +kernel
theorem dX10_sumOf_14 : decode cX10_sumOf 14 = .ok (.iload_n 2, 1) := by decide +kernel
theorem dX10_sumOf_15 : decode cX10_sumOf 15 = .ok (.invokevirtual 155, 3) := by decide +kernel
theorem dX10_sumOf_18 : decode cX10_sumOf 18 = .ok (.iadd, 1) := by decide +kernel
theorem dX10_sumOf_19 : decode cX10_sumOf 19 = .ok (.istore_n 1, 1) := by decide +kernel
theorem dX10_sumOf_20 : decode cX10_sumOf 20 = .ok (.iinc 2 1, 3) := by decide +kernel
theorem dX10_sumOf_23 : decode cX10_sumOf 23 = .ok (.goto (-19), 3) := by decide +kernel
theorem dX10_sumOf_26 : decode cX10_sumOf 26 = .ok (.iload_n 1, 1) := by decide +kernel
theorem dX10_sumOf_27 : decode cX10_sumOf 27 = .ok (.ireturn, 1) := by decide +kernel
def bk_X10_sumOf_0 (l : Launch) (g : Gm) (G : Nat → CT) (P : PT) : CT := (oPush (.int (0)) (oISt 1 (oPush (.int (0)) (oISt 2 (G 1)))))
def bk_X10_sumOf_1 (l : Launch) (g : Gm) (G : Nat → CT) (P : PT) : CT := (oILd 2 (oALd 0 (oGet [10] 5 (oCmp (fun x y => y ≤ x) (oILd 1 (oIRet P)) (oILd 1 (oALd 0 (oILd 2 (oCallV l g [(10, d_X10_worthOf)] 2 (oBin (fun x y => x + y) (oISt 1 (oInc 2 (1) (oGo (G 1)))))))))))))
def bk_X10_sumOf (l : Launch) (g : Gm) (b : Nat) (G : Nat → CT) (P : PT) : CT := match b with
  | 0 => bk_X10_sumOf_0 l g G P
  | 1 => bk_X10_sumOf_1 l g G P
  | _ => fun _ _ _ _ _ => False
def pc_X10_sumOf (b : Nat) : Nat := match b with
  | 0 => 0
  | 1 => 4
  | _ => 0
set_option maxRecDepth 100000 in
theorem sb_X10_sumOf_0 {p : Program} {l : Launch} {e : Env} {s : State} {m : MethodId} {args : Array Value} {below : List Frame} {meth : Method} {c : Code} {g : Gm} {h0 : Hp} {P : PT} {mc ms : Nat} (X : Cx g p s m args meth c (Adom h0 s.heap.size) cX10_sumOf RX10 3) (hr : meth.sig.returnType = some .int) (hn : meth.name = "sumOf") : SX g p l e s m args below meth c d_X10_sumOf 3 mc ms h0 P (bk_X10_sumOf_0 l g (fun b => GX g p l e s m args below meth c d_X10_sumOf 3 mc ms h0 P (pc_X10_sumOf b)) P) 0 := (s_iconst X dX10_sumOf_0 rfl (s_istore_n X dX10_sumOf_1 rfl (by decide) (s_iconst X dX10_sumOf_2 rfl (s_istore_n X dX10_sumOf_3 rfl (by decide) Sd.rf))))
set_option maxRecDepth 100000 in
theorem sb_X10_sumOf_1 {p : Program} {l : Launch} {e : Env} {s : State} {m : MethodId} {args : Array Value} {below : List Frame} {meth : Method} {c : Code} {g : Gm} {h0 : Hp} {P : PT} {mc ms : Nat} (X : Cx g p s m args meth c (Adom h0 s.heap.size) cX10_sumOf RX10 3) (hr : meth.sig.returnType = some .int) (hn : meth.name = "sumOf") : SX g p l e s m args below meth c d_X10_sumOf 3 mc ms h0 P (bk_X10_sumOf_1 l g (fun b => GX g p l e s m args below meth c d_X10_sumOf 3 mc ms h0 P (pc_X10_sumOf b)) P) 4 := (s_iload_n X dX10_sumOf_4 rfl (s_aload_n X dX10_sumOf_5 rfl (s_get X dX10_sumOf_6 (mcn (⟨_, _, _, _, rfl, inU_X10, by decide, uw_714, rfl⟩) (mnl)) (s_icmp_ge X dX10_sumOf_9 (by decide) (s_iload_n X dX10_sumOf_26 rfl (s_iret X hr dX10_sumOf_27)) (s_iload_n X dX10_sumOf_12 rfl (s_aload_n X dX10_sumOf_13 rfl (s_iload_n X dX10_sumOf_14 rfl (s_callV X dX10_sumOf_15 (mv (vok_V X rfl uw_876 uw_878 (UW_pr 33 rfl rfl) uw_7 ci_X10_worthOf yok_X10_worthOf ⟨Nat.le_of_ble_eq_true rfl, Nat.le_of_ble_eq_true rfl⟩) mv0) (s_iadd X dX10_sumOf_18 (s_istore_n X dX10_sumOf_19 rfl (by decide) (s_iinc X dX10_sumOf_20 rfl (by decide) (s_goto X dX10_sumOf_23 (by decide) Sd.rf))))))))))))
set_option maxRecDepth 100000 in
theorem vc_X10_sumOf {l : Launch} {g : Gm} {a0 : Nat} {h : Hp} {mc ms : Nat} {P : PT} (H : ∀ G : Nat → CT, (∀ (b : Nat) (h : Hp) (cb sb : Nat) (ls : LocS) (st : List Value), bk_X10_sumOf l g b G P h cb sb ls st → G b h cb sb ls st) → G 0 h mc ms [some (.ref a0), none, none] []) : Run l g d_X10_sumOf [.ref a0] h mc ms P :=
  Run.of (d := d_X10_sumOf) (by decide) (mcn rfl (mnl)) (Nat.le_of_ble_eq_true rfl) (fun p e s m args below meth c X hr hn => H (fun b => GX g p l e s m args below meth c d_X10_sumOf 3 mc ms h P (pc_X10_sumOf b)) (fun b h1 cb sb ls st hb => match b, hb with
    | 0, hb => sb_X10_sumOf_0 (p := p) (e := e) (below := below) X hr hn h1 cb sb ls st hb
    | 1, hb => sb_X10_sumOf_1 (p := p) (e := e) (below := below) X hr hn h1 cb sb ls st hb
    | _ + 2, hb => hb.elim))
theorem dX10_lettersBy_0 : decode cX10_lettersBy 0 = .ok (.iconst 0, 1) := by decide +kernel
theorem dX10_lettersBy_1 : decode cX10_lettersBy 1 = .ok (.istore_n 2, 1) := by decide +kernel
theorem dX10_lettersBy_2 : decode cX10_lettersBy 2 = .ok (.iconst 0, 1) := by decide +kernel
theorem dX10_lettersBy_3 : decode cX10_lettersBy 3 = .ok (.istore_n 3, 1) := by decide +kernel
theorem dX10_lettersBy_4 : decode cX10_lettersBy 4 = .ok (.iload_n 3, 1) := by decide +kernel
theorem dX10_lettersBy_5 : decode cX10_lettersBy 5 = .ok (.aload_n 0, 1) := by decide +kernel
theorem dX10_lettersBy_6 : decode cX10_lettersBy 6 = .ok (.getfield 81, 3) := by decide +kernel
theorem dX10_lettersBy_9 : decode cX10_lettersBy 9 = .ok (.if_icmp .ge 64, 3) := by decide +kernel
theorem dX10_lettersBy_12 : decode cX10_lettersBy 12 = .ok (.iconst 0, 1) := by decide +kernel
theorem dX10_lettersBy_13 : decode cX10_lettersBy 13 = .ok (.istore 4, 2) := by decide +kernel
theorem dX10_lettersBy_15 : decode cX10_lettersBy 15 = .ok (.iload 4, 2) := by decide +kernel
theorem dX10_lettersBy_17 : decode cX10_lettersBy 17 = .ok (.aload_n 0, 1) := by decide +kernel
theorem dX10_lettersBy_18 : decode cX10_lettersBy 18 = .ok (.getfield 58, 3) := by decide +kernel
theorem dX10_lettersBy_21 : decode cX10_lettersBy 21 = .ok (.iload_n 3, 1) := by decide +kernel
theorem dX10_lettersBy_22 : decode cX10_lettersBy 22 = .ok (.iaload, 1) := by decide +kernel
theorem dX10_lettersBy_23 : decode cX10_lettersBy 23 = .ok (.if_icmp .ge 44, 3) := by decide +kernel
theorem dX10_lettersBy_26 : decode cX10_lettersBy 26 = .ok (.iload_n 2, 1) := by decide +kernel
theorem dX10_lettersBy_27 : decode cX10_lettersBy 27 = .ok (.aload_n 0, 1) := by decide +kernel
theorem dX10_lettersBy_28 : decode cX10_lettersBy 28 = .ok (.getfield 25, 3) := by decide +kernel
theorem dX10_lettersBy_31 : decode cX10_lettersBy 31 = .ok (.iconst 5, 1) := by decide +kernel
theorem dX10_lettersBy_32 : decode cX10_lettersBy 32 = .ok (.iload_n 3, 1) := by decide +kernel
theorem dX10_lettersBy_33 : decode cX10_lettersBy 33 = .ok (.imul, 1) := by decide +kernel
theorem dX10_lettersBy_34 : decode cX10_lettersBy 34 = .ok (.iload 4, 2) := by decide +kernel
theorem dX10_lettersBy_36 : decode cX10_lettersBy 36 = .ok (.iadd, 1) := by decide +kernel
theorem dX10_lettersBy_37 : decode cX10_lettersBy 37 = .ok (.iaload, 1) := by decide +kernel
theorem dX10_lettersBy_38 : decode cX10_lettersBy 38 = .ok (.iload_n 1, 1) := by decide +kernel
theorem dX10_lettersBy_39 : decode cX10_lettersBy 39 = .ok (.if_icmp .ne 19, 3) := by decide +kernel
theorem dX10_lettersBy_42 : decode cX10_lettersBy 42 = .ok (.iconst 1, 1) := by decide +kernel
theorem dX10_lettersBy_43 : decode cX10_lettersBy 43 = .ok (.aload_n 0, 1) := by decide +kernel
theorem dX10_lettersBy_44 : decode cX10_lettersBy 44 = .ok (.getfield 28, 3) := by decide +kernel
theorem dX10_lettersBy_47 : decode cX10_lettersBy 47 = .ok (.iconst 5, 1) := by decide +kernel
theorem dX10_lettersBy_48 : decode cX10_lettersBy 48 = .ok (.iload_n 3, 1) := by decide +kernel
theorem dX10_lettersBy_49 : decode cX10_lettersBy 49 = .ok (.imul, 1) := by decide +kernel
theorem dX10_lettersBy_50 : decode cX10_lettersBy 50 = .ok (.iload 4, 2) := by decide +kernel
theorem dX10_lettersBy_52 : decode cX10_lettersBy 52 = .ok (.iadd, 1) := by decide +kernel
theorem dX10_lettersBy_53 : decode cX10_lettersBy 53 = .ok (.iaload, 1) := by decide +kernel
theorem dX10_lettersBy_54 : decode cX10_lettersBy 54 = .ok (.ishl, 1) := by decide +kernel
theorem dX10_lettersBy_55 : decode cX10_lettersBy 55 = .ok (.goto 4, 3) := by decide +kernel
theorem dX10_lettersBy_58 : decode cX10_lettersBy 58 = .ok (.iconst 0, 1) := by decide +kernel
theorem dX10_lettersBy_59 : decode cX10_lettersBy 59 = .ok (.ior, 1) := by decide +kernel
theorem dX10_lettersBy_60 : decode cX10_lettersBy 60 = .ok (.istore_n 2, 1) := by decide +kernel
theorem dX10_lettersBy_61 : decode cX10_lettersBy 61 = .ok (.iinc 4 1, 3) := by decide +kernel
theorem dX10_lettersBy_64 : decode cX10_lettersBy 64 = .ok (.goto (-49), 3) := by decide +kernel
theorem dX10_lettersBy_67 : decode cX10_lettersBy 67 = .ok (.iinc 3 1, 3) := by decide +kernel
theorem dX10_lettersBy_70 : decode cX10_lettersBy 70 = .ok (.goto (-66), 3) := by decide +kernel
theorem dX10_lettersBy_73 : decode cX10_lettersBy 73 = .ok (.iload_n 2, 1) := by decide +kernel
theorem dX10_lettersBy_74 : decode cX10_lettersBy 74 = .ok (.ireturn, 1) := by decide +kernel
def bk_X10_lettersBy_0 (l : Launch) (g : Gm) (G : Nat → CT) (P : PT) : CT := (oPush (.int (0)) (oISt 2 (oPush (.int (0)) (oISt 3 (G 1)))))
def bk_X10_lettersBy_1 (l : Launch) (g : Gm) (G : Nat → CT) (P : PT) : CT := (oILd 3 (oALd 0 (oGet [10] 5 (oCmp (fun x y => y ≤ x) (oILd 2 (oIRet P)) (oPush (.int (0)) (oISt 4 (G 2)))))))
def bk_X10_lettersBy_2 (l : Launch) (g : Gm) (G : Nat → CT) (P : PT) : CT := (oILd 4 (oALd 0 (oGet [10] 21 (oILd 3 (oIAL g (oCmp (fun x y => y ≤ x) (oInc 3 (1) (oGo (G 1))) (oILd 2 (oALd 0 (oGet [10] 8 (oPush (.int (5)) (oILd 3 (oBin (fun x y => x * y) (oILd 4 (oBin (fun x y => x + y) (oIAL g (oILd 1 (oCmp (fun x y => x = y) (oPush (.int (1)) (oALd 0 (oGet [10] 9 (oPush (.int (5)) (oILd 3 (oBin (fun x y => x * y) (oILd 4 (oBin (fun x y => x + y) (oIAL g (oBin (fun x y => x <<< (y &&& 31)) (oGo (G 3)))))))))))) (oPush (.int (0)) (G 3)))))))))))))))))))
def bk_X10_lettersBy_3 (l : Launch) (g : Gm) (G : Nat → CT) (P : PT) : CT := (oBin (fun x y => x ||| y) (oISt 2 (oInc 4 (1) (oGo (G 2)))))
def bk_X10_lettersBy (l : Launch) (g : Gm) (b : Nat) (G : Nat → CT) (P : PT) : CT := match b with
  | 0 => bk_X10_lettersBy_0 l g G P
  | 1 => bk_X10_lettersBy_1 l g G P
  | 2 => bk_X10_lettersBy_2 l g G P
  | 3 => bk_X10_lettersBy_3 l g G P
  | _ => fun _ _ _ _ _ => False
def pc_X10_lettersBy (b : Nat) : Nat := match b with
  | 0 => 0
  | 1 => 4
  | 2 => 15
  | 3 => 59
  | _ => 0
set_option maxRecDepth 100000 in
theorem sb_X10_lettersBy_0 {p : Program} {l : Launch} {e : Env} {s : State} {m : MethodId} {args : Array Value} {below : List Frame} {meth : Method} {c : Code} {g : Gm} {h0 : Hp} {P : PT} {mc ms : Nat} (X : Cx g p s m args meth c (Adom h0 s.heap.size) cX10_lettersBy RX10 5) (hr : meth.sig.returnType = some .int) (hn : meth.name = "lettersBy") : SX g p l e s m args below meth c d_X10_lettersBy 5 mc ms h0 P (bk_X10_lettersBy_0 l g (fun b => GX g p l e s m args below meth c d_X10_lettersBy 5 mc ms h0 P (pc_X10_lettersBy b)) P) 0 := (s_iconst X dX10_lettersBy_0 rfl (s_istore_n X dX10_lettersBy_1 rfl (by decide) (s_iconst X dX10_lettersBy_2 rfl (s_istore_n X dX10_lettersBy_3 rfl (by decide) Sd.rf))))
set_option maxRecDepth 100000 in
theorem sb_X10_lettersBy_1 {p : Program} {l : Launch} {e : Env} {s : State} {m : MethodId} {args : Array Value} {below : List Frame} {meth : Method} {c : Code} {g : Gm} {h0 : Hp} {P : PT} {mc ms : Nat} (X : Cx g p s m args meth c (Adom h0 s.heap.size) cX10_lettersBy RX10 5) (hr : meth.sig.returnType = some .int) (hn : meth.name = "lettersBy") : SX g p l e s m args below meth c d_X10_lettersBy 5 mc ms h0 P (bk_X10_lettersBy_1 l g (fun b => GX g p l e s m args below meth c d_X10_lettersBy 5 mc ms h0 P (pc_X10_lettersBy b)) P) 4 := (s_iload_n X dX10_lettersBy_4 rfl (s_aload_n X dX10_lettersBy_5 rfl (s_get X dX10_lettersBy_6 (mcn (⟨_, _, _, _, rfl, inU_X10, by decide, uw_714, rfl⟩) (mnl)) (s_icmp_ge X dX10_lettersBy_9 (by decide) (s_iload_n X dX10_lettersBy_73 rfl (s_iret X hr dX10_lettersBy_74)) (s_iconst X dX10_lettersBy_12 rfl (s_istore X dX10_lettersBy_13 (by decide) Sd.rf))))))
set_option maxRecDepth 100000 in
theorem sb_X10_lettersBy_2 {p : Program} {l : Launch} {e : Env} {s : State} {m : MethodId} {args : Array Value} {below : List Frame} {meth : Method} {c : Code} {g : Gm} {h0 : Hp} {P : PT} {mc ms : Nat} (X : Cx g p s m args meth c (Adom h0 s.heap.size) cX10_lettersBy RX10 5) (hr : meth.sig.returnType = some .int) (hn : meth.name = "lettersBy") : SX g p l e s m args below meth c d_X10_lettersBy 5 mc ms h0 P (bk_X10_lettersBy_2 l g (fun b => GX g p l e s m args below meth c d_X10_lettersBy 5 mc ms h0 P (pc_X10_lettersBy b)) P) 15 := (s_iload X dX10_lettersBy_15 (s_aload_n X dX10_lettersBy_17 rfl (s_get X dX10_lettersBy_18 (mcn (⟨_, _, _, _, rfl, inU_X10, by decide, uw_730, rfl⟩) (mnl)) (s_iload_n X dX10_lettersBy_21 rfl (s_iaload X dX10_lettersBy_22 (s_icmp_ge X dX10_lettersBy_23 (by decide) (s_iinc X dX10_lettersBy_67 rfl (by decide) (s_goto X dX10_lettersBy_70 (by decide) Sd.rf)) (s_iload_n X dX10_lettersBy_26 rfl (s_aload_n X dX10_lettersBy_27 rfl (s_get X dX10_lettersBy_28 (mcn (⟨_, _, _, _, rfl, inU_X10, by decide, uw_717, rfl⟩) (mnl)) (s_iconst X dX10_lettersBy_31 rfl (s_iload_n X dX10_lettersBy_32 rfl (s_imul X dX10_lettersBy_33 (s_iload X dX10_lettersBy_34 (s_iadd X dX10_lettersBy_36 (s_iaload X dX10_lettersBy_37 (s_iload_n X dX10_lettersBy_38 rfl (s_icmp_ne X dX10_lettersBy_39 (by decide) (s_iconst X dX10_lettersBy_58 rfl Sd.rf) (s_iconst X dX10_lettersBy_42 rfl (s_aload_n X dX10_lettersBy_43 rfl (s_get X dX10_lettersBy_44 (mcn (⟨_, _, _, _, rfl, inU_X10, by decide, uw_718, rfl⟩) (mnl)) (s_iconst X dX10_lettersBy_47 rfl (s_iload_n X dX10_lettersBy_48 rfl (s_imul X dX10_lettersBy_49 (s_iload X dX10_lettersBy_50 (s_iadd X dX10_lettersBy_52 (s_iaload X dX10_lettersBy_53 (s_ishl X dX10_lettersBy_54 (s_goto X dX10_lettersBy_55 (by decide) Sd.rf))))))))))))))))))))))))))))
set_option maxRecDepth 100000 in
theorem sb_X10_lettersBy_3 {p : Program} {l : Launch} {e : Env} {s : State} {m : MethodId} {args : Array Value} {below : List Frame} {meth : Method} {c : Code} {g : Gm} {h0 : Hp} {P : PT} {mc ms : Nat} (X : Cx g p s m args meth c (Adom h0 s.heap.size) cX10_lettersBy RX10 5) (hr : meth.sig.returnType = some .int) (hn : meth.name = "lettersBy") : SX g p l e s m args below meth c d_X10_lettersBy 5 mc ms h0 P (bk_X10_lettersBy_3 l g (fun b => GX g p l e s m args below meth c d_X10_lettersBy 5 mc ms h0 P (pc_X10_lettersBy b)) P) 59 := (s_ior X dX10_lettersBy_59 (s_istore_n X dX10_lettersBy_60 rfl (by decide) (s_iinc X dX10_lettersBy_61 rfl (by decide) (s_goto X dX10_lettersBy_64 (by decide) Sd.rf))))
set_option maxRecDepth 100000 in
theorem vc_X10_lettersBy {l : Launch} {g : Gm} {a0 : Nat} {a1 : Int32} {h : Hp} {mc ms : Nat} {P : PT} (H : ∀ G : Nat → CT, (∀ (b : Nat) (h : Hp) (cb sb : Nat) (ls : LocS) (st : List Value), bk_X10_lettersBy l g b G P h cb sb ls st → G b h cb sb ls st) → G 0 h mc ms [some (.ref a0), some (.int a1), none, none, none] []) : Run l g d_X10_lettersBy [.ref a0, .int a1] h mc ms P :=
  Run.of (d := d_X10_lettersBy) (by decide) (mcn rfl (mcn rfl (mnl))) (Nat.le_of_ble_eq_true rfl) (fun p e s m args below meth c X hr hn => H (fun b => GX g p l e s m args below meth c d_X10_lettersBy 5 mc ms h P (pc_X10_lettersBy b)) (fun b h1 cb sb ls st hb => match b, hb with
    | 0, hb => sb_X10_lettersBy_0 (p := p) (e := e) (below := below) X hr hn h1 cb sb ls st hb
    | 1, hb => sb_X10_lettersBy_1 (p := p) (e := e) (below := below) X hr hn h1 cb sb ls st hb
    | 2, hb => sb_X10_lettersBy_2 (p := p) (e := e) (below := below) X hr hn h1 cb sb ls st hb
    | 3, hb => sb_X10_lettersBy_3 (p := p) (e := e) (below := below) X hr hn h1 cb sb ls st hb
    | _ + 4, hb => hb.elim))
theorem dX10_underWay_0 : decode cX10_underWay 0 = .ok (.aload_n 0, 1) := by decide +kernel
theorem dX10_underWay_1 : decode cX10_underWay 1 = .ok (.iconst 1, 1) := by decide +kernel
theorem dX10_underWay_2 : decode cX10_underWay 2 = .ok (.invokevirtual 158, 3) := by decide +kernel
theorem dX10_underWay_5 : decode cX10_underWay 5 = .ok (.aload_n 0, 1) := by decide +kernel
theorem dX10_underWay_6 : decode cX10_underWay 6 = .ok (.iconst 2, 1) := by decide +kernel
theorem dX10_underWay_7 : decode cX10_underWay 7 = .ok (.invokevirtual 158, 3) := by decide +kernel
theorem dX10_underWay_10 : decode cX10_underWay 10 = .ok (.iconst (-1), 1) := by decide +kernel
theorem dX10_underWay_11 : decode cX10_underWay 11 = .ok (.ixor, 1) := by decide +kernel
theorem dX10_underWay_12 : decode cX10_underWay 12 = .ok (.iand, 1) := by decide +kernel
theorem dX10_underWay_13 : decode cX10_underWay 13 = .ok (.ireturn, 1) := by decide +kernel
def bk_X10_underWay_0 (l : Launch) (g : Gm) (G : Nat → CT) (P : PT) : CT := (oALd 0 (oPush (.int (1)) (oCallV l g [(10, d_X10_lettersBy)] 2 (oALd 0 (oPush (.int (2)) (oCallV l g [(10, d_X10_lettersBy)] 2 (oPush (.int (-1)) (oBin (fun x y => x ^^^ y) (oBin (fun x y => x &&& y) (oIRet P))))))))))
def bk_X10_underWay (l : Launch) (g : Gm) (b : Nat) (G : Nat → CT) (P : PT) : CT := match b with
  | 0 => bk_X10_underWay_0 l g G P
  | _ => fun _ _ _ _ _ => False
def pc_X10_underWay (b : Nat) : Nat := match b with
  | 0 => 0
  | _ => 0
set_option maxRecDepth 100000 in
theorem sb_X10_underWay_0 {p : Program} {l : Launch} {e : Env} {s : State} {m : MethodId} {args : Array Value} {below : List Frame} {meth : Method} {c : Code} {g : Gm} {h0 : Hp} {P : PT} {mc ms : Nat} (X : Cx g p s m args meth c (Adom h0 s.heap.size) cX10_underWay RX10 1) (hr : meth.sig.returnType = some .int) (hn : meth.name = "underWay") : SX g p l e s m args below meth c d_X10_underWay 1 mc ms h0 P (bk_X10_underWay_0 l g (fun b => GX g p l e s m args below meth c d_X10_underWay 1 mc ms h0 P (pc_X10_underWay b)) P) 0 := (s_aload_n X dX10_underWay_0 rfl (s_iconst X dX10_underWay_1 rfl (s_callV X dX10_underWay_2 (mv (vok_V X rfl uw_936 uw_938 (UW_pr 43 rfl rfl) uw_7 ci_X10_lettersBy yok_X10_lettersBy ⟨Nat.le_of_ble_eq_true rfl, Nat.le_of_ble_eq_true rfl⟩) mv0) (s_aload_n X dX10_underWay_5 rfl (s_iconst X dX10_underWay_6 rfl (s_callV X dX10_underWay_7 (mv (vok_V X rfl uw_936 uw_938 (UW_pr 43 rfl rfl) uw_7 ci_X10_lettersBy yok_X10_lettersBy ⟨Nat.le_of_ble_eq_true rfl, Nat.le_of_ble_eq_true rfl⟩) mv0) (s_iconst X dX10_underWay_10 rfl (s_ixor X dX10_underWay_11 (s_iand X dX10_underWay_12 (s_iret X hr dX10_underWay_13))))))))))
set_option maxRecDepth 100000 in
theorem vc_X10_underWay {l : Launch} {g : Gm} {a0 : Nat} {h : Hp} {mc ms : Nat} {P : PT} (H : ∀ G : Nat → CT, (∀ (b : Nat) (h : Hp) (cb sb : Nat) (ls : LocS) (st : List Value), bk_X10_underWay l g b G P h cb sb ls st → G b h cb sb ls st) → G 0 h mc ms [some (.ref a0)] []) : Run l g d_X10_underWay [.ref a0] h mc ms P :=
  Run.of (d := d_X10_underWay) (by decide) (mcn rfl (mnl)) (Nat.le_of_ble_eq_true rfl) (fun p e s m args below meth c X hr hn => H (fun b => GX g p l e s m args below meth c d_X10_underWay 1 mc ms h P (pc_X10_underWay b)) (fun b h1 cb sb ls st hb => match b, hb with
    | 0, hb => sb_X10_underWay_0 (p := p) (e := e) (below := below) X hr hn h1 cb sb ls st hb
    | _ + 1, hb => hb.elim))
theorem dX10_isReady_0 : decode cX10_isReady 0 = .ok (.aload_n 0, 1) := by decide +kernel
theorem dX10_isReady_1 : decode cX10_isReady 1 = .ok (.getfield 58, 3) := by decide +kernel
theorem dX10_isReady_4 : decode cX10_isReady 4 = .ok (.iload_n 1, 1) := by decide +kernel
theorem dX10_isReady_5 : decode cX10_isReady 5 = .ok (.iaload, 1) := by decide +kernel
theorem dX10_isReady_6 : decode cX10_isReady 6 = .ok (.aload_n 0, 1) := by decide +kernel
theorem dX10_isReady_7 : decode cX10_isReady 7 = .ok (.getfield 22, 3) := by decide +kernel
theorem dX10_isReady_10 : decode cX10_isReady 10 = .ok (.iload_n 1, 1) := by decide +kernel
theorem dX10_isReady_11 : decode cX10_isReady 11 = .ok (.iaload, 1) := by decide +kernel
theorem dX10_isReady_12 : decode cX10_isReady 12 = .ok (.if_icmp .lt 5, 3) := by decide +kernel
theorem dX10_isReady_15 : decode cX10_isReady 15 = .ok (.iconst 0, 1) := by decide +kernel
theorem dX10_isReady_16 : decode cX10_isReady 16 = .ok (.ireturn, 1) := by decide +kernel
theorem dX10_isReady_17 : decode cX10_isReady 17 = .ok (.iconst 0, 1) := by decide +kernel
theorem dX10_isReady_18 : decode cX10_isReady 18 = .ok (.istore_n 2, 1) := by decide +kernel
theorem dX10_isReady_19 : decode cX10_isReady 19 = .ok (.iload_n 2, 1) := by decide +kernel
theorem dX10_isReady_20 : decode cX10_isReady 20 = .ok (.aload_n 0, 1) := by decide +kernel
theorem dX10_isReady_21 : decode cX10_isReady 21 = .ok (.getfield 81, 3) := by decide +kernel
theorem dX10_isReady_24 : decode cX10_isReady 24 = .ok (.if_icmp .ge 32, 3) := by decide +kernel
theorem dX10_isReady_27 : decode cX10_isReady 27 = .ok (.aload_n 0, 1) := by decide +kernel
theorem dX10_isReady_28 : decode cX10_isReady 28 = .ok (.iload_n 1, 1) := by decide +kernel
theorem dX10_isReady_29 : decode cX10_isReady 29 = .ok (.aload_n 0, 1) := by decide +kernel
theorem dX10_isReady_30 : decode cX10_isReady 30 = .ok (.getfield 58, 3) := by decide +kernel
theorem dX10_isReady_33 : decode cX10_isReady 33 = .ok (.iload_n 1, 1) := by decide +kernel
theorem dX10_isReady_34 : decode cX10_isReady 34 = .ok (.iaload, 1) := by decide +kernel
theorem dX10_isReady_35 : decode cX10_isReady 35 = .ok (.iload_n 2, 1) := by decide +kernel
theorem dX10_isReady_36 : decode cX10_isReady 36 = .ok (.invokevirtual 161, 3) := by decide +kernel
theorem dX10_isReady_39 : decode cX10_isReady 39 = .ok (.aload_n 0, 1) := by decide +kernel
theorem dX10_isReady_40 : decode cX10_isReady 40 = .ok (.getfield 58, 3) := by decide +kernel
theorem dX10_isReady_43 : decode cX10_isReady 43 = .ok (.iload_n 2, 1) := by decide +kernel
theorem dX10_isReady_44 : decode cX10_isReady 44 = .ok (.iaload, 1) := by decide +kernel
theorem dX10_isReady_45 : decode cX10_isReady 45 = .ok (.if_icmp .le 5, 3) := by decide +kernel
theorem dX10_isReady_48 : decode cX10_isReady 48 = .ok (.iconst 0, 1) := by decide +kernel
theorem dX10_isReady_49 : decode cX10_isReady 49 = .ok (.ireturn, 1) := by decide +kernel
theorem dX10_isReady_50 : decode cX10_isReady 50 = .ok (.iinc 2 1, 3) := by decide +kernel
theorem dX10_isReady_53 : decode cX10_isReady 53 = .ok (.goto (-34), 3) := by decide +kernel
theorem dX10_isReady_56 : decode cX10_isReady 56 = .ok (.iconst 1, 1) := by decide +kernel
theorem dX10_isReady_57 : decode cX10_isReady 57 = .ok (.ireturn, 1) := by decide +kernel
def bk_X10_isReady_0 (l : Launch) (g : Gm) (G : Nat → CT) (P : PT) : CT := (oALd 0 (oGet [10] 21 (oILd 1 (oIAL g (oALd 0 (oGet [10] 7 (oILd 1 (oIAL g (oCmp (fun x y => x < y) (oPush (.int (0)) (oISt 2 (G 1))) (oPush (.int (0)) (oZRet P)))))))))))
def bk_X10_isReady_1 (l : Launch) (g : Gm) (G : Nat → CT) (P : PT) : CT := (oILd 2 (oALd 0 (oGet [10] 5 (oCmp (fun x y => y ≤ x) (oPush (.int (1)) (oZRet P)) (oALd 0 (oILd 1 (oALd 0 (oGet [10] 21 (oILd 1 (oIAL g (oILd 2 (oCallV l g [(10, d_X10_aheadOf)] 4 (oALd 0 (oGet [10] 21 (oILd 2 (oIAL g (oCmp (fun x y => x ≤ y) (oInc 2 (1) (oGo (G 1))) (oPush (.int (0)) (oZRet P)))))))))))))))))))
def bk_X10_isReady (l : Launch) (g : Gm) (b : Nat) (G : Nat → CT) (P : PT) : CT := match b with
  | 0 => bk_X10_isReady_0 l g G P
  | 1 => bk_X10_isReady_1 l g G P
  | _ => fun _ _ _ _ _ => False
def pc_X10_isReady (b : Nat) : Nat := match b with
  | 0 => 0
  | 1 => 19
  | _ => 0
set_option maxRecDepth 100000 in
theorem sb_X10_isReady_0 {p : Program} {l : Launch} {e : Env} {s : State} {m : MethodId} {args : Array Value} {below : List Frame} {meth : Method} {c : Code} {g : Gm} {h0 : Hp} {P : PT} {mc ms : Nat} (X : Cx g p s m args meth c (Adom h0 s.heap.size) cX10_isReady RX10 3) (hr : meth.sig.returnType = some .boolean) (hn : meth.name = "isReady") : SX g p l e s m args below meth c d_X10_isReady 3 mc ms h0 P (bk_X10_isReady_0 l g (fun b => GX g p l e s m args below meth c d_X10_isReady 3 mc ms h0 P (pc_X10_isReady b)) P) 0 := (s_aload_n X dX10_isReady_0 rfl (s_get X dX10_isReady_1 (mcn (⟨_, _, _, _, rfl, inU_X10, by decide, uw_730, rfl⟩) (mnl)) (s_iload_n X dX10_isReady_4 rfl (s_iaload X dX10_isReady_5 (s_aload_n X dX10_isReady_6 rfl (s_get X dX10_isReady_7 (mcn (⟨_, _, _, _, rfl, inU_X10, by decide, uw_716, rfl⟩) (mnl)) (s_iload_n X dX10_isReady_10 rfl (s_iaload X dX10_isReady_11 (s_icmp_lt X dX10_isReady_12 (by decide) (s_iconst X dX10_isReady_17 rfl (s_istore_n X dX10_isReady_18 rfl (by decide) Sd.rf)) (s_iconst X dX10_isReady_15 rfl (s_zret X hr dX10_isReady_16)))))))))))
set_option maxRecDepth 100000 in
theorem sb_X10_isReady_1 {p : Program} {l : Launch} {e : Env} {s : State} {m : MethodId} {args : Array Value} {below : List Frame} {meth : Method} {c : Code} {g : Gm} {h0 : Hp} {P : PT} {mc ms : Nat} (X : Cx g p s m args meth c (Adom h0 s.heap.size) cX10_isReady RX10 3) (hr : meth.sig.returnType = some .boolean) (hn : meth.name = "isReady") : SX g p l e s m args below meth c d_X10_isReady 3 mc ms h0 P (bk_X10_isReady_1 l g (fun b => GX g p l e s m args below meth c d_X10_isReady 3 mc ms h0 P (pc_X10_isReady b)) P) 19 := (s_iload_n X dX10_isReady_19 rfl (s_aload_n X dX10_isReady_20 rfl (s_get X dX10_isReady_21 (mcn (⟨_, _, _, _, rfl, inU_X10, by decide, uw_714, rfl⟩) (mnl)) (s_icmp_ge X dX10_isReady_24 (by decide) (s_iconst X dX10_isReady_56 rfl (s_zret X hr dX10_isReady_57)) (s_aload_n X dX10_isReady_27 rfl (s_iload_n X dX10_isReady_28 rfl (s_aload_n X dX10_isReady_29 rfl (s_get X dX10_isReady_30 (mcn (⟨_, _, _, _, rfl, inU_X10, by decide, uw_730, rfl⟩) (mnl)) (s_iload_n X dX10_isReady_33 rfl (s_iaload X dX10_isReady_34 (s_iload_n X dX10_isReady_35 rfl (s_callV X dX10_isReady_36 (mv (vok_V X rfl uw_884 uw_886 (UW_pr 35 rfl rfl) uw_7 ci_X10_aheadOf yok_X10_aheadOf ⟨Nat.le_of_ble_eq_true rfl, Nat.le_of_ble_eq_true rfl⟩) mv0) (s_aload_n X dX10_isReady_39 rfl (s_get X dX10_isReady_40 (mcn (⟨_, _, _, _, rfl, inU_X10, by decide, uw_730, rfl⟩) (mnl)) (s_iload_n X dX10_isReady_43 rfl (s_iaload X dX10_isReady_44 (s_icmp_le X dX10_isReady_45 (by decide) (s_iinc X dX10_isReady_50 rfl (by decide) (s_goto X dX10_isReady_53 (by decide) Sd.rf)) (s_iconst X dX10_isReady_48 rfl (s_zret X hr dX10_isReady_49)))))))))))))))))))
set_option maxRecDepth 100000 in
theorem vc_X10_isReady {l : Launch} {g : Gm} {a0 : Nat} {a1 : Int32} {h : Hp} {mc ms : Nat} {P : PT} (H : ∀ G : Nat → CT, (∀ (b : Nat) (h : Hp) (cb sb : Nat) (ls : LocS) (st : List Value), bk_X10_isReady l g b G P h cb sb ls st → G b h cb sb ls st) → G 0 h mc ms [some (.ref a0), some (.int a1), none] []) : Run l g d_X10_isReady [.ref a0, .int a1] h mc ms P :=
  Run.of (d := d_X10_isReady) (by decide) (mcn rfl (mcn rfl (mnl))) (Nat.le_of_ble_eq_true rfl) (fun p e s m args below meth c X hr hn => H (fun b => GX g p l e s m args below meth c d_X10_isReady 3 mc ms h P (pc_X10_isReady b)) (fun b h1 cb sb ls st hb => match b, hb with
    | 0, hb => sb_X10_isReady_0 (p := p) (e := e) (below := below) X hr hn h1 cb sb ls st hb
    | 1, hb => sb_X10_isReady_1 (p := p) (e := e) (below := below) X hr hn h1 cb sb ls st hb
    | _ + 2, hb => hb.elim))
theorem dX10_canBe_0 : decode cX10_canBe 0 = .ok (.iconst 0, 1) := by decide +kernel
theorem dX10_canBe_1 : decode cX10_canBe 1 = .ok (.istore_n 1, 1) := by decide +kernel
theorem dX10_canBe_2 : decode cX10_canBe 2 = .ok (.iload_n 1, 1) := by decide +kernel
theorem dX10_canBe_3 : decode cX10_canBe 3 = .ok (.aload_n 0, 1) := by decide +kernel
theorem dX10_canBe_4 : decode cX10_canBe 4 = .ok (.getfield 81, 3) := by decide +kernel
theorem dX10_canBe_7 : decode cX10_canBe 7 = .ok (.if_icmp .ge 59, 3) := by decide +kernel
theorem dX10_canBe_10 : decode cX10_canBe 10 = .ok (.iconst 0, 1) := by decide +kernel
theorem dX10_canBe_11 : decode cX10_canBe 11 = .ok (.istore_n 2, 1) := by decide +kernel
theorem dX10_canBe_12 : decode cX10_canBe 12 = .ok (.iload_n 2, 1) := by decide +kernel
theorem dX10_canBe_13 : decode cX10_canBe 13 = .ok (.aload_n 0, 1) := by decide +kernel
theorem dX10_canBe_14 : decode cX10_canBe 14 = .ok (.getfield 81, 3) := by decide +kernel
theorem dX10_canBe_17 : decode cX10_canBe 17 = .ok (.if_icmp .ge 43, 3) := by decide +kernel
theorem dX10_canBe_20 : decode cX10_canBe 20 = .ok (.aload_n 0, 1) := by decide +kernel
theorem dX10_canBe_21 : decode cX10_canBe 21 = .ok (.getfield 58, 3) := by decide +kernel
theorem dX10_canBe_24 : decode cX10_canBe 24 = .ok (.iload_n 1, 1) := by decide +kernel
theorem dX10_canBe_25 : decode cX10_canBe 25 = .ok (.iaload, 1) := by decide +kernel
theorem dX10_canBe_26 : decode cX10_canBe 26 = .ok (.ifCond .le 34, 3) := by decide +kernel
theorem dX10_canBe_29 : decode cX10_canBe 29 = .ok (.aload_n 0, 1) := by decide +kernel
theorem dX10_canBe_30 : decode cX10_canBe 30 = .ok (.iload_n 1, 1) := by decide +kernel
theorem dX10_canBe_31 : decode cX10_canBe 31 = .ok (.aload_n 0, 1) := by decide +kernel
theorem dX10_canBe_32 : decode cX10_canBe 32 = .ok (.getfield 58, 3) := by decide +kernel
theorem dX10_canBe_35 : decode cX10_canBe 35 = .ok (.iload_n 1, 1) := by decide +kernel
theorem dX10_canBe_36 : decode cX10_canBe 36 = .ok (.iaload, 1) := by decide +kernel
theorem dX10_canBe_37 : decode cX10_canBe 37 = .ok (.iconst 1, 1) := by decide +kernel
theorem dX10_canBe_38 : decode cX10_canBe 38 = .ok (.isub, 1) := by decide +kernel
theorem dX10_canBe_39 : decode cX10_canBe 39 = .ok (.iload_n 2, 1) := by decide +kernel
theorem dX10_canBe_40 : decode cX10_canBe 40 = .ok (.invokevirtual 161, 3) := by decide +kernel
theorem dX10_canBe_43 : decode cX10_canBe 43 = .ok (.aload_n 0, 1) := by decide +kernel
theorem dX10_canBe_44 : decode cX10_canBe 44 = .ok (.getfield 58, 3) := by decide +kernel
theorem dX10_canBe_47 : decode cX10_canBe 47 = .ok (.iload_n 2, 1) := by decide +kernel
theorem dX10_canBe_48 : decode cX10_canBe 48 = .ok (.iaload, 1) := by decide +kernel
theorem dX10_canBe_49 : decode cX10_canBe 49 = .ok (.if_icmp .le 5, 3) := by decide +kernel
theorem dX10_canBe_52 : decode cX10_canBe 52 = .ok (.iconst 0, 1) := by decide +kernel
theorem dX10_canBe_53 : decode cX10_canBe 53 = .ok (.ireturn, 1) := by decide +kernel
theorem dX10_canBe_54 : decode cX10_canBe 54 = .ok (.iinc 2 1, 3) := by decide +kernel
theorem dX10_canBe_57 : decode cX10_canBe 57 = .ok (.goto (-45), 3) := by decide +kernel
theorem dX10_canBe_60 : decode cX10_canBe 60 = .ok (.iinc 1 1, 3) := by decide +kernel
theorem dX10_canBe_63 : decode cX10_canBe 63 = .ok (.goto (-61), 3) := by decide +kernel
theorem dX10_canBe_66 : decode cX10_canBe 66 = .ok (.iconst 1, 1) := by decide +kernel
theorem dX10_canBe_67 : decode cX10_canBe 67 = .ok (.ireturn, 1) := by decide +kernel
def bk_X10_canBe_0 (l : Launch) (g : Gm) (G : Nat → CT) (P : PT) : CT := (oPush (.int (0)) (oISt 1 (G 1)))
def bk_X10_canBe_1 (l : Launch) (g : Gm) (G : Nat → CT) (P : PT) : CT := (oILd 1 (oALd 0 (oGet [10] 5 (oCmp (fun x y => y ≤ x) (oPush (.int (1)) (oZRet P)) (oPush (.int (0)) (oISt 2 (G 2)))))))
def bk_X10_canBe_2 (l : Launch) (g : Gm) (G : Nat → CT) (P : PT) : CT := (oILd 2 (oALd 0 (oGet [10] 5 (oCmp (fun x y => y ≤ x) (oInc 1 (1) (oGo (G 1))) (oALd 0 (oGet [10] 21 (oILd 1 (oIAL g (oIf (fun x => x ≤ 0) (oInc 1 (1) (oGo (G 1))) (oALd 0 (oILd 1 (oALd 0 (oGet [10] 21 (oILd 1 (oIAL g (oPush (.int (1)) (oBin (fun x y => x - y) (oILd 2 (oCallV l g [(10, d_X10_aheadOf)] 4 (oALd 0 (oGet [10] 21 (oILd 2 (oIAL g (oCmp (fun x y => x ≤ y) (oInc 2 (1) (oGo (G 2))) (oPush (.int (0)) (oZRet P))))))))))))))))))))))))))
def bk_X10_canBe (l : Launch) (g : Gm) (b : Nat) (G : Nat → CT) (P : PT) : CT := match b with
  | 0 => bk_X10_canBe_0 l g G P
  | 1 => bk_X10_canBe_1 l g G P
  | 2 => bk_X10_canBe_2 l g G P
  | _ => fun _ _ _ _ _ => False
def pc_X10_canBe (b : Nat) : Nat := match b with
  | 0 => 0
  | 1 => 2
  | 2 => 12
  | _ => 0
set_option maxRecDepth 100000 in
theorem sb_X10_canBe_0 {p : Program} {l : Launch} {e : Env} {s : State} {m : MethodId} {args : Array Value} {below : List Frame} {meth : Method} {c : Code} {g : Gm} {h0 : Hp} {P : PT} {mc ms : Nat} (X : Cx g p s m args meth c (Adom h0 s.heap.size) cX10_canBe RX10 3) (hr : meth.sig.returnType = some .boolean) (hn : meth.name = "canBe") : SX g p l e s m args below meth c d_X10_canBe 3 mc ms h0 P (bk_X10_canBe_0 l g (fun b => GX g p l e s m args below meth c d_X10_canBe 3 mc ms h0 P (pc_X10_canBe b)) P) 0 := (s_iconst X dX10_canBe_0 rfl (s_istore_n X dX10_canBe_1 rfl (by decide) Sd.rf))
set_option maxRecDepth 100000 in
theorem sb_X10_canBe_1 {p : Program} {l : Launch} {e : Env} {s : State} {m : MethodId} {args : Array Value} {below : List Frame} {meth : Method} {c : Code} {g : Gm} {h0 : Hp} {P : PT} {mc ms : Nat} (X : Cx g p s m args meth c (Adom h0 s.heap.size) cX10_canBe RX10 3) (hr : meth.sig.returnType = some .boolean) (hn : meth.name = "canBe") : SX g p l e s m args below meth c d_X10_canBe 3 mc ms h0 P (bk_X10_canBe_1 l g (fun b => GX g p l e s m args below meth c d_X10_canBe 3 mc ms h0 P (pc_X10_canBe b)) P) 2 := (s_iload_n X dX10_canBe_2 rfl (s_aload_n X dX10_canBe_3 rfl (s_get X dX10_canBe_4 (mcn (⟨_, _, _, _, rfl, inU_X10, by decide, uw_714, rfl⟩) (mnl)) (s_icmp_ge X dX10_canBe_7 (by decide) (s_iconst X dX10_canBe_66 rfl (s_zret X hr dX10_canBe_67)) (s_iconst X dX10_canBe_10 rfl (s_istore_n X dX10_canBe_11 rfl (by decide) Sd.rf))))))
set_option maxRecDepth 100000 in
theorem sb_X10_canBe_2 {p : Program} {l : Launch} {e : Env} {s : State} {m : MethodId} {args : Array Value} {below : List Frame} {meth : Method} {c : Code} {g : Gm} {h0 : Hp} {P : PT} {mc ms : Nat} (X : Cx g p s m args meth c (Adom h0 s.heap.size) cX10_canBe RX10 3) (hr : meth.sig.returnType = some .boolean) (hn : meth.name = "canBe") : SX g p l e s m args below meth c d_X10_canBe 3 mc ms h0 P (bk_X10_canBe_2 l g (fun b => GX g p l e s m args below meth c d_X10_canBe 3 mc ms h0 P (pc_X10_canBe b)) P) 12 := (s_iload_n X dX10_canBe_12 rfl (s_aload_n X dX10_canBe_13 rfl (s_get X dX10_canBe_14 (mcn (⟨_, _, _, _, rfl, inU_X10, by decide, uw_714, rfl⟩) (mnl)) (s_icmp_ge X dX10_canBe_17 (by decide) (s_iinc X dX10_canBe_60 rfl (by decide) (s_goto X dX10_canBe_63 (by decide) Sd.rf)) (s_aload_n X dX10_canBe_20 rfl (s_get X dX10_canBe_21 (mcn (⟨_, _, _, _, rfl, inU_X10, by decide, uw_730, rfl⟩) (mnl)) (s_iload_n X dX10_canBe_24 rfl (s_iaload X dX10_canBe_25 (s_if_le X dX10_canBe_26 (by decide) (s_iinc X dX10_canBe_60 rfl (by decide) (s_goto X dX10_canBe_63 (by decide) Sd.rf)) (s_aload_n X dX10_canBe_29 rfl (s_iload_n X dX10_canBe_30 rfl (s_aload_n X dX10_canBe_31 rfl (s_get X dX10_canBe_32 (mcn (⟨_, _, _, _, rfl, inU_X10, by decide, uw_730, rfl⟩) (mnl)) (s_iload_n X dX10_canBe_35 rfl (s_iaload X dX10_canBe_36 (s_iconst X dX10_canBe_37 rfl (s_isub X dX10_canBe_38 (s_iload_n X dX10_canBe_39 rfl (s_callV X dX10_canBe_40 (mv (vok_V X rfl uw_884 uw_886 (UW_pr 35 rfl rfl) uw_7 ci_X10_aheadOf yok_X10_aheadOf ⟨Nat.le_of_ble_eq_true rfl, Nat.le_of_ble_eq_true rfl⟩) mv0) (s_aload_n X dX10_canBe_43 rfl (s_get X dX10_canBe_44 (mcn (⟨_, _, _, _, rfl, inU_X10, by decide, uw_730, rfl⟩) (mnl)) (s_iload_n X dX10_canBe_47 rfl (s_iaload X dX10_canBe_48 (s_icmp_le X dX10_canBe_49 (by decide) (s_iinc X dX10_canBe_54 rfl (by decide) (s_goto X dX10_canBe_57 (by decide) Sd.rf)) (s_iconst X dX10_canBe_52 rfl (s_zret X hr dX10_canBe_53))))))))))))))))))))))))))
set_option maxRecDepth 100000 in
theorem vc_X10_canBe {l : Launch} {g : Gm} {a0 : Nat} {h : Hp} {mc ms : Nat} {P : PT} (H : ∀ G : Nat → CT, (∀ (b : Nat) (h : Hp) (cb sb : Nat) (ls : LocS) (st : List Value), bk_X10_canBe l g b G P h cb sb ls st → G b h cb sb ls st) → G 0 h mc ms [some (.ref a0), none, none] []) : Run l g d_X10_canBe [.ref a0] h mc ms P :=
  Run.of (d := d_X10_canBe) (by decide) (mcn rfl (mnl)) (Nat.le_of_ble_eq_true rfl) (fun p e s m args below meth c X hr hn => H (fun b => GX g p l e s m args below meth c d_X10_canBe 3 mc ms h P (pc_X10_canBe b)) (fun b h1 cb sb ls st hb => match b, hb with
    | 0, hb => sb_X10_canBe_0 (p := p) (e := e) (below := below) X hr hn h1 cb sb ls st hb
    | 1, hb => sb_X10_canBe_1 (p := p) (e := e) (below := below) X hr hn h1 cb sb ls st hb
    | 2, hb => sb_X10_canBe_2 (p := p) (e := e) (below := below) X hr hn h1 cb sb ls st hb
    | _ + 3, hb => hb.elim))
theorem dX10_close_0 : decode cX10_close 0 = .ok (.iconst 1, 1) := by decide +kernel
theorem dX10_close_1 : decode cX10_close 1 = .ok (.istore_n 1, 1) := by decide +kernel
theorem dX10_close_2 : decode cX10_close 2 = .ok (.iload_n 1, 1) := by decide +kernel
theorem dX10_close_3 : decode cX10_close 3 = .ok (.ifCond .eq 114, 3) := by decide +kernel
theorem dX10_close_6 : decode cX10_close 6 = .ok (.iconst 0, 1) := by decide +kernel
theorem dX10_close_7 : decode cX10_close 7 = .ok (.istore_n 1, 1) := by decide +kernel
theorem dX10_close_8 : decode cX10_close 8 = .ok (.iconst 0, 1) := by decide +kernel
theorem dX10_close_9 : decode cX10_close 9 = .ok (.istore_n 2, 1) := by decide +kernel
theorem dX10_close_10 : decode cX10_close 10 = .ok (.iload_n 2, 1) := by decide +kernel
theorem dX10_close_11 : decode cX10_close 11 = .ok (.aload_n 0, 1) := by decide +kernel
theorem dX10_close_12 : decode cX10_close 12 = .ok (.getfield 81, 3) := by decide +kernel
theorem dX10_close_15 : decode cX10_close 15 = .ok (.if_icmp .ge 99, 3) := by decide +kernel
theorem dX10_close_18 : decode cX10_close 18 = .ok (.iconst 0, 1) := by decide +kernel
theorem dX10_close_19 : decode cX10_close 19 = .ok (.istore_n 3, 1) := by decide +kernel
theorem dX10_close_20 : decode cX10_close 20 = .ok (.iload_n 3, 1) := by decide +kernel
theorem dX10_close_21 : decode cX10_close 21 = .ok (.aload_n 0, 1) := by decide +kernel
theorem dX10_close_22 : decode cX10_close 22 = .ok (.getfield 81, 3) := by decide +kernel
theorem dX10_close_25 : decode cX10_close 25 = .ok (.if_icmp .ge 83, 3) := by decide +kernel
theorem dX10_close_28 : decode cX10_close 28 = .ok (.aload_n 0, 1) := by decide +kernel
theorem dX10_close_29 : decode cX10_close 29 = .ok (.getfield 58, 3) := by decide +kernel
theorem dX10_close_32 : decode cX10_close 32 = .ok (.iload_n 2, 1) := by decide +kernel
theorem dX10_close_33 : decode cX10_close 33 = .ok (.iaload, 1) := by decide +kernel
theorem dX10_close_34 : decode cX10_close 34 = .ok (.ifCond .le 74, 3) := by decide +kernel
theorem dX10_close_37 : decode cX10_close 37 = .ok (.aload_n 0, 1) := by decide +kernel
theorem dX10_close_38 : decode cX10_close 38 = .ok (.iload_n 2, 1) := by decide +kernel
theorem dX10_close_39 : decode cX10_close 39 = .ok (.aload_n 0, 1) := by decide +kernel
theorem dX10_close_40 : decode cX10_close 40 = .ok (.getfield 58, 3) := by decide +kernel
theorem dX10_close_43 : decode cX10_close 43 = .ok (.iload_n 2, 1) := by decide +kernel
theorem dX10_close_44 : decode cX10_close 44 = .ok (.iaload, 1) := by decide +kernel
theorem dX10_close_45 : decode cX10_close 45 = .ok (.iconst 1, 1) := by decide +kernel
theorem dX10_close_46 : decode cX10_close 46 = .ok (.isub, 1) := by decide +kernel
theorem dX10_close_47 : decode cX10_close 47 = .ok (.iload_n 3, 1) := by decide +kernel
theorem dX10_close_48 : decode cX10_close 48 = .ok (.invokevirtual 161, 3) := by decide +kernel
theorem dX10_close_51 : decode cX10_close 51 = .ok (.istore 4, 2) := by decide +kernel
theorem dX10_close_53 : decode cX10_close 53 = .ok (.iload_n 1, 1) := by decide +kernel
theorem dX10_close_54 : decode cX10_close 54 = .ok (.ifCond .ne 14, 3) := by decide +kernel
theorem dX10_close_57 : decode cX10_close 57 = .ok (.iload 4, 2) := by decide +kernel
theorem dX10_close_59 : decode cX10_close 59 = .ok (.aload_n 0, 1) := by decide +kernel
theorem dX10_close_60 : decode cX10_close 60 = .ok (.getfield 58, 3) := by decide +kernel
theorem dX10_close_63 : decode cX10_close 63 = .ok (.iload_n 3, 1) := by decide +kernel
theorem dX10_close_64 : decode cX10_close 64 = .ok (.iaload, 1) := by decide +kernel
theorem dX10_close_65 : decode cX10_close 65 = .ok (.if_icmp .le 7, 3) := by decide +kernel
theorem dX10_close_68 : decode cX10_close 68 = .ok (.iconst 1, 1) := by decide +kernel
theorem dX10_close_69 : decode cX10_close 69 = .ok (.goto 4, 3) := by decide +kernel
theorem dX10_close_72 : decode cX10_close 72 = .ok (.iconst 0, 1) := by decide +kernel
theorem dX10_close_73 : decode cX10_close 73 = .ok (.istore_n 1, 1) := by decide +kernel
theorem dX10_close_74 : decode cX10_close 74 = .ok (.aload_n 0, 1) := by decide +kernel
theorem dX10_close_75 : decode cX10_close 75 = .ok (.getfield 58, 3) := by decide +kernel
theorem dX10_close_78 : decode cX10_close 78 = .ok (.iload_n 3, 1) := by decide +kernel
theorem dX10_close_79 : decode cX10_close 79 = .ok (.iload 4, 2) := by decide +kernel
theorem dX10_close_81 : decode cX10_close 81 = .ok (.aload_n 0, 1) := by decide +kernel
theorem dX10_close_82 : decode cX10_close 82 = .ok (.getfield 58, 3) := by decide +kernel
theorem dX10_close_85 : decode cX10_close 85 = .ok (.iload_n 3, 1) := by decide +kernel
theorem dX10_close_86 : decode cX10_close 86 = .ok (.iaload, 1) := by decide +kernel
theorem dX10_close_87 : decode cX10_close 87 = .ok (.if_icmp .le 8, 3) := by decide +kernel
theorem dX10_close_90 : decode cX10_close 90 = .ok (.iload 4, 2) := by decide +kernel
theorem dX10_close_92 : decode cX10_close 92 = .ok (.goto 9, 3) := by decide +kernel
theorem dX10_close_95 : decode cX10_close 95 = .ok (.aload_n 0, 1) := by decide +kernel
theorem dX10_close_96 : decode cX10_close 96 = .ok (.getfield 58, 3) := by decide +kernel
theorem dX10_close_99 : decode cX10_close 99 = .ok (.iload_n 3, 1) := by decide +kernel
theorem dX10_close_100 : decode cX10_close 100 = .ok (.iaload, 1) := by decide +kernel
theorem dX10_close_101 : decode cX10_close 101 = .ok (.iastore, 1) := by decide +kernel
theorem dX10_close_102 : decode cX10_close 102 = .ok (.iinc 3 1, 3) := by decide +kernel
theorem dX10_close_105 : decode cX10_close 105 = .ok (.goto (-85), 3) := by decide +kernel
theorem dX10_close_108 : decode cX10_close 108 = .ok (.iinc 2 1, 3) := by decide +kernel
theorem dX10_close_111 : decode cX10_close 111 = .ok (.goto (-101), 3) := by decide +kernel
theorem dX10_close_114 : decode cX10_close 114 = .ok (.goto (-112), 3) := by decide +kernel
theorem dX10_close_117 : decode cX10_close 117 = .ok (.return_, 1) := by decide +kernel
def bk_X10_close_0 (l : Launch) (g : Gm) (G : Nat → CT) (P : PT) : CT := (oPush (.int (1)) (oISt 1 (G 1)))
def bk_X10_close_1 (l : Launch) (g : Gm) (G : Nat → CT) (P : PT) : CT := (oILd 1 (oIf (fun x => x = 0) (oVRet P) (oPush (.int (0)) (oISt 1 (oPush (.int (0)) (oISt 2 (G 2)))))))
def bk_X10_close_2 (l : Launch) (g : Gm) (G : Nat → CT) (P : PT) : CT := (oILd 2 (oALd 0 (oGet [10] 5 (oCmp (fun x y => y ≤ x) (oGo (G 1)) (oPush (.int (0)) (oISt 3 (G 3)))))))
def bk_X10_close_3 (l : Launch) (g : Gm) (G : Nat → CT) (P : PT) : CT := (oILd 3 (oALd 0 (oGet [10] 5 (oCmp (fun x y => y ≤ x) (oInc 2 (1) (oGo (G 2))) (oALd 0 (oGet [10] 21 (oILd 2 (oIAL g (oIf (fun x => x ≤ 0) (oInc 2 (1) (oGo (G 2))) (oALd 0 (oILd 2 (oALd 0 (oGet [10] 21 (oILd 2 (oIAL g (oPush (.int (1)) (oBin (fun x y => x - y) (oILd 3 (oCallV l g [(10, d_X10_aheadOf)] 4 (oISt 4 (oILd 1 (oIf (fun x => x = 0) (oILd 4 (oALd 0 (oGet [10] 21 (oILd 3 (oIAL g (oCmp (fun x y => x ≤ y) (oPush (.int (0)) (G 4)) (oPush (.int (1)) (oGo (G 4))))))))) (oPush (.int (1)) (oGo (G 4)))))))))))))))))))))))))
def bk_X10_close_4 (l : Launch) (g : Gm) (G : Nat → CT) (P : PT) : CT := (oISt 1 (oALd 0 (oGet [10] 21 (oILd 3 (oILd 4 (oALd 0 (oGet [10] 21 (oILd 3 (oIAL g (oCmp (fun x y => x ≤ y) (oALd 0 (oGet [10] 21 (oILd 3 (oIAL g (G 5))))) (oILd 4 (oGo (G 5)))))))))))))
def bk_X10_close_5 (l : Launch) (g : Gm) (G : Nat → CT) (P : PT) : CT := (oIAS g (oInc 3 (1) (oGo (G 3))))
def bk_X10_close (l : Launch) (g : Gm) (b : Nat) (G : Nat → CT) (P : PT) : CT := match b with
  | 0 => bk_X10_close_0 l g G P
  | 1 => bk_X10_close_1 l g G P
  | 2 => bk_X10_close_2 l g G P
  | 3 => bk_X10_close_3 l g G P
  | 4 => bk_X10_close_4 l g G P
  | 5 => bk_X10_close_5 l g G P
  | _ => fun _ _ _ _ _ => False
def pc_X10_close (b : Nat) : Nat := match b with
  | 0 => 0
  | 1 => 2
  | 2 => 10
  | 3 => 20
  | 4 => 73
  | 5 => 101
  | _ => 0
set_option maxRecDepth 100000 in
theorem sb_X10_close_0 {p : Program} {l : Launch} {e : Env} {s : State} {m : MethodId} {args : Array Value} {below : List Frame} {meth : Method} {c : Code} {g : Gm} {h0 : Hp} {P : PT} {mc ms : Nat} (X : Cx g p s m args meth c (Adom h0 s.heap.size) cX10_close RX10 5) (hr : meth.sig.returnType = none) (hn : meth.name = "close") : SX g p l e s m args below meth c d_X10_close 5 mc ms h0 P (bk_X10_close_0 l g (fun b => GX g p l e s m args below meth c d_X10_close 5 mc ms h0 P (pc_X10_close b)) P) 0 := (s_iconst X dX10_close_0 rfl (s_istore_n X dX10_close_1 rfl (by decide) Sd.rf))
set_option maxRecDepth 100000 in
theorem sb_X10_close_1 {p : Program} {l : Launch} {e : Env} {s : State} {m : MethodId} {args : Array Value} {below : List Frame} {meth : Method} {c : Code} {g : Gm} {h0 : Hp} {P : PT} {mc ms : Nat} (X : Cx g p s m args meth c (Adom h0 s.heap.size) cX10_close RX10 5) (hr : meth.sig.returnType = none) (hn : meth.name = "close") : SX g p l e s m args below meth c d_X10_close 5 mc ms h0 P (bk_X10_close_1 l g (fun b => GX g p l e s m args below meth c d_X10_close 5 mc ms h0 P (pc_X10_close b)) P) 2 := (s_iload_n X dX10_close_2 rfl (s_if_eq X dX10_close_3 (by decide) (s_vret X hr dX10_close_117) (s_iconst X dX10_close_6 rfl (s_istore_n X dX10_close_7 rfl (by decide) (s_iconst X dX10_close_8 rfl (s_istore_n X dX10_close_9 rfl (by decide) Sd.rf))))))
set_option maxRecDepth 100000 in
theorem sb_X10_close_2 {p : Program} {l : Launch} {e : Env} {s : State} {m : MethodId} {args : Array Value} {below : List Frame} {meth : Method} {c : Code} {g : Gm} {h0 : Hp} {P : PT} {mc ms : Nat} (X : Cx g p s m args meth c (Adom h0 s.heap.size) cX10_close RX10 5) (hr : meth.sig.returnType = none) (hn : meth.name = "close") : SX g p l e s m args below meth c d_X10_close 5 mc ms h0 P (bk_X10_close_2 l g (fun b => GX g p l e s m args below meth c d_X10_close 5 mc ms h0 P (pc_X10_close b)) P) 10 := (s_iload_n X dX10_close_10 rfl (s_aload_n X dX10_close_11 rfl (s_get X dX10_close_12 (mcn (⟨_, _, _, _, rfl, inU_X10, by decide, uw_714, rfl⟩) (mnl)) (s_icmp_ge X dX10_close_15 (by decide) (s_goto X dX10_close_114 (by decide) Sd.rf) (s_iconst X dX10_close_18 rfl (s_istore_n X dX10_close_19 rfl (by decide) Sd.rf))))))
set_option maxRecDepth 100000 in
theorem sb_X10_close_3 {p : Program} {l : Launch} {e : Env} {s : State} {m : MethodId} {args : Array Value} {below : List Frame} {meth : Method} {c : Code} {g : Gm} {h0 : Hp} {P : PT} {mc ms : Nat} (X : Cx g p s m args meth c (Adom h0 s.heap.size) cX10_close RX10 5) (hr : meth.sig.returnType = none) (hn : meth.name = "close") : SX g p l e s m args below meth c d_X10_close 5 mc ms h0 P (bk_X10_close_3 l g (fun b => GX g p l e s m args below meth c d_X10_close 5 mc ms h0 P (pc_X10_close b)) P) 20 := (s_iload_n X dX10_close_20 rfl (s_aload_n X dX10_close_21 rfl (s_get X dX10_close_22 (mcn (⟨_, _, _, _, rfl, inU_X10, by decide, uw_714, rfl⟩) (mnl)) (s_icmp_ge X dX10_close_25 (by decide) (s_iinc X dX10_close_108 rfl (by decide) (s_goto X dX10_close_111 (by decide) Sd.rf)) (s_aload_n X dX10_close_28 rfl (s_get X dX10_close_29 (mcn (⟨_, _, _, _, rfl, inU_X10, by decide, uw_730, rfl⟩) (mnl)) (s_iload_n X dX10_close_32 rfl (s_iaload X dX10_close_33 (s_if_le X dX10_close_34 (by decide) (s_iinc X dX10_close_108 rfl (by decide) (s_goto X dX10_close_111 (by decide) Sd.rf)) (s_aload_n X dX10_close_37 rfl (s_iload_n X dX10_close_38 rfl (s_aload_n X dX10_close_39 rfl (s_get X dX10_close_40 (mcn (⟨_, _, _, _, rfl, inU_X10, by decide, uw_730, rfl⟩) (mnl)) (s_iload_n X dX10_close_43 rfl (s_iaload X dX10_close_44 (s_iconst X dX10_close_45 rfl (s_isub X dX10_close_46 (s_iload_n X dX10_close_47 rfl (s_callV X dX10_close_48 (mv (vok_V X rfl uw_884 uw_886 (UW_pr 35 rfl rfl) uw_7 ci_X10_aheadOf yok_X10_aheadOf ⟨Nat.le_of_ble_eq_true rfl, Nat.le_of_ble_eq_true rfl⟩) mv0) (s_istore X dX10_close_51 (by decide) (s_iload_n X dX10_close_53 rfl (s_if_ne X dX10_close_54 (by decide) (s_iconst X dX10_close_68 rfl (s_goto X dX10_close_69 (by decide) Sd.rf)) (s_iload X dX10_close_57 (s_aload_n X dX10_close_59 rfl (s_get X dX10_close_60 (mcn (⟨_, _, _, _, rfl, inU_X10, by decide, uw_730, rfl⟩) (mnl)) (s_iload_n X dX10_close_63 rfl (s_iaload X dX10_close_64 (s_icmp_le X dX10_close_65 (by decide) (s_iconst X dX10_close_72 rfl Sd.rf) (s_iconst X dX10_close_68 rfl (s_goto X dX10_close_69 (by decide) Sd.rf))))))))))))))))))))))))))))))
set_option maxRecDepth 100000 in
theorem sb_X10_close_4 {p : Program} {l : Launch} {e : Env} {s : State} {m : MethodId} {args : Array Value} {below : List Frame} {meth : Method} {c : Code} {g : Gm} {h0 : Hp} {P : PT} {mc ms : Nat} (X : Cx g p s m args meth c (Adom h0 s.heap.size) cX10_close RX10 5) (hr : meth.sig.returnType = none) (hn : meth.name = "close") : SX g p l e s m args below meth c d_X10_close 5 mc ms h0 P (bk_X10_close_4 l g (fun b => GX g p l e s m args below meth c d_X10_close 5 mc ms h0 P (pc_X10_close b)) P) 73 := (s_istore_n X dX10_close_73 rfl (by decide) (s_aload_n X dX10_close_74 rfl (s_get X dX10_close_75 (mcn (⟨_, _, _, _, rfl, inU_X10, by decide, uw_730, rfl⟩) (mnl)) (s_iload_n X dX10_close_78 rfl (s_iload X dX10_close_79 (s_aload_n X dX10_close_81 rfl (s_get X dX10_close_82 (mcn (⟨_, _, _, _, rfl, inU_X10, by decide, uw_730, rfl⟩) (mnl)) (s_iload_n X dX10_close_85 rfl (s_iaload X dX10_close_86 (s_icmp_le X dX10_close_87 (by decide) (s_aload_n X dX10_close_95 rfl (s_get X dX10_close_96 (mcn (⟨_, _, _, _, rfl, inU_X10, by decide, uw_730, rfl⟩) (mnl)) (s_iload_n X dX10_close_99 rfl (s_iaload X dX10_close_100 Sd.rf)))) (s_iload X dX10_close_90 (s_goto X dX10_close_92 (by decide) Sd.rf))))))))))))
set_option maxRecDepth 100000 in
theorem sb_X10_close_5 {p : Program} {l : Launch} {e : Env} {s : State} {m : MethodId} {args : Array Value} {below : List Frame} {meth : Method} {c : Code} {g : Gm} {h0 : Hp} {P : PT} {mc ms : Nat} (X : Cx g p s m args meth c (Adom h0 s.heap.size) cX10_close RX10 5) (hr : meth.sig.returnType = none) (hn : meth.name = "close") : SX g p l e s m args below meth c d_X10_close 5 mc ms h0 P (bk_X10_close_5 l g (fun b => GX g p l e s m args below meth c d_X10_close 5 mc ms h0 P (pc_X10_close b)) P) 101 := (s_iastore X dX10_close_101 (s_iinc X dX10_close_102 rfl (by decide) (s_goto X dX10_close_105 (by decide) Sd.rf)))
set_option maxRecDepth 100000 in
theorem vc_X10_close {l : Launch} {g : Gm} {a0 : Nat} {h : Hp} {mc ms : Nat} {P : PT} (H : ∀ G : Nat → CT, (∀ (b : Nat) (h : Hp) (cb sb : Nat) (ls : LocS) (st : List Value), bk_X10_close l g b G P h cb sb ls st → G b h cb sb ls st) → G 0 h mc ms [some (.ref a0), none, none, none, none] []) : Run l g d_X10_close [.ref a0] h mc ms P :=
  Run.of (d := d_X10_close) (by decide) (mcn rfl (mnl)) (Nat.le_of_ble_eq_true rfl) (fun p e s m args below meth c X hr hn => H (fun b => GX g p l e s m args below meth c d_X10_close 5 mc ms h P (pc_X10_close b)) (fun b h1 cb sb ls st hb => match b, hb with
    | 0, hb => sb_X10_close_0 (p := p) (e := e) (below := below) X hr hn h1 cb sb ls st hb
    | 1, hb => sb_X10_close_1 (p := p) (e := e) (below := below) X hr hn h1 cb sb ls st hb
    | 2, hb => sb_X10_close_2 (p := p) (e := e) (below := below) X hr hn h1 cb sb ls st hb
    | 3, hb => sb_X10_close_3 (p := p) (e := e) (below := below) X hr hn h1 cb sb ls st hb
    | 4, hb => sb_X10_close_4 (p := p) (e := e) (below := below) X hr hn h1 cb sb ls st hb
    | 5, hb => sb_X10_close_5 (p := p) (e := e) (below := below) X hr hn h1 cb sb ls st hb
    | _ + 6, hb => hb.elim))
theorem dX10_inCut_0 : decode cX10_inCut 0 = .ok (.iconst 0, 1) := by decide +kernel
theorem dX10_inCut_1 : decode cX10_inCut 1 = .ok (.istore_n 1, 1) := by decide +kernel
theorem dX10_inCut_2 : decode cX10_inCut 2 = .ok (.iconst 0, 1) := by decide +kernel
theorem dX10_inCut_3 : decode cX10_inCut 3 = .ok (.istore_n 2, 1) := by decide +kernel
theorem dX10_inCut_4 : decode cX10_inCut 4 = .ok (.iload_n 2, 1) := by decide +kernel
theorem dX10_inCut_5 : decode cX10_inCut 5 = .ok (.aload_n 0, 1) := by decide +kernel
theorem dX10_inCut_6 : decode cX10_inCut 6 = .ok (.getfield 81, 3) := by decide +kernel
theorem dX10_inCut_9 : decode cX10_inCut 9 = .ok (.if_icmp .ge 18, 3) := by decide +kernel
theorem dX10_inCut_12 : decode cX10_inCut 12 = .ok (.iload_n 1, 1) := by decide +kernel
theorem dX10_inCut_13 : decode cX10_inCut 13 = .ok (.aload_n 0, 1) := by decide +kernel
theorem dX10_inCut_14 : decode cX10_inCut 14 = .ok (.getfield 58, 3) := by decide +kernel
theorem dX10_inCut_17 : decode cX10_inCut 17 = .ok (.iload_n 2, 1) := by decide +kernel
theorem dX10_inCut_18 : decode cX10_inCut 18 = .ok (.iaload, 1) := by decide +kernel
theorem dX10_inCut_19 : decode cX10_inCut 19 = .ok (.iadd, 1) := by decide +kernel
theorem dX10_inCut_20 : decode cX10_inCut 20 = .ok (.istore_n 1, 1) := by decide +kernel
theorem dX10_inCut_21 : decode cX10_inCut 21 = .ok (.iinc 2 1, 3) := by decide +kernel
theorem dX10_inCut_24 : decode cX10_inCut 24 = .ok (.goto (-20), 3) := by decide +kernel
theorem dX10_inCut_27 : decode cX10_inCut 27 = .ok (.iload_n 1, 1) := by decide +kernel
theorem dX10_inCut_28 : decode cX10_inCut 28 = .ok (.ireturn, 1) := by decide +kernel
def bk_X10_inCut_0 (l : Launch) (g : Gm) (G : Nat → CT) (P : PT) : CT := (oPush (.int (0)) (oISt 1 (oPush (.int (0)) (oISt 2 (G 1)))))
def bk_X10_inCut_1 (l : Launch) (g : Gm) (G : Nat → CT) (P : PT) : CT := (oILd 2 (oALd 0 (oGet [10] 5 (oCmp (fun x y => y ≤ x) (oILd 1 (oIRet P)) (oILd 1 (oALd 0 (oGet [10] 21 (oILd 2 (oIAL g (oBin (fun x y => x + y) (oISt 1 (oInc 2 (1) (oGo (G 1))))))))))))))
def bk_X10_inCut (l : Launch) (g : Gm) (b : Nat) (G : Nat → CT) (P : PT) : CT := match b with
  | 0 => bk_X10_inCut_0 l g G P
  | 1 => bk_X10_inCut_1 l g G P
  | _ => fun _ _ _ _ _ => False
def pc_X10_inCut (b : Nat) : Nat := match b with
  | 0 => 0
  | 1 => 4
  | _ => 0
set_option maxRecDepth 100000 in
theorem sb_X10_inCut_0 {p : Program} {l : Launch} {e : Env} {s : State} {m : MethodId} {args : Array Value} {below : List Frame} {meth : Method} {c : Code} {g : Gm} {h0 : Hp} {P : PT} {mc ms : Nat} (X : Cx g p s m args meth c (Adom h0 s.heap.size) cX10_inCut RX10 3) (hr : meth.sig.returnType = some .int) (hn : meth.name = "inCut") : SX g p l e s m args below meth c d_X10_inCut 3 mc ms h0 P (bk_X10_inCut_0 l g (fun b => GX g p l e s m args below meth c d_X10_inCut 3 mc ms h0 P (pc_X10_inCut b)) P) 0 := (s_iconst X dX10_inCut_0 rfl (s_istore_n X dX10_inCut_1 rfl (by decide) (s_iconst X dX10_inCut_2 rfl (s_istore_n X dX10_inCut_3 rfl (by decide) Sd.rf))))
set_option maxRecDepth 100000 in
theorem sb_X10_inCut_1 {p : Program} {l : Launch} {e : Env} {s : State} {m : MethodId} {args : Array Value} {below : List Frame} {meth : Method} {c : Code} {g : Gm} {h0 : Hp} {P : PT} {mc ms : Nat} (X : Cx g p s m args meth c (Adom h0 s.heap.size) cX10_inCut RX10 3) (hr : meth.sig.returnType = some .int) (hn : meth.name = "inCut") : SX g p l e s m args below meth c d_X10_inCut 3 mc ms h0 P (bk_X10_inCut_1 l g (fun b => GX g p l e s m args below meth c d_X10_inCut 3 mc ms h0 P (pc_X10_inCut b)) P) 4 := (s_iload_n X dX10_inCut_4 rfl (s_aload_n X dX10_inCut_5 rfl (s_get X dX10_inCut_6 (mcn (⟨_, _, _, _, rfl, inU_X10, by decide, uw_714, rfl⟩) (mnl)) (s_icmp_ge X dX10_inCut_9 (by decide) (s_iload_n X dX10_inCut_27 rfl (s_iret X hr dX10_inCut_28)) (s_iload_n X dX10_inCut_12 rfl (s_aload_n X dX10_inCut_13 rfl (s_get X dX10_inCut_14 (mcn (⟨_, _, _, _, rfl, inU_X10, by decide, uw_730, rfl⟩) (mnl)) (s_iload_n X dX10_inCut_17 rfl (s_iaload X dX10_inCut_18 (s_iadd X dX10_inCut_19 (s_istore_n X dX10_inCut_20 rfl (by decide) (s_iinc X dX10_inCut_21 rfl (by decide) (s_goto X dX10_inCut_24 (by decide) Sd.rf)))))))))))))
set_option maxRecDepth 100000 in
theorem vc_X10_inCut {l : Launch} {g : Gm} {a0 : Nat} {h : Hp} {mc ms : Nat} {P : PT} (H : ∀ G : Nat → CT, (∀ (b : Nat) (h : Hp) (cb sb : Nat) (ls : LocS) (st : List Value), bk_X10_inCut l g b G P h cb sb ls st → G b h cb sb ls st) → G 0 h mc ms [some (.ref a0), none, none] []) : Run l g d_X10_inCut [.ref a0] h mc ms P :=
  Run.of (d := d_X10_inCut) (by decide) (mcn rfl (mnl)) (Nat.le_of_ble_eq_true rfl) (fun p e s m args below meth c X hr hn => H (fun b => GX g p l e s m args below meth c d_X10_inCut 3 mc ms h P (pc_X10_inCut b)) (fun b h1 cb sb ls st hb => match b, hb with
    | 0, hb => sb_X10_inCut_0 (p := p) (e := e) (below := below) X hr hn h1 cb sb ls st hb
    | 1, hb => sb_X10_inCut_1 (p := p) (e := e) (below := below) X hr hn h1 cb sb ls st hb
    | _ + 2, hb => hb.elim))
theorem dX10_takeNow_0 : decode cX10_takeNow 0 = .ok (.iconst 0, 1) := by decide +kernel
theorem dX10_takeNow_1 : decode cX10_takeNow 1 = .ok (.istore_n 1, 1) := by decide +kernel
theorem dX10_takeNow_2 : decode cX10_takeNow 2 = .ok (.iload_n 1, 1) := by decide +kernel
theorem dX10_takeNow_3 : decode cX10_takeNow 3 = .ok (.aload_n 0, 1) := by decide +kernel
theorem dX10_takeNow_4 : decode cX10_takeNow 4 = .ok (.getfield 81, 3) := by decide +kernel
theorem dX10_takeNow_7 : decode cX10_takeNow 7 = .ok (.if_icmp .ge 21, 3) := by decide +kernel
theorem dX10_takeNow_10 : decode cX10_takeNow 10 = .ok (.aload_n 0, 1) := by decide +kernel
theorem dX10_takeNow_11 : decode cX10_takeNow 11 = .ok (.getfield 58, 3) := by decide +kernel
theorem dX10_takeNow_14 : decode cX10_takeNow 14 = .ok (.iload_n 1, 1) := by decide +kernel
theorem dX10_takeNow_15 : decode cX10_takeNow 15 = .ok (.aload_n 0, 1) := by decide +kernel
theorem dX10_takeNow_16 : decode cX10_takeNow 16 = .ok (.getfield 34, 3) := by decide +kernel
theorem dX10_takeNow_19 : decode cX10_takeNow 19 = .ok (.iload_n 1, 1) := by decide +kernel
theorem dX10_takeNow_20 : decode cX10_takeNow 20 = .ok (.iaload, 1) := by decide +kernel
theorem dX10_takeNow_21 : decode cX10_takeNow 21 = .ok (.iastore, 1) := by decide +kernel
theorem dX10_takeNow_22 : decode cX10_takeNow 22 = .ok (.iinc 1 1, 3) := by decide +kernel
theorem dX10_takeNow_25 : decode cX10_takeNow 25 = .ok (.goto (-23), 3) := by decide +kernel
theorem dX10_takeNow_28 : decode cX10_takeNow 28 = .ok (.return_, 1) := by decide +kernel
def bk_X10_takeNow_0 (l : Launch) (g : Gm) (G : Nat → CT) (P : PT) : CT := (oPush (.int (0)) (oISt 1 (G 1)))
def bk_X10_takeNow_1 (l : Launch) (g : Gm) (G : Nat → CT) (P : PT) : CT := (oILd 1 (oALd 0 (oGet [10] 5 (oCmp (fun x y => y ≤ x) (oVRet P) (oALd 0 (oGet [10] 21 (oILd 1 (oALd 0 (oGet [10] 11 (oILd 1 (oIAL g (oIAS g (oInc 1 (1) (oGo (G 1)))))))))))))))
def bk_X10_takeNow (l : Launch) (g : Gm) (b : Nat) (G : Nat → CT) (P : PT) : CT := match b with
  | 0 => bk_X10_takeNow_0 l g G P
  | 1 => bk_X10_takeNow_1 l g G P
  | _ => fun _ _ _ _ _ => False
def pc_X10_takeNow (b : Nat) : Nat := match b with
  | 0 => 0
  | 1 => 2
  | _ => 0
set_option maxRecDepth 100000 in
theorem sb_X10_takeNow_0 {p : Program} {l : Launch} {e : Env} {s : State} {m : MethodId} {args : Array Value} {below : List Frame} {meth : Method} {c : Code} {g : Gm} {h0 : Hp} {P : PT} {mc ms : Nat} (X : Cx g p s m args meth c (Adom h0 s.heap.size) cX10_takeNow RX10 2) (hr : meth.sig.returnType = none) (hn : meth.name = "takeNow") : SX g p l e s m args below meth c d_X10_takeNow 2 mc ms h0 P (bk_X10_takeNow_0 l g (fun b => GX g p l e s m args below meth c d_X10_takeNow 2 mc ms h0 P (pc_X10_takeNow b)) P) 0 := (s_iconst X dX10_takeNow_0 rfl (s_istore_n X dX10_takeNow_1 rfl (by decide) Sd.rf))
set_option maxRecDepth 100000 in
theorem sb_X10_takeNow_1 {p : Program} {l : Launch} {e : Env} {s : State} {m : MethodId} {args : Array Value} {below : List Frame} {meth : Method} {c : Code} {g : Gm} {h0 : Hp} {P : PT} {mc ms : Nat} (X : Cx g p s m args meth c (Adom h0 s.heap.size) cX10_takeNow RX10 2) (hr : meth.sig.returnType = none) (hn : meth.name = "takeNow") : SX g p l e s m args below meth c d_X10_takeNow 2 mc ms h0 P (bk_X10_takeNow_1 l g (fun b => GX g p l e s m args below meth c d_X10_takeNow 2 mc ms h0 P (pc_X10_takeNow b)) P) 2 := (s_iload_n X dX10_takeNow_2 rfl (s_aload_n X dX10_takeNow_3 rfl (s_get X dX10_takeNow_4 (mcn (⟨_, _, _, _, rfl, inU_X10, by decide, uw_714, rfl⟩) (mnl)) (s_icmp_ge X dX10_takeNow_7 (by decide) (s_vret X hr dX10_takeNow_28) (s_aload_n X dX10_takeNow_10 rfl (s_get X dX10_takeNow_11 (mcn (⟨_, _, _, _, rfl, inU_X10, by decide, uw_730, rfl⟩) (mnl)) (s_iload_n X dX10_takeNow_14 rfl (s_aload_n X dX10_takeNow_15 rfl (s_get X dX10_takeNow_16 (mcn (⟨_, _, _, _, rfl, inU_X10, by decide, uw_720, rfl⟩) (mnl)) (s_iload_n X dX10_takeNow_19 rfl (s_iaload X dX10_takeNow_20 (s_iastore X dX10_takeNow_21 (s_iinc X dX10_takeNow_22 rfl (by decide) (s_goto X dX10_takeNow_25 (by decide) Sd.rf))))))))))))))
set_option maxRecDepth 100000 in
theorem vc_X10_takeNow {l : Launch} {g : Gm} {a0 : Nat} {h : Hp} {mc ms : Nat} {P : PT} (H : ∀ G : Nat → CT, (∀ (b : Nat) (h : Hp) (cb sb : Nat) (ls : LocS) (st : List Value), bk_X10_takeNow l g b G P h cb sb ls st → G b h cb sb ls st) → G 0 h mc ms [some (.ref a0), none] []) : Run l g d_X10_takeNow [.ref a0] h mc ms P :=
  Run.of (d := d_X10_takeNow) (by decide) (mcn rfl (mnl)) (Nat.le_of_ble_eq_true rfl) (fun p e s m args below meth c X hr hn => H (fun b => GX g p l e s m args below meth c d_X10_takeNow 2 mc ms h P (pc_X10_takeNow b)) (fun b h1 cb sb ls st hb => match b, hb with
    | 0, hb => sb_X10_takeNow_0 (p := p) (e := e) (below := below) X hr hn h1 cb sb ls st hb
    | 1, hb => sb_X10_takeNow_1 (p := p) (e := e) (below := below) X hr hn h1 cb sb ls st hb
    | _ + 2, hb => hb.elim))
theorem dX10_ofVillage_0 : decode cX10_ofVillage 0 = .ok (.aload_n 0, 1) := by decide +kernel
theorem dX10_ofVillage_1 : decode cX10_ofVillage 1 = .ok (.iload_n 1, 1) := by decide +kernel
theorem dX10_ofVillage_2 : decode cX10_ofVillage 2 = .ok (.invokevirtual 84, 3) := by decide +kernel
theorem dX10_ofVillage_5 : decode cX10_ofVillage 5 = .ok (.ifCond .ne 5, 3) := by decide +kernel
theorem dX10_ofVillage_8 : decode cX10_ofVillage 8 = .ok (.iconst (-1), 1) := by decide +kernel
theorem dX10_ofVillage_9 : decode cX10_ofVillage 9 = .ok (.ireturn, 1) := by decide +kernel
theorem dX10_ofVillage_10 : decode cX10_ofVillage 10 = .ok (.aload_n 0, 1) := by decide +kernel
theorem dX10_ofVillage_11 : decode cX10_ofVillage 11 = .ok (.invokevirtual 165, 3) := by decide +kernel
theorem dX10_ofVillage_14 : decode cX10_ofVillage 14 = .ok (.iload_n 2, 1) := by decide +kernel
theorem dX10_ofVillage_15 : decode cX10_ofVillage 15 = .ok (.tableswitch 84 0 5 #[37, 44, 51, 58, 64, 70], 37) := by decide +kernel
theorem dX10_ofVillage_52 : decode cX10_ofVillage 52 = .ok (.aload_n 0, 1) := by decide +kernel
theorem dX10_ofVillage_53 : decode cX10_ofVillage 53 = .ok (.getfield 19, 3) := by decide +kernel
theorem dX10_ofVillage_56 : decode cX10_ofVillage 56 = .ok (.iload_n 1, 1) := by decide +kernel
theorem dX10_ofVillage_57 : decode cX10_ofVillage 57 = .ok (.iaload, 1) := by decide +kernel
theorem dX10_ofVillage_58 : decode cX10_ofVillage 58 = .ok (.ireturn, 1) := by decide +kernel
theorem dX10_ofVillage_59 : decode cX10_ofVillage 59 = .ok (.aload_n 0, 1) := by decide +kernel
theorem dX10_ofVillage_60 : decode cX10_ofVillage 60 = .ok (.getfield 22, 3) := by decide +kernel
theorem dX10_ofVillage_63 : decode cX10_ofVillage 63 = .ok (.iload_n 1, 1) := by decide +kernel
theorem dX10_ofVillage_64 : decode cX10_ofVillage 64 = .ok (.iaload, 1) := by decide +kernel
theorem dX10_ofVillage_65 : decode cX10_ofVillage 65 = .ok (.ireturn, 1) := by decide +kernel
theorem dX10_ofVillage_66 : decode cX10_ofVillage 66 = .ok (.aload_n 0, 1) := by decide +kernel
theorem dX10_ofVillage_67 : decode cX10_ofVillage 67 = .ok (.getfield 34, 3) := by decide +kernel
theorem dX10_ofVillage_70 : decode cX10_ofVillage 70 = .ok (.iload_n 1, 1) := by decide +kernel
theorem dX10_ofVillage_71 : decode cX10_ofVillage 71 = .ok (.iaload, 1) := by decide +kernel
theorem dX10_ofVillage_72 : decode cX10_ofVillage 72 = .ok (.ireturn, 1) := by decide +kernel
theorem dX10_ofVillage_73 : decode cX10_ofVillage 73 = .ok (.aload_n 0, 1) := by decide +kernel
theorem dX10_ofVillage_74 : decode cX10_ofVillage 74 = .ok (.iload_n 1, 1) := by decide +kernel
theorem dX10_ofVillage_75 : decode cX10_ofVillage 75 = .ok (.invokevirtual 152, 3) := by decide +kernel
theorem dX10_ofVillage_78 : decode cX10_ofVillage 78 = .ok (.ireturn, 1) := by decide +kernel
theorem dX10_ofVillage_79 : decode cX10_ofVillage 79 = .ok (.aload_n 0, 1) := by decide +kernel
theorem dX10_ofVillage_80 : decode cX10_ofVillage 80 = .ok (.iload_n 1, 1) := by decide +kernel
theorem dX10_ofVillage_81 : decode cX10_ofVillage 81 = .ok (.invokevirtual 155, 3) := by decide +kernel
theorem dX10_ofVillage_84 : decode cX10_ofVillage 84 = .ok (.ireturn, 1) := by decide +kernel
theorem dX10_ofVillage_85 : decode cX10_ofVillage 85 = .ok (.aload_n 0, 1) := by decide +kernel
theorem dX10_ofVillage_86 : decode cX10_ofVillage 86 = .ok (.iload_n 1, 1) := by decide +kernel
theorem dX10_ofVillage_87 : decode cX10_ofVillage 87 = .ok (.invokevirtual 168, 3) := by decide +kernel
theorem dX10_ofVillage_90 : decode cX10_ofVillage 90 = .ok (.ifCond .eq 7, 3) := by decide +kernel
theorem dX10_ofVillage_93 : decode cX10_ofVillage 93 = .ok (.iconst 1, 1) := by decide +kernel
theorem dX10_ofVillage_94 : decode cX10_ofVillage 94 = .ok (.goto 4, 3) := by decide +kernel
theorem dX10_ofVillage_97 : decode cX10_ofVillage 97 = .ok (.iconst 0, 1) := by decide +kernel
theorem dX10_ofVillage_98 : decode cX10_ofVillage 98 = .ok (.ireturn, 1) := by decide +kernel
theorem dX10_ofVillage_99 : decode cX10_ofVillage 99 = .ok (.bipush (-2), 2) := by decide +kernel
theorem dX10_ofVillage_101 : decode cX10_ofVillage 101 = .ok (.ireturn, 1) := by decide +kernel
def bk_X10_ofVillage_0 (l : Launch) (g : Gm) (G : Nat → CT) (P : PT) : CT := (oALd 0 (oILd 1 (oCallV l g [(10, d_X10_isVillage)] 2 (oIf (fun x => x = 0) (oPush (.int (-1)) (oIRet P)) (oALd 0 (oCallV l g [(10, d_X10_takeNow)] 1 (oILd 2 (oSw [(0, (oALd 0 (oGet [10] 6 (oILd 1 (oIAL g (oIRet P)))))), (1, (oALd 0 (oGet [10] 7 (oILd 1 (oIAL g (oIRet P)))))), (2, (oALd 0 (oGet [10] 11 (oILd 1 (oIAL g (oIRet P)))))), (3, (oALd 0 (oILd 1 (oCallV l g [(10, d_X10_valueOf)] 2 (oIRet P))))), (4, (oALd 0 (oILd 1 (oCallV l g [(10, d_X10_worthOf)] 2 (oIRet P))))), (5, (oALd 0 (oILd 1 (oCallV l g [(10, d_X10_isReady)] 2 (oIf (fun x => x = 0) (oPush (.int (0)) (oIRet P)) (oPush (.int (1)) (oGo (oIRet P))))))))] (oPush (.int (-2)) (oIRet P))))))))))
def bk_X10_ofVillage (l : Launch) (g : Gm) (b : Nat) (G : Nat → CT) (P : PT) : CT := match b with
  | 0 => bk_X10_ofVillage_0 l g G P
  | _ => fun _ _ _ _ _ => False
def pc_X10_ofVillage (b : Nat) : Nat := match b with
  | 0 => 0
  | _ => 0
set_option maxRecDepth 100000 in
theorem sb_X10_ofVillage_0 {p : Program} {l : Launch} {e : Env} {s : State} {m : MethodId} {args : Array Value} {below : List Frame} {meth : Method} {c : Code} {g : Gm} {h0 : Hp} {P : PT} {mc ms : Nat} (X : Cx g p s m args meth c (Adom h0 s.heap.size) cX10_ofVillage RX10 3) (hr : meth.sig.returnType = some .int) (hn : meth.name = "ofVillage") : SX g p l e s m args below meth c d_X10_ofVillage 3 mc ms h0 P (bk_X10_ofVillage_0 l g (fun b => GX g p l e s m args below meth c d_X10_ofVillage 3 mc ms h0 P (pc_X10_ofVillage b)) P) 0 := (s_aload_n X dX10_ofVillage_0 rfl (s_iload_n X dX10_ofVillage_1 rfl (s_callV X dX10_ofVillage_2 (mv (vok_V X rfl uw_864 uw_866 (UW_pr 30 rfl rfl) uw_7 ci_X10_isVillage yok_X10_isVillage ⟨Nat.le_of_ble_eq_true rfl, Nat.le_of_ble_eq_true rfl⟩) mv0) (s_if_ne X dX10_ofVillage_5 (by decide) (s_aload_n X dX10_ofVillage_10 rfl (s_callV X dX10_ofVillage_11 (mv (vok_V X rfl uw_868 uw_870 (UW_pr 31 rfl rfl) uw_7 ci_X10_takeNow yok_X10_takeNow ⟨Nat.le_of_ble_eq_true rfl, Nat.le_of_ble_eq_true rfl⟩) mv0) (s_iload_n X dX10_ofVillage_14 rfl (s_tsw X dX10_ofVillage_15 (by decide) rfl ⟨⟨rfl, 37, 52, rfl, by decide, (s_aload_n X dX10_ofVillage_52 rfl (s_get X dX10_ofVillage_53 (mcn (⟨_, _, _, _, rfl, inU_X10, by decide, uw_715, rfl⟩) (mnl)) (s_iload_n X dX10_ofVillage_56 rfl (s_iaload X dX10_ofVillage_57 (s_iret X hr dX10_ofVillage_58)))))⟩, ⟨⟨rfl, 44, 59, rfl, by decide, (s_aload_n X dX10_ofVillage_59 rfl (s_get X dX10_ofVillage_60 (mcn (⟨_, _, _, _, rfl, inU_X10, by decide, uw_716, rfl⟩) (mnl)) (s_iload_n X dX10_ofVillage_63 rfl (s_iaload X dX10_ofVillage_64 (s_iret X hr dX10_ofVillage_65)))))⟩, ⟨⟨rfl, 51, 66, rfl, by decide, (s_aload_n X dX10_ofVillage_66 rfl (s_get X dX10_ofVillage_67 (mcn (⟨_, _, _, _, rfl, inU_X10, by decide, uw_720, rfl⟩) (mnl)) (s_iload_n X dX10_ofVillage_70 rfl (s_iaload X dX10_ofVillage_71 (s_iret X hr dX10_ofVillage_72)))))⟩, ⟨⟨rfl, 58, 73, rfl, by decide, (s_aload_n X dX10_ofVillage_73 rfl (s_iload_n X dX10_ofVillage_74 rfl (s_callV X dX10_ofVillage_75 (mv (vok_V X rfl uw_872 uw_874 (UW_pr 32 rfl rfl) uw_7 ci_X10_valueOf yok_X10_valueOf ⟨Nat.le_of_ble_eq_true rfl, Nat.le_of_ble_eq_true rfl⟩) mv0) (s_iret X hr dX10_ofVillage_78))))⟩, ⟨⟨rfl, 64, 79, rfl, by decide, (s_aload_n X dX10_ofVillage_79 rfl (s_iload_n X dX10_ofVillage_80 rfl (s_callV X dX10_ofVillage_81 (mv (vok_V X rfl uw_876 uw_878 (UW_pr 33 rfl rfl) uw_7 ci_X10_worthOf yok_X10_worthOf ⟨Nat.le_of_ble_eq_true rfl, Nat.le_of_ble_eq_true rfl⟩) mv0) (s_iret X hr dX10_ofVillage_84))))⟩, ⟨⟨rfl, 70, 85, rfl, by decide, (s_aload_n X dX10_ofVillage_85 rfl (s_iload_n X dX10_ofVillage_86 rfl (s_callV X dX10_ofVillage_87 (mv (vok_V X rfl uw_880 uw_882 (UW_pr 34 rfl rfl) uw_7 ci_X10_isReady yok_X10_isReady ⟨Nat.le_of_ble_eq_true rfl, Nat.le_of_ble_eq_true rfl⟩) mv0) (s_if_eq X dX10_ofVillage_90 (by decide) (s_iconst X dX10_ofVillage_97 rfl (s_iret X hr dX10_ofVillage_98)) (s_iconst X dX10_ofVillage_93 rfl (s_goto X dX10_ofVillage_94 (by decide) (s_iret X hr dX10_ofVillage_98)))))))⟩, trivial⟩⟩⟩⟩⟩⟩ (s_bipush X dX10_ofVillage_99 rfl (s_iret X hr dX10_ofVillage_101)))))) (s_iconst X dX10_ofVillage_8 rfl (s_iret X hr dX10_ofVillage_9))))))
set_option maxRecDepth 100000 in
theorem vc_X10_ofVillage {l : Launch} {g : Gm} {a0 : Nat} {a1 : Int32} {a2 : Int32} {h : Hp} {mc ms : Nat} {P : PT} (H : ∀ G : Nat → CT, (∀ (b : Nat) (h : Hp) (cb sb : Nat) (ls : LocS) (st : List Value), bk_X10_ofVillage l g b G P h cb sb ls st → G b h cb sb ls st) → G 0 h mc ms [some (.ref a0), some (.int a1), some (.int a2)] []) : Run l g d_X10_ofVillage [.ref a0, .int a1, .int a2] h mc ms P :=
  Run.of (d := d_X10_ofVillage) (by decide) (mcn rfl (mcn rfl (mcn rfl (mnl)))) (Nat.le_of_ble_eq_true rfl) (fun p e s m args below meth c X hr hn => H (fun b => GX g p l e s m args below meth c d_X10_ofVillage 3 mc ms h P (pc_X10_ofVillage b)) (fun b h1 cb sb ls st hb => match b, hb with
    | 0, hb => sb_X10_ofVillage_0 (p := p) (e := e) (below := below) X hr hn h1 cb sb ls st hb
    | _ + 1, hb => hb.elim))
theorem dX10_thing_0 : decode cX10_thing 0 = .ok (.aload_n 0, 1) := by decide +kernel
theorem dX10_thing_1 : decode cX10_thing 1 = .ok (.iload_n 1, 1) := by decide +kernel
theorem dX10_thing_2 : decode cX10_thing 2 = .ok (.iload_n 2, 1) := by decide +kernel
theorem dX10_thing_3 : decode cX10_thing 3 = .ok (.invokevirtual 171, 3) := by decide +kernel
theorem dX10_thing_6 : decode cX10_thing 6 = .ok (.ifCond .ne 5, 3) := by decide +kernel
theorem dX10_thing_9 : decode cX10_thing 9 = .ok (.iconst (-1), 1) := by decide +kernel
theorem dX10_thing_10 : decode cX10_thing 10 = .ok (.ireturn, 1) := by decide +kernel
theorem dX10_thing_11 : decode cX10_thing 11 = .ok (.iload_n 3, 1) := by decide +kernel
theorem dX10_thing_12 : decode cX10_thing 12 = .ok (.iconst 0, 1) := by decide +kernel
theorem dX10_thing_13 : decode cX10_thing 13 = .ok (.iconst 2, 1) := by decide +kernel
theorem dX10_thing_14 : decode cX10_thing 14 = .ok (.invokestatic 77, 3) := by decide +kernel
theorem dX10_thing_17 : decode cX10_thing 17 = .ok (.ifCond .ne 17, 3) := by decide +kernel
theorem dX10_thing_20 : decode cX10_thing 20 = .ok (.iload_n 3, 1) := by decide +kernel
theorem dX10_thing_21 : decode cX10_thing 21 = .ok (.bipush 10, 2) := by decide +kernel
theorem dX10_thing_23 : decode cX10_thing 23 = .ok (.bipush 13, 2) := by decide +kernel
theorem dX10_thing_25 : decode cX10_thing 25 = .ok (.invokestatic 77, 3) := by decide +kernel
theorem dX10_thing_28 : decode cX10_thing 28 = .ok (.ifCond .ne 6, 3) := by decide +kernel
theorem dX10_thing_31 : decode cX10_thing 31 = .ok (.bipush (-2), 2) := by decide +kernel
theorem dX10_thing_33 : decode cX10_thing 33 = .ok (.ireturn, 1) := by decide +kernel
theorem dX10_thing_34 : decode cX10_thing 34 = .ok (.iload_n 3, 1) := by decide +kernel
theorem dX10_thing_35 : decode cX10_thing 35 = .ok (.bipush 10, 2) := by decide +kernel
theorem dX10_thing_37 : decode cX10_thing 37 = .ok (.if_icmp .lt 30, 3) := by decide +kernel
theorem dX10_thing_40 : decode cX10_thing 40 = .ok (.aload_n 0, 1) := by decide +kernel
theorem dX10_thing_41 : decode cX10_thing 41 = .ok (.iload_n 3, 1) := by decide +kernel
theorem dX10_thing_42 : decode cX10_thing 42 = .ok (.bipush 10, 2) := by decide +kernel
theorem dX10_thing_44 : decode cX10_thing 44 = .ok (.isub, 1) := by decide +kernel
theorem dX10_thing_45 : decode cX10_thing 45 = .ok (.invokevirtual 84, 3) := by decide +kernel
theorem dX10_thing_48 : decode cX10_thing 48 = .ok (.ifCond .eq 16, 3) := by decide +kernel
theorem dX10_thing_51 : decode cX10_thing 51 = .ok (.aload_n 0, 1) := by decide +kernel
theorem dX10_thing_52 : decode cX10_thing 52 = .ok (.iload_n 1, 1) := by decide +kernel
theorem dX10_thing_53 : decode cX10_thing 53 = .ok (.iload_n 2, 1) := by decide +kernel
theorem dX10_thing_54 : decode cX10_thing 54 = .ok (.iload_n 3, 1) := by decide +kernel
theorem dX10_thing_55 : decode cX10_thing 55 = .ok (.bipush 10, 2) := by decide +kernel
theorem dX10_thing_57 : decode cX10_thing 57 = .ok (.isub, 1) := by decide +kernel
theorem dX10_thing_58 : decode cX10_thing 58 = .ok (.invokevirtual 161, 3) := by decide +kernel
theorem dX10_thing_61 : decode cX10_thing 61 = .ok (.goto 5, 3) := by decide +kernel
theorem dX10_thing_64 : decode cX10_thing 64 = .ok (.bipush (-9), 2) := by decide +kernel
theorem dX10_thing_66 : decode cX10_thing 66 = .ok (.ireturn, 1) := by decide +kernel
theorem dX10_thing_67 : decode cX10_thing 67 = .ok (.iload_n 3, 1) := by decide +kernel
theorem dX10_thing_68 : decode cX10_thing 68 = .ok (.iconst 2, 1) := by decide +kernel
theorem dX10_thing_69 : decode cX10_thing 69 = .ok (.if_icmp .ge 31, 3) := by decide +kernel
theorem dX10_thing_72 : decode cX10_thing 72 = .ok (.iload_n 3, 1) := by decide +kernel
theorem dX10_thing_73 : decode cX10_thing 73 = .ok (.ifCond .ne 16, 3) := by decide +kernel
theorem dX10_thing_76 : decode cX10_thing 76 = .ok (.aload_n 0, 1) := by decide +kernel
theorem dX10_thing_77 : decode cX10_thing 77 = .ok (.getfield 25, 3) := by decide +kernel
theorem dX10_thing_80 : decode cX10_thing 80 = .ok (.iconst 5, 1) := by decide +kernel
theorem dX10_thing_81 : decode cX10_thing 81 = .ok (.iload_n 1, 1) := by decide +kernel
theorem dX10_thing_82 : decode cX10_thing 82 = .ok (.imul, 1) := by decide +kernel
theorem dX10_thing_83 : decode cX10_thing 83 = .ok (.iload_n 2, 1) := by decide +kernel
theorem dX10_thing_84 : decode cX10_thing 84 = .ok (.iadd, 1) := by decide +kernel
theorem dX10_thing_85 : decode cX10_thing 85 = .ok (.iaload, 1) := by decide +kernel
theorem dX10_thing_86 : decode cX10_thing 86 = .ok (.goto 13, 3) := by decide +kernel
theorem dX10_thing_89 : decode cX10_thing 89 = .ok (.aload_n 0, 1) := by decide +kernel
theorem dX10_thing_90 : decode cX10_thing 90 = .ok (.getfield 28, 3) := by decide +kernel
theorem dX10_thing_93 : decode cX10_thing 93 = .ok (.iconst 5, 1) := by decide +kernel
theorem dX10_thing_94 : decode cX10_thing 94 = .ok (.iload_n 1, 1) := by decide +kernel
theorem dX10_thing_95 : decode cX10_thing 95 = .ok (.imul, 1) := by decide +kernel
theorem dX10_thing_96 : decode cX10_thing 96 = .ok (.iload_n 2, 1) := by decide +kernel
theorem dX10_thing_97 : decode cX10_thing 97 = .ok (.iadd, 1) := by decide +kernel
theorem dX10_thing_98 : decode cX10_thing 98 = .ok (.iaload, 1) := by decide +kernel
theorem dX10_thing_99 : decode cX10_thing 99 = .ok (.ireturn, 1) := by decide +kernel
theorem dX10_thing_100 : decode cX10_thing 100 = .ok (.iconst 0, 1) := by decide +kernel
theorem dX10_thing_101 : decode cX10_thing 101 = .ok (.istore 4, 2) := by decide +kernel
theorem dX10_thing_103 : decode cX10_thing 103 = .ok (.iconst 0, 1) := by decide +kernel
theorem dX10_thing_104 : decode cX10_thing 104 = .ok (.istore 5, 2) := by decide +kernel
theorem dX10_thing_106 : decode cX10_thing 106 = .ok (.iload 5, 2) := by decide +kernel
theorem dX10_thing_108 : decode cX10_thing 108 = .ok (.aload_n 0, 1) := by decide +kernel
theorem dX10_thing_109 : decode cX10_thing 109 = .ok (.getfield 81, 3) := by decide +kernel
theorem dX10_thing_112 : decode cX10_thing 112 = .ok (.if_icmp .ge 22, 3) := by decide +kernel
theorem dX10_thing_115 : decode cX10_thing 115 = .ok (.iload 4, 2) := by decide +kernel
theorem dX10_thing_117 : decode cX10_thing 117 = .ok (.aload_n 0, 1) := by decide +kernel
theorem dX10_thing_118 : decode cX10_thing 118 = .ok (.iload_n 1, 1) := by decide +kernel
theorem dX10_thing_119 : decode cX10_thing 119 = .ok (.iload_n 2, 1) := by decide +kernel
theorem dX10_thing_120 : decode cX10_thing 120 = .ok (.iload 5, 2) := by decide +kernel
theorem dX10_thing_122 : decode cX10_thing 122 = .ok (.invokevirtual 161, 3) := by decide +kernel
theorem dX10_thing_125 : decode cX10_thing 125 = .ok (.iadd, 1) := by decide +kernel
theorem dX10_thing_126 : decode cX10_thing 126 = .ok (.istore 4, 2) := by decide +kernel
theorem dX10_thing_128 : decode cX10_thing 128 = .ok (.iinc 5 1, 3) := by decide +kernel
theorem dX10_thing_131 : decode cX10_thing 131 = .ok (.goto (-25), 3) := by decide +kernel
theorem dX10_thing_134 : decode cX10_thing 134 = .ok (.iload 4, 2) := by decide +kernel
theorem dX10_thing_136 : decode cX10_thing 136 = .ok (.ireturn, 1) := by decide +kernel
def bk_X10_thing_0 (l : Launch) (g : Gm) (G : Nat → CT) (P : PT) : CT := (oALd 0 (oILd 1 (oILd 2 (oCallV l g [(10, d_X10_isThing)] 3 (oIf (fun x => x = 0) (oPush (.int (-1)) (oIRet P)) (oILd 3 (oPush (.int (0)) (oPush (.int (2)) (oCall l g d_X10_within 3 (oIf (fun x => x = 0) (oILd 3 (oPush (.int (10)) (oPush (.int (13)) (oCall l g d_X10_within 3 (oIf (fun x => x = 0) (oPush (.int (-2)) (oIRet P)) (G 1)))))) (G 1)))))))))))
def bk_X10_thing_1 (l : Launch) (g : Gm) (G : Nat → CT) (P : PT) : CT := (oILd 3 (oPush (.int (10)) (oCmp (fun x y => x < y) (oILd 3 (oPush (.int (2)) (oCmp (fun x y => y ≤ x) (oPush (.int (0)) (oISt 4 (oPush (.int (0)) (oISt 5 (G 2))))) (oILd 3 (oIf (fun x => x = 0) (oALd 0 (oGet [10] 8 (oPush (.int (5)) (oILd 1 (oBin (fun x y => x * y) (oILd 2 (oBin (fun x y => x + y) (oIAL g (oGo (oIRet P)))))))))) (oALd 0 (oGet [10] 9 (oPush (.int (5)) (oILd 1 (oBin (fun x y => x * y) (oILd 2 (oBin (fun x y => x + y) (oIAL g (oIRet P)))))))))))))) (oALd 0 (oILd 3 (oPush (.int (10)) (oBin (fun x y => x - y) (oCallV l g [(10, d_X10_isVillage)] 2 (oIf (fun x => x = 0) (oPush (.int (-9)) (oIRet P)) (oALd 0 (oILd 1 (oILd 2 (oILd 3 (oPush (.int (10)) (oBin (fun x y => x - y) (oCallV l g [(10, d_X10_aheadOf)] 4 (oGo (oIRet P))))))))))))))))))
def bk_X10_thing_2 (l : Launch) (g : Gm) (G : Nat → CT) (P : PT) : CT := (oILd 5 (oALd 0 (oGet [10] 5 (oCmp (fun x y => y ≤ x) (oILd 4 (oIRet P)) (oILd 4 (oALd 0 (oILd 1 (oILd 2 (oILd 5 (oCallV l g [(10, d_X10_aheadOf)] 4 (oBin (fun x y => x + y) (oISt 4 (oInc 5 (1) (oGo (G 2)))))))))))))))
def bk_X10_thing (l : Launch) (g : Gm) (b : Nat) (G : Nat → CT) (P : PT) : CT := match b with
  | 0 => bk_X10_thing_0 l g G P
  | 1 => bk_X10_thing_1 l g G P
  | 2 => bk_X10_thing_2 l g G P
  | _ => fun _ _ _ _ _ => False
def pc_X10_thing (b : Nat) : Nat := match b with
  | 0 => 0
  | 1 => 34
  | 2 => 106
  | _ => 0
set_option maxRecDepth 100000 in
theorem sb_X10_thing_0 {p : Program} {l : Launch} {e : Env} {s : State} {m : MethodId} {args : Array Value} {below : List Frame} {meth : Method} {c : Code} {g : Gm} {h0 : Hp} {P : PT} {mc ms : Nat} (X : Cx g p s m args meth c (Adom h0 s.heap.size) cX10_thing RX10 6) (hr : meth.sig.returnType = some .int) (hn : meth.name = "thing") : SX g p l e s m args below meth c d_X10_thing 6 mc ms h0 P (bk_X10_thing_0 l g (fun b => GX g p l e s m args below meth c d_X10_thing 6 mc ms h0 P (pc_X10_thing b)) P) 0 := (s_aload_n X dX10_thing_0 rfl (s_iload_n X dX10_thing_1 rfl (s_iload_n X dX10_thing_2 rfl (s_callV X dX10_thing_3 (mv (vok_V X rfl uw_892 uw_894 (UW_pr 36 rfl rfl) uw_7 ci_X10_isThing yok_X10_isThing ⟨Nat.le_of_ble_eq_true rfl, Nat.le_of_ble_eq_true rfl⟩) mv0) (s_if_ne X dX10_thing_6 (by decide) (s_iload_n X dX10_thing_11 rfl (s_iconst X dX10_thing_12 rfl (s_iconst X dX10_thing_13 rfl (s_callS X dX10_thing_14 uw_798 uw_799 uw_7 ci_X10_within yok_X10_within ⟨Nat.le_of_ble_eq_true rfl, Nat.le_of_ble_eq_true rfl⟩ (s_if_ne X dX10_thing_17 (by decide) Sd.rf (s_iload_n X dX10_thing_20 rfl (s_bipush X dX10_thing_21 rfl (s_bipush X dX10_thing_23 rfl (s_callS X dX10_thing_25 uw_798 uw_799 uw_7 ci_X10_within yok_X10_within ⟨Nat.le_of_ble_eq_true rfl, Nat.le_of_ble_eq_true rfl⟩ (s_if_ne X dX10_thing_28 (by decide) Sd.rf (s_bipush X dX10_thing_31 rfl (s_iret X hr dX10_thing_33)))))))))))) (s_iconst X dX10_thing_9 rfl (s_iret X hr dX10_thing_10)))))))
set_option maxRecDepth 100000 in
theorem sb_X10_thing_1 {p : Program} {l : Launch} {e : Env} {s : State} {m : MethodId} {args : Array Value} {below : List Frame} {meth : Method} {c : Code} {g : Gm} {h0 : Hp} {P : PT} {mc ms : Nat} (X : Cx g p s m args meth c (Adom h0 s.heap.size) cX10_thing RX10 6) (hr : meth.sig.returnType = some .int) (hn : meth.name = "thing") : SX g p l e s m args below meth c d_X10_thing 6 mc ms h0 P (bk_X10_thing_1 l g (fun b => GX g p l e s m args below meth c d_X10_thing 6 mc ms h0 P (pc_X10_thing b)) P) 34 := (s_iload_n X dX10_thing_34 rfl (s_bipush X dX10_thing_35 rfl (s_icmp_lt X dX10_thing_37 (by decide) (s_iload_n X dX10_thing_67 rfl (s_iconst X dX10_thing_68 rfl (s_icmp_ge X dX10_thing_69 (by decide) (s_iconst X dX10_thing_100 rfl (s_istore X dX10_thing_101 (by decide) (s_iconst X dX10_thing_103 rfl (s_istore X dX10_thing_104 (by decide) Sd.rf)))) (s_iload_n X dX10_thing_72 rfl (s_if_ne X dX10_thing_73 (by decide) (s_aload_n X dX10_thing_89 rfl (s_get X dX10_thing_90 (mcn (⟨_, _, _, _, rfl, inU_X10, by decide, uw_718, rfl⟩) (mnl)) (s_iconst X dX10_thing_93 rfl (s_iload_n X dX10_thing_94 rfl (s_imul X dX10_thing_95 (s_iload_n X dX10_thing_96 rfl (s_iadd X dX10_thing_97 (s_iaload X dX10_thing_98 (s_iret X hr dX10_thing_99))))))))) (s_aload_n X dX10_thing_76 rfl (s_get X dX10_thing_77 (mcn (⟨_, _, _, _, rfl, inU_X10, by decide, uw_717, rfl⟩) (mnl)) (s_iconst X dX10_thing_80 rfl (s_iload_n X dX10_thing_81 rfl (s_imul X dX10_thing_82 (s_iload_n X dX10_thing_83 rfl (s_iadd X dX10_thing_84 (s_iaload X dX10_thing_85 (s_goto X dX10_thing_86 (by decide) (s_iret X hr dX10_thing_99))))))))))))))) (s_aload_n X dX10_thing_40 rfl (s_iload_n X dX10_thing_41 rfl (s_bipush X dX10_thing_42 rfl (s_isub X dX10_thing_44 (s_callV X dX10_thing_45 (mv (vok_V X rfl uw_864 uw_866 (UW_pr 30 rfl rfl) uw_7 ci_X10_isVillage yok_X10_isVillage ⟨Nat.le_of_ble_eq_true rfl, Nat.le_of_ble_eq_true rfl⟩) mv0) (s_if_eq X dX10_thing_48 (by decide) (s_bipush X dX10_thing_64 rfl (s_iret X hr dX10_thing_66)) (s_aload_n X dX10_thing_51 rfl (s_iload_n X dX10_thing_52 rfl (s_iload_n X dX10_thing_53 rfl (s_iload_n X dX10_thing_54 rfl (s_bipush X dX10_thing_55 rfl (s_isub X dX10_thing_57 (s_callV X dX10_thing_58 (mv (vok_V X rfl uw_884 uw_886 (UW_pr 35 rfl rfl) uw_7 ci_X10_aheadOf yok_X10_aheadOf ⟨Nat.le_of_ble_eq_true rfl, Nat.le_of_ble_eq_true rfl⟩) mv0) (s_goto X dX10_thing_61 (by decide) (s_iret X hr dX10_thing_66))))))))))))))))))
set_option maxRecDepth 100000 in
theorem sb_X10_thing_2 {p : Program} {l : Launch} {e : Env} {s : State} {m : MethodId} {args : Array Value} {below : List Frame} {meth : Method} {c : Code} {g : Gm} {h0 : Hp} {P : PT} {mc ms : Nat} (X : Cx g p s m args meth c (Adom h0 s.heap.size) cX10_thing RX10 6) (hr : meth.sig.returnType = some .int) (hn : meth.name = "thing") : SX g p l e s m args below meth c d_X10_thing 6 mc ms h0 P (bk_X10_thing_2 l g (fun b => GX g p l e s m args below meth c d_X10_thing 6 mc ms h0 P (pc_X10_thing b)) P) 106 := (s_iload X dX10_thing_106 (s_aload_n X dX10_thing_108 rfl (s_get X dX10_thing_109 (mcn (⟨_, _, _, _, rfl, inU_X10, by decide, uw_714, rfl⟩) (mnl)) (s_icmp_ge X dX10_thing_112 (by decide) (s_iload X dX10_thing_134 (s_iret X hr dX10_thing_136)) (s_iload X dX10_thing_115 (s_aload_n X dX10_thing_117 rfl (s_iload_n X dX10_thing_118 rfl (s_iload_n X dX10_thing_119 rfl (s_iload X dX10_thing_120 (s_callV X dX10_thing_122 (mv (vok_V X rfl uw_884 uw_886 (UW_pr 35 rfl rfl) uw_7 ci_X10_aheadOf yok_X10_aheadOf ⟨Nat.le_of_ble_eq_true rfl, Nat.le_of_ble_eq_true rfl⟩) mv0) (s_iadd X dX10_thing_125 (s_istore X dX10_thing_126 (by decide) (s_iinc X dX10_thing_128 rfl (by decide) (s_goto X dX10_thing_131 (by decide) Sd.rf))))))))))))))
set_option maxRecDepth 100000 in
theorem vc_X10_thing {l : Launch} {g : Gm} {a0 : Nat} {a1 : Int32} {a2 : Int32} {a3 : Int32} {h : Hp} {mc ms : Nat} {P : PT} (H : ∀ G : Nat → CT, (∀ (b : Nat) (h : Hp) (cb sb : Nat) (ls : LocS) (st : List Value), bk_X10_thing l g b G P h cb sb ls st → G b h cb sb ls st) → G 0 h mc ms [some (.ref a0), some (.int a1), some (.int a2), some (.int a3), none, none] []) : Run l g d_X10_thing [.ref a0, .int a1, .int a2, .int a3] h mc ms P :=
  Run.of (d := d_X10_thing) (by decide) (mcn rfl (mcn rfl (mcn rfl (mcn rfl (mnl))))) (Nat.le_of_ble_eq_true rfl) (fun p e s m args below meth c X hr hn => H (fun b => GX g p l e s m args below meth c d_X10_thing 6 mc ms h P (pc_X10_thing b)) (fun b h1 cb sb ls st hb => match b, hb with
    | 0, hb => sb_X10_thing_0 (p := p) (e := e) (below := below) X hr hn h1 cb sb ls st hb
    | 1, hb => sb_X10_thing_1 (p := p) (e := e) (below := below) X hr hn h1 cb sb ls st hb
    | 2, hb => sb_X10_thing_2 (p := p) (e := e) (below := below) X hr hn h1 cb sb ls st hb
    | _ + 3, hb => hb.elim))
theorem dX10_ahead_0 : decode cX10_ahead 0 = .ok (.aload_n 0, 1) := by decide +kernel
theorem dX10_ahead_1 : decode cX10_ahead 1 = .ok (.iload_n 1, 1) := by decide +kernel
theorem dX10_ahead_2 : decode cX10_ahead 2 = .ok (.iload_n 2, 1) := by decide +kernel
theorem dX10_ahead_3 : decode cX10_ahead 3 = .ok (.invokevirtual 171, 3) := by decide +kernel
theorem dX10_ahead_6 : decode cX10_ahead 6 = .ok (.ifCond .eq 13, 3) := by decide +kernel
theorem dX10_ahead_9 : decode cX10_ahead 9 = .ok (.aload_n 0, 1) := by decide +kernel
theorem dX10_ahead_10 : decode cX10_ahead 10 = .ok (.iload_n 3, 1) := by decide +kernel
theorem dX10_ahead_11 : decode cX10_ahead 11 = .ok (.iload 4, 2) := by decide +kernel
theorem dX10_ahead_13 : decode cX10_ahead 13 = .ok (.invokevirtual 171, 3) := by decide +kernel
theorem dX10_ahead_16 : decode cX10_ahead 16 = .ok (.ifCond .ne 5, 3) := by decide +kernel
theorem dX10_ahead_19 : decode cX10_ahead 19 = .ok (.iconst (-1), 1) := by decide +kernel
theorem dX10_ahead_20 : decode cX10_ahead 20 = .ok (.ireturn, 1) := by decide +kernel
theorem dX10_ahead_21 : decode cX10_ahead 21 = .ok (.iload_n 1, 1) := by decide +kernel
theorem dX10_ahead_22 : decode cX10_ahead 22 = .ok (.iload_n 3, 1) := by decide +kernel
theorem dX10_ahead_23 : decode cX10_ahead 23 = .ok (.if_icmp .ne 11, 3) := by decide +kernel
theorem dX10_ahead_26 : decode cX10_ahead 26 = .ok (.iload_n 2, 1) := by decide +kernel
theorem dX10_ahead_27 : decode cX10_ahead 27 = .ok (.iload 4, 2) := by decide +kernel
theorem dX10_ahead_29 : decode cX10_ahead 29 = .ok (.if_icmp .ne 5, 3) := by decide +kernel
theorem dX10_ahead_32 : decode cX10_ahead 32 = .ok (.iconst 0, 1) := by decide +kernel
theorem dX10_ahead_33 : decode cX10_ahead 33 = .ok (.ireturn, 1) := by decide +kernel
theorem dX10_ahead_34 : decode cX10_ahead 34 = .ok (.aload_n 0, 1) := by decide +kernel
theorem dX10_ahead_35 : decode cX10_ahead 35 = .ok (.iload_n 3, 1) := by decide +kernel
theorem dX10_ahead_36 : decode cX10_ahead 36 = .ok (.iload 4, 2) := by decide +kernel
theorem dX10_ahead_38 : decode cX10_ahead 38 = .ok (.iload_n 1, 1) := by decide +kernel
theorem dX10_ahead_39 : decode cX10_ahead 39 = .ok (.invokevirtual 161, 3) := by decide +kernel
theorem dX10_ahead_42 : decode cX10_ahead 42 = .ok (.iload_n 2, 1) := by decide +kernel
theorem dX10_ahead_43 : decode cX10_ahead 43 = .ok (.if_icmp .le 7, 3) := by decide +kernel
theorem dX10_ahead_46 : decode cX10_ahead 46 = .ok (.iconst 1, 1) := by decide +kernel
theorem dX10_ahead_47 : decode cX10_ahead 47 = .ok (.goto 20, 3) := by decide +kernel
theorem dX10_ahead_50 : decode cX10_ahead 50 = .ok (.aload_n 0, 1) := by decide +kernel
theorem dX10_ahead_51 : decode cX10_ahead 51 = .ok (.iload_n 1, 1) := by decide +kernel
theorem dX10_ahead_52 : decode cX10_ahead 52 = .ok (.iload_n 2, 1) := by decide +kernel
theorem dX10_ahead_53 : decode cX10_ahead 53 = .ok (.iload_n 3, 1) := by decide +kernel
theorem dX10_ahead_54 : decode cX10_ahead 54 = .ok (.invokevirtual 161, 3) := by decide +kernel
theorem dX10_ahead_57 : decode cX10_ahead 57 = .ok (.iload 4, 2) := by decide +kernel
theorem dX10_ahead_59 : decode cX10_ahead 59 = .ok (.if_icmp .le 7, 3) := by decide +kernel
theorem dX10_ahead_62 : decode cX10_ahead 62 = .ok (.iconst 2, 1) := by decide +kernel
theorem dX10_ahead_63 : decode cX10_ahead 63 = .ok (.goto 4, 3) := by decide +kernel
theorem dX10_ahead_66 : decode cX10_ahead 66 = .ok (.iconst 3, 1) := by decide +kernel
theorem dX10_ahead_67 : decode cX10_ahead 67 = .ok (.ireturn, 1) := by decide +kernel
def bk_X10_ahead_0 (l : Launch) (g : Gm) (G : Nat → CT) (P : PT) : CT := (oALd 0 (oILd 1 (oILd 2 (oCallV l g [(10, d_X10_isThing)] 3 (oIf (fun x => x = 0) (oPush (.int (-1)) (oIRet P)) (oALd 0 (oILd 3 (oILd 4 (oCallV l g [(10, d_X10_isThing)] 3 (oIf (fun x => x = 0) (oPush (.int (-1)) (oIRet P)) (oILd 1 (oILd 3 (oCmp (fun x y => x = y) (oILd 2 (oILd 4 (oCmp (fun x y => x = y) (oPush (.int (0)) (oIRet P)) (G 1)))) (G 1))))))))))))))
def bk_X10_ahead_1 (l : Launch) (g : Gm) (G : Nat → CT) (P : PT) : CT := (oALd 0 (oILd 3 (oILd 4 (oILd 1 (oCallV l g [(10, d_X10_aheadOf)] 4 (oILd 2 (oCmp (fun x y => x ≤ y) (oALd 0 (oILd 1 (oILd 2 (oILd 3 (oCallV l g [(10, d_X10_aheadOf)] 4 (oILd 4 (oCmp (fun x y => x ≤ y) (oPush (.int (3)) (oIRet P)) (oPush (.int (2)) (oGo (oIRet P)))))))))) (oPush (.int (1)) (oGo (oIRet P))))))))))
def bk_X10_ahead (l : Launch) (g : Gm) (b : Nat) (G : Nat → CT) (P : PT) : CT := match b with
  | 0 => bk_X10_ahead_0 l g G P
  | 1 => bk_X10_ahead_1 l g G P
  | _ => fun _ _ _ _ _ => False
def pc_X10_ahead (b : Nat) : Nat := match b with
  | 0 => 0
  | 1 => 34
  | _ => 0
set_option maxRecDepth 100000 in
theorem sb_X10_ahead_0 {p : Program} {l : Launch} {e : Env} {s : State} {m : MethodId} {args : Array Value} {below : List Frame} {meth : Method} {c : Code} {g : Gm} {h0 : Hp} {P : PT} {mc ms : Nat} (X : Cx g p s m args meth c (Adom h0 s.heap.size) cX10_ahead RX10 5) (hr : meth.sig.returnType = some .int) (hn : meth.name = "ahead") : SX g p l e s m args below meth c d_X10_ahead 5 mc ms h0 P (bk_X10_ahead_0 l g (fun b => GX g p l e s m args below meth c d_X10_ahead 5 mc ms h0 P (pc_X10_ahead b)) P) 0 := (s_aload_n X dX10_ahead_0 rfl (s_iload_n X dX10_ahead_1 rfl (s_iload_n X dX10_ahead_2 rfl (s_callV X dX10_ahead_3 (mv (vok_V X rfl uw_892 uw_894 (UW_pr 36 rfl rfl) uw_7 ci_X10_isThing yok_X10_isThing ⟨Nat.le_of_ble_eq_true rfl, Nat.le_of_ble_eq_true rfl⟩) mv0) (s_if_eq X dX10_ahead_6 (by decide) (s_iconst X dX10_ahead_19 rfl (s_iret X hr dX10_ahead_20)) (s_aload_n X dX10_ahead_9 rfl (s_iload_n X dX10_ahead_10 rfl (s_iload X dX10_ahead_11 (s_callV X dX10_ahead_13 (mv (vok_V X rfl uw_892 uw_894 (UW_pr 36 rfl rfl) uw_7 ci_X10_isThing yok_X10_isThing ⟨Nat.le_of_ble_eq_true rfl, Nat.le_of_ble_eq_true rfl⟩) mv0) (s_if_ne X dX10_ahead_16 (by decide) (s_iload_n X dX10_ahead_21 rfl (s_iload_n X dX10_ahead_22 rfl (s_icmp_ne X dX10_ahead_23 (by decide) Sd.rf (s_iload_n X dX10_ahead_26 rfl (s_iload X dX10_ahead_27 (s_icmp_ne X dX10_ahead_29 (by decide) Sd.rf (s_iconst X dX10_ahead_32 rfl (s_iret X hr dX10_ahead_33)))))))) (s_iconst X dX10_ahead_19 rfl (s_iret X hr dX10_ahead_20))))))))))))
set_option maxRecDepth 100000 in
theorem sb_X10_ahead_1 {p : Program} {l : Launch} {e : Env} {s : State} {m : MethodId} {args : Array Value} {below : List Frame} {meth : Method} {c : Code} {g : Gm} {h0 : Hp} {P : PT} {mc ms : Nat} (X : Cx g p s m args meth c (Adom h0 s.heap.size) cX10_ahead RX10 5) (hr : meth.sig.returnType = some .int) (hn : meth.name = "ahead") : SX g p l e s m args below meth c d_X10_ahead 5 mc ms h0 P (bk_X10_ahead_1 l g (fun b => GX g p l e s m args below meth c d_X10_ahead 5 mc ms h0 P (pc_X10_ahead b)) P) 34 := (s_aload_n X dX10_ahead_34 rfl (s_iload_n X dX10_ahead_35 rfl (s_iload X dX10_ahead_36 (s_iload_n X dX10_ahead_38 rfl (s_callV X dX10_ahead_39 (mv (vok_V X rfl uw_884 uw_886 (UW_pr 35 rfl rfl) uw_7 ci_X10_aheadOf yok_X10_aheadOf ⟨Nat.le_of_ble_eq_true rfl, Nat.le_of_ble_eq_true rfl⟩) mv0) (s_iload_n X dX10_ahead_42 rfl (s_icmp_le X dX10_ahead_43 (by decide) (s_aload_n X dX10_ahead_50 rfl (s_iload_n X dX10_ahead_51 rfl (s_iload_n X dX10_ahead_52 rfl (s_iload_n X dX10_ahead_53 rfl (s_callV X dX10_ahead_54 (mv (vok_V X rfl uw_884 uw_886 (UW_pr 35 rfl rfl) uw_7 ci_X10_aheadOf yok_X10_aheadOf ⟨Nat.le_of_ble_eq_true rfl, Nat.le_of_ble_eq_true rfl⟩) mv0) (s_iload X dX10_ahead_57 (s_icmp_le X dX10_ahead_59 (by decide) (s_iconst X dX10_ahead_66 rfl (s_iret X hr dX10_ahead_67)) (s_iconst X dX10_ahead_62 rfl (s_goto X dX10_ahead_63 (by decide) (s_iret X hr dX10_ahead_67)))))))))) (s_iconst X dX10_ahead_46 rfl (s_goto X dX10_ahead_47 (by decide) (s_iret X hr dX10_ahead_67))))))))))
set_option maxRecDepth 100000 in
theorem vc_X10_ahead {l : Launch} {g : Gm} {a0 : Nat} {a1 : Int32} {a2 : Int32} {a3 : Int32} {a4 : Int32} {h : Hp} {mc ms : Nat} {P : PT} (H : ∀ G : Nat → CT, (∀ (b : Nat) (h : Hp) (cb sb : Nat) (ls : LocS) (st : List Value), bk_X10_ahead l g b G P h cb sb ls st → G b h cb sb ls st) → G 0 h mc ms [some (.ref a0), some (.int a1), some (.int a2), some (.int a3), some (.int a4)] []) : Run l g d_X10_ahead [.ref a0, .int a1, .int a2, .int a3, .int a4] h mc ms P :=
  Run.of (d := d_X10_ahead) (by decide) (mcn rfl (mcn rfl (mcn rfl (mcn rfl (mcn rfl (mnl)))))) (Nat.le_of_ble_eq_true rfl) (fun p e s m args below meth c X hr hn => H (fun b => GX g p l e s m args below meth c d_X10_ahead 5 mc ms h P (pc_X10_ahead b)) (fun b h1 cb sb ls st hb => match b, hb with
    | 0, hb => sb_X10_ahead_0 (p := p) (e := e) (below := below) X hr hn h1 cb sb ls st hb
    | 1, hb => sb_X10_ahead_1 (p := p) (e := e) (below := below) X hr hn h1 cb sb ls st hb
    | _ + 2, hb => hb.elim))
theorem dX10_happen_0 : decode cX10_happen 0 = .ok (.aload_n 0, 1) := by decide +kernel
theorem dX10_happen_1 : decode cX10_happen 1 = .ok (.iload_n 1, 1) := by decide +kernel
theorem dX10_happen_2 : decode cX10_happen 2 = .ok (.invokevirtual 84, 3) := by decide +kernel
theorem dX10_happen_5 : decode cX10_happen 5 = .ok (.ifCond .ne 5, 3) := by decide +kernel
theorem dX10_happen_8 : decode cX10_happen 8 = .ok (.iconst (-1), 1) := by decide +kernel
theorem dX10_happen_9 : decode cX10_happen 9 = .ok (.ireturn, 1) := by decide +kernel
theorem dX10_happen_10 : decode cX10_happen 10 = .ok (.aload_n 0, 1) := by decide +kernel
theorem dX10_happen_11 : decode cX10_happen 11 = .ok (.invokevirtual 165, 3) := by decide +kernel
theorem dX10_happen_14 : decode cX10_happen 14 = .ok (.aload_n 0, 1) := by decide +kernel
theorem dX10_happen_15 : decode cX10_happen 15 = .ok (.iload_n 1, 1) := by decide +kernel
theorem dX10_happen_16 : decode cX10_happen 16 = .ok (.invokevirtual 168, 3) := by decide +kernel
theorem dX10_happen_19 : decode cX10_happen 19 = .ok (.ifCond .ne 6, 3) := by decide +kernel
theorem dX10_happen_22 : decode cX10_happen 22 = .ok (.bipush (-3), 2) := by decide +kernel
theorem dX10_happen_24 : decode cX10_happen 24 = .ok (.ireturn, 1) := by decide +kernel
theorem dX10_happen_25 : decode cX10_happen 25 = .ok (.aload_n 0, 1) := by decide +kernel
theorem dX10_happen_26 : decode cX10_happen 26 = .ok (.getfield 34, 3) := by decide +kernel
theorem dX10_happen_29 : decode cX10_happen 29 = .ok (.iload_n 1, 1) := by decide +kernel
theorem dX10_happen_30 : decode cX10_happen 30 = .ok (.dup2, 1) := by decide +kernel
theorem dX10_happen_31 : decode cX10_happen 31 = .ok (.iaload, 1) := by decide +kernel
theorem dX10_happen_32 : decode cX10_happen 32 = .ok (.iconst 1, 1) := by decide +kernel
theorem dX10_happen_33 : decode cX10_happen 33 = .ok (.iadd, 1) := by decide +kernel
theorem dX10_happen_34 : decode cX10_happen 34 = .ok (.iastore, 1) := by decide +kernel
theorem dX10_happen_35 : decode cX10_happen 35 = .ok (.aload_n 0, 1) := by decide +kernel
theorem dX10_happen_36 : decode cX10_happen 36 = .ok (.getfield 34, 3) := by decide +kernel
theorem dX10_happen_39 : decode cX10_happen 39 = .ok (.iload_n 1, 1) := by decide +kernel
theorem dX10_happen_40 : decode cX10_happen 40 = .ok (.iaload, 1) := by decide +kernel
theorem dX10_happen_41 : decode cX10_happen 41 = .ok (.iconst 1, 1) := by decide +kernel
theorem dX10_happen_42 : decode cX10_happen 42 = .ok (.isub, 1) := by decide +kernel
theorem dX10_happen_43 : decode cX10_happen 43 = .ok (.ireturn, 1) := by decide +kernel
def bk_X10_happen_0 (l : Launch) (g : Gm) (G : Nat → CT) (P : PT) : CT := (oALd 0 (oILd 1 (oCallV l g [(10, d_X10_isVillage)] 2 (oIf (fun x => x = 0) (oPush (.int (-1)) (oIRet P)) (oALd 0 (oCallV l g [(10, d_X10_takeNow)] 1 (oALd 0 (oILd 1 (oCallV l g [(10, d_X10_isReady)] 2 (oIf (fun x => x = 0) (oPush (.int (-3)) (oIRet P)) (oALd 0 (oGet [10] 11 (oILd 1 (oDup2 (oIAL g (oPush (.int (1)) (oBin (fun x y => x + y) (oIAS g (oALd 0 (oGet [10] 11 (oILd 1 (oIAL g (oPush (.int (1)) (oBin (fun x y => x - y) (oIRet P)))))))))))))))))))))))))
def bk_X10_happen (l : Launch) (g : Gm) (b : Nat) (G : Nat → CT) (P : PT) : CT := match b with
  | 0 => bk_X10_happen_0 l g G P
  | _ => fun _ _ _ _ _ => False
def pc_X10_happen (b : Nat) : Nat := match b with
  | 0 => 0
  | _ => 0
set_option maxRecDepth 100000 in
theorem sb_X10_happen_0 {p : Program} {l : Launch} {e : Env} {s : State} {m : MethodId} {args : Array Value} {below : List Frame} {meth : Method} {c : Code} {g : Gm} {h0 : Hp} {P : PT} {mc ms : Nat} (X : Cx g p s m args meth c (Adom h0 s.heap.size) cX10_happen RX10 2) (hr : meth.sig.returnType = some .int) (hn : meth.name = "happen") : SX g p l e s m args below meth c d_X10_happen 2 mc ms h0 P (bk_X10_happen_0 l g (fun b => GX g p l e s m args below meth c d_X10_happen 2 mc ms h0 P (pc_X10_happen b)) P) 0 := (s_aload_n X dX10_happen_0 rfl (s_iload_n X dX10_happen_1 rfl (s_callV X dX10_happen_2 (mv (vok_V X rfl uw_864 uw_866 (UW_pr 30 rfl rfl) uw_7 ci_X10_isVillage yok_X10_isVillage ⟨Nat.le_of_ble_eq_true rfl, Nat.le_of_ble_eq_true rfl⟩) mv0) (s_if_ne X dX10_happen_5 (by decide) (s_aload_n X dX10_happen_10 rfl (s_callV X dX10_happen_11 (mv (vok_V X rfl uw_868 uw_870 (UW_pr 31 rfl rfl) uw_7 ci_X10_takeNow yok_X10_takeNow ⟨Nat.le_of_ble_eq_true rfl, Nat.le_of_ble_eq_true rfl⟩) mv0) (s_aload_n X dX10_happen_14 rfl (s_iload_n X dX10_happen_15 rfl (s_callV X dX10_happen_16 (mv (vok_V X rfl uw_880 uw_882 (UW_pr 34 rfl rfl) uw_7 ci_X10_isReady yok_X10_isReady ⟨Nat.le_of_ble_eq_true rfl, Nat.le_of_ble_eq_true rfl⟩) mv0) (s_if_ne X dX10_happen_19 (by decide) (s_aload_n X dX10_happen_25 rfl (s_get X dX10_happen_26 (mcn (⟨_, _, _, _, rfl, inU_X10, by decide, uw_720, rfl⟩) (mnl)) (s_iload_n X dX10_happen_29 rfl (s_dup2 X dX10_happen_30 (s_iaload X dX10_happen_31 (s_iconst X dX10_happen_32 rfl (s_iadd X dX10_happen_33 (s_iastore X dX10_happen_34 (s_aload_n X dX10_happen_35 rfl (s_get X dX10_happen_36 (mcn (⟨_, _, _, _, rfl, inU_X10, by decide, uw_720, rfl⟩) (mnl)) (s_iload_n X dX10_happen_39 rfl (s_iaload X dX10_happen_40 (s_iconst X dX10_happen_41 rfl (s_isub X dX10_happen_42 (s_iret X hr dX10_happen_43))))))))))))))) (s_bipush X dX10_happen_22 rfl (s_iret X hr dX10_happen_24)))))))) (s_iconst X dX10_happen_8 rfl (s_iret X hr dX10_happen_9))))))
set_option maxRecDepth 100000 in
theorem vc_X10_happen {l : Launch} {g : Gm} {a0 : Nat} {a1 : Int32} {h : Hp} {mc ms : Nat} {P : PT} (H : ∀ G : Nat → CT, (∀ (b : Nat) (h : Hp) (cb sb : Nat) (ls : LocS) (st : List Value), bk_X10_happen l g b G P h cb sb ls st → G b h cb sb ls st) → G 0 h mc ms [some (.ref a0), some (.int a1)] []) : Run l g d_X10_happen [.ref a0, .int a1] h mc ms P :=
  Run.of (d := d_X10_happen) (by decide) (mcn rfl (mcn rfl (mnl))) (Nat.le_of_ble_eq_true rfl) (fun p e s m args below meth c X hr hn => H (fun b => GX g p l e s m args below meth c d_X10_happen 2 mc ms h P (pc_X10_happen b)) (fun b h1 cb sb ls st hb => match b, hb with
    | 0, hb => sb_X10_happen_0 (p := p) (e := e) (below := below) X hr hn h1 cb sb ls st hb
    | _ + 1, hb => hb.elim))
theorem dX10_anew_0 : decode cX10_anew 0 = .ok (.aload_n 0, 1) := by decide +kernel
theorem dX10_anew_1 : decode cX10_anew 1 = .ok (.getfield 81, 3) := by decide +kernel
theorem dX10_anew_4 : decode cX10_anew 4 = .ok (.ifCond .ne 6, 3) := by decide +kernel
theorem dX10_anew_7 : decode cX10_anew 7 = .ok (.bipush (-3), 2) := by decide +kernel
theorem dX10_anew_9 : decode cX10_anew 9 = .ok (.ireturn, 1) := by decide +kernel
theorem dX10_anew_10 : decode cX10_anew 10 = .ok (.aload_n 0, 1) := by decide +kernel
theorem dX10_anew_11 : decode cX10_anew 11 = .ok (.invokevirtual 165, 3) := by decide +kernel
theorem dX10_anew_14 : decode cX10_anew 14 = .ok (.iconst 0, 1) := by decide +kernel
theorem dX10_anew_15 : decode cX10_anew 15 = .ok (.istore_n 1, 1) := by decide +kernel
theorem dX10_anew_16 : decode cX10_anew 16 = .ok (.iload_n 1, 1) := by decide +kernel
theorem dX10_anew_17 : decode cX10_anew 17 = .ok (.aload_n 0, 1) := by decide +kernel
theorem dX10_anew_18 : decode cX10_anew 18 = .ok (.getfield 81, 3) := by decide +kernel
theorem dX10_anew_21 : decode cX10_anew 21 = .ok (.if_icmp .ge 16, 3) := by decide +kernel
theorem dX10_anew_24 : decode cX10_anew 24 = .ok (.aload_n 0, 1) := by decide +kernel
theorem dX10_anew_25 : decode cX10_anew 25 = .ok (.getfield 34, 3) := by decide +kernel
theorem dX10_anew_28 : decode cX10_anew 28 = .ok (.iload_n 1, 1) := by decide +kernel
theorem dX10_anew_29 : decode cX10_anew 29 = .ok (.iconst 0, 1) := by decide +kernel
theorem dX10_anew_30 : decode cX10_anew 30 = .ok (.iastore, 1) := by decide +kernel
theorem dX10_anew_31 : decode cX10_anew 31 = .ok (.iinc 1 1, 3) := by decide +kernel
theorem dX10_anew_34 : decode cX10_anew 34 = .ok (.goto (-18), 3) := by decide +kernel
theorem dX10_anew_37 : decode cX10_anew 37 = .ok (.aload_n 0, 1) := by decide +kernel
theorem dX10_anew_38 : decode cX10_anew 38 = .ok (.invokevirtual 174, 3) := by decide +kernel
theorem dX10_anew_41 : decode cX10_anew 41 = .ok (.ireturn, 1) := by decide +kernel
def bk_X10_anew_0 (l : Launch) (g : Gm) (G : Nat → CT) (P : PT) : CT := (oALd 0 (oGet [10] 5 (oIf (fun x => x = 0) (oPush (.int (-3)) (oIRet P)) (oALd 0 (oCallV l g [(10, d_X10_takeNow)] 1 (oPush (.int (0)) (oISt 1 (G 1))))))))
def bk_X10_anew_1 (l : Launch) (g : Gm) (G : Nat → CT) (P : PT) : CT := (oILd 1 (oALd 0 (oGet [10] 5 (oCmp (fun x y => y ≤ x) (oALd 0 (oCallV l g [(10, d_X10_inCut)] 1 (oIRet P))) (oALd 0 (oGet [10] 11 (oILd 1 (oPush (.int (0)) (oIAS g (oInc 1 (1) (oGo (G 1))))))))))))
def bk_X10_anew (l : Launch) (g : Gm) (b : Nat) (G : Nat → CT) (P : PT) : CT := match b with
  | 0 => bk_X10_anew_0 l g G P
  | 1 => bk_X10_anew_1 l g G P
  | _ => fun _ _ _ _ _ => False
def pc_X10_anew (b : Nat) : Nat := match b with
  | 0 => 0
  | 1 => 16
  | _ => 0
set_option maxRecDepth 100000 in
theorem sb_X10_anew_0 {p : Program} {l : Launch} {e : Env} {s : State} {m : MethodId} {args : Array Value} {below : List Frame} {meth : Method} {c : Code} {g : Gm} {h0 : Hp} {P : PT} {mc ms : Nat} (X : Cx g p s m args meth c (Adom h0 s.heap.size) cX10_anew RX10 2) (hr : meth.sig.returnType = some .int) (hn : meth.name = "anew") : SX g p l e s m args below meth c d_X10_anew 2 mc ms h0 P (bk_X10_anew_0 l g (fun b => GX g p l e s m args below meth c d_X10_anew 2 mc ms h0 P (pc_X10_anew b)) P) 0 := (s_aload_n X dX10_anew_0 rfl (s_get X dX10_anew_1 (mcn (⟨_, _, _, _, rfl, inU_X10, by decide, uw_714, rfl⟩) (mnl)) (s_if_ne X dX10_anew_4 (by decide) (s_aload_n X dX10_anew_10 rfl (s_callV X dX10_anew_11 (mv (vok_V X rfl uw_868 uw_870 (UW_pr 31 rfl rfl) uw_7 ci_X10_takeNow yok_X10_takeNow ⟨Nat.le_of_ble_eq_true rfl, Nat.le_of_ble_eq_true rfl⟩) mv0) (s_iconst X dX10_anew_14 rfl (s_istore_n X dX10_anew_15 rfl (by decide) Sd.rf)))) (s_bipush X dX10_anew_7 rfl (s_iret X hr dX10_anew_9)))))
set_option maxRecDepth 100000 in
theorem sb_X10_anew_1 {p : Program} {l : Launch} {e : Env} {s : State} {m : MethodId} {args : Array Value} {below : List Frame} {meth : Method} {c : Code} {g : Gm} {h0 : Hp} {P : PT} {mc ms : Nat} (X : Cx g p s m args meth c (Adom h0 s.heap.size) cX10_anew RX10 2) (hr : meth.sig.returnType = some .int) (hn : meth.name = "anew") : SX g p l e s m args below meth c d_X10_anew 2 mc ms h0 P (bk_X10_anew_1 l g (fun b => GX g p l e s m args below meth c d_X10_anew 2 mc ms h0 P (pc_X10_anew b)) P) 16 := (s_iload_n X dX10_anew_16 rfl (s_aload_n X dX10_anew_17 rfl (s_get X dX10_anew_18 (mcn (⟨_, _, _, _, rfl, inU_X10, by decide, uw_714, rfl⟩) (mnl)) (s_icmp_ge X dX10_anew_21 (by decide) (s_aload_n X dX10_anew_37 rfl (s_callV X dX10_anew_38 (mv (vok_V X rfl uw_908 uw_910 (UW_pr 37 rfl rfl) uw_7 ci_X10_inCut yok_X10_inCut ⟨Nat.le_of_ble_eq_true rfl, Nat.le_of_ble_eq_true rfl⟩) mv0) (s_iret X hr dX10_anew_41))) (s_aload_n X dX10_anew_24 rfl (s_get X dX10_anew_25 (mcn (⟨_, _, _, _, rfl, inU_X10, by decide, uw_720, rfl⟩) (mnl)) (s_iload_n X dX10_anew_28 rfl (s_iconst X dX10_anew_29 rfl (s_iastore X dX10_anew_30 (s_iinc X dX10_anew_31 rfl (by decide) (s_goto X dX10_anew_34 (by decide) Sd.rf)))))))))))
set_option maxRecDepth 100000 in
theorem vc_X10_anew {l : Launch} {g : Gm} {a0 : Nat} {h : Hp} {mc ms : Nat} {P : PT} (H : ∀ G : Nat → CT, (∀ (b : Nat) (h : Hp) (cb sb : Nat) (ls : LocS) (st : List Value), bk_X10_anew l g b G P h cb sb ls st → G b h cb sb ls st) → G 0 h mc ms [some (.ref a0), none] []) : Run l g d_X10_anew [.ref a0] h mc ms P :=
  Run.of (d := d_X10_anew) (by decide) (mcn rfl (mnl)) (Nat.le_of_ble_eq_true rfl) (fun p e s m args below meth c X hr hn => H (fun b => GX g p l e s m args below meth c d_X10_anew 2 mc ms h P (pc_X10_anew b)) (fun b h1 cb sb ls st hb => match b, hb with
    | 0, hb => sb_X10_anew_0 (p := p) (e := e) (below := below) X hr hn h1 cb sb ls st hb
    | 1, hb => sb_X10_anew_1 (p := p) (e := e) (below := below) X hr hn h1 cb sb ls st hb
    | _ + 2, hb => hb.elim))
theorem dX10_refusesCells_0 : decode cX10_refusesCells 0 = .ok (.iconst 0, 1) := by decide +kernel
theorem dX10_refusesCells_1 : decode cX10_refusesCells 1 = .ok (.istore_n 2, 1) := by decide +kernel
theorem dX10_refusesCells_2 : decode cX10_refusesCells 2 = .ok (.iload_n 2, 1) := by decide +kernel
theorem dX10_refusesCells_3 : decode cX10_refusesCells 3 = .ok (.aload_n 0, 1) := by decide +kernel
theorem dX10_refusesCells_4 : decode cX10_refusesCells 4 = .ok (.getfield 81, 3) := by decide +kernel
theorem dX10_refusesCells_7 : decode cX10_refusesCells 7 = .ok (.if_icmp .ge 33, 3) := by decide +kernel
theorem dX10_refusesCells_10 : decode cX10_refusesCells 10 = .ok (.aload_n 0, 1) := by decide +kernel
theorem dX10_refusesCells_11 : decode cX10_refusesCells 11 = .ok (.getfield 16, 3) := by decide +kernel
theorem dX10_refusesCells_14 : decode cX10_refusesCells 14 = .ok (.iload_n 1, 1) := by decide +kernel
theorem dX10_refusesCells_15 : decode cX10_refusesCells 15 = .ok (.iload_n 2, 1) := by decide +kernel
theorem dX10_refusesCells_16 : decode cX10_refusesCells 16 = .ok (.iadd, 1) := by decide +kernel
theorem dX10_refusesCells_17 : decode cX10_refusesCells 17 = .ok (.iaload, 1) := by decide +kernel
theorem dX10_refusesCells_18 : decode cX10_refusesCells 18 = .ok (.iconst 0, 1) := by decide +kernel
theorem dX10_refusesCells_19 : decode cX10_refusesCells 19 = .ok (.aload_n 0, 1) := by decide +kernel
theorem dX10_refusesCells_20 : decode cX10_refusesCells 20 = .ok (.getfield 22, 3) := by decide +kernel
theorem dX10_refusesCells_23 : decode cX10_refusesCells 23 = .ok (.iload_n 2, 1) := by decide +kernel
theorem dX10_refusesCells_24 : decode cX10_refusesCells 24 = .ok (.iaload, 1) := by decide +kernel
theorem dX10_refusesCells_25 : decode cX10_refusesCells 25 = .ok (.invokestatic 77, 3) := by decide +kernel
theorem dX10_refusesCells_28 : decode cX10_refusesCells 28 = .ok (.ifCond .ne 6, 3) := by decide +kernel
theorem dX10_refusesCells_31 : decode cX10_refusesCells 31 = .ok (.bipush (-2), 2) := by decide +kernel
theorem dX10_refusesCells_33 : decode cX10_refusesCells 33 = .ok (.ireturn, 1) := by decide +kernel
theorem dX10_refusesCells_34 : decode cX10_refusesCells 34 = .ok (.iinc 2 1, 3) := by decide +kernel
theorem dX10_refusesCells_37 : decode cX10_refusesCells 37 = .ok (.goto (-35), 3) := by decide +kernel
theorem dX10_refusesCells_40 : decode cX10_refusesCells 40 = .ok (.iconst 0, 1) := by decide +kernel
theorem dX10_refusesCells_41 : decode cX10_refusesCells 41 = .ok (.ireturn, 1) := by decide +kernel
def bk_X10_refusesCells_0 (l : Launch) (g : Gm) (G : Nat → CT) (P : PT) : CT := (oPush (.int (0)) (oISt 2 (G 1)))
def bk_X10_refusesCells_1 (l : Launch) (g : Gm) (G : Nat → CT) (P : PT) : CT := (oILd 2 (oALd 0 (oGet [10] 5 (oCmp (fun x y => y ≤ x) (oPush (.int (0)) (oIRet P)) (oALd 0 (oGet [10] 4 (oILd 1 (oILd 2 (oBin (fun x y => x + y) (oIAL g (oPush (.int (0)) (oALd 0 (oGet [10] 7 (oILd 2 (oIAL g (oCall l g d_X10_within 3 (oIf (fun x => x = 0) (oPush (.int (-2)) (oIRet P)) (oInc 2 (1) (oGo (G 1))))))))))))))))))))
def bk_X10_refusesCells (l : Launch) (g : Gm) (b : Nat) (G : Nat → CT) (P : PT) : CT := match b with
  | 0 => bk_X10_refusesCells_0 l g G P
  | 1 => bk_X10_refusesCells_1 l g G P
  | _ => fun _ _ _ _ _ => False
def pc_X10_refusesCells (b : Nat) : Nat := match b with
  | 0 => 0
  | 1 => 2
  | _ => 0
set_option maxRecDepth 100000 in
theorem sb_X10_refusesCells_0 {p : Program} {l : Launch} {e : Env} {s : State} {m : MethodId} {args : Array Value} {below : List Frame} {meth : Method} {c : Code} {g : Gm} {h0 : Hp} {P : PT} {mc ms : Nat} (X : Cx g p s m args meth c (Adom h0 s.heap.size) cX10_refusesCells RX10 3) (hr : meth.sig.returnType = some .int) (hn : meth.name = "refusesCells") : SX g p l e s m args below meth c d_X10_refusesCells 3 mc ms h0 P (bk_X10_refusesCells_0 l g (fun b => GX g p l e s m args below meth c d_X10_refusesCells 3 mc ms h0 P (pc_X10_refusesCells b)) P) 0 := (s_iconst X dX10_refusesCells_0 rfl (s_istore_n X dX10_refusesCells_1 rfl (by decide) Sd.rf))
set_option maxRecDepth 100000 in
theorem sb_X10_refusesCells_1 {p : Program} {l : Launch} {e : Env} {s : State} {m : MethodId} {args : Array Value} {below : List Frame} {meth : Method} {c : Code} {g : Gm} {h0 : Hp} {P : PT} {mc ms : Nat} (X : Cx g p s m args meth c (Adom h0 s.heap.size) cX10_refusesCells RX10 3) (hr : meth.sig.returnType = some .int) (hn : meth.name = "refusesCells") : SX g p l e s m args below meth c d_X10_refusesCells 3 mc ms h0 P (bk_X10_refusesCells_1 l g (fun b => GX g p l e s m args below meth c d_X10_refusesCells 3 mc ms h0 P (pc_X10_refusesCells b)) P) 2 := (s_iload_n X dX10_refusesCells_2 rfl (s_aload_n X dX10_refusesCells_3 rfl (s_get X dX10_refusesCells_4 (mcn (⟨_, _, _, _, rfl, inU_X10, by decide, uw_714, rfl⟩) (mnl)) (s_icmp_ge X dX10_refusesCells_7 (by decide) (s_iconst X dX10_refusesCells_40 rfl (s_iret X hr dX10_refusesCells_41)) (s_aload_n X dX10_refusesCells_10 rfl (s_get X dX10_refusesCells_11 (mcn (⟨_, _, _, _, rfl, inU_X10, by decide, uw_713, rfl⟩) (mnl)) (s_iload_n X dX10_refusesCells_14 rfl (s_iload_n X dX10_refusesCells_15 rfl (s_iadd X dX10_refusesCells_16 (s_iaload X dX10_refusesCells_17 (s_iconst X dX10_refusesCells_18 rfl (s_aload_n X dX10_refusesCells_19 rfl (s_get X dX10_refusesCells_20 (mcn (⟨_, _, _, _, rfl, inU_X10, by decide, uw_716, rfl⟩) (mnl)) (s_iload_n X dX10_refusesCells_23 rfl (s_iaload X dX10_refusesCells_24 (s_callS X dX10_refusesCells_25 uw_798 uw_799 uw_7 ci_X10_within yok_X10_within ⟨Nat.le_of_ble_eq_true rfl, Nat.le_of_ble_eq_true rfl⟩ (s_if_ne X dX10_refusesCells_28 (by decide) (s_iinc X dX10_refusesCells_34 rfl (by decide) (s_goto X dX10_refusesCells_37 (by decide) Sd.rf)) (s_bipush X dX10_refusesCells_31 rfl (s_iret X hr dX10_refusesCells_33)))))))))))))))))))
set_option maxRecDepth 100000 in
theorem vc_X10_refusesCells {l : Launch} {g : Gm} {a0 : Nat} {a1 : Int32} {h : Hp} {mc ms : Nat} {P : PT} (H : ∀ G : Nat → CT, (∀ (b : Nat) (h : Hp) (cb sb : Nat) (ls : LocS) (st : List Value), bk_X10_refusesCells l g b G P h cb sb ls st → G b h cb sb ls st) → G 0 h mc ms [some (.ref a0), some (.int a1), none] []) : Run l g d_X10_refusesCells [.ref a0, .int a1] h mc ms P :=
  Run.of (d := d_X10_refusesCells) (by decide) (mcn rfl (mcn rfl (mnl))) (Nat.le_of_ble_eq_true rfl) (fun p e s m args below meth c X hr hn => H (fun b => GX g p l e s m args below meth c d_X10_refusesCells 3 mc ms h P (pc_X10_refusesCells b)) (fun b h1 cb sb ls st hb => match b, hb with
    | 0, hb => sb_X10_refusesCells_0 (p := p) (e := e) (below := below) X hr hn h1 cb sb ls st hb
    | 1, hb => sb_X10_refusesCells_1 (p := p) (e := e) (below := below) X hr hn h1 cb sb ls st hb
    | _ + 2, hb => hb.elim))
theorem dX10_takeCells_0 : decode cX10_takeCells 0 = .ok (.iconst 0, 1) := by decide +kernel
theorem dX10_takeCells_1 : decode cX10_takeCells 1 = .ok (.istore_n 2, 1) := by decide +kernel
theorem dX10_takeCells_2 : decode cX10_takeCells 2 = .ok (.iload_n 2, 1) := by decide +kernel
theorem dX10_takeCells_3 : decode cX10_takeCells 3 = .ok (.aload_n 0, 1) := by decide +kernel
theorem dX10_takeCells_4 : decode cX10_takeCells 4 = .ok (.getfield 81, 3) := by decide +kernel
theorem dX10_takeCells_7 : decode cX10_takeCells 7 = .ok (.if_icmp .ge 23, 3) := by decide +kernel
theorem dX10_takeCells_10 : decode cX10_takeCells 10 = .ok (.aload_n 0, 1) := by decide +kernel
theorem dX10_takeCells_11 : decode cX10_takeCells 11 = .ok (.getfield 58, 3) := by decide +kernel
theorem dX10_takeCells_14 : decode cX10_takeCells 14 = .ok (.iload_n 2, 1) := by decide +kernel
theorem dX10_takeCells_15 : decode cX10_takeCells 15 = .ok (.aload_n 0, 1) := by decide +kernel
theorem dX10_takeCells_16 : decode cX10_takeCells 16 = .ok (.getfield 16, 3) := by decide +kernel
theorem dX10_takeCells_19 : decode cX10_takeCells 19 = .ok (.iload_n 1, 1) := by decide +kernel
theorem dX10_takeCells_20 : decode cX10_takeCells 20 = .ok (.iload_n 2, 1) := by decide +kernel
theorem dX10_takeCells_21 : decode cX10_takeCells 21 = .ok (.iadd, 1) := by decide +kernel
theorem dX10_takeCells_22 : decode cX10_takeCells 22 = .ok (.iaload, 1) := by decide +kernel
theorem dX10_takeCells_23 : decode cX10_takeCells 23 = .ok (.iastore, 1) := by decide +kernel
theorem dX10_takeCells_24 : decode cX10_takeCells 24 = .ok (.iinc 2 1, 3) := by decide +kernel
theorem dX10_takeCells_27 : decode cX10_takeCells 27 = .ok (.goto (-25), 3) := by decide +kernel
theorem dX10_takeCells_30 : decode cX10_takeCells 30 = .ok (.return_, 1) := by decide +kernel
def bk_X10_takeCells_0 (l : Launch) (g : Gm) (G : Nat → CT) (P : PT) : CT := (oPush (.int (0)) (oISt 2 (G 1)))
def bk_X10_takeCells_1 (l : Launch) (g : Gm) (G : Nat → CT) (P : PT) : CT := (oILd 2 (oALd 0 (oGet [10] 5 (oCmp (fun x y => y ≤ x) (oVRet P) (oALd 0 (oGet [10] 21 (oILd 2 (oALd 0 (oGet [10] 4 (oILd 1 (oILd 2 (oBin (fun x y => x + y) (oIAL g (oIAS g (oInc 2 (1) (oGo (G 1)))))))))))))))))
def bk_X10_takeCells (l : Launch) (g : Gm) (b : Nat) (G : Nat → CT) (P : PT) : CT := match b with
  | 0 => bk_X10_takeCells_0 l g G P
  | 1 => bk_X10_takeCells_1 l g G P
  | _ => fun _ _ _ _ _ => False
def pc_X10_takeCells (b : Nat) : Nat := match b with
  | 0 => 0
  | 1 => 2
  | _ => 0
set_option maxRecDepth 100000 in
theorem sb_X10_takeCells_0 {p : Program} {l : Launch} {e : Env} {s : State} {m : MethodId} {args : Array Value} {below : List Frame} {meth : Method} {c : Code} {g : Gm} {h0 : Hp} {P : PT} {mc ms : Nat} (X : Cx g p s m args meth c (Adom h0 s.heap.size) cX10_takeCells RX10 3) (hr : meth.sig.returnType = none) (hn : meth.name = "takeCells") : SX g p l e s m args below meth c d_X10_takeCells 3 mc ms h0 P (bk_X10_takeCells_0 l g (fun b => GX g p l e s m args below meth c d_X10_takeCells 3 mc ms h0 P (pc_X10_takeCells b)) P) 0 := (s_iconst X dX10_takeCells_0 rfl (s_istore_n X dX10_takeCells_1 rfl (by decide) Sd.rf))
set_option maxRecDepth 100000 in
theorem sb_X10_takeCells_1 {p : Program} {l : Launch} {e : Env} {s : State} {m : MethodId} {args : Array Value} {below : List Frame} {meth : Method} {c : Code} {g : Gm} {h0 : Hp} {P : PT} {mc ms : Nat} (X : Cx g p s m args meth c (Adom h0 s.heap.size) cX10_takeCells RX10 3) (hr : meth.sig.returnType = none) (hn : meth.name = "takeCells") : SX g p l e s m args below meth c d_X10_takeCells 3 mc ms h0 P (bk_X10_takeCells_1 l g (fun b => GX g p l e s m args below meth c d_X10_takeCells 3 mc ms h0 P (pc_X10_takeCells b)) P) 2 := (s_iload_n X dX10_takeCells_2 rfl (s_aload_n X dX10_takeCells_3 rfl (s_get X dX10_takeCells_4 (mcn (⟨_, _, _, _, rfl, inU_X10, by decide, uw_714, rfl⟩) (mnl)) (s_icmp_ge X dX10_takeCells_7 (by decide) (s_vret X hr dX10_takeCells_30) (s_aload_n X dX10_takeCells_10 rfl (s_get X dX10_takeCells_11 (mcn (⟨_, _, _, _, rfl, inU_X10, by decide, uw_730, rfl⟩) (mnl)) (s_iload_n X dX10_takeCells_14 rfl (s_aload_n X dX10_takeCells_15 rfl (s_get X dX10_takeCells_16 (mcn (⟨_, _, _, _, rfl, inU_X10, by decide, uw_713, rfl⟩) (mnl)) (s_iload_n X dX10_takeCells_19 rfl (s_iload_n X dX10_takeCells_20 rfl (s_iadd X dX10_takeCells_21 (s_iaload X dX10_takeCells_22 (s_iastore X dX10_takeCells_23 (s_iinc X dX10_takeCells_24 rfl (by decide) (s_goto X dX10_takeCells_27 (by decide) Sd.rf))))))))))))))))
set_option maxRecDepth 100000 in
theorem vc_X10_takeCells {l : Launch} {g : Gm} {a0 : Nat} {a1 : Int32} {h : Hp} {mc ms : Nat} {P : PT} (H : ∀ G : Nat → CT, (∀ (b : Nat) (h : Hp) (cb sb : Nat) (ls : LocS) (st : List Value), bk_X10_takeCells l g b G P h cb sb ls st → G b h cb sb ls st) → G 0 h mc ms [some (.ref a0), some (.int a1), none] []) : Run l g d_X10_takeCells [.ref a0, .int a1] h mc ms P :=
  Run.of (d := d_X10_takeCells) (by decide) (mcn rfl (mcn rfl (mnl))) (Nat.le_of_ble_eq_true rfl) (fun p e s m args below meth c X hr hn => H (fun b => GX g p l e s m args below meth c d_X10_takeCells 3 mc ms h P (pc_X10_takeCells b)) (fun b h1 cb sb ls st hb => match b, hb with
    | 0, hb => sb_X10_takeCells_0 (p := p) (e := e) (below := below) X hr hn h1 cb sb ls st hb
    | 1, hb => sb_X10_takeCells_1 (p := p) (e := e) (below := below) X hr hn h1 cb sb ls st hb
    | _ + 2, hb => hb.elim))
theorem dX10_cut_0 : decode cX10_cut 0 = .ok (.aload_n 0, 1) := by decide +kernel
theorem dX10_cut_1 : decode cX10_cut 1 = .ok (.iconst 0, 1) := by decide +kernel
theorem dX10_cut_2 : decode cX10_cut 2 = .ok (.putfield 71, 3) := by decide +kernel
theorem dX10_cut_5 : decode cX10_cut 5 = .ok (.aload_n 0, 1) := by decide +kernel
theorem dX10_cut_6 : decode cX10_cut 6 = .ok (.getfield 81, 3) := by decide +kernel
theorem dX10_cut_9 : decode cX10_cut 9 = .ok (.ifCond .ne 6, 3) := by decide +kernel
theorem dX10_cut_12 : decode cX10_cut 12 = .ok (.bipush (-3), 2) := by decide +kernel
theorem dX10_cut_14 : decode cX10_cut 14 = .ok (.ireturn, 1) := by decide +kernel
theorem dX10_cut_15 : decode cX10_cut 15 = .ok (.iload_n 1, 1) := by decide +kernel
theorem dX10_cut_16 : decode cX10_cut 16 = .ok (.invokestatic 91, 3) := by decide +kernel
theorem dX10_cut_19 : decode cX10_cut 19 = .ok (.ifCond .ne 5, 3) := by decide +kernel
theorem dX10_cut_22 : decode cX10_cut 22 = .ok (.iconst (-1), 1) := by decide +kernel
theorem dX10_cut_23 : decode cX10_cut 23 = .ok (.ireturn, 1) := by decide +kernel
theorem dX10_cut_24 : decode cX10_cut 24 = .ok (.iload_n 2, 1) := by decide +kernel
theorem dX10_cut_25 : decode cX10_cut 25 = .ok (.invokestatic 94, 3) := by decide +kernel
theorem dX10_cut_28 : decode cX10_cut 28 = .ok (.ifCond .eq 25, 3) := by decide +kernel
theorem dX10_cut_31 : decode cX10_cut 31 = .ok (.iload 4, 2) := by decide +kernel
theorem dX10_cut_33 : decode cX10_cut 33 = .ok (.iconst 0, 1) := by decide +kernel
theorem dX10_cut_34 : decode cX10_cut 34 = .ok (.iconst 3, 1) := by decide +kernel
theorem dX10_cut_35 : decode cX10_cut 35 = .ok (.invokestatic 77, 3) := by decide +kernel
theorem dX10_cut_38 : decode cX10_cut 38 = .ok (.ifCond .ne 18, 3) := by decide +kernel
theorem dX10_cut_41 : decode cX10_cut 41 = .ok (.iload 4, 2) := by decide +kernel
theorem dX10_cut_43 : decode cX10_cut 43 = .ok (.bipush 10, 2) := by decide +kernel
theorem dX10_cut_45 : decode cX10_cut 45 = .ok (.bipush 13, 2) := by decide +kernel
theorem dX10_cut_47 : decode cX10_cut 47 = .ok (.invokestatic 77, 3) := by decide +kernel
theorem dX10_cut_50 : decode cX10_cut 50 = .ok (.ifCond .ne 6, 3) := by decide +kernel
theorem dX10_cut_53 : decode cX10_cut 53 = .ok (.bipush (-2), 2) := by decide +kernel
theorem dX10_cut_55 : decode cX10_cut 55 = .ok (.ireturn, 1) := by decide +kernel
theorem dX10_cut_56 : decode cX10_cut 56 = .ok (.aload_n 0, 1) := by decide +kernel
theorem dX10_cut_57 : decode cX10_cut 57 = .ok (.iload_n 1, 1) := by decide +kernel
theorem dX10_cut_58 : decode cX10_cut 58 = .ok (.iload_n 2, 1) := by decide +kernel
theorem dX10_cut_59 : decode cX10_cut 59 = .ok (.iload_n 3, 1) := by decide +kernel
theorem dX10_cut_60 : decode cX10_cut 60 = .ok (.aload_n 0, 1) := by decide +kernel
theorem dX10_cut_61 : decode cX10_cut 61 = .ok (.getfield 81, 3) := by decide +kernel
theorem dX10_cut_64 : decode cX10_cut 64 = .ok (.invokevirtual 97, 3) := by decide +kernel
theorem dX10_cut_67 : decode cX10_cut 67 = .ok (.istore 5, 2) := by decide +kernel
theorem dX10_cut_69 : decode cX10_cut 69 = .ok (.iload 5, 2) := by decide +kernel
theorem dX10_cut_71 : decode cX10_cut 71 = .ok (.ifCond .eq 10, 3) := by decide +kernel
theorem dX10_cut_74 : decode cX10_cut 74 = .ok (.aload_n 0, 1) := by decide +kernel
theorem dX10_cut_75 : decode cX10_cut 75 = .ok (.iload 5, 2) := by decide +kernel
theorem dX10_cut_77 : decode cX10_cut 77 = .ok (.invokevirtual 101, 3) := by decide +kernel
theorem dX10_cut_80 : decode cX10_cut 80 = .ok (.ireturn, 1) := by decide +kernel
theorem dX10_cut_81 : decode cX10_cut 81 = .ok (.bipush 60, 2) := by decide +kernel
theorem dX10_cut_83 : decode cX10_cut 83 = .ok (.iload_n 1, 1) := by decide +kernel
theorem dX10_cut_84 : decode cX10_cut 84 = .ok (.imul, 1) := by decide +kernel
theorem dX10_cut_85 : decode cX10_cut 85 = .ok (.iload_n 3, 1) := by decide +kernel
theorem dX10_cut_86 : decode cX10_cut 86 = .ok (.iadd, 1) := by decide +kernel
theorem dX10_cut_87 : decode cX10_cut 87 = .ok (.istore 6, 2) := by decide +kernel
theorem dX10_cut_89 : decode cX10_cut 89 = .ok (.aload_n 0, 1) := by decide +kernel
theorem dX10_cut_90 : decode cX10_cut 90 = .ok (.iload 6, 2) := by decide +kernel
theorem dX10_cut_92 : decode cX10_cut 92 = .ok (.invokevirtual 177, 3) := by decide +kernel
theorem dX10_cut_95 : decode cX10_cut 95 = .ok (.ifCond .eq 6, 3) := by decide +kernel
theorem dX10_cut_98 : decode cX10_cut 98 = .ok (.bipush (-2), 2) := by decide +kernel
theorem dX10_cut_100 : decode cX10_cut 100 = .ok (.ireturn, 1) := by decide +kernel
theorem dX10_cut_101 : decode cX10_cut 101 = .ok (.aload_n 0, 1) := by decide +kernel
theorem dX10_cut_102 : decode cX10_cut 102 = .ok (.iload 6, 2) := by decide +kernel
theorem dX10_cut_104 : decode cX10_cut 104 = .ok (.invokevirtual 180, 3) := by decide +kernel
theorem dX10_cut_107 : decode cX10_cut 107 = .ok (.iload 4, 2) := by decide +kernel
theorem dX10_cut_109 : decode cX10_cut 109 = .ok (.tableswitch 50 0 2 #[27, 40, 45], 27) := by decide +kernel
theorem dX10_cut_136 : decode cX10_cut 136 = .ok (.aload_n 0, 1) := by decide +kernel
theorem dX10_cut_137 : decode cX10_cut 137 = .ok (.invokevirtual 184, 3) := by decide +kernel
theorem dX10_cut_140 : decode cX10_cut 140 = .ok (.ifCond .eq 7, 3) := by decide +kernel
theorem dX10_cut_143 : decode cX10_cut 143 = .ok (.iconst 1, 1) := by decide +kernel
theorem dX10_cut_144 : decode cX10_cut 144 = .ok (.goto 4, 3) := by decide +kernel
theorem dX10_cut_147 : decode cX10_cut 147 = .ok (.iconst 0, 1) := by decide +kernel
theorem dX10_cut_148 : decode cX10_cut 148 = .ok (.ireturn, 1) := by decide +kernel
theorem dX10_cut_149 : decode cX10_cut 149 = .ok (.aload_n 0, 1) := by decide +kernel
theorem dX10_cut_150 : decode cX10_cut 150 = .ok (.invokevirtual 187, 3) := by decide +kernel
theorem dX10_cut_153 : decode cX10_cut 153 = .ok (.ireturn, 1) := by decide +kernel
theorem dX10_cut_154 : decode cX10_cut 154 = .ok (.aload_n 0, 1) := by decide +kernel
theorem dX10_cut_155 : decode cX10_cut 155 = .ok (.invokevirtual 190, 3) := by decide +kernel
theorem dX10_cut_158 : decode cX10_cut 158 = .ok (.ireturn, 1) := by decide +kernel
theorem dX10_cut_159 : decode cX10_cut 159 = .ok (.aload_n 0, 1) := by decide +kernel
theorem dX10_cut_160 : decode cX10_cut 160 = .ok (.invokevirtual 193, 3) := by decide +kernel
theorem dX10_cut_163 : decode cX10_cut 163 = .ok (.iload 4, 2) := by decide +kernel
theorem dX10_cut_165 : decode cX10_cut 165 = .ok (.iconst 3, 1) := by decide +kernel
theorem dX10_cut_166 : decode cX10_cut 166 = .ok (.if_icmp .ne 10, 3) := by decide +kernel
theorem dX10_cut_169 : decode cX10_cut 169 = .ok (.aload_n 0, 1) := by decide +kernel
theorem dX10_cut_170 : decode cX10_cut 170 = .ok (.invokevirtual 174, 3) := by decide +kernel
theorem dX10_cut_173 : decode cX10_cut 173 = .ok (.goto 30, 3) := by decide +kernel
theorem dX10_cut_176 : decode cX10_cut 176 = .ok (.aload_n 0, 1) := by decide +kernel
theorem dX10_cut_177 : decode cX10_cut 177 = .ok (.iload 4, 2) := by decide +kernel
theorem dX10_cut_179 : decode cX10_cut 179 = .ok (.bipush 10, 2) := by decide +kernel
theorem dX10_cut_181 : decode cX10_cut 181 = .ok (.isub, 1) := by decide +kernel
theorem dX10_cut_182 : decode cX10_cut 182 = .ok (.invokevirtual 84, 3) := by decide +kernel
theorem dX10_cut_185 : decode cX10_cut 185 = .ok (.ifCond .eq 16, 3) := by decide +kernel
theorem dX10_cut_188 : decode cX10_cut 188 = .ok (.aload_n 0, 1) := by decide +kernel
theorem dX10_cut_189 : decode cX10_cut 189 = .ok (.getfield 58, 3) := by decide +kernel
theorem dX10_cut_192 : decode cX10_cut 192 = .ok (.iload 4, 2) := by decide +kernel
theorem dX10_cut_194 : decode cX10_cut 194 = .ok (.bipush 10, 2) := by decide +kernel
theorem dX10_cut_196 : decode cX10_cut 196 = .ok (.isub, 1) := by decide +kernel
theorem dX10_cut_197 : decode cX10_cut 197 = .ok (.iaload, 1) := by decide +kernel
theorem dX10_cut_198 : decode cX10_cut 198 = .ok (.goto 5, 3) := by decide +kernel
theorem dX10_cut_201 : decode cX10_cut 201 = .ok (.bipush (-9), 2) := by decide +kernel
theorem dX10_cut_203 : decode cX10_cut 203 = .ok (.ireturn, 1) := by decide +kernel
def bk_X10_cut_0 (l : Launch) (g : Gm) (G : Nat → CT) (P : PT) : CT := (oALd 0 (oPush (.int (0)) (oPutI [10] 0 (oALd 0 (oGet [10] 5 (oIf (fun x => x = 0) (oPush (.int (-3)) (oIRet P)) (oILd 1 (oCall l g d_X10_isSheet 1 (oIf (fun x => x = 0) (oPush (.int (-1)) (oIRet P)) (oILd 2 (oCall l g d_X10_isSort 1 (oIf (fun x => x = 0) (oPush (.int (-2)) (oIRet P)) (oILd 4 (oPush (.int (0)) (oPush (.int (3)) (oCall l g d_X10_within 3 (oIf (fun x => x = 0) (oILd 4 (oPush (.int (10)) (oPush (.int (13)) (oCall l g d_X10_within 3 (oIf (fun x => x = 0) (oPush (.int (-2)) (oIRet P)) (G 1)))))) (G 1))))))))))))))))))
def bk_X10_cut_1 (l : Launch) (g : Gm) (G : Nat → CT) (P : PT) : CT := (oALd 0 (oILd 1 (oILd 2 (oILd 3 (oALd 0 (oGet [10] 5 (oCallV l g [(10, d_X10_against)] 5 (oISt 5 (oILd 5 (oIf (fun x => x = 0) (oPush (.int (60)) (oILd 1 (oBin (fun x y => x * y) (oILd 3 (oBin (fun x y => x + y) (oISt 6 (oALd 0 (oILd 6 (oCallV l g [(10, d_X10_refusesCells)] 2 (oIf (fun x => x = 0) (oALd 0 (oILd 6 (oCallV l g [(10, d_X10_takeCells)] 2 (oILd 4 (oSw [(0, (oALd 0 (oCallV l g [(10, d_X10_canBe)] 1 (oIf (fun x => x = 0) (oPush (.int (0)) (oIRet P)) (oPush (.int (1)) (oGo (oIRet P))))))), (1, (oALd 0 (oCallV l g [(10, d_X10_sumOf)] 1 (oIRet P)))), (2, (oALd 0 (oCallV l g [(10, d_X10_underWay)] 1 (oIRet P))))] (oALd 0 (oCallV l g [(10, d_X10_close)] 1 (oILd 4 (oPush (.int (3)) (oCmp (fun x y => x = y) (oALd 0 (oCallV l g [(10, d_X10_inCut)] 1 (oGo (oIRet P)))) (oALd 0 (oILd 4 (oPush (.int (10)) (oBin (fun x y => x - y) (oCallV l g [(10, d_X10_isVillage)] 2 (oIf (fun x => x = 0) (oPush (.int (-9)) (oIRet P)) (oALd 0 (oGet [10] 21 (oILd 4 (oPush (.int (10)) (oBin (fun x y => x - y) (oIAL g (oGo (oIRet P)))))))))))))))))))))))) (oPush (.int (-2)) (oIRet P)))))))))))) (oALd 0 (oILd 5 (oCallV l g [(10, d_X10_fails)] 2 (oIRet P))))))))))))))
def bk_X10_cut (l : Launch) (g : Gm) (b : Nat) (G : Nat → CT) (P : PT) : CT := match b with
  | 0 => bk_X10_cut_0 l g G P
  | 1 => bk_X10_cut_1 l g G P
  | _ => fun _ _ _ _ _ => False
def pc_X10_cut (b : Nat) : Nat := match b with
  | 0 => 0
  | 1 => 56
  | _ => 0
set_option maxRecDepth 100000 in
theorem sb_X10_cut_0 {p : Program} {l : Launch} {e : Env} {s : State} {m : MethodId} {args : Array Value} {below : List Frame} {meth : Method} {c : Code} {g : Gm} {h0 : Hp} {P : PT} {mc ms : Nat} (X : Cx g p s m args meth c (Adom h0 s.heap.size) cX10_cut RX10 7) (hr : meth.sig.returnType = some .int) (hn : meth.name = "cut") : SX g p l e s m args below meth c d_X10_cut 7 mc ms h0 P (bk_X10_cut_0 l g (fun b => GX g p l e s m args below meth c d_X10_cut 7 mc ms h0 P (pc_X10_cut b)) P) 0 := (s_aload_n X dX10_cut_0 rfl (s_iconst X dX10_cut_1 rfl (s_putI X dX10_cut_2 (mcn (⟨_, _, _, _, tyX10, rfl, inU_X10, by decide, uw_709, rfl, tyX10_ok, nmX10, rfl, rfl⟩) (mnl)) (s_aload_n X dX10_cut_5 rfl (s_get X dX10_cut_6 (mcn (⟨_, _, _, _, rfl, inU_X10, by decide, uw_714, rfl⟩) (mnl)) (s_if_ne X dX10_cut_9 (by decide) (s_iload_n X dX10_cut_15 rfl (s_callS X dX10_cut_16 uw_795 uw_796 uw_7 ci_X10_isSheet yok_X10_isSheet ⟨Nat.le_of_ble_eq_true rfl, Nat.le_of_ble_eq_true rfl⟩ (s_if_ne X dX10_cut_19 (by decide) (s_iload_n X dX10_cut_24 rfl (s_callS X dX10_cut_25 uw_801 uw_802 uw_7 ci_X10_isSort yok_X10_isSort ⟨Nat.le_of_ble_eq_true rfl, Nat.le_of_ble_eq_true rfl⟩ (s_if_eq X dX10_cut_28 (by decide) (s_bipush X dX10_cut_53 rfl (s_iret X hr dX10_cut_55)) (s_iload X dX10_cut_31 (s_iconst X dX10_cut_33 rfl (s_iconst X dX10_cut_34 rfl (s_callS X dX10_cut_35 uw_798 uw_799 uw_7 ci_X10_within yok_X10_within ⟨Nat.le_of_ble_eq_true rfl, Nat.le_of_ble_eq_true rfl⟩ (s_if_ne X dX10_cut_38 (by decide) Sd.rf (s_iload X dX10_cut_41 (s_bipush X dX10_cut_43 rfl (s_bipush X dX10_cut_45 rfl (s_callS X dX10_cut_47 uw_798 uw_799 uw_7 ci_X10_within yok_X10_within ⟨Nat.le_of_ble_eq_true rfl, Nat.le_of_ble_eq_true rfl⟩ (s_if_ne X dX10_cut_50 (by decide) Sd.rf (s_bipush X dX10_cut_53 rfl (s_iret X hr dX10_cut_55))))))))))))))) (s_iconst X dX10_cut_22 rfl (s_iret X hr dX10_cut_23))))) (s_bipush X dX10_cut_12 rfl (s_iret X hr dX10_cut_14))))))))
set_option maxRecDepth 100000 in
theorem sb_X10_cut_1 {p : Program} {l : Launch} {e : Env} {s : State} {m : MethodId} {args : Array Value} {below : List Frame} {meth : Method} {c : Code} {g : Gm} {h0 : Hp} {P : PT} {mc ms : Nat} (X : Cx g p s m args meth c (Adom h0 s.heap.size) cX10_cut RX10 7) (hr : meth.sig.returnType = some .int) (hn : meth.name = "cut") : SX g p l e s m args below meth c d_X10_cut 7 mc ms h0 P (bk_X10_cut_1 l g (fun b => GX g p l e s m args below meth c d_X10_cut 7 mc ms h0 P (pc_X10_cut b)) P) 56 := (s_aload_n X dX10_cut_56 rfl (s_iload_n X dX10_cut_57 rfl (s_iload_n X dX10_cut_58 rfl (s_iload_n X dX10_cut_59 rfl (s_aload_n X dX10_cut_60 rfl (s_get X dX10_cut_61 (mcn (⟨_, _, _, _, rfl, inU_X10, by decide, uw_714, rfl⟩) (mnl)) (s_callV X dX10_cut_64 (mv (vok_V X rfl uw_804 uw_806 (UW_pr 16 rfl rfl) uw_7 ci_X10_against yok_X10_against ⟨Nat.le_of_ble_eq_true rfl, Nat.le_of_ble_eq_true rfl⟩) mv0) (s_istore X dX10_cut_67 (by decide) (s_iload X dX10_cut_69 (s_if_eq X dX10_cut_71 (by decide) (s_bipush X dX10_cut_81 rfl (s_iload_n X dX10_cut_83 rfl (s_imul X dX10_cut_84 (s_iload_n X dX10_cut_85 rfl (s_iadd X dX10_cut_86 (s_istore X dX10_cut_87 (by decide) (s_aload_n X dX10_cut_89 rfl (s_iload X dX10_cut_90 (s_callV X dX10_cut_92 (mv (vok_V X rfl uw_916 uw_918 (UW_pr 38 rfl rfl) uw_7 ci_X10_refusesCells yok_X10_refusesCells ⟨Nat.le_of_ble_eq_true rfl, Nat.le_of_ble_eq_true rfl⟩) mv0) (s_if_eq X dX10_cut_95 (by decide) (s_aload_n X dX10_cut_101 rfl (s_iload X dX10_cut_102 (s_callV X dX10_cut_104 (mv (vok_V X rfl uw_920 uw_922 (UW_pr 39 rfl rfl) uw_7 ci_X10_takeCells yok_X10_takeCells ⟨Nat.le_of_ble_eq_true rfl, Nat.le_of_ble_eq_true rfl⟩) mv0) (s_iload X dX10_cut_107 (s_tsw X dX10_cut_109 (by decide) rfl ⟨⟨rfl, 27, 136, rfl, by decide, (s_aload_n X dX10_cut_136 rfl (s_callV X dX10_cut_137 (mv (vok_V X rfl uw_924 uw_926 (UW_pr 40 rfl rfl) uw_7 ci_X10_canBe yok_X10_canBe ⟨Nat.le_of_ble_eq_true rfl, Nat.le_of_ble_eq_true rfl⟩) mv0) (s_if_eq X dX10_cut_140 (by decide) (s_iconst X dX10_cut_147 rfl (s_iret X hr dX10_cut_148)) (s_iconst X dX10_cut_143 rfl (s_goto X dX10_cut_144 (by decide) (s_iret X hr dX10_cut_148))))))⟩, ⟨⟨rfl, 40, 149, rfl, by decide, (s_aload_n X dX10_cut_149 rfl (s_callV X dX10_cut_150 (mv (vok_V X rfl uw_928 uw_930 (UW_pr 41 rfl rfl) uw_7 ci_X10_sumOf yok_X10_sumOf ⟨Nat.le_of_ble_eq_true rfl, Nat.le_of_ble_eq_true rfl⟩) mv0) (s_iret X hr dX10_cut_153)))⟩, ⟨⟨rfl, 45, 154, rfl, by decide, (s_aload_n X dX10_cut_154 rfl (s_callV X dX10_cut_155 (mv (vok_V X rfl uw_932 uw_934 (UW_pr 42 rfl rfl) uw_7 ci_X10_underWay yok_X10_underWay ⟨Nat.le_of_ble_eq_true rfl, Nat.le_of_ble_eq_true rfl⟩) mv0) (s_iret X hr dX10_cut_158)))⟩, trivial⟩⟩⟩ (s_aload_n X dX10_cut_159 rfl (s_callV X dX10_cut_160 (mv (vok_V X rfl uw_940 uw_942 (UW_pr 44 rfl rfl) uw_7 ci_X10_close yok_X10_close ⟨Nat.le_of_ble_eq_true rfl, Nat.le_of_ble_eq_true rfl⟩) mv0) (s_iload X dX10_cut_163 (s_iconst X dX10_cut_165 rfl (s_icmp_ne X dX10_cut_166 (by decide) (s_aload_n X dX10_cut_176 rfl (s_iload X dX10_cut_177 (s_bipush X dX10_cut_179 rfl (s_isub X dX10_cut_181 (s_callV X dX10_cut_182 (mv (vok_V X rfl uw_864 uw_866 (UW_pr 30 rfl rfl) uw_7 ci_X10_isVillage yok_X10_isVillage ⟨Nat.le_of_ble_eq_true rfl, Nat.le_of_ble_eq_true rfl⟩) mv0) (s_if_eq X dX10_cut_185 (by decide) (s_bipush X dX10_cut_201 rfl (s_iret X hr dX10_cut_203)) (s_aload_n X dX10_cut_188 rfl (s_get X dX10_cut_189 (mcn (⟨_, _, _, _, rfl, inU_X10, by decide, uw_730, rfl⟩) (mnl)) (s_iload X dX10_cut_192 (s_bipush X dX10_cut_194 rfl (s_isub X dX10_cut_196 (s_iaload X dX10_cut_197 (s_goto X dX10_cut_198 (by decide) (s_iret X hr dX10_cut_203)))))))))))))) (s_aload_n X dX10_cut_169 rfl (s_callV X dX10_cut_170 (mv (vok_V X rfl uw_908 uw_910 (UW_pr 37 rfl rfl) uw_7 ci_X10_inCut yok_X10_inCut ⟨Nat.le_of_ble_eq_true rfl, Nat.le_of_ble_eq_true rfl⟩) mv0) (s_goto X dX10_cut_173 (by decide) (s_iret X hr dX10_cut_203)))))))))))))) (s_bipush X dX10_cut_98 rfl (s_iret X hr dX10_cut_100)))))))))))) (s_aload_n X dX10_cut_74 rfl (s_iload X dX10_cut_75 (s_callV X dX10_cut_77 (mv (vok_V X rfl uw_808 uw_810 (UW_pr 17 rfl rfl) uw_7 ci_X10_fails yok_X10_fails ⟨Nat.le_of_ble_eq_true rfl, Nat.le_of_ble_eq_true rfl⟩) mv0) (s_iret X hr dX10_cut_80))))))))))))))
set_option maxRecDepth 100000 in
theorem vc_X10_cut {l : Launch} {g : Gm} {a0 : Nat} {a1 : Int32} {a2 : Int32} {a3 : Int32} {a4 : Int32} {h : Hp} {mc ms : Nat} {P : PT} (H : ∀ G : Nat → CT, (∀ (b : Nat) (h : Hp) (cb sb : Nat) (ls : LocS) (st : List Value), bk_X10_cut l g b G P h cb sb ls st → G b h cb sb ls st) → G 0 h mc ms [some (.ref a0), some (.int a1), some (.int a2), some (.int a3), some (.int a4), none, none] []) : Run l g d_X10_cut [.ref a0, .int a1, .int a2, .int a3, .int a4] h mc ms P :=
  Run.of (d := d_X10_cut) (by decide) (mcn rfl (mcn rfl (mcn rfl (mcn rfl (mcn rfl (mnl)))))) (Nat.le_of_ble_eq_true rfl) (fun p e s m args below meth c X hr hn => H (fun b => GX g p l e s m args below meth c d_X10_cut 7 mc ms h P (pc_X10_cut b)) (fun b h1 cb sb ls st hb => match b, hb with
    | 0, hb => sb_X10_cut_0 (p := p) (e := e) (below := below) X hr hn h1 cb sb ls st hb
    | 1, hb => sb_X10_cut_1 (p := p) (e := e) (below := below) X hr hn h1 cb sb ls st hb
    | _ + 2, hb => hb.elim))
theorem dX10_now_0 : decode cX10_now 0 = .ok (.iload_n 1, 1) := by decide +kernel
theorem dX10_now_1 : decode cX10_now 1 = .ok (.iconst 0, 1) := by decide +kernel
theorem dX10_now_2 : decode cX10_now 2 = .ok (.iconst 2, 1) := by decide +kernel
theorem dX10_now_3 : decode cX10_now 3 = .ok (.invokestatic 77, 3) := by decide +kernel
theorem dX10_now_6 : decode cX10_now 6 = .ok (.ifCond .ne 6, 3) := by decide +kernel
theorem dX10_now_9 : decode cX10_now 9 = .ok (.bipush (-2), 2) := by decide +kernel
theorem dX10_now_11 : decode cX10_now 11 = .ok (.ireturn, 1) := by decide +kernel
theorem dX10_now_12 : decode cX10_now 12 = .ok (.aload_n 0, 1) := by decide +kernel
theorem dX10_now_13 : decode cX10_now 13 = .ok (.getfield 81, 3) := by decide +kernel
theorem dX10_now_16 : decode cX10_now 16 = .ok (.ifCond .ne 6, 3) := by decide +kernel
theorem dX10_now_19 : decode cX10_now 19 = .ok (.bipush (-3), 2) := by decide +kernel
theorem dX10_now_21 : decode cX10_now 21 = .ok (.ireturn, 1) := by decide +kernel
theorem dX10_now_22 : decode cX10_now 22 = .ok (.aload_n 0, 1) := by decide +kernel
theorem dX10_now_23 : decode cX10_now 23 = .ok (.invokevirtual 165, 3) := by decide +kernel
theorem dX10_now_26 : decode cX10_now 26 = .ok (.iload_n 1, 1) := by decide +kernel
theorem dX10_now_27 : decode cX10_now 27 = .ok (.iconst 2, 1) := by decide +kernel
theorem dX10_now_28 : decode cX10_now 28 = .ok (.if_icmp .ge 19, 3) := by decide +kernel
theorem dX10_now_31 : decode cX10_now 31 = .ok (.iload_n 1, 1) := by decide +kernel
theorem dX10_now_32 : decode cX10_now 32 = .ok (.ifCond .ne 10, 3) := by decide +kernel
theorem dX10_now_35 : decode cX10_now 35 = .ok (.aload_n 0, 1) := by decide +kernel
theorem dX10_now_36 : decode cX10_now 36 = .ok (.invokevirtual 187, 3) := by decide +kernel
theorem dX10_now_39 : decode cX10_now 39 = .ok (.goto 7, 3) := by decide +kernel
theorem dX10_now_42 : decode cX10_now 42 = .ok (.aload_n 0, 1) := by decide +kernel
theorem dX10_now_43 : decode cX10_now 43 = .ok (.invokevirtual 190, 3) := by decide +kernel
theorem dX10_now_46 : decode cX10_now 46 = .ok (.ireturn, 1) := by decide +kernel
theorem dX10_now_47 : decode cX10_now 47 = .ok (.iconst 0, 1) := by decide +kernel
theorem dX10_now_48 : decode cX10_now 48 = .ok (.istore_n 2, 1) := by decide +kernel
theorem dX10_now_49 : decode cX10_now 49 = .ok (.iconst 0, 1) := by decide +kernel
theorem dX10_now_50 : decode cX10_now 50 = .ok (.istore_n 3, 1) := by decide +kernel
theorem dX10_now_51 : decode cX10_now 51 = .ok (.iload_n 3, 1) := by decide +kernel
theorem dX10_now_52 : decode cX10_now 52 = .ok (.aload_n 0, 1) := by decide +kernel
theorem dX10_now_53 : decode cX10_now 53 = .ok (.getfield 81, 3) := by decide +kernel
theorem dX10_now_56 : decode cX10_now 56 = .ok (.if_icmp .ge 27, 3) := by decide +kernel
theorem dX10_now_59 : decode cX10_now 59 = .ok (.iload_n 2, 1) := by decide +kernel
theorem dX10_now_60 : decode cX10_now 60 = .ok (.aload_n 0, 1) := by decide +kernel
theorem dX10_now_61 : decode cX10_now 61 = .ok (.iload_n 3, 1) := by decide +kernel
theorem dX10_now_62 : decode cX10_now 62 = .ok (.invokevirtual 168, 3) := by decide +kernel
theorem dX10_now_65 : decode cX10_now 65 = .ok (.ifCond .eq 9, 3) := by decide +kernel
theorem dX10_now_68 : decode cX10_now 68 = .ok (.iconst 1, 1) := by decide +kernel
theorem dX10_now_69 : decode cX10_now 69 = .ok (.iload_n 3, 1) := by decide +kernel
theorem dX10_now_70 : decode cX10_now 70 = .ok (.ishl, 1) := by decide +kernel
theorem dX10_now_71 : decode cX10_now 71 = .ok (.goto 4, 3) := by decide +kernel
theorem dX10_now_74 : decode cX10_now 74 = .ok (.iconst 0, 1) := by decide +kernel
theorem dX10_now_75 : decode cX10_now 75 = .ok (.ior, 1) := by decide +kernel
theorem dX10_now_76 : decode cX10_now 76 = .ok (.istore_n 2, 1) := by decide +kernel
theorem dX10_now_77 : decode cX10_now 77 = .ok (.iinc 3 1, 3) := by decide +kernel
theorem dX10_now_80 : decode cX10_now 80 = .ok (.goto (-29), 3) := by decide +kernel
theorem dX10_now_83 : decode cX10_now 83 = .ok (.iload_n 2, 1) := by decide +kernel
theorem dX10_now_84 : decode cX10_now 84 = .ok (.ireturn, 1) := by decide +kernel
def bk_X10_now_0 (l : Launch) (g : Gm) (G : Nat → CT) (P : PT) : CT := (oILd 1 (oPush (.int (0)) (oPush (.int (2)) (oCall l g d_X10_within 3 (oIf (fun x => x = 0) (oPush (.int (-2)) (oIRet P)) (oALd 0 (oGet [10] 5 (oIf (fun x => x = 0) (oPush (.int (-3)) (oIRet P)) (oALd 0 (oCallV l g [(10, d_X10_takeNow)] 1 (oILd 1 (oPush (.int (2)) (oCmp (fun x y => y ≤ x) (oPush (.int (0)) (oISt 2 (oPush (.int (0)) (oISt 3 (G 1))))) (oILd 1 (oIf (fun x => x = 0) (oALd 0 (oCallV l g [(10, d_X10_sumOf)] 1 (oGo (oIRet P)))) (oALd 0 (oCallV l g [(10, d_X10_underWay)] 1 (oIRet P))))))))))))))))))
def bk_X10_now_1 (l : Launch) (g : Gm) (G : Nat → CT) (P : PT) : CT := (oILd 3 (oALd 0 (oGet [10] 5 (oCmp (fun x y => y ≤ x) (oILd 2 (oIRet P)) (oILd 2 (oALd 0 (oILd 3 (oCallV l g [(10, d_X10_isReady)] 2 (oIf (fun x => x = 0) (oPush (.int (0)) (G 2)) (oPush (.int (1)) (oILd 3 (oBin (fun x y => x <<< (y &&& 31)) (oGo (G 2))))))))))))))
def bk_X10_now_2 (l : Launch) (g : Gm) (G : Nat → CT) (P : PT) : CT := (oBin (fun x y => x ||| y) (oISt 2 (oInc 3 (1) (oGo (G 1)))))
def bk_X10_now (l : Launch) (g : Gm) (b : Nat) (G : Nat → CT) (P : PT) : CT := match b with
  | 0 => bk_X10_now_0 l g G P
  | 1 => bk_X10_now_1 l g G P
  | 2 => bk_X10_now_2 l g G P
  | _ => fun _ _ _ _ _ => False
def pc_X10_now (b : Nat) : Nat := match b with
  | 0 => 0
  | 1 => 51
  | 2 => 75
  | _ => 0
set_option maxRecDepth 100000 in
theorem sb_X10_now_0 {p : Program} {l : Launch} {e : Env} {s : State} {m : MethodId} {args : Array Value} {below : List Frame} {meth : Method} {c : Code} {g : Gm} {h0 : Hp} {P : PT} {mc ms : Nat} (X : Cx g p s m args meth c (Adom h0 s.heap.size) cX10_now RX10 4) (hr : meth.sig.returnType = some .int) (hn : meth.name = "now") : SX g p l e s m args below meth c d_X10_now 4 mc ms h0 P (bk_X10_now_0 l g (fun b => GX g p l e s m args below meth c d_X10_now 4 mc ms h0 P (pc_X10_now b)) P) 0 := (s_iload_n X dX10_now_0 rfl (s_iconst X dX10_now_1 rfl (s_iconst X dX10_now_2 rfl (s_callS X dX10_now_3 uw_798 uw_799 uw_7 ci_X10_within yok_X10_within ⟨Nat.le_of_ble_eq_true rfl, Nat.le_of_ble_eq_true rfl⟩ (s_if_ne X dX10_now_6 (by decide) (s_aload_n X dX10_now_12 rfl (s_get X dX10_now_13 (mcn (⟨_, _, _, _, rfl, inU_X10, by decide, uw_714, rfl⟩) (mnl)) (s_if_ne X dX10_now_16 (by decide) (s_aload_n X dX10_now_22 rfl (s_callV X dX10_now_23 (mv (vok_V X rfl uw_868 uw_870 (UW_pr 31 rfl rfl) uw_7 ci_X10_takeNow yok_X10_takeNow ⟨Nat.le_of_ble_eq_true rfl, Nat.le_of_ble_eq_true rfl⟩) mv0) (s_iload_n X dX10_now_26 rfl (s_iconst X dX10_now_27 rfl (s_icmp_ge X dX10_now_28 (by decide) (s_iconst X dX10_now_47 rfl (s_istore_n X dX10_now_48 rfl (by decide) (s_iconst X dX10_now_49 rfl (s_istore_n X dX10_now_50 rfl (by decide) Sd.rf)))) (s_iload_n X dX10_now_31 rfl (s_if_ne X dX10_now_32 (by decide) (s_aload_n X dX10_now_42 rfl (s_callV X dX10_now_43 (mv (vok_V X rfl uw_932 uw_934 (UW_pr 42 rfl rfl) uw_7 ci_X10_underWay yok_X10_underWay ⟨Nat.le_of_ble_eq_true rfl, Nat.le_of_ble_eq_true rfl⟩) mv0) (s_iret X hr dX10_now_46))) (s_aload_n X dX10_now_35 rfl (s_callV X dX10_now_36 (mv (vok_V X rfl uw_928 uw_930 (UW_pr 41 rfl rfl) uw_7 ci_X10_sumOf yok_X10_sumOf ⟨Nat.le_of_ble_eq_true rfl, Nat.le_of_ble_eq_true rfl⟩) mv0) (s_goto X dX10_now_39 (by decide) (s_iret X hr dX10_now_46))))))))))) (s_bipush X dX10_now_19 rfl (s_iret X hr dX10_now_21))))) (s_bipush X dX10_now_9 rfl (s_iret X hr dX10_now_11)))))))
set_option maxRecDepth 100000 in
theorem sb_X10_now_1 {p : Program} {l : Launch} {e : Env} {s : State} {m : MethodId} {args : Array Value} {below : List Frame} {meth : Method} {c : Code} {g : Gm} {h0 : Hp} {P : PT} {mc ms : Nat} (X : Cx g p s m args meth c (Adom h0 s.heap.size) cX10_now RX10 4) (hr : meth.sig.returnType = some .int) (hn : meth.name = "now") : SX g p l e s m args below meth c d_X10_now 4 mc ms h0 P (bk_X10_now_1 l g (fun b => GX g p l e s m args below meth c d_X10_now 4 mc ms h0 P (pc_X10_now b)) P) 51 := (s_iload_n X dX10_now_51 rfl (s_aload_n X dX10_now_52 rfl (s_get X dX10_now_53 (mcn (⟨_, _, _, _, rfl, inU_X10, by decide, uw_714, rfl⟩) (mnl)) (s_icmp_ge X dX10_now_56 (by decide) (s_iload_n X dX10_now_83 rfl (s_iret X hr dX10_now_84)) (s_iload_n X dX10_now_59 rfl (s_aload_n X dX10_now_60 rfl (s_iload_n X dX10_now_61 rfl (s_callV X dX10_now_62 (mv (vok_V X rfl uw_880 uw_882 (UW_pr 34 rfl rfl) uw_7 ci_X10_isReady yok_X10_isReady ⟨Nat.le_of_ble_eq_true rfl, Nat.le_of_ble_eq_true rfl⟩) mv0) (s_if_eq X dX10_now_65 (by decide) (s_iconst X dX10_now_74 rfl Sd.rf) (s_iconst X dX10_now_68 rfl (s_iload_n X dX10_now_69 rfl (s_ishl X dX10_now_70 (s_goto X dX10_now_71 (by decide) Sd.rf)))))))))))))
set_option maxRecDepth 100000 in
theorem sb_X10_now_2 {p : Program} {l : Launch} {e : Env} {s : State} {m : MethodId} {args : Array Value} {below : List Frame} {meth : Method} {c : Code} {g : Gm} {h0 : Hp} {P : PT} {mc ms : Nat} (X : Cx g p s m args meth c (Adom h0 s.heap.size) cX10_now RX10 4) (hr : meth.sig.returnType = some .int) (hn : meth.name = "now") : SX g p l e s m args below meth c d_X10_now 4 mc ms h0 P (bk_X10_now_2 l g (fun b => GX g p l e s m args below meth c d_X10_now 4 mc ms h0 P (pc_X10_now b)) P) 75 := (s_ior X dX10_now_75 (s_istore_n X dX10_now_76 rfl (by decide) (s_iinc X dX10_now_77 rfl (by decide) (s_goto X dX10_now_80 (by decide) Sd.rf))))
set_option maxRecDepth 100000 in
theorem vc_X10_now {l : Launch} {g : Gm} {a0 : Nat} {a1 : Int32} {h : Hp} {mc ms : Nat} {P : PT} (H : ∀ G : Nat → CT, (∀ (b : Nat) (h : Hp) (cb sb : Nat) (ls : LocS) (st : List Value), bk_X10_now l g b G P h cb sb ls st → G b h cb sb ls st) → G 0 h mc ms [some (.ref a0), some (.int a1), none, none] []) : Run l g d_X10_now [.ref a0, .int a1] h mc ms P :=
  Run.of (d := d_X10_now) (by decide) (mcn rfl (mcn rfl (mnl))) (Nat.le_of_ble_eq_true rfl) (fun p e s m args below meth c X hr hn => H (fun b => GX g p l e s m args below meth c d_X10_now 4 mc ms h P (pc_X10_now b)) (fun b h1 cb sb ls st hb => match b, hb with
    | 0, hb => sb_X10_now_0 (p := p) (e := e) (below := below) X hr hn h1 cb sb ls st hb
    | 1, hb => sb_X10_now_1 (p := p) (e := e) (below := below) X hr hn h1 cb sb ls st hb
    | 2, hb => sb_X10_now_2 (p := p) (e := e) (below := below) X hr hn h1 cb sb ls st hb
    | _ + 3, hb => hb.elim))
theorem dX10_goTale_0 : decode cX10_goTale 0 = .ok (.aload_n 0, 1) := by decide +kernel
theorem dX10_goTale_1 : decode cX10_goTale 1 = .ok (.invokevirtual 165, 3) := by decide +kernel
theorem dX10_goTale_4 : decode cX10_goTale 4 = .ok (.aload_n 0, 1) := by decide +kernel
theorem dX10_goTale_5 : decode cX10_goTale 5 = .ok (.aload_n 0, 1) := by decide +kernel
theorem dX10_goTale_6 : decode cX10_goTale 6 = .ok (.invokevirtual 187, 3) := by decide +kernel
theorem dX10_goTale_9 : decode cX10_goTale 9 = .ok (.putfield 196, 3) := by decide +kernel
theorem dX10_goTale_12 : decode cX10_goTale 12 = .ok (.iconst 0, 1) := by decide +kernel
theorem dX10_goTale_13 : decode cX10_goTale 13 = .ok (.istore_n 3, 1) := by decide +kernel
theorem dX10_goTale_14 : decode cX10_goTale 14 = .ok (.iload_n 3, 1) := by decide +kernel
theorem dX10_goTale_15 : decode cX10_goTale 15 = .ok (.iload_n 2, 1) := by decide +kernel
theorem dX10_goTale_16 : decode cX10_goTale 16 = .ok (.if_icmp .ge 67, 3) := by decide +kernel
theorem dX10_goTale_19 : decode cX10_goTale 19 = .ok (.aload_n 0, 1) := by decide +kernel
theorem dX10_goTale_20 : decode cX10_goTale 20 = .ok (.getfield 16, 3) := by decide +kernel
theorem dX10_goTale_23 : decode cX10_goTale 23 = .ok (.iload_n 1, 1) := by decide +kernel
theorem dX10_goTale_24 : decode cX10_goTale 24 = .ok (.iload_n 3, 1) := by decide +kernel
theorem dX10_goTale_25 : decode cX10_goTale 25 = .ok (.iadd, 1) := by decide +kernel
theorem dX10_goTale_26 : decode cX10_goTale 26 = .ok (.iaload, 1) := by decide +kernel
theorem dX10_goTale_27 : decode cX10_goTale 27 = .ok (.istore 4, 2) := by decide +kernel
theorem dX10_goTale_29 : decode cX10_goTale 29 = .ok (.aload_n 0, 1) := by decide +kernel
theorem dX10_goTale_30 : decode cX10_goTale 30 = .ok (.iload 4, 2) := by decide +kernel
theorem dX10_goTale_32 : decode cX10_goTale 32 = .ok (.invokevirtual 168, 3) := by decide +kernel
theorem dX10_goTale_35 : decode cX10_goTale 35 = .ok (.ifCond .ne 5, 3) := by decide +kernel
theorem dX10_goTale_38 : decode cX10_goTale 38 = .ok (.iload_n 3, 1) := by decide +kernel
theorem dX10_goTale_39 : decode cX10_goTale 39 = .ok (.ireturn, 1) := by decide +kernel
theorem dX10_goTale_40 : decode cX10_goTale 40 = .ok (.aload_n 0, 1) := by decide +kernel
theorem dX10_goTale_41 : decode cX10_goTale 41 = .ok (.getfield 58, 3) := by decide +kernel
theorem dX10_goTale_44 : decode cX10_goTale 44 = .ok (.iload 4, 2) := by decide +kernel
theorem dX10_goTale_46 : decode cX10_goTale 46 = .ok (.dup2, 1) := by decide +kernel
theorem dX10_goTale_47 : decode cX10_goTale 47 = .ok (.iaload, 1) := by decide +kernel
theorem dX10_goTale_48 : decode cX10_goTale 48 = .ok (.iconst 1, 1) := by decide +kernel
theorem dX10_goTale_49 : decode cX10_goTale 49 = .ok (.iadd, 1) := by decide +kernel
theorem dX10_goTale_50 : decode cX10_goTale 50 = .ok (.iastore, 1) := by decide +kernel
theorem dX10_goTale_51 : decode cX10_goTale 51 = .ok (.aload_n 0, 1) := by decide +kernel
theorem dX10_goTale_52 : decode cX10_goTale 52 = .ok (.aload_n 0, 1) := by decide +kernel
theorem dX10_goTale_53 : decode cX10_goTale 53 = .ok (.invokevirtual 187, 3) := by decide +kernel
theorem dX10_goTale_56 : decode cX10_goTale 56 = .ok (.aload_n 0, 1) := by decide +kernel
theorem dX10_goTale_57 : decode cX10_goTale 57 = .ok (.getfield 196, 3) := by decide +kernel
theorem dX10_goTale_60 : decode cX10_goTale 60 = .ok (.if_icmp .le 10, 3) := by decide +kernel
theorem dX10_goTale_63 : decode cX10_goTale 63 = .ok (.aload_n 0, 1) := by decide +kernel
theorem dX10_goTale_64 : decode cX10_goTale 64 = .ok (.invokevirtual 187, 3) := by decide +kernel
theorem dX10_goTale_67 : decode cX10_goTale 67 = .ok (.goto 7, 3) := by decide +kernel
theorem dX10_goTale_70 : decode cX10_goTale 70 = .ok (.aload_n 0, 1) := by decide +kernel
theorem dX10_goTale_71 : decode cX10_goTale 71 = .ok (.getfield 196, 3) := by decide +kernel
theorem dX10_goTale_74 : decode cX10_goTale 74 = .ok (.putfield 196, 3) := by decide +kernel
theorem dX10_goTale_77 : decode cX10_goTale 77 = .ok (.iinc 3 1, 3) := by decide +kernel
theorem dX10_goTale_80 : decode cX10_goTale 80 = .ok (.goto (-66), 3) := by decide +kernel
theorem dX10_goTale_83 : decode cX10_goTale 83 = .ok (.bipush (-9), 2) := by decide +kernel
theorem dX10_goTale_85 : decode cX10_goTale 85 = .ok (.ireturn, 1) := by decide +kernel
def bk_X10_goTale_0 (l : Launch) (g : Gm) (G : Nat → CT) (P : PT) : CT := (oALd 0 (oCallV l g [(10, d_X10_takeNow)] 1 (oALd 0 (oALd 0 (oCallV l g [(10, d_X10_sumOf)] 1 (oPutI [10] 22 (oPush (.int (0)) (oISt 3 (G 1)))))))))
def bk_X10_goTale_1 (l : Launch) (g : Gm) (G : Nat → CT) (P : PT) : CT := (oILd 3 (oILd 2 (oCmp (fun x y => y ≤ x) (oPush (.int (-9)) (oIRet P)) (oALd 0 (oGet [10] 4 (oILd 1 (oILd 3 (oBin (fun x y => x + y) (oIAL g (oISt 4 (oALd 0 (oILd 4 (oCallV l g [(10, d_X10_isReady)] 2 (oIf (fun x => x = 0) (oILd 3 (oIRet P)) (oALd 0 (oGet [10] 21 (oILd 4 (oDup2 (oIAL g (oPush (.int (1)) (oBin (fun x y => x + y) (oIAS g (oALd 0 (oALd 0 (oCallV l g [(10, d_X10_sumOf)] 1 (oALd 0 (oGet [10] 22 (oCmp (fun x y => x ≤ y) (oALd 0 (oGet [10] 22 (G 2))) (oALd 0 (oCallV l g [(10, d_X10_sumOf)] 1 (oGo (G 2))))))))))))))))))))))))))))))))
def bk_X10_goTale_2 (l : Launch) (g : Gm) (G : Nat → CT) (P : PT) : CT := (oPutI [10] 22 (oInc 3 (1) (oGo (G 1))))
def bk_X10_goTale (l : Launch) (g : Gm) (b : Nat) (G : Nat → CT) (P : PT) : CT := match b with
  | 0 => bk_X10_goTale_0 l g G P
  | 1 => bk_X10_goTale_1 l g G P
  | 2 => bk_X10_goTale_2 l g G P
  | _ => fun _ _ _ _ _ => False
def pc_X10_goTale (b : Nat) : Nat := match b with
  | 0 => 0
  | 1 => 14
  | 2 => 74
  | _ => 0
set_option maxRecDepth 100000 in
theorem sb_X10_goTale_0 {p : Program} {l : Launch} {e : Env} {s : State} {m : MethodId} {args : Array Value} {below : List Frame} {meth : Method} {c : Code} {g : Gm} {h0 : Hp} {P : PT} {mc ms : Nat} (X : Cx g p s m args meth c (Adom h0 s.heap.size) cX10_goTale RX10 5) (hr : meth.sig.returnType = some .int) (hn : meth.name = "goTale") : SX g p l e s m args below meth c d_X10_goTale 5 mc ms h0 P (bk_X10_goTale_0 l g (fun b => GX g p l e s m args below meth c d_X10_goTale 5 mc ms h0 P (pc_X10_goTale b)) P) 0 := (s_aload_n X dX10_goTale_0 rfl (s_callV X dX10_goTale_1 (mv (vok_V X rfl uw_868 uw_870 (UW_pr 31 rfl rfl) uw_7 ci_X10_takeNow yok_X10_takeNow ⟨Nat.le_of_ble_eq_true rfl, Nat.le_of_ble_eq_true rfl⟩) mv0) (s_aload_n X dX10_goTale_4 rfl (s_aload_n X dX10_goTale_5 rfl (s_callV X dX10_goTale_6 (mv (vok_V X rfl uw_928 uw_930 (UW_pr 41 rfl rfl) uw_7 ci_X10_sumOf yok_X10_sumOf ⟨Nat.le_of_ble_eq_true rfl, Nat.le_of_ble_eq_true rfl⟩) mv0) (s_putI X dX10_goTale_9 (mcn (⟨_, _, _, _, tyX10, rfl, inU_X10, by decide, uw_731, rfl, tyX10_ok, nmX10, rfl, rfl⟩) (mnl)) (s_iconst X dX10_goTale_12 rfl (s_istore_n X dX10_goTale_13 rfl (by decide) Sd.rf))))))))
set_option maxRecDepth 100000 in
theorem sb_X10_goTale_1 {p : Program} {l : Launch} {e : Env} {s : State} {m : MethodId} {args : Array Value} {below : List Frame} {meth : Method} {c : Code} {g : Gm} {h0 : Hp} {P : PT} {mc ms : Nat} (X : Cx g p s m args meth c (Adom h0 s.heap.size) cX10_goTale RX10 5) (hr : meth.sig.returnType = some .int) (hn : meth.name = "goTale") : SX g p l e s m args below meth c d_X10_goTale 5 mc ms h0 P (bk_X10_goTale_1 l g (fun b => GX g p l e s m args below meth c d_X10_goTale 5 mc ms h0 P (pc_X10_goTale b)) P) 14 := (s_iload_n X dX10_goTale_14 rfl (s_iload_n X dX10_goTale_15 rfl (s_icmp_ge X dX10_goTale_16 (by decide) (s_bipush X dX10_goTale_83 rfl (s_iret X hr dX10_goTale_85)) (s_aload_n X dX10_goTale_19 rfl (s_get X dX10_goTale_20 (mcn (⟨_, _, _, _, rfl, inU_X10, by decide, uw_713, rfl⟩) (mnl)) (s_iload_n X dX10_goTale_23 rfl (s_iload_n X dX10_goTale_24 rfl (s_iadd X dX10_goTale_25 (s_iaload X dX10_goTale_26 (s_istore X dX10_goTale_27 (by decide) (s_aload_n X dX10_goTale_29 rfl (s_iload X dX10_goTale_30 (s_callV X dX10_goTale_32 (mv (vok_V X rfl uw_880 uw_882 (UW_pr 34 rfl rfl) uw_7 ci_X10_isReady yok_X10_isReady ⟨Nat.le_of_ble_eq_true rfl, Nat.le_of_ble_eq_true rfl⟩) mv0) (s_if_ne X dX10_goTale_35 (by decide) (s_aload_n X dX10_goTale_40 rfl (s_get X dX10_goTale_41 (mcn (⟨_, _, _, _, rfl, inU_X10, by decide, uw_730, rfl⟩) (mnl)) (s_iload X dX10_goTale_44 (s_dup2 X dX10_goTale_46 (s_iaload X dX10_goTale_47 (s_iconst X dX10_goTale_48 rfl (s_iadd X dX10_goTale_49 (s_iastore X dX10_goTale_50 (s_aload_n X dX10_goTale_51 rfl (s_aload_n X dX10_goTale_52 rfl (s_callV X dX10_goTale_53 (mv (vok_V X rfl uw_928 uw_930 (UW_pr 41 rfl rfl) uw_7 ci_X10_sumOf yok_X10_sumOf ⟨Nat.le_of_ble_eq_true rfl, Nat.le_of_ble_eq_true rfl⟩) mv0) (s_aload_n X dX10_goTale_56 rfl (s_get X dX10_goTale_57 (mcn (⟨_, _, _, _, rfl, inU_X10, by decide, uw_731, rfl⟩) (mnl)) (s_icmp_le X dX10_goTale_60 (by decide) (s_aload_n X dX10_goTale_70 rfl (s_get X dX10_goTale_71 (mcn (⟨_, _, _, _, rfl, inU_X10, by decide, uw_731, rfl⟩) (mnl)) Sd.rf)) (s_aload_n X dX10_goTale_63 rfl (s_callV X dX10_goTale_64 (mv (vok_V X rfl uw_928 uw_930 (UW_pr 41 rfl rfl) uw_7 ci_X10_sumOf yok_X10_sumOf ⟨Nat.le_of_ble_eq_true rfl, Nat.le_of_ble_eq_true rfl⟩) mv0) (s_goto X dX10_goTale_67 (by decide) Sd.rf))))))))))))))))) (s_iload_n X dX10_goTale_38 rfl (s_iret X hr dX10_goTale_39))))))))))))))))
set_option maxRecDepth 100000 in
theorem sb_X10_goTale_2 {p : Program} {l : Launch} {e : Env} {s : State} {m : MethodId} {args : Array Value} {below : List Frame} {meth : Method} {c : Code} {g : Gm} {h0 : Hp} {P : PT} {mc ms : Nat} (X : Cx g p s m args meth c (Adom h0 s.heap.size) cX10_goTale RX10 5) (hr : meth.sig.returnType = some .int) (hn : meth.name = "goTale") : SX g p l e s m args below meth c d_X10_goTale 5 mc ms h0 P (bk_X10_goTale_2 l g (fun b => GX g p l e s m args below meth c d_X10_goTale 5 mc ms h0 P (pc_X10_goTale b)) P) 74 := (s_putI X dX10_goTale_74 (mcn (⟨_, _, _, _, tyX10, rfl, inU_X10, by decide, uw_731, rfl, tyX10_ok, nmX10, rfl, rfl⟩) (mnl)) (s_iinc X dX10_goTale_77 rfl (by decide) (s_goto X dX10_goTale_80 (by decide) Sd.rf)))
set_option maxRecDepth 100000 in
theorem vc_X10_goTale {l : Launch} {g : Gm} {a0 : Nat} {a1 : Int32} {a2 : Int32} {h : Hp} {mc ms : Nat} {P : PT} (H : ∀ G : Nat → CT, (∀ (b : Nat) (h : Hp) (cb sb : Nat) (ls : LocS) (st : List Value), bk_X10_goTale l g b G P h cb sb ls st → G b h cb sb ls st) → G 0 h mc ms [some (.ref a0), some (.int a1), some (.int a2), none, none] []) : Run l g d_X10_goTale [.ref a0, .int a1, .int a2] h mc ms P :=
  Run.of (d := d_X10_goTale) (by decide) (mcn rfl (mcn rfl (mcn rfl (mnl)))) (Nat.le_of_ble_eq_true rfl) (fun p e s m args below meth c X hr hn => H (fun b => GX g p l e s m args below meth c d_X10_goTale 5 mc ms h P (pc_X10_goTale b)) (fun b h1 cb sb ls st hb => match b, hb with
    | 0, hb => sb_X10_goTale_0 (p := p) (e := e) (below := below) X hr hn h1 cb sb ls st hb
    | 1, hb => sb_X10_goTale_1 (p := p) (e := e) (below := below) X hr hn h1 cb sb ls st hb
    | 2, hb => sb_X10_goTale_2 (p := p) (e := e) (below := below) X hr hn h1 cb sb ls st hb
    | _ + 3, hb => hb.elim))
theorem dX10_tale_0 : decode cX10_tale 0 = .ok (.aload_n 0, 1) := by decide +kernel
theorem dX10_tale_1 : decode cX10_tale 1 = .ok (.iconst 0, 1) := by decide +kernel
theorem dX10_tale_2 : decode cX10_tale 2 = .ok (.putfield 71, 3) := by decide +kernel
theorem dX10_tale_5 : decode cX10_tale 5 = .ok (.iload_n 1, 1) := by decide +kernel
theorem dX10_tale_6 : decode cX10_tale 6 = .ok (.invokestatic 91, 3) := by decide +kernel
theorem dX10_tale_9 : decode cX10_tale 9 = .ok (.ifCond .ne 5, 3) := by decide +kernel
theorem dX10_tale_12 : decode cX10_tale 12 = .ok (.iconst (-1), 1) := by decide +kernel
theorem dX10_tale_13 : decode cX10_tale 13 = .ok (.ireturn, 1) := by decide +kernel
theorem dX10_tale_14 : decode cX10_tale 14 = .ok (.iload_n 2, 1) := by decide +kernel
theorem dX10_tale_15 : decode cX10_tale 15 = .ok (.invokestatic 94, 3) := by decide +kernel
theorem dX10_tale_18 : decode cX10_tale 18 = .ok (.ifCond .eq 36, 3) := by decide +kernel
theorem dX10_tale_21 : decode cX10_tale 21 = .ok (.iload 4, 2) := by decide +kernel
theorem dX10_tale_23 : decode cX10_tale 23 = .ok (.iconst 0, 1) := by decide +kernel
theorem dX10_tale_24 : decode cX10_tale 24 = .ok (.bipush 20, 2) := by decide +kernel
theorem dX10_tale_26 : decode cX10_tale 26 = .ok (.invokestatic 77, 3) := by decide +kernel
theorem dX10_tale_29 : decode cX10_tale 29 = .ok (.ifCond .eq 25, 3) := by decide +kernel
theorem dX10_tale_32 : decode cX10_tale 32 = .ok (.iload 5, 2) := by decide +kernel
theorem dX10_tale_34 : decode cX10_tale 34 = .ok (.iconst 0, 1) := by decide +kernel
theorem dX10_tale_35 : decode cX10_tale 35 = .ok (.iconst 3, 1) := by decide +kernel
theorem dX10_tale_36 : decode cX10_tale 36 = .ok (.invokestatic 77, 3) := by decide +kernel
theorem dX10_tale_39 : decode cX10_tale 39 = .ok (.ifCond .ne 18, 3) := by decide +kernel
theorem dX10_tale_42 : decode cX10_tale 42 = .ok (.iload 5, 2) := by decide +kernel
theorem dX10_tale_44 : decode cX10_tale 44 = .ok (.bipush 10, 2) := by decide +kernel
theorem dX10_tale_46 : decode cX10_tale 46 = .ok (.bipush 13, 2) := by decide +kernel
theorem dX10_tale_48 : decode cX10_tale 48 = .ok (.invokestatic 77, 3) := by decide +kernel
theorem dX10_tale_51 : decode cX10_tale 51 = .ok (.ifCond .ne 6, 3) := by decide +kernel
theorem dX10_tale_54 : decode cX10_tale 54 = .ok (.bipush (-2), 2) := by decide +kernel
theorem dX10_tale_56 : decode cX10_tale 56 = .ok (.ireturn, 1) := by decide +kernel
theorem dX10_tale_57 : decode cX10_tale 57 = .ok (.aload_n 0, 1) := by decide +kernel
theorem dX10_tale_58 : decode cX10_tale 58 = .ok (.iload_n 1, 1) := by decide +kernel
theorem dX10_tale_59 : decode cX10_tale 59 = .ok (.iload_n 2, 1) := by decide +kernel
theorem dX10_tale_60 : decode cX10_tale 60 = .ok (.iload_n 3, 1) := by decide +kernel
theorem dX10_tale_61 : decode cX10_tale 61 = .ok (.iload 4, 2) := by decide +kernel
theorem dX10_tale_63 : decode cX10_tale 63 = .ok (.invokevirtual 97, 3) := by decide +kernel
theorem dX10_tale_66 : decode cX10_tale 66 = .ok (.istore 6, 2) := by decide +kernel
theorem dX10_tale_68 : decode cX10_tale 68 = .ok (.iload 6, 2) := by decide +kernel
theorem dX10_tale_70 : decode cX10_tale 70 = .ok (.ifCond .eq 10, 3) := by decide +kernel
theorem dX10_tale_73 : decode cX10_tale 73 = .ok (.aload_n 0, 1) := by decide +kernel
theorem dX10_tale_74 : decode cX10_tale 74 = .ok (.iload 6, 2) := by decide +kernel
theorem dX10_tale_76 : decode cX10_tale 76 = .ok (.invokevirtual 101, 3) := by decide +kernel
theorem dX10_tale_79 : decode cX10_tale 79 = .ok (.ireturn, 1) := by decide +kernel
theorem dX10_tale_80 : decode cX10_tale 80 = .ok (.aload_n 0, 1) := by decide +kernel
theorem dX10_tale_81 : decode cX10_tale 81 = .ok (.getfield 81, 3) := by decide +kernel
theorem dX10_tale_84 : decode cX10_tale 84 = .ok (.ifCond .ne 6, 3) := by decide +kernel
theorem dX10_tale_87 : decode cX10_tale 87 = .ok (.bipush (-3), 2) := by decide +kernel
theorem dX10_tale_89 : decode cX10_tale 89 = .ok (.ireturn, 1) := by decide +kernel
theorem dX10_tale_90 : decode cX10_tale 90 = .ok (.bipush 60, 2) := by decide +kernel
theorem dX10_tale_92 : decode cX10_tale 92 = .ok (.iload_n 1, 1) := by decide +kernel
theorem dX10_tale_93 : decode cX10_tale 93 = .ok (.imul, 1) := by decide +kernel
theorem dX10_tale_94 : decode cX10_tale 94 = .ok (.iload_n 3, 1) := by decide +kernel
theorem dX10_tale_95 : decode cX10_tale 95 = .ok (.iadd, 1) := by decide +kernel
theorem dX10_tale_96 : decode cX10_tale 96 = .ok (.istore 7, 2) := by decide +kernel
theorem dX10_tale_98 : decode cX10_tale 98 = .ok (.iconst 0, 1) := by decide +kernel
theorem dX10_tale_99 : decode cX10_tale 99 = .ok (.istore 8, 2) := by decide +kernel
theorem dX10_tale_101 : decode cX10_tale 101 = .ok (.iload 8, 2) := by decide +kernel
theorem dX10_tale_103 : decode cX10_tale 103 = .ok (.iload 4, 2) := by decide +kernel
theorem dX10_tale_105 : decode cX10_tale 105 = .ok (.if_icmp .ge 28, 3) := by decide +kernel
theorem dX10_tale_108 : decode cX10_tale 108 = .ok (.aload_n 0, 1) := by decide +kernel
theorem dX10_tale_109 : decode cX10_tale 109 = .ok (.aload_n 0, 1) := by decide +kernel
theorem dX10_tale_110 : decode cX10_tale 110 = .ok (.getfield 16, 3) := by decide +kernel
theorem dX10_tale_113 : decode cX10_tale 113 = .ok (.iload 7, 2) := by decide +kernel
theorem dX10_tale_115 : decode cX10_tale 115 = .ok (.iload 8, 2) := by decide +kernel
theorem dX10_tale_117 : decode cX10_tale 117 = .ok (.iadd, 1) := by decide +kernel
theorem dX10_tale_118 : decode cX10_tale 118 = .ok (.iaload, 1) := by decide +kernel
theorem dX10_tale_119 : decode cX10_tale 119 = .ok (.invokevirtual 84, 3) := by decide +kernel
theorem dX10_tale_122 : decode cX10_tale 122 = .ok (.ifCond .ne 5, 3) := by decide +kernel
theorem dX10_tale_125 : decode cX10_tale 125 = .ok (.iconst (-1), 1) := by decide +kernel
theorem dX10_tale_126 : decode cX10_tale 126 = .ok (.ireturn, 1) := by decide +kernel
theorem dX10_tale_127 : decode cX10_tale 127 = .ok (.iinc 8 1, 3) := by decide +kernel
theorem dX10_tale_130 : decode cX10_tale 130 = .ok (.goto (-29), 3) := by decide +kernel
theorem dX10_tale_133 : decode cX10_tale 133 = .ok (.aload_n 0, 1) := by decide +kernel
theorem dX10_tale_134 : decode cX10_tale 134 = .ok (.iload 7, 2) := by decide +kernel
theorem dX10_tale_136 : decode cX10_tale 136 = .ok (.iload 4, 2) := by decide +kernel
theorem dX10_tale_138 : decode cX10_tale 138 = .ok (.invokevirtual 199, 3) := by decide +kernel
theorem dX10_tale_141 : decode cX10_tale 141 = .ok (.istore 8, 2) := by decide +kernel
theorem dX10_tale_143 : decode cX10_tale 143 = .ok (.iload 5, 2) := by decide +kernel
theorem dX10_tale_145 : decode cX10_tale 145 = .ok (.iconst 1, 1) := by decide +kernel
theorem dX10_tale_146 : decode cX10_tale 146 = .ok (.if_icmp .ne 6, 3) := by decide +kernel
theorem dX10_tale_149 : decode cX10_tale 149 = .ok (.iload 8, 2) := by decide +kernel
theorem dX10_tale_151 : decode cX10_tale 151 = .ok (.ireturn, 1) := by decide +kernel
theorem dX10_tale_152 : decode cX10_tale 152 = .ok (.iload 8, 2) := by decide +kernel
theorem dX10_tale_154 : decode cX10_tale 154 = .ok (.bipush (-9), 2) := by decide +kernel
theorem dX10_tale_156 : decode cX10_tale 156 = .ok (.if_icmp .ne 12, 3) := by decide +kernel
theorem dX10_tale_159 : decode cX10_tale 159 = .ok (.aload_n 0, 1) := by decide +kernel
theorem dX10_tale_160 : decode cX10_tale 160 = .ok (.iload 5, 2) := by decide +kernel
theorem dX10_tale_162 : decode cX10_tale 162 = .ok (.invokevirtual 202, 3) := by decide +kernel
theorem dX10_tale_165 : decode cX10_tale 165 = .ok (.goto 8, 3) := by decide +kernel
theorem dX10_tale_168 : decode cX10_tale 168 = .ok (.bipush (-100), 2) := by decide +kernel
theorem dX10_tale_170 : decode cX10_tale 170 = .ok (.iload 8, 2) := by decide +kernel
theorem dX10_tale_172 : decode cX10_tale 172 = .ok (.isub, 1) := by decide +kernel
theorem dX10_tale_173 : decode cX10_tale 173 = .ok (.ireturn, 1) := by decide +kernel
def bk_X10_tale_0 (l : Launch) (g : Gm) (G : Nat → CT) (P : PT) : CT := (oALd 0 (oPush (.int (0)) (oPutI [10] 0 (oILd 1 (oCall l g d_X10_isSheet 1 (oIf (fun x => x = 0) (oPush (.int (-1)) (oIRet P)) (oILd 2 (oCall l g d_X10_isSort 1 (oIf (fun x => x = 0) (oPush (.int (-2)) (oIRet P)) (oILd 4 (oPush (.int (0)) (oPush (.int (20)) (oCall l g d_X10_within 3 (oIf (fun x => x = 0) (oPush (.int (-2)) (oIRet P)) (oILd 5 (oPush (.int (0)) (oPush (.int (3)) (oCall l g d_X10_within 3 (oIf (fun x => x = 0) (oILd 5 (oPush (.int (10)) (oPush (.int (13)) (oCall l g d_X10_within 3 (oIf (fun x => x = 0) (oPush (.int (-2)) (oIRet P)) (G 1)))))) (G 1))))))))))))))))))))
def bk_X10_tale_1 (l : Launch) (g : Gm) (G : Nat → CT) (P : PT) : CT := (oALd 0 (oILd 1 (oILd 2 (oILd 3 (oILd 4 (oCallV l g [(10, d_X10_against)] 5 (oISt 6 (oILd 6 (oIf (fun x => x = 0) (oALd 0 (oGet [10] 5 (oIf (fun x => x = 0) (oPush (.int (-3)) (oIRet P)) (oPush (.int (60)) (oILd 1 (oBin (fun x y => x * y) (oILd 3 (oBin (fun x y => x + y) (oISt 7 (oPush (.int (0)) (oISt 8 (G 2)))))))))))) (oALd 0 (oILd 6 (oCallV l g [(10, d_X10_fails)] 2 (oIRet P)))))))))))))
def bk_X10_tale_2 (l : Launch) (g : Gm) (G : Nat → CT) (P : PT) : CT := (oILd 8 (oILd 4 (oCmp (fun x y => y ≤ x) (oALd 0 (oILd 7 (oILd 4 (oCallV l g [(10, d_X10_goTale)] 3 (oISt 8 (oILd 5 (oPush (.int (1)) (oCmp (fun x y => x = y) (oILd 8 (oIRet P)) (oILd 8 (oPush (.int (-9)) (oCmp (fun x y => x = y) (oALd 0 (oILd 5 (oCallV l g [(10, d_X10_tellTale)] 2 (oGo (oIRet P))))) (oPush (.int (-100)) (oILd 8 (oBin (fun x y => x - y) (oIRet P))))))))))))))) (oALd 0 (oALd 0 (oGet [10] 4 (oILd 7 (oILd 8 (oBin (fun x y => x + y) (oIAL g (oCallV l g [(10, d_X10_isVillage)] 2 (oIf (fun x => x = 0) (oPush (.int (-1)) (oIRet P)) (oInc 8 (1) (oGo (G 2)))))))))))))))
def bk_X10_tale (l : Launch) (g : Gm) (b : Nat) (G : Nat → CT) (P : PT) : CT := match b with
  | 0 => bk_X10_tale_0 l g G P
  | 1 => bk_X10_tale_1 l g G P
  | 2 => bk_X10_tale_2 l g G P
  | _ => fun _ _ _ _ _ => False
def pc_X10_tale (b : Nat) : Nat := match b with
  | 0 => 0
  | 1 => 57
  | 2 => 101
  | _ => 0
set_option maxRecDepth 100000 in
theorem sb_X10_tale_0 {p : Program} {l : Launch} {e : Env} {s : State} {m : MethodId} {args : Array Value} {below : List Frame} {meth : Method} {c : Code} {g : Gm} {h0 : Hp} {P : PT} {mc ms : Nat} (X : Cx g p s m args meth c (Adom h0 s.heap.size) cX10_tale RX10 9) (hr : meth.sig.returnType = some .int) (hn : meth.name = "tale") : SX g p l e s m args below meth c d_X10_tale 9 mc ms h0 P (bk_X10_tale_0 l g (fun b => GX g p l e s m args below meth c d_X10_tale 9 mc ms h0 P (pc_X10_tale b)) P) 0 := (s_aload_n X dX10_tale_0 rfl (s_iconst X dX10_tale_1 rfl (s_putI X dX10_tale_2 (mcn (⟨_, _, _, _, tyX10, rfl, inU_X10, by decide, uw_709, rfl, tyX10_ok, nmX10, rfl, rfl⟩) (mnl)) (s_iload_n X dX10_tale_5 rfl (s_callS X dX10_tale_6 uw_795 uw_796 uw_7 ci_X10_isSheet yok_X10_isSheet ⟨Nat.le_of_ble_eq_true rfl, Nat.le_of_ble_eq_true rfl⟩ (s_if_ne X dX10_tale_9 (by decide) (s_iload_n X dX10_tale_14 rfl (s_callS X dX10_tale_15 uw_801 uw_802 uw_7 ci_X10_isSort yok_X10_isSort ⟨Nat.le_of_ble_eq_true rfl, Nat.le_of_ble_eq_true rfl⟩ (s_if_eq X dX10_tale_18 (by decide) (s_bipush X dX10_tale_54 rfl (s_iret X hr dX10_tale_56)) (s_iload X dX10_tale_21 (s_iconst X dX10_tale_23 rfl (s_bipush X dX10_tale_24 rfl (s_callS X dX10_tale_26 uw_798 uw_799 uw_7 ci_X10_within yok_X10_within ⟨Nat.le_of_ble_eq_true rfl, Nat.le_of_ble_eq_true rfl⟩ (s_if_eq X dX10_tale_29 (by decide) (s_bipush X dX10_tale_54 rfl (s_iret X hr dX10_tale_56)) (s_iload X dX10_tale_32 (s_iconst X dX10_tale_34 rfl (s_iconst X dX10_tale_35 rfl (s_callS X dX10_tale_36 uw_798 uw_799 uw_7 ci_X10_within yok_X10_within ⟨Nat.le_of_ble_eq_true rfl, Nat.le_of_ble_eq_true rfl⟩ (s_if_ne X dX10_tale_39 (by decide) Sd.rf (s_iload X dX10_tale_42 (s_bipush X dX10_tale_44 rfl (s_bipush X dX10_tale_46 rfl (s_callS X dX10_tale_48 uw_798 uw_799 uw_7 ci_X10_within yok_X10_within ⟨Nat.le_of_ble_eq_true rfl, Nat.le_of_ble_eq_true rfl⟩ (s_if_ne X dX10_tale_51 (by decide) Sd.rf (s_bipush X dX10_tale_54 rfl (s_iret X hr dX10_tale_56)))))))))))))))))))) (s_iconst X dX10_tale_12 rfl (s_iret X hr dX10_tale_13))))))))
set_option maxRecDepth 100000 in
theorem sb_X10_tale_1 {p : Program} {l : Launch} {e : Env} {s : State} {m : MethodId} {args : Array Value} {below : List Frame} {meth : Method} {c : Code} {g : Gm} {h0 : Hp} {P : PT} {mc ms : Nat} (X : Cx g p s m args meth c (Adom h0 s.heap.size) cX10_tale RX10 9) (hr : meth.sig.returnType = some .int) (hn : meth.name = "tale") : SX g p l e s m args below meth c d_X10_tale 9 mc ms h0 P (bk_X10_tale_1 l g (fun b => GX g p l e s m args below meth c d_X10_tale 9 mc ms h0 P (pc_X10_tale b)) P) 57 := (s_aload_n X dX10_tale_57 rfl (s_iload_n X dX10_tale_58 rfl (s_iload_n X dX10_tale_59 rfl (s_iload_n X dX10_tale_60 rfl (s_iload X dX10_tale_61 (s_callV X dX10_tale_63 (mv (vok_V X rfl uw_804 uw_806 (UW_pr 16 rfl rfl) uw_7 ci_X10_against yok_X10_against ⟨Nat.le_of_ble_eq_true rfl, Nat.le_of_ble_eq_true rfl⟩) mv0) (s_istore X dX10_tale_66 (by decide) (s_iload X dX10_tale_68 (s_if_eq X dX10_tale_70 (by decide) (s_aload_n X dX10_tale_80 rfl (s_get X dX10_tale_81 (mcn (⟨_, _, _, _, rfl, inU_X10, by decide, uw_714, rfl⟩) (mnl)) (s_if_ne X dX10_tale_84 (by decide) (s_bipush X dX10_tale_90 rfl (s_iload_n X dX10_tale_92 rfl (s_imul X dX10_tale_93 (s_iload_n X dX10_tale_94 rfl (s_iadd X dX10_tale_95 (s_istore X dX10_tale_96 (by decide) (s_iconst X dX10_tale_98 rfl (s_istore X dX10_tale_99 (by decide) Sd.rf)))))))) (s_bipush X dX10_tale_87 rfl (s_iret X hr dX10_tale_89))))) (s_aload_n X dX10_tale_73 rfl (s_iload X dX10_tale_74 (s_callV X dX10_tale_76 (mv (vok_V X rfl uw_808 uw_810 (UW_pr 17 rfl rfl) uw_7 ci_X10_fails yok_X10_fails ⟨Nat.le_of_ble_eq_true rfl, Nat.le_of_ble_eq_true rfl⟩) mv0) (s_iret X hr dX10_tale_79)))))))))))))
set_option maxRecDepth 100000 in
theorem sb_X10_tale_2 {p : Program} {l : Launch} {e : Env} {s : State} {m : MethodId} {args : Array Value} {below : List Frame} {meth : Method} {c : Code} {g : Gm} {h0 : Hp} {P : PT} {mc ms : Nat} (X : Cx g p s m args meth c (Adom h0 s.heap.size) cX10_tale RX10 9) (hr : meth.sig.returnType = some .int) (hn : meth.name = "tale") : SX g p l e s m args below meth c d_X10_tale 9 mc ms h0 P (bk_X10_tale_2 l g (fun b => GX g p l e s m args below meth c d_X10_tale 9 mc ms h0 P (pc_X10_tale b)) P) 101 := (s_iload X dX10_tale_101 (s_iload X dX10_tale_103 (s_icmp_ge X dX10_tale_105 (by decide) (s_aload_n X dX10_tale_133 rfl (s_iload X dX10_tale_134 (s_iload X dX10_tale_136 (s_callV X dX10_tale_138 (mv (vok_V X rfl uw_952 uw_954 (UW_pr 45 rfl rfl) uw_7 ci_X10_goTale yok_X10_goTale ⟨Nat.le_of_ble_eq_true rfl, Nat.le_of_ble_eq_true rfl⟩) mv0) (s_istore X dX10_tale_141 (by decide) (s_iload X dX10_tale_143 (s_iconst X dX10_tale_145 rfl (s_icmp_ne X dX10_tale_146 (by decide) (s_iload X dX10_tale_152 (s_bipush X dX10_tale_154 rfl (s_icmp_ne X dX10_tale_156 (by decide) (s_bipush X dX10_tale_168 rfl (s_iload X dX10_tale_170 (s_isub X dX10_tale_172 (s_iret X hr dX10_tale_173)))) (s_aload_n X dX10_tale_159 rfl (s_iload X dX10_tale_160 (s_callV X dX10_tale_162 (mv (vok_V X rfl uw_956 uw_958 (UW_pr 46 rfl rfl) uw_7 ci_X10_tellTale yok_X10_tellTale ⟨Nat.le_of_ble_eq_true rfl, Nat.le_of_ble_eq_true rfl⟩) mv0) (s_goto X dX10_tale_165 (by decide) (s_iret X hr dX10_tale_173)))))))) (s_iload X dX10_tale_149 (s_iret X hr dX10_tale_151)))))))))) (s_aload_n X dX10_tale_108 rfl (s_aload_n X dX10_tale_109 rfl (s_get X dX10_tale_110 (mcn (⟨_, _, _, _, rfl, inU_X10, by decide, uw_713, rfl⟩) (mnl)) (s_iload X dX10_tale_113 (s_iload X dX10_tale_115 (s_iadd X dX10_tale_117 (s_iaload X dX10_tale_118 (s_callV X dX10_tale_119 (mv (vok_V X rfl uw_864 uw_866 (UW_pr 30 rfl rfl) uw_7 ci_X10_isVillage yok_X10_isVillage ⟨Nat.le_of_ble_eq_true rfl, Nat.le_of_ble_eq_true rfl⟩) mv0) (s_if_ne X dX10_tale_122 (by decide) (s_iinc X dX10_tale_127 rfl (by decide) (s_goto X dX10_tale_130 (by decide) Sd.rf)) (s_iconst X dX10_tale_125 rfl (s_iret X hr dX10_tale_126))))))))))))))
set_option maxRecDepth 100000 in
theorem vc_X10_tale {l : Launch} {g : Gm} {a0 : Nat} {a1 : Int32} {a2 : Int32} {a3 : Int32} {a4 : Int32} {a5 : Int32} {h : Hp} {mc ms : Nat} {P : PT} (H : ∀ G : Nat → CT, (∀ (b : Nat) (h : Hp) (cb sb : Nat) (ls : LocS) (st : List Value), bk_X10_tale l g b G P h cb sb ls st → G b h cb sb ls st) → G 0 h mc ms [some (.ref a0), some (.int a1), some (.int a2), some (.int a3), some (.int a4), some (.int a5), none, none, none] []) : Run l g d_X10_tale [.ref a0, .int a1, .int a2, .int a3, .int a4, .int a5] h mc ms P :=
  Run.of (d := d_X10_tale) (by decide) (mcn rfl (mcn rfl (mcn rfl (mcn rfl (mcn rfl (mcn rfl (mnl))))))) (Nat.le_of_ble_eq_true rfl) (fun p e s m args below meth c X hr hn => H (fun b => GX g p l e s m args below meth c d_X10_tale 9 mc ms h P (pc_X10_tale b)) (fun b h1 cb sb ls st hb => match b, hb with
    | 0, hb => sb_X10_tale_0 (p := p) (e := e) (below := below) X hr hn h1 cb sb ls st hb
    | 1, hb => sb_X10_tale_1 (p := p) (e := e) (below := below) X hr hn h1 cb sb ls st hb
    | 2, hb => sb_X10_tale_2 (p := p) (e := e) (below := below) X hr hn h1 cb sb ls st hb
    | _ + 3, hb => hb.elim))
theorem dX10_tellTale_0 : decode cX10_tellTale 0 = .ok (.iload_n 1, 1) := by decide +kernel
theorem dX10_tellTale_1 : decode cX10_tellTale 1 = .ok (.bipush 10, 2) := by decide +kernel
theorem dX10_tellTale_3 : decode cX10_tellTale 3 = .ok (.if_icmp .lt 29, 3) := by decide +kernel
theorem dX10_tellTale_6 : decode cX10_tellTale 6 = .ok (.aload_n 0, 1) := by decide +kernel
theorem dX10_tellTale_7 : decode cX10_tellTale 7 = .ok (.iload_n 1, 1) := by decide +kernel
theorem dX10_tellTale_8 : decode cX10_tellTale 8 = .ok (.bipush 10, 2) := by decide +kernel
theorem dX10_tellTale_10 : decode cX10_tellTale 10 = .ok (.isub, 1) := by decide +kernel
theorem dX10_tellTale_11 : decode cX10_tellTale 11 = .ok (.invokevirtual 84, 3) := by decide +kernel
theorem dX10_tellTale_14 : decode cX10_tellTale 14 = .ok (.ifCond .eq 15, 3) := by decide +kernel
theorem dX10_tellTale_17 : decode cX10_tellTale 17 = .ok (.aload_n 0, 1) := by decide +kernel
theorem dX10_tellTale_18 : decode cX10_tellTale 18 = .ok (.getfield 58, 3) := by decide +kernel
theorem dX10_tellTale_21 : decode cX10_tellTale 21 = .ok (.iload_n 1, 1) := by decide +kernel
theorem dX10_tellTale_22 : decode cX10_tellTale 22 = .ok (.bipush 10, 2) := by decide +kernel
theorem dX10_tellTale_24 : decode cX10_tellTale 24 = .ok (.isub, 1) := by decide +kernel
theorem dX10_tellTale_25 : decode cX10_tellTale 25 = .ok (.iaload, 1) := by decide +kernel
theorem dX10_tellTale_26 : decode cX10_tellTale 26 = .ok (.goto 5, 3) := by decide +kernel
theorem dX10_tellTale_29 : decode cX10_tellTale 29 = .ok (.bipush (-9), 2) := by decide +kernel
theorem dX10_tellTale_31 : decode cX10_tellTale 31 = .ok (.ireturn, 1) := by decide +kernel
theorem dX10_tellTale_32 : decode cX10_tellTale 32 = .ok (.iload_n 1, 1) := by decide +kernel
theorem dX10_tellTale_33 : decode cX10_tellTale 33 = .ok (.ifCond .ne 10, 3) := by decide +kernel
theorem dX10_tellTale_36 : decode cX10_tellTale 36 = .ok (.aload_n 0, 1) := by decide +kernel
theorem dX10_tellTale_37 : decode cX10_tellTale 37 = .ok (.invokevirtual 187, 3) := by decide +kernel
theorem dX10_tellTale_40 : decode cX10_tellTale 40 = .ok (.goto 19, 3) := by decide +kernel
theorem dX10_tellTale_43 : decode cX10_tellTale 43 = .ok (.iload_n 1, 1) := by decide +kernel
theorem dX10_tellTale_44 : decode cX10_tellTale 44 = .ok (.iconst 2, 1) := by decide +kernel
theorem dX10_tellTale_45 : decode cX10_tellTale 45 = .ok (.if_icmp .ne 10, 3) := by decide +kernel
theorem dX10_tellTale_48 : decode cX10_tellTale 48 = .ok (.aload_n 0, 1) := by decide +kernel
theorem dX10_tellTale_49 : decode cX10_tellTale 49 = .ok (.invokevirtual 190, 3) := by decide +kernel
theorem dX10_tellTale_52 : decode cX10_tellTale 52 = .ok (.goto 7, 3) := by decide +kernel
theorem dX10_tellTale_55 : decode cX10_tellTale 55 = .ok (.aload_n 0, 1) := by decide +kernel
theorem dX10_tellTale_56 : decode cX10_tellTale 56 = .ok (.getfield 196, 3) := by decide +kernel
theorem dX10_tellTale_59 : decode cX10_tellTale 59 = .ok (.ireturn, 1) := by decide +kernel
def bk_X10_tellTale_0 (l : Launch) (g : Gm) (G : Nat → CT) (P : PT) : CT := (oILd 1 (oPush (.int (10)) (oCmp (fun x y => x < y) (oILd 1 (oIf (fun x => x = 0) (oALd 0 (oCallV l g [(10, d_X10_sumOf)] 1 (oGo (oIRet P)))) (oILd 1 (oPush (.int (2)) (oCmp (fun x y => x = y) (oALd 0 (oCallV l g [(10, d_X10_underWay)] 1 (oGo (oIRet P)))) (oALd 0 (oGet [10] 22 (oIRet P)))))))) (oALd 0 (oILd 1 (oPush (.int (10)) (oBin (fun x y => x - y) (oCallV l g [(10, d_X10_isVillage)] 2 (oIf (fun x => x = 0) (oPush (.int (-9)) (oIRet P)) (oALd 0 (oGet [10] 21 (oILd 1 (oPush (.int (10)) (oBin (fun x y => x - y) (oIAL g (oGo (oIRet P)))))))))))))))))
def bk_X10_tellTale (l : Launch) (g : Gm) (b : Nat) (G : Nat → CT) (P : PT) : CT := match b with
  | 0 => bk_X10_tellTale_0 l g G P
  | _ => fun _ _ _ _ _ => False
def pc_X10_tellTale (b : Nat) : Nat := match b with
  | 0 => 0
  | _ => 0
set_option maxRecDepth 100000 in
theorem sb_X10_tellTale_0 {p : Program} {l : Launch} {e : Env} {s : State} {m : MethodId} {args : Array Value} {below : List Frame} {meth : Method} {c : Code} {g : Gm} {h0 : Hp} {P : PT} {mc ms : Nat} (X : Cx g p s m args meth c (Adom h0 s.heap.size) cX10_tellTale RX10 2) (hr : meth.sig.returnType = some .int) (hn : meth.name = "tellTale") : SX g p l e s m args below meth c d_X10_tellTale 2 mc ms h0 P (bk_X10_tellTale_0 l g (fun b => GX g p l e s m args below meth c d_X10_tellTale 2 mc ms h0 P (pc_X10_tellTale b)) P) 0 := (s_iload_n X dX10_tellTale_0 rfl (s_bipush X dX10_tellTale_1 rfl (s_icmp_lt X dX10_tellTale_3 (by decide) (s_iload_n X dX10_tellTale_32 rfl (s_if_ne X dX10_tellTale_33 (by decide) (s_iload_n X dX10_tellTale_43 rfl (s_iconst X dX10_tellTale_44 rfl (s_icmp_ne X dX10_tellTale_45 (by decide) (s_aload_n X dX10_tellTale_55 rfl (s_get X dX10_tellTale_56 (mcn (⟨_, _, _, _, rfl, inU_X10, by decide, uw_731, rfl⟩) (mnl)) (s_iret X hr dX10_tellTale_59))) (s_aload_n X dX10_tellTale_48 rfl (s_callV X dX10_tellTale_49 (mv (vok_V X rfl uw_932 uw_934 (UW_pr 42 rfl rfl) uw_7 ci_X10_underWay yok_X10_underWay ⟨Nat.le_of_ble_eq_true rfl, Nat.le_of_ble_eq_true rfl⟩) mv0) (s_goto X dX10_tellTale_52 (by decide) (s_iret X hr dX10_tellTale_59))))))) (s_aload_n X dX10_tellTale_36 rfl (s_callV X dX10_tellTale_37 (mv (vok_V X rfl uw_928 uw_930 (UW_pr 41 rfl rfl) uw_7 ci_X10_sumOf yok_X10_sumOf ⟨Nat.le_of_ble_eq_true rfl, Nat.le_of_ble_eq_true rfl⟩) mv0) (s_goto X dX10_tellTale_40 (by decide) (s_iret X hr dX10_tellTale_59)))))) (s_aload_n X dX10_tellTale_6 rfl (s_iload_n X dX10_tellTale_7 rfl (s_bipush X dX10_tellTale_8 rfl (s_isub X dX10_tellTale_10 (s_callV X dX10_tellTale_11 (mv (vok_V X rfl uw_864 uw_866 (UW_pr 30 rfl rfl) uw_7 ci_X10_isVillage yok_X10_isVillage ⟨Nat.le_of_ble_eq_true rfl, Nat.le_of_ble_eq_true rfl⟩) mv0) (s_if_eq X dX10_tellTale_14 (by decide) (s_bipush X dX10_tellTale_29 rfl (s_iret X hr dX10_tellTale_31)) (s_aload_n X dX10_tellTale_17 rfl (s_get X dX10_tellTale_18 (mcn (⟨_, _, _, _, rfl, inU_X10, by decide, uw_730, rfl⟩) (mnl)) (s_iload_n X dX10_tellTale_21 rfl (s_bipush X dX10_tellTale_22 rfl (s_isub X dX10_tellTale_24 (s_iaload X dX10_tellTale_25 (s_goto X dX10_tellTale_26 (by decide) (s_iret X hr dX10_tellTale_31)))))))))))))))))
set_option maxRecDepth 100000 in
theorem vc_X10_tellTale {l : Launch} {g : Gm} {a0 : Nat} {a1 : Int32} {h : Hp} {mc ms : Nat} {P : PT} (H : ∀ G : Nat → CT, (∀ (b : Nat) (h : Hp) (cb sb : Nat) (ls : LocS) (st : List Value), bk_X10_tellTale l g b G P h cb sb ls st → G b h cb sb ls st) → G 0 h mc ms [some (.ref a0), some (.int a1)] []) : Run l g d_X10_tellTale [.ref a0, .int a1] h mc ms P :=
  Run.of (d := d_X10_tellTale) (by decide) (mcn rfl (mcn rfl (mnl))) (Nat.le_of_ble_eq_true rfl) (fun p e s m args below meth c X hr hn => H (fun b => GX g p l e s m args below meth c d_X10_tellTale 2 mc ms h P (pc_X10_tellTale b)) (fun b h1 cb sb ls st hb => match b, hb with
    | 0, hb => sb_X10_tellTale_0 (p := p) (e := e) (below := below) X hr hn h1 cb sb ls st hb
    | _ + 1, hb => hb.elim))
theorem dX10_isCut_0 : decode cX10_isCut 0 = .ok (.iload_n 1, 1) := by decide +kernel
theorem dX10_isCut_1 : decode cX10_isCut 1 = .ok (.istore_n 2, 1) := by decide +kernel
theorem dX10_isCut_2 : decode cX10_isCut 2 = .ok (.iconst 0, 1) := by decide +kernel
theorem dX10_isCut_3 : decode cX10_isCut 3 = .ok (.istore_n 3, 1) := by decide +kernel
theorem dX10_isCut_4 : decode cX10_isCut 4 = .ok (.iload_n 3, 1) := by decide +kernel
theorem dX10_isCut_5 : decode cX10_isCut 5 = .ok (.aload_n 0, 1) := by decide +kernel
theorem dX10_isCut_6 : decode cX10_isCut 6 = .ok (.getfield 81, 3) := by decide +kernel
theorem dX10_isCut_9 : decode cX10_isCut 9 = .ok (.if_icmp .ge 41, 3) := by decide +kernel
theorem dX10_isCut_12 : decode cX10_isCut 12 = .ok (.aload_n 0, 1) := by decide +kernel
theorem dX10_isCut_13 : decode cX10_isCut 13 = .ok (.getfield 58, 3) := by decide +kernel
theorem dX10_isCut_16 : decode cX10_isCut 16 = .ok (.iload_n 3, 1) := by decide +kernel
theorem dX10_isCut_17 : decode cX10_isCut 17 = .ok (.iload_n 2, 1) := by decide +kernel
theorem dX10_isCut_18 : decode cX10_isCut 18 = .ok (.bipush 6, 2) := by decide +kernel
theorem dX10_isCut_20 : decode cX10_isCut 20 = .ok (.irem, 1) := by decide +kernel
theorem dX10_isCut_21 : decode cX10_isCut 21 = .ok (.iastore, 1) := by decide +kernel
theorem dX10_isCut_22 : decode cX10_isCut 22 = .ok (.iload_n 2, 1) := by decide +kernel
theorem dX10_isCut_23 : decode cX10_isCut 23 = .ok (.bipush 6, 2) := by decide +kernel
theorem dX10_isCut_25 : decode cX10_isCut 25 = .ok (.idiv, 1) := by decide +kernel
theorem dX10_isCut_26 : decode cX10_isCut 26 = .ok (.istore_n 2, 1) := by decide +kernel
theorem dX10_isCut_27 : decode cX10_isCut 27 = .ok (.aload_n 0, 1) := by decide +kernel
theorem dX10_isCut_28 : decode cX10_isCut 28 = .ok (.getfield 58, 3) := by decide +kernel
theorem dX10_isCut_31 : decode cX10_isCut 31 = .ok (.iload_n 3, 1) := by decide +kernel
theorem dX10_isCut_32 : decode cX10_isCut 32 = .ok (.iaload, 1) := by decide +kernel
theorem dX10_isCut_33 : decode cX10_isCut 33 = .ok (.aload_n 0, 1) := by decide +kernel
theorem dX10_isCut_34 : decode cX10_isCut 34 = .ok (.getfield 22, 3) := by decide +kernel
theorem dX10_isCut_37 : decode cX10_isCut 37 = .ok (.iload_n 3, 1) := by decide +kernel
theorem dX10_isCut_38 : decode cX10_isCut 38 = .ok (.iaload, 1) := by decide +kernel
theorem dX10_isCut_39 : decode cX10_isCut 39 = .ok (.if_icmp .le 5, 3) := by decide +kernel
theorem dX10_isCut_42 : decode cX10_isCut 42 = .ok (.iconst 0, 1) := by decide +kernel
theorem dX10_isCut_43 : decode cX10_isCut 43 = .ok (.ireturn, 1) := by decide +kernel
theorem dX10_isCut_44 : decode cX10_isCut 44 = .ok (.iinc 3 1, 3) := by decide +kernel
theorem dX10_isCut_47 : decode cX10_isCut 47 = .ok (.goto (-43), 3) := by decide +kernel
theorem dX10_isCut_50 : decode cX10_isCut 50 = .ok (.iload_n 2, 1) := by decide +kernel
theorem dX10_isCut_51 : decode cX10_isCut 51 = .ok (.ifCond .ne 14, 3) := by decide +kernel
theorem dX10_isCut_54 : decode cX10_isCut 54 = .ok (.aload_n 0, 1) := by decide +kernel
theorem dX10_isCut_55 : decode cX10_isCut 55 = .ok (.invokevirtual 184, 3) := by decide +kernel
theorem dX10_isCut_58 : decode cX10_isCut 58 = .ok (.ifCond .eq 7, 3) := by decide +kernel
theorem dX10_isCut_61 : decode cX10_isCut 61 = .ok (.iconst 1, 1) := by decide +kernel
theorem dX10_isCut_62 : decode cX10_isCut 62 = .ok (.goto 4, 3) := by decide +kernel
theorem dX10_isCut_65 : decode cX10_isCut 65 = .ok (.iconst 0, 1) := by decide +kernel
theorem dX10_isCut_66 : decode cX10_isCut 66 = .ok (.ireturn, 1) := by decide +kernel
def bk_X10_isCut_0 (l : Launch) (g : Gm) (G : Nat → CT) (P : PT) : CT := (oILd 1 (oISt 2 (oPush (.int (0)) (oISt 3 (G 1)))))
def bk_X10_isCut_1 (l : Launch) (g : Gm) (G : Nat → CT) (P : PT) : CT := (oILd 3 (oALd 0 (oGet [10] 5 (oCmp (fun x y => y ≤ x) (oILd 2 (oIf (fun x => x = 0) (oALd 0 (oCallV l g [(10, d_X10_canBe)] 1 (oIf (fun x => x = 0) (oPush (.int (0)) (oZRet P)) (oPush (.int (1)) (oGo (oZRet P)))))) (oPush (.int (0)) (oZRet P)))) (oALd 0 (oGet [10] 21 (oILd 3 (oILd 2 (oPush (.int (6)) (oBinZ (fun x y => x - x / y * y) (oIAS g (oILd 2 (oPush (.int (6)) (oBinZ (fun x y => x / y) (oISt 2 (oALd 0 (oGet [10] 21 (oILd 3 (oIAL g (oALd 0 (oGet [10] 7 (oILd 3 (oIAL g (oCmp (fun x y => x ≤ y) (oInc 3 (1) (oGo (G 1))) (oPush (.int (0)) (oZRet P))))))))))))))))))))))))))
def bk_X10_isCut (l : Launch) (g : Gm) (b : Nat) (G : Nat → CT) (P : PT) : CT := match b with
  | 0 => bk_X10_isCut_0 l g G P
  | 1 => bk_X10_isCut_1 l g G P
  | _ => fun _ _ _ _ _ => False
def pc_X10_isCut (b : Nat) : Nat := match b with
  | 0 => 0
  | 1 => 4
  | _ => 0
set_option maxRecDepth 100000 in
theorem sb_X10_isCut_0 {p : Program} {l : Launch} {e : Env} {s : State} {m : MethodId} {args : Array Value} {below : List Frame} {meth : Method} {c : Code} {g : Gm} {h0 : Hp} {P : PT} {mc ms : Nat} (X : Cx g p s m args meth c (Adom h0 s.heap.size) cX10_isCut RX10 4) (hr : meth.sig.returnType = some .boolean) (hn : meth.name = "isCut") : SX g p l e s m args below meth c d_X10_isCut 4 mc ms h0 P (bk_X10_isCut_0 l g (fun b => GX g p l e s m args below meth c d_X10_isCut 4 mc ms h0 P (pc_X10_isCut b)) P) 0 := (s_iload_n X dX10_isCut_0 rfl (s_istore_n X dX10_isCut_1 rfl (by decide) (s_iconst X dX10_isCut_2 rfl (s_istore_n X dX10_isCut_3 rfl (by decide) Sd.rf))))
set_option maxRecDepth 100000 in
theorem sb_X10_isCut_1 {p : Program} {l : Launch} {e : Env} {s : State} {m : MethodId} {args : Array Value} {below : List Frame} {meth : Method} {c : Code} {g : Gm} {h0 : Hp} {P : PT} {mc ms : Nat} (X : Cx g p s m args meth c (Adom h0 s.heap.size) cX10_isCut RX10 4) (hr : meth.sig.returnType = some .boolean) (hn : meth.name = "isCut") : SX g p l e s m args below meth c d_X10_isCut 4 mc ms h0 P (bk_X10_isCut_1 l g (fun b => GX g p l e s m args below meth c d_X10_isCut 4 mc ms h0 P (pc_X10_isCut b)) P) 4 := (s_iload_n X dX10_isCut_4 rfl (s_aload_n X dX10_isCut_5 rfl (s_get X dX10_isCut_6 (mcn (⟨_, _, _, _, rfl, inU_X10, by decide, uw_714, rfl⟩) (mnl)) (s_icmp_ge X dX10_isCut_9 (by decide) (s_iload_n X dX10_isCut_50 rfl (s_if_ne X dX10_isCut_51 (by decide) (s_iconst X dX10_isCut_65 rfl (s_zret X hr dX10_isCut_66)) (s_aload_n X dX10_isCut_54 rfl (s_callV X dX10_isCut_55 (mv (vok_V X rfl uw_924 uw_926 (UW_pr 40 rfl rfl) uw_7 ci_X10_canBe yok_X10_canBe ⟨Nat.le_of_ble_eq_true rfl, Nat.le_of_ble_eq_true rfl⟩) mv0) (s_if_eq X dX10_isCut_58 (by decide) (s_iconst X dX10_isCut_65 rfl (s_zret X hr dX10_isCut_66)) (s_iconst X dX10_isCut_61 rfl (s_goto X dX10_isCut_62 (by decide) (s_zret X hr dX10_isCut_66)))))))) (s_aload_n X dX10_isCut_12 rfl (s_get X dX10_isCut_13 (mcn (⟨_, _, _, _, rfl, inU_X10, by decide, uw_730, rfl⟩) (mnl)) (s_iload_n X dX10_isCut_16 rfl (s_iload_n X dX10_isCut_17 rfl (s_bipush X dX10_isCut_18 rfl (s_irem X dX10_isCut_20 (s_iastore X dX10_isCut_21 (s_iload_n X dX10_isCut_22 rfl (s_bipush X dX10_isCut_23 rfl (s_idiv X dX10_isCut_25 (s_istore_n X dX10_isCut_26 rfl (by decide) (s_aload_n X dX10_isCut_27 rfl (s_get X dX10_isCut_28 (mcn (⟨_, _, _, _, rfl, inU_X10, by decide, uw_730, rfl⟩) (mnl)) (s_iload_n X dX10_isCut_31 rfl (s_iaload X dX10_isCut_32 (s_aload_n X dX10_isCut_33 rfl (s_get X dX10_isCut_34 (mcn (⟨_, _, _, _, rfl, inU_X10, by decide, uw_716, rfl⟩) (mnl)) (s_iload_n X dX10_isCut_37 rfl (s_iaload X dX10_isCut_38 (s_icmp_le X dX10_isCut_39 (by decide) (s_iinc X dX10_isCut_44 rfl (by decide) (s_goto X dX10_isCut_47 (by decide) Sd.rf)) (s_iconst X dX10_isCut_42 rfl (s_zret X hr dX10_isCut_43))))))))))))))))))))))))))
set_option maxRecDepth 100000 in
theorem vc_X10_isCut {l : Launch} {g : Gm} {a0 : Nat} {a1 : Int32} {h : Hp} {mc ms : Nat} {P : PT} (H : ∀ G : Nat → CT, (∀ (b : Nat) (h : Hp) (cb sb : Nat) (ls : LocS) (st : List Value), bk_X10_isCut l g b G P h cb sb ls st → G b h cb sb ls st) → G 0 h mc ms [some (.ref a0), some (.int a1), none, none] []) : Run l g d_X10_isCut [.ref a0, .int a1] h mc ms P :=
  Run.of (d := d_X10_isCut) (by decide) (mcn rfl (mcn rfl (mnl))) (Nat.le_of_ble_eq_true rfl) (fun p e s m args below meth c X hr hn => H (fun b => GX g p l e s m args below meth c d_X10_isCut 4 mc ms h P (pc_X10_isCut b)) (fun b h1 cb sb ls st hb => match b, hb with
    | 0, hb => sb_X10_isCut_0 (p := p) (e := e) (below := below) X hr hn h1 cb sb ls st hb
    | 1, hb => sb_X10_isCut_1 (p := p) (e := e) (below := below) X hr hn h1 cb sb ls st hb
    | _ + 2, hb => hb.elim))
theorem dX10_allThings_0 : decode cX10_allThings 0 = .ok (.iconst 0, 1) := by decide +kernel
theorem dX10_allThings_1 : decode cX10_allThings 1 = .ok (.istore_n 1, 1) := by decide +kernel
theorem dX10_allThings_2 : decode cX10_allThings 2 = .ok (.iconst 0, 1) := by decide +kernel
theorem dX10_allThings_3 : decode cX10_allThings 3 = .ok (.istore_n 2, 1) := by decide +kernel
theorem dX10_allThings_4 : decode cX10_allThings 4 = .ok (.iload_n 2, 1) := by decide +kernel
theorem dX10_allThings_5 : decode cX10_allThings 5 = .ok (.aload_n 0, 1) := by decide +kernel
theorem dX10_allThings_6 : decode cX10_allThings 6 = .ok (.getfield 81, 3) := by decide +kernel
theorem dX10_allThings_9 : decode cX10_allThings 9 = .ok (.if_icmp .ge 18, 3) := by decide +kernel
theorem dX10_allThings_12 : decode cX10_allThings 12 = .ok (.iload_n 1, 1) := by decide +kernel
theorem dX10_allThings_13 : decode cX10_allThings 13 = .ok (.aload_n 0, 1) := by decide +kernel
theorem dX10_allThings_14 : decode cX10_allThings 14 = .ok (.getfield 22, 3) := by decide +kernel
theorem dX10_allThings_17 : decode cX10_allThings 17 = .ok (.iload_n 2, 1) := by decide +kernel
theorem dX10_allThings_18 : decode cX10_allThings 18 = .ok (.iaload, 1) := by decide +kernel
theorem dX10_allThings_19 : decode cX10_allThings 19 = .ok (.iadd, 1) := by decide +kernel
theorem dX10_allThings_20 : decode cX10_allThings 20 = .ok (.istore_n 1, 1) := by decide +kernel
theorem dX10_allThings_21 : decode cX10_allThings 21 = .ok (.iinc 2 1, 3) := by decide +kernel
theorem dX10_allThings_24 : decode cX10_allThings 24 = .ok (.goto (-20), 3) := by decide +kernel
theorem dX10_allThings_27 : decode cX10_allThings 27 = .ok (.iload_n 1, 1) := by decide +kernel
theorem dX10_allThings_28 : decode cX10_allThings 28 = .ok (.ireturn, 1) := by decide +kernel
def bk_X10_allThings_0 (l : Launch) (g : Gm) (G : Nat → CT) (P : PT) : CT := (oPush (.int (0)) (oISt 1 (oPush (.int (0)) (oISt 2 (G 1)))))
def bk_X10_allThings_1 (l : Launch) (g : Gm) (G : Nat → CT) (P : PT) : CT := (oILd 2 (oALd 0 (oGet [10] 5 (oCmp (fun x y => y ≤ x) (oILd 1 (oIRet P)) (oILd 1 (oALd 0 (oGet [10] 7 (oILd 2 (oIAL g (oBin (fun x y => x + y) (oISt 1 (oInc 2 (1) (oGo (G 1))))))))))))))
def bk_X10_allThings (l : Launch) (g : Gm) (b : Nat) (G : Nat → CT) (P : PT) : CT := match b with
  | 0 => bk_X10_allThings_0 l g G P
  | 1 => bk_X10_allThings_1 l g G P
  | _ => fun _ _ _ _ _ => False
def pc_X10_allThings (b : Nat) : Nat := match b with
  | 0 => 0
  | 1 => 4
  | _ => 0
set_option maxRecDepth 100000 in
theorem sb_X10_allThings_0 {p : Program} {l : Launch} {e : Env} {s : State} {m : MethodId} {args : Array Value} {below : List Frame} {meth : Method} {c : Code} {g : Gm} {h0 : Hp} {P : PT} {mc ms : Nat} (X : Cx g p s m args meth c (Adom h0 s.heap.size) cX10_allThings RX10 3) (hr : meth.sig.returnType = some .int) (hn : meth.name = "allThings") : SX g p l e s m args below meth c d_X10_allThings 3 mc ms h0 P (bk_X10_allThings_0 l g (fun b => GX g p l e s m args below meth c d_X10_allThings 3 mc ms h0 P (pc_X10_allThings b)) P) 0 := (s_iconst X dX10_allThings_0 rfl (s_istore_n X dX10_allThings_1 rfl (by decide) (s_iconst X dX10_allThings_2 rfl (s_istore_n X dX10_allThings_3 rfl (by decide) Sd.rf))))
set_option maxRecDepth 100000 in
theorem sb_X10_allThings_1 {p : Program} {l : Launch} {e : Env} {s : State} {m : MethodId} {args : Array Value} {below : List Frame} {meth : Method} {c : Code} {g : Gm} {h0 : Hp} {P : PT} {mc ms : Nat} (X : Cx g p s m args meth c (Adom h0 s.heap.size) cX10_allThings RX10 3) (hr : meth.sig.returnType = some .int) (hn : meth.name = "allThings") : SX g p l e s m args below meth c d_X10_allThings 3 mc ms h0 P (bk_X10_allThings_1 l g (fun b => GX g p l e s m args below meth c d_X10_allThings 3 mc ms h0 P (pc_X10_allThings b)) P) 4 := (s_iload_n X dX10_allThings_4 rfl (s_aload_n X dX10_allThings_5 rfl (s_get X dX10_allThings_6 (mcn (⟨_, _, _, _, rfl, inU_X10, by decide, uw_714, rfl⟩) (mnl)) (s_icmp_ge X dX10_allThings_9 (by decide) (s_iload_n X dX10_allThings_27 rfl (s_iret X hr dX10_allThings_28)) (s_iload_n X dX10_allThings_12 rfl (s_aload_n X dX10_allThings_13 rfl (s_get X dX10_allThings_14 (mcn (⟨_, _, _, _, rfl, inU_X10, by decide, uw_716, rfl⟩) (mnl)) (s_iload_n X dX10_allThings_17 rfl (s_iaload X dX10_allThings_18 (s_iadd X dX10_allThings_19 (s_istore_n X dX10_allThings_20 rfl (by decide) (s_iinc X dX10_allThings_21 rfl (by decide) (s_goto X dX10_allThings_24 (by decide) Sd.rf)))))))))))))
set_option maxRecDepth 100000 in
theorem vc_X10_allThings {l : Launch} {g : Gm} {a0 : Nat} {h : Hp} {mc ms : Nat} {P : PT} (H : ∀ G : Nat → CT, (∀ (b : Nat) (h : Hp) (cb sb : Nat) (ls : LocS) (st : List Value), bk_X10_allThings l g b G P h cb sb ls st → G b h cb sb ls st) → G 0 h mc ms [some (.ref a0), none, none] []) : Run l g d_X10_allThings [.ref a0] h mc ms P :=
  Run.of (d := d_X10_allThings) (by decide) (mcn rfl (mnl)) (Nat.le_of_ble_eq_true rfl) (fun p e s m args below meth c X hr hn => H (fun b => GX g p l e s m args below meth c d_X10_allThings 3 mc ms h P (pc_X10_allThings b)) (fun b h1 cb sb ls st hb => match b, hb with
    | 0, hb => sb_X10_allThings_0 (p := p) (e := e) (below := below) X hr hn h1 cb sb ls st hb
    | 1, hb => sb_X10_allThings_1 (p := p) (e := e) (below := below) X hr hn h1 cb sb ls st hb
    | _ + 2, hb => hb.elim))
theorem dX10_lastCode_0 : decode cX10_lastCode 0 = .ok (.iconst 0, 1) := by decide +kernel
theorem dX10_lastCode_1 : decode cX10_lastCode 1 = .ok (.istore_n 1, 1) := by decide +kernel
theorem dX10_lastCode_2 : decode cX10_lastCode 2 = .ok (.aload_n 0, 1) := by decide +kernel
theorem dX10_lastCode_3 : decode cX10_lastCode 3 = .ok (.getfield 81, 3) := by decide +kernel
theorem dX10_lastCode_6 : decode cX10_lastCode 6 = .ok (.iconst 1, 1) := by decide +kernel
theorem dX10_lastCode_7 : decode cX10_lastCode 7 = .ok (.isub, 1) := by decide +kernel
theorem dX10_lastCode_8 : decode cX10_lastCode 8 = .ok (.istore_n 2, 1) := by decide +kernel
theorem dX10_lastCode_9 : decode cX10_lastCode 9 = .ok (.iload_n 2, 1) := by decide +kernel
theorem dX10_lastCode_10 : decode cX10_lastCode 10 = .ok (.ifCond .lt 21, 3) := by decide +kernel
theorem dX10_lastCode_13 : decode cX10_lastCode 13 = .ok (.bipush 6, 2) := by decide +kernel
theorem dX10_lastCode_15 : decode cX10_lastCode 15 = .ok (.iload_n 1, 1) := by decide +kernel
theorem dX10_lastCode_16 : decode cX10_lastCode 16 = .ok (.imul, 1) := by decide +kernel
theorem dX10_lastCode_17 : decode cX10_lastCode 17 = .ok (.aload_n 0, 1) := by decide +kernel
theorem dX10_lastCode_18 : decode cX10_lastCode 18 = .ok (.getfield 22, 3) := by decide +kernel
theorem dX10_lastCode_21 : decode cX10_lastCode 21 = .ok (.iload_n 2, 1) := by decide +kernel
theorem dX10_lastCode_22 : decode cX10_lastCode 22 = .ok (.iaload, 1) := by decide +kernel
theorem dX10_lastCode_23 : decode cX10_lastCode 23 = .ok (.iadd, 1) := by decide +kernel
theorem dX10_lastCode_24 : decode cX10_lastCode 24 = .ok (.istore_n 1, 1) := by decide +kernel
theorem dX10_lastCode_25 : decode cX10_lastCode 25 = .ok (.iinc 2 (-1), 3) := by decide +kernel
theorem dX10_lastCode_28 : decode cX10_lastCode 28 = .ok (.goto (-19), 3) := by decide +kernel
theorem dX10_lastCode_31 : decode cX10_lastCode 31 = .ok (.iload_n 1, 1) := by decide +kernel
theorem dX10_lastCode_32 : decode cX10_lastCode 32 = .ok (.ireturn, 1) := by decide +kernel
def bk_X10_lastCode_0 (l : Launch) (g : Gm) (G : Nat → CT) (P : PT) : CT := (oPush (.int (0)) (oISt 1 (oALd 0 (oGet [10] 5 (oPush (.int (1)) (oBin (fun x y => x - y) (oISt 2 (G 1))))))))
def bk_X10_lastCode_1 (l : Launch) (g : Gm) (G : Nat → CT) (P : PT) : CT := (oILd 2 (oIf (fun x => x < 0) (oILd 1 (oIRet P)) (oPush (.int (6)) (oILd 1 (oBin (fun x y => x * y) (oALd 0 (oGet [10] 7 (oILd 2 (oIAL g (oBin (fun x y => x + y) (oISt 1 (oInc 2 (-1) (oGo (G 1))))))))))))))
def bk_X10_lastCode (l : Launch) (g : Gm) (b : Nat) (G : Nat → CT) (P : PT) : CT := match b with
  | 0 => bk_X10_lastCode_0 l g G P
  | 1 => bk_X10_lastCode_1 l g G P
  | _ => fun _ _ _ _ _ => False
def pc_X10_lastCode (b : Nat) : Nat := match b with
  | 0 => 0
  | 1 => 9
  | _ => 0
set_option maxRecDepth 100000 in
theorem sb_X10_lastCode_0 {p : Program} {l : Launch} {e : Env} {s : State} {m : MethodId} {args : Array Value} {below : List Frame} {meth : Method} {c : Code} {g : Gm} {h0 : Hp} {P : PT} {mc ms : Nat} (X : Cx g p s m args meth c (Adom h0 s.heap.size) cX10_lastCode RX10 3) (hr : meth.sig.returnType = some .int) (hn : meth.name = "lastCode") : SX g p l e s m args below meth c d_X10_lastCode 3 mc ms h0 P (bk_X10_lastCode_0 l g (fun b => GX g p l e s m args below meth c d_X10_lastCode 3 mc ms h0 P (pc_X10_lastCode b)) P) 0 := (s_iconst X dX10_lastCode_0 rfl (s_istore_n X dX10_lastCode_1 rfl (by decide) (s_aload_n X dX10_lastCode_2 rfl (s_get X dX10_lastCode_3 (mcn (⟨_, _, _, _, rfl, inU_X10, by decide, uw_714, rfl⟩) (mnl)) (s_iconst X dX10_lastCode_6 rfl (s_isub X dX10_lastCode_7 (s_istore_n X dX10_lastCode_8 rfl (by decide) Sd.rf)))))))
set_option maxRecDepth 100000 in
theorem sb_X10_lastCode_1 {p : Program} {l : Launch} {e : Env} {s : State} {m : MethodId} {args : Array Value} {below : List Frame} {meth : Method} {c : Code} {g : Gm} {h0 : Hp} {P : PT} {mc ms : Nat} (X : Cx g p s m args meth c (Adom h0 s.heap.size) cX10_lastCode RX10 3) (hr : meth.sig.returnType = some .int) (hn : meth.name = "lastCode") : SX g p l e s m args below meth c d_X10_lastCode 3 mc ms h0 P (bk_X10_lastCode_1 l g (fun b => GX g p l e s m args below meth c d_X10_lastCode 3 mc ms h0 P (pc_X10_lastCode b)) P) 9 := (s_iload_n X dX10_lastCode_9 rfl (s_if_lt X dX10_lastCode_10 (by decide) (s_iload_n X dX10_lastCode_31 rfl (s_iret X hr dX10_lastCode_32)) (s_bipush X dX10_lastCode_13 rfl (s_iload_n X dX10_lastCode_15 rfl (s_imul X dX10_lastCode_16 (s_aload_n X dX10_lastCode_17 rfl (s_get X dX10_lastCode_18 (mcn (⟨_, _, _, _, rfl, inU_X10, by decide, uw_716, rfl⟩) (mnl)) (s_iload_n X dX10_lastCode_21 rfl (s_iaload X dX10_lastCode_22 (s_iadd X dX10_lastCode_23 (s_istore_n X dX10_lastCode_24 rfl (by decide) (s_iinc X dX10_lastCode_25 rfl (by decide) (s_goto X dX10_lastCode_28 (by decide) Sd.rf)))))))))))))
set_option maxRecDepth 100000 in
theorem vc_X10_lastCode {l : Launch} {g : Gm} {a0 : Nat} {h : Hp} {mc ms : Nat} {P : PT} (H : ∀ G : Nat → CT, (∀ (b : Nat) (h : Hp) (cb sb : Nat) (ls : LocS) (st : List Value), bk_X10_lastCode l g b G P h cb sb ls st → G b h cb sb ls st) → G 0 h mc ms [some (.ref a0), none, none] []) : Run l g d_X10_lastCode [.ref a0] h mc ms P :=
  Run.of (d := d_X10_lastCode) (by decide) (mcn rfl (mnl)) (Nat.le_of_ble_eq_true rfl) (fun p e s m args below meth c X hr hn => H (fun b => GX g p l e s m args below meth c d_X10_lastCode 3 mc ms h P (pc_X10_lastCode b)) (fun b h1 cb sb ls st hb => match b, hb with
    | 0, hb => sb_X10_lastCode_0 (p := p) (e := e) (below := below) X hr hn h1 cb sb ls st hb
    | 1, hb => sb_X10_lastCode_1 (p := p) (e := e) (below := below) X hr hn h1 cb sb ls st hb
    | _ + 2, hb => hb.elim))
theorem dX10_cuts_0 : decode cX10_cuts 0 = .ok (.aload_n 0, 1) := by decide +kernel
theorem dX10_cuts_1 : decode cX10_cuts 1 = .ok (.getfield 81, 3) := by decide +kernel
theorem dX10_cuts_4 : decode cX10_cuts 4 = .ok (.ifCond .ne 6, 3) := by decide +kernel
theorem dX10_cuts_7 : decode cX10_cuts 7 = .ok (.bipush (-3), 2) := by decide +kernel
theorem dX10_cuts_9 : decode cX10_cuts 9 = .ok (.ireturn, 1) := by decide +kernel
theorem dX10_cuts_10 : decode cX10_cuts 10 = .ok (.iconst 0, 1) := by decide +kernel
theorem dX10_cuts_11 : decode cX10_cuts 11 = .ok (.istore_n 1, 1) := by decide +kernel
theorem dX10_cuts_12 : decode cX10_cuts 12 = .ok (.iconst 0, 1) := by decide +kernel
theorem dX10_cuts_13 : decode cX10_cuts 13 = .ok (.istore_n 2, 1) := by decide +kernel
theorem dX10_cuts_14 : decode cX10_cuts 14 = .ok (.iload_n 2, 1) := by decide +kernel
theorem dX10_cuts_15 : decode cX10_cuts 15 = .ok (.sipush 1296, 3) := by decide +kernel
theorem dX10_cuts_18 : decode cX10_cuts 18 = .ok (.if_icmp .ge 25, 3) := by decide +kernel
theorem dX10_cuts_21 : decode cX10_cuts 21 = .ok (.iload_n 1, 1) := by decide +kernel
theorem dX10_cuts_22 : decode cX10_cuts 22 = .ok (.aload_n 0, 1) := by decide +kernel
theorem dX10_cuts_23 : decode cX10_cuts 23 = .ok (.iload_n 2, 1) := by decide +kernel
theorem dX10_cuts_24 : decode cX10_cuts 24 = .ok (.invokevirtual 205, 3) := by decide +kernel
theorem dX10_cuts_27 : decode cX10_cuts 27 = .ok (.ifCond .eq 7, 3) := by decide +kernel
theorem dX10_cuts_30 : decode cX10_cuts 30 = .ok (.iconst 1, 1) := by decide +kernel
theorem dX10_cuts_31 : decode cX10_cuts 31 = .ok (.goto 4, 3) := by decide +kernel
theorem dX10_cuts_34 : decode cX10_cuts 34 = .ok (.iconst 0, 1) := by decide +kernel
theorem dX10_cuts_35 : decode cX10_cuts 35 = .ok (.iadd, 1) := by decide +kernel
theorem dX10_cuts_36 : decode cX10_cuts 36 = .ok (.istore_n 1, 1) := by decide +kernel
theorem dX10_cuts_37 : decode cX10_cuts 37 = .ok (.iinc 2 1, 3) := by decide +kernel
theorem dX10_cuts_40 : decode cX10_cuts 40 = .ok (.goto (-26), 3) := by decide +kernel
theorem dX10_cuts_43 : decode cX10_cuts 43 = .ok (.iload_n 1, 1) := by decide +kernel
theorem dX10_cuts_44 : decode cX10_cuts 44 = .ok (.ireturn, 1) := by decide +kernel
def bk_X10_cuts_0 (l : Launch) (g : Gm) (G : Nat → CT) (P : PT) : CT := (oALd 0 (oGet [10] 5 (oIf (fun x => x = 0) (oPush (.int (-3)) (oIRet P)) (oPush (.int (0)) (oISt 1 (oPush (.int (0)) (oISt 2 (G 1))))))))
def bk_X10_cuts_1 (l : Launch) (g : Gm) (G : Nat → CT) (P : PT) : CT := (oILd 2 (oPush (.int (1296)) (oCmp (fun x y => y ≤ x) (oILd 1 (oIRet P)) (oILd 1 (oALd 0 (oILd 2 (oCallV l g [(10, d_X10_isCut)] 2 (oIf (fun x => x = 0) (oPush (.int (0)) (G 2)) (oPush (.int (1)) (oGo (G 2)))))))))))
def bk_X10_cuts_2 (l : Launch) (g : Gm) (G : Nat → CT) (P : PT) : CT := (oBin (fun x y => x + y) (oISt 1 (oInc 2 (1) (oGo (G 1)))))
def bk_X10_cuts (l : Launch) (g : Gm) (b : Nat) (G : Nat → CT) (P : PT) : CT := match b with
  | 0 => bk_X10_cuts_0 l g G P
  | 1 => bk_X10_cuts_1 l g G P
  | 2 => bk_X10_cuts_2 l g G P
  | _ => fun _ _ _ _ _ => False
def pc_X10_cuts (b : Nat) : Nat := match b with
  | 0 => 0
  | 1 => 14
  | 2 => 35
  | _ => 0
set_option maxRecDepth 100000 in
theorem sb_X10_cuts_0 {p : Program} {l : Launch} {e : Env} {s : State} {m : MethodId} {args : Array Value} {below : List Frame} {meth : Method} {c : Code} {g : Gm} {h0 : Hp} {P : PT} {mc ms : Nat} (X : Cx g p s m args meth c (Adom h0 s.heap.size) cX10_cuts RX10 3) (hr : meth.sig.returnType = some .int) (hn : meth.name = "cuts") : SX g p l e s m args below meth c d_X10_cuts 3 mc ms h0 P (bk_X10_cuts_0 l g (fun b => GX g p l e s m args below meth c d_X10_cuts 3 mc ms h0 P (pc_X10_cuts b)) P) 0 := (s_aload_n X dX10_cuts_0 rfl (s_get X dX10_cuts_1 (mcn (⟨_, _, _, _, rfl, inU_X10, by decide, uw_714, rfl⟩) (mnl)) (s_if_ne X dX10_cuts_4 (by decide) (s_iconst X dX10_cuts_10 rfl (s_istore_n X dX10_cuts_11 rfl (by decide) (s_iconst X dX10_cuts_12 rfl (s_istore_n X dX10_cuts_13 rfl (by decide) Sd.rf)))) (s_bipush X dX10_cuts_7 rfl (s_iret X hr dX10_cuts_9)))))
set_option maxRecDepth 100000 in
theorem sb_X10_cuts_1 {p : Program} {l : Launch} {e : Env} {s : State} {m : MethodId} {args : Array Value} {below : List Frame} {meth : Method} {c : Code} {g : Gm} {h0 : Hp} {P : PT} {mc ms : Nat} (X : Cx g p s m args meth c (Adom h0 s.heap.size) cX10_cuts RX10 3) (hr : meth.sig.returnType = some .int) (hn : meth.name = "cuts") : SX g p l e s m args below meth c d_X10_cuts 3 mc ms h0 P (bk_X10_cuts_1 l g (fun b => GX g p l e s m args below meth c d_X10_cuts 3 mc ms h0 P (pc_X10_cuts b)) P) 14 := (s_iload_n X dX10_cuts_14 rfl (s_sipush X dX10_cuts_15 rfl (s_icmp_ge X dX10_cuts_18 (by decide) (s_iload_n X dX10_cuts_43 rfl (s_iret X hr dX10_cuts_44)) (s_iload_n X dX10_cuts_21 rfl (s_aload_n X dX10_cuts_22 rfl (s_iload_n X dX10_cuts_23 rfl (s_callV X dX10_cuts_24 (mv (vok_V X rfl uw_964 uw_966 (UW_pr 47 rfl rfl) uw_7 ci_X10_isCut yok_X10_isCut ⟨Nat.le_of_ble_eq_true rfl, Nat.le_of_ble_eq_true rfl⟩) mv0) (s_if_eq X dX10_cuts_27 (by decide) (s_iconst X dX10_cuts_34 rfl Sd.rf) (s_iconst X dX10_cuts_30 rfl (s_goto X dX10_cuts_31 (by decide) Sd.rf))))))))))
set_option maxRecDepth 100000 in
theorem sb_X10_cuts_2 {p : Program} {l : Launch} {e : Env} {s : State} {m : MethodId} {args : Array Value} {below : List Frame} {meth : Method} {c : Code} {g : Gm} {h0 : Hp} {P : PT} {mc ms : Nat} (X : Cx g p s m args meth c (Adom h0 s.heap.size) cX10_cuts RX10 3) (hr : meth.sig.returnType = some .int) (hn : meth.name = "cuts") : SX g p l e s m args below meth c d_X10_cuts 3 mc ms h0 P (bk_X10_cuts_2 l g (fun b => GX g p l e s m args below meth c d_X10_cuts 3 mc ms h0 P (pc_X10_cuts b)) P) 35 := (s_iadd X dX10_cuts_35 (s_istore_n X dX10_cuts_36 rfl (by decide) (s_iinc X dX10_cuts_37 rfl (by decide) (s_goto X dX10_cuts_40 (by decide) Sd.rf))))
set_option maxRecDepth 100000 in
theorem vc_X10_cuts {l : Launch} {g : Gm} {a0 : Nat} {h : Hp} {mc ms : Nat} {P : PT} (H : ∀ G : Nat → CT, (∀ (b : Nat) (h : Hp) (cb sb : Nat) (ls : LocS) (st : List Value), bk_X10_cuts l g b G P h cb sb ls st → G b h cb sb ls st) → G 0 h mc ms [some (.ref a0), none, none] []) : Run l g d_X10_cuts [.ref a0] h mc ms P :=
  Run.of (d := d_X10_cuts) (by decide) (mcn rfl (mnl)) (Nat.le_of_ble_eq_true rfl) (fun p e s m args below meth c X hr hn => H (fun b => GX g p l e s m args below meth c d_X10_cuts 3 mc ms h P (pc_X10_cuts b)) (fun b h1 cb sb ls st hb => match b, hb with
    | 0, hb => sb_X10_cuts_0 (p := p) (e := e) (below := below) X hr hn h1 cb sb ls st hb
    | 1, hb => sb_X10_cuts_1 (p := p) (e := e) (below := below) X hr hn h1 cb sb ls st hb
    | 2, hb => sb_X10_cuts_2 (p := p) (e := e) (below := below) X hr hn h1 cb sb ls st hb
    | _ + 3, hb => hb.elim))
theorem dX10_findWays_0 : decode cX10_findWays 0 = .ok (.iconst 0, 1) := by decide +kernel
theorem dX10_findWays_1 : decode cX10_findWays 1 = .ok (.istore_n 2, 1) := by decide +kernel
theorem dX10_findWays_2 : decode cX10_findWays 2 = .ok (.iload_n 2, 1) := by decide +kernel
theorem dX10_findWays_3 : decode cX10_findWays 3 = .ok (.sipush 1296, 3) := by decide +kernel
theorem dX10_findWays_6 : decode cX10_findWays 6 = .ok (.if_icmp .ge 109, 3) := by decide +kernel
theorem dX10_findWays_9 : decode cX10_findWays 9 = .ok (.aload_n 0, 1) := by decide +kernel
theorem dX10_findWays_10 : decode cX10_findWays 10 = .ok (.getfield 61, 3) := by decide +kernel
theorem dX10_findWays_13 : decode cX10_findWays 13 = .ok (.iload_n 2, 1) := by decide +kernel
theorem dX10_findWays_14 : decode cX10_findWays 14 = .ok (.lconst 0, 1) := by decide +kernel
theorem dX10_findWays_15 : decode cX10_findWays 15 = .ok (.lastore, 1) := by decide +kernel
theorem dX10_findWays_16 : decode cX10_findWays 16 = .ok (.aload_n 0, 1) := by decide +kernel
theorem dX10_findWays_17 : decode cX10_findWays 17 = .ok (.iload_n 2, 1) := by decide +kernel
theorem dX10_findWays_18 : decode cX10_findWays 18 = .ok (.invokevirtual 205, 3) := by decide +kernel
theorem dX10_findWays_21 : decode cX10_findWays 21 = .ok (.ifCond .eq 88, 3) := by decide +kernel
theorem dX10_findWays_24 : decode cX10_findWays 24 = .ok (.iload_n 1, 1) := by decide +kernel
theorem dX10_findWays_25 : decode cX10_findWays 25 = .ok (.bipush (-9), 2) := by decide +kernel
theorem dX10_findWays_27 : decode cX10_findWays 27 = .ok (.if_icmp .eq 11, 3) := by decide +kernel
theorem dX10_findWays_30 : decode cX10_findWays 30 = .ok (.aload_n 0, 1) := by decide +kernel
theorem dX10_findWays_31 : decode cX10_findWays 31 = .ok (.invokevirtual 187, 3) := by decide +kernel
theorem dX10_findWays_34 : decode cX10_findWays 34 = .ok (.iload_n 1, 1) := by decide +kernel
theorem dX10_findWays_35 : decode cX10_findWays 35 = .ok (.if_icmp .eq 74, 3) := by decide +kernel
theorem dX10_findWays_38 : decode cX10_findWays 38 = .ok (.aload_n 0, 1) := by decide +kernel
theorem dX10_findWays_39 : decode cX10_findWays 39 = .ok (.getfield 61, 3) := by decide +kernel
theorem dX10_findWays_42 : decode cX10_findWays 42 = .ok (.iload_n 2, 1) := by decide +kernel
theorem dX10_findWays_43 : decode cX10_findWays 43 = .ok (.iload_n 2, 1) := by decide +kernel
theorem dX10_findWays_44 : decode cX10_findWays 44 = .ok (.ifCond .ne 7, 3) := by decide +kernel
theorem dX10_findWays_47 : decode cX10_findWays 47 = .ok (.lconst 1, 1) := by decide +kernel
theorem dX10_findWays_48 : decode cX10_findWays 48 = .ok (.goto 4, 3) := by decide +kernel
theorem dX10_findWays_51 : decode cX10_findWays 51 = .ok (.lconst 0, 1) := by decide +kernel
theorem dX10_findWays_52 : decode cX10_findWays 52 = .ok (.lastore, 1) := by decide +kernel
theorem dX10_findWays_53 : decode cX10_findWays 53 = .ok (.iconst 1, 1) := by decide +kernel
theorem dX10_findWays_54 : decode cX10_findWays 54 = .ok (.istore_n 3, 1) := by decide +kernel
theorem dX10_findWays_55 : decode cX10_findWays 55 = .ok (.iconst 0, 1) := by decide +kernel
theorem dX10_findWays_56 : decode cX10_findWays 56 = .ok (.istore 4, 2) := by decide +kernel
theorem dX10_findWays_58 : decode cX10_findWays 58 = .ok (.iload 4, 2) := by decide +kernel
theorem dX10_findWays_60 : decode cX10_findWays 60 = .ok (.aload_n 0, 1) := by decide +kernel
theorem dX10_findWays_61 : decode cX10_findWays 61 = .ok (.getfield 81, 3) := by decide +kernel
theorem dX10_findWays_64 : decode cX10_findWays 64 = .ok (.if_icmp .ge 45, 3) := by decide +kernel
theorem dX10_findWays_67 : decode cX10_findWays 67 = .ok (.aload_n 0, 1) := by decide +kernel
theorem dX10_findWays_68 : decode cX10_findWays 68 = .ok (.getfield 61, 3) := by decide +kernel
theorem dX10_findWays_71 : decode cX10_findWays 71 = .ok (.iload_n 2, 1) := by decide +kernel
theorem dX10_findWays_72 : decode cX10_findWays 72 = .ok (.dup2, 1) := by decide +kernel
theorem dX10_findWays_73 : decode cX10_findWays 73 = .ok (.laload, 1) := by decide +kernel
theorem dX10_findWays_74 : decode cX10_findWays 74 = .ok (.aload_n 0, 1) := by decide +kernel
theorem dX10_findWays_75 : decode cX10_findWays 75 = .ok (.getfield 58, 3) := by decide +kernel
theorem dX10_findWays_78 : decode cX10_findWays 78 = .ok (.iload 4, 2) := by decide +kernel
theorem dX10_findWays_80 : decode cX10_findWays 80 = .ok (.iaload, 1) := by decide +kernel
theorem dX10_findWays_81 : decode cX10_findWays 81 = .ok (.ifCond .le 14, 3) := by decide +kernel
theorem dX10_findWays_84 : decode cX10_findWays 84 = .ok (.aload_n 0, 1) := by decide +kernel
theorem dX10_findWays_85 : decode cX10_findWays 85 = .ok (.getfield 61, 3) := by decide +kernel
theorem dX10_findWays_88 : decode cX10_findWays 88 = .ok (.iload_n 2, 1) := by decide +kernel
theorem dX10_findWays_89 : decode cX10_findWays 89 = .ok (.iload_n 3, 1) := by decide +kernel
theorem dX10_findWays_90 : decode cX10_findWays 90 = .ok (.isub, 1) := by decide +kernel
theorem dX10_findWays_91 : decode cX10_findWays 91 = .ok (.laload, 1) := by decide +kernel
theorem dX10_findWays_92 : decode cX10_findWays 92 = .ok (.goto 4, 3) := by decide +kernel
theorem dX10_findWays_95 : decode cX10_findWays 95 = .ok (.lconst 0, 1) := by decide +kernel
theorem dX10_findWays_96 : decode cX10_findWays 96 = .ok (.ladd, 1) := by decide +kernel
theorem dX10_findWays_97 : decode cX10_findWays 97 = .ok (.lastore, 1) := by decide +kernel
theorem dX10_findWays_98 : decode cX10_findWays 98 = .ok (.iload_n 3, 1) := by decide +kernel
theorem dX10_findWays_99 : decode cX10_findWays 99 = .ok (.bipush 6, 2) := by decide +kernel
theorem dX10_findWays_101 : decode cX10_findWays 101 = .ok (.imul, 1) := by decide +kernel
theorem dX10_findWays_102 : decode cX10_findWays 102 = .ok (.istore_n 3, 1) := by decide +kernel
theorem dX10_findWays_103 : decode cX10_findWays 103 = .ok (.iinc 4 1, 3) := by decide +kernel
theorem dX10_findWays_106 : decode cX10_findWays 106 = .ok (.goto (-48), 3) := by decide +kernel
theorem dX10_findWays_109 : decode cX10_findWays 109 = .ok (.iinc 2 1, 3) := by decide +kernel
theorem dX10_findWays_112 : decode cX10_findWays 112 = .ok (.goto (-110), 3) := by decide +kernel
theorem dX10_findWays_115 : decode cX10_findWays 115 = .ok (.return_, 1) := by decide +kernel
def bk_X10_findWays_0 (l : Launch) (g : Gm) (G : Nat → CT) (P : PT) : CT := (oPush (.int (0)) (oISt 2 (G 1)))
def bk_X10_findWays_1 (l : Launch) (g : Gm) (G : Nat → CT) (P : PT) : CT := (oILd 2 (oPush (.int (1296)) (oCmp (fun x y => y ≤ x) (oVRet P) (oALd 0 (oGet [10] 23 (oILd 2 (oPush (.long 0) (oJAS g (oALd 0 (oILd 2 (oCallV l g [(10, d_X10_isCut)] 2 (oIf (fun x => x = 0) (oInc 2 (1) (oGo (G 1))) (oILd 1 (oPush (.int (-9)) (oCmp (fun x y => x = y) (G 2) (oALd 0 (oCallV l g [(10, d_X10_sumOf)] 1 (oILd 1 (oCmp (fun x y => x = y) (oInc 2 (1) (oGo (G 1))) (G 2))))))))))))))))))))
def bk_X10_findWays_2 (l : Launch) (g : Gm) (G : Nat → CT) (P : PT) : CT := (oALd 0 (oGet [10] 23 (oILd 2 (oILd 2 (oIf (fun x => x = 0) (oPush (.long 1) (oGo (G 3))) (oPush (.long 0) (G 3)))))))
def bk_X10_findWays_3 (l : Launch) (g : Gm) (G : Nat → CT) (P : PT) : CT := (oJAS g (oPush (.int (1)) (oISt 3 (oPush (.int (0)) (oISt 4 (G 4))))))
def bk_X10_findWays_4 (l : Launch) (g : Gm) (G : Nat → CT) (P : PT) : CT := (oILd 4 (oALd 0 (oGet [10] 5 (oCmp (fun x y => y ≤ x) (oInc 2 (1) (oGo (G 1))) (oALd 0 (oGet [10] 23 (oILd 2 (oDup2 (oJAL g (oALd 0 (oGet [10] 21 (oILd 4 (oIAL g (oIf (fun x => x ≤ 0) (oPush (.long 0) (G 5)) (oALd 0 (oGet [10] 23 (oILd 2 (oILd 3 (oBin (fun x y => x - y) (oJAL g (oGo (G 5))))))))))))))))))))))
def bk_X10_findWays_5 (l : Launch) (g : Gm) (G : Nat → CT) (P : PT) : CT := (oLAdd (oJAS g (oILd 3 (oPush (.int (6)) (oBin (fun x y => x * y) (oISt 3 (oInc 4 (1) (oGo (G 4)))))))))
def bk_X10_findWays (l : Launch) (g : Gm) (b : Nat) (G : Nat → CT) (P : PT) : CT := match b with
  | 0 => bk_X10_findWays_0 l g G P
  | 1 => bk_X10_findWays_1 l g G P
  | 2 => bk_X10_findWays_2 l g G P
  | 3 => bk_X10_findWays_3 l g G P
  | 4 => bk_X10_findWays_4 l g G P
  | 5 => bk_X10_findWays_5 l g G P
  | _ => fun _ _ _ _ _ => False
def pc_X10_findWays (b : Nat) : Nat := match b with
  | 0 => 0
  | 1 => 2
  | 2 => 38
  | 3 => 52
  | 4 => 58
  | 5 => 96
  | _ => 0
set_option maxRecDepth 100000 in
theorem sb_X10_findWays_0 {p : Program} {l : Launch} {e : Env} {s : State} {m : MethodId} {args : Array Value} {below : List Frame} {meth : Method} {c : Code} {g : Gm} {h0 : Hp} {P : PT} {mc ms : Nat} (X : Cx g p s m args meth c (Adom h0 s.heap.size) cX10_findWays RX10 5) (hr : meth.sig.returnType = none) (hn : meth.name = "findWays") : SX g p l e s m args below meth c d_X10_findWays 5 mc ms h0 P (bk_X10_findWays_0 l g (fun b => GX g p l e s m args below meth c d_X10_findWays 5 mc ms h0 P (pc_X10_findWays b)) P) 0 := (s_iconst X dX10_findWays_0 rfl (s_istore_n X dX10_findWays_1 rfl (by decide) Sd.rf))
set_option maxRecDepth 100000 in
theorem sb_X10_findWays_1 {p : Program} {l : Launch} {e : Env} {s : State} {m : MethodId} {args : Array Value} {below : List Frame} {meth : Method} {c : Code} {g : Gm} {h0 : Hp} {P : PT} {mc ms : Nat} (X : Cx g p s m args meth c (Adom h0 s.heap.size) cX10_findWays RX10 5) (hr : meth.sig.returnType = none) (hn : meth.name = "findWays") : SX g p l e s m args below meth c d_X10_findWays 5 mc ms h0 P (bk_X10_findWays_1 l g (fun b => GX g p l e s m args below meth c d_X10_findWays 5 mc ms h0 P (pc_X10_findWays b)) P) 2 := (s_iload_n X dX10_findWays_2 rfl (s_sipush X dX10_findWays_3 rfl (s_icmp_ge X dX10_findWays_6 (by decide) (s_vret X hr dX10_findWays_115) (s_aload_n X dX10_findWays_9 rfl (s_get X dX10_findWays_10 (mcn (⟨_, _, _, _, rfl, inU_X10, by decide, uw_732, rfl⟩) (mnl)) (s_iload_n X dX10_findWays_13 rfl (s_lconst X dX10_findWays_14 rfl (s_lastore X dX10_findWays_15 (s_aload_n X dX10_findWays_16 rfl (s_iload_n X dX10_findWays_17 rfl (s_callV X dX10_findWays_18 (mv (vok_V X rfl uw_964 uw_966 (UW_pr 47 rfl rfl) uw_7 ci_X10_isCut yok_X10_isCut ⟨Nat.le_of_ble_eq_true rfl, Nat.le_of_ble_eq_true rfl⟩) mv0) (s_if_eq X dX10_findWays_21 (by decide) (s_iinc X dX10_findWays_109 rfl (by decide) (s_goto X dX10_findWays_112 (by decide) Sd.rf)) (s_iload_n X dX10_findWays_24 rfl (s_bipush X dX10_findWays_25 rfl (s_icmp_eq X dX10_findWays_27 (by decide) Sd.rf (s_aload_n X dX10_findWays_30 rfl (s_callV X dX10_findWays_31 (mv (vok_V X rfl uw_928 uw_930 (UW_pr 41 rfl rfl) uw_7 ci_X10_sumOf yok_X10_sumOf ⟨Nat.le_of_ble_eq_true rfl, Nat.le_of_ble_eq_true rfl⟩) mv0) (s_iload_n X dX10_findWays_34 rfl (s_icmp_eq X dX10_findWays_35 (by decide) (s_iinc X dX10_findWays_109 rfl (by decide) (s_goto X dX10_findWays_112 (by decide) Sd.rf)) Sd.rf)))))))))))))))))))
set_option maxRecDepth 100000 in
theorem sb_X10_findWays_2 {p : Program} {l : Launch} {e : Env} {s : State} {m : MethodId} {args : Array Value} {below : List Frame} {meth : Method} {c : Code} {g : Gm} {h0 : Hp} {P : PT} {mc ms : Nat} (X : Cx g p s m args meth c (Adom h0 s.heap.size) cX10_findWays RX10 5) (hr : meth.sig.returnType = none) (hn : meth.name = "findWays") : SX g p l e s m args below meth c d_X10_findWays 5 mc ms h0 P (bk_X10_findWays_2 l g (fun b => GX g p l e s m args below meth c d_X10_findWays 5 mc ms h0 P (pc_X10_findWays b)) P) 38 := (s_aload_n X dX10_findWays_38 rfl (s_get X dX10_findWays_39 (mcn (⟨_, _, _, _, rfl, inU_X10, by decide, uw_732, rfl⟩) (mnl)) (s_iload_n X dX10_findWays_42 rfl (s_iload_n X dX10_findWays_43 rfl (s_if_ne X dX10_findWays_44 (by decide) (s_lconst X dX10_findWays_51 rfl Sd.rf) (s_lconst X dX10_findWays_47 rfl (s_goto X dX10_findWays_48 (by decide) Sd.rf)))))))
set_option maxRecDepth 100000 in
theorem sb_X10_findWays_3 {p : Program} {l : Launch} {e : Env} {s : State} {m : MethodId} {args : Array Value} {below : List Frame} {meth : Method} {c : Code} {g : Gm} {h0 : Hp} {P : PT} {mc ms : Nat} (X : Cx g p s m args meth c (Adom h0 s.heap.size) cX10_findWays RX10 5) (hr : meth.sig.returnType = none) (hn : meth.name = "findWays") : SX g p l e s m args below meth c d_X10_findWays 5 mc ms h0 P (bk_X10_findWays_3 l g (fun b => GX g p l e s m args below meth c d_X10_findWays 5 mc ms h0 P (pc_X10_findWays b)) P) 52 := (s_lastore X dX10_findWays_52 (s_iconst X dX10_findWays_53 rfl (s_istore_n X dX10_findWays_54 rfl (by decide) (s_iconst X dX10_findWays_55 rfl (s_istore X dX10_findWays_56 (by decide) Sd.rf)))))
set_option maxRecDepth 100000 in
theorem sb_X10_findWays_4 {p : Program} {l : Launch} {e : Env} {s : State} {m : MethodId} {args : Array Value} {below : List Frame} {meth : Method} {c : Code} {g : Gm} {h0 : Hp} {P : PT} {mc ms : Nat} (X : Cx g p s m args meth c (Adom h0 s.heap.size) cX10_findWays RX10 5) (hr : meth.sig.returnType = none) (hn : meth.name = "findWays") : SX g p l e s m args below meth c d_X10_findWays 5 mc ms h0 P (bk_X10_findWays_4 l g (fun b => GX g p l e s m args below meth c d_X10_findWays 5 mc ms h0 P (pc_X10_findWays b)) P) 58 := (s_iload X dX10_findWays_58 (s_aload_n X dX10_findWays_60 rfl (s_get X dX10_findWays_61 (mcn (⟨_, _, _, _, rfl, inU_X10, by decide, uw_714, rfl⟩) (mnl)) (s_icmp_ge X dX10_findWays_64 (by decide) (s_iinc X dX10_findWays_109 rfl (by decide) (s_goto X dX10_findWays_112 (by decide) Sd.rf)) (s_aload_n X dX10_findWays_67 rfl (s_get X dX10_findWays_68 (mcn (⟨_, _, _, _, rfl, inU_X10, by decide, uw_732, rfl⟩) (mnl)) (s_iload_n X dX10_findWays_71 rfl (s_dup2 X dX10_findWays_72 (s_laload X dX10_findWays_73 (s_aload_n X dX10_findWays_74 rfl (s_get X dX10_findWays_75 (mcn (⟨_, _, _, _, rfl, inU_X10, by decide, uw_730, rfl⟩) (mnl)) (s_iload X dX10_findWays_78 (s_iaload X dX10_findWays_80 (s_if_le X dX10_findWays_81 (by decide) (s_lconst X dX10_findWays_95 rfl Sd.rf) (s_aload_n X dX10_findWays_84 rfl (s_get X dX10_findWays_85 (mcn (⟨_, _, _, _, rfl, inU_X10, by decide, uw_732, rfl⟩) (mnl)) (s_iload_n X dX10_findWays_88 rfl (s_iload_n X dX10_findWays_89 rfl (s_isub X dX10_findWays_90 (s_laload X dX10_findWays_91 (s_goto X dX10_findWays_92 (by decide) Sd.rf)))))))))))))))))))))
set_option maxRecDepth 100000 in
theorem sb_X10_findWays_5 {p : Program} {l : Launch} {e : Env} {s : State} {m : MethodId} {args : Array Value} {below : List Frame} {meth : Method} {c : Code} {g : Gm} {h0 : Hp} {P : PT} {mc ms : Nat} (X : Cx g p s m args meth c (Adom h0 s.heap.size) cX10_findWays RX10 5) (hr : meth.sig.returnType = none) (hn : meth.name = "findWays") : SX g p l e s m args below meth c d_X10_findWays 5 mc ms h0 P (bk_X10_findWays_5 l g (fun b => GX g p l e s m args below meth c d_X10_findWays 5 mc ms h0 P (pc_X10_findWays b)) P) 96 := (s_ladd X dX10_findWays_96 (s_lastore X dX10_findWays_97 (s_iload_n X dX10_findWays_98 rfl (s_bipush X dX10_findWays_99 rfl (s_imul X dX10_findWays_101 (s_istore_n X dX10_findWays_102 rfl (by decide) (s_iinc X dX10_findWays_103 rfl (by decide) (s_goto X dX10_findWays_106 (by decide) Sd.rf))))))))
set_option maxRecDepth 100000 in
theorem vc_X10_findWays {l : Launch} {g : Gm} {a0 : Nat} {a1 : Int32} {h : Hp} {mc ms : Nat} {P : PT} (H : ∀ G : Nat → CT, (∀ (b : Nat) (h : Hp) (cb sb : Nat) (ls : LocS) (st : List Value), bk_X10_findWays l g b G P h cb sb ls st → G b h cb sb ls st) → G 0 h mc ms [some (.ref a0), some (.int a1), none, none, none] []) : Run l g d_X10_findWays [.ref a0, .int a1] h mc ms P :=
  Run.of (d := d_X10_findWays) (by decide) (mcn rfl (mcn rfl (mnl))) (Nat.le_of_ble_eq_true rfl) (fun p e s m args below meth c X hr hn => H (fun b => GX g p l e s m args below meth c d_X10_findWays 5 mc ms h P (pc_X10_findWays b)) (fun b h1 cb sb ls st hb => match b, hb with
    | 0, hb => sb_X10_findWays_0 (p := p) (e := e) (below := below) X hr hn h1 cb sb ls st hb
    | 1, hb => sb_X10_findWays_1 (p := p) (e := e) (below := below) X hr hn h1 cb sb ls st hb
    | 2, hb => sb_X10_findWays_2 (p := p) (e := e) (below := below) X hr hn h1 cb sb ls st hb
    | 3, hb => sb_X10_findWays_3 (p := p) (e := e) (below := below) X hr hn h1 cb sb ls st hb
    | 4, hb => sb_X10_findWays_4 (p := p) (e := e) (below := below) X hr hn h1 cb sb ls st hb
    | 5, hb => sb_X10_findWays_5 (p := p) (e := e) (below := below) X hr hn h1 cb sb ls st hb
    | _ + 6, hb => hb.elim))
theorem dX10_runs_0 : decode cX10_runs 0 = .ok (.aload_n 0, 1) := by decide +kernel
theorem dX10_runs_1 : decode cX10_runs 1 = .ok (.getfield 81, 3) := by decide +kernel
theorem dX10_runs_4 : decode cX10_runs 4 = .ok (.ifCond .ne 7, 3) := by decide +kernel
theorem dX10_runs_7 : decode cX10_runs 7 = .ok (.ldc2_w 75, 3) := by decide +kernel
theorem dX10_runs_10 : decode cX10_runs 10 = .ok (.lreturn, 1) := by decide +kernel
theorem dX10_runs_11 : decode cX10_runs 11 = .ok (.aload_n 0, 1) := by decide +kernel
theorem dX10_runs_12 : decode cX10_runs 12 = .ok (.bipush (-9), 2) := by decide +kernel
theorem dX10_runs_14 : decode cX10_runs 14 = .ok (.invokevirtual 208, 3) := by decide +kernel
theorem dX10_runs_17 : decode cX10_runs 17 = .ok (.aload_n 0, 1) := by decide +kernel
theorem dX10_runs_18 : decode cX10_runs 18 = .ok (.getfield 61, 3) := by decide +kernel
theorem dX10_runs_21 : decode cX10_runs 21 = .ok (.aload_n 0, 1) := by decide +kernel
theorem dX10_runs_22 : decode cX10_runs 22 = .ok (.invokevirtual 211, 3) := by decide +kernel
theorem dX10_runs_25 : decode cX10_runs 25 = .ok (.laload, 1) := by decide +kernel
theorem dX10_runs_26 : decode cX10_runs 26 = .ok (.lreturn, 1) := by decide +kernel
def bk_X10_runs_0 (l : Launch) (g : Gm) (G : Nat → CT) (P : PT) : CT := (oALd 0 (oGet [10] 5 (oIf (fun x => x = 0) (oPush (.long (-9223372036854775808)) (oJRet P)) (oALd 0 (oPush (.int (-9)) (oCallV l g [(10, d_X10_findWays)] 2 (oALd 0 (oGet [10] 23 (oALd 0 (oCallV l g [(10, d_X10_lastCode)] 1 (oJAL g (oJRet P))))))))))))
def bk_X10_runs (l : Launch) (g : Gm) (b : Nat) (G : Nat → CT) (P : PT) : CT := match b with
  | 0 => bk_X10_runs_0 l g G P
  | _ => fun _ _ _ _ _ => False
def pc_X10_runs (b : Nat) : Nat := match b with
  | 0 => 0
  | _ => 0
set_option maxRecDepth 100000 in
theorem sb_X10_runs_0 {p : Program} {l : Launch} {e : Env} {s : State} {m : MethodId} {args : Array Value} {below : List Frame} {meth : Method} {c : Code} {g : Gm} {h0 : Hp} {P : PT} {mc ms : Nat} (X : Cx g p s m args meth c (Adom h0 s.heap.size) cX10_runs RX10 1) (hr : meth.sig.returnType = some .long) (hn : meth.name = "runs") : SX g p l e s m args below meth c d_X10_runs 1 mc ms h0 P (bk_X10_runs_0 l g (fun b => GX g p l e s m args below meth c d_X10_runs 1 mc ms h0 P (pc_X10_runs b)) P) 0 := (s_aload_n X dX10_runs_0 rfl (s_get X dX10_runs_1 (mcn (⟨_, _, _, _, rfl, inU_X10, by decide, uw_714, rfl⟩) (mnl)) (s_if_ne X dX10_runs_4 (by decide) (s_aload_n X dX10_runs_11 rfl (s_bipush X dX10_runs_12 rfl (s_callV X dX10_runs_14 (mv (vok_V X rfl uw_973 uw_975 (UW_pr 48 rfl rfl) uw_7 ci_X10_findWays yok_X10_findWays ⟨Nat.le_of_ble_eq_true rfl, Nat.le_of_ble_eq_true rfl⟩) mv0) (s_aload_n X dX10_runs_17 rfl (s_get X dX10_runs_18 (mcn (⟨_, _, _, _, rfl, inU_X10, by decide, uw_732, rfl⟩) (mnl)) (s_aload_n X dX10_runs_21 rfl (s_callV X dX10_runs_22 (mv (vok_V X rfl uw_977 uw_979 (UW_pr 49 rfl rfl) uw_7 ci_X10_lastCode yok_X10_lastCode ⟨Nat.le_of_ble_eq_true rfl, Nat.le_of_ble_eq_true rfl⟩) mv0) (s_laload X dX10_runs_25 (s_jret X hr dX10_runs_26))))))))) (s_ldc2 X dX10_runs_7 uw_972 (s_jret X hr dX10_runs_10)))))
set_option maxRecDepth 100000 in
theorem vc_X10_runs {l : Launch} {g : Gm} {a0 : Nat} {h : Hp} {mc ms : Nat} {P : PT} (H : ∀ G : Nat → CT, (∀ (b : Nat) (h : Hp) (cb sb : Nat) (ls : LocS) (st : List Value), bk_X10_runs l g b G P h cb sb ls st → G b h cb sb ls st) → G 0 h mc ms [some (.ref a0)] []) : Run l g d_X10_runs [.ref a0] h mc ms P :=
  Run.of (d := d_X10_runs) (by decide) (mcn rfl (mnl)) (Nat.le_of_ble_eq_true rfl) (fun p e s m args below meth c X hr hn => H (fun b => GX g p l e s m args below meth c d_X10_runs 1 mc ms h P (pc_X10_runs b)) (fun b h1 cb sb ls st hb => match b, hb with
    | 0, hb => sb_X10_runs_0 (p := p) (e := e) (below := below) X hr hn h1 cb sb ls st hb
    | _ + 1, hb => hb.elim))
theorem dX10_first_0 : decode cX10_first 0 = .ok (.iload_n 1, 1) := by decide +kernel
theorem dX10_first_1 : decode cX10_first 1 = .ok (.iconst (-1), 1) := by decide +kernel
theorem dX10_first_2 : decode cX10_first 2 = .ok (.bipush 19, 2) := by decide +kernel
theorem dX10_first_4 : decode cX10_first 4 = .ok (.invokestatic 77, 3) := by decide +kernel
theorem dX10_first_7 : decode cX10_first 7 = .ok (.ifCond .ne 6, 3) := by decide +kernel
theorem dX10_first_10 : decode cX10_first 10 = .ok (.bipush (-2), 2) := by decide +kernel
theorem dX10_first_12 : decode cX10_first 12 = .ok (.ireturn, 1) := by decide +kernel
theorem dX10_first_13 : decode cX10_first 13 = .ok (.aload_n 0, 1) := by decide +kernel
theorem dX10_first_14 : decode cX10_first 14 = .ok (.getfield 81, 3) := by decide +kernel
theorem dX10_first_17 : decode cX10_first 17 = .ok (.ifCond .ne 6, 3) := by decide +kernel
theorem dX10_first_20 : decode cX10_first 20 = .ok (.bipush (-3), 2) := by decide +kernel
theorem dX10_first_22 : decode cX10_first 22 = .ok (.ireturn, 1) := by decide +kernel
theorem dX10_first_23 : decode cX10_first 23 = .ok (.iload_n 1, 1) := by decide +kernel
theorem dX10_first_24 : decode cX10_first 24 = .ok (.iconst (-1), 1) := by decide +kernel
theorem dX10_first_25 : decode cX10_first 25 = .ok (.if_icmp .ne 8, 3) := by decide +kernel
theorem dX10_first_28 : decode cX10_first 28 = .ok (.aload_n 0, 1) := by decide +kernel
theorem dX10_first_29 : decode cX10_first 29 = .ok (.invokevirtual 214, 3) := by decide +kernel
theorem dX10_first_32 : decode cX10_first 32 = .ok (.ireturn, 1) := by decide +kernel
theorem dX10_first_33 : decode cX10_first 33 = .ok (.iload_n 1, 1) := by decide +kernel
theorem dX10_first_34 : decode cX10_first 34 = .ok (.aload_n 0, 1) := by decide +kernel
theorem dX10_first_35 : decode cX10_first 35 = .ok (.invokevirtual 214, 3) := by decide +kernel
theorem dX10_first_38 : decode cX10_first 38 = .ok (.if_icmp .lt 6, 3) := by decide +kernel
theorem dX10_first_41 : decode cX10_first 41 = .ok (.bipush (-9), 2) := by decide +kernel
theorem dX10_first_43 : decode cX10_first 43 = .ok (.ireturn, 1) := by decide +kernel
theorem dX10_first_44 : decode cX10_first 44 = .ok (.iconst 0, 1) := by decide +kernel
theorem dX10_first_45 : decode cX10_first 45 = .ok (.istore_n 2, 1) := by decide +kernel
theorem dX10_first_46 : decode cX10_first 46 = .ok (.iload_n 2, 1) := by decide +kernel
theorem dX10_first_47 : decode cX10_first 47 = .ok (.aload_n 0, 1) := by decide +kernel
theorem dX10_first_48 : decode cX10_first 48 = .ok (.getfield 81, 3) := by decide +kernel
theorem dX10_first_51 : decode cX10_first 51 = .ok (.if_icmp .ge 16, 3) := by decide +kernel
theorem dX10_first_54 : decode cX10_first 54 = .ok (.aload_n 0, 1) := by decide +kernel
theorem dX10_first_55 : decode cX10_first 55 = .ok (.getfield 58, 3) := by decide +kernel
theorem dX10_first_58 : decode cX10_first 58 = .ok (.iload_n 2, 1) := by decide +kernel
theorem dX10_first_59 : decode cX10_first 59 = .ok (.iconst 0, 1) := by decide +kernel
theorem dX10_first_60 : decode cX10_first 60 = .ok (.iastore, 1) := by decide +kernel
theorem dX10_first_61 : decode cX10_first 61 = .ok (.iinc 2 1, 3) := by decide +kernel
theorem dX10_first_64 : decode cX10_first 64 = .ok (.goto (-18), 3) := by decide +kernel
theorem dX10_first_67 : decode cX10_first 67 = .ok (.iconst 0, 1) := by decide +kernel
theorem dX10_first_68 : decode cX10_first 68 = .ok (.istore_n 2, 1) := by decide +kernel
theorem dX10_first_69 : decode cX10_first 69 = .ok (.iconst 0, 1) := by decide +kernel
theorem dX10_first_70 : decode cX10_first 70 = .ok (.istore_n 3, 1) := by decide +kernel
theorem dX10_first_71 : decode cX10_first 71 = .ok (.iload_n 3, 1) := by decide +kernel
theorem dX10_first_72 : decode cX10_first 72 = .ok (.iload_n 1, 1) := by decide +kernel
theorem dX10_first_73 : decode cX10_first 73 = .ok (.if_icmp .gt 35, 3) := by decide +kernel
theorem dX10_first_76 : decode cX10_first 76 = .ok (.iconst 0, 1) := by decide +kernel
theorem dX10_first_77 : decode cX10_first 77 = .ok (.istore_n 2, 1) := by decide +kernel
theorem dX10_first_78 : decode cX10_first 78 = .ok (.aload_n 0, 1) := by decide +kernel
theorem dX10_first_79 : decode cX10_first 79 = .ok (.iload_n 2, 1) := by decide +kernel
theorem dX10_first_80 : decode cX10_first 80 = .ok (.invokevirtual 168, 3) := by decide +kernel
theorem dX10_first_83 : decode cX10_first 83 = .ok (.ifCond .ne 9, 3) := by decide +kernel
theorem dX10_first_86 : decode cX10_first 86 = .ok (.iinc 2 1, 3) := by decide +kernel
theorem dX10_first_89 : decode cX10_first 89 = .ok (.goto (-11), 3) := by decide +kernel
theorem dX10_first_92 : decode cX10_first 92 = .ok (.aload_n 0, 1) := by decide +kernel
theorem dX10_first_93 : decode cX10_first 93 = .ok (.getfield 58, 3) := by decide +kernel
theorem dX10_first_96 : decode cX10_first 96 = .ok (.iload_n 2, 1) := by decide +kernel
theorem dX10_first_97 : decode cX10_first 97 = .ok (.dup2, 1) := by decide +kernel
theorem dX10_first_98 : decode cX10_first 98 = .ok (.iaload, 1) := by decide +kernel
theorem dX10_first_99 : decode cX10_first 99 = .ok (.iconst 1, 1) := by decide +kernel
theorem dX10_first_100 : decode cX10_first 100 = .ok (.iadd, 1) := by decide +kernel
theorem dX10_first_101 : decode cX10_first 101 = .ok (.iastore, 1) := by decide +kernel
theorem dX10_first_102 : decode cX10_first 102 = .ok (.iinc 3 1, 3) := by decide +kernel
theorem dX10_first_105 : decode cX10_first 105 = .ok (.goto (-34), 3) := by decide +kernel
theorem dX10_first_108 : decode cX10_first 108 = .ok (.iload_n 2, 1) := by decide +kernel
theorem dX10_first_109 : decode cX10_first 109 = .ok (.ireturn, 1) := by decide +kernel
def bk_X10_first_0 (l : Launch) (g : Gm) (G : Nat → CT) (P : PT) : CT := (oILd 1 (oPush (.int (-1)) (oPush (.int (19)) (oCall l g d_X10_within 3 (oIf (fun x => x = 0) (oPush (.int (-2)) (oIRet P)) (oALd 0 (oGet [10] 5 (oIf (fun x => x = 0) (oPush (.int (-3)) (oIRet P)) (oILd 1 (oPush (.int (-1)) (oCmp (fun x y => x = y) (oALd 0 (oCallV l g [(10, d_X10_allThings)] 1 (oIRet P))) (oILd 1 (oALd 0 (oCallV l g [(10, d_X10_allThings)] 1 (oCmp (fun x y => x < y) (oPush (.int (0)) (oISt 2 (G 1))) (oPush (.int (-9)) (oIRet P)))))))))))))))))
def bk_X10_first_1 (l : Launch) (g : Gm) (G : Nat → CT) (P : PT) : CT := (oILd 2 (oALd 0 (oGet [10] 5 (oCmp (fun x y => y ≤ x) (oPush (.int (0)) (oISt 2 (oPush (.int (0)) (oISt 3 (G 2))))) (oALd 0 (oGet [10] 21 (oILd 2 (oPush (.int (0)) (oIAS g (oInc 2 (1) (oGo (G 1))))))))))))
def bk_X10_first_2 (l : Launch) (g : Gm) (G : Nat → CT) (P : PT) : CT := (oILd 3 (oILd 1 (oCmp (fun x y => y < x) (oILd 2 (oIRet P)) (oPush (.int (0)) (oISt 2 (G 3))))))
def bk_X10_first_3 (l : Launch) (g : Gm) (G : Nat → CT) (P : PT) : CT := (oALd 0 (oILd 2 (oCallV l g [(10, d_X10_isReady)] 2 (oIf (fun x => x = 0) (oInc 2 (1) (oGo (G 3))) (oALd 0 (oGet [10] 21 (oILd 2 (oDup2 (oIAL g (oPush (.int (1)) (oBin (fun x y => x + y) (oIAS g (oInc 3 (1) (oGo (G 2)))))))))))))))
def bk_X10_first (l : Launch) (g : Gm) (b : Nat) (G : Nat → CT) (P : PT) : CT := match b with
  | 0 => bk_X10_first_0 l g G P
  | 1 => bk_X10_first_1 l g G P
  | 2 => bk_X10_first_2 l g G P
  | 3 => bk_X10_first_3 l g G P
  | _ => fun _ _ _ _ _ => False
def pc_X10_first (b : Nat) : Nat := match b with
  | 0 => 0
  | 1 => 46
  | 2 => 71
  | 3 => 78
  | _ => 0
set_option maxRecDepth 100000 in
theorem sb_X10_first_0 {p : Program} {l : Launch} {e : Env} {s : State} {m : MethodId} {args : Array Value} {below : List Frame} {meth : Method} {c : Code} {g : Gm} {h0 : Hp} {P : PT} {mc ms : Nat} (X : Cx g p s m args meth c (Adom h0 s.heap.size) cX10_first RX10 4) (hr : meth.sig.returnType = some .int) (hn : meth.name = "first") : SX g p l e s m args below meth c d_X10_first 4 mc ms h0 P (bk_X10_first_0 l g (fun b => GX g p l e s m args below meth c d_X10_first 4 mc ms h0 P (pc_X10_first b)) P) 0 := (s_iload_n X dX10_first_0 rfl (s_iconst X dX10_first_1 rfl (s_bipush X dX10_first_2 rfl (s_callS X dX10_first_4 uw_798 uw_799 uw_7 ci_X10_within yok_X10_within ⟨Nat.le_of_ble_eq_true rfl, Nat.le_of_ble_eq_true rfl⟩ (s_if_ne X dX10_first_7 (by decide) (s_aload_n X dX10_first_13 rfl (s_get X dX10_first_14 (mcn (⟨_, _, _, _, rfl, inU_X10, by decide, uw_714, rfl⟩) (mnl)) (s_if_ne X dX10_first_17 (by decide) (s_iload_n X dX10_first_23 rfl (s_iconst X dX10_first_24 rfl (s_icmp_ne X dX10_first_25 (by decide) (s_iload_n X dX10_first_33 rfl (s_aload_n X dX10_first_34 rfl (s_callV X dX10_first_35 (mv (vok_V X rfl uw_985 uw_987 (UW_pr 50 rfl rfl) uw_7 ci_X10_allThings yok_X10_allThings ⟨Nat.le_of_ble_eq_true rfl, Nat.le_of_ble_eq_true rfl⟩) mv0) (s_icmp_lt X dX10_first_38 (by decide) (s_iconst X dX10_first_44 rfl (s_istore_n X dX10_first_45 rfl (by decide) Sd.rf)) (s_bipush X dX10_first_41 rfl (s_iret X hr dX10_first_43)))))) (s_aload_n X dX10_first_28 rfl (s_callV X dX10_first_29 (mv (vok_V X rfl uw_985 uw_987 (UW_pr 50 rfl rfl) uw_7 ci_X10_allThings yok_X10_allThings ⟨Nat.le_of_ble_eq_true rfl, Nat.le_of_ble_eq_true rfl⟩) mv0) (s_iret X hr dX10_first_32)))))) (s_bipush X dX10_first_20 rfl (s_iret X hr dX10_first_22))))) (s_bipush X dX10_first_10 rfl (s_iret X hr dX10_first_12)))))))
set_option maxRecDepth 100000 in
theorem sb_X10_first_1 {p : Program} {l : Launch} {e : Env} {s : State} {m : MethodId} {args : Array Value} {below : List Frame} {meth : Method} {c : Code} {g : Gm} {h0 : Hp} {P : PT} {mc ms : Nat} (X : Cx g p s m args meth c (Adom h0 s.heap.size) cX10_first RX10 4) (hr : meth.sig.returnType = some .int) (hn : meth.name = "first") : SX g p l e s m args below meth c d_X10_first 4 mc ms h0 P (bk_X10_first_1 l g (fun b => GX g p l e s m args below meth c d_X10_first 4 mc ms h0 P (pc_X10_first b)) P) 46 := (s_iload_n X dX10_first_46 rfl (s_aload_n X dX10_first_47 rfl (s_get X dX10_first_48 (mcn (⟨_, _, _, _, rfl, inU_X10, by decide, uw_714, rfl⟩) (mnl)) (s_icmp_ge X dX10_first_51 (by decide) (s_iconst X dX10_first_67 rfl (s_istore_n X dX10_first_68 rfl (by decide) (s_iconst X dX10_first_69 rfl (s_istore_n X dX10_first_70 rfl (by decide) Sd.rf)))) (s_aload_n X dX10_first_54 rfl (s_get X dX10_first_55 (mcn (⟨_, _, _, _, rfl, inU_X10, by decide, uw_730, rfl⟩) (mnl)) (s_iload_n X dX10_first_58 rfl (s_iconst X dX10_first_59 rfl (s_iastore X dX10_first_60 (s_iinc X dX10_first_61 rfl (by decide) (s_goto X dX10_first_64 (by decide) Sd.rf)))))))))))
set_option maxRecDepth 100000 in
theorem sb_X10_first_2 {p : Program} {l : Launch} {e : Env} {s : State} {m : MethodId} {args : Array Value} {below : List Frame} {meth : Method} {c : Code} {g : Gm} {h0 : Hp} {P : PT} {mc ms : Nat} (X : Cx g p s m args meth c (Adom h0 s.heap.size) cX10_first RX10 4) (hr : meth.sig.returnType = some .int) (hn : meth.name = "first") : SX g p l e s m args below meth c d_X10_first 4 mc ms h0 P (bk_X10_first_2 l g (fun b => GX g p l e s m args below meth c d_X10_first 4 mc ms h0 P (pc_X10_first b)) P) 71 := (s_iload_n X dX10_first_71 rfl (s_iload_n X dX10_first_72 rfl (s_icmp_gt X dX10_first_73 (by decide) (s_iload_n X dX10_first_108 rfl (s_iret X hr dX10_first_109)) (s_iconst X dX10_first_76 rfl (s_istore_n X dX10_first_77 rfl (by decide) Sd.rf)))))
set_option maxRecDepth 100000 in
theorem sb_X10_first_3 {p : Program} {l : Launch} {e : Env} {s : State} {m : MethodId} {args : Array Value} {below : List Frame} {meth : Method} {c : Code} {g : Gm} {h0 : Hp} {P : PT} {mc ms : Nat} (X : Cx g p s m args meth c (Adom h0 s.heap.size) cX10_first RX10 4) (hr : meth.sig.returnType = some .int) (hn : meth.name = "first") : SX g p l e s m args below meth c d_X10_first 4 mc ms h0 P (bk_X10_first_3 l g (fun b => GX g p l e s m args below meth c d_X10_first 4 mc ms h0 P (pc_X10_first b)) P) 78 := (s_aload_n X dX10_first_78 rfl (s_iload_n X dX10_first_79 rfl (s_callV X dX10_first_80 (mv (vok_V X rfl uw_880 uw_882 (UW_pr 34 rfl rfl) uw_7 ci_X10_isReady yok_X10_isReady ⟨Nat.le_of_ble_eq_true rfl, Nat.le_of_ble_eq_true rfl⟩) mv0) (s_if_ne X dX10_first_83 (by decide) (s_aload_n X dX10_first_92 rfl (s_get X dX10_first_93 (mcn (⟨_, _, _, _, rfl, inU_X10, by decide, uw_730, rfl⟩) (mnl)) (s_iload_n X dX10_first_96 rfl (s_dup2 X dX10_first_97 (s_iaload X dX10_first_98 (s_iconst X dX10_first_99 rfl (s_iadd X dX10_first_100 (s_iastore X dX10_first_101 (s_iinc X dX10_first_102 rfl (by decide) (s_goto X dX10_first_105 (by decide) Sd.rf)))))))))) (s_iinc X dX10_first_86 rfl (by decide) (s_goto X dX10_first_89 (by decide) Sd.rf))))))
set_option maxRecDepth 100000 in
theorem vc_X10_first {l : Launch} {g : Gm} {a0 : Nat} {a1 : Int32} {h : Hp} {mc ms : Nat} {P : PT} (H : ∀ G : Nat → CT, (∀ (b : Nat) (h : Hp) (cb sb : Nat) (ls : LocS) (st : List Value), bk_X10_first l g b G P h cb sb ls st → G b h cb sb ls st) → G 0 h mc ms [some (.ref a0), some (.int a1), none, none] []) : Run l g d_X10_first [.ref a0, .int a1] h mc ms P :=
  Run.of (d := d_X10_first) (by decide) (mcn rfl (mcn rfl (mnl))) (Nat.le_of_ble_eq_true rfl) (fun p e s m args below meth c X hr hn => H (fun b => GX g p l e s m args below meth c d_X10_first 4 mc ms h P (pc_X10_first b)) (fun b h1 cb sb ls st hb => match b, hb with
    | 0, hb => sb_X10_first_0 (p := p) (e := e) (below := below) X hr hn h1 cb sb ls st hb
    | 1, hb => sb_X10_first_1 (p := p) (e := e) (below := below) X hr hn h1 cb sb ls st hb
    | 2, hb => sb_X10_first_2 (p := p) (e := e) (below := below) X hr hn h1 cb sb ls st hb
    | 3, hb => sb_X10_first_3 (p := p) (e := e) (below := below) X hr hn h1 cb sb ls st hb
    | _ + 4, hb => hb.elim))
theorem dX10_some_0 : decode cX10_some 0 = .ok (.iload_n 1, 1) := by decide +kernel
theorem dX10_some_1 : decode cX10_some 1 = .ok (.iconst 0, 1) := by decide +kernel
theorem dX10_some_2 : decode cX10_some 2 = .ok (.bipush 99, 2) := by decide +kernel
theorem dX10_some_4 : decode cX10_some 4 = .ok (.invokestatic 77, 3) := by decide +kernel
theorem dX10_some_7 : decode cX10_some 7 = .ok (.ifCond .ne 6, 3) := by decide +kernel
theorem dX10_some_10 : decode cX10_some 10 = .ok (.bipush (-2), 2) := by decide +kernel
theorem dX10_some_12 : decode cX10_some 12 = .ok (.ireturn, 1) := by decide +kernel
theorem dX10_some_13 : decode cX10_some 13 = .ok (.aload_n 0, 1) := by decide +kernel
theorem dX10_some_14 : decode cX10_some 14 = .ok (.getfield 81, 3) := by decide +kernel
theorem dX10_some_17 : decode cX10_some 17 = .ok (.ifCond .ne 6, 3) := by decide +kernel
theorem dX10_some_20 : decode cX10_some 20 = .ok (.bipush (-3), 2) := by decide +kernel
theorem dX10_some_22 : decode cX10_some 22 = .ok (.ireturn, 1) := by decide +kernel
theorem dX10_some_23 : decode cX10_some 23 = .ok (.bipush (-9), 2) := by decide +kernel
theorem dX10_some_25 : decode cX10_some 25 = .ok (.istore_n 2, 1) := by decide +kernel
theorem dX10_some_26 : decode cX10_some 26 = .ok (.iconst 0, 1) := by decide +kernel
theorem dX10_some_27 : decode cX10_some 27 = .ok (.istore_n 3, 1) := by decide +kernel
theorem dX10_some_28 : decode cX10_some 28 = .ok (.iload_n 3, 1) := by decide +kernel
theorem dX10_some_29 : decode cX10_some 29 = .ok (.sipush 1296, 3) := by decide +kernel
theorem dX10_some_32 : decode cX10_some 32 = .ok (.if_icmp .ge 44, 3) := by decide +kernel
theorem dX10_some_35 : decode cX10_some 35 = .ok (.aload_n 0, 1) := by decide +kernel
theorem dX10_some_36 : decode cX10_some 36 = .ok (.iload_n 3, 1) := by decide +kernel
theorem dX10_some_37 : decode cX10_some 37 = .ok (.invokevirtual 205, 3) := by decide +kernel
theorem dX10_some_40 : decode cX10_some 40 = .ok (.ifCond .eq 30, 3) := by decide +kernel
theorem dX10_some_43 : decode cX10_some 43 = .ok (.aload_n 0, 1) := by decide +kernel
theorem dX10_some_44 : decode cX10_some 44 = .ok (.invokevirtual 187, 3) := by decide +kernel
theorem dX10_some_47 : decode cX10_some 47 = .ok (.iload_n 1, 1) := by decide +kernel
theorem dX10_some_48 : decode cX10_some 48 = .ok (.if_icmp .ne 22, 3) := by decide +kernel
theorem dX10_some_51 : decode cX10_some 51 = .ok (.iload_n 2, 1) := by decide +kernel
theorem dX10_some_52 : decode cX10_some 52 = .ok (.bipush (-9), 2) := by decide +kernel
theorem dX10_some_54 : decode cX10_some 54 = .ok (.if_icmp .eq 11, 3) := by decide +kernel
theorem dX10_some_57 : decode cX10_some 57 = .ok (.aload_n 0, 1) := by decide +kernel
theorem dX10_some_58 : decode cX10_some 58 = .ok (.invokevirtual 174, 3) := by decide +kernel
theorem dX10_some_61 : decode cX10_some 61 = .ok (.iload_n 2, 1) := by decide +kernel
theorem dX10_some_62 : decode cX10_some 62 = .ok (.if_icmp .ge 8, 3) := by decide +kernel
theorem dX10_some_65 : decode cX10_some 65 = .ok (.aload_n 0, 1) := by decide +kernel
theorem dX10_some_66 : decode cX10_some 66 = .ok (.invokevirtual 174, 3) := by decide +kernel
theorem dX10_some_69 : decode cX10_some 69 = .ok (.istore_n 2, 1) := by decide +kernel
theorem dX10_some_70 : decode cX10_some 70 = .ok (.iinc 3 1, 3) := by decide +kernel
theorem dX10_some_73 : decode cX10_some 73 = .ok (.goto (-45), 3) := by decide +kernel
theorem dX10_some_76 : decode cX10_some 76 = .ok (.iload_n 2, 1) := by decide +kernel
theorem dX10_some_77 : decode cX10_some 77 = .ok (.ireturn, 1) := by decide +kernel
def bk_X10_some_0 (l : Launch) (g : Gm) (G : Nat → CT) (P : PT) : CT := (oILd 1 (oPush (.int (0)) (oPush (.int (99)) (oCall l g d_X10_within 3 (oIf (fun x => x = 0) (oPush (.int (-2)) (oIRet P)) (oALd 0 (oGet [10] 5 (oIf (fun x => x = 0) (oPush (.int (-3)) (oIRet P)) (oPush (.int (-9)) (oISt 2 (oPush (.int (0)) (oISt 3 (G 1)))))))))))))
def bk_X10_some_1 (l : Launch) (g : Gm) (G : Nat → CT) (P : PT) : CT := (oILd 3 (oPush (.int (1296)) (oCmp (fun x y => y ≤ x) (oILd 2 (oIRet P)) (oALd 0 (oILd 3 (oCallV l g [(10, d_X10_isCut)] 2 (oIf (fun x => x = 0) (oInc 3 (1) (oGo (G 1))) (oALd 0 (oCallV l g [(10, d_X10_sumOf)] 1 (oILd 1 (oCmp (fun x y => x = y) (oILd 2 (oPush (.int (-9)) (oCmp (fun x y => x = y) (G 2) (oALd 0 (oCallV l g [(10, d_X10_inCut)] 1 (oILd 2 (oCmp (fun x y => y ≤ x) (oInc 3 (1) (oGo (G 1))) (G 2)))))))) (oInc 3 (1) (oGo (G 1))))))))))))))
def bk_X10_some_2 (l : Launch) (g : Gm) (G : Nat → CT) (P : PT) : CT := (oALd 0 (oCallV l g [(10, d_X10_inCut)] 1 (oISt 2 (oInc 3 (1) (oGo (G 1))))))
def bk_X10_some (l : Launch) (g : Gm) (b : Nat) (G : Nat → CT) (P : PT) : CT := match b with
  | 0 => bk_X10_some_0 l g G P
  | 1 => bk_X10_some_1 l g G P
  | 2 => bk_X10_some_2 l g G P
  | _ => fun _ _ _ _ _ => False
def pc_X10_some (b : Nat) : Nat := match b with
  | 0 => 0
  | 1 => 28
  | 2 => 65
  | _ => 0
set_option maxRecDepth 100000 in
theorem sb_X10_some_0 {p : Program} {l : Launch} {e : Env} {s : State} {m : MethodId} {args : Array Value} {below : List Frame} {meth : Method} {c : Code} {g : Gm} {h0 : Hp} {P : PT} {mc ms : Nat} (X : Cx g p s m args meth c (Adom h0 s.heap.size) cX10_some RX10 4) (hr : meth.sig.returnType = some .int) (hn : meth.name = "some") : SX g p l e s m args below meth c d_X10_some 4 mc ms h0 P (bk_X10_some_0 l g (fun b => GX g p l e s m args below meth c d_X10_some 4 mc ms h0 P (pc_X10_some b)) P) 0 := (s_iload_n X dX10_some_0 rfl (s_iconst X dX10_some_1 rfl (s_bipush X dX10_some_2 rfl (s_callS X dX10_some_4 uw_798 uw_799 uw_7 ci_X10_within yok_X10_within ⟨Nat.le_of_ble_eq_true rfl, Nat.le_of_ble_eq_true rfl⟩ (s_if_ne X dX10_some_7 (by decide) (s_aload_n X dX10_some_13 rfl (s_get X dX10_some_14 (mcn (⟨_, _, _, _, rfl, inU_X10, by decide, uw_714, rfl⟩) (mnl)) (s_if_ne X dX10_some_17 (by decide) (s_bipush X dX10_some_23 rfl (s_istore_n X dX10_some_25 rfl (by decide) (s_iconst X dX10_some_26 rfl (s_istore_n X dX10_some_27 rfl (by decide) Sd.rf)))) (s_bipush X dX10_some_20 rfl (s_iret X hr dX10_some_22))))) (s_bipush X dX10_some_10 rfl (s_iret X hr dX10_some_12)))))))
set_option maxRecDepth 100000 in
theorem sb_X10_some_1 {p : Program} {l : Launch} {e : Env} {s : State} {m : MethodId} {args : Array Value} {below : List Frame} {meth : Method} {c : Code} {g : Gm} {h0 : Hp} {P : PT} {mc ms : Nat} (X : Cx g p s m args meth c (Adom h0 s.heap.size) cX10_some RX10 4) (hr : meth.sig.returnType = some .int) (hn : meth.name = "some") : SX g p l e s m args below meth c d_X10_some 4 mc ms h0 P (bk_X10_some_1 l g (fun b => GX g p l e s m args below meth c d_X10_some 4 mc ms h0 P (pc_X10_some b)) P) 28 := (s_iload_n X dX10_some_28 rfl (s_sipush X dX10_some_29 rfl (s_icmp_ge X dX10_some_32 (by decide) (s_iload_n X dX10_some_76 rfl (s_iret X hr dX10_some_77)) (s_aload_n X dX10_some_35 rfl (s_iload_n X dX10_some_36 rfl (s_callV X dX10_some_37 (mv (vok_V X rfl uw_964 uw_966 (UW_pr 47 rfl rfl) uw_7 ci_X10_isCut yok_X10_isCut ⟨Nat.le_of_ble_eq_true rfl, Nat.le_of_ble_eq_true rfl⟩) mv0) (s_if_eq X dX10_some_40 (by decide) (s_iinc X dX10_some_70 rfl (by decide) (s_goto X dX10_some_73 (by decide) Sd.rf)) (s_aload_n X dX10_some_43 rfl (s_callV X dX10_some_44 (mv (vok_V X rfl uw_928 uw_930 (UW_pr 41 rfl rfl) uw_7 ci_X10_sumOf yok_X10_sumOf ⟨Nat.le_of_ble_eq_true rfl, Nat.le_of_ble_eq_true rfl⟩) mv0) (s_iload_n X dX10_some_47 rfl (s_icmp_ne X dX10_some_48 (by decide) (s_iinc X dX10_some_70 rfl (by decide) (s_goto X dX10_some_73 (by decide) Sd.rf)) (s_iload_n X dX10_some_51 rfl (s_bipush X dX10_some_52 rfl (s_icmp_eq X dX10_some_54 (by decide) Sd.rf (s_aload_n X dX10_some_57 rfl (s_callV X dX10_some_58 (mv (vok_V X rfl uw_908 uw_910 (UW_pr 37 rfl rfl) uw_7 ci_X10_inCut yok_X10_inCut ⟨Nat.le_of_ble_eq_true rfl, Nat.le_of_ble_eq_true rfl⟩) mv0) (s_iload_n X dX10_some_61 rfl (s_icmp_ge X dX10_some_62 (by decide) (s_iinc X dX10_some_70 rfl (by decide) (s_goto X dX10_some_73 (by decide) Sd.rf)) Sd.rf))))))))))))))))))
set_option maxRecDepth 100000 in
theorem sb_X10_some_2 {p : Program} {l : Launch} {e : Env} {s : State} {m : MethodId} {args : Array Value} {below : List Frame} {meth : Method} {c : Code} {g : Gm} {h0 : Hp} {P : PT} {mc ms : Nat} (X : Cx g p s m args meth c (Adom h0 s.heap.size) cX10_some RX10 4) (hr : meth.sig.returnType = some .int) (hn : meth.name = "some") : SX g p l e s m args below meth c d_X10_some 4 mc ms h0 P (bk_X10_some_2 l g (fun b => GX g p l e s m args below meth c d_X10_some 4 mc ms h0 P (pc_X10_some b)) P) 65 := (s_aload_n X dX10_some_65 rfl (s_callV X dX10_some_66 (mv (vok_V X rfl uw_908 uw_910 (UW_pr 37 rfl rfl) uw_7 ci_X10_inCut yok_X10_inCut ⟨Nat.le_of_ble_eq_true rfl, Nat.le_of_ble_eq_true rfl⟩) mv0) (s_istore_n X dX10_some_69 rfl (by decide) (s_iinc X dX10_some_70 rfl (by decide) (s_goto X dX10_some_73 (by decide) Sd.rf)))))
set_option maxRecDepth 100000 in
theorem vc_X10_some {l : Launch} {g : Gm} {a0 : Nat} {a1 : Int32} {h : Hp} {mc ms : Nat} {P : PT} (H : ∀ G : Nat → CT, (∀ (b : Nat) (h : Hp) (cb sb : Nat) (ls : LocS) (st : List Value), bk_X10_some l g b G P h cb sb ls st → G b h cb sb ls st) → G 0 h mc ms [some (.ref a0), some (.int a1), none, none] []) : Run l g d_X10_some [.ref a0, .int a1] h mc ms P :=
  Run.of (d := d_X10_some) (by decide) (mcn rfl (mcn rfl (mnl))) (Nat.le_of_ble_eq_true rfl) (fun p e s m args below meth c X hr hn => H (fun b => GX g p l e s m args below meth c d_X10_some 4 mc ms h P (pc_X10_some b)) (fun b h1 cb sb ls st hb => match b, hb with
    | 0, hb => sb_X10_some_0 (p := p) (e := e) (below := below) X hr hn h1 cb sb ls st hb
    | 1, hb => sb_X10_some_1 (p := p) (e := e) (below := below) X hr hn h1 cb sb ls st hb
    | 2, hb => sb_X10_some_2 (p := p) (e := e) (below := below) X hr hn h1 cb sb ls st hb
    | _ + 3, hb => hb.elim))
theorem dX10_every_0 : decode cX10_every 0 = .ok (.iload_n 1, 1) := by decide +kernel
theorem dX10_every_1 : decode cX10_every 1 = .ok (.iconst 0, 1) := by decide +kernel
theorem dX10_every_2 : decode cX10_every 2 = .ok (.bipush 99, 2) := by decide +kernel
theorem dX10_every_4 : decode cX10_every 4 = .ok (.invokestatic 77, 3) := by decide +kernel
theorem dX10_every_7 : decode cX10_every 7 = .ok (.ifCond .ne 6, 3) := by decide +kernel
theorem dX10_every_10 : decode cX10_every 10 = .ok (.bipush (-2), 2) := by decide +kernel
theorem dX10_every_12 : decode cX10_every 12 = .ok (.ireturn, 1) := by decide +kernel
theorem dX10_every_13 : decode cX10_every 13 = .ok (.aload_n 0, 1) := by decide +kernel
theorem dX10_every_14 : decode cX10_every 14 = .ok (.getfield 81, 3) := by decide +kernel
theorem dX10_every_17 : decode cX10_every 17 = .ok (.ifCond .ne 6, 3) := by decide +kernel
theorem dX10_every_20 : decode cX10_every 20 = .ok (.bipush (-3), 2) := by decide +kernel
theorem dX10_every_22 : decode cX10_every 22 = .ok (.ireturn, 1) := by decide +kernel
theorem dX10_every_23 : decode cX10_every 23 = .ok (.aload_n 0, 1) := by decide +kernel
theorem dX10_every_24 : decode cX10_every 24 = .ok (.iload_n 1, 1) := by decide +kernel
theorem dX10_every_25 : decode cX10_every 25 = .ok (.invokevirtual 208, 3) := by decide +kernel
theorem dX10_every_28 : decode cX10_every 28 = .ok (.aload_n 0, 1) := by decide +kernel
theorem dX10_every_29 : decode cX10_every 29 = .ok (.getfield 61, 3) := by decide +kernel
theorem dX10_every_32 : decode cX10_every 32 = .ok (.aload_n 0, 1) := by decide +kernel
theorem dX10_every_33 : decode cX10_every 33 = .ok (.invokevirtual 211, 3) := by decide +kernel
theorem dX10_every_36 : decode cX10_every 36 = .ok (.laload, 1) := by decide +kernel
theorem dX10_every_37 : decode cX10_every 37 = .ok (.lconst 0, 1) := by decide +kernel
theorem dX10_every_38 : decode cX10_every 38 = .ok (.lcmp, 1) := by decide +kernel
theorem dX10_every_39 : decode cX10_every 39 = .ok (.ifCond .ne 7, 3) := by decide +kernel
theorem dX10_every_42 : decode cX10_every 42 = .ok (.iconst 1, 1) := by decide +kernel
theorem dX10_every_43 : decode cX10_every 43 = .ok (.goto 4, 3) := by decide +kernel
theorem dX10_every_46 : decode cX10_every 46 = .ok (.iconst 0, 1) := by decide +kernel
theorem dX10_every_47 : decode cX10_every 47 = .ok (.ireturn, 1) := by decide +kernel
def bk_X10_every_0 (l : Launch) (g : Gm) (G : Nat → CT) (P : PT) : CT := (oILd 1 (oPush (.int (0)) (oPush (.int (99)) (oCall l g d_X10_within 3 (oIf (fun x => x = 0) (oPush (.int (-2)) (oIRet P)) (oALd 0 (oGet [10] 5 (oIf (fun x => x = 0) (oPush (.int (-3)) (oIRet P)) (oALd 0 (oILd 1 (oCallV l g [(10, d_X10_findWays)] 2 (oALd 0 (oGet [10] 23 (oALd 0 (oCallV l g [(10, d_X10_lastCode)] 1 (oJAL g (oPush (.long 0) (oLCmp (oIf (fun x => x = 0) (oPush (.int (1)) (oGo (oIRet P))) (oPush (.int (0)) (oIRet P)))))))))))))))))))))
def bk_X10_every (l : Launch) (g : Gm) (b : Nat) (G : Nat → CT) (P : PT) : CT := match b with
  | 0 => bk_X10_every_0 l g G P
  | _ => fun _ _ _ _ _ => False
def pc_X10_every (b : Nat) : Nat := match b with
  | 0 => 0
  | _ => 0
set_option maxRecDepth 100000 in
theorem sb_X10_every_0 {p : Program} {l : Launch} {e : Env} {s : State} {m : MethodId} {args : Array Value} {below : List Frame} {meth : Method} {c : Code} {g : Gm} {h0 : Hp} {P : PT} {mc ms : Nat} (X : Cx g p s m args meth c (Adom h0 s.heap.size) cX10_every RX10 2) (hr : meth.sig.returnType = some .int) (hn : meth.name = "every") : SX g p l e s m args below meth c d_X10_every 2 mc ms h0 P (bk_X10_every_0 l g (fun b => GX g p l e s m args below meth c d_X10_every 2 mc ms h0 P (pc_X10_every b)) P) 0 := (s_iload_n X dX10_every_0 rfl (s_iconst X dX10_every_1 rfl (s_bipush X dX10_every_2 rfl (s_callS X dX10_every_4 uw_798 uw_799 uw_7 ci_X10_within yok_X10_within ⟨Nat.le_of_ble_eq_true rfl, Nat.le_of_ble_eq_true rfl⟩ (s_if_ne X dX10_every_7 (by decide) (s_aload_n X dX10_every_13 rfl (s_get X dX10_every_14 (mcn (⟨_, _, _, _, rfl, inU_X10, by decide, uw_714, rfl⟩) (mnl)) (s_if_ne X dX10_every_17 (by decide) (s_aload_n X dX10_every_23 rfl (s_iload_n X dX10_every_24 rfl (s_callV X dX10_every_25 (mv (vok_V X rfl uw_973 uw_975 (UW_pr 48 rfl rfl) uw_7 ci_X10_findWays yok_X10_findWays ⟨Nat.le_of_ble_eq_true rfl, Nat.le_of_ble_eq_true rfl⟩) mv0) (s_aload_n X dX10_every_28 rfl (s_get X dX10_every_29 (mcn (⟨_, _, _, _, rfl, inU_X10, by decide, uw_732, rfl⟩) (mnl)) (s_aload_n X dX10_every_32 rfl (s_callV X dX10_every_33 (mv (vok_V X rfl uw_977 uw_979 (UW_pr 49 rfl rfl) uw_7 ci_X10_lastCode yok_X10_lastCode ⟨Nat.le_of_ble_eq_true rfl, Nat.le_of_ble_eq_true rfl⟩) mv0) (s_laload X dX10_every_36 (s_lconst X dX10_every_37 rfl (s_lcmp X dX10_every_38 (s_if_ne X dX10_every_39 (by decide) (s_iconst X dX10_every_46 rfl (s_iret X hr dX10_every_47)) (s_iconst X dX10_every_42 rfl (s_goto X dX10_every_43 (by decide) (s_iret X hr dX10_every_47)))))))))))))) (s_bipush X dX10_every_20 rfl (s_iret X hr dX10_every_22))))) (s_bipush X dX10_every_10 rfl (s_iret X hr dX10_every_12)))))))
set_option maxRecDepth 100000 in
theorem vc_X10_every {l : Launch} {g : Gm} {a0 : Nat} {a1 : Int32} {h : Hp} {mc ms : Nat} {P : PT} (H : ∀ G : Nat → CT, (∀ (b : Nat) (h : Hp) (cb sb : Nat) (ls : LocS) (st : List Value), bk_X10_every l g b G P h cb sb ls st → G b h cb sb ls st) → G 0 h mc ms [some (.ref a0), some (.int a1)] []) : Run l g d_X10_every [.ref a0, .int a1] h mc ms P :=
  Run.of (d := d_X10_every) (by decide) (mcn rfl (mcn rfl (mnl))) (Nat.le_of_ble_eq_true rfl) (fun p e s m args below meth c X hr hn => H (fun b => GX g p l e s m args below meth c d_X10_every 2 mc ms h P (pc_X10_every b)) (fun b h1 cb sb ls st hb => match b, hb with
    | 0, hb => sb_X10_every_0 (p := p) (e := e) (below := below) X hr hn h1 cb sb ls st hb
    | _ + 1, hb => hb.elim))
theorem dX10_reading_0 : decode cX10_reading 0 = .ok (.aload_n 0, 1) := by decide +kernel
theorem dX10_reading_1 : decode cX10_reading 1 = .ok (.iconst 0, 1) := by decide +kernel
theorem dX10_reading_2 : decode cX10_reading 2 = .ok (.putfield 71, 3) := by decide +kernel
theorem dX10_reading_5 : decode cX10_reading 5 = .ok (.aload_n 0, 1) := by decide +kernel
theorem dX10_reading_6 : decode cX10_reading 6 = .ok (.getfield 81, 3) := by decide +kernel
theorem dX10_reading_9 : decode cX10_reading 9 = .ok (.ifCond .ne 6, 3) := by decide +kernel
theorem dX10_reading_12 : decode cX10_reading 12 = .ok (.bipush (-3), 2) := by decide +kernel
theorem dX10_reading_14 : decode cX10_reading 14 = .ok (.ireturn, 1) := by decide +kernel
theorem dX10_reading_15 : decode cX10_reading 15 = .ok (.iload_n 1, 1) := by decide +kernel
theorem dX10_reading_16 : decode cX10_reading 16 = .ok (.invokestatic 91, 3) := by decide +kernel
theorem dX10_reading_19 : decode cX10_reading 19 = .ok (.ifCond .ne 5, 3) := by decide +kernel
theorem dX10_reading_22 : decode cX10_reading 22 = .ok (.iconst (-1), 1) := by decide +kernel
theorem dX10_reading_23 : decode cX10_reading 23 = .ok (.ireturn, 1) := by decide +kernel
theorem dX10_reading_24 : decode cX10_reading 24 = .ok (.iload_n 2, 1) := by decide +kernel
theorem dX10_reading_25 : decode cX10_reading 25 = .ok (.invokestatic 94, 3) := by decide +kernel
theorem dX10_reading_28 : decode cX10_reading 28 = .ok (.ifCond .eq 14, 3) := by decide +kernel
theorem dX10_reading_31 : decode cX10_reading 31 = .ok (.iload 4, 2) := by decide +kernel
theorem dX10_reading_33 : decode cX10_reading 33 = .ok (.iconst 0, 1) := by decide +kernel
theorem dX10_reading_34 : decode cX10_reading 34 = .ok (.bipush 99, 2) := by decide +kernel
theorem dX10_reading_36 : decode cX10_reading 36 = .ok (.invokestatic 77, 3) := by decide +kernel
theorem dX10_reading_39 : decode cX10_reading 39 = .ok (.ifCond .ne 6, 3) := by decide +kernel
theorem dX10_reading_42 : decode cX10_reading 42 = .ok (.bipush (-2), 2) := by decide +kernel
theorem dX10_reading_44 : decode cX10_reading 44 = .ok (.ireturn, 1) := by decide +kernel
theorem dX10_reading_45 : decode cX10_reading 45 = .ok (.aload_n 0, 1) := by decide +kernel
theorem dX10_reading_46 : decode cX10_reading 46 = .ok (.iload_n 1, 1) := by decide +kernel
theorem dX10_reading_47 : decode cX10_reading 47 = .ok (.iload_n 2, 1) := by decide +kernel
theorem dX10_reading_48 : decode cX10_reading 48 = .ok (.iload_n 3, 1) := by decide +kernel
theorem dX10_reading_49 : decode cX10_reading 49 = .ok (.aload_n 0, 1) := by decide +kernel
theorem dX10_reading_50 : decode cX10_reading 50 = .ok (.getfield 81, 3) := by decide +kernel
theorem dX10_reading_53 : decode cX10_reading 53 = .ok (.invokevirtual 97, 3) := by decide +kernel
theorem dX10_reading_56 : decode cX10_reading 56 = .ok (.istore 5, 2) := by decide +kernel
theorem dX10_reading_58 : decode cX10_reading 58 = .ok (.iload 5, 2) := by decide +kernel
theorem dX10_reading_60 : decode cX10_reading 60 = .ok (.ifCond .eq 10, 3) := by decide +kernel
theorem dX10_reading_63 : decode cX10_reading 63 = .ok (.aload_n 0, 1) := by decide +kernel
theorem dX10_reading_64 : decode cX10_reading 64 = .ok (.iload 5, 2) := by decide +kernel
theorem dX10_reading_66 : decode cX10_reading 66 = .ok (.invokevirtual 101, 3) := by decide +kernel
theorem dX10_reading_69 : decode cX10_reading 69 = .ok (.ireturn, 1) := by decide +kernel
theorem dX10_reading_70 : decode cX10_reading 70 = .ok (.bipush 60, 2) := by decide +kernel
theorem dX10_reading_72 : decode cX10_reading 72 = .ok (.iload_n 1, 1) := by decide +kernel
theorem dX10_reading_73 : decode cX10_reading 73 = .ok (.imul, 1) := by decide +kernel
theorem dX10_reading_74 : decode cX10_reading 74 = .ok (.iload_n 3, 1) := by decide +kernel
theorem dX10_reading_75 : decode cX10_reading 75 = .ok (.iadd, 1) := by decide +kernel
theorem dX10_reading_76 : decode cX10_reading 76 = .ok (.istore 6, 2) := by decide +kernel
theorem dX10_reading_78 : decode cX10_reading 78 = .ok (.aload_n 0, 1) := by decide +kernel
theorem dX10_reading_79 : decode cX10_reading 79 = .ok (.iload 6, 2) := by decide +kernel
theorem dX10_reading_81 : decode cX10_reading 81 = .ok (.invokevirtual 177, 3) := by decide +kernel
theorem dX10_reading_84 : decode cX10_reading 84 = .ok (.ifCond .eq 6, 3) := by decide +kernel
theorem dX10_reading_87 : decode cX10_reading 87 = .ok (.bipush (-2), 2) := by decide +kernel
theorem dX10_reading_89 : decode cX10_reading 89 = .ok (.ireturn, 1) := by decide +kernel
theorem dX10_reading_90 : decode cX10_reading 90 = .ok (.aload_n 0, 1) := by decide +kernel
theorem dX10_reading_91 : decode cX10_reading 91 = .ok (.getfield 122, 3) := by decide +kernel
theorem dX10_reading_94 : decode cX10_reading 94 = .ok (.bipush 8, 2) := by decide +kernel
theorem dX10_reading_96 : decode cX10_reading 96 = .ok (.if_icmp .ne 6, 3) := by decide +kernel
theorem dX10_reading_99 : decode cX10_reading 99 = .ok (.bipush (-4), 2) := by decide +kernel
theorem dX10_reading_101 : decode cX10_reading 101 = .ok (.ireturn, 1) := by decide +kernel
theorem dX10_reading_102 : decode cX10_reading 102 = .ok (.iconst 0, 1) := by decide +kernel
theorem dX10_reading_103 : decode cX10_reading 103 = .ok (.istore 7, 2) := by decide +kernel
theorem dX10_reading_105 : decode cX10_reading 105 = .ok (.iload 7, 2) := by decide +kernel
theorem dX10_reading_107 : decode cX10_reading 107 = .ok (.aload_n 0, 1) := by decide +kernel
theorem dX10_reading_108 : decode cX10_reading 108 = .ok (.getfield 81, 3) := by decide +kernel
theorem dX10_reading_111 : decode cX10_reading 111 = .ok (.if_icmp .ge 33, 3) := by decide +kernel
theorem dX10_reading_114 : decode cX10_reading 114 = .ok (.aload_n 0, 1) := by decide +kernel
theorem dX10_reading_115 : decode cX10_reading 115 = .ok (.getfield 65, 3) := by decide +kernel
theorem dX10_reading_118 : decode cX10_reading 118 = .ok (.iconst 4, 1) := by decide +kernel
theorem dX10_reading_119 : decode cX10_reading 119 = .ok (.aload_n 0, 1) := by decide +kernel
theorem dX10_reading_120 : decode cX10_reading 120 = .ok (.getfield 122, 3) := by decide +kernel
theorem dX10_reading_123 : decode cX10_reading 123 = .ok (.imul, 1) := by decide +kernel
theorem dX10_reading_124 : decode cX10_reading 124 = .ok (.iload 7, 2) := by decide +kernel
theorem dX10_reading_126 : decode cX10_reading 126 = .ok (.iadd, 1) := by decide +kernel
theorem dX10_reading_127 : decode cX10_reading 127 = .ok (.aload_n 0, 1) := by decide +kernel
theorem dX10_reading_128 : decode cX10_reading 128 = .ok (.getfield 16, 3) := by decide +kernel
theorem dX10_reading_131 : decode cX10_reading 131 = .ok (.iload 6, 2) := by decide +kernel
theorem dX10_reading_133 : decode cX10_reading 133 = .ok (.iload 7, 2) := by decide +kernel
theorem dX10_reading_135 : decode cX10_reading 135 = .ok (.iadd, 1) := by decide +kernel
theorem dX10_reading_136 : decode cX10_reading 136 = .ok (.iaload, 1) := by decide +kernel
theorem dX10_reading_137 : decode cX10_reading 137 = .ok (.iastore, 1) := by decide +kernel
theorem dX10_reading_138 : decode cX10_reading 138 = .ok (.iinc 7 1, 3) := by decide +kernel
theorem dX10_reading_141 : decode cX10_reading 141 = .ok (.goto (-36), 3) := by decide +kernel
theorem dX10_reading_144 : decode cX10_reading 144 = .ok (.aload_n 0, 1) := by decide +kernel
theorem dX10_reading_145 : decode cX10_reading 145 = .ok (.getfield 68, 3) := by decide +kernel
theorem dX10_reading_148 : decode cX10_reading 148 = .ok (.aload_n 0, 1) := by decide +kernel
theorem dX10_reading_149 : decode cX10_reading 149 = .ok (.getfield 122, 3) := by decide +kernel
theorem dX10_reading_152 : decode cX10_reading 152 = .ok (.iload 4, 2) := by decide +kernel
theorem dX10_reading_154 : decode cX10_reading 154 = .ok (.iastore, 1) := by decide +kernel
theorem dX10_reading_155 : decode cX10_reading 155 = .ok (.aload_n 0, 1) := by decide +kernel
theorem dX10_reading_156 : decode cX10_reading 156 = .ok (.dup, 1) := by decide +kernel
theorem dX10_reading_157 : decode cX10_reading 157 = .ok (.getfield 122, 3) := by decide +kernel
theorem dX10_reading_160 : decode cX10_reading 160 = .ok (.iconst 1, 1) := by decide +kernel
theorem dX10_reading_161 : decode cX10_reading 161 = .ok (.iadd, 1) := by decide +kernel
theorem dX10_reading_162 : decode cX10_reading 162 = .ok (.putfield 122, 3) := by decide +kernel
theorem dX10_reading_165 : decode cX10_reading 165 = .ok (.aload_n 0, 1) := by decide +kernel
theorem dX10_reading_166 : decode cX10_reading 166 = .ok (.getfield 122, 3) := by decide +kernel
theorem dX10_reading_169 : decode cX10_reading 169 = .ok (.iconst 1, 1) := by decide +kernel
theorem dX10_reading_170 : decode cX10_reading 170 = .ok (.isub, 1) := by decide +kernel
theorem dX10_reading_171 : decode cX10_reading 171 = .ok (.ireturn, 1) := by decide +kernel
def bk_X10_reading_0 (l : Launch) (g : Gm) (G : Nat → CT) (P : PT) : CT := (oALd 0 (oPush (.int (0)) (oPutI [10] 0 (oALd 0 (oGet [10] 5 (oIf (fun x => x = 0) (oPush (.int (-3)) (oIRet P)) (oILd 1 (oCall l g d_X10_isSheet 1 (oIf (fun x => x = 0) (oPush (.int (-1)) (oIRet P)) (oILd 2 (oCall l g d_X10_isSort 1 (oIf (fun x => x = 0) (oPush (.int (-2)) (oIRet P)) (oILd 4 (oPush (.int (0)) (oPush (.int (99)) (oCall l g d_X10_within 3 (oIf (fun x => x = 0) (oPush (.int (-2)) (oIRet P)) (oALd 0 (oILd 1 (oILd 2 (oILd 3 (oALd 0 (oGet [10] 5 (oCallV l g [(10, d_X10_against)] 5 (oISt 5 (oILd 5 (oIf (fun x => x = 0) (oPush (.int (60)) (oILd 1 (oBin (fun x y => x * y) (oILd 3 (oBin (fun x y => x + y) (oISt 6 (oALd 0 (oILd 6 (oCallV l g [(10, d_X10_refusesCells)] 2 (oIf (fun x => x = 0) (oALd 0 (oGet [10] 24 (oPush (.int (8)) (oCmp (fun x y => x = y) (oPush (.int (-4)) (oIRet P)) (oPush (.int (0)) (oISt 7 (G 1))))))) (oPush (.int (-2)) (oIRet P)))))))))))) (oALd 0 (oILd 5 (oCallV l g [(10, d_X10_fails)] 2 (oIRet P)))))))))))))))))))))))))))))))
def bk_X10_reading_1 (l : Launch) (g : Gm) (G : Nat → CT) (P : PT) : CT := (oILd 7 (oALd 0 (oGet [10] 5 (oCmp (fun x y => y ≤ x) (oALd 0 (oGet [10] 26 (oALd 0 (oGet [10] 24 (oILd 4 (oIAS g (oALd 0 (oDup (oGet [10] 24 (oPush (.int (1)) (oBin (fun x y => x + y) (oPutI [10] 24 (oALd 0 (oGet [10] 24 (oPush (.int (1)) (oBin (fun x y => x - y) (oIRet P))))))))))))))))) (oALd 0 (oGet [10] 25 (oPush (.int (4)) (oALd 0 (oGet [10] 24 (oBin (fun x y => x * y) (oILd 7 (oBin (fun x y => x + y) (oALd 0 (oGet [10] 4 (oILd 6 (oILd 7 (oBin (fun x y => x + y) (oIAL g (oIAS g (oInc 7 (1) (oGo (G 1))))))))))))))))))))))
def bk_X10_reading (l : Launch) (g : Gm) (b : Nat) (G : Nat → CT) (P : PT) : CT := match b with
  | 0 => bk_X10_reading_0 l g G P
  | 1 => bk_X10_reading_1 l g G P
  | _ => fun _ _ _ _ _ => False
def pc_X10_reading (b : Nat) : Nat := match b with
  | 0 => 0
  | 1 => 105
  | _ => 0
set_option maxRecDepth 100000 in
theorem sb_X10_reading_0 {p : Program} {l : Launch} {e : Env} {s : State} {m : MethodId} {args : Array Value} {below : List Frame} {meth : Method} {c : Code} {g : Gm} {h0 : Hp} {P : PT} {mc ms : Nat} (X : Cx g p s m args meth c (Adom h0 s.heap.size) cX10_reading RX10 8) (hr : meth.sig.returnType = some .int) (hn : meth.name = "reading") : SX g p l e s m args below meth c d_X10_reading 8 mc ms h0 P (bk_X10_reading_0 l g (fun b => GX g p l e s m args below meth c d_X10_reading 8 mc ms h0 P (pc_X10_reading b)) P) 0 := (s_aload_n X dX10_reading_0 rfl (s_iconst X dX10_reading_1 rfl (s_putI X dX10_reading_2 (mcn (⟨_, _, _, _, tyX10, rfl, inU_X10, by decide, uw_709, rfl, tyX10_ok, nmX10, rfl, rfl⟩) (mnl)) (s_aload_n X dX10_reading_5 rfl (s_get X dX10_reading_6 (mcn (⟨_, _, _, _, rfl, inU_X10, by decide, uw_714, rfl⟩) (mnl)) (s_if_ne X dX10_reading_9 (by decide) (s_iload_n X dX10_reading_15 rfl (s_callS X dX10_reading_16 uw_795 uw_796 uw_7 ci_X10_isSheet yok_X10_isSheet ⟨Nat.le_of_ble_eq_true rfl, Nat.le_of_ble_eq_true rfl⟩ (s_if_ne X dX10_reading_19 (by decide) (s_iload_n X dX10_reading_24 rfl (s_callS X dX10_reading_25 uw_801 uw_802 uw_7 ci_X10_isSort yok_X10_isSort ⟨Nat.le_of_ble_eq_true rfl, Nat.le_of_ble_eq_true rfl⟩ (s_if_eq X dX10_reading_28 (by decide) (s_bipush X dX10_reading_42 rfl (s_iret X hr dX10_reading_44)) (s_iload X dX10_reading_31 (s_iconst X dX10_reading_33 rfl (s_bipush X dX10_reading_34 rfl (s_callS X dX10_reading_36 uw_798 uw_799 uw_7 ci_X10_within yok_X10_within ⟨Nat.le_of_ble_eq_true rfl, Nat.le_of_ble_eq_true rfl⟩ (s_if_ne X dX10_reading_39 (by decide) (s_aload_n X dX10_reading_45 rfl (s_iload_n X dX10_reading_46 rfl (s_iload_n X dX10_reading_47 rfl (s_iload_n X dX10_reading_48 rfl (s_aload_n X dX10_reading_49 rfl (s_get X dX10_reading_50 (mcn (⟨_, _, _, _, rfl, inU_X10, by decide, uw_714, rfl⟩) (mnl)) (s_callV X dX10_reading_53 (mv (vok_V X rfl uw_804 uw_806 (UW_pr 16 rfl rfl) uw_7 ci_X10_against yok_X10_against ⟨Nat.le_of_ble_eq_true rfl, Nat.le_of_ble_eq_true rfl⟩) mv0) (s_istore X dX10_reading_56 (by decide) (s_iload X dX10_reading_58 (s_if_eq X dX10_reading_60 (by decide) (s_bipush X dX10_reading_70 rfl (s_iload_n X dX10_reading_72 rfl (s_imul X dX10_reading_73 (s_iload_n X dX10_reading_74 rfl (s_iadd X dX10_reading_75 (s_istore X dX10_reading_76 (by decide) (s_aload_n X dX10_reading_78 rfl (s_iload X dX10_reading_79 (s_callV X dX10_reading_81 (mv (vok_V X rfl uw_916 uw_918 (UW_pr 38 rfl rfl) uw_7 ci_X10_refusesCells yok_X10_refusesCells ⟨Nat.le_of_ble_eq_true rfl, Nat.le_of_ble_eq_true rfl⟩) mv0) (s_if_eq X dX10_reading_84 (by decide) (s_aload_n X dX10_reading_90 rfl (s_get X dX10_reading_91 (mcn (⟨_, _, _, _, rfl, inU_X10, by decide, uw_733, rfl⟩) (mnl)) (s_bipush X dX10_reading_94 rfl (s_icmp_ne X dX10_reading_96 (by decide) (s_iconst X dX10_reading_102 rfl (s_istore X dX10_reading_103 (by decide) Sd.rf)) (s_bipush X dX10_reading_99 rfl (s_iret X hr dX10_reading_101)))))) (s_bipush X dX10_reading_87 rfl (s_iret X hr dX10_reading_89)))))))))))) (s_aload_n X dX10_reading_63 rfl (s_iload X dX10_reading_64 (s_callV X dX10_reading_66 (mv (vok_V X rfl uw_808 uw_810 (UW_pr 17 rfl rfl) uw_7 ci_X10_fails yok_X10_fails ⟨Nat.le_of_ble_eq_true rfl, Nat.le_of_ble_eq_true rfl⟩) mv0) (s_iret X hr dX10_reading_69)))))))))))))) (s_bipush X dX10_reading_42 rfl (s_iret X hr dX10_reading_44)))))))))) (s_iconst X dX10_reading_22 rfl (s_iret X hr dX10_reading_23))))) (s_bipush X dX10_reading_12 rfl (s_iret X hr dX10_reading_14))))))))
set_option maxRecDepth 100000 in
theorem sb_X10_reading_1 {p : Program} {l : Launch} {e : Env} {s : State} {m : MethodId} {args : Array Value} {below : List Frame} {meth : Method} {c : Code} {g : Gm} {h0 : Hp} {P : PT} {mc ms : Nat} (X : Cx g p s m args meth c (Adom h0 s.heap.size) cX10_reading RX10 8) (hr : meth.sig.returnType = some .int) (hn : meth.name = "reading") : SX g p l e s m args below meth c d_X10_reading 8 mc ms h0 P (bk_X10_reading_1 l g (fun b => GX g p l e s m args below meth c d_X10_reading 8 mc ms h0 P (pc_X10_reading b)) P) 105 := (s_iload X dX10_reading_105 (s_aload_n X dX10_reading_107 rfl (s_get X dX10_reading_108 (mcn (⟨_, _, _, _, rfl, inU_X10, by decide, uw_714, rfl⟩) (mnl)) (s_icmp_ge X dX10_reading_111 (by decide) (s_aload_n X dX10_reading_144 rfl (s_get X dX10_reading_145 (mcn (⟨_, _, _, _, rfl, inU_X10, by decide, uw_735, rfl⟩) (mnl)) (s_aload_n X dX10_reading_148 rfl (s_get X dX10_reading_149 (mcn (⟨_, _, _, _, rfl, inU_X10, by decide, uw_733, rfl⟩) (mnl)) (s_iload X dX10_reading_152 (s_iastore X dX10_reading_154 (s_aload_n X dX10_reading_155 rfl (s_dup X dX10_reading_156 (s_get X dX10_reading_157 (mcn (⟨_, _, _, _, rfl, inU_X10, by decide, uw_733, rfl⟩) (mnl)) (s_iconst X dX10_reading_160 rfl (s_iadd X dX10_reading_161 (s_putI X dX10_reading_162 (mcn (⟨_, _, _, _, tyX10, rfl, inU_X10, by decide, uw_733, rfl, tyX10_ok, nmX10, rfl, rfl⟩) (mnl)) (s_aload_n X dX10_reading_165 rfl (s_get X dX10_reading_166 (mcn (⟨_, _, _, _, rfl, inU_X10, by decide, uw_733, rfl⟩) (mnl)) (s_iconst X dX10_reading_169 rfl (s_isub X dX10_reading_170 (s_iret X hr dX10_reading_171))))))))))))))))) (s_aload_n X dX10_reading_114 rfl (s_get X dX10_reading_115 (mcn (⟨_, _, _, _, rfl, inU_X10, by decide, uw_734, rfl⟩) (mnl)) (s_iconst X dX10_reading_118 rfl (s_aload_n X dX10_reading_119 rfl (s_get X dX10_reading_120 (mcn (⟨_, _, _, _, rfl, inU_X10, by decide, uw_733, rfl⟩) (mnl)) (s_imul X dX10_reading_123 (s_iload X dX10_reading_124 (s_iadd X dX10_reading_126 (s_aload_n X dX10_reading_127 rfl (s_get X dX10_reading_128 (mcn (⟨_, _, _, _, rfl, inU_X10, by decide, uw_713, rfl⟩) (mnl)) (s_iload X dX10_reading_131 (s_iload X dX10_reading_133 (s_iadd X dX10_reading_135 (s_iaload X dX10_reading_136 (s_iastore X dX10_reading_137 (s_iinc X dX10_reading_138 rfl (by decide) (s_goto X dX10_reading_141 (by decide) Sd.rf)))))))))))))))))))))
set_option maxRecDepth 100000 in
theorem vc_X10_reading {l : Launch} {g : Gm} {a0 : Nat} {a1 : Int32} {a2 : Int32} {a3 : Int32} {a4 : Int32} {h : Hp} {mc ms : Nat} {P : PT} (H : ∀ G : Nat → CT, (∀ (b : Nat) (h : Hp) (cb sb : Nat) (ls : LocS) (st : List Value), bk_X10_reading l g b G P h cb sb ls st → G b h cb sb ls st) → G 0 h mc ms [some (.ref a0), some (.int a1), some (.int a2), some (.int a3), some (.int a4), none, none, none] []) : Run l g d_X10_reading [.ref a0, .int a1, .int a2, .int a3, .int a4] h mc ms P :=
  Run.of (d := d_X10_reading) (by decide) (mcn rfl (mcn rfl (mcn rfl (mcn rfl (mcn rfl (mnl)))))) (Nat.le_of_ble_eq_true rfl) (fun p e s m args below meth c X hr hn => H (fun b => GX g p l e s m args below meth c d_X10_reading 8 mc ms h P (pc_X10_reading b)) (fun b h1 cb sb ls st hb => match b, hb with
    | 0, hb => sb_X10_reading_0 (p := p) (e := e) (below := below) X hr hn h1 cb sb ls st hb
    | 1, hb => sb_X10_reading_1 (p := p) (e := e) (below := below) X hr hn h1 cb sb ls st hb
    | _ + 2, hb => hb.elim))
theorem dX10_back_0 : decode cX10_back 0 = .ok (.iload_n 1, 1) := by decide +kernel
theorem dX10_back_1 : decode cX10_back 1 = .ok (.iconst 0, 1) := by decide +kernel
theorem dX10_back_2 : decode cX10_back 2 = .ok (.aload_n 0, 1) := by decide +kernel
theorem dX10_back_3 : decode cX10_back 3 = .ok (.getfield 122, 3) := by decide +kernel
theorem dX10_back_6 : decode cX10_back 6 = .ok (.invokestatic 77, 3) := by decide +kernel
theorem dX10_back_9 : decode cX10_back 9 = .ok (.ifCond .ne 6, 3) := by decide +kernel
theorem dX10_back_12 : decode cX10_back 12 = .ok (.bipush (-2), 2) := by decide +kernel
theorem dX10_back_14 : decode cX10_back 14 = .ok (.ireturn, 1) := by decide +kernel
theorem dX10_back_15 : decode cX10_back 15 = .ok (.aload_n 0, 1) := by decide +kernel
theorem dX10_back_16 : decode cX10_back 16 = .ok (.dup, 1) := by decide +kernel
theorem dX10_back_17 : decode cX10_back 17 = .ok (.getfield 122, 3) := by decide +kernel
theorem dX10_back_20 : decode cX10_back 20 = .ok (.iload_n 1, 1) := by decide +kernel
theorem dX10_back_21 : decode cX10_back 21 = .ok (.isub, 1) := by decide +kernel
theorem dX10_back_22 : decode cX10_back 22 = .ok (.putfield 122, 3) := by decide +kernel
theorem dX10_back_25 : decode cX10_back 25 = .ok (.aload_n 0, 1) := by decide +kernel
theorem dX10_back_26 : decode cX10_back 26 = .ok (.getfield 122, 3) := by decide +kernel
theorem dX10_back_29 : decode cX10_back 29 = .ok (.ireturn, 1) := by decide +kernel
def bk_X10_back_0 (l : Launch) (g : Gm) (G : Nat → CT) (P : PT) : CT := (oILd 1 (oPush (.int (0)) (oALd 0 (oGet [10] 24 (oCall l g d_X10_within 3 (oIf (fun x => x = 0) (oPush (.int (-2)) (oIRet P)) (oALd 0 (oDup (oGet [10] 24 (oILd 1 (oBin (fun x y => x - y) (oPutI [10] 24 (oALd 0 (oGet [10] 24 (oIRet P)))))))))))))))
def bk_X10_back (l : Launch) (g : Gm) (b : Nat) (G : Nat → CT) (P : PT) : CT := match b with
  | 0 => bk_X10_back_0 l g G P
  | _ => fun _ _ _ _ _ => False
def pc_X10_back (b : Nat) : Nat := match b with
  | 0 => 0
  | _ => 0
set_option maxRecDepth 100000 in
theorem sb_X10_back_0 {p : Program} {l : Launch} {e : Env} {s : State} {m : MethodId} {args : Array Value} {below : List Frame} {meth : Method} {c : Code} {g : Gm} {h0 : Hp} {P : PT} {mc ms : Nat} (X : Cx g p s m args meth c (Adom h0 s.heap.size) cX10_back RX10 2) (hr : meth.sig.returnType = some .int) (hn : meth.name = "back") : SX g p l e s m args below meth c d_X10_back 2 mc ms h0 P (bk_X10_back_0 l g (fun b => GX g p l e s m args below meth c d_X10_back 2 mc ms h0 P (pc_X10_back b)) P) 0 := (s_iload_n X dX10_back_0 rfl (s_iconst X dX10_back_1 rfl (s_aload_n X dX10_back_2 rfl (s_get X dX10_back_3 (mcn (⟨_, _, _, _, rfl, inU_X10, by decide, uw_733, rfl⟩) (mnl)) (s_callS X dX10_back_6 uw_798 uw_799 uw_7 ci_X10_within yok_X10_within ⟨Nat.le_of_ble_eq_true rfl, Nat.le_of_ble_eq_true rfl⟩ (s_if_ne X dX10_back_9 (by decide) (s_aload_n X dX10_back_15 rfl (s_dup X dX10_back_16 (s_get X dX10_back_17 (mcn (⟨_, _, _, _, rfl, inU_X10, by decide, uw_733, rfl⟩) (mnl)) (s_iload_n X dX10_back_20 rfl (s_isub X dX10_back_21 (s_putI X dX10_back_22 (mcn (⟨_, _, _, _, tyX10, rfl, inU_X10, by decide, uw_733, rfl, tyX10_ok, nmX10, rfl, rfl⟩) (mnl)) (s_aload_n X dX10_back_25 rfl (s_get X dX10_back_26 (mcn (⟨_, _, _, _, rfl, inU_X10, by decide, uw_733, rfl⟩) (mnl)) (s_iret X hr dX10_back_29))))))))) (s_bipush X dX10_back_12 rfl (s_iret X hr dX10_back_14))))))))
set_option maxRecDepth 100000 in
theorem vc_X10_back {l : Launch} {g : Gm} {a0 : Nat} {a1 : Int32} {h : Hp} {mc ms : Nat} {P : PT} (H : ∀ G : Nat → CT, (∀ (b : Nat) (h : Hp) (cb sb : Nat) (ls : LocS) (st : List Value), bk_X10_back l g b G P h cb sb ls st → G b h cb sb ls st) → G 0 h mc ms [some (.ref a0), some (.int a1)] []) : Run l g d_X10_back [.ref a0, .int a1] h mc ms P :=
  Run.of (d := d_X10_back) (by decide) (mcn rfl (mcn rfl (mnl))) (Nat.le_of_ble_eq_true rfl) (fun p e s m args below meth c X hr hn => H (fun b => GX g p l e s m args below meth c d_X10_back 2 mc ms h P (pc_X10_back b)) (fun b h1 cb sb ls st hb => match b, hb with
    | 0, hb => sb_X10_back_0 (p := p) (e := e) (below := below) X hr hn h1 cb sb ls st hb
    | _ + 1, hb => hb.elim))
theorem dX10_areSo_0 : decode cX10_areSo 0 = .ok (.iconst 0, 1) := by decide +kernel
theorem dX10_areSo_1 : decode cX10_areSo 1 = .ok (.istore_n 1, 1) := by decide +kernel
theorem dX10_areSo_2 : decode cX10_areSo 2 = .ok (.iload_n 1, 1) := by decide +kernel
theorem dX10_areSo_3 : decode cX10_areSo 3 = .ok (.aload_n 0, 1) := by decide +kernel
theorem dX10_areSo_4 : decode cX10_areSo 4 = .ok (.getfield 122, 3) := by decide +kernel
theorem dX10_areSo_7 : decode cX10_areSo 7 = .ok (.if_icmp .ge 56, 3) := by decide +kernel
theorem dX10_areSo_10 : decode cX10_areSo 10 = .ok (.iconst 0, 1) := by decide +kernel
theorem dX10_areSo_11 : decode cX10_areSo 11 = .ok (.istore_n 2, 1) := by decide +kernel
theorem dX10_areSo_12 : decode cX10_areSo 12 = .ok (.iload_n 2, 1) := by decide +kernel
theorem dX10_areSo_13 : decode cX10_areSo 13 = .ok (.aload_n 0, 1) := by decide +kernel
theorem dX10_areSo_14 : decode cX10_areSo 14 = .ok (.getfield 81, 3) := by decide +kernel
theorem dX10_areSo_17 : decode cX10_areSo 17 = .ok (.if_icmp .ge 25, 3) := by decide +kernel
theorem dX10_areSo_20 : decode cX10_areSo 20 = .ok (.aload_n 0, 1) := by decide +kernel
theorem dX10_areSo_21 : decode cX10_areSo 21 = .ok (.getfield 58, 3) := by decide +kernel
theorem dX10_areSo_24 : decode cX10_areSo 24 = .ok (.iload_n 2, 1) := by decide +kernel
theorem dX10_areSo_25 : decode cX10_areSo 25 = .ok (.aload_n 0, 1) := by decide +kernel
theorem dX10_areSo_26 : decode cX10_areSo 26 = .ok (.getfield 65, 3) := by decide +kernel
theorem dX10_areSo_29 : decode cX10_areSo 29 = .ok (.iconst 4, 1) := by decide +kernel
theorem dX10_areSo_30 : decode cX10_areSo 30 = .ok (.iload_n 1, 1) := by decide +kernel
theorem dX10_areSo_31 : decode cX10_areSo 31 = .ok (.imul, 1) := by decide +kernel
theorem dX10_areSo_32 : decode cX10_areSo 32 = .ok (.iload_n 2, 1) := by decide +kernel
theorem dX10_areSo_33 : decode cX10_areSo 33 = .ok (.iadd, 1) := by decide +kernel
theorem dX10_areSo_34 : decode cX10_areSo 34 = .ok (.iaload, 1) := by decide +kernel
theorem dX10_areSo_35 : decode cX10_areSo 35 = .ok (.iastore, 1) := by decide +kernel
theorem dX10_areSo_36 : decode cX10_areSo 36 = .ok (.iinc 2 1, 3) := by decide +kernel
theorem dX10_areSo_39 : decode cX10_areSo 39 = .ok (.goto (-27), 3) := by decide +kernel
theorem dX10_areSo_42 : decode cX10_areSo 42 = .ok (.aload_n 0, 1) := by decide +kernel
theorem dX10_areSo_43 : decode cX10_areSo 43 = .ok (.invokevirtual 187, 3) := by decide +kernel
theorem dX10_areSo_46 : decode cX10_areSo 46 = .ok (.aload_n 0, 1) := by decide +kernel
theorem dX10_areSo_47 : decode cX10_areSo 47 = .ok (.getfield 68, 3) := by decide +kernel
theorem dX10_areSo_50 : decode cX10_areSo 50 = .ok (.iload_n 1, 1) := by decide +kernel
theorem dX10_areSo_51 : decode cX10_areSo 51 = .ok (.iaload, 1) := by decide +kernel
theorem dX10_areSo_52 : decode cX10_areSo 52 = .ok (.if_icmp .eq 5, 3) := by decide +kernel
theorem dX10_areSo_55 : decode cX10_areSo 55 = .ok (.iconst 0, 1) := by decide +kernel
theorem dX10_areSo_56 : decode cX10_areSo 56 = .ok (.ireturn, 1) := by decide +kernel
theorem dX10_areSo_57 : decode cX10_areSo 57 = .ok (.iinc 1 1, 3) := by decide +kernel
theorem dX10_areSo_60 : decode cX10_areSo 60 = .ok (.goto (-58), 3) := by decide +kernel
theorem dX10_areSo_63 : decode cX10_areSo 63 = .ok (.iconst 1, 1) := by decide +kernel
theorem dX10_areSo_64 : decode cX10_areSo 64 = .ok (.ireturn, 1) := by decide +kernel
def bk_X10_areSo_0 (l : Launch) (g : Gm) (G : Nat → CT) (P : PT) : CT := (oPush (.int (0)) (oISt 1 (G 1)))
def bk_X10_areSo_1 (l : Launch) (g : Gm) (G : Nat → CT) (P : PT) : CT := (oILd 1 (oALd 0 (oGet [10] 24 (oCmp (fun x y => y ≤ x) (oPush (.int (1)) (oZRet P)) (oPush (.int (0)) (oISt 2 (G 2)))))))
def bk_X10_areSo_2 (l : Launch) (g : Gm) (G : Nat → CT) (P : PT) : CT := (oILd 2 (oALd 0 (oGet [10] 5 (oCmp (fun x y => y ≤ x) (oALd 0 (oCallV l g [(10, d_X10_sumOf)] 1 (oALd 0 (oGet [10] 26 (oILd 1 (oIAL g (oCmp (fun x y => x = y) (oInc 1 (1) (oGo (G 1))) (oPush (.int (0)) (oZRet P))))))))) (oALd 0 (oGet [10] 21 (oILd 2 (oALd 0 (oGet [10] 25 (oPush (.int (4)) (oILd 1 (oBin (fun x y => x * y) (oILd 2 (oBin (fun x y => x + y) (oIAL g (oIAS g (oInc 2 (1) (oGo (G 2)))))))))))))))))))
def bk_X10_areSo (l : Launch) (g : Gm) (b : Nat) (G : Nat → CT) (P : PT) : CT := match b with
  | 0 => bk_X10_areSo_0 l g G P
  | 1 => bk_X10_areSo_1 l g G P
  | 2 => bk_X10_areSo_2 l g G P
  | _ => fun _ _ _ _ _ => False
def pc_X10_areSo (b : Nat) : Nat := match b with
  | 0 => 0
  | 1 => 2
  | 2 => 12
  | _ => 0
set_option maxRecDepth 100000 in
theorem sb_X10_areSo_0 {p : Program} {l : Launch} {e : Env} {s : State} {m : MethodId} {args : Array Value} {below : List Frame} {meth : Method} {c : Code} {g : Gm} {h0 : Hp} {P : PT} {mc ms : Nat} (X : Cx g p s m args meth c (Adom h0 s.heap.size) cX10_areSo RX10 3) (hr : meth.sig.returnType = some .boolean) (hn : meth.name = "areSo") : SX g p l e s m args below meth c d_X10_areSo 3 mc ms h0 P (bk_X10_areSo_0 l g (fun b => GX g p l e s m args below meth c d_X10_areSo 3 mc ms h0 P (pc_X10_areSo b)) P) 0 := (s_iconst X dX10_areSo_0 rfl (s_istore_n X dX10_areSo_1 rfl (by decide) Sd.rf))
set_option maxRecDepth 100000 in
theorem sb_X10_areSo_1 {p : Program} {l : Launch} {e : Env} {s : State} {m : MethodId} {args : Array Value} {below : List Frame} {meth : Method} {c : Code} {g : Gm} {h0 : Hp} {P : PT} {mc ms : Nat} (X : Cx g p s m args meth c (Adom h0 s.heap.size) cX10_areSo RX10 3) (hr : meth.sig.returnType = some .boolean) (hn : meth.name = "areSo") : SX g p l e s m args below meth c d_X10_areSo 3 mc ms h0 P (bk_X10_areSo_1 l g (fun b => GX g p l e s m args below meth c d_X10_areSo 3 mc ms h0 P (pc_X10_areSo b)) P) 2 := (s_iload_n X dX10_areSo_2 rfl (s_aload_n X dX10_areSo_3 rfl (s_get X dX10_areSo_4 (mcn (⟨_, _, _, _, rfl, inU_X10, by decide, uw_733, rfl⟩) (mnl)) (s_icmp_ge X dX10_areSo_7 (by decide) (s_iconst X dX10_areSo_63 rfl (s_zret X hr dX10_areSo_64)) (s_iconst X dX10_areSo_10 rfl (s_istore_n X dX10_areSo_11 rfl (by decide) Sd.rf))))))
set_option maxRecDepth 100000 in
theorem sb_X10_areSo_2 {p : Program} {l : Launch} {e : Env} {s : State} {m : MethodId} {args : Array Value} {below : List Frame} {meth : Method} {c : Code} {g : Gm} {h0 : Hp} {P : PT} {mc ms : Nat} (X : Cx g p s m args meth c (Adom h0 s.heap.size) cX10_areSo RX10 3) (hr : meth.sig.returnType = some .boolean) (hn : meth.name = "areSo") : SX g p l e s m args below meth c d_X10_areSo 3 mc ms h0 P (bk_X10_areSo_2 l g (fun b => GX g p l e s m args below meth c d_X10_areSo 3 mc ms h0 P (pc_X10_areSo b)) P) 12 := (s_iload_n X dX10_areSo_12 rfl (s_aload_n X dX10_areSo_13 rfl (s_get X dX10_areSo_14 (mcn (⟨_, _, _, _, rfl, inU_X10, by decide, uw_714, rfl⟩) (mnl)) (s_icmp_ge X dX10_areSo_17 (by decide) (s_aload_n X dX10_areSo_42 rfl (s_callV X dX10_areSo_43 (mv (vok_V X rfl uw_928 uw_930 (UW_pr 41 rfl rfl) uw_7 ci_X10_sumOf yok_X10_sumOf ⟨Nat.le_of_ble_eq_true rfl, Nat.le_of_ble_eq_true rfl⟩) mv0) (s_aload_n X dX10_areSo_46 rfl (s_get X dX10_areSo_47 (mcn (⟨_, _, _, _, rfl, inU_X10, by decide, uw_735, rfl⟩) (mnl)) (s_iload_n X dX10_areSo_50 rfl (s_iaload X dX10_areSo_51 (s_icmp_eq X dX10_areSo_52 (by decide) (s_iinc X dX10_areSo_57 rfl (by decide) (s_goto X dX10_areSo_60 (by decide) Sd.rf)) (s_iconst X dX10_areSo_55 rfl (s_zret X hr dX10_areSo_56))))))))) (s_aload_n X dX10_areSo_20 rfl (s_get X dX10_areSo_21 (mcn (⟨_, _, _, _, rfl, inU_X10, by decide, uw_730, rfl⟩) (mnl)) (s_iload_n X dX10_areSo_24 rfl (s_aload_n X dX10_areSo_25 rfl (s_get X dX10_areSo_26 (mcn (⟨_, _, _, _, rfl, inU_X10, by decide, uw_734, rfl⟩) (mnl)) (s_iconst X dX10_areSo_29 rfl (s_iload_n X dX10_areSo_30 rfl (s_imul X dX10_areSo_31 (s_iload_n X dX10_areSo_32 rfl (s_iadd X dX10_areSo_33 (s_iaload X dX10_areSo_34 (s_iastore X dX10_areSo_35 (s_iinc X dX10_areSo_36 rfl (by decide) (s_goto X dX10_areSo_39 (by decide) Sd.rf))))))))))))))))))
set_option maxRecDepth 100000 in
theorem vc_X10_areSo {l : Launch} {g : Gm} {a0 : Nat} {h : Hp} {mc ms : Nat} {P : PT} (H : ∀ G : Nat → CT, (∀ (b : Nat) (h : Hp) (cb sb : Nat) (ls : LocS) (st : List Value), bk_X10_areSo l g b G P h cb sb ls st → G b h cb sb ls st) → G 0 h mc ms [some (.ref a0), none, none] []) : Run l g d_X10_areSo [.ref a0] h mc ms P :=
  Run.of (d := d_X10_areSo) (by decide) (mcn rfl (mnl)) (Nat.le_of_ble_eq_true rfl) (fun p e s m args below meth c X hr hn => H (fun b => GX g p l e s m args below meth c d_X10_areSo 3 mc ms h P (pc_X10_areSo b)) (fun b h1 cb sb ls st hb => match b, hb with
    | 0, hb => sb_X10_areSo_0 (p := p) (e := e) (below := below) X hr hn h1 cb sb ls st hb
    | 1, hb => sb_X10_areSo_1 (p := p) (e := e) (below := below) X hr hn h1 cb sb ls st hb
    | 2, hb => sb_X10_areSo_2 (p := p) (e := e) (below := below) X hr hn h1 cb sb ls st hb
    | _ + 3, hb => hb.elim))
theorem dX10_kinds_0 : decode cX10_kinds 0 = .ok (.aload_n 0, 1) := by decide +kernel
theorem dX10_kinds_1 : decode cX10_kinds 1 = .ok (.iload_n 1, 1) := by decide +kernel
theorem dX10_kinds_2 : decode cX10_kinds 2 = .ok (.invokevirtual 84, 3) := by decide +kernel
theorem dX10_kinds_5 : decode cX10_kinds 5 = .ok (.ifCond .ne 5, 3) := by decide +kernel
theorem dX10_kinds_8 : decode cX10_kinds 8 = .ok (.iconst (-1), 1) := by decide +kernel
theorem dX10_kinds_9 : decode cX10_kinds 9 = .ok (.ireturn, 1) := by decide +kernel
theorem dX10_kinds_10 : decode cX10_kinds 10 = .ok (.aload_n 0, 1) := by decide +kernel
theorem dX10_kinds_11 : decode cX10_kinds 11 = .ok (.getfield 19, 3) := by decide +kernel
theorem dX10_kinds_14 : decode cX10_kinds 14 = .ok (.iload_n 1, 1) := by decide +kernel
theorem dX10_kinds_15 : decode cX10_kinds 15 = .ok (.iaload, 1) := by decide +kernel
theorem dX10_kinds_16 : decode cX10_kinds 16 = .ok (.istore_n 2, 1) := by decide +kernel
theorem dX10_kinds_17 : decode cX10_kinds 17 = .ok (.iconst 0, 1) := by decide +kernel
theorem dX10_kinds_18 : decode cX10_kinds 18 = .ok (.istore_n 3, 1) := by decide +kernel
theorem dX10_kinds_19 : decode cX10_kinds 19 = .ok (.iconst 0, 1) := by decide +kernel
theorem dX10_kinds_20 : decode cX10_kinds 20 = .ok (.istore 4, 2) := by decide +kernel
theorem dX10_kinds_22 : decode cX10_kinds 22 = .ok (.iload 4, 2) := by decide +kernel
theorem dX10_kinds_24 : decode cX10_kinds 24 = .ok (.iconst 3, 1) := by decide +kernel
theorem dX10_kinds_25 : decode cX10_kinds 25 = .ok (.if_icmp .ge 35, 3) := by decide +kernel
theorem dX10_kinds_28 : decode cX10_kinds 28 = .ok (.aload_n 0, 1) := by decide +kernel
theorem dX10_kinds_29 : decode cX10_kinds 29 = .ok (.getfield 19, 3) := by decide +kernel
theorem dX10_kinds_32 : decode cX10_kinds 32 = .ok (.iload_n 1, 1) := by decide +kernel
theorem dX10_kinds_33 : decode cX10_kinds 33 = .ok (.iload 4, 2) := by decide +kernel
theorem dX10_kinds_35 : decode cX10_kinds 35 = .ok (.iastore, 1) := by decide +kernel
theorem dX10_kinds_36 : decode cX10_kinds 36 = .ok (.iload_n 3, 1) := by decide +kernel
theorem dX10_kinds_37 : decode cX10_kinds 37 = .ok (.aload_n 0, 1) := by decide +kernel
theorem dX10_kinds_38 : decode cX10_kinds 38 = .ok (.invokevirtual 217, 3) := by decide +kernel
theorem dX10_kinds_41 : decode cX10_kinds 41 = .ok (.ifCond .eq 10, 3) := by decide +kernel
theorem dX10_kinds_44 : decode cX10_kinds 44 = .ok (.iconst 1, 1) := by decide +kernel
theorem dX10_kinds_45 : decode cX10_kinds 45 = .ok (.iload 4, 2) := by decide +kernel
theorem dX10_kinds_47 : decode cX10_kinds 47 = .ok (.ishl, 1) := by decide +kernel
theorem dX10_kinds_48 : decode cX10_kinds 48 = .ok (.goto 4, 3) := by decide +kernel
theorem dX10_kinds_51 : decode cX10_kinds 51 = .ok (.iconst 0, 1) := by decide +kernel
theorem dX10_kinds_52 : decode cX10_kinds 52 = .ok (.ior, 1) := by decide +kernel
theorem dX10_kinds_53 : decode cX10_kinds 53 = .ok (.istore_n 3, 1) := by decide +kernel
theorem dX10_kinds_54 : decode cX10_kinds 54 = .ok (.iinc 4 1, 3) := by decide +kernel
theorem dX10_kinds_57 : decode cX10_kinds 57 = .ok (.goto (-35), 3) := by decide +kernel
theorem dX10_kinds_60 : decode cX10_kinds 60 = .ok (.aload_n 0, 1) := by decide +kernel
theorem dX10_kinds_61 : decode cX10_kinds 61 = .ok (.getfield 19, 3) := by decide +kernel
theorem dX10_kinds_64 : decode cX10_kinds 64 = .ok (.iload_n 1, 1) := by decide +kernel
theorem dX10_kinds_65 : decode cX10_kinds 65 = .ok (.iload_n 2, 1) := by decide +kernel
theorem dX10_kinds_66 : decode cX10_kinds 66 = .ok (.iastore, 1) := by decide +kernel
theorem dX10_kinds_67 : decode cX10_kinds 67 = .ok (.iload_n 3, 1) := by decide +kernel
theorem dX10_kinds_68 : decode cX10_kinds 68 = .ok (.ireturn, 1) := by decide +kernel
def bk_X10_kinds_0 (l : Launch) (g : Gm) (G : Nat → CT) (P : PT) : CT := (oALd 0 (oILd 1 (oCallV l g [(10, d_X10_isVillage)] 2 (oIf (fun x => x = 0) (oPush (.int (-1)) (oIRet P)) (oALd 0 (oGet [10] 6 (oILd 1 (oIAL g (oISt 2 (oPush (.int (0)) (oISt 3 (oPush (.int (0)) (oISt 4 (G 1))))))))))))))
def bk_X10_kinds_1 (l : Launch) (g : Gm) (G : Nat → CT) (P : PT) : CT := (oILd 4 (oPush (.int (3)) (oCmp (fun x y => y ≤ x) (oALd 0 (oGet [10] 6 (oILd 1 (oILd 2 (oIAS g (oILd 3 (oIRet P))))))) (oALd 0 (oGet [10] 6 (oILd 1 (oILd 4 (oIAS g (oILd 3 (oALd 0 (oCallV l g [(10, d_X10_areSo)] 1 (oIf (fun x => x = 0) (oPush (.int (0)) (G 2)) (oPush (.int (1)) (oILd 4 (oBin (fun x y => x <<< (y &&& 31)) (oGo (G 2)))))))))))))))))
def bk_X10_kinds_2 (l : Launch) (g : Gm) (G : Nat → CT) (P : PT) : CT := (oBin (fun x y => x ||| y) (oISt 3 (oInc 4 (1) (oGo (G 1)))))
def bk_X10_kinds (l : Launch) (g : Gm) (b : Nat) (G : Nat → CT) (P : PT) : CT := match b with
  | 0 => bk_X10_kinds_0 l g G P
  | 1 => bk_X10_kinds_1 l g G P
  | 2 => bk_X10_kinds_2 l g G P
  | _ => fun _ _ _ _ _ => False
def pc_X10_kinds (b : Nat) : Nat := match b with
  | 0 => 0
  | 1 => 22
  | 2 => 52
  | _ => 0
set_option maxRecDepth 100000 in
theorem sb_X10_kinds_0 {p : Program} {l : Launch} {e : Env} {s : State} {m : MethodId} {args : Array Value} {below : List Frame} {meth : Method} {c : Code} {g : Gm} {h0 : Hp} {P : PT} {mc ms : Nat} (X : Cx g p s m args meth c (Adom h0 s.heap.size) cX10_kinds RX10 5) (hr : meth.sig.returnType = some .int) (hn : meth.name = "kinds") : SX g p l e s m args below meth c d_X10_kinds 5 mc ms h0 P (bk_X10_kinds_0 l g (fun b => GX g p l e s m args below meth c d_X10_kinds 5 mc ms h0 P (pc_X10_kinds b)) P) 0 := (s_aload_n X dX10_kinds_0 rfl (s_iload_n X dX10_kinds_1 rfl (s_callV X dX10_kinds_2 (mv (vok_V X rfl uw_864 uw_866 (UW_pr 30 rfl rfl) uw_7 ci_X10_isVillage yok_X10_isVillage ⟨Nat.le_of_ble_eq_true rfl, Nat.le_of_ble_eq_true rfl⟩) mv0) (s_if_ne X dX10_kinds_5 (by decide) (s_aload_n X dX10_kinds_10 rfl (s_get X dX10_kinds_11 (mcn (⟨_, _, _, _, rfl, inU_X10, by decide, uw_715, rfl⟩) (mnl)) (s_iload_n X dX10_kinds_14 rfl (s_iaload X dX10_kinds_15 (s_istore_n X dX10_kinds_16 rfl (by decide) (s_iconst X dX10_kinds_17 rfl (s_istore_n X dX10_kinds_18 rfl (by decide) (s_iconst X dX10_kinds_19 rfl (s_istore X dX10_kinds_20 (by decide) Sd.rf))))))))) (s_iconst X dX10_kinds_8 rfl (s_iret X hr dX10_kinds_9))))))
set_option maxRecDepth 100000 in
theorem sb_X10_kinds_1 {p : Program} {l : Launch} {e : Env} {s : State} {m : MethodId} {args : Array Value} {below : List Frame} {meth : Method} {c : Code} {g : Gm} {h0 : Hp} {P : PT} {mc ms : Nat} (X : Cx g p s m args meth c (Adom h0 s.heap.size) cX10_kinds RX10 5) (hr : meth.sig.returnType = some .int) (hn : meth.name = "kinds") : SX g p l e s m args below meth c d_X10_kinds 5 mc ms h0 P (bk_X10_kinds_1 l g (fun b => GX g p l e s m args below meth c d_X10_kinds 5 mc ms h0 P (pc_X10_kinds b)) P) 22 := (s_iload X dX10_kinds_22 (s_iconst X dX10_kinds_24 rfl (s_icmp_ge X dX10_kinds_25 (by decide) (s_aload_n X dX10_kinds_60 rfl (s_get X dX10_kinds_61 (mcn (⟨_, _, _, _, rfl, inU_X10, by decide, uw_715, rfl⟩) (mnl)) (s_iload_n X dX10_kinds_64 rfl (s_iload_n X dX10_kinds_65 rfl (s_iastore X dX10_kinds_66 (s_iload_n X dX10_kinds_67 rfl (s_iret X hr dX10_kinds_68))))))) (s_aload_n X dX10_kinds_28 rfl (s_get X dX10_kinds_29 (mcn (⟨_, _, _, _, rfl, inU_X10, by decide, uw_715, rfl⟩) (mnl)) (s_iload_n X dX10_kinds_32 rfl (s_iload X dX10_kinds_33 (s_iastore X dX10_kinds_35 (s_iload_n X dX10_kinds_36 rfl (s_aload_n X dX10_kinds_37 rfl (s_callV X dX10_kinds_38 (mv (vok_V X rfl uw_1009 uw_1011 (UW_pr 51 rfl rfl) uw_7 ci_X10_areSo yok_X10_areSo ⟨Nat.le_of_ble_eq_true rfl, Nat.le_of_ble_eq_true rfl⟩) mv0) (s_if_eq X dX10_kinds_41 (by decide) (s_iconst X dX10_kinds_51 rfl Sd.rf) (s_iconst X dX10_kinds_44 rfl (s_iload X dX10_kinds_45 (s_ishl X dX10_kinds_47 (s_goto X dX10_kinds_48 (by decide) Sd.rf))))))))))))))))
set_option maxRecDepth 100000 in
theorem sb_X10_kinds_2 {p : Program} {l : Launch} {e : Env} {s : State} {m : MethodId} {args : Array Value} {below : List Frame} {meth : Method} {c : Code} {g : Gm} {h0 : Hp} {P : PT} {mc ms : Nat} (X : Cx g p s m args meth c (Adom h0 s.heap.size) cX10_kinds RX10 5) (hr : meth.sig.returnType = some .int) (hn : meth.name = "kinds") : SX g p l e s m args below meth c d_X10_kinds 5 mc ms h0 P (bk_X10_kinds_2 l g (fun b => GX g p l e s m args below meth c d_X10_kinds 5 mc ms h0 P (pc_X10_kinds b)) P) 52 := (s_ior X dX10_kinds_52 (s_istore_n X dX10_kinds_53 rfl (by decide) (s_iinc X dX10_kinds_54 rfl (by decide) (s_goto X dX10_kinds_57 (by decide) Sd.rf))))
set_option maxRecDepth 100000 in
theorem vc_X10_kinds {l : Launch} {g : Gm} {a0 : Nat} {a1 : Int32} {h : Hp} {mc ms : Nat} {P : PT} (H : ∀ G : Nat → CT, (∀ (b : Nat) (h : Hp) (cb sb : Nat) (ls : LocS) (st : List Value), bk_X10_kinds l g b G P h cb sb ls st → G b h cb sb ls st) → G 0 h mc ms [some (.ref a0), some (.int a1), none, none, none] []) : Run l g d_X10_kinds [.ref a0, .int a1] h mc ms P :=
  Run.of (d := d_X10_kinds) (by decide) (mcn rfl (mcn rfl (mnl))) (Nat.le_of_ble_eq_true rfl) (fun p e s m args below meth c X hr hn => H (fun b => GX g p l e s m args below meth c d_X10_kinds 5 mc ms h P (pc_X10_kinds b)) (fun b h1 cb sb ls st hb => match b, hb with
    | 0, hb => sb_X10_kinds_0 (p := p) (e := e) (below := below) X hr hn h1 cb sb ls st hb
    | 1, hb => sb_X10_kinds_1 (p := p) (e := e) (below := below) X hr hn h1 cb sb ls st hb
    | 2, hb => sb_X10_kinds_2 (p := p) (e := e) (below := below) X hr hn h1 cb sb ls st hb
    | _ + 3, hb => hb.elim))
theorem dX10_odds_0 : decode cX10_odds 0 = .ok (.iload_n 1, 1) := by decide +kernel
theorem dX10_odds_1 : decode cX10_odds 1 = .ok (.iconst 0, 1) := by decide +kernel
theorem dX10_odds_2 : decode cX10_odds 2 = .ok (.bipush 99, 2) := by decide +kernel
theorem dX10_odds_4 : decode cX10_odds 4 = .ok (.invokestatic 77, 3) := by decide +kernel
theorem dX10_odds_7 : decode cX10_odds 7 = .ok (.ifCond .eq 19, 3) := by decide +kernel
theorem dX10_odds_10 : decode cX10_odds 10 = .ok (.iload_n 2, 1) := by decide +kernel
theorem dX10_odds_11 : decode cX10_odds 11 = .ok (.iconst 0, 1) := by decide +kernel
theorem dX10_odds_12 : decode cX10_odds 12 = .ok (.iconst 1, 1) := by decide +kernel
theorem dX10_odds_13 : decode cX10_odds 13 = .ok (.invokestatic 77, 3) := by decide +kernel
theorem dX10_odds_16 : decode cX10_odds 16 = .ok (.ifCond .eq 10, 3) := by decide +kernel
theorem dX10_odds_19 : decode cX10_odds 19 = .ok (.aload_n 0, 1) := by decide +kernel
theorem dX10_odds_20 : decode cX10_odds 20 = .ok (.getfield 81, 3) := by decide +kernel
theorem dX10_odds_23 : decode cX10_odds 23 = .ok (.ifCond .ne 7, 3) := by decide +kernel
theorem dX10_odds_26 : decode cX10_odds 26 = .ok (.ldc2_w 75, 3) := by decide +kernel
theorem dX10_odds_29 : decode cX10_odds 29 = .ok (.lreturn, 1) := by decide +kernel
theorem dX10_odds_30 : decode cX10_odds 30 = .ok (.iconst 0, 1) := by decide +kernel
theorem dX10_odds_31 : decode cX10_odds 31 = .ok (.istore_n 3, 1) := by decide +kernel
theorem dX10_odds_32 : decode cX10_odds 32 = .ok (.iconst 0, 1) := by decide +kernel
theorem dX10_odds_33 : decode cX10_odds 33 = .ok (.istore 4, 2) := by decide +kernel
theorem dX10_odds_35 : decode cX10_odds 35 = .ok (.iconst 0, 1) := by decide +kernel
theorem dX10_odds_36 : decode cX10_odds 36 = .ok (.istore 5, 2) := by decide +kernel
theorem dX10_odds_38 : decode cX10_odds 38 = .ok (.iload 5, 2) := by decide +kernel
theorem dX10_odds_40 : decode cX10_odds 40 = .ok (.sipush 1296, 3) := by decide +kernel
theorem dX10_odds_43 : decode cX10_odds 43 = .ok (.if_icmp .ge 39, 3) := by decide +kernel
theorem dX10_odds_46 : decode cX10_odds 46 = .ok (.aload_n 0, 1) := by decide +kernel
theorem dX10_odds_47 : decode cX10_odds 47 = .ok (.iload 5, 2) := by decide +kernel
theorem dX10_odds_49 : decode cX10_odds 49 = .ok (.invokevirtual 205, 3) := by decide +kernel
theorem dX10_odds_52 : decode cX10_odds 52 = .ok (.ifCond .eq 24, 3) := by decide +kernel
theorem dX10_odds_55 : decode cX10_odds 55 = .ok (.iinc 3 1, 3) := by decide +kernel
theorem dX10_odds_58 : decode cX10_odds 58 = .ok (.iload 4, 2) := by decide +kernel
theorem dX10_odds_60 : decode cX10_odds 60 = .ok (.aload_n 0, 1) := by decide +kernel
theorem dX10_odds_61 : decode cX10_odds 61 = .ok (.invokevirtual 187, 3) := by decide +kernel
theorem dX10_odds_64 : decode cX10_odds 64 = .ok (.iload_n 1, 1) := by decide +kernel
theorem dX10_odds_65 : decode cX10_odds 65 = .ok (.if_icmp .lt 7, 3) := by decide +kernel
theorem dX10_odds_68 : decode cX10_odds 68 = .ok (.iconst 1, 1) := by decide +kernel
theorem dX10_odds_69 : decode cX10_odds 69 = .ok (.goto 4, 3) := by decide +kernel
theorem dX10_odds_72 : decode cX10_odds 72 = .ok (.iconst 0, 1) := by decide +kernel
theorem dX10_odds_73 : decode cX10_odds 73 = .ok (.iadd, 1) := by decide +kernel
theorem dX10_odds_74 : decode cX10_odds 74 = .ok (.istore 4, 2) := by decide +kernel
theorem dX10_odds_76 : decode cX10_odds 76 = .ok (.iinc 5 1, 3) := by decide +kernel
theorem dX10_odds_79 : decode cX10_odds 79 = .ok (.goto (-41), 3) := by decide +kernel
theorem dX10_odds_82 : decode cX10_odds 82 = .ok (.iload 4, 2) := by decide +kernel
theorem dX10_odds_84 : decode cX10_odds 84 = .ok (.i2l, 1) := by decide +kernel
theorem dX10_odds_85 : decode cX10_odds 85 = .ok (.iload_n 3, 1) := by decide +kernel
theorem dX10_odds_86 : decode cX10_odds 86 = .ok (.i2l, 1) := by decide +kernel
theorem dX10_odds_87 : decode cX10_odds 87 = .ok (.iload_n 2, 1) := by decide +kernel
theorem dX10_odds_88 : decode cX10_odds 88 = .ok (.invokestatic 220, 3) := by decide +kernel
theorem dX10_odds_91 : decode cX10_odds 91 = .ok (.lreturn, 1) := by decide +kernel
def bk_X10_odds_0 (l : Launch) (g : Gm) (G : Nat → CT) (P : PT) : CT := (oILd 1 (oPush (.int (0)) (oPush (.int (99)) (oCall l g d_X10_within 3 (oIf (fun x => x = 0) (oPush (.long (-9223372036854775808)) (oJRet P)) (oILd 2 (oPush (.int (0)) (oPush (.int (1)) (oCall l g d_X10_within 3 (oIf (fun x => x = 0) (oPush (.long (-9223372036854775808)) (oJRet P)) (oALd 0 (oGet [10] 5 (oIf (fun x => x = 0) (oPush (.long (-9223372036854775808)) (oJRet P)) (oPush (.int (0)) (oISt 3 (oPush (.int (0)) (oISt 4 (oPush (.int (0)) (oISt 5 (G 1))))))))))))))))))))
def bk_X10_odds_1 (l : Launch) (g : Gm) (G : Nat → CT) (P : PT) : CT := (oILd 5 (oPush (.int (1296)) (oCmp (fun x y => y ≤ x) (oILd 4 (oI2L (oILd 3 (oI2L (oILd 2 (oCall l g d_X10_inLeastTerms 3 (oJRet P))))))) (oALd 0 (oILd 5 (oCallV l g [(10, d_X10_isCut)] 2 (oIf (fun x => x = 0) (oInc 5 (1) (oGo (G 1))) (oInc 3 (1) (oILd 4 (oALd 0 (oCallV l g [(10, d_X10_sumOf)] 1 (oILd 1 (oCmp (fun x y => x < y) (oPush (.int (0)) (oBin (fun x y => x + y) (oISt 4 (oInc 5 (1) (oGo (G 1)))))) (oPush (.int (1)) (oGo (oBin (fun x y => x + y) (oISt 4 (oInc 5 (1) (oGo (G 1))))))))))))))))))))
def bk_X10_odds (l : Launch) (g : Gm) (b : Nat) (G : Nat → CT) (P : PT) : CT := match b with
  | 0 => bk_X10_odds_0 l g G P
  | 1 => bk_X10_odds_1 l g G P
  | _ => fun _ _ _ _ _ => False
def pc_X10_odds (b : Nat) : Nat := match b with
  | 0 => 0
  | 1 => 38
  | _ => 0
set_option maxRecDepth 100000 in
theorem sb_X10_odds_0 {p : Program} {l : Launch} {e : Env} {s : State} {m : MethodId} {args : Array Value} {below : List Frame} {meth : Method} {c : Code} {g : Gm} {h0 : Hp} {P : PT} {mc ms : Nat} (X : Cx g p s m args meth c (Adom h0 s.heap.size) cX10_odds RX10 6) (hr : meth.sig.returnType = some .long) (hn : meth.name = "odds") : SX g p l e s m args below meth c d_X10_odds 6 mc ms h0 P (bk_X10_odds_0 l g (fun b => GX g p l e s m args below meth c d_X10_odds 6 mc ms h0 P (pc_X10_odds b)) P) 0 := (s_iload_n X dX10_odds_0 rfl (s_iconst X dX10_odds_1 rfl (s_bipush X dX10_odds_2 rfl (s_callS X dX10_odds_4 uw_798 uw_799 uw_7 ci_X10_within yok_X10_within ⟨Nat.le_of_ble_eq_true rfl, Nat.le_of_ble_eq_true rfl⟩ (s_if_eq X dX10_odds_7 (by decide) (s_ldc2 X dX10_odds_26 uw_972 (s_jret X hr dX10_odds_29)) (s_iload_n X dX10_odds_10 rfl (s_iconst X dX10_odds_11 rfl (s_iconst X dX10_odds_12 rfl (s_callS X dX10_odds_13 uw_798 uw_799 uw_7 ci_X10_within yok_X10_within ⟨Nat.le_of_ble_eq_true rfl, Nat.le_of_ble_eq_true rfl⟩ (s_if_eq X dX10_odds_16 (by decide) (s_ldc2 X dX10_odds_26 uw_972 (s_jret X hr dX10_odds_29)) (s_aload_n X dX10_odds_19 rfl (s_get X dX10_odds_20 (mcn (⟨_, _, _, _, rfl, inU_X10, by decide, uw_714, rfl⟩) (mnl)) (s_if_ne X dX10_odds_23 (by decide) (s_iconst X dX10_odds_30 rfl (s_istore_n X dX10_odds_31 rfl (by decide) (s_iconst X dX10_odds_32 rfl (s_istore X dX10_odds_33 (by decide) (s_iconst X dX10_odds_35 rfl (s_istore X dX10_odds_36 (by decide) Sd.rf)))))) (s_ldc2 X dX10_odds_26 uw_972 (s_jret X hr dX10_odds_29)))))))))))))))
set_option maxRecDepth 100000 in
theorem sb_X10_odds_1 {p : Program} {l : Launch} {e : Env} {s : State} {m : MethodId} {args : Array Value} {below : List Frame} {meth : Method} {c : Code} {g : Gm} {h0 : Hp} {P : PT} {mc ms : Nat} (X : Cx g p s m args meth c (Adom h0 s.heap.size) cX10_odds RX10 6) (hr : meth.sig.returnType = some .long) (hn : meth.name = "odds") : SX g p l e s m args below meth c d_X10_odds 6 mc ms h0 P (bk_X10_odds_1 l g (fun b => GX g p l e s m args below meth c d_X10_odds 6 mc ms h0 P (pc_X10_odds b)) P) 38 := (s_iload X dX10_odds_38 (s_sipush X dX10_odds_40 rfl (s_icmp_ge X dX10_odds_43 (by decide) (s_iload X dX10_odds_82 (s_i2l X dX10_odds_84 (s_iload_n X dX10_odds_85 rfl (s_i2l X dX10_odds_86 (s_iload_n X dX10_odds_87 rfl (s_callS X dX10_odds_88 uw_1017 uw_1018 uw_7 ci_X10_inLeastTerms yok_X10_inLeastTerms ⟨Nat.le_of_ble_eq_true rfl, Nat.le_of_ble_eq_true rfl⟩ (s_jret X hr dX10_odds_91))))))) (s_aload_n X dX10_odds_46 rfl (s_iload X dX10_odds_47 (s_callV X dX10_odds_49 (mv (vok_V X rfl uw_964 uw_966 (UW_pr 47 rfl rfl) uw_7 ci_X10_isCut yok_X10_isCut ⟨Nat.le_of_ble_eq_true rfl, Nat.le_of_ble_eq_true rfl⟩) mv0) (s_if_eq X dX10_odds_52 (by decide) (s_iinc X dX10_odds_76 rfl (by decide) (s_goto X dX10_odds_79 (by decide) Sd.rf)) (s_iinc X dX10_odds_55 rfl (by decide) (s_iload X dX10_odds_58 (s_aload_n X dX10_odds_60 rfl (s_callV X dX10_odds_61 (mv (vok_V X rfl uw_928 uw_930 (UW_pr 41 rfl rfl) uw_7 ci_X10_sumOf yok_X10_sumOf ⟨Nat.le_of_ble_eq_true rfl, Nat.le_of_ble_eq_true rfl⟩) mv0) (s_iload_n X dX10_odds_64 rfl (s_icmp_lt X dX10_odds_65 (by decide) (s_iconst X dX10_odds_72 rfl (s_iadd X dX10_odds_73 (s_istore X dX10_odds_74 (by decide) (s_iinc X dX10_odds_76 rfl (by decide) (s_goto X dX10_odds_79 (by decide) Sd.rf))))) (s_iconst X dX10_odds_68 rfl (s_goto X dX10_odds_69 (by decide) (s_iadd X dX10_odds_73 (s_istore X dX10_odds_74 (by decide) (s_iinc X dX10_odds_76 rfl (by decide) (s_goto X dX10_odds_79 (by decide) Sd.rf)))))))))))))))))))
set_option maxRecDepth 100000 in
theorem vc_X10_odds {l : Launch} {g : Gm} {a0 : Nat} {a1 : Int32} {a2 : Int32} {h : Hp} {mc ms : Nat} {P : PT} (H : ∀ G : Nat → CT, (∀ (b : Nat) (h : Hp) (cb sb : Nat) (ls : LocS) (st : List Value), bk_X10_odds l g b G P h cb sb ls st → G b h cb sb ls st) → G 0 h mc ms [some (.ref a0), some (.int a1), some (.int a2), none, none, none] []) : Run l g d_X10_odds [.ref a0, .int a1, .int a2] h mc ms P :=
  Run.of (d := d_X10_odds) (by decide) (mcn rfl (mcn rfl (mcn rfl (mnl)))) (Nat.le_of_ble_eq_true rfl) (fun p e s m args below meth c X hr hn => H (fun b => GX g p l e s m args below meth c d_X10_odds 6 mc ms h P (pc_X10_odds b)) (fun b h1 cb sb ls st hb => match b, hb with
    | 0, hb => sb_X10_odds_0 (p := p) (e := e) (below := below) X hr hn h1 cb sb ls st hb
    | 1, hb => sb_X10_odds_1 (p := p) (e := e) (below := below) X hr hn h1 cb sb ls st hb
    | _ + 2, hb => hb.elim))
theorem dX10_sheet_0 : decode cX10_sheet 0 = .ok (.aload_n 0, 1) := by decide +kernel
theorem dX10_sheet_1 : decode cX10_sheet 1 = .ok (.iconst 0, 1) := by decide +kernel
theorem dX10_sheet_2 : decode cX10_sheet 2 = .ok (.putfield 71, 3) := by decide +kernel
theorem dX10_sheet_5 : decode cX10_sheet 5 = .ok (.iload_n 1, 1) := by decide +kernel
theorem dX10_sheet_6 : decode cX10_sheet 6 = .ok (.invokestatic 91, 3) := by decide +kernel
theorem dX10_sheet_9 : decode cX10_sheet 9 = .ok (.ifCond .ne 5, 3) := by decide +kernel
theorem dX10_sheet_12 : decode cX10_sheet 12 = .ok (.iconst (-1), 1) := by decide +kernel
theorem dX10_sheet_13 : decode cX10_sheet 13 = .ok (.ireturn, 1) := by decide +kernel
theorem dX10_sheet_14 : decode cX10_sheet 14 = .ok (.iload_n 2, 1) := by decide +kernel
theorem dX10_sheet_15 : decode cX10_sheet 15 = .ok (.invokestatic 94, 3) := by decide +kernel
theorem dX10_sheet_18 : decode cX10_sheet 18 = .ok (.ifCond .eq 9, 3) := by decide +kernel
theorem dX10_sheet_21 : decode cX10_sheet 21 = .ok (.iload_n 3, 1) := by decide +kernel
theorem dX10_sheet_22 : decode cX10_sheet 22 = .ok (.bipush 60, 2) := by decide +kernel
theorem dX10_sheet_24 : decode cX10_sheet 24 = .ok (.if_icmp .le 6, 3) := by decide +kernel
theorem dX10_sheet_27 : decode cX10_sheet 27 = .ok (.bipush (-2), 2) := by decide +kernel
theorem dX10_sheet_29 : decode cX10_sheet 29 = .ok (.ireturn, 1) := by decide +kernel
theorem dX10_sheet_30 : decode cX10_sheet 30 = .ok (.iload_n 3, 1) := by decide +kernel
theorem dX10_sheet_31 : decode cX10_sheet 31 = .ok (.ifCond .ge 9, 3) := by decide +kernel
theorem dX10_sheet_34 : decode cX10_sheet 34 = .ok (.aload_n 0, 1) := by decide +kernel
theorem dX10_sheet_35 : decode cX10_sheet 35 = .ok (.iconst 4, 1) := by decide +kernel
theorem dX10_sheet_36 : decode cX10_sheet 36 = .ok (.invokevirtual 101, 3) := by decide +kernel
theorem dX10_sheet_39 : decode cX10_sheet 39 = .ok (.ireturn, 1) := by decide +kernel
theorem dX10_sheet_40 : decode cX10_sheet 40 = .ok (.aload_n 0, 1) := by decide +kernel
theorem dX10_sheet_41 : decode cX10_sheet 41 = .ok (.getfield 9, 3) := by decide +kernel
theorem dX10_sheet_44 : decode cX10_sheet 44 = .ok (.iload_n 1, 1) := by decide +kernel
theorem dX10_sheet_45 : decode cX10_sheet 45 = .ok (.iload_n 2, 1) := by decide +kernel
theorem dX10_sheet_46 : decode cX10_sheet 46 = .ok (.iastore, 1) := by decide +kernel
theorem dX10_sheet_47 : decode cX10_sheet 47 = .ok (.aload_n 0, 1) := by decide +kernel
theorem dX10_sheet_48 : decode cX10_sheet 48 = .ok (.getfield 13, 3) := by decide +kernel
theorem dX10_sheet_51 : decode cX10_sheet 51 = .ok (.iload_n 1, 1) := by decide +kernel
theorem dX10_sheet_52 : decode cX10_sheet 52 = .ok (.iload_n 3, 1) := by decide +kernel
theorem dX10_sheet_53 : decode cX10_sheet 53 = .ok (.iastore, 1) := by decide +kernel
theorem dX10_sheet_54 : decode cX10_sheet 54 = .ok (.iconst 0, 1) := by decide +kernel
theorem dX10_sheet_55 : decode cX10_sheet 55 = .ok (.istore 4, 2) := by decide +kernel
theorem dX10_sheet_57 : decode cX10_sheet 57 = .ok (.iload 4, 2) := by decide +kernel
theorem dX10_sheet_59 : decode cX10_sheet 59 = .ok (.bipush 60, 2) := by decide +kernel
theorem dX10_sheet_61 : decode cX10_sheet 61 = .ok (.if_icmp .ge 22, 3) := by decide +kernel
theorem dX10_sheet_64 : decode cX10_sheet 64 = .ok (.aload_n 0, 1) := by decide +kernel
theorem dX10_sheet_65 : decode cX10_sheet 65 = .ok (.getfield 16, 3) := by decide +kernel
theorem dX10_sheet_68 : decode cX10_sheet 68 = .ok (.bipush 60, 2) := by decide +kernel
theorem dX10_sheet_70 : decode cX10_sheet 70 = .ok (.iload_n 1, 1) := by decide +kernel
theorem dX10_sheet_71 : decode cX10_sheet 71 = .ok (.imul, 1) := by decide +kernel
theorem dX10_sheet_72 : decode cX10_sheet 72 = .ok (.iload 4, 2) := by decide +kernel
theorem dX10_sheet_74 : decode cX10_sheet 74 = .ok (.iadd, 1) := by decide +kernel
theorem dX10_sheet_75 : decode cX10_sheet 75 = .ok (.iconst 0, 1) := by decide +kernel
theorem dX10_sheet_76 : decode cX10_sheet 76 = .ok (.iastore, 1) := by decide +kernel
theorem dX10_sheet_77 : decode cX10_sheet 77 = .ok (.iinc 4 1, 3) := by decide +kernel
theorem dX10_sheet_80 : decode cX10_sheet 80 = .ok (.goto (-23), 3) := by decide +kernel
theorem dX10_sheet_83 : decode cX10_sheet 83 = .ok (.iconst 1, 1) := by decide +kernel
theorem dX10_sheet_84 : decode cX10_sheet 84 = .ok (.ireturn, 1) := by decide +kernel
def bk_X10_sheet_0 (l : Launch) (g : Gm) (G : Nat → CT) (P : PT) : CT := (oALd 0 (oPush (.int (0)) (oPutI [10] 0 (oILd 1 (oCall l g d_X10_isSheet 1 (oIf (fun x => x = 0) (oPush (.int (-1)) (oIRet P)) (oILd 2 (oCall l g d_X10_isSort 1 (oIf (fun x => x = 0) (oPush (.int (-2)) (oIRet P)) (oILd 3 (oPush (.int (60)) (oCmp (fun x y => x ≤ y) (oILd 3 (oIf (fun x => 0 ≤ x) (oALd 0 (oGet [10] 2 (oILd 1 (oILd 2 (oIAS g (oALd 0 (oGet [10] 3 (oILd 1 (oILd 3 (oIAS g (oPush (.int (0)) (oISt 4 (G 1))))))))))))) (oALd 0 (oPush (.int (4)) (oCallV l g [(10, d_X10_fails)] 2 (oIRet P)))))) (oPush (.int (-2)) (oIRet P))))))))))))))
def bk_X10_sheet_1 (l : Launch) (g : Gm) (G : Nat → CT) (P : PT) : CT := (oILd 4 (oPush (.int (60)) (oCmp (fun x y => y ≤ x) (oPush (.int (1)) (oIRet P)) (oALd 0 (oGet [10] 4 (oPush (.int (60)) (oILd 1 (oBin (fun x y => x * y) (oILd 4 (oBin (fun x y => x + y) (oPush (.int (0)) (oIAS g (oInc 4 (1) (oGo (G 1)))))))))))))))
def bk_X10_sheet (l : Launch) (g : Gm) (b : Nat) (G : Nat → CT) (P : PT) : CT := match b with
  | 0 => bk_X10_sheet_0 l g G P
  | 1 => bk_X10_sheet_1 l g G P
  | _ => fun _ _ _ _ _ => False
def pc_X10_sheet (b : Nat) : Nat := match b with
  | 0 => 0
  | 1 => 57
  | _ => 0
set_option maxRecDepth 100000 in
theorem sb_X10_sheet_0 {p : Program} {l : Launch} {e : Env} {s : State} {m : MethodId} {args : Array Value} {below : List Frame} {meth : Method} {c : Code} {g : Gm} {h0 : Hp} {P : PT} {mc ms : Nat} (X : Cx g p s m args meth c (Adom h0 s.heap.size) cX10_sheet RX10 5) (hr : meth.sig.returnType = some .int) (hn : meth.name = "sheet") : SX g p l e s m args below meth c d_X10_sheet 5 mc ms h0 P (bk_X10_sheet_0 l g (fun b => GX g p l e s m args below meth c d_X10_sheet 5 mc ms h0 P (pc_X10_sheet b)) P) 0 := (s_aload_n X dX10_sheet_0 rfl (s_iconst X dX10_sheet_1 rfl (s_putI X dX10_sheet_2 (mcn (⟨_, _, _, _, tyX10, rfl, inU_X10, by decide, uw_709, rfl, tyX10_ok, nmX10, rfl, rfl⟩) (mnl)) (s_iload_n X dX10_sheet_5 rfl (s_callS X dX10_sheet_6 uw_795 uw_796 uw_7 ci_X10_isSheet yok_X10_isSheet ⟨Nat.le_of_ble_eq_true rfl, Nat.le_of_ble_eq_true rfl⟩ (s_if_ne X dX10_sheet_9 (by decide) (s_iload_n X dX10_sheet_14 rfl (s_callS X dX10_sheet_15 uw_801 uw_802 uw_7 ci_X10_isSort yok_X10_isSort ⟨Nat.le_of_ble_eq_true rfl, Nat.le_of_ble_eq_true rfl⟩ (s_if_eq X dX10_sheet_18 (by decide) (s_bipush X dX10_sheet_27 rfl (s_iret X hr dX10_sheet_29)) (s_iload_n X dX10_sheet_21 rfl (s_bipush X dX10_sheet_22 rfl (s_icmp_le X dX10_sheet_24 (by decide) (s_iload_n X dX10_sheet_30 rfl (s_if_ge X dX10_sheet_31 (by decide) (s_aload_n X dX10_sheet_40 rfl (s_get X dX10_sheet_41 (mcn (⟨_, _, _, _, rfl, inU_X10, by decide, uw_711, rfl⟩) (mnl)) (s_iload_n X dX10_sheet_44 rfl (s_iload_n X dX10_sheet_45 rfl (s_iastore X dX10_sheet_46 (s_aload_n X dX10_sheet_47 rfl (s_get X dX10_sheet_48 (mcn (⟨_, _, _, _, rfl, inU_X10, by decide, uw_712, rfl⟩) (mnl)) (s_iload_n X dX10_sheet_51 rfl (s_iload_n X dX10_sheet_52 rfl (s_iastore X dX10_sheet_53 (s_iconst X dX10_sheet_54 rfl (s_istore X dX10_sheet_55 (by decide) Sd.rf)))))))))))) (s_aload_n X dX10_sheet_34 rfl (s_iconst X dX10_sheet_35 rfl (s_callV X dX10_sheet_36 (mv (vok_V X rfl uw_808 uw_810 (UW_pr 17 rfl rfl) uw_7 ci_X10_fails yok_X10_fails ⟨Nat.le_of_ble_eq_true rfl, Nat.le_of_ble_eq_true rfl⟩) mv0) (s_iret X hr dX10_sheet_39)))))) (s_bipush X dX10_sheet_27 rfl (s_iret X hr dX10_sheet_29)))))))) (s_iconst X dX10_sheet_12 rfl (s_iret X hr dX10_sheet_13))))))))
set_option maxRecDepth 100000 in
theorem sb_X10_sheet_1 {p : Program} {l : Launch} {e : Env} {s : State} {m : MethodId} {args : Array Value} {below : List Frame} {meth : Method} {c : Code} {g : Gm} {h0 : Hp} {P : PT} {mc ms : Nat} (X : Cx g p s m args meth c (Adom h0 s.heap.size) cX10_sheet RX10 5) (hr : meth.sig.returnType = some .int) (hn : meth.name = "sheet") : SX g p l e s m args below meth c d_X10_sheet 5 mc ms h0 P (bk_X10_sheet_1 l g (fun b => GX g p l e s m args below meth c d_X10_sheet 5 mc ms h0 P (pc_X10_sheet b)) P) 57 := (s_iload X dX10_sheet_57 (s_bipush X dX10_sheet_59 rfl (s_icmp_ge X dX10_sheet_61 (by decide) (s_iconst X dX10_sheet_83 rfl (s_iret X hr dX10_sheet_84)) (s_aload_n X dX10_sheet_64 rfl (s_get X dX10_sheet_65 (mcn (⟨_, _, _, _, rfl, inU_X10, by decide, uw_713, rfl⟩) (mnl)) (s_bipush X dX10_sheet_68 rfl (s_iload_n X dX10_sheet_70 rfl (s_imul X dX10_sheet_71 (s_iload X dX10_sheet_72 (s_iadd X dX10_sheet_74 (s_iconst X dX10_sheet_75 rfl (s_iastore X dX10_sheet_76 (s_iinc X dX10_sheet_77 rfl (by decide) (s_goto X dX10_sheet_80 (by decide) Sd.rf))))))))))))))
set_option maxRecDepth 100000 in
theorem vc_X10_sheet {l : Launch} {g : Gm} {a0 : Nat} {a1 : Int32} {a2 : Int32} {a3 : Int32} {h : Hp} {mc ms : Nat} {P : PT} (H : ∀ G : Nat → CT, (∀ (b : Nat) (h : Hp) (cb sb : Nat) (ls : LocS) (st : List Value), bk_X10_sheet l g b G P h cb sb ls st → G b h cb sb ls st) → G 0 h mc ms [some (.ref a0), some (.int a1), some (.int a2), some (.int a3), none] []) : Run l g d_X10_sheet [.ref a0, .int a1, .int a2, .int a3] h mc ms P :=
  Run.of (d := d_X10_sheet) (by decide) (mcn rfl (mcn rfl (mcn rfl (mcn rfl (mnl))))) (Nat.le_of_ble_eq_true rfl) (fun p e s m args below meth c X hr hn => H (fun b => GX g p l e s m args below meth c d_X10_sheet 5 mc ms h P (pc_X10_sheet b)) (fun b h1 cb sb ls st hb => match b, hb with
    | 0, hb => sb_X10_sheet_0 (p := p) (e := e) (below := below) X hr hn h1 cb sb ls st hb
    | 1, hb => sb_X10_sheet_1 (p := p) (e := e) (below := below) X hr hn h1 cb sb ls st hb
    | _ + 2, hb => hb.elim))
theorem dX10_lose_0 : decode cX10_lose 0 = .ok (.iload_n 1, 1) := by decide +kernel
theorem dX10_lose_1 : decode cX10_lose 1 = .ok (.invokestatic 91, 3) := by decide +kernel
theorem dX10_lose_4 : decode cX10_lose 4 = .ok (.ifCond .ne 5, 3) := by decide +kernel
theorem dX10_lose_7 : decode cX10_lose 7 = .ok (.iconst (-1), 1) := by decide +kernel
theorem dX10_lose_8 : decode cX10_lose 8 = .ok (.ireturn, 1) := by decide +kernel
theorem dX10_lose_9 : decode cX10_lose 9 = .ok (.aload_n 0, 1) := by decide +kernel
theorem dX10_lose_10 : decode cX10_lose 10 = .ok (.getfield 9, 3) := by decide +kernel
theorem dX10_lose_13 : decode cX10_lose 13 = .ok (.iload_n 1, 1) := by decide +kernel
theorem dX10_lose_14 : decode cX10_lose 14 = .ok (.iaload, 1) := by decide +kernel
theorem dX10_lose_15 : decode cX10_lose 15 = .ok (.bipush (-9), 2) := by decide +kernel
theorem dX10_lose_17 : decode cX10_lose 17 = .ok (.if_icmp .ne 7, 3) := by decide +kernel
theorem dX10_lose_20 : decode cX10_lose 20 = .ok (.iconst 0, 1) := by decide +kernel
theorem dX10_lose_21 : decode cX10_lose 21 = .ok (.goto 4, 3) := by decide +kernel
theorem dX10_lose_24 : decode cX10_lose 24 = .ok (.iconst 1, 1) := by decide +kernel
theorem dX10_lose_25 : decode cX10_lose 25 = .ok (.istore_n 2, 1) := by decide +kernel
theorem dX10_lose_26 : decode cX10_lose 26 = .ok (.aload_n 0, 1) := by decide +kernel
theorem dX10_lose_27 : decode cX10_lose 27 = .ok (.getfield 9, 3) := by decide +kernel
theorem dX10_lose_30 : decode cX10_lose 30 = .ok (.iload_n 1, 1) := by decide +kernel
theorem dX10_lose_31 : decode cX10_lose 31 = .ok (.bipush (-9), 2) := by decide +kernel
theorem dX10_lose_33 : decode cX10_lose 33 = .ok (.iastore, 1) := by decide +kernel
theorem dX10_lose_34 : decode cX10_lose 34 = .ok (.iload_n 2, 1) := by decide +kernel
theorem dX10_lose_35 : decode cX10_lose 35 = .ok (.ireturn, 1) := by decide +kernel
def bk_X10_lose_0 (l : Launch) (g : Gm) (G : Nat → CT) (P : PT) : CT := (oILd 1 (oCall l g d_X10_isSheet 1 (oIf (fun x => x = 0) (oPush (.int (-1)) (oIRet P)) (oALd 0 (oGet [10] 2 (oILd 1 (oIAL g (oPush (.int (-9)) (oCmp (fun x y => x = y) (oPush (.int (0)) (oGo (G 1))) (oPush (.int (1)) (G 1)))))))))))
def bk_X10_lose_1 (l : Launch) (g : Gm) (G : Nat → CT) (P : PT) : CT := (oISt 2 (oALd 0 (oGet [10] 2 (oILd 1 (oPush (.int (-9)) (oIAS g (oILd 2 (oIRet P))))))))
def bk_X10_lose (l : Launch) (g : Gm) (b : Nat) (G : Nat → CT) (P : PT) : CT := match b with
  | 0 => bk_X10_lose_0 l g G P
  | 1 => bk_X10_lose_1 l g G P
  | _ => fun _ _ _ _ _ => False
def pc_X10_lose (b : Nat) : Nat := match b with
  | 0 => 0
  | 1 => 25
  | _ => 0
set_option maxRecDepth 100000 in
theorem sb_X10_lose_0 {p : Program} {l : Launch} {e : Env} {s : State} {m : MethodId} {args : Array Value} {below : List Frame} {meth : Method} {c : Code} {g : Gm} {h0 : Hp} {P : PT} {mc ms : Nat} (X : Cx g p s m args meth c (Adom h0 s.heap.size) cX10_lose RX10 3) (hr : meth.sig.returnType = some .int) (hn : meth.name = "lose") : SX g p l e s m args below meth c d_X10_lose 3 mc ms h0 P (bk_X10_lose_0 l g (fun b => GX g p l e s m args below meth c d_X10_lose 3 mc ms h0 P (pc_X10_lose b)) P) 0 := (s_iload_n X dX10_lose_0 rfl (s_callS X dX10_lose_1 uw_795 uw_796 uw_7 ci_X10_isSheet yok_X10_isSheet ⟨Nat.le_of_ble_eq_true rfl, Nat.le_of_ble_eq_true rfl⟩ (s_if_ne X dX10_lose_4 (by decide) (s_aload_n X dX10_lose_9 rfl (s_get X dX10_lose_10 (mcn (⟨_, _, _, _, rfl, inU_X10, by decide, uw_711, rfl⟩) (mnl)) (s_iload_n X dX10_lose_13 rfl (s_iaload X dX10_lose_14 (s_bipush X dX10_lose_15 rfl (s_icmp_ne X dX10_lose_17 (by decide) (s_iconst X dX10_lose_24 rfl Sd.rf) (s_iconst X dX10_lose_20 rfl (s_goto X dX10_lose_21 (by decide) Sd.rf)))))))) (s_iconst X dX10_lose_7 rfl (s_iret X hr dX10_lose_8)))))
set_option maxRecDepth 100000 in
theorem sb_X10_lose_1 {p : Program} {l : Launch} {e : Env} {s : State} {m : MethodId} {args : Array Value} {below : List Frame} {meth : Method} {c : Code} {g : Gm} {h0 : Hp} {P : PT} {mc ms : Nat} (X : Cx g p s m args meth c (Adom h0 s.heap.size) cX10_lose RX10 3) (hr : meth.sig.returnType = some .int) (hn : meth.name = "lose") : SX g p l e s m args below meth c d_X10_lose 3 mc ms h0 P (bk_X10_lose_1 l g (fun b => GX g p l e s m args below meth c d_X10_lose 3 mc ms h0 P (pc_X10_lose b)) P) 25 := (s_istore_n X dX10_lose_25 rfl (by decide) (s_aload_n X dX10_lose_26 rfl (s_get X dX10_lose_27 (mcn (⟨_, _, _, _, rfl, inU_X10, by decide, uw_711, rfl⟩) (mnl)) (s_iload_n X dX10_lose_30 rfl (s_bipush X dX10_lose_31 rfl (s_iastore X dX10_lose_33 (s_iload_n X dX10_lose_34 rfl (s_iret X hr dX10_lose_35))))))))
set_option maxRecDepth 100000 in
theorem vc_X10_lose {l : Launch} {g : Gm} {a0 : Nat} {a1 : Int32} {h : Hp} {mc ms : Nat} {P : PT} (H : ∀ G : Nat → CT, (∀ (b : Nat) (h : Hp) (cb sb : Nat) (ls : LocS) (st : List Value), bk_X10_lose l g b G P h cb sb ls st → G b h cb sb ls st) → G 0 h mc ms [some (.ref a0), some (.int a1), none] []) : Run l g d_X10_lose [.ref a0, .int a1] h mc ms P :=
  Run.of (d := d_X10_lose) (by decide) (mcn rfl (mcn rfl (mnl))) (Nat.le_of_ble_eq_true rfl) (fun p e s m args below meth c X hr hn => H (fun b => GX g p l e s m args below meth c d_X10_lose 3 mc ms h P (pc_X10_lose b)) (fun b h1 cb sb ls st hb => match b, hb with
    | 0, hb => sb_X10_lose_0 (p := p) (e := e) (below := below) X hr hn h1 cb sb ls st hb
    | 1, hb => sb_X10_lose_1 (p := p) (e := e) (below := below) X hr hn h1 cb sb ls st hb
    | _ + 2, hb => hb.elim))
theorem dX10_put_0 : decode cX10_put 0 = .ok (.aload_n 0, 1) := by decide +kernel
theorem dX10_put_1 : decode cX10_put 1 = .ok (.iconst 0, 1) := by decide +kernel
theorem dX10_put_2 : decode cX10_put 2 = .ok (.putfield 71, 3) := by decide +kernel
theorem dX10_put_5 : decode cX10_put 5 = .ok (.iload_n 1, 1) := by decide +kernel
theorem dX10_put_6 : decode cX10_put 6 = .ok (.invokestatic 91, 3) := by decide +kernel
theorem dX10_put_9 : decode cX10_put 9 = .ok (.ifCond .ne 5, 3) := by decide +kernel
theorem dX10_put_12 : decode cX10_put 12 = .ok (.iconst (-1), 1) := by decide +kernel
theorem dX10_put_13 : decode cX10_put 13 = .ok (.ireturn, 1) := by decide +kernel
theorem dX10_put_14 : decode cX10_put 14 = .ok (.aload_n 0, 1) := by decide +kernel
theorem dX10_put_15 : decode cX10_put 15 = .ok (.getfield 9, 3) := by decide +kernel
theorem dX10_put_18 : decode cX10_put 18 = .ok (.iload_n 1, 1) := by decide +kernel
theorem dX10_put_19 : decode cX10_put 19 = .ok (.iaload, 1) := by decide +kernel
theorem dX10_put_20 : decode cX10_put 20 = .ok (.bipush (-9), 2) := by decide +kernel
theorem dX10_put_22 : decode cX10_put 22 = .ok (.if_icmp .ne 9, 3) := by decide +kernel
theorem dX10_put_25 : decode cX10_put 25 = .ok (.aload_n 0, 1) := by decide +kernel
theorem dX10_put_26 : decode cX10_put 26 = .ok (.iconst 1, 1) := by decide +kernel
theorem dX10_put_27 : decode cX10_put 27 = .ok (.invokevirtual 101, 3) := by decide +kernel
theorem dX10_put_30 : decode cX10_put 30 = .ok (.ireturn, 1) := by decide +kernel
theorem dX10_put_31 : decode cX10_put 31 = .ok (.iload_n 2, 1) := by decide +kernel
theorem dX10_put_32 : decode cX10_put 32 = .ok (.iconst 0, 1) := by decide +kernel
theorem dX10_put_33 : decode cX10_put 33 = .ok (.aload_n 0, 1) := by decide +kernel
theorem dX10_put_34 : decode cX10_put 34 = .ok (.getfield 13, 3) := by decide +kernel
theorem dX10_put_37 : decode cX10_put 37 = .ok (.iload_n 1, 1) := by decide +kernel
theorem dX10_put_38 : decode cX10_put 38 = .ok (.iaload, 1) := by decide +kernel
theorem dX10_put_39 : decode cX10_put 39 = .ok (.iconst 1, 1) := by decide +kernel
theorem dX10_put_40 : decode cX10_put 40 = .ok (.isub, 1) := by decide +kernel
theorem dX10_put_41 : decode cX10_put 41 = .ok (.invokestatic 77, 3) := by decide +kernel
theorem dX10_put_44 : decode cX10_put 44 = .ok (.ifCond .ne 9, 3) := by decide +kernel
theorem dX10_put_47 : decode cX10_put 47 = .ok (.aload_n 0, 1) := by decide +kernel
theorem dX10_put_48 : decode cX10_put 48 = .ok (.iconst 3, 1) := by decide +kernel
theorem dX10_put_49 : decode cX10_put 49 = .ok (.invokevirtual 101, 3) := by decide +kernel
theorem dX10_put_52 : decode cX10_put 52 = .ok (.ireturn, 1) := by decide +kernel
theorem dX10_put_53 : decode cX10_put 53 = .ok (.aload_n 0, 1) := by decide +kernel
theorem dX10_put_54 : decode cX10_put 54 = .ok (.getfield 16, 3) := by decide +kernel
theorem dX10_put_57 : decode cX10_put 57 = .ok (.bipush 60, 2) := by decide +kernel
theorem dX10_put_59 : decode cX10_put 59 = .ok (.iload_n 1, 1) := by decide +kernel
theorem dX10_put_60 : decode cX10_put 60 = .ok (.imul, 1) := by decide +kernel
theorem dX10_put_61 : decode cX10_put 61 = .ok (.iload_n 2, 1) := by decide +kernel
theorem dX10_put_62 : decode cX10_put 62 = .ok (.iadd, 1) := by decide +kernel
theorem dX10_put_63 : decode cX10_put 63 = .ok (.aload_n 0, 1) := by decide +kernel
theorem dX10_put_64 : decode cX10_put 64 = .ok (.getfield 9, 3) := by decide +kernel
theorem dX10_put_67 : decode cX10_put 67 = .ok (.iload_n 1, 1) := by decide +kernel
theorem dX10_put_68 : decode cX10_put 68 = .ok (.iaload, 1) := by decide +kernel
theorem dX10_put_69 : decode cX10_put 69 = .ok (.ifCond .ne 8, 3) := by decide +kernel
theorem dX10_put_72 : decode cX10_put 72 = .ok (.iload_n 3, 1) := by decide +kernel
theorem dX10_put_73 : decode cX10_put 73 = .ok (.i2b, 1) := by decide +kernel
theorem dX10_put_74 : decode cX10_put 74 = .ok (.goto 19, 3) := by decide +kernel
theorem dX10_put_77 : decode cX10_put 77 = .ok (.aload_n 0, 1) := by decide +kernel
theorem dX10_put_78 : decode cX10_put 78 = .ok (.getfield 9, 3) := by decide +kernel
theorem dX10_put_81 : decode cX10_put 81 = .ok (.iload_n 1, 1) := by decide +kernel
theorem dX10_put_82 : decode cX10_put 82 = .ok (.iaload, 1) := by decide +kernel
theorem dX10_put_83 : decode cX10_put 83 = .ok (.iconst 1, 1) := by decide +kernel
theorem dX10_put_84 : decode cX10_put 84 = .ok (.if_icmp .ne 8, 3) := by decide +kernel
theorem dX10_put_87 : decode cX10_put 87 = .ok (.iload_n 3, 1) := by decide +kernel
theorem dX10_put_88 : decode cX10_put 88 = .ok (.i2s, 1) := by decide +kernel
theorem dX10_put_89 : decode cX10_put 89 = .ok (.goto 4, 3) := by decide +kernel
theorem dX10_put_92 : decode cX10_put 92 = .ok (.iload_n 3, 1) := by decide +kernel
theorem dX10_put_93 : decode cX10_put 93 = .ok (.iastore, 1) := by decide +kernel
theorem dX10_put_94 : decode cX10_put 94 = .ok (.iconst 1, 1) := by decide +kernel
theorem dX10_put_95 : decode cX10_put 95 = .ok (.ireturn, 1) := by decide +kernel
def bk_X10_put_0 (l : Launch) (g : Gm) (G : Nat → CT) (P : PT) : CT := (oALd 0 (oPush (.int (0)) (oPutI [10] 0 (oILd 1 (oCall l g d_X10_isSheet 1 (oIf (fun x => x = 0) (oPush (.int (-1)) (oIRet P)) (oALd 0 (oGet [10] 2 (oILd 1 (oIAL g (oPush (.int (-9)) (oCmp (fun x y => x = y) (oALd 0 (oPush (.int (1)) (oCallV l g [(10, d_X10_fails)] 2 (oIRet P)))) (oILd 2 (oPush (.int (0)) (oALd 0 (oGet [10] 3 (oILd 1 (oIAL g (oPush (.int (1)) (oBin (fun x y => x - y) (oCall l g d_X10_within 3 (oIf (fun x => x = 0) (oALd 0 (oPush (.int (3)) (oCallV l g [(10, d_X10_fails)] 2 (oIRet P)))) (oALd 0 (oGet [10] 4 (oPush (.int (60)) (oILd 1 (oBin (fun x y => x * y) (oILd 2 (oBin (fun x y => x + y) (oALd 0 (oGet [10] 2 (oILd 1 (oIAL g (oIf (fun x => x = 0) (oILd 3 (oUn (fun x => x.toInt8.toInt32) (oGo (oIAS g (oPush (.int (1)) (oIRet P)))))) (oALd 0 (oGet [10] 2 (oILd 1 (oIAL g (oPush (.int (1)) (oCmp (fun x y => x = y) (oILd 3 (oUn (fun x => x.toInt16.toInt32) (oGo (oIAS g (oPush (.int (1)) (oIRet P)))))) (oILd 3 (oIAS g (oPush (.int (1)) (oIRet P))))))))))))))))))))))))))))))))))))))))))))
def bk_X10_put (l : Launch) (g : Gm) (b : Nat) (G : Nat → CT) (P : PT) : CT := match b with
  | 0 => bk_X10_put_0 l g G P
  | _ => fun _ _ _ _ _ => False
def pc_X10_put (b : Nat) : Nat := match b with
  | 0 => 0
  | _ => 0
set_option maxRecDepth 100000 in
theorem sb_X10_put_0 {p : Program} {l : Launch} {e : Env} {s : State} {m : MethodId} {args : Array Value} {below : List Frame} {meth : Method} {c : Code} {g : Gm} {h0 : Hp} {P : PT} {mc ms : Nat} (X : Cx g p s m args meth c (Adom h0 s.heap.size) cX10_put RX10 4) (hr : meth.sig.returnType = some .int) (hn : meth.name = "put") : SX g p l e s m args below meth c d_X10_put 4 mc ms h0 P (bk_X10_put_0 l g (fun b => GX g p l e s m args below meth c d_X10_put 4 mc ms h0 P (pc_X10_put b)) P) 0 := (s_aload_n X dX10_put_0 rfl (s_iconst X dX10_put_1 rfl (s_putI X dX10_put_2 (mcn (⟨_, _, _, _, tyX10, rfl, inU_X10, by decide, uw_709, rfl, tyX10_ok, nmX10, rfl, rfl⟩) (mnl)) (s_iload_n X dX10_put_5 rfl (s_callS X dX10_put_6 uw_795 uw_796 uw_7 ci_X10_isSheet yok_X10_isSheet ⟨Nat.le_of_ble_eq_true rfl, Nat.le_of_ble_eq_true rfl⟩ (s_if_ne X dX10_put_9 (by decide) (s_aload_n X dX10_put_14 rfl (s_get X dX10_put_15 (mcn (⟨_, _, _, _, rfl, inU_X10, by decide, uw_711, rfl⟩) (mnl)) (s_iload_n X dX10_put_18 rfl (s_iaload X dX10_put_19 (s_bipush X dX10_put_20 rfl (s_icmp_ne X dX10_put_22 (by decide) (s_iload_n X dX10_put_31 rfl (s_iconst X dX10_put_32 rfl (s_aload_n X dX10_put_33 rfl (s_get X dX10_put_34 (mcn (⟨_, _, _, _, rfl, inU_X10, by decide, uw_712, rfl⟩) (mnl)) (s_iload_n X dX10_put_37 rfl (s_iaload X dX10_put_38 (s_iconst X dX10_put_39 rfl (s_isub X dX10_put_40 (s_callS X dX10_put_41 uw_798 uw_799 uw_7 ci_X10_within yok_X10_within ⟨Nat.le_of_ble_eq_true rfl, Nat.le_of_ble_eq_true rfl⟩ (s_if_ne X dX10_put_44 (by decide) (s_aload_n X dX10_put_53 rfl (s_get X dX10_put_54 (mcn (⟨_, _, _, _, rfl, inU_X10, by decide, uw_713, rfl⟩) (mnl)) (s_bipush X dX10_put_57 rfl (s_iload_n X dX10_put_59 rfl (s_imul X dX10_put_60 (s_iload_n X dX10_put_61 rfl (s_iadd X dX10_put_62 (s_aload_n X dX10_put_63 rfl (s_get X dX10_put_64 (mcn (⟨_, _, _, _, rfl, inU_X10, by decide, uw_711, rfl⟩) (mnl)) (s_iload_n X dX10_put_67 rfl (s_iaload X dX10_put_68 (s_if_ne X dX10_put_69 (by decide) (s_aload_n X dX10_put_77 rfl (s_get X dX10_put_78 (mcn (⟨_, _, _, _, rfl, inU_X10, by decide, uw_711, rfl⟩) (mnl)) (s_iload_n X dX10_put_81 rfl (s_iaload X dX10_put_82 (s_iconst X dX10_put_83 rfl (s_icmp_ne X dX10_put_84 (by decide) (s_iload_n X dX10_put_92 rfl (s_iastore X dX10_put_93 (s_iconst X dX10_put_94 rfl (s_iret X hr dX10_put_95)))) (s_iload_n X dX10_put_87 rfl (s_i2s X dX10_put_88 (s_goto X dX10_put_89 (by decide) (s_iastore X dX10_put_93 (s_iconst X dX10_put_94 rfl (s_iret X hr dX10_put_95)))))))))))) (s_iload_n X dX10_put_72 rfl (s_i2b X dX10_put_73 (s_goto X dX10_put_74 (by decide) (s_iastore X dX10_put_93 (s_iconst X dX10_put_94 rfl (s_iret X hr dX10_put_95)))))))))))))))))) (s_aload_n X dX10_put_47 rfl (s_iconst X dX10_put_48 rfl (s_callV X dX10_put_49 (mv (vok_V X rfl uw_808 uw_810 (UW_pr 17 rfl rfl) uw_7 ci_X10_fails yok_X10_fails ⟨Nat.le_of_ble_eq_true rfl, Nat.le_of_ble_eq_true rfl⟩) mv0) (s_iret X hr dX10_put_52)))))))))))))) (s_aload_n X dX10_put_25 rfl (s_iconst X dX10_put_26 rfl (s_callV X dX10_put_27 (mv (vok_V X rfl uw_808 uw_810 (UW_pr 17 rfl rfl) uw_7 ci_X10_fails yok_X10_fails ⟨Nat.le_of_ble_eq_true rfl, Nat.le_of_ble_eq_true rfl⟩) mv0) (s_iret X hr dX10_put_30)))))))))) (s_iconst X dX10_put_12 rfl (s_iret X hr dX10_put_13))))))))
set_option maxRecDepth 100000 in
theorem vc_X10_put {l : Launch} {g : Gm} {a0 : Nat} {a1 : Int32} {a2 : Int32} {a3 : Int32} {h : Hp} {mc ms : Nat} {P : PT} (H : ∀ G : Nat → CT, (∀ (b : Nat) (h : Hp) (cb sb : Nat) (ls : LocS) (st : List Value), bk_X10_put l g b G P h cb sb ls st → G b h cb sb ls st) → G 0 h mc ms [some (.ref a0), some (.int a1), some (.int a2), some (.int a3)] []) : Run l g d_X10_put [.ref a0, .int a1, .int a2, .int a3] h mc ms P :=
  Run.of (d := d_X10_put) (by decide) (mcn rfl (mcn rfl (mcn rfl (mcn rfl (mnl))))) (Nat.le_of_ble_eq_true rfl) (fun p e s m args below meth c X hr hn => H (fun b => GX g p l e s m args below meth c d_X10_put 4 mc ms h P (pc_X10_put b)) (fun b h1 cb sb ls st hb => match b, hb with
    | 0, hb => sb_X10_put_0 (p := p) (e := e) (below := below) X hr hn h1 cb sb ls st hb
    | _ + 1, hb => hb.elim))
theorem dX10_cell_0 : decode cX10_cell 0 = .ok (.aload_n 0, 1) := by decide +kernel
theorem dX10_cell_1 : decode cX10_cell 1 = .ok (.iconst 0, 1) := by decide +kernel
theorem dX10_cell_2 : decode cX10_cell 2 = .ok (.putfield 71, 3) := by decide +kernel
theorem dX10_cell_5 : decode cX10_cell 5 = .ok (.iload_n 1, 1) := by decide +kernel
theorem dX10_cell_6 : decode cX10_cell 6 = .ok (.invokestatic 91, 3) := by decide +kernel
theorem dX10_cell_9 : decode cX10_cell 9 = .ok (.ifCond .eq 10, 3) := by decide +kernel
theorem dX10_cell_12 : decode cX10_cell 12 = .ok (.iload_n 3, 1) := by decide +kernel
theorem dX10_cell_13 : decode cX10_cell 13 = .ok (.invokestatic 94, 3) := by decide +kernel
theorem dX10_cell_16 : decode cX10_cell 16 = .ok (.ifCond .ne 7, 3) := by decide +kernel
theorem dX10_cell_19 : decode cX10_cell 19 = .ok (.ldc2_w 75, 3) := by decide +kernel
theorem dX10_cell_22 : decode cX10_cell 22 = .ok (.lreturn, 1) := by decide +kernel
theorem dX10_cell_23 : decode cX10_cell 23 = .ok (.aload_n 0, 1) := by decide +kernel
theorem dX10_cell_24 : decode cX10_cell 24 = .ok (.getfield 9, 3) := by decide +kernel
theorem dX10_cell_27 : decode cX10_cell 27 = .ok (.iload_n 1, 1) := by decide +kernel
theorem dX10_cell_28 : decode cX10_cell 28 = .ok (.iaload, 1) := by decide +kernel
theorem dX10_cell_29 : decode cX10_cell 29 = .ok (.bipush (-9), 2) := by decide +kernel
theorem dX10_cell_31 : decode cX10_cell 31 = .ok (.if_icmp .eq 19, 3) := by decide +kernel
theorem dX10_cell_34 : decode cX10_cell 34 = .ok (.aload_n 0, 1) := by decide +kernel
theorem dX10_cell_35 : decode cX10_cell 35 = .ok (.getfield 9, 3) := by decide +kernel
theorem dX10_cell_38 : decode cX10_cell 38 = .ok (.iload_n 1, 1) := by decide +kernel
theorem dX10_cell_39 : decode cX10_cell 39 = .ok (.iaload, 1) := by decide +kernel
theorem dX10_cell_40 : decode cX10_cell 40 = .ok (.iload_n 3, 1) := by decide +kernel
theorem dX10_cell_41 : decode cX10_cell 41 = .ok (.if_icmp .eq 9, 3) := by decide +kernel
theorem dX10_cell_44 : decode cX10_cell 44 = .ok (.aload_n 0, 1) := by decide +kernel
theorem dX10_cell_45 : decode cX10_cell 45 = .ok (.iconst 2, 1) := by decide +kernel
theorem dX10_cell_46 : decode cX10_cell 46 = .ok (.invokevirtual 224, 3) := by decide +kernel
theorem dX10_cell_49 : decode cX10_cell 49 = .ok (.lreturn, 1) := by decide +kernel
theorem dX10_cell_50 : decode cX10_cell 50 = .ok (.aload_n 0, 1) := by decide +kernel
theorem dX10_cell_51 : decode cX10_cell 51 = .ok (.getfield 9, 3) := by decide +kernel
theorem dX10_cell_54 : decode cX10_cell 54 = .ok (.iload_n 1, 1) := by decide +kernel
theorem dX10_cell_55 : decode cX10_cell 55 = .ok (.iaload, 1) := by decide +kernel
theorem dX10_cell_56 : decode cX10_cell 56 = .ok (.bipush (-9), 2) := by decide +kernel
theorem dX10_cell_58 : decode cX10_cell 58 = .ok (.if_icmp .ne 9, 3) := by decide +kernel
theorem dX10_cell_61 : decode cX10_cell 61 = .ok (.aload_n 0, 1) := by decide +kernel
theorem dX10_cell_62 : decode cX10_cell 62 = .ok (.iconst 1, 1) := by decide +kernel
theorem dX10_cell_63 : decode cX10_cell 63 = .ok (.invokevirtual 224, 3) := by decide +kernel
theorem dX10_cell_66 : decode cX10_cell 66 = .ok (.lreturn, 1) := by decide +kernel
theorem dX10_cell_67 : decode cX10_cell 67 = .ok (.iload_n 2, 1) := by decide +kernel
theorem dX10_cell_68 : decode cX10_cell 68 = .ok (.iconst 0, 1) := by decide +kernel
theorem dX10_cell_69 : decode cX10_cell 69 = .ok (.aload_n 0, 1) := by decide +kernel
theorem dX10_cell_70 : decode cX10_cell 70 = .ok (.getfield 13, 3) := by decide +kernel
theorem dX10_cell_73 : decode cX10_cell 73 = .ok (.iload_n 1, 1) := by decide +kernel
theorem dX10_cell_74 : decode cX10_cell 74 = .ok (.iaload, 1) := by decide +kernel
theorem dX10_cell_75 : decode cX10_cell 75 = .ok (.iconst 1, 1) := by decide +kernel
theorem dX10_cell_76 : decode cX10_cell 76 = .ok (.isub, 1) := by decide +kernel
theorem dX10_cell_77 : decode cX10_cell 77 = .ok (.invokestatic 77, 3) := by decide +kernel
theorem dX10_cell_80 : decode cX10_cell 80 = .ok (.ifCond .ne 9, 3) := by decide +kernel
theorem dX10_cell_83 : decode cX10_cell 83 = .ok (.aload_n 0, 1) := by decide +kernel
theorem dX10_cell_84 : decode cX10_cell 84 = .ok (.iconst 3, 1) := by decide +kernel
theorem dX10_cell_85 : decode cX10_cell 85 = .ok (.invokevirtual 224, 3) := by decide +kernel
theorem dX10_cell_88 : decode cX10_cell 88 = .ok (.lreturn, 1) := by decide +kernel
theorem dX10_cell_89 : decode cX10_cell 89 = .ok (.aload_n 0, 1) := by decide +kernel
theorem dX10_cell_90 : decode cX10_cell 90 = .ok (.getfield 16, 3) := by decide +kernel
theorem dX10_cell_93 : decode cX10_cell 93 = .ok (.bipush 60, 2) := by decide +kernel
theorem dX10_cell_95 : decode cX10_cell 95 = .ok (.iload_n 1, 1) := by decide +kernel
theorem dX10_cell_96 : decode cX10_cell 96 = .ok (.imul, 1) := by decide +kernel
theorem dX10_cell_97 : decode cX10_cell 97 = .ok (.iload_n 2, 1) := by decide +kernel
theorem dX10_cell_98 : decode cX10_cell 98 = .ok (.iadd, 1) := by decide +kernel
theorem dX10_cell_99 : decode cX10_cell 99 = .ok (.iaload, 1) := by decide +kernel
theorem dX10_cell_100 : decode cX10_cell 100 = .ok (.i2l, 1) := by decide +kernel
theorem dX10_cell_101 : decode cX10_cell 101 = .ok (.lreturn, 1) := by decide +kernel
def bk_X10_cell_0 (l : Launch) (g : Gm) (G : Nat → CT) (P : PT) : CT := (oALd 0 (oPush (.int (0)) (oPutI [10] 0 (oILd 1 (oCall l g d_X10_isSheet 1 (oIf (fun x => x = 0) (oPush (.long (-9223372036854775808)) (oJRet P)) (oILd 3 (oCall l g d_X10_isSort 1 (oIf (fun x => x = 0) (oPush (.long (-9223372036854775808)) (oJRet P)) (oALd 0 (oGet [10] 2 (oILd 1 (oIAL g (oPush (.int (-9)) (oCmp (fun x y => x = y) (G 1) (oALd 0 (oGet [10] 2 (oILd 1 (oIAL g (oILd 3 (oCmp (fun x y => x = y) (G 1) (oALd 0 (oPush (.int (2)) (oCallV l g [(10, d_X10_lost)] 2 (oJRet P)))))))))))))))))))))))))
def bk_X10_cell_1 (l : Launch) (g : Gm) (G : Nat → CT) (P : PT) : CT := (oALd 0 (oGet [10] 2 (oILd 1 (oIAL g (oPush (.int (-9)) (oCmp (fun x y => x = y) (oALd 0 (oPush (.int (1)) (oCallV l g [(10, d_X10_lost)] 2 (oJRet P)))) (oILd 2 (oPush (.int (0)) (oALd 0 (oGet [10] 3 (oILd 1 (oIAL g (oPush (.int (1)) (oBin (fun x y => x - y) (oCall l g d_X10_within 3 (oIf (fun x => x = 0) (oALd 0 (oPush (.int (3)) (oCallV l g [(10, d_X10_lost)] 2 (oJRet P)))) (oALd 0 (oGet [10] 4 (oPush (.int (60)) (oILd 1 (oBin (fun x y => x * y) (oILd 2 (oBin (fun x y => x + y) (oIAL g (oI2L (oJRet P))))))))))))))))))))))))))
def bk_X10_cell (l : Launch) (g : Gm) (b : Nat) (G : Nat → CT) (P : PT) : CT := match b with
  | 0 => bk_X10_cell_0 l g G P
  | 1 => bk_X10_cell_1 l g G P
  | _ => fun _ _ _ _ _ => False
def pc_X10_cell (b : Nat) : Nat := match b with
  | 0 => 0
  | 1 => 50
  | _ => 0
set_option maxRecDepth 100000 in
theorem sb_X10_cell_0 {p : Program} {l : Launch} {e : Env} {s : State} {m : MethodId} {args : Array Value} {below : List Frame} {meth : Method} {c : Code} {g : Gm} {h0 : Hp} {P : PT} {mc ms : Nat} (X : Cx g p s m args meth c (Adom h0 s.heap.size) cX10_cell RX10 4) (hr : meth.sig.returnType = some .long) (hn : meth.name = "cell") : SX g p l e s m args below meth c d_X10_cell 4 mc ms h0 P (bk_X10_cell_0 l g (fun b => GX g p l e s m args below meth c d_X10_cell 4 mc ms h0 P (pc_X10_cell b)) P) 0 := (s_aload_n X dX10_cell_0 rfl (s_iconst X dX10_cell_1 rfl (s_putI X dX10_cell_2 (mcn (⟨_, _, _, _, tyX10, rfl, inU_X10, by decide, uw_709, rfl, tyX10_ok, nmX10, rfl, rfl⟩) (mnl)) (s_iload_n X dX10_cell_5 rfl (s_callS X dX10_cell_6 uw_795 uw_796 uw_7 ci_X10_isSheet yok_X10_isSheet ⟨Nat.le_of_ble_eq_true rfl, Nat.le_of_ble_eq_true rfl⟩ (s_if_eq X dX10_cell_9 (by decide) (s_ldc2 X dX10_cell_19 uw_972 (s_jret X hr dX10_cell_22)) (s_iload_n X dX10_cell_12 rfl (s_callS X dX10_cell_13 uw_801 uw_802 uw_7 ci_X10_isSort yok_X10_isSort ⟨Nat.le_of_ble_eq_true rfl, Nat.le_of_ble_eq_true rfl⟩ (s_if_ne X dX10_cell_16 (by decide) (s_aload_n X dX10_cell_23 rfl (s_get X dX10_cell_24 (mcn (⟨_, _, _, _, rfl, inU_X10, by decide, uw_711, rfl⟩) (mnl)) (s_iload_n X dX10_cell_27 rfl (s_iaload X dX10_cell_28 (s_bipush X dX10_cell_29 rfl (s_icmp_eq X dX10_cell_31 (by decide) Sd.rf (s_aload_n X dX10_cell_34 rfl (s_get X dX10_cell_35 (mcn (⟨_, _, _, _, rfl, inU_X10, by decide, uw_711, rfl⟩) (mnl)) (s_iload_n X dX10_cell_38 rfl (s_iaload X dX10_cell_39 (s_iload_n X dX10_cell_40 rfl (s_icmp_eq X dX10_cell_41 (by decide) Sd.rf (s_aload_n X dX10_cell_44 rfl (s_iconst X dX10_cell_45 rfl (s_callV X dX10_cell_46 (mv (vok_V X rfl uw_1036 uw_1038 (UW_pr 52 rfl rfl) uw_7 ci_X10_lost yok_X10_lost ⟨Nat.le_of_ble_eq_true rfl, Nat.le_of_ble_eq_true rfl⟩) mv0) (s_jret X hr dX10_cell_49)))))))))))))))) (s_ldc2 X dX10_cell_19 uw_972 (s_jret X hr dX10_cell_22)))))))))))
set_option maxRecDepth 100000 in
theorem sb_X10_cell_1 {p : Program} {l : Launch} {e : Env} {s : State} {m : MethodId} {args : Array Value} {below : List Frame} {meth : Method} {c : Code} {g : Gm} {h0 : Hp} {P : PT} {mc ms : Nat} (X : Cx g p s m args meth c (Adom h0 s.heap.size) cX10_cell RX10 4) (hr : meth.sig.returnType = some .long) (hn : meth.name = "cell") : SX g p l e s m args below meth c d_X10_cell 4 mc ms h0 P (bk_X10_cell_1 l g (fun b => GX g p l e s m args below meth c d_X10_cell 4 mc ms h0 P (pc_X10_cell b)) P) 50 := (s_aload_n X dX10_cell_50 rfl (s_get X dX10_cell_51 (mcn (⟨_, _, _, _, rfl, inU_X10, by decide, uw_711, rfl⟩) (mnl)) (s_iload_n X dX10_cell_54 rfl (s_iaload X dX10_cell_55 (s_bipush X dX10_cell_56 rfl (s_icmp_ne X dX10_cell_58 (by decide) (s_iload_n X dX10_cell_67 rfl (s_iconst X dX10_cell_68 rfl (s_aload_n X dX10_cell_69 rfl (s_get X dX10_cell_70 (mcn (⟨_, _, _, _, rfl, inU_X10, by decide, uw_712, rfl⟩) (mnl)) (s_iload_n X dX10_cell_73 rfl (s_iaload X dX10_cell_74 (s_iconst X dX10_cell_75 rfl (s_isub X dX10_cell_76 (s_callS X dX10_cell_77 uw_798 uw_799 uw_7 ci_X10_within yok_X10_within ⟨Nat.le_of_ble_eq_true rfl, Nat.le_of_ble_eq_true rfl⟩ (s_if_ne X dX10_cell_80 (by decide) (s_aload_n X dX10_cell_89 rfl (s_get X dX10_cell_90 (mcn (⟨_, _, _, _, rfl, inU_X10, by decide, uw_713, rfl⟩) (mnl)) (s_bipush X dX10_cell_93 rfl (s_iload_n X dX10_cell_95 rfl (s_imul X dX10_cell_96 (s_iload_n X dX10_cell_97 rfl (s_iadd X dX10_cell_98 (s_iaload X dX10_cell_99 (s_i2l X dX10_cell_100 (s_jret X hr dX10_cell_101)))))))))) (s_aload_n X dX10_cell_83 rfl (s_iconst X dX10_cell_84 rfl (s_callV X dX10_cell_85 (mv (vok_V X rfl uw_1036 uw_1038 (UW_pr 52 rfl rfl) uw_7 ci_X10_lost yok_X10_lost ⟨Nat.le_of_ble_eq_true rfl, Nat.le_of_ble_eq_true rfl⟩) mv0) (s_jret X hr dX10_cell_88)))))))))))))) (s_aload_n X dX10_cell_61 rfl (s_iconst X dX10_cell_62 rfl (s_callV X dX10_cell_63 (mv (vok_V X rfl uw_1036 uw_1038 (UW_pr 52 rfl rfl) uw_7 ci_X10_lost yok_X10_lost ⟨Nat.le_of_ble_eq_true rfl, Nat.le_of_ble_eq_true rfl⟩) mv0) (s_jret X hr dX10_cell_66))))))))))
set_option maxRecDepth 100000 in
theorem vc_X10_cell {l : Launch} {g : Gm} {a0 : Nat} {a1 : Int32} {a2 : Int32} {a3 : Int32} {h : Hp} {mc ms : Nat} {P : PT} (H : ∀ G : Nat → CT, (∀ (b : Nat) (h : Hp) (cb sb : Nat) (ls : LocS) (st : List Value), bk_X10_cell l g b G P h cb sb ls st → G b h cb sb ls st) → G 0 h mc ms [some (.ref a0), some (.int a1), some (.int a2), some (.int a3)] []) : Run l g d_X10_cell [.ref a0, .int a1, .int a2, .int a3] h mc ms P :=
  Run.of (d := d_X10_cell) (by decide) (mcn rfl (mcn rfl (mcn rfl (mcn rfl (mnl))))) (Nat.le_of_ble_eq_true rfl) (fun p e s m args below meth c X hr hn => H (fun b => GX g p l e s m args below meth c d_X10_cell 4 mc ms h P (pc_X10_cell b)) (fun b h1 cb sb ls st hb => match b, hb with
    | 0, hb => sb_X10_cell_0 (p := p) (e := e) (below := below) X hr hn h1 cb sb ls st hb
    | 1, hb => sb_X10_cell_1 (p := p) (e := e) (below := below) X hr hn h1 cb sb ls st hb
    | _ + 2, hb => hb.elim))
theorem dX10_copy_0 : decode cX10_copy 0 = .ok (.aload_n 0, 1) := by decide +kernel
theorem dX10_copy_1 : decode cX10_copy 1 = .ok (.iconst 0, 1) := by decide +kernel
theorem dX10_copy_2 : decode cX10_copy 2 = .ok (.putfield 71, 3) := by decide +kernel
theorem dX10_copy_5 : decode cX10_copy 5 = .ok (.iload_n 1, 1) := by decide +kernel
theorem dX10_copy_6 : decode cX10_copy 6 = .ok (.invokestatic 91, 3) := by decide +kernel
theorem dX10_copy_9 : decode cX10_copy 9 = .ok (.ifCond .eq 10, 3) := by decide +kernel
theorem dX10_copy_12 : decode cX10_copy 12 = .ok (.iload_n 3, 1) := by decide +kernel
theorem dX10_copy_13 : decode cX10_copy 13 = .ok (.invokestatic 91, 3) := by decide +kernel
theorem dX10_copy_16 : decode cX10_copy 16 = .ok (.ifCond .ne 5, 3) := by decide +kernel
theorem dX10_copy_19 : decode cX10_copy 19 = .ok (.iconst (-1), 1) := by decide +kernel
theorem dX10_copy_20 : decode cX10_copy 20 = .ok (.ireturn, 1) := by decide +kernel
theorem dX10_copy_21 : decode cX10_copy 21 = .ok (.aload_n 0, 1) := by decide +kernel
theorem dX10_copy_22 : decode cX10_copy 22 = .ok (.getfield 9, 3) := by decide +kernel
theorem dX10_copy_25 : decode cX10_copy 25 = .ok (.iload_n 1, 1) := by decide +kernel
theorem dX10_copy_26 : decode cX10_copy 26 = .ok (.iaload, 1) := by decide +kernel
theorem dX10_copy_27 : decode cX10_copy 27 = .ok (.bipush (-9), 2) := by decide +kernel
theorem dX10_copy_29 : decode cX10_copy 29 = .ok (.if_icmp .eq 14, 3) := by decide +kernel
theorem dX10_copy_32 : decode cX10_copy 32 = .ok (.aload_n 0, 1) := by decide +kernel
theorem dX10_copy_33 : decode cX10_copy 33 = .ok (.getfield 9, 3) := by decide +kernel
theorem dX10_copy_36 : decode cX10_copy 36 = .ok (.iload_n 3, 1) := by decide +kernel
theorem dX10_copy_37 : decode cX10_copy 37 = .ok (.iaload, 1) := by decide +kernel
theorem dX10_copy_38 : decode cX10_copy 38 = .ok (.bipush (-9), 2) := by decide +kernel
theorem dX10_copy_40 : decode cX10_copy 40 = .ok (.if_icmp .ne 9, 3) := by decide +kernel
theorem dX10_copy_43 : decode cX10_copy 43 = .ok (.aload_n 0, 1) := by decide +kernel
theorem dX10_copy_44 : decode cX10_copy 44 = .ok (.iconst 1, 1) := by decide +kernel
theorem dX10_copy_45 : decode cX10_copy 45 = .ok (.invokevirtual 101, 3) := by decide +kernel
theorem dX10_copy_48 : decode cX10_copy 48 = .ok (.ireturn, 1) := by decide +kernel
theorem dX10_copy_49 : decode cX10_copy 49 = .ok (.aload_n 0, 1) := by decide +kernel
theorem dX10_copy_50 : decode cX10_copy 50 = .ok (.getfield 9, 3) := by decide +kernel
theorem dX10_copy_53 : decode cX10_copy 53 = .ok (.iload_n 1, 1) := by decide +kernel
theorem dX10_copy_54 : decode cX10_copy 54 = .ok (.iaload, 1) := by decide +kernel
theorem dX10_copy_55 : decode cX10_copy 55 = .ok (.aload_n 0, 1) := by decide +kernel
theorem dX10_copy_56 : decode cX10_copy 56 = .ok (.getfield 9, 3) := by decide +kernel
theorem dX10_copy_59 : decode cX10_copy 59 = .ok (.iload_n 3, 1) := by decide +kernel
theorem dX10_copy_60 : decode cX10_copy 60 = .ok (.iaload, 1) := by decide +kernel
theorem dX10_copy_61 : decode cX10_copy 61 = .ok (.if_icmp .eq 9, 3) := by decide +kernel
theorem dX10_copy_64 : decode cX10_copy 64 = .ok (.aload_n 0, 1) := by decide +kernel
theorem dX10_copy_65 : decode cX10_copy 65 = .ok (.iconst 2, 1) := by decide +kernel
theorem dX10_copy_66 : decode cX10_copy 66 = .ok (.invokevirtual 101, 3) := by decide +kernel
theorem dX10_copy_69 : decode cX10_copy 69 = .ok (.ireturn, 1) := by decide +kernel
theorem dX10_copy_70 : decode cX10_copy 70 = .ok (.iload_n 2, 1) := by decide +kernel
theorem dX10_copy_71 : decode cX10_copy 71 = .ok (.ifCond .lt 38, 3) := by decide +kernel
theorem dX10_copy_74 : decode cX10_copy 74 = .ok (.iload 4, 2) := by decide +kernel
theorem dX10_copy_76 : decode cX10_copy 76 = .ok (.ifCond .lt 33, 3) := by decide +kernel
theorem dX10_copy_79 : decode cX10_copy 79 = .ok (.iload 5, 2) := by decide +kernel
theorem dX10_copy_81 : decode cX10_copy 81 = .ok (.ifCond .lt 28, 3) := by decide +kernel
theorem dX10_copy_84 : decode cX10_copy 84 = .ok (.iload_n 2, 1) := by decide +kernel
theorem dX10_copy_85 : decode cX10_copy 85 = .ok (.aload_n 0, 1) := by decide +kernel
theorem dX10_copy_86 : decode cX10_copy 86 = .ok (.getfield 13, 3) := by decide +kernel
theorem dX10_copy_89 : decode cX10_copy 89 = .ok (.iload_n 1, 1) := by decide +kernel
theorem dX10_copy_90 : decode cX10_copy 90 = .ok (.iaload, 1) := by decide +kernel
theorem dX10_copy_91 : decode cX10_copy 91 = .ok (.if_icmp .gt 18, 3) := by decide +kernel
theorem dX10_copy_94 : decode cX10_copy 94 = .ok (.iload 4, 2) := by decide +kernel
theorem dX10_copy_96 : decode cX10_copy 96 = .ok (.aload_n 0, 1) := by decide +kernel
theorem dX10_copy_97 : decode cX10_copy 97 = .ok (.getfield 13, 3) := by decide +kernel
theorem dX10_copy_100 : decode cX10_copy 100 = .ok (.iload_n 3, 1) := by decide +kernel
theorem dX10_copy_101 : decode cX10_copy 101 = .ok (.iaload, 1) := by decide +kernel
theorem dX10_copy_102 : decode cX10_copy 102 = .ok (.if_icmp .gt 7, 3) := by decide +kernel
theorem dX10_copy_105 : decode cX10_copy 105 = .ok (.iconst 1, 1) := by decide +kernel
theorem dX10_copy_106 : decode cX10_copy 106 = .ok (.goto 4, 3) := by decide +kernel
theorem dX10_copy_109 : decode cX10_copy 109 = .ok (.iconst 0, 1) := by decide +kernel
theorem dX10_copy_110 : decode cX10_copy 110 = .ok (.istore 6, 2) := by decide +kernel
theorem dX10_copy_112 : decode cX10_copy 112 = .ok (.iload 6, 2) := by decide +kernel
theorem dX10_copy_114 : decode cX10_copy 114 = .ok (.ifCond .eq 30, 3) := by decide +kernel
theorem dX10_copy_117 : decode cX10_copy 117 = .ok (.iload 5, 2) := by decide +kernel
theorem dX10_copy_119 : decode cX10_copy 119 = .ok (.aload_n 0, 1) := by decide +kernel
theorem dX10_copy_120 : decode cX10_copy 120 = .ok (.getfield 13, 3) := by decide +kernel
theorem dX10_copy_123 : decode cX10_copy 123 = .ok (.iload_n 1, 1) := by decide +kernel
theorem dX10_copy_124 : decode cX10_copy 124 = .ok (.iaload, 1) := by decide +kernel
theorem dX10_copy_125 : decode cX10_copy 125 = .ok (.iload_n 2, 1) := by decide +kernel
theorem dX10_copy_126 : decode cX10_copy 126 = .ok (.isub, 1) := by decide +kernel
theorem dX10_copy_127 : decode cX10_copy 127 = .ok (.if_icmp .gt 17, 3) := by decide +kernel
theorem dX10_copy_130 : decode cX10_copy 130 = .ok (.iload 5, 2) := by decide +kernel
theorem dX10_copy_132 : decode cX10_copy 132 = .ok (.aload_n 0, 1) := by decide +kernel
theorem dX10_copy_133 : decode cX10_copy 133 = .ok (.getfield 13, 3) := by decide +kernel
theorem dX10_copy_136 : decode cX10_copy 136 = .ok (.iload_n 3, 1) := by decide +kernel
theorem dX10_copy_137 : decode cX10_copy 137 = .ok (.iaload, 1) := by decide +kernel
theorem dX10_copy_138 : decode cX10_copy 138 = .ok (.iload 4, 2) := by decide +kernel
theorem dX10_copy_140 : decode cX10_copy 140 = .ok (.isub, 1) := by decide +kernel
theorem dX10_copy_141 : decode cX10_copy 141 = .ok (.if_icmp .le 9, 3) := by decide +kernel
theorem dX10_copy_144 : decode cX10_copy 144 = .ok (.aload_n 0, 1) := by decide +kernel
theorem dX10_copy_145 : decode cX10_copy 145 = .ok (.iconst 3, 1) := by decide +kernel
theorem dX10_copy_146 : decode cX10_copy 146 = .ok (.invokevirtual 101, 3) := by decide +kernel
theorem dX10_copy_149 : decode cX10_copy 149 = .ok (.ireturn, 1) := by decide +kernel
theorem dX10_copy_150 : decode cX10_copy 150 = .ok (.iload_n 2, 1) := by decide +kernel
theorem dX10_copy_151 : decode cX10_copy 151 = .ok (.iload 4, 2) := by decide +kernel
theorem dX10_copy_153 : decode cX10_copy 153 = .ok (.if_icmp .ge 7, 3) := by decide +kernel
theorem dX10_copy_156 : decode cX10_copy 156 = .ok (.iconst 1, 1) := by decide +kernel
theorem dX10_copy_157 : decode cX10_copy 157 = .ok (.goto 4, 3) := by decide +kernel
theorem dX10_copy_160 : decode cX10_copy 160 = .ok (.iconst 0, 1) := by decide +kernel
theorem dX10_copy_161 : decode cX10_copy 161 = .ok (.istore 7, 2) := by decide +kernel
theorem dX10_copy_163 : decode cX10_copy 163 = .ok (.iconst 0, 1) := by decide +kernel
theorem dX10_copy_164 : decode cX10_copy 164 = .ok (.istore 8, 2) := by decide +kernel
theorem dX10_copy_166 : decode cX10_copy 166 = .ok (.iload 8, 2) := by decide +kernel
theorem dX10_copy_168 : decode cX10_copy 168 = .ok (.iload 5, 2) := by decide +kernel
theorem dX10_copy_170 : decode cX10_copy 170 = .ok (.if_icmp .ge 57, 3) := by decide +kernel
theorem dX10_copy_173 : decode cX10_copy 173 = .ok (.iload 7, 2) := by decide +kernel
theorem dX10_copy_175 : decode cX10_copy 175 = .ok (.ifCond .eq 13, 3) := by decide +kernel
theorem dX10_copy_178 : decode cX10_copy 178 = .ok (.iload 5, 2) := by decide +kernel
theorem dX10_copy_180 : decode cX10_copy 180 = .ok (.iconst 1, 1) := by decide +kernel
theorem dX10_copy_181 : decode cX10_copy 181 = .ok (.isub, 1) := by decide +kernel
theorem dX10_copy_182 : decode cX10_copy 182 = .ok (.iload 8, 2) := by decide +kernel
theorem dX10_copy_184 : decode cX10_copy 184 = .ok (.isub, 1) := by decide +kernel
theorem dX10_copy_185 : decode cX10_copy 185 = .ok (.goto 5, 3) := by decide +kernel
theorem dX10_copy_188 : decode cX10_copy 188 = .ok (.iload 8, 2) := by decide +kernel
theorem dX10_copy_190 : decode cX10_copy 190 = .ok (.istore 9, 2) := by decide +kernel
theorem dX10_copy_192 : decode cX10_copy 192 = .ok (.aload_n 0, 1) := by decide +kernel
theorem dX10_copy_193 : decode cX10_copy 193 = .ok (.getfield 16, 3) := by decide +kernel
theorem dX10_copy_196 : decode cX10_copy 196 = .ok (.bipush 60, 2) := by decide +kernel
theorem dX10_copy_198 : decode cX10_copy 198 = .ok (.iload_n 3, 1) := by decide +kernel
theorem dX10_copy_199 : decode cX10_copy 199 = .ok (.imul, 1) := by decide +kernel
theorem dX10_copy_200 : decode cX10_copy 200 = .ok (.iload 4, 2) := by decide +kernel
theorem dX10_copy_202 : decode cX10_copy 202 = .ok (.iadd, 1) := by decide +kernel
theorem dX10_copy_203 : decode cX10_copy 203 = .ok (.iload 9, 2) := by decide +kernel
theorem dX10_copy_205 : decode cX10_copy 205 = .ok (.iadd, 1) := by decide +kernel
theorem dX10_copy_206 : decode cX10_copy 206 = .ok (.aload_n 0, 1) := by decide +kernel
theorem dX10_copy_207 : decode cX10_copy 207 = .ok (.getfield 16, 3) := by decide +kernel
theorem dX10_copy_210 : decode cX10_copy 210 = .ok (.bipush 60, 2) := by decide +kernel
theorem dX10_copy_212 : decode cX10_copy 212 = .ok (.iload_n 1, 1) := by decide +kernel
theorem dX10_copy_213 : decode cX10_copy 213 = .ok (.imul, 1) := by decide +kernel
theorem dX10_copy_214 : decode cX10_copy 214 = .ok (.iload_n 2, 1) := by decide +kernel
theorem dX10_copy_215 : decode cX10_copy 215 = .ok (.iadd, 1) := by decide +kernel
theorem dX10_copy_216 : decode cX10_copy 216 = .ok (.iload 9, 2) := by decide +kernel
theorem dX10_copy_218 : decode cX10_copy 218 = .ok (.iadd, 1) := by decide +kernel
theorem dX10_copy_219 : decode cX10_copy 219 = .ok (.iaload, 1) := by decide +kernel
theorem dX10_copy_220 : decode cX10_copy 220 = .ok (.iastore, 1) := by decide +kernel
theorem dX10_copy_221 : decode cX10_copy 221 = .ok (.iinc 8 1, 3) := by decide +kernel
theorem dX10_copy_224 : decode cX10_copy 224 = .ok (.goto (-58), 3) := by decide +kernel
theorem dX10_copy_227 : decode cX10_copy 227 = .ok (.iload 5, 2) := by decide +kernel
theorem dX10_copy_229 : decode cX10_copy 229 = .ok (.ireturn, 1) := by decide +kernel
def bk_X10_copy_0 (l : Launch) (g : Gm) (G : Nat → CT) (P : PT) : CT := (oALd 0 (oPush (.int (0)) (oPutI [10] 0 (oILd 1 (oCall l g d_X10_isSheet 1 (oIf (fun x => x = 0) (oPush (.int (-1)) (oIRet P)) (oILd 3 (oCall l g d_X10_isSheet 1 (oIf (fun x => x = 0) (oPush (.int (-1)) (oIRet P)) (oALd 0 (oGet [10] 2 (oILd 1 (oIAL g (oPush (.int (-9)) (oCmp (fun x y => x = y) (oALd 0 (oPush (.int (1)) (oCallV l g [(10, d_X10_fails)] 2 (oIRet P)))) (oALd 0 (oGet [10] 2 (oILd 3 (oIAL g (oPush (.int (-9)) (oCmp (fun x y => x = y) (oALd 0 (oPush (.int (1)) (oCallV l g [(10, d_X10_fails)] 2 (oIRet P)))) (oALd 0 (oGet [10] 2 (oILd 1 (oIAL g (oALd 0 (oGet [10] 2 (oILd 3 (oIAL g (oCmp (fun x y => x = y) (oILd 2 (oIf (fun x => x < 0) (oPush (.int (0)) (G 1)) (oILd 4 (oIf (fun x => x < 0) (oPush (.int (0)) (G 1)) (oILd 5 (oIf (fun x => x < 0) (oPush (.int (0)) (G 1)) (oILd 2 (oALd 0 (oGet [10] 3 (oILd 1 (oIAL g (oCmp (fun x y => y < x) (oPush (.int (0)) (G 1)) (oILd 4 (oALd 0 (oGet [10] 3 (oILd 3 (oIAL g (oCmp (fun x y => y < x) (oPush (.int (0)) (G 1)) (oPush (.int (1)) (oGo (G 1))))))))))))))))))))) (oALd 0 (oPush (.int (2)) (oCallV l g [(10, d_X10_fails)] 2 (oIRet P))))))))))))))))))))))))))))))))))
def bk_X10_copy_1 (l : Launch) (g : Gm) (G : Nat → CT) (P : PT) : CT := (oISt 6 (oILd 6 (oIf (fun x => x = 0) (oALd 0 (oPush (.int (3)) (oCallV l g [(10, d_X10_fails)] 2 (oIRet P)))) (oILd 5 (oALd 0 (oGet [10] 3 (oILd 1 (oIAL g (oILd 2 (oBin (fun x y => x - y) (oCmp (fun x y => y < x) (oALd 0 (oPush (.int (3)) (oCallV l g [(10, d_X10_fails)] 2 (oIRet P)))) (oILd 5 (oALd 0 (oGet [10] 3 (oILd 3 (oIAL g (oILd 4 (oBin (fun x y => x - y) (oCmp (fun x y => x ≤ y) (oILd 2 (oILd 4 (oCmp (fun x y => y ≤ x) (oPush (.int (0)) (G 2)) (oPush (.int (1)) (oGo (G 2)))))) (oALd 0 (oPush (.int (3)) (oCallV l g [(10, d_X10_fails)] 2 (oIRet P)))))))))))))))))))))))
def bk_X10_copy_2 (l : Launch) (g : Gm) (G : Nat → CT) (P : PT) : CT := (oISt 7 (oPush (.int (0)) (oISt 8 (G 3))))
def bk_X10_copy_3 (l : Launch) (g : Gm) (G : Nat → CT) (P : PT) : CT := (oILd 8 (oILd 5 (oCmp (fun x y => y ≤ x) (oILd 5 (oIRet P)) (oILd 7 (oIf (fun x => x = 0) (oILd 8 (G 4)) (oILd 5 (oPush (.int (1)) (oBin (fun x y => x - y) (oILd 8 (oBin (fun x y => x - y) (oGo (G 4))))))))))))
def bk_X10_copy_4 (l : Launch) (g : Gm) (G : Nat → CT) (P : PT) : CT := (oISt 9 (oALd 0 (oGet [10] 4 (oPush (.int (60)) (oILd 3 (oBin (fun x y => x * y) (oILd 4 (oBin (fun x y => x + y) (oILd 9 (oBin (fun x y => x + y) (oALd 0 (oGet [10] 4 (oPush (.int (60)) (oILd 1 (oBin (fun x y => x * y) (oILd 2 (oBin (fun x y => x + y) (oILd 9 (oBin (fun x y => x + y) (oIAL g (oIAS g (oInc 8 (1) (oGo (G 3))))))))))))))))))))))))
def bk_X10_copy (l : Launch) (g : Gm) (b : Nat) (G : Nat → CT) (P : PT) : CT := match b with
  | 0 => bk_X10_copy_0 l g G P
  | 1 => bk_X10_copy_1 l g G P
  | 2 => bk_X10_copy_2 l g G P
  | 3 => bk_X10_copy_3 l g G P
  | 4 => bk_X10_copy_4 l g G P
  | _ => fun _ _ _ _ _ => False
def pc_X10_copy (b : Nat) : Nat := match b with
  | 0 => 0
  | 1 => 110
  | 2 => 161
  | 3 => 166
  | 4 => 190
  | _ => 0
set_option maxRecDepth 100000 in
theorem sb_X10_copy_0 {p : Program} {l : Launch} {e : Env} {s : State} {m : MethodId} {args : Array Value} {below : List Frame} {meth : Method} {c : Code} {g : Gm} {h0 : Hp} {P : PT} {mc ms : Nat} (X : Cx g p s m args meth c (Adom h0 s.heap.size) cX10_copy RX10 10) (hr : meth.sig.returnType = some .int) (hn : meth.name = "copy") : SX g p l e s m args below meth c d_X10_copy 10 mc ms h0 P (bk_X10_copy_0 l g (fun b => GX g p l e s m args below meth c d_X10_copy 10 mc ms h0 P (pc_X10_copy b)) P) 0 := (s_aload_n X dX10_copy_0 rfl (s_iconst X dX10_copy_1 rfl (s_putI X dX10_copy_2 (mcn (⟨_, _, _, _, tyX10, rfl, inU_X10, by decide, uw_709, rfl, tyX10_ok, nmX10, rfl, rfl⟩) (mnl)) (s_iload_n X dX10_copy_5 rfl (s_callS X dX10_copy_6 uw_795 uw_796 uw_7 ci_X10_isSheet yok_X10_isSheet ⟨Nat.le_of_ble_eq_true rfl, Nat.le_of_ble_eq_true rfl⟩ (s_if_eq X dX10_copy_9 (by decide) (s_iconst X dX10_copy_19 rfl (s_iret X hr dX10_copy_20)) (s_iload_n X dX10_copy_12 rfl (s_callS X dX10_copy_13 uw_795 uw_796 uw_7 ci_X10_isSheet yok_X10_isSheet ⟨Nat.le_of_ble_eq_true rfl, Nat.le_of_ble_eq_true rfl⟩ (s_if_ne X dX10_copy_16 (by decide) (s_aload_n X dX10_copy_21 rfl (s_get X dX10_copy_22 (mcn (⟨_, _, _, _, rfl, inU_X10, by decide, uw_711, rfl⟩) (mnl)) (s_iload_n X dX10_copy_25 rfl (s_iaload X dX10_copy_26 (s_bipush X dX10_copy_27 rfl (s_icmp_eq X dX10_copy_29 (by decide) (s_aload_n X dX10_copy_43 rfl (s_iconst X dX10_copy_44 rfl (s_callV X dX10_copy_45 (mv (vok_V X rfl uw_808 uw_810 (UW_pr 17 rfl rfl) uw_7 ci_X10_fails yok_X10_fails ⟨Nat.le_of_ble_eq_true rfl, Nat.le_of_ble_eq_true rfl⟩) mv0) (s_iret X hr dX10_copy_48)))) (s_aload_n X dX10_copy_32 rfl (s_get X dX10_copy_33 (mcn (⟨_, _, _, _, rfl, inU_X10, by decide, uw_711, rfl⟩) (mnl)) (s_iload_n X dX10_copy_36 rfl (s_iaload X dX10_copy_37 (s_bipush X dX10_copy_38 rfl (s_icmp_ne X dX10_copy_40 (by decide) (s_aload_n X dX10_copy_49 rfl (s_get X dX10_copy_50 (mcn (⟨_, _, _, _, rfl, inU_X10, by decide, uw_711, rfl⟩) (mnl)) (s_iload_n X dX10_copy_53 rfl (s_iaload X dX10_copy_54 (s_aload_n X dX10_copy_55 rfl (s_get X dX10_copy_56 (mcn (⟨_, _, _, _, rfl, inU_X10, by decide, uw_711, rfl⟩) (mnl)) (s_iload_n X dX10_copy_59 rfl (s_iaload X dX10_copy_60 (s_icmp_eq X dX10_copy_61 (by decide) (s_iload_n X dX10_copy_70 rfl (s_if_lt X dX10_copy_71 (by decide) (s_iconst X dX10_copy_109 rfl Sd.rf) (s_iload X dX10_copy_74 (s_if_lt X dX10_copy_76 (by decide) (s_iconst X dX10_copy_109 rfl Sd.rf) (s_iload X dX10_copy_79 (s_if_lt X dX10_copy_81 (by decide) (s_iconst X dX10_copy_109 rfl Sd.rf) (s_iload_n X dX10_copy_84 rfl (s_aload_n X dX10_copy_85 rfl (s_get X dX10_copy_86 (mcn (⟨_, _, _, _, rfl, inU_X10, by decide, uw_712, rfl⟩) (mnl)) (s_iload_n X dX10_copy_89 rfl (s_iaload X dX10_copy_90 (s_icmp_gt X dX10_copy_91 (by decide) (s_iconst X dX10_copy_109 rfl Sd.rf) (s_iload X dX10_copy_94 (s_aload_n X dX10_copy_96 rfl (s_get X dX10_copy_97 (mcn (⟨_, _, _, _, rfl, inU_X10, by decide, uw_712, rfl⟩) (mnl)) (s_iload_n X dX10_copy_100 rfl (s_iaload X dX10_copy_101 (s_icmp_gt X dX10_copy_102 (by decide) (s_iconst X dX10_copy_109 rfl Sd.rf) (s_iconst X dX10_copy_105 rfl (s_goto X dX10_copy_106 (by decide) Sd.rf)))))))))))))))))))) (s_aload_n X dX10_copy_64 rfl (s_iconst X dX10_copy_65 rfl (s_callV X dX10_copy_66 (mv (vok_V X rfl uw_808 uw_810 (UW_pr 17 rfl rfl) uw_7 ci_X10_fails yok_X10_fails ⟨Nat.le_of_ble_eq_true rfl, Nat.le_of_ble_eq_true rfl⟩) mv0) (s_iret X hr dX10_copy_69))))))))))))) (s_aload_n X dX10_copy_43 rfl (s_iconst X dX10_copy_44 rfl (s_callV X dX10_copy_45 (mv (vok_V X rfl uw_808 uw_810 (UW_pr 17 rfl rfl) uw_7 ci_X10_fails yok_X10_fails ⟨Nat.le_of_ble_eq_true rfl, Nat.le_of_ble_eq_true rfl⟩) mv0) (s_iret X hr dX10_copy_48)))))))))))))))) (s_iconst X dX10_copy_19 rfl (s_iret X hr dX10_copy_20)))))))))))
set_option maxRecDepth 100000 in
theorem sb_X10_copy_1 {p : Program} {l : Launch} {e : Env} {s : State} {m : MethodId} {args : Array Value} {below : List Frame} {meth : Method} {c : Code} {g : Gm} {h0 : Hp} {P : PT} {mc ms : Nat} (X : Cx g p s m args meth c (Adom h0 s.heap.size) cX10_copy RX10 10) (hr : meth.sig.returnType = some .int) (hn : meth.name = "copy") : SX g p l e s m args below meth c d_X10_copy 10 mc ms h0 P (bk_X10_copy_1 l g (fun b => GX g p l e s m args below meth c d_X10_copy 10 mc ms h0 P (pc_X10_copy b)) P) 110 := (s_istore X dX10_copy_110 (by decide) (s_iload X dX10_copy_112 (s_if_eq X dX10_copy_114 (by decide) (s_aload_n X dX10_copy_144 rfl (s_iconst X dX10_copy_145 rfl (s_callV X dX10_copy_146 (mv (vok_V X rfl uw_808 uw_810 (UW_pr 17 rfl rfl) uw_7 ci_X10_fails yok_X10_fails ⟨Nat.le_of_ble_eq_true rfl, Nat.le_of_ble_eq_true rfl⟩) mv0) (s_iret X hr dX10_copy_149)))) (s_iload X dX10_copy_117 (s_aload_n X dX10_copy_119 rfl (s_get X dX10_copy_120 (mcn (⟨_, _, _, _, rfl, inU_X10, by decide, uw_712, rfl⟩) (mnl)) (s_iload_n X dX10_copy_123 rfl (s_iaload X dX10_copy_124 (s_iload_n X dX10_copy_125 rfl (s_isub X dX10_copy_126 (s_icmp_gt X dX10_copy_127 (by decide) (s_aload_n X dX10_copy_144 rfl (s_iconst X dX10_copy_145 rfl (s_callV X dX10_copy_146 (mv (vok_V X rfl uw_808 uw_810 (UW_pr 17 rfl rfl) uw_7 ci_X10_fails yok_X10_fails ⟨Nat.le_of_ble_eq_true rfl, Nat.le_of_ble_eq_true rfl⟩) mv0) (s_iret X hr dX10_copy_149)))) (s_iload X dX10_copy_130 (s_aload_n X dX10_copy_132 rfl (s_get X dX10_copy_133 (mcn (⟨_, _, _, _, rfl, inU_X10, by decide, uw_712, rfl⟩) (mnl)) (s_iload_n X dX10_copy_136 rfl (s_iaload X dX10_copy_137 (s_iload X dX10_copy_138 (s_isub X dX10_copy_140 (s_icmp_le X dX10_copy_141 (by decide) (s_iload_n X dX10_copy_150 rfl (s_iload X dX10_copy_151 (s_icmp_ge X dX10_copy_153 (by decide) (s_iconst X dX10_copy_160 rfl Sd.rf) (s_iconst X dX10_copy_156 rfl (s_goto X dX10_copy_157 (by decide) Sd.rf))))) (s_aload_n X dX10_copy_144 rfl (s_iconst X dX10_copy_145 rfl (s_callV X dX10_copy_146 (mv (vok_V X rfl uw_808 uw_810 (UW_pr 17 rfl rfl) uw_7 ci_X10_fails yok_X10_fails ⟨Nat.le_of_ble_eq_true rfl, Nat.le_of_ble_eq_true rfl⟩) mv0) (s_iret X hr dX10_copy_149)))))))))))))))))))))))
set_option maxRecDepth 100000 in
theorem sb_X10_copy_2 {p : Program} {l : Launch} {e : Env} {s : State} {m : MethodId} {args : Array Value} {below : List Frame} {meth : Method} {c : Code} {g : Gm} {h0 : Hp} {P : PT} {mc ms : Nat} (X : Cx g p s m args meth c (Adom h0 s.heap.size) cX10_copy RX10 10) (hr : meth.sig.returnType = some .int) (hn : meth.name = "copy") : SX g p l e s m args below meth c d_X10_copy 10 mc ms h0 P (bk_X10_copy_2 l g (fun b => GX g p l e s m args below meth c d_X10_copy 10 mc ms h0 P (pc_X10_copy b)) P) 161 := (s_istore X dX10_copy_161 (by decide) (s_iconst X dX10_copy_163 rfl (s_istore X dX10_copy_164 (by decide) Sd.rf)))
set_option maxRecDepth 100000 in
theorem sb_X10_copy_3 {p : Program} {l : Launch} {e : Env} {s : State} {m : MethodId} {args : Array Value} {below : List Frame} {meth : Method} {c : Code} {g : Gm} {h0 : Hp} {P : PT} {mc ms : Nat} (X : Cx g p s m args meth c (Adom h0 s.heap.size) cX10_copy RX10 10) (hr : meth.sig.returnType = some .int) (hn : meth.name = "copy") : SX g p l e s m args below meth c d_X10_copy 10 mc ms h0 P (bk_X10_copy_3 l g (fun b => GX g p l e s m args below meth c d_X10_copy 10 mc ms h0 P (pc_X10_copy b)) P) 166 := (s_iload X dX10_copy_166 (s_iload X dX10_copy_168 (s_icmp_ge X dX10_copy_170 (by decide) (s_iload X dX10_copy_227 (s_iret X hr dX10_copy_229)) (s_iload X dX10_copy_173 (s_if_eq X dX10_copy_175 (by decide) (s_iload X dX10_copy_188 Sd.rf) (s_iload X dX10_copy_178 (s_iconst X dX10_copy_180 rfl (s_isub X dX10_copy_181 (s_iload X dX10_copy_182 (s_isub X dX10_copy_184 (s_goto X dX10_copy_185 (by decide) Sd.rf)))))))))))
set_option maxRecDepth 100000 in
theorem sb_X10_copy_4 {p : Program} {l : Launch} {e : Env} {s : State} {m : MethodId} {args : Array Value} {below : List Frame} {meth : Method} {c : Code} {g : Gm} {h0 : Hp} {P : PT} {mc ms : Nat} (X : Cx g p s m args meth c (Adom h0 s.heap.size) cX10_copy RX10 10) (hr : meth.sig.returnType = some .int) (hn : meth.name = "copy") : SX g p l e s m args below meth c d_X10_copy 10 mc ms h0 P (bk_X10_copy_4 l g (fun b => GX g p l e s m args below meth c d_X10_copy 10 mc ms h0 P (pc_X10_copy b)) P) 190 := (s_istore X dX10_copy_190 (by decide) (s_aload_n X dX10_copy_192 rfl (s_get X dX10_copy_193 (mcn (⟨_, _, _, _, rfl, inU_X10, by decide, uw_713, rfl⟩) (mnl)) (s_bipush X dX10_copy_196 rfl (s_iload_n X dX10_copy_198 rfl (s_imul X dX10_copy_199 (s_iload X dX10_copy_200 (s_iadd X dX10_copy_202 (s_iload X dX10_copy_203 (s_iadd X dX10_copy_205 (s_aload_n X dX10_copy_206 rfl (s_get X dX10_copy_207 (mcn (⟨_, _, _, _, rfl, inU_X10, by decide, uw_713, rfl⟩) (mnl)) (s_bipush X dX10_copy_210 rfl (s_iload_n X dX10_copy_212 rfl (s_imul X dX10_copy_213 (s_iload_n X dX10_copy_214 rfl (s_iadd X dX10_copy_215 (s_iload X dX10_copy_216 (s_iadd X dX10_copy_218 (s_iaload X dX10_copy_219 (s_iastore X dX10_copy_220 (s_iinc X dX10_copy_221 rfl (by decide) (s_goto X dX10_copy_224 (by decide) Sd.rf)))))))))))))))))))))))
set_option maxRecDepth 100000 in
theorem vc_X10_copy {l : Launch} {g : Gm} {a0 : Nat} {a1 : Int32} {a2 : Int32} {a3 : Int32} {a4 : Int32} {a5 : Int32} {h : Hp} {mc ms : Nat} {P : PT} (H : ∀ G : Nat → CT, (∀ (b : Nat) (h : Hp) (cb sb : Nat) (ls : LocS) (st : List Value), bk_X10_copy l g b G P h cb sb ls st → G b h cb sb ls st) → G 0 h mc ms [some (.ref a0), some (.int a1), some (.int a2), some (.int a3), some (.int a4), some (.int a5), none, none, none, none] []) : Run l g d_X10_copy [.ref a0, .int a1, .int a2, .int a3, .int a4, .int a5] h mc ms P :=
  Run.of (d := d_X10_copy) (by decide) (mcn rfl (mcn rfl (mcn rfl (mcn rfl (mcn rfl (mcn rfl (mnl))))))) (Nat.le_of_ble_eq_true rfl) (fun p e s m args below meth c X hr hn => H (fun b => GX g p l e s m args below meth c d_X10_copy 10 mc ms h P (pc_X10_copy b)) (fun b h1 cb sb ls st hb => match b, hb with
    | 0, hb => sb_X10_copy_0 (p := p) (e := e) (below := below) X hr hn h1 cb sb ls st hb
    | 1, hb => sb_X10_copy_1 (p := p) (e := e) (below := below) X hr hn h1 cb sb ls st hb
    | 2, hb => sb_X10_copy_2 (p := p) (e := e) (below := below) X hr hn h1 cb sb ls st hb
    | 3, hb => sb_X10_copy_3 (p := p) (e := e) (below := below) X hr hn h1 cb sb ls st hb
    | 4, hb => sb_X10_copy_4 (p := p) (e := e) (below := below) X hr hn h1 cb sb ls st hb
    | _ + 5, hb => hb.elim))
theorem dX10_begins_0 : decode cX10_begins 0 = .ok (.aload_n 0, 1) := by decide +kernel
theorem dX10_begins_1 : decode cX10_begins 1 = .ok (.bipush 31, 2) := by decide +kernel
theorem dX10_begins_3 : decode cX10_begins 3 = .ok (.aload_n 0, 1) := by decide +kernel
theorem dX10_begins_4 : decode cX10_begins 4 = .ok (.getfield 228, 3) := by decide +kernel
theorem dX10_begins_7 : decode cX10_begins 7 = .ok (.imul, 1) := by decide +kernel
theorem dX10_begins_8 : decode cX10_begins 8 = .ok (.iload_n 1, 1) := by decide +kernel
theorem dX10_begins_9 : decode cX10_begins 9 = .ok (.iadd, 1) := by decide +kernel
theorem dX10_begins_10 : decode cX10_begins 10 = .ok (.putfield 228, 3) := by decide +kernel
theorem dX10_begins_13 : decode cX10_begins 13 = .ok (.return_, 1) := by decide +kernel
def bk_X10_begins_0 (l : Launch) (g : Gm) (G : Nat → CT) (P : PT) : CT := (oALd 0 (oPush (.int (31)) (oALd 0 (oGet [10] 1 (oBin (fun x y => x * y) (oILd 1 (oBin (fun x y => x + y) (oPutI [10] 1 (oVRet P)))))))))
def bk_X10_begins (l : Launch) (g : Gm) (b : Nat) (G : Nat → CT) (P : PT) : CT := match b with
  | 0 => bk_X10_begins_0 l g G P
  | _ => fun _ _ _ _ _ => False
def pc_X10_begins (b : Nat) : Nat := match b with
  | 0 => 0
  | _ => 0
set_option maxRecDepth 100000 in
theorem sb_X10_begins_0 {p : Program} {l : Launch} {e : Env} {s : State} {m : MethodId} {args : Array Value} {below : List Frame} {meth : Method} {c : Code} {g : Gm} {h0 : Hp} {P : PT} {mc ms : Nat} (X : Cx g p s m args meth c (Adom h0 s.heap.size) cX10_begins RX10 2) (hr : meth.sig.returnType = none) (hn : meth.name = "begins") : SX g p l e s m args below meth c d_X10_begins 2 mc ms h0 P (bk_X10_begins_0 l g (fun b => GX g p l e s m args below meth c d_X10_begins 2 mc ms h0 P (pc_X10_begins b)) P) 0 := (s_aload_n X dX10_begins_0 rfl (s_bipush X dX10_begins_1 rfl (s_aload_n X dX10_begins_3 rfl (s_get X dX10_begins_4 (mcn (⟨_, _, _, _, rfl, inU_X10, by decide, uw_710, rfl⟩) (mnl)) (s_imul X dX10_begins_7 (s_iload_n X dX10_begins_8 rfl (s_iadd X dX10_begins_9 (s_putI X dX10_begins_10 (mcn (⟨_, _, _, _, tyX10, rfl, inU_X10, by decide, uw_710, rfl, tyX10_ok, nmX10, rfl, rfl⟩) (mnl)) (s_vret X hr dX10_begins_13)))))))))
set_option maxRecDepth 100000 in
theorem vc_X10_begins {l : Launch} {g : Gm} {a0 : Nat} {a1 : Int32} {h : Hp} {mc ms : Nat} {P : PT} (H : ∀ G : Nat → CT, (∀ (b : Nat) (h : Hp) (cb sb : Nat) (ls : LocS) (st : List Value), bk_X10_begins l g b G P h cb sb ls st → G b h cb sb ls st) → G 0 h mc ms [some (.ref a0), some (.int a1)] []) : Run l g d_X10_begins [.ref a0, .int a1] h mc ms P :=
  Run.of (d := d_X10_begins) (by decide) (mcn rfl (mcn rfl (mnl))) (Nat.le_of_ble_eq_true rfl) (fun p e s m args below meth c X hr hn => H (fun b => GX g p l e s m args below meth c d_X10_begins 2 mc ms h P (pc_X10_begins b)) (fun b h1 cb sb ls st hb => match b, hb with
    | 0, hb => sb_X10_begins_0 (p := p) (e := e) (below := below) X hr hn h1 cb sb ls st hb
    | _ + 1, hb => hb.elim))
theorem dX10_tell_0 : decode cX10_tell 0 = .ok (.aload_n 0, 1) := by decide +kernel
theorem dX10_tell_1 : decode cX10_tell 1 = .ok (.iload_n 1, 1) := by decide +kernel
theorem dX10_tell_2 : decode cX10_tell 2 = .ok (.invokevirtual 84, 3) := by decide +kernel
theorem dX10_tell_5 : decode cX10_tell 5 = .ok (.ifCond .ne 5, 3) := by decide +kernel
theorem dX10_tell_8 : decode cX10_tell 8 = .ok (.iconst (-1), 1) := by decide +kernel
theorem dX10_tell_9 : decode cX10_tell 9 = .ok (.ireturn, 1) := by decide +kernel
theorem dX10_tell_10 : decode cX10_tell 10 = .ok (.aload_n 0, 1) := by decide +kernel
theorem dX10_tell_11 : decode cX10_tell 11 = .ok (.invokevirtual 165, 3) := by decide +kernel
theorem dX10_tell_14 : decode cX10_tell 14 = .ok (.aload_n 0, 1) := by decide +kernel
theorem dX10_tell_15 : decode cX10_tell 15 = .ok (.iload_n 1, 1) := by decide +kernel
theorem dX10_tell_16 : decode cX10_tell 16 = .ok (.invokevirtual 152, 3) := by decide +kernel
theorem dX10_tell_19 : decode cX10_tell 19 = .ok (.istore_n 2, 1) := by decide +kernel
theorem dX10_tell_20 : decode cX10_tell 20 = .ok (.aload_n 0, 1) := by decide +kernel
theorem dX10_tell_21 : decode cX10_tell 21 = .ok (.getfield 19, 3) := by decide +kernel
theorem dX10_tell_24 : decode cX10_tell 24 = .ok (.iload_n 1, 1) := by decide +kernel
theorem dX10_tell_25 : decode cX10_tell 25 = .ok (.iaload, 1) := by decide +kernel
theorem dX10_tell_26 : decode cX10_tell 26 = .ok (.lookupswitch 68 #[(1, 26), (2, 41)], 26) := by decide +kernel
theorem dX10_tell_52 : decode cX10_tell 52 = .ok (.aload_n 0, 1) := by decide +kernel
theorem dX10_tell_53 : decode cX10_tell 53 = .ok (.iconst 2, 1) := by decide +kernel
theorem dX10_tell_54 : decode cX10_tell 54 = .ok (.invokevirtual 231, 3) := by decide +kernel
theorem dX10_tell_57 : decode cX10_tell 57 = .ok (.aload_n 0, 1) := by decide +kernel
theorem dX10_tell_58 : decode cX10_tell 58 = .ok (.iconst 1, 1) := by decide +kernel
theorem dX10_tell_59 : decode cX10_tell 59 = .ok (.invokevirtual 231, 3) := by decide +kernel
theorem dX10_tell_62 : decode cX10_tell 62 = .ok (.iload_n 2, 1) := by decide +kernel
theorem dX10_tell_63 : decode cX10_tell 63 = .ok (.bipush 100, 2) := by decide +kernel
theorem dX10_tell_65 : decode cX10_tell 65 = .ok (.iadd, 1) := by decide +kernel
theorem dX10_tell_66 : decode cX10_tell 66 = .ok (.ireturn, 1) := by decide +kernel
theorem dX10_tell_67 : decode cX10_tell 67 = .ok (.aload_n 0, 1) := by decide +kernel
theorem dX10_tell_68 : decode cX10_tell 68 = .ok (.iconst 3, 1) := by decide +kernel
theorem dX10_tell_69 : decode cX10_tell 69 = .ok (.invokevirtual 231, 3) := by decide +kernel
theorem dX10_tell_72 : decode cX10_tell 72 = .ok (.aload_n 0, 1) := by decide +kernel
theorem dX10_tell_73 : decode cX10_tell 73 = .ok (.iconst 2, 1) := by decide +kernel
theorem dX10_tell_74 : decode cX10_tell 74 = .ok (.invokevirtual 231, 3) := by decide +kernel
theorem dX10_tell_77 : decode cX10_tell 77 = .ok (.aload_n 0, 1) := by decide +kernel
theorem dX10_tell_78 : decode cX10_tell 78 = .ok (.iconst 1, 1) := by decide +kernel
theorem dX10_tell_79 : decode cX10_tell 79 = .ok (.invokevirtual 231, 3) := by decide +kernel
theorem dX10_tell_82 : decode cX10_tell 82 = .ok (.aload_n 0, 1) := by decide +kernel
theorem dX10_tell_83 : decode cX10_tell 83 = .ok (.iconst 1, 1) := by decide +kernel
theorem dX10_tell_84 : decode cX10_tell 84 = .ok (.invokevirtual 231, 3) := by decide +kernel
theorem dX10_tell_87 : decode cX10_tell 87 = .ok (.iconst 2, 1) := by decide +kernel
theorem dX10_tell_88 : decode cX10_tell 88 = .ok (.iload_n 2, 1) := by decide +kernel
theorem dX10_tell_89 : decode cX10_tell 89 = .ok (.imul, 1) := by decide +kernel
theorem dX10_tell_90 : decode cX10_tell 90 = .ok (.bipush 100, 2) := by decide +kernel
theorem dX10_tell_92 : decode cX10_tell 92 = .ok (.iadd, 1) := by decide +kernel
theorem dX10_tell_93 : decode cX10_tell 93 = .ok (.ireturn, 1) := by decide +kernel
theorem dX10_tell_94 : decode cX10_tell 94 = .ok (.aload_n 0, 1) := by decide +kernel
theorem dX10_tell_95 : decode cX10_tell 95 = .ok (.iconst 1, 1) := by decide +kernel
theorem dX10_tell_96 : decode cX10_tell 96 = .ok (.invokevirtual 231, 3) := by decide +kernel
theorem dX10_tell_99 : decode cX10_tell 99 = .ok (.iload_n 2, 1) := by decide +kernel
theorem dX10_tell_100 : decode cX10_tell 100 = .ok (.ireturn, 1) := by decide +kernel
def bk_X10_tell_0 (l : Launch) (g : Gm) (G : Nat → CT) (P : PT) : CT := (oALd 0 (oILd 1 (oCallV l g [(10, d_X10_isVillage)] 2 (oIf (fun x => x = 0) (oPush (.int (-1)) (oIRet P)) (oALd 0 (oCallV l g [(10, d_X10_takeNow)] 1 (oALd 0 (oILd 1 (oCallV l g [(10, d_X10_valueOf)] 2 (oISt 2 (oALd 0 (oGet [10] 6 (oILd 1 (oIAL g (oSw [(1, (oALd 0 (oPush (.int (2)) (oCallV l g [(10, d_X10_begins)] 2 (oALd 0 (oPush (.int (1)) (oCallV l g [(10, d_X10_begins)] 2 (oILd 2 (oPush (.int (100)) (oBin (fun x y => x + y) (oIRet P))))))))))), (2, (oALd 0 (oPush (.int (3)) (oCallV l g [(10, d_X10_begins)] 2 (oALd 0 (oPush (.int (2)) (oCallV l g [(10, d_X10_begins)] 2 (oALd 0 (oPush (.int (1)) (oCallV l g [(10, d_X10_begins)] 2 (oALd 0 (oPush (.int (1)) (oCallV l g [(10, d_X10_begins)] 2 (oPush (.int (2)) (oILd 2 (oBin (fun x y => x * y) (oPush (.int (100)) (oBin (fun x y => x + y) (oIRet P)))))))))))))))))))] (oALd 0 (oPush (.int (1)) (oCallV l g [(10, d_X10_begins)] 2 (oILd 2 (oIRet P))))))))))))))))))))
def bk_X10_tell (l : Launch) (g : Gm) (b : Nat) (G : Nat → CT) (P : PT) : CT := match b with
  | 0 => bk_X10_tell_0 l g G P
  | _ => fun _ _ _ _ _ => False
def pc_X10_tell (b : Nat) : Nat := match b with
  | 0 => 0
  | _ => 0
set_option maxRecDepth 100000 in
theorem sb_X10_tell_0 {p : Program} {l : Launch} {e : Env} {s : State} {m : MethodId} {args : Array Value} {below : List Frame} {meth : Method} {c : Code} {g : Gm} {h0 : Hp} {P : PT} {mc ms : Nat} (X : Cx g p s m args meth c (Adom h0 s.heap.size) cX10_tell RX10 3) (hr : meth.sig.returnType = some .int) (hn : meth.name = "tell") : SX g p l e s m args below meth c d_X10_tell 3 mc ms h0 P (bk_X10_tell_0 l g (fun b => GX g p l e s m args below meth c d_X10_tell 3 mc ms h0 P (pc_X10_tell b)) P) 0 := (s_aload_n X dX10_tell_0 rfl (s_iload_n X dX10_tell_1 rfl (s_callV X dX10_tell_2 (mv (vok_V X rfl uw_864 uw_866 (UW_pr 30 rfl rfl) uw_7 ci_X10_isVillage yok_X10_isVillage ⟨Nat.le_of_ble_eq_true rfl, Nat.le_of_ble_eq_true rfl⟩) mv0) (s_if_ne X dX10_tell_5 (by decide) (s_aload_n X dX10_tell_10 rfl (s_callV X dX10_tell_11 (mv (vok_V X rfl uw_868 uw_870 (UW_pr 31 rfl rfl) uw_7 ci_X10_takeNow yok_X10_takeNow ⟨Nat.le_of_ble_eq_true rfl, Nat.le_of_ble_eq_true rfl⟩) mv0) (s_aload_n X dX10_tell_14 rfl (s_iload_n X dX10_tell_15 rfl (s_callV X dX10_tell_16 (mv (vok_V X rfl uw_872 uw_874 (UW_pr 32 rfl rfl) uw_7 ci_X10_valueOf yok_X10_valueOf ⟨Nat.le_of_ble_eq_true rfl, Nat.le_of_ble_eq_true rfl⟩) mv0) (s_istore_n X dX10_tell_19 rfl (by decide) (s_aload_n X dX10_tell_20 rfl (s_get X dX10_tell_21 (mcn (⟨_, _, _, _, rfl, inU_X10, by decide, uw_715, rfl⟩) (mnl)) (s_iload_n X dX10_tell_24 rfl (s_iaload X dX10_tell_25 (s_lsw X dX10_tell_26 (by decide) (by decide) ⟨⟨rfl, 52, by decide, (s_aload_n X dX10_tell_52 rfl (s_iconst X dX10_tell_53 rfl (s_callV X dX10_tell_54 (mv (vok_V X rfl uw_1048 uw_1050 (UW_pr 53 rfl rfl) uw_7 ci_X10_begins yok_X10_begins ⟨Nat.le_of_ble_eq_true rfl, Nat.le_of_ble_eq_true rfl⟩) mv0) (s_aload_n X dX10_tell_57 rfl (s_iconst X dX10_tell_58 rfl (s_callV X dX10_tell_59 (mv (vok_V X rfl uw_1048 uw_1050 (UW_pr 53 rfl rfl) uw_7 ci_X10_begins yok_X10_begins ⟨Nat.le_of_ble_eq_true rfl, Nat.le_of_ble_eq_true rfl⟩) mv0) (s_iload_n X dX10_tell_62 rfl (s_bipush X dX10_tell_63 rfl (s_iadd X dX10_tell_65 (s_iret X hr dX10_tell_66))))))))))⟩, ⟨⟨rfl, 67, by decide, (s_aload_n X dX10_tell_67 rfl (s_iconst X dX10_tell_68 rfl (s_callV X dX10_tell_69 (mv (vok_V X rfl uw_1048 uw_1050 (UW_pr 53 rfl rfl) uw_7 ci_X10_begins yok_X10_begins ⟨Nat.le_of_ble_eq_true rfl, Nat.le_of_ble_eq_true rfl⟩) mv0) (s_aload_n X dX10_tell_72 rfl (s_iconst X dX10_tell_73 rfl (s_callV X dX10_tell_74 (mv (vok_V X rfl uw_1048 uw_1050 (UW_pr 53 rfl rfl) uw_7 ci_X10_begins yok_X10_begins ⟨Nat.le_of_ble_eq_true rfl, Nat.le_of_ble_eq_true rfl⟩) mv0) (s_aload_n X dX10_tell_77 rfl (s_iconst X dX10_tell_78 rfl (s_callV X dX10_tell_79 (mv (vok_V X rfl uw_1048 uw_1050 (UW_pr 53 rfl rfl) uw_7 ci_X10_begins yok_X10_begins ⟨Nat.le_of_ble_eq_true rfl, Nat.le_of_ble_eq_true rfl⟩) mv0) (s_aload_n X dX10_tell_82 rfl (s_iconst X dX10_tell_83 rfl (s_callV X dX10_tell_84 (mv (vok_V X rfl uw_1048 uw_1050 (UW_pr 53 rfl rfl) uw_7 ci_X10_begins yok_X10_begins ⟨Nat.le_of_ble_eq_true rfl, Nat.le_of_ble_eq_true rfl⟩) mv0) (s_iconst X dX10_tell_87 rfl (s_iload_n X dX10_tell_88 rfl (s_imul X dX10_tell_89 (s_bipush X dX10_tell_90 rfl (s_iadd X dX10_tell_92 (s_iret X hr dX10_tell_93))))))))))))))))))⟩, trivial⟩⟩ (s_aload_n X dX10_tell_94 rfl (s_iconst X dX10_tell_95 rfl (s_callV X dX10_tell_96 (mv (vok_V X rfl uw_1048 uw_1050 (UW_pr 53 rfl rfl) uw_7 ci_X10_begins yok_X10_begins ⟨Nat.le_of_ble_eq_true rfl, Nat.le_of_ble_eq_true rfl⟩) mv0) (s_iload_n X dX10_tell_99 rfl (s_iret X hr dX10_tell_100)))))))))))))))) (s_iconst X dX10_tell_8 rfl (s_iret X hr dX10_tell_9))))))
set_option maxRecDepth 100000 in
theorem vc_X10_tell {l : Launch} {g : Gm} {a0 : Nat} {a1 : Int32} {h : Hp} {mc ms : Nat} {P : PT} (H : ∀ G : Nat → CT, (∀ (b : Nat) (h : Hp) (cb sb : Nat) (ls : LocS) (st : List Value), bk_X10_tell l g b G P h cb sb ls st → G b h cb sb ls st) → G 0 h mc ms [some (.ref a0), some (.int a1), none] []) : Run l g d_X10_tell [.ref a0, .int a1] h mc ms P :=
  Run.of (d := d_X10_tell) (by decide) (mcn rfl (mcn rfl (mnl))) (Nat.le_of_ble_eq_true rfl) (fun p e s m args below meth c X hr hn => H (fun b => GX g p l e s m args below meth c d_X10_tell 3 mc ms h P (pc_X10_tell b)) (fun b h1 cb sb ls st hb => match b, hb with
    | 0, hb => sb_X10_tell_0 (p := p) (e := e) (below := below) X hr hn h1 cb sb ls st hb
    | _ + 1, hb => hb.elim))
theorem dX10_ring_0 : decode cX10_ring 0 = .ok (.aload_n 0, 1) := by decide +kernel
theorem dX10_ring_1 : decode cX10_ring 1 = .ok (.iload_n 1, 1) := by decide +kernel
theorem dX10_ring_2 : decode cX10_ring 2 = .ok (.invokevirtual 84, 3) := by decide +kernel
theorem dX10_ring_5 : decode cX10_ring 5 = .ok (.ifCond .ne 5, 3) := by decide +kernel
theorem dX10_ring_8 : decode cX10_ring 8 = .ok (.iconst (-1), 1) := by decide +kernel
theorem dX10_ring_9 : decode cX10_ring 9 = .ok (.ireturn, 1) := by decide +kernel
theorem dX10_ring_10 : decode cX10_ring 10 = .ok (.aload_n 0, 1) := by decide +kernel
theorem dX10_ring_11 : decode cX10_ring 11 = .ok (.aload_n 0, 1) := by decide +kernel
theorem dX10_ring_12 : decode cX10_ring 12 = .ok (.getfield 19, 3) := by decide +kernel
theorem dX10_ring_15 : decode cX10_ring 15 = .ok (.iload_n 1, 1) := by decide +kernel
theorem dX10_ring_16 : decode cX10_ring 16 = .ok (.iaload, 1) := by decide +kernel
theorem dX10_ring_17 : decode cX10_ring 17 = .ok (.iconst 2, 1) := by decide +kernel
theorem dX10_ring_18 : decode cX10_ring 18 = .ok (.if_icmp .ne 7, 3) := by decide +kernel
theorem dX10_ring_21 : decode cX10_ring 21 = .ok (.iconst 5, 1) := by decide +kernel
theorem dX10_ring_22 : decode cX10_ring 22 = .ok (.goto 4, 3) := by decide +kernel
theorem dX10_ring_25 : decode cX10_ring 25 = .ok (.iconst 4, 1) := by decide +kernel
theorem dX10_ring_26 : decode cX10_ring 26 = .ok (.invokevirtual 231, 3) := by decide +kernel
theorem dX10_ring_29 : decode cX10_ring 29 = .ok (.aload_n 0, 1) := by decide +kernel
theorem dX10_ring_30 : decode cX10_ring 30 = .ok (.getfield 19, 3) := by decide +kernel
theorem dX10_ring_33 : decode cX10_ring 33 = .ok (.iload_n 1, 1) := by decide +kernel
theorem dX10_ring_34 : decode cX10_ring 34 = .ok (.iaload, 1) := by decide +kernel
theorem dX10_ring_35 : decode cX10_ring 35 = .ok (.iconst 2, 1) := by decide +kernel
theorem dX10_ring_36 : decode cX10_ring 36 = .ok (.if_icmp .ne 8, 3) := by decide +kernel
theorem dX10_ring_39 : decode cX10_ring 39 = .ok (.bipush 50, 2) := by decide +kernel
theorem dX10_ring_41 : decode cX10_ring 41 = .ok (.goto 9, 3) := by decide +kernel
theorem dX10_ring_44 : decode cX10_ring 44 = .ok (.aload_n 0, 1) := by decide +kernel
theorem dX10_ring_45 : decode cX10_ring 45 = .ok (.getfield 34, 3) := by decide +kernel
theorem dX10_ring_48 : decode cX10_ring 48 = .ok (.iload_n 1, 1) := by decide +kernel
theorem dX10_ring_49 : decode cX10_ring 49 = .ok (.iaload, 1) := by decide +kernel
theorem dX10_ring_50 : decode cX10_ring 50 = .ok (.ireturn, 1) := by decide +kernel
def bk_X10_ring_0 (l : Launch) (g : Gm) (G : Nat → CT) (P : PT) : CT := (oALd 0 (oILd 1 (oCallV l g [(10, d_X10_isVillage)] 2 (oIf (fun x => x = 0) (oPush (.int (-1)) (oIRet P)) (oALd 0 (oALd 0 (oGet [10] 6 (oILd 1 (oIAL g (oPush (.int (2)) (oCmp (fun x y => x = y) (oPush (.int (5)) (oGo (G 1))) (oPush (.int (4)) (G 1)))))))))))))
def bk_X10_ring_1 (l : Launch) (g : Gm) (G : Nat → CT) (P : PT) : CT := (oCallV l g [(10, d_X10_begins)] 2 (oALd 0 (oGet [10] 6 (oILd 1 (oIAL g (oPush (.int (2)) (oCmp (fun x y => x = y) (oPush (.int (50)) (oGo (oIRet P))) (oALd 0 (oGet [10] 11 (oILd 1 (oIAL g (oIRet P))))))))))))
def bk_X10_ring (l : Launch) (g : Gm) (b : Nat) (G : Nat → CT) (P : PT) : CT := match b with
  | 0 => bk_X10_ring_0 l g G P
  | 1 => bk_X10_ring_1 l g G P
  | _ => fun _ _ _ _ _ => False
def pc_X10_ring (b : Nat) : Nat := match b with
  | 0 => 0
  | 1 => 26
  | _ => 0
set_option maxRecDepth 100000 in
theorem sb_X10_ring_0 {p : Program} {l : Launch} {e : Env} {s : State} {m : MethodId} {args : Array Value} {below : List Frame} {meth : Method} {c : Code} {g : Gm} {h0 : Hp} {P : PT} {mc ms : Nat} (X : Cx g p s m args meth c (Adom h0 s.heap.size) cX10_ring RX10 2) (hr : meth.sig.returnType = some .int) (hn : meth.name = "ring") : SX g p l e s m args below meth c d_X10_ring 2 mc ms h0 P (bk_X10_ring_0 l g (fun b => GX g p l e s m args below meth c d_X10_ring 2 mc ms h0 P (pc_X10_ring b)) P) 0 := (s_aload_n X dX10_ring_0 rfl (s_iload_n X dX10_ring_1 rfl (s_callV X dX10_ring_2 (mv (vok_V X rfl uw_864 uw_866 (UW_pr 30 rfl rfl) uw_7 ci_X10_isVillage yok_X10_isVillage ⟨Nat.le_of_ble_eq_true rfl, Nat.le_of_ble_eq_true rfl⟩) mv0) (s_if_ne X dX10_ring_5 (by decide) (s_aload_n X dX10_ring_10 rfl (s_aload_n X dX10_ring_11 rfl (s_get X dX10_ring_12 (mcn (⟨_, _, _, _, rfl, inU_X10, by decide, uw_715, rfl⟩) (mnl)) (s_iload_n X dX10_ring_15 rfl (s_iaload X dX10_ring_16 (s_iconst X dX10_ring_17 rfl (s_icmp_ne X dX10_ring_18 (by decide) (s_iconst X dX10_ring_25 rfl Sd.rf) (s_iconst X dX10_ring_21 rfl (s_goto X dX10_ring_22 (by decide) Sd.rf))))))))) (s_iconst X dX10_ring_8 rfl (s_iret X hr dX10_ring_9))))))
set_option maxRecDepth 100000 in
theorem sb_X10_ring_1 {p : Program} {l : Launch} {e : Env} {s : State} {m : MethodId} {args : Array Value} {below : List Frame} {meth : Method} {c : Code} {g : Gm} {h0 : Hp} {P : PT} {mc ms : Nat} (X : Cx g p s m args meth c (Adom h0 s.heap.size) cX10_ring RX10 2) (hr : meth.sig.returnType = some .int) (hn : meth.name = "ring") : SX g p l e s m args below meth c d_X10_ring 2 mc ms h0 P (bk_X10_ring_1 l g (fun b => GX g p l e s m args below meth c d_X10_ring 2 mc ms h0 P (pc_X10_ring b)) P) 26 := (s_callV X dX10_ring_26 (mv (vok_V X rfl uw_1048 uw_1050 (UW_pr 53 rfl rfl) uw_7 ci_X10_begins yok_X10_begins ⟨Nat.le_of_ble_eq_true rfl, Nat.le_of_ble_eq_true rfl⟩) mv0) (s_aload_n X dX10_ring_29 rfl (s_get X dX10_ring_30 (mcn (⟨_, _, _, _, rfl, inU_X10, by decide, uw_715, rfl⟩) (mnl)) (s_iload_n X dX10_ring_33 rfl (s_iaload X dX10_ring_34 (s_iconst X dX10_ring_35 rfl (s_icmp_ne X dX10_ring_36 (by decide) (s_aload_n X dX10_ring_44 rfl (s_get X dX10_ring_45 (mcn (⟨_, _, _, _, rfl, inU_X10, by decide, uw_720, rfl⟩) (mnl)) (s_iload_n X dX10_ring_48 rfl (s_iaload X dX10_ring_49 (s_iret X hr dX10_ring_50))))) (s_bipush X dX10_ring_39 rfl (s_goto X dX10_ring_41 (by decide) (s_iret X hr dX10_ring_50))))))))))
set_option maxRecDepth 100000 in
theorem vc_X10_ring {l : Launch} {g : Gm} {a0 : Nat} {a1 : Int32} {h : Hp} {mc ms : Nat} {P : PT} (H : ∀ G : Nat → CT, (∀ (b : Nat) (h : Hp) (cb sb : Nat) (ls : LocS) (st : List Value), bk_X10_ring l g b G P h cb sb ls st → G b h cb sb ls st) → G 0 h mc ms [some (.ref a0), some (.int a1)] []) : Run l g d_X10_ring [.ref a0, .int a1] h mc ms P :=
  Run.of (d := d_X10_ring) (by decide) (mcn rfl (mcn rfl (mnl))) (Nat.le_of_ble_eq_true rfl) (fun p e s m args below meth c X hr hn => H (fun b => GX g p l e s m args below meth c d_X10_ring 2 mc ms h P (pc_X10_ring b)) (fun b h1 cb sb ls st hb => match b, hb with
    | 0, hb => sb_X10_ring_0 (p := p) (e := e) (below := below) X hr hn h1 cb sb ls st hb
    | 1, hb => sb_X10_ring_1 (p := p) (e := e) (below := below) X hr hn h1 cb sb ls st hb
    | _ + 2, hb => hb.elim))
theorem dX10_as_0 : decode cX10_as 0 = .ok (.aload_n 0, 1) := by decide +kernel
theorem dX10_as_1 : decode cX10_as 1 = .ok (.iconst 0, 1) := by decide +kernel
theorem dX10_as_2 : decode cX10_as 2 = .ok (.putfield 71, 3) := by decide +kernel
theorem dX10_as_5 : decode cX10_as 5 = .ok (.aload_n 0, 1) := by decide +kernel
theorem dX10_as_6 : decode cX10_as 6 = .ok (.iload_n 1, 1) := by decide +kernel
theorem dX10_as_7 : decode cX10_as 7 = .ok (.invokevirtual 84, 3) := by decide +kernel
theorem dX10_as_10 : decode cX10_as 10 = .ok (.ifCond .ne 5, 3) := by decide +kernel
theorem dX10_as_13 : decode cX10_as 13 = .ok (.iconst (-1), 1) := by decide +kernel
theorem dX10_as_14 : decode cX10_as 14 = .ok (.ireturn, 1) := by decide +kernel
theorem dX10_as_15 : decode cX10_as 15 = .ok (.iload_n 2, 1) := by decide +kernel
theorem dX10_as_16 : decode cX10_as 16 = .ok (.iconst 0, 1) := by decide +kernel
theorem dX10_as_17 : decode cX10_as 17 = .ok (.iconst 2, 1) := by decide +kernel
theorem dX10_as_18 : decode cX10_as 18 = .ok (.invokestatic 77, 3) := by decide +kernel
theorem dX10_as_21 : decode cX10_as 21 = .ok (.ifCond .ne 6, 3) := by decide +kernel
theorem dX10_as_24 : decode cX10_as 24 = .ok (.bipush (-2), 2) := by decide +kernel
theorem dX10_as_26 : decode cX10_as 26 = .ok (.ireturn, 1) := by decide +kernel
theorem dX10_as_27 : decode cX10_as 27 = .ok (.aload_n 0, 1) := by decide +kernel
theorem dX10_as_28 : decode cX10_as 28 = .ok (.getfield 19, 3) := by decide +kernel
theorem dX10_as_31 : decode cX10_as 31 = .ok (.iload_n 1, 1) := by decide +kernel
theorem dX10_as_32 : decode cX10_as 32 = .ok (.iaload, 1) := by decide +kernel
theorem dX10_as_33 : decode cX10_as 33 = .ok (.iload_n 2, 1) := by decide +kernel
theorem dX10_as_34 : decode cX10_as 34 = .ok (.if_icmp .lt 7, 3) := by decide +kernel
theorem dX10_as_37 : decode cX10_as 37 = .ok (.iconst 1, 1) := by decide +kernel
theorem dX10_as_38 : decode cX10_as 38 = .ok (.goto 8, 3) := by decide +kernel
theorem dX10_as_41 : decode cX10_as 41 = .ok (.aload_n 0, 1) := by decide +kernel
theorem dX10_as_42 : decode cX10_as 42 = .ok (.iconst 2, 1) := by decide +kernel
theorem dX10_as_43 : decode cX10_as 43 = .ok (.invokevirtual 101, 3) := by decide +kernel
theorem dX10_as_46 : decode cX10_as 46 = .ok (.ireturn, 1) := by decide +kernel
def bk_X10_as_0 (l : Launch) (g : Gm) (G : Nat → CT) (P : PT) : CT := (oALd 0 (oPush (.int (0)) (oPutI [10] 0 (oALd 0 (oILd 1 (oCallV l g [(10, d_X10_isVillage)] 2 (oIf (fun x => x = 0) (oPush (.int (-1)) (oIRet P)) (oILd 2 (oPush (.int (0)) (oPush (.int (2)) (oCall l g d_X10_within 3 (oIf (fun x => x = 0) (oPush (.int (-2)) (oIRet P)) (oALd 0 (oGet [10] 6 (oILd 1 (oIAL g (oILd 2 (oCmp (fun x y => x < y) (oALd 0 (oPush (.int (2)) (oCallV l g [(10, d_X10_fails)] 2 (oIRet P)))) (oPush (.int (1)) (oGo (oIRet P)))))))))))))))))))))
def bk_X10_as (l : Launch) (g : Gm) (b : Nat) (G : Nat → CT) (P : PT) : CT := match b with
  | 0 => bk_X10_as_0 l g G P
  | _ => fun _ _ _ _ _ => False
def pc_X10_as (b : Nat) : Nat := match b with
  | 0 => 0
  | _ => 0
set_option maxRecDepth 100000 in
theorem sb_X10_as_0 {p : Program} {l : Launch} {e : Env} {s : State} {m : MethodId} {args : Array Value} {below : List Frame} {meth : Method} {c : Code} {g : Gm} {h0 : Hp} {P : PT} {mc ms : Nat} (X : Cx g p s m args meth c (Adom h0 s.heap.size) cX10_as RX10 3) (hr : meth.sig.returnType = some .int) (hn : meth.name = "as") : SX g p l e s m args below meth c d_X10_as 3 mc ms h0 P (bk_X10_as_0 l g (fun b => GX g p l e s m args below meth c d_X10_as 3 mc ms h0 P (pc_X10_as b)) P) 0 := (s_aload_n X dX10_as_0 rfl (s_iconst X dX10_as_1 rfl (s_putI X dX10_as_2 (mcn (⟨_, _, _, _, tyX10, rfl, inU_X10, by decide, uw_709, rfl, tyX10_ok, nmX10, rfl, rfl⟩) (mnl)) (s_aload_n X dX10_as_5 rfl (s_iload_n X dX10_as_6 rfl (s_callV X dX10_as_7 (mv (vok_V X rfl uw_864 uw_866 (UW_pr 30 rfl rfl) uw_7 ci_X10_isVillage yok_X10_isVillage ⟨Nat.le_of_ble_eq_true rfl, Nat.le_of_ble_eq_true rfl⟩) mv0) (s_if_ne X dX10_as_10 (by decide) (s_iload_n X dX10_as_15 rfl (s_iconst X dX10_as_16 rfl (s_iconst X dX10_as_17 rfl (s_callS X dX10_as_18 uw_798 uw_799 uw_7 ci_X10_within yok_X10_within ⟨Nat.le_of_ble_eq_true rfl, Nat.le_of_ble_eq_true rfl⟩ (s_if_ne X dX10_as_21 (by decide) (s_aload_n X dX10_as_27 rfl (s_get X dX10_as_28 (mcn (⟨_, _, _, _, rfl, inU_X10, by decide, uw_715, rfl⟩) (mnl)) (s_iload_n X dX10_as_31 rfl (s_iaload X dX10_as_32 (s_iload_n X dX10_as_33 rfl (s_icmp_lt X dX10_as_34 (by decide) (s_aload_n X dX10_as_41 rfl (s_iconst X dX10_as_42 rfl (s_callV X dX10_as_43 (mv (vok_V X rfl uw_808 uw_810 (UW_pr 17 rfl rfl) uw_7 ci_X10_fails yok_X10_fails ⟨Nat.le_of_ble_eq_true rfl, Nat.le_of_ble_eq_true rfl⟩) mv0) (s_iret X hr dX10_as_46)))) (s_iconst X dX10_as_37 rfl (s_goto X dX10_as_38 (by decide) (s_iret X hr dX10_as_46))))))))) (s_bipush X dX10_as_24 rfl (s_iret X hr dX10_as_26))))))) (s_iconst X dX10_as_13 rfl (s_iret X hr dX10_as_14)))))))))
set_option maxRecDepth 100000 in
theorem vc_X10_as {l : Launch} {g : Gm} {a0 : Nat} {a1 : Int32} {a2 : Int32} {h : Hp} {mc ms : Nat} {P : PT} (H : ∀ G : Nat → CT, (∀ (b : Nat) (h : Hp) (cb sb : Nat) (ls : LocS) (st : List Value), bk_X10_as l g b G P h cb sb ls st → G b h cb sb ls st) → G 0 h mc ms [some (.ref a0), some (.int a1), some (.int a2)] []) : Run l g d_X10_as [.ref a0, .int a1, .int a2] h mc ms P :=
  Run.of (d := d_X10_as) (by decide) (mcn rfl (mcn rfl (mcn rfl (mnl)))) (Nat.le_of_ble_eq_true rfl) (fun p e s m args below meth c X hr hn => H (fun b => GX g p l e s m args below meth c d_X10_as 3 mc ms h P (pc_X10_as b)) (fun b h1 cb sb ls st hb => match b, hb with
    | 0, hb => sb_X10_as_0 (p := p) (e := e) (below := below) X hr hn h1 cb sb ls st hb
    | _ + 1, hb => hb.elim))
theorem dX10_trace_0 : decode cX10_trace 0 = .ok (.aload_n 0, 1) := by decide +kernel
theorem dX10_trace_1 : decode cX10_trace 1 = .ok (.getfield 228, 3) := by decide +kernel
theorem dX10_trace_4 : decode cX10_trace 4 = .ok (.ireturn, 1) := by decide +kernel
def bk_X10_trace_0 (l : Launch) (g : Gm) (G : Nat → CT) (P : PT) : CT := (oALd 0 (oGet [10] 1 (oIRet P)))
def bk_X10_trace (l : Launch) (g : Gm) (b : Nat) (G : Nat → CT) (P : PT) : CT := match b with
  | 0 => bk_X10_trace_0 l g G P
  | _ => fun _ _ _ _ _ => False
def pc_X10_trace (b : Nat) : Nat := match b with
  | 0 => 0
  | _ => 0
set_option maxRecDepth 100000 in
theorem sb_X10_trace_0 {p : Program} {l : Launch} {e : Env} {s : State} {m : MethodId} {args : Array Value} {below : List Frame} {meth : Method} {c : Code} {g : Gm} {h0 : Hp} {P : PT} {mc ms : Nat} (X : Cx g p s m args meth c (Adom h0 s.heap.size) cX10_trace RX10 1) (hr : meth.sig.returnType = some .int) (hn : meth.name = "trace") : SX g p l e s m args below meth c d_X10_trace 1 mc ms h0 P (bk_X10_trace_0 l g (fun b => GX g p l e s m args below meth c d_X10_trace 1 mc ms h0 P (pc_X10_trace b)) P) 0 := (s_aload_n X dX10_trace_0 rfl (s_get X dX10_trace_1 (mcn (⟨_, _, _, _, rfl, inU_X10, by decide, uw_710, rfl⟩) (mnl)) (s_iret X hr dX10_trace_4)))
set_option maxRecDepth 100000 in
theorem vc_X10_trace {l : Launch} {g : Gm} {a0 : Nat} {h : Hp} {mc ms : Nat} {P : PT} (H : ∀ G : Nat → CT, (∀ (b : Nat) (h : Hp) (cb sb : Nat) (ls : LocS) (st : List Value), bk_X10_trace l g b G P h cb sb ls st → G b h cb sb ls st) → G 0 h mc ms [some (.ref a0)] []) : Run l g d_X10_trace [.ref a0] h mc ms P :=
  Run.of (d := d_X10_trace) (by decide) (mcn rfl (mnl)) (Nat.le_of_ble_eq_true rfl) (fun p e s m args below meth c X hr hn => H (fun b => GX g p l e s m args below meth c d_X10_trace 1 mc ms h P (pc_X10_trace b)) (fun b h1 cb sb ls st hb => match b, hb with
    | 0, hb => sb_X10_trace_0 (p := p) (e := e) (below := below) X hr hn h1 cb sb ls st hb
    | _ + 1, hb => hb.elim))
theorem dX10_fault_0 : decode cX10_fault 0 = .ok (.aload_n 0, 1) := by decide +kernel
theorem dX10_fault_1 : decode cX10_fault 1 = .ok (.getfield 71, 3) := by decide +kernel
theorem dX10_fault_4 : decode cX10_fault 4 = .ok (.ireturn, 1) := by decide +kernel
def bk_X10_fault_0 (l : Launch) (g : Gm) (G : Nat → CT) (P : PT) : CT := (oALd 0 (oGet [10] 0 (oIRet P)))
def bk_X10_fault (l : Launch) (g : Gm) (b : Nat) (G : Nat → CT) (P : PT) : CT := match b with
  | 0 => bk_X10_fault_0 l g G P
  | _ => fun _ _ _ _ _ => False
def pc_X10_fault (b : Nat) : Nat := match b with
  | 0 => 0
  | _ => 0
set_option maxRecDepth 100000 in
theorem sb_X10_fault_0 {p : Program} {l : Launch} {e : Env} {s : State} {m : MethodId} {args : Array Value} {below : List Frame} {meth : Method} {c : Code} {g : Gm} {h0 : Hp} {P : PT} {mc ms : Nat} (X : Cx g p s m args meth c (Adom h0 s.heap.size) cX10_fault RX10 1) (hr : meth.sig.returnType = some .int) (hn : meth.name = "fault") : SX g p l e s m args below meth c d_X10_fault 1 mc ms h0 P (bk_X10_fault_0 l g (fun b => GX g p l e s m args below meth c d_X10_fault 1 mc ms h0 P (pc_X10_fault b)) P) 0 := (s_aload_n X dX10_fault_0 rfl (s_get X dX10_fault_1 (mcn (⟨_, _, _, _, rfl, inU_X10, by decide, uw_709, rfl⟩) (mnl)) (s_iret X hr dX10_fault_4)))
set_option maxRecDepth 100000 in
theorem vc_X10_fault {l : Launch} {g : Gm} {a0 : Nat} {h : Hp} {mc ms : Nat} {P : PT} (H : ∀ G : Nat → CT, (∀ (b : Nat) (h : Hp) (cb sb : Nat) (ls : LocS) (st : List Value), bk_X10_fault l g b G P h cb sb ls st → G b h cb sb ls st) → G 0 h mc ms [some (.ref a0)] []) : Run l g d_X10_fault [.ref a0] h mc ms P :=
  Run.of (d := d_X10_fault) (by decide) (mcn rfl (mnl)) (Nat.le_of_ble_eq_true rfl) (fun p e s m args below meth c X hr hn => H (fun b => GX g p l e s m args below meth c d_X10_fault 1 mc ms h P (pc_X10_fault b)) (fun b h1 cb sb ls st hb => match b, hb with
    | 0, hb => sb_X10_fault_0 (p := p) (e := e) (below := below) X hr hn h1 cb sb ls st hb
    | _ + 1, hb => hb.elim))
theorem dX10_many_0 : decode cX10_many 0 = .ok (.iconst 0, 1) := by decide +kernel
theorem dX10_many_1 : decode cX10_many 1 = .ok (.istore_n 2, 1) := by decide +kernel
theorem dX10_many_2 : decode cX10_many 2 = .ok (.iload_n 1, 1) := by decide +kernel
theorem dX10_many_3 : decode cX10_many 3 = .ok (.tableswitch 136 0 4 #[33, 38, 43, 70, 131], 33) := by decide +kernel
theorem dX10_many_36 : decode cX10_many 36 = .ok (.aload_n 0, 1) := by decide +kernel
theorem dX10_many_37 : decode cX10_many 37 = .ok (.getfield 81, 3) := by decide +kernel
theorem dX10_many_40 : decode cX10_many 40 = .ok (.ireturn, 1) := by decide +kernel
theorem dX10_many_41 : decode cX10_many 41 = .ok (.aload_n 0, 1) := by decide +kernel
theorem dX10_many_42 : decode cX10_many 42 = .ok (.invokevirtual 214, 3) := by decide +kernel
theorem dX10_many_45 : decode cX10_many 45 = .ok (.ireturn, 1) := by decide +kernel
theorem dX10_many_46 : decode cX10_many 46 = .ok (.iconst 0, 1) := by decide +kernel
theorem dX10_many_47 : decode cX10_many 47 = .ok (.istore_n 3, 1) := by decide +kernel
theorem dX10_many_48 : decode cX10_many 48 = .ok (.iload_n 3, 1) := by decide +kernel
theorem dX10_many_49 : decode cX10_many 49 = .ok (.aload_n 0, 1) := by decide +kernel
theorem dX10_many_50 : decode cX10_many 50 = .ok (.getfield 81, 3) := by decide +kernel
theorem dX10_many_53 : decode cX10_many 53 = .ok (.if_icmp .ge 18, 3) := by decide +kernel
theorem dX10_many_56 : decode cX10_many 56 = .ok (.iload_n 2, 1) := by decide +kernel
theorem dX10_many_57 : decode cX10_many 57 = .ok (.aload_n 0, 1) := by decide +kernel
theorem dX10_many_58 : decode cX10_many 58 = .ok (.getfield 34, 3) := by decide +kernel
theorem dX10_many_61 : decode cX10_many 61 = .ok (.iload_n 3, 1) := by decide +kernel
theorem dX10_many_62 : decode cX10_many 62 = .ok (.iaload, 1) := by decide +kernel
theorem dX10_many_63 : decode cX10_many 63 = .ok (.iadd, 1) := by decide +kernel
theorem dX10_many_64 : decode cX10_many 64 = .ok (.istore_n 2, 1) := by decide +kernel
theorem dX10_many_65 : decode cX10_many 65 = .ok (.iinc 3 1, 3) := by decide +kernel
theorem dX10_many_68 : decode cX10_many 68 = .ok (.goto (-20), 3) := by decide +kernel
theorem dX10_many_71 : decode cX10_many 71 = .ok (.iload_n 2, 1) := by decide +kernel
theorem dX10_many_72 : decode cX10_many 72 = .ok (.ireturn, 1) := by decide +kernel
theorem dX10_many_73 : decode cX10_many 73 = .ok (.iconst 0, 1) := by decide +kernel
theorem dX10_many_74 : decode cX10_many 74 = .ok (.istore_n 3, 1) := by decide +kernel
theorem dX10_many_75 : decode cX10_many 75 = .ok (.iload_n 3, 1) := by decide +kernel
theorem dX10_many_76 : decode cX10_many 76 = .ok (.aload_n 0, 1) := by decide +kernel
theorem dX10_many_77 : decode cX10_many 77 = .ok (.getfield 81, 3) := by decide +kernel
theorem dX10_many_80 : decode cX10_many 80 = .ok (.if_icmp .ge 52, 3) := by decide +kernel
theorem dX10_many_83 : decode cX10_many 83 = .ok (.iconst 0, 1) := by decide +kernel
theorem dX10_many_84 : decode cX10_many 84 = .ok (.istore 4, 2) := by decide +kernel
theorem dX10_many_86 : decode cX10_many 86 = .ok (.iload 4, 2) := by decide +kernel
theorem dX10_many_88 : decode cX10_many 88 = .ok (.aload_n 0, 1) := by decide +kernel
theorem dX10_many_89 : decode cX10_many 89 = .ok (.getfield 22, 3) := by decide +kernel
theorem dX10_many_92 : decode cX10_many 92 = .ok (.iload_n 3, 1) := by decide +kernel
theorem dX10_many_93 : decode cX10_many 93 = .ok (.iaload, 1) := by decide +kernel
theorem dX10_many_94 : decode cX10_many 94 = .ok (.if_icmp .ge 32, 3) := by decide +kernel
theorem dX10_many_97 : decode cX10_many 97 = .ok (.iload_n 2, 1) := by decide +kernel
theorem dX10_many_98 : decode cX10_many 98 = .ok (.aload_n 0, 1) := by decide +kernel
theorem dX10_many_99 : decode cX10_many 99 = .ok (.getfield 25, 3) := by decide +kernel
theorem dX10_many_102 : decode cX10_many 102 = .ok (.iconst 5, 1) := by decide +kernel
theorem dX10_many_103 : decode cX10_many 103 = .ok (.iload_n 3, 1) := by decide +kernel
theorem dX10_many_104 : decode cX10_many 104 = .ok (.imul, 1) := by decide +kernel
theorem dX10_many_105 : decode cX10_many 105 = .ok (.iload 4, 2) := by decide +kernel
theorem dX10_many_107 : decode cX10_many 107 = .ok (.iadd, 1) := by decide +kernel
theorem dX10_many_108 : decode cX10_many 108 = .ok (.iaload, 1) := by decide +kernel
theorem dX10_many_109 : decode cX10_many 109 = .ok (.iconst 1, 1) := by decide +kernel
theorem dX10_many_110 : decode cX10_many 110 = .ok (.if_icmp .ne 7, 3) := by decide +kernel
theorem dX10_many_113 : decode cX10_many 113 = .ok (.iconst 1, 1) := by decide +kernel
theorem dX10_many_114 : decode cX10_many 114 = .ok (.goto 4, 3) := by decide +kernel
theorem dX10_many_117 : decode cX10_many 117 = .ok (.iconst 0, 1) := by decide +kernel
theorem dX10_many_118 : decode cX10_many 118 = .ok (.iadd, 1) := by decide +kernel
theorem dX10_many_119 : decode cX10_many 119 = .ok (.istore_n 2, 1) := by decide +kernel
theorem dX10_many_120 : decode cX10_many 120 = .ok (.iinc 4 1, 3) := by decide +kernel
theorem dX10_many_123 : decode cX10_many 123 = .ok (.goto (-37), 3) := by decide +kernel
theorem dX10_many_126 : decode cX10_many 126 = .ok (.iinc 3 1, 3) := by decide +kernel
theorem dX10_many_129 : decode cX10_many 129 = .ok (.goto (-54), 3) := by decide +kernel
theorem dX10_many_132 : decode cX10_many 132 = .ok (.iload_n 2, 1) := by decide +kernel
theorem dX10_many_133 : decode cX10_many 133 = .ok (.ireturn, 1) := by decide +kernel
theorem dX10_many_134 : decode cX10_many 134 = .ok (.aload_n 0, 1) := by decide +kernel
theorem dX10_many_135 : decode cX10_many 135 = .ok (.getfield 122, 3) := by decide +kernel
theorem dX10_many_138 : decode cX10_many 138 = .ok (.ireturn, 1) := by decide +kernel
theorem dX10_many_139 : decode cX10_many 139 = .ok (.bipush (-2), 2) := by decide +kernel
theorem dX10_many_141 : decode cX10_many 141 = .ok (.ireturn, 1) := by decide +kernel
def bk_X10_many_0 (l : Launch) (g : Gm) (G : Nat → CT) (P : PT) : CT := (oPush (.int (0)) (oISt 2 (oILd 1 (oSw [(0, (oALd 0 (oGet [10] 5 (oIRet P)))), (1, (oALd 0 (oCallV l g [(10, d_X10_allThings)] 1 (oIRet P)))), (2, (oPush (.int (0)) (oISt 3 (G 1)))), (3, (oPush (.int (0)) (oISt 3 (G 2)))), (4, (oALd 0 (oGet [10] 24 (oIRet P))))] (oPush (.int (-2)) (oIRet P))))))
def bk_X10_many_1 (l : Launch) (g : Gm) (G : Nat → CT) (P : PT) : CT := (oILd 3 (oALd 0 (oGet [10] 5 (oCmp (fun x y => y ≤ x) (oILd 2 (oIRet P)) (oILd 2 (oALd 0 (oGet [10] 11 (oILd 3 (oIAL g (oBin (fun x y => x + y) (oISt 2 (oInc 3 (1) (oGo (G 1))))))))))))))
def bk_X10_many_2 (l : Launch) (g : Gm) (G : Nat → CT) (P : PT) : CT := (oILd 3 (oALd 0 (oGet [10] 5 (oCmp (fun x y => y ≤ x) (oILd 2 (oIRet P)) (oPush (.int (0)) (oISt 4 (G 3)))))))
def bk_X10_many_3 (l : Launch) (g : Gm) (G : Nat → CT) (P : PT) : CT := (oILd 4 (oALd 0 (oGet [10] 7 (oILd 3 (oIAL g (oCmp (fun x y => y ≤ x) (oInc 3 (1) (oGo (G 2))) (oILd 2 (oALd 0 (oGet [10] 8 (oPush (.int (5)) (oILd 3 (oBin (fun x y => x * y) (oILd 4 (oBin (fun x y => x + y) (oIAL g (oPush (.int (1)) (oCmp (fun x y => x = y) (oPush (.int (1)) (oGo (G 4))) (oPush (.int (0)) (G 4)))))))))))))))))))
def bk_X10_many_4 (l : Launch) (g : Gm) (G : Nat → CT) (P : PT) : CT := (oBin (fun x y => x + y) (oISt 2 (oInc 4 (1) (oGo (G 3)))))
def bk_X10_many (l : Launch) (g : Gm) (b : Nat) (G : Nat → CT) (P : PT) : CT := match b with
  | 0 => bk_X10_many_0 l g G P
  | 1 => bk_X10_many_1 l g G P
  | 2 => bk_X10_many_2 l g G P
  | 3 => bk_X10_many_3 l g G P
  | 4 => bk_X10_many_4 l g G P
  | _ => fun _ _ _ _ _ => False
def pc_X10_many (b : Nat) : Nat := match b with
  | 0 => 0
  | 1 => 48
  | 2 => 75
  | 3 => 86
  | 4 => 118
  | _ => 0
set_option maxRecDepth 100000 in
theorem sb_X10_many_0 {p : Program} {l : Launch} {e : Env} {s : State} {m : MethodId} {args : Array Value} {below : List Frame} {meth : Method} {c : Code} {g : Gm} {h0 : Hp} {P : PT} {mc ms : Nat} (X : Cx g p s m args meth c (Adom h0 s.heap.size) cX10_many RX10 5) (hr : meth.sig.returnType = some .int) (hn : meth.name = "many") : SX g p l e s m args below meth c d_X10_many 5 mc ms h0 P (bk_X10_many_0 l g (fun b => GX g p l e s m args below meth c d_X10_many 5 mc ms h0 P (pc_X10_many b)) P) 0 := (s_iconst X dX10_many_0 rfl (s_istore_n X dX10_many_1 rfl (by decide) (s_iload_n X dX10_many_2 rfl (s_tsw X dX10_many_3 (by decide) rfl ⟨⟨rfl, 33, 36, rfl, by decide, (s_aload_n X dX10_many_36 rfl (s_get X dX10_many_37 (mcn (⟨_, _, _, _, rfl, inU_X10, by decide, uw_714, rfl⟩) (mnl)) (s_iret X hr dX10_many_40)))⟩, ⟨⟨rfl, 38, 41, rfl, by decide, (s_aload_n X dX10_many_41 rfl (s_callV X dX10_many_42 (mv (vok_V X rfl uw_985 uw_987 (UW_pr 50 rfl rfl) uw_7 ci_X10_allThings yok_X10_allThings ⟨Nat.le_of_ble_eq_true rfl, Nat.le_of_ble_eq_true rfl⟩) mv0) (s_iret X hr dX10_many_45)))⟩, ⟨⟨rfl, 43, 46, rfl, by decide, (s_iconst X dX10_many_46 rfl (s_istore_n X dX10_many_47 rfl (by decide) Sd.rf))⟩, ⟨⟨rfl, 70, 73, rfl, by decide, (s_iconst X dX10_many_73 rfl (s_istore_n X dX10_many_74 rfl (by decide) Sd.rf))⟩, ⟨⟨rfl, 131, 134, rfl, by decide, (s_aload_n X dX10_many_134 rfl (s_get X dX10_many_135 (mcn (⟨_, _, _, _, rfl, inU_X10, by decide, uw_733, rfl⟩) (mnl)) (s_iret X hr dX10_many_138)))⟩, trivial⟩⟩⟩⟩⟩ (s_bipush X dX10_many_139 rfl (s_iret X hr dX10_many_141))))))
set_option maxRecDepth 100000 in
theorem sb_X10_many_1 {p : Program} {l : Launch} {e : Env} {s : State} {m : MethodId} {args : Array Value} {below : List Frame} {meth : Method} {c : Code} {g : Gm} {h0 : Hp} {P : PT} {mc ms : Nat} (X : Cx g p s m args meth c (Adom h0 s.heap.size) cX10_many RX10 5) (hr : meth.sig.returnType = some .int) (hn : meth.name = "many") : SX g p l e s m args below meth c d_X10_many 5 mc ms h0 P (bk_X10_many_1 l g (fun b => GX g p l e s m args below meth c d_X10_many 5 mc ms h0 P (pc_X10_many b)) P) 48 := (s_iload_n X dX10_many_48 rfl (s_aload_n X dX10_many_49 rfl (s_get X dX10_many_50 (mcn (⟨_, _, _, _, rfl, inU_X10, by decide, uw_714, rfl⟩) (mnl)) (s_icmp_ge X dX10_many_53 (by decide) (s_iload_n X dX10_many_71 rfl (s_iret X hr dX10_many_72)) (s_iload_n X dX10_many_56 rfl (s_aload_n X dX10_many_57 rfl (s_get X dX10_many_58 (mcn (⟨_, _, _, _, rfl, inU_X10, by decide, uw_720, rfl⟩) (mnl)) (s_iload_n X dX10_many_61 rfl (s_iaload X dX10_many_62 (s_iadd X dX10_many_63 (s_istore_n X dX10_many_64 rfl (by decide) (s_iinc X dX10_many_65 rfl (by decide) (s_goto X dX10_many_68 (by decide) Sd.rf)))))))))))))
set_option maxRecDepth 100000 in
theorem sb_X10_many_2 {p : Program} {l : Launch} {e : Env} {s : State} {m : MethodId} {args : Array Value} {below : List Frame} {meth : Method} {c : Code} {g : Gm} {h0 : Hp} {P : PT} {mc ms : Nat} (X : Cx g p s m args meth c (Adom h0 s.heap.size) cX10_many RX10 5) (hr : meth.sig.returnType = some .int) (hn : meth.name = "many") : SX g p l e s m args below meth c d_X10_many 5 mc ms h0 P (bk_X10_many_2 l g (fun b => GX g p l e s m args below meth c d_X10_many 5 mc ms h0 P (pc_X10_many b)) P) 75 := (s_iload_n X dX10_many_75 rfl (s_aload_n X dX10_many_76 rfl (s_get X dX10_many_77 (mcn (⟨_, _, _, _, rfl, inU_X10, by decide, uw_714, rfl⟩) (mnl)) (s_icmp_ge X dX10_many_80 (by decide) (s_iload_n X dX10_many_132 rfl (s_iret X hr dX10_many_133)) (s_iconst X dX10_many_83 rfl (s_istore X dX10_many_84 (by decide) Sd.rf))))))
set_option maxRecDepth 100000 in
theorem sb_X10_many_3 {p : Program} {l : Launch} {e : Env} {s : State} {m : MethodId} {args : Array Value} {below : List Frame} {meth : Method} {c : Code} {g : Gm} {h0 : Hp} {P : PT} {mc ms : Nat} (X : Cx g p s m args meth c (Adom h0 s.heap.size) cX10_many RX10 5) (hr : meth.sig.returnType = some .int) (hn : meth.name = "many") : SX g p l e s m args below meth c d_X10_many 5 mc ms h0 P (bk_X10_many_3 l g (fun b => GX g p l e s m args below meth c d_X10_many 5 mc ms h0 P (pc_X10_many b)) P) 86 := (s_iload X dX10_many_86 (s_aload_n X dX10_many_88 rfl (s_get X dX10_many_89 (mcn (⟨_, _, _, _, rfl, inU_X10, by decide, uw_716, rfl⟩) (mnl)) (s_iload_n X dX10_many_92 rfl (s_iaload X dX10_many_93 (s_icmp_ge X dX10_many_94 (by decide) (s_iinc X dX10_many_126 rfl (by decide) (s_goto X dX10_many_129 (by decide) Sd.rf)) (s_iload_n X dX10_many_97 rfl (s_aload_n X dX10_many_98 rfl (s_get X dX10_many_99 (mcn (⟨_, _, _, _, rfl, inU_X10, by decide, uw_717, rfl⟩) (mnl)) (s_iconst X dX10_many_102 rfl (s_iload_n X dX10_many_103 rfl (s_imul X dX10_many_104 (s_iload X dX10_many_105 (s_iadd X dX10_many_107 (s_iaload X dX10_many_108 (s_iconst X dX10_many_109 rfl (s_icmp_ne X dX10_many_110 (by decide) (s_iconst X dX10_many_117 rfl Sd.rf) (s_iconst X dX10_many_113 rfl (s_goto X dX10_many_114 (by decide) Sd.rf)))))))))))))))))))
set_option maxRecDepth 100000 in
theorem sb_X10_many_4 {p : Program} {l : Launch} {e : Env} {s : State} {m : MethodId} {args : Array Value} {below : List Frame} {meth : Method} {c : Code} {g : Gm} {h0 : Hp} {P : PT} {mc ms : Nat} (X : Cx g p s m args meth c (Adom h0 s.heap.size) cX10_many RX10 5) (hr : meth.sig.returnType = some .int) (hn : meth.name = "many") : SX g p l e s m args below meth c d_X10_many 5 mc ms h0 P (bk_X10_many_4 l g (fun b => GX g p l e s m args below meth c d_X10_many 5 mc ms h0 P (pc_X10_many b)) P) 118 := (s_iadd X dX10_many_118 (s_istore_n X dX10_many_119 rfl (by decide) (s_iinc X dX10_many_120 rfl (by decide) (s_goto X dX10_many_123 (by decide) Sd.rf))))
set_option maxRecDepth 100000 in
theorem vc_X10_many {l : Launch} {g : Gm} {a0 : Nat} {a1 : Int32} {h : Hp} {mc ms : Nat} {P : PT} (H : ∀ G : Nat → CT, (∀ (b : Nat) (h : Hp) (cb sb : Nat) (ls : LocS) (st : List Value), bk_X10_many l g b G P h cb sb ls st → G b h cb sb ls st) → G 0 h mc ms [some (.ref a0), some (.int a1), none, none, none] []) : Run l g d_X10_many [.ref a0, .int a1] h mc ms P :=
  Run.of (d := d_X10_many) (by decide) (mcn rfl (mcn rfl (mnl))) (Nat.le_of_ble_eq_true rfl) (fun p e s m args below meth c X hr hn => H (fun b => GX g p l e s m args below meth c d_X10_many 5 mc ms h P (pc_X10_many b)) (fun b h1 cb sb ls st hb => match b, hb with
    | 0, hb => sb_X10_many_0 (p := p) (e := e) (below := below) X hr hn h1 cb sb ls st hb
    | 1, hb => sb_X10_many_1 (p := p) (e := e) (below := below) X hr hn h1 cb sb ls st hb
    | 2, hb => sb_X10_many_2 (p := p) (e := e) (below := below) X hr hn h1 cb sb ls st hb
    | 3, hb => sb_X10_many_3 (p := p) (e := e) (below := below) X hr hn h1 cb sb ls st hb
    | 4, hb => sb_X10_many_4 (p := p) (e := e) (below := below) X hr hn h1 cb sb ls st hb
    | _ + 5, hb => hb.elim))
