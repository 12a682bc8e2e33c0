section LCASE
variable {l : Launch} {g : Gm} {b L : Nat} {xs : Nat → Int32} {G : Nat → CT} {a m i cb sb : Nat} {rl : Nat → Nat} {h : Hp} {S : St}
theorem lc_land (hG : LwG l g b L xs G) (hL : L ≤ 3072) (hi : i + 6 ≤ L) (hC : ClsH g rl h a S) (hR : ModR g rl h m S) (h1 : 55 ≤ cb) (h2 : 6500 ≤ sb) (kk : LwK g G 31 b a m i cb sb) : G 2 h cb sb [some (.ref b), some (.ref a), some (.ref m), some (.int (nI i))] [] := by
  have hok := hR.1
  obtain ⟨fs, ea⟩ := hC.obj
  refine hG 2 _ _ _ _ _ ?_
  refine y_sld (i + 1) (nI_add i 1) ?_
  refine y_sld (i + 2) (nI_add i 2) ?_
  refine y_sld (i + 3) (nI_add i 3) ?_
  refine y_sld (i + 4) (nI_add i 4) ?_
  refine y_call1 ea (cc_land hok hC (fun rl1 h1 hC1 x1 => ?_))
  have hR1 := hR.ex x1 cx_m
  obtain ⟨fm, em⟩ := hR1.obj
  refine y_sld (i + 1) (nI_add i 1) ?_
  refine y_sld (i + 2) (nI_add i 2) ?_
  refine y_sld (i + 3) (nI_add i 3) ?_
  refine y_sld (i + 4) (nI_add i 4) ?_
  refine y_call1 em (mm_land hR1 (fun h3 hR2 x2 => ?_))
  have hC2 := hC1.ex hR2.1.2.1.1 x2 mx_c
  exact b_yes rfl (kk _ _ _ _ _ (by omega) (by omega) hC2 hR2)
theorem lc_ofVillage (hG : LwG l g b L xs G) (hL : L ≤ 3072) (hi : i + 6 ≤ L) (hC : ClsH g rl h a S) (hR : ModR g rl h m S) (h1 : 55 ≤ cb) (h2 : 6500 ≤ sb) (kk : LwK g G 31 b a m i cb sb) : G 3 h cb sb [some (.ref b), some (.ref a), some (.ref m), some (.int (nI i))] [] := by
  have hok := hR.1
  obtain ⟨fs, ea⟩ := hC.obj
  refine hG 3 _ _ _ _ _ ?_
  refine y_sld (i + 1) (nI_add i 1) ?_
  refine y_sld (i + 2) (nI_add i 2) ?_
  refine y_call1 ea (cc_ofVillage hok hC ?_)
  have hC1 := hC
  have hR1 := hR
  obtain ⟨fm, em⟩ := hR1.obj
  refine y_sld (i + 1) (nI_add i 1) ?_
  refine y_sld (i + 2) (nI_add i 2) ?_
  refine y_call1 em (mm_ofVillage hR1 (fun h3 hR2 x2 => ?_))
  have hC2 := hC1.ex hR2.1.2.1.1 x2 mx_c
  exact b_yes rfl (kk _ _ _ _ _ (by omega) (by omega) hC2 hR2)
theorem lc_thing (hG : LwG l g b L xs G) (hL : L ≤ 3072) (hi : i + 6 ≤ L) (hC : ClsH g rl h a S) (hR : ModR g rl h m S) (h1 : 55 ≤ cb) (h2 : 6500 ≤ sb) (kk : LwK g G 31 b a m i cb sb) : G 4 h cb sb [some (.ref b), some (.ref a), some (.ref m), some (.int (nI i))] [] := by
  have hok := hR.1
  obtain ⟨fs, ea⟩ := hC.obj
  refine hG 4 _ _ _ _ _ ?_
  refine y_sld (i + 1) (nI_add i 1) ?_
  refine y_sld (i + 2) (nI_add i 2) ?_
  refine y_sld (i + 3) (nI_add i 3) ?_
  refine y_call1 ea (cc_thing hok hC ?_)
  have hC1 := hC
  have hR1 := hR
  obtain ⟨fm, em⟩ := hR1.obj
  refine y_sld (i + 1) (nI_add i 1) ?_
  refine y_sld (i + 2) (nI_add i 2) ?_
  refine y_sld (i + 3) (nI_add i 3) ?_
  refine y_call1 em (mm_thing hR1 (fun h3 hR2 x2 => ?_))
  have hC2 := hC1.ex hR2.1.2.1.1 x2 mx_c
  exact b_yes rfl (kk _ _ _ _ _ (by omega) (by omega) hC2 hR2)
theorem lc_ahead (hG : LwG l g b L xs G) (hL : L ≤ 3072) (hi : i + 6 ≤ L) (hC : ClsH g rl h a S) (hR : ModR g rl h m S) (h1 : 55 ≤ cb) (h2 : 6500 ≤ sb) (kk : LwK g G 31 b a m i cb sb) : G 5 h cb sb [some (.ref b), some (.ref a), some (.ref m), some (.int (nI i))] [] := by
  have hok := hR.1
  obtain ⟨fs, ea⟩ := hC.obj
  refine hG 5 _ _ _ _ _ ?_
  refine y_sld (i + 1) (nI_add i 1) ?_
  refine y_sld (i + 2) (nI_add i 2) ?_
  refine y_sld (i + 3) (nI_add i 3) ?_
  refine y_sld (i + 4) (nI_add i 4) ?_
  refine y_call1 ea (cc_ahead hok hC ?_)
  have hC1 := hC
  have hR1 := hR
  obtain ⟨fm, em⟩ := hR1.obj
  refine y_sld (i + 1) (nI_add i 1) ?_
  refine y_sld (i + 2) (nI_add i 2) ?_
  refine y_sld (i + 3) (nI_add i 3) ?_
  refine y_sld (i + 4) (nI_add i 4) ?_
  refine y_call1 em (mm_ahead hR1 (fun h3 hR2 x2 => ?_))
  have hC2 := hC1.ex hR2.1.2.1.1 x2 mx_c
  exact b_yes rfl (kk _ _ _ _ _ (by omega) (by omega) hC2 hR2)
theorem lc_happen (hG : LwG l g b L xs G) (hL : L ≤ 3072) (hi : i + 6 ≤ L) (hC : ClsH g rl h a S) (hR : ModR g rl h m S) (h1 : 55 ≤ cb) (h2 : 6500 ≤ sb) (kk : LwK g G 31 b a m i cb sb) : G 6 h cb sb [some (.ref b), some (.ref a), some (.ref m), some (.int (nI i))] [] := by
  have hok := hR.1
  obtain ⟨fs, ea⟩ := hC.obj
  refine hG 6 _ _ _ _ _ ?_
  refine y_sld (i + 1) (nI_add i 1) ?_
  refine y_call1 ea (cc_happen hok hC (fun h1 hC1 x1 => ?_))
  have hR1 := hR.ex x1 cx_m
  obtain ⟨fm, em⟩ := hR1.obj
  refine y_sld (i + 1) (nI_add i 1) ?_
  refine y_call1 em (mm_happen hR1 (fun h3 hR2 x2 => ?_))
  have hC2 := hC1.ex hR2.1.2.1.1 x2 mx_c
  exact b_yes rfl (kk _ _ _ _ _ (by omega) (by omega) hC2 hR2)
theorem lc_anew (hG : LwG l g b L xs G) (hL : L ≤ 3072) (hi : i + 6 ≤ L) (hC : ClsH g rl h a S) (hR : ModR g rl h m S) (h1 : 55 ≤ cb) (h2 : 6500 ≤ sb) (kk : LwK g G 31 b a m i cb sb) : G 7 h cb sb [some (.ref b), some (.ref a), some (.ref m), some (.int (nI i))] [] := by
  have hok := hR.1
  obtain ⟨fs, ea⟩ := hC.obj
  refine hG 7 _ _ _ _ _ ?_
  refine y_call1 ea (cc_anew hok hC (fun h1 hC1 x1 => ?_))
  have hR1 := hR.ex x1 cx_m
  obtain ⟨fm, em⟩ := hR1.obj
  refine y_call1 em (mm_anew hR1 (fun h3 hR2 x2 => ?_))
  have hC2 := hC1.ex hR2.1.2.1.1 x2 mx_c
  exact b_yes rfl (kk _ _ _ _ _ (by omega) (by omega) hC2 hR2)
theorem lc_cut (hG : LwG l g b L xs G) (hL : L ≤ 3072) (hi : i + 6 ≤ L) (hC : ClsH g rl h a S) (hR : ModR g rl h m S) (h1 : 55 ≤ cb) (h2 : 6500 ≤ sb) (kk : LwK g G 31 b a m i cb sb) : G 8 h cb sb [some (.ref b), some (.ref a), some (.ref m), some (.int (nI i))] [] := by
  have hok := hR.1
  obtain ⟨fs, ea⟩ := hC.obj
  refine hG 8 _ _ _ _ _ ?_
  refine y_sld (i + 1) (nI_add i 1) ?_
  refine y_sld (i + 2) (nI_add i 2) ?_
  refine y_sld (i + 3) (nI_add i 3) ?_
  refine y_sld (i + 4) (nI_add i 4) ?_
  refine y_call1 ea (cc_cut hok hC (fun h1 hC1 x1 => ?_))
  have hR1 := hR.ex x1 cx_m
  obtain ⟨fm, em⟩ := hR1.obj
  refine y_sld (i + 1) (nI_add i 1) ?_
  refine y_sld (i + 2) (nI_add i 2) ?_
  refine y_sld (i + 3) (nI_add i 3) ?_
  refine y_sld (i + 4) (nI_add i 4) ?_
  refine y_call1 em (mm_cut hR1 (fun h3 hR2 x2 => ?_))
  have hC2 := hC1.ex hR2.1.2.1.1 x2 mx_c
  exact b_yes rfl (kk _ _ _ _ _ (by omega) (by omega) hC2 hR2)
theorem lc_now (hG : LwG l g b L xs G) (hL : L ≤ 3072) (hi : i + 6 ≤ L) (hC : ClsH g rl h a S) (hR : ModR g rl h m S) (h1 : 55 ≤ cb) (h2 : 6500 ≤ sb) (kk : LwK g G 31 b a m i cb sb) : G 9 h cb sb [some (.ref b), some (.ref a), some (.ref m), some (.int (nI i))] [] := by
  have hok := hR.1
  obtain ⟨fs, ea⟩ := hC.obj
  refine hG 9 _ _ _ _ _ ?_
  refine y_sld (i + 1) (nI_add i 1) ?_
  refine y_call1 ea (cc_now hok hC ?_)
  have hC1 := hC
  have hR1 := hR
  obtain ⟨fm, em⟩ := hR1.obj
  refine y_sld (i + 1) (nI_add i 1) ?_
  refine y_call1 em (mm_now hR1 (fun h3 hR2 x2 => ?_))
  have hC2 := hC1.ex hR2.1.2.1.1 x2 mx_c
  exact b_yes rfl (kk _ _ _ _ _ (by omega) (by omega) hC2 hR2)
theorem lc_tale (hG : LwG l g b L xs G) (hL : L ≤ 3072) (hi : i + 6 ≤ L) (hC : ClsH g rl h a S) (hR : ModR g rl h m S) (h1 : 55 ≤ cb) (h2 : 6500 ≤ sb) (kk : LwK g G 31 b a m i cb sb) : G 10 h cb sb [some (.ref b), some (.ref a), some (.ref m), some (.int (nI i))] [] := by
  have hok := hR.1
  obtain ⟨fs, ea⟩ := hC.obj
  refine hG 10 _ _ _ _ _ ?_
  refine y_sld (i + 1) (nI_add i 1) ?_
  refine y_sld (i + 2) (nI_add i 2) ?_
  refine y_sld (i + 3) (nI_add i 3) ?_
  refine y_sld (i + 4) (nI_add i 4) ?_
  refine y_sld (i + 5) (nI_add i 5) ?_
  refine y_call1 ea (cc_tale hok hC (fun h1 hC1 x1 => ?_))
  have hR1 := hR.ex x1 cx_m
  obtain ⟨fm, em⟩ := hR1.obj
  refine y_sld (i + 1) (nI_add i 1) ?_
  refine y_sld (i + 2) (nI_add i 2) ?_
  refine y_sld (i + 3) (nI_add i 3) ?_
  refine y_sld (i + 4) (nI_add i 4) ?_
  refine y_sld (i + 5) (nI_add i 5) ?_
  refine y_call1 em (mm_tale hR1 (fun h3 hR2 x2 => ?_))
  have hC2 := hC1.ex hR2.1.2.1.1 x2 mx_c
  exact b_yes rfl (kk _ _ _ _ _ (by omega) (by omega) hC2 hR2)
theorem lc_cuts (hG : LwG l g b L xs G) (hL : L ≤ 3072) (hi : i + 6 ≤ L) (hC : ClsH g rl h a S) (hR : ModR g rl h m S) (h1 : 55 ≤ cb) (h2 : 6500 ≤ sb) (kk : LwK g G 31 b a m i cb sb) : G 11 h cb sb [some (.ref b), some (.ref a), some (.ref m), some (.int (nI i))] [] := by
  have hok := hR.1
  obtain ⟨fs, ea⟩ := hC.obj
  refine hG 11 _ _ _ _ _ ?_
  refine y_call1 ea (cc_cuts hok hC (fun rl1 h1 hC1 x1 => ?_))
  have hR1 := hR.ex x1 cx_m
  obtain ⟨fm, em⟩ := hR1.obj
  refine y_call1 em (mm_cuts hR1 (fun h3 hR2 x2 => ?_))
  have hC2 := hC1.ex hR2.1.2.1.1 x2 mx_c
  exact b_yes rfl (kk _ _ _ _ _ (by omega) (by omega) hC2 hR2)
theorem lc_runs (hG : LwG l g b L xs G) (hL : L ≤ 3072) (hi : i + 6 ≤ L) (hC : ClsH g rl h a S) (hR : ModR g rl h m S) (h1 : 55 ≤ cb) (h2 : 6500 ≤ sb) (kk : LwK g G 31 b a m i cb sb) : G 12 h cb sb [some (.ref b), some (.ref a), some (.ref m), some (.int (nI i))] [] := by
  have hok := hR.1
  obtain ⟨fs, ea⟩ := hC.obj
  refine hG 12 _ _ _ _ _ ?_
  refine y_call1 ea (cc_runs hok hC (fun rl1 h1 hC1 x1 => ?_))
  have hR1 := hR.ex x1 cx_m
  obtain ⟨fm, em⟩ := hR1.obj
  refine y_call1 em (mm_runs hR1 (fun h3 hR2 x2 => ?_))
  have hC2 := hC1.ex hR2.1.2.1.1 x2 mx_c
  exact b_yes ((lg_cmp_eq _ _).mpr rfl) (kk _ _ _ _ _ (by omega) (by omega) hC2 hR2)
theorem lc_first (hG : LwG l g b L xs G) (hL : L ≤ 3072) (hi : i + 6 ≤ L) (hC : ClsH g rl h a S) (hR : ModR g rl h m S) (h1 : 55 ≤ cb) (h2 : 6500 ≤ sb) (kk : LwK g G 31 b a m i cb sb) : G 13 h cb sb [some (.ref b), some (.ref a), some (.ref m), some (.int (nI i))] [] := by
  have hok := hR.1
  obtain ⟨fs, ea⟩ := hC.obj
  refine hG 13 _ _ _ _ _ ?_
  refine y_sld (i + 1) (nI_add i 1) ?_
  refine y_call1 ea (cc_first hok hC ?_)
  have hC1 := hC
  have hR1 := hR
  obtain ⟨fm, em⟩ := hR1.obj
  refine y_sld (i + 1) (nI_add i 1) ?_
  refine y_call1 em (mm_first hR1 (fun h3 hR2 x2 => ?_))
  have hC2 := hC1.ex hR2.1.2.1.1 x2 mx_c
  exact b_yes rfl (kk _ _ _ _ _ (by omega) (by omega) hC2 hR2)
theorem lc_some (hG : LwG l g b L xs G) (hL : L ≤ 3072) (hi : i + 6 ≤ L) (hC : ClsH g rl h a S) (hR : ModR g rl h m S) (h1 : 55 ≤ cb) (h2 : 6500 ≤ sb) (kk : LwK g G 31 b a m i cb sb) : G 14 h cb sb [some (.ref b), some (.ref a), some (.ref m), some (.int (nI i))] [] := by
  have hok := hR.1
  obtain ⟨fs, ea⟩ := hC.obj
  refine hG 14 _ _ _ _ _ ?_
  refine y_sld (i + 1) (nI_add i 1) ?_
  refine y_call1 ea (cc_some hok hC (fun rl1 h1 hC1 x1 => ?_))
  have hR1 := hR.ex x1 cx_m
  obtain ⟨fm, em⟩ := hR1.obj
  refine y_sld (i + 1) (nI_add i 1) ?_
  refine y_call1 em (mm_some hR1 (fun h3 hR2 x2 => ?_))
  have hC2 := hC1.ex hR2.1.2.1.1 x2 mx_c
  exact b_yes rfl (kk _ _ _ _ _ (by omega) (by omega) hC2 hR2)
theorem lc_every (hG : LwG l g b L xs G) (hL : L ≤ 3072) (hi : i + 6 ≤ L) (hC : ClsH g rl h a S) (hR : ModR g rl h m S) (h1 : 55 ≤ cb) (h2 : 6500 ≤ sb) (kk : LwK g G 31 b a m i cb sb) : G 15 h cb sb [some (.ref b), some (.ref a), some (.ref m), some (.int (nI i))] [] := by
  have hok := hR.1
  obtain ⟨fs, ea⟩ := hC.obj
  refine hG 15 _ _ _ _ _ ?_
  refine y_sld (i + 1) (nI_add i 1) ?_
  refine y_call1 ea (cc_every hok hC (fun rl1 h1 hC1 x1 => ?_))
  have hR1 := hR.ex x1 cx_m
  obtain ⟨fm, em⟩ := hR1.obj
  refine y_sld (i + 1) (nI_add i 1) ?_
  refine y_call1 em (mm_every hR1 (fun h3 hR2 x2 => ?_))
  have hC2 := hC1.ex hR2.1.2.1.1 x2 mx_c
  exact b_yes rfl (kk _ _ _ _ _ (by omega) (by omega) hC2 hR2)
theorem lc_reading (hG : LwG l g b L xs G) (hL : L ≤ 3072) (hi : i + 6 ≤ L) (hC : ClsH g rl h a S) (hR : ModR g rl h m S) (h1 : 55 ≤ cb) (h2 : 6500 ≤ sb) (kk : LwK g G 31 b a m i cb sb) : G 16 h cb sb [some (.ref b), some (.ref a), some (.ref m), some (.int (nI i))] [] := by
  have hok := hR.1
  obtain ⟨fs, ea⟩ := hC.obj
  refine hG 16 _ _ _ _ _ ?_
  refine y_sld (i + 1) (nI_add i 1) ?_
  refine y_sld (i + 2) (nI_add i 2) ?_
  refine y_sld (i + 3) (nI_add i 3) ?_
  refine y_sld (i + 4) (nI_add i 4) ?_
  refine y_call1 ea (cc_reading hok hC (fun h1 hC1 x1 => ?_))
  have hR1 := hR.ex x1 cx_m
  obtain ⟨fm, em⟩ := hR1.obj
  refine y_sld (i + 1) (nI_add i 1) ?_
  refine y_sld (i + 2) (nI_add i 2) ?_
  refine y_sld (i + 3) (nI_add i 3) ?_
  refine y_sld (i + 4) (nI_add i 4) ?_
  refine y_call1 em (mm_reading hR1 (fun h3 hR2 x2 => ?_))
  have hC2 := hC1.ex hR2.1.2.1.1 x2 mx_c
  exact b_yes rfl (kk _ _ _ _ _ (by omega) (by omega) hC2 hR2)
theorem lc_back (hG : LwG l g b L xs G) (hL : L ≤ 3072) (hi : i + 6 ≤ L) (hC : ClsH g rl h a S) (hR : ModR g rl h m S) (h1 : 55 ≤ cb) (h2 : 6500 ≤ sb) (kk : LwK g G 31 b a m i cb sb) : G 17 h cb sb [some (.ref b), some (.ref a), some (.ref m), some (.int (nI i))] [] := by
  have hok := hR.1
  obtain ⟨fs, ea⟩ := hC.obj
  refine hG 17 _ _ _ _ _ ?_
  refine y_sld (i + 1) (nI_add i 1) ?_
  refine y_call1 ea (cc_back hok hC (fun h1 hC1 x1 => ?_))
  have hR1 := hR.ex x1 cx_m
  obtain ⟨fm, em⟩ := hR1.obj
  refine y_sld (i + 1) (nI_add i 1) ?_
  refine y_call1 em (mm_back hR1 (fun h3 hR2 x2 => ?_))
  have hC2 := hC1.ex hR2.1.2.1.1 x2 mx_c
  exact b_yes rfl (kk _ _ _ _ _ (by omega) (by omega) hC2 hR2)
theorem lc_kinds (hG : LwG l g b L xs G) (hL : L ≤ 3072) (hi : i + 6 ≤ L) (hC : ClsH g rl h a S) (hR : ModR g rl h m S) (h1 : 55 ≤ cb) (h2 : 6500 ≤ sb) (kk : LwK g G 31 b a m i cb sb) : G 18 h cb sb [some (.ref b), some (.ref a), some (.ref m), some (.int (nI i))] [] := by
  have hok := hR.1
  obtain ⟨fs, ea⟩ := hC.obj
  refine hG 18 _ _ _ _ _ ?_
  refine y_sld (i + 1) (nI_add i 1) ?_
  refine y_call1 ea (cc_kinds hok hC ?_)
  have hC1 := hC
  have hR1 := hR
  obtain ⟨fm, em⟩ := hR1.obj
  refine y_sld (i + 1) (nI_add i 1) ?_
  refine y_call1 em (mm_kinds hR1 (fun h3 hR2 x2 => ?_))
  have hC2 := hC1.ex hR2.1.2.1.1 x2 mx_c
  exact b_yes rfl (kk _ _ _ _ _ (by omega) (by omega) hC2 hR2)
theorem lc_odds (hG : LwG l g b L xs G) (hL : L ≤ 3072) (hi : i + 6 ≤ L) (hC : ClsH g rl h a S) (hR : ModR g rl h m S) (h1 : 55 ≤ cb) (h2 : 6500 ≤ sb) (kk : LwK g G 31 b a m i cb sb) : G 19 h cb sb [some (.ref b), some (.ref a), some (.ref m), some (.int (nI i))] [] := by
  have hok := hR.1
  obtain ⟨fs, ea⟩ := hC.obj
  refine hG 19 _ _ _ _ _ ?_
  refine y_sld (i + 1) (nI_add i 1) ?_
  refine y_sld (i + 2) (nI_add i 2) ?_
  refine y_call1 ea (cc_odds hok hC (fun rl1 h1 hC1 x1 => ?_))
  have hR1 := hR.ex x1 cx_m
  obtain ⟨fm, em⟩ := hR1.obj
  refine y_sld (i + 1) (nI_add i 1) ?_
  refine y_sld (i + 2) (nI_add i 2) ?_
  refine y_call1 em (mm_odds hR1 (fun h3 hR2 x2 => ?_))
  have hC2 := hC1.ex hR2.1.2.1.1 x2 mx_c
  exact b_yes ((lg_cmp_eq _ _).mpr rfl) (kk _ _ _ _ _ (by omega) (by omega) hC2 hR2)
theorem lc_sheet (hG : LwG l g b L xs G) (hL : L ≤ 3072) (hi : i + 6 ≤ L) (hC : ClsH g rl h a S) (hR : ModR g rl h m S) (h1 : 55 ≤ cb) (h2 : 6500 ≤ sb) (kk : LwK g G 31 b a m i cb sb) : G 20 h cb sb [some (.ref b), some (.ref a), some (.ref m), some (.int (nI i))] [] := by
  have hok := hR.1
  obtain ⟨fs, ea⟩ := hC.obj
  refine hG 20 _ _ _ _ _ ?_
  refine y_sld (i + 1) (nI_add i 1) ?_
  refine y_sld (i + 2) (nI_add i 2) ?_
  refine y_sld (i + 3) (nI_add i 3) ?_
  refine y_call1 ea (cc_sheet hok hC (fun h1 hC1 x1 => ?_))
  have hR1 := hR.ex x1 cx_m
  obtain ⟨fm, em⟩ := hR1.obj
  refine y_sld (i + 1) (nI_add i 1) ?_
  refine y_sld (i + 2) (nI_add i 2) ?_
  refine y_sld (i + 3) (nI_add i 3) ?_
  refine y_call1 em (mm_sheet hR1 (fun h3 hR2 x2 => ?_))
  have hC2 := hC1.ex hR2.1.2.1.1 x2 mx_c
  exact b_yes rfl (kk _ _ _ _ _ (by omega) (by omega) hC2 hR2)
theorem lc_lose (hG : LwG l g b L xs G) (hL : L ≤ 3072) (hi : i + 6 ≤ L) (hC : ClsH g rl h a S) (hR : ModR g rl h m S) (h1 : 55 ≤ cb) (h2 : 6500 ≤ sb) (kk : LwK g G 31 b a m i cb sb) : G 21 h cb sb [some (.ref b), some (.ref a), some (.ref m), some (.int (nI i))] [] := by
  have hok := hR.1
  obtain ⟨fs, ea⟩ := hC.obj
  refine hG 21 _ _ _ _ _ ?_
  refine y_sld (i + 1) (nI_add i 1) ?_
  refine y_call1 ea (cc_lose hok hC (fun h1 hC1 x1 => ?_))
  have hR1 := hR.ex x1 cx_m
  obtain ⟨fm, em⟩ := hR1.obj
  refine y_sld (i + 1) (nI_add i 1) ?_
  refine y_call1 em (mm_lose hR1 (fun h3 hR2 x2 => ?_))
  have hC2 := hC1.ex hR2.1.2.1.1 x2 mx_c
  exact b_yes rfl (kk _ _ _ _ _ (by omega) (by omega) hC2 hR2)
theorem lc_put (hG : LwG l g b L xs G) (hL : L ≤ 3072) (hi : i + 6 ≤ L) (hC : ClsH g rl h a S) (hR : ModR g rl h m S) (h1 : 55 ≤ cb) (h2 : 6500 ≤ sb) (kk : LwK g G 31 b a m i cb sb) : G 22 h cb sb [some (.ref b), some (.ref a), some (.ref m), some (.int (nI i))] [] := by
  have hok := hR.1
  obtain ⟨fs, ea⟩ := hC.obj
  refine hG 22 _ _ _ _ _ ?_
  refine y_sld (i + 1) (nI_add i 1) ?_
  refine y_sld (i + 2) (nI_add i 2) ?_
  refine y_sld (i + 3) (nI_add i 3) ?_
  refine y_call1 ea (cc_put hok hC (fun h1 hC1 x1 => ?_))
  have hR1 := hR.ex x1 cx_m
  obtain ⟨fm, em⟩ := hR1.obj
  refine y_sld (i + 1) (nI_add i 1) ?_
  refine y_sld (i + 2) (nI_add i 2) ?_
  refine y_sld (i + 3) (nI_add i 3) ?_
  refine y_call1 em (mm_put hR1 (fun h3 hR2 x2 => ?_))
  have hC2 := hC1.ex hR2.1.2.1.1 x2 mx_c
  exact b_yes rfl (kk _ _ _ _ _ (by omega) (by omega) hC2 hR2)
theorem lc_cell (hG : LwG l g b L xs G) (hL : L ≤ 3072) (hi : i + 6 ≤ L) (hC : ClsH g rl h a S) (hR : ModR g rl h m S) (h1 : 55 ≤ cb) (h2 : 6500 ≤ sb) (kk : LwK g G 31 b a m i cb sb) : G 23 h cb sb [some (.ref b), some (.ref a), some (.ref m), some (.int (nI i))] [] := by
  have hok := hR.1
  obtain ⟨fs, ea⟩ := hC.obj
  refine hG 23 _ _ _ _ _ ?_
  refine y_sld (i + 1) (nI_add i 1) ?_
  refine y_sld (i + 2) (nI_add i 2) ?_
  refine y_sld (i + 3) (nI_add i 3) ?_
  refine y_call1 ea (cc_cell hok hC (fun h1 hC1 x1 => ?_))
  have hR1 := hR.ex x1 cx_m
  obtain ⟨fm, em⟩ := hR1.obj
  refine y_sld (i + 1) (nI_add i 1) ?_
  refine y_sld (i + 2) (nI_add i 2) ?_
  refine y_sld (i + 3) (nI_add i 3) ?_
  refine y_call1 em (mm_cell hR1 (fun h3 hR2 x2 => ?_))
  have hC2 := hC1.ex hR2.1.2.1.1 x2 mx_c
  exact b_yes ((lg_cmp_eq _ _).mpr rfl) (kk _ _ _ _ _ (by omega) (by omega) hC2 hR2)
theorem lc_copy (hG : LwG l g b L xs G) (hL : L ≤ 3072) (hi : i + 6 ≤ L) (hC : ClsH g rl h a S) (hR : ModR g rl h m S) (h1 : 55 ≤ cb) (h2 : 6500 ≤ sb) (kk : LwK g G 31 b a m i cb sb) : G 24 h cb sb [some (.ref b), some (.ref a), some (.ref m), some (.int (nI i))] [] := by
  have hok := hR.1
  obtain ⟨fs, ea⟩ := hC.obj
  refine hG 24 _ _ _ _ _ ?_
  refine y_sld (i + 1) (nI_add i 1) ?_
  refine y_sld (i + 2) (nI_add i 2) ?_
  refine y_sld (i + 3) (nI_add i 3) ?_
  refine y_sld (i + 4) (nI_add i 4) ?_
  refine y_sld (i + 5) (nI_add i 5) ?_
  refine y_call1 ea (cc_copy hok hC (fun h1 hC1 x1 => ?_))
  have hR1 := hR.ex x1 cx_m
  obtain ⟨fm, em⟩ := hR1.obj
  refine y_sld (i + 1) (nI_add i 1) ?_
  refine y_sld (i + 2) (nI_add i 2) ?_
  refine y_sld (i + 3) (nI_add i 3) ?_
  refine y_sld (i + 4) (nI_add i 4) ?_
  refine y_sld (i + 5) (nI_add i 5) ?_
  refine y_call1 em (mm_copy hR1 (fun h3 hR2 x2 => ?_))
  have hC2 := hC1.ex hR2.1.2.1.1 x2 mx_c
  exact b_yes rfl (kk _ _ _ _ _ (by omega) (by omega) hC2 hR2)
theorem lc_tell (hG : LwG l g b L xs G) (hL : L ≤ 3072) (hi : i + 6 ≤ L) (hC : ClsH g rl h a S) (hR : ModR g rl h m S) (h1 : 55 ≤ cb) (h2 : 6500 ≤ sb) (kk : LwK g G 31 b a m i cb sb) : G 25 h cb sb [some (.ref b), some (.ref a), some (.ref m), some (.int (nI i))] [] := by
  have hok := hR.1
  obtain ⟨fs, ea⟩ := hC.obj
  refine hG 25 _ _ _ _ _ ?_
  refine y_sld (i + 1) (nI_add i 1) ?_
  refine y_call1 ea (cc_tell hok hC (fun h1 hC1 x1 => ?_))
  have hR1 := hR.ex x1 cx_m
  obtain ⟨fm, em⟩ := hR1.obj
  refine y_sld (i + 1) (nI_add i 1) ?_
  refine y_call1 em (mm_tell hR1 (fun h3 hR2 x2 => ?_))
  have hC2 := hC1.ex hR2.1.2.1.1 x2 mx_c
  exact b_yes rfl (kk _ _ _ _ _ (by omega) (by omega) hC2 hR2)
theorem lc_ring (hG : LwG l g b L xs G) (hL : L ≤ 3072) (hi : i + 6 ≤ L) (hC : ClsH g rl h a S) (hR : ModR g rl h m S) (h1 : 55 ≤ cb) (h2 : 6500 ≤ sb) (kk : LwK g G 31 b a m i cb sb) : G 26 h cb sb [some (.ref b), some (.ref a), some (.ref m), some (.int (nI i))] [] := by
  have hok := hR.1
  obtain ⟨fs, ea⟩ := hC.obj
  refine hG 26 _ _ _ _ _ ?_
  refine y_sld (i + 1) (nI_add i 1) ?_
  refine y_call1 ea (cc_ring hok hC (fun h1 hC1 x1 => ?_))
  have hR1 := hR.ex x1 cx_m
  obtain ⟨fm, em⟩ := hR1.obj
  refine y_sld (i + 1) (nI_add i 1) ?_
  refine y_call1 em (mm_ring hR1 (fun h3 hR2 x2 => ?_))
  have hC2 := hC1.ex hR2.1.2.1.1 x2 mx_c
  exact b_yes rfl (kk _ _ _ _ _ (by omega) (by omega) hC2 hR2)
theorem lc_as (hG : LwG l g b L xs G) (hL : L ≤ 3072) (hi : i + 6 ≤ L) (hC : ClsH g rl h a S) (hR : ModR g rl h m S) (h1 : 55 ≤ cb) (h2 : 6500 ≤ sb) (kk : LwK g G 31 b a m i cb sb) : G 27 h cb sb [some (.ref b), some (.ref a), some (.ref m), some (.int (nI i))] [] := by
  have hok := hR.1
  obtain ⟨fs, ea⟩ := hC.obj
  refine hG 27 _ _ _ _ _ ?_
  refine y_sld (i + 1) (nI_add i 1) ?_
  refine y_sld (i + 2) (nI_add i 2) ?_
  refine y_call1 ea (cc_as hok hC (fun h1 hC1 x1 => ?_))
  have hR1 := hR.ex x1 cx_m
  obtain ⟨fm, em⟩ := hR1.obj
  refine y_sld (i + 1) (nI_add i 1) ?_
  refine y_sld (i + 2) (nI_add i 2) ?_
  refine y_call1 em (mm_as hR1 (fun h3 hR2 x2 => ?_))
  have hC2 := hC1.ex hR2.1.2.1.1 x2 mx_c
  exact b_yes rfl (kk _ _ _ _ _ (by omega) (by omega) hC2 hR2)
theorem lc_trace (hG : LwG l g b L xs G) (hL : L ≤ 3072) (hi : i + 6 ≤ L) (hC : ClsH g rl h a S) (hR : ModR g rl h m S) (h1 : 55 ≤ cb) (h2 : 6500 ≤ sb) (kk : LwK g G 31 b a m i cb sb) : G 28 h cb sb [some (.ref b), some (.ref a), some (.ref m), some (.int (nI i))] [] := by
  have hok := hR.1
  obtain ⟨fs, ea⟩ := hC.obj
  refine hG 28 _ _ _ _ _ ?_
  refine y_call1 ea (cc_trace hok hC ?_)
  have hC1 := hC
  have hR1 := hR
  obtain ⟨fm, em⟩ := hR1.obj
  refine y_call1 em (mm_trace hR1 ?_)
  have hC2 := hC1
  have hR2 := hR1
  exact b_yes rfl (kk _ _ _ _ _ (by omega) (by omega) hC2 hR2)
theorem lc_fault (hG : LwG l g b L xs G) (hL : L ≤ 3072) (hi : i + 6 ≤ L) (hC : ClsH g rl h a S) (hR : ModR g rl h m S) (h1 : 55 ≤ cb) (h2 : 6500 ≤ sb) (kk : LwK g G 31 b a m i cb sb) : G 29 h cb sb [some (.ref b), some (.ref a), some (.ref m), some (.int (nI i))] [] := by
  have hok := hR.1
  obtain ⟨fs, ea⟩ := hC.obj
  refine hG 29 _ _ _ _ _ ?_
  refine y_call1 ea (cc_fault hok hC ?_)
  have hC1 := hC
  have hR1 := hR
  obtain ⟨fm, em⟩ := hR1.obj
  refine y_call1 em (mm_fault hR1 ?_)
  have hC2 := hC1
  have hR2 := hR1
  exact b_yes rfl (kk _ _ _ _ _ (by omega) (by omega) hC2 hR2)
theorem lc_many (hG : LwG l g b L xs G) (hL : L ≤ 3072) (hi : i + 6 ≤ L) (hC : ClsH g rl h a S) (hR : ModR g rl h m S) (h1 : 55 ≤ cb) (h2 : 6500 ≤ sb) (kk : LwK g G 31 b a m i cb sb) : G 30 h cb sb [some (.ref b), some (.ref a), some (.ref m), some (.int (nI i))] [] := by
  have hok := hR.1
  obtain ⟨fs, ea⟩ := hC.obj
  refine hG 30 _ _ _ _ _ ?_
  refine y_sld (i + 1) (nI_add i 1) ?_
  refine y_call1 ea (cc_many hok hC ?_)
  have hC1 := hC
  have hR1 := hR
  obtain ⟨fm, em⟩ := hR1.obj
  refine y_sld (i + 1) (nI_add i 1) ?_
  refine y_call1 em (mm_many hR1 ?_)
  have hC2 := hC1
  have hR2 := hR1
  exact b_yes rfl (kk _ _ _ _ _ (by omega) (by omega) hC2 hR2)
end LCASE
