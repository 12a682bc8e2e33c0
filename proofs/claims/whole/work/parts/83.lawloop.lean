/-! ===== the law's loop ===== -/
section LLOOP
variable {l : Launch} {g : Gm} {b L : Nat} {xs : Nat → Int32} {G : Nat → CT} {a m : Nat}
theorem lw_loop (hG : LwG l g b L xs G) (hL : L ≤ 3072) : ∀ (n i cb sb : Nat) (rl : Nat → Nat) (h : Hp) (S : St), L + 1 ≤ i + 6 * n + 6 → i ≤ 4000 → 55 * n ≤ cb → 6500 * n ≤ sb → ClsH g rl h a S → ModR g rl h m S → G 1 h cb sb [some (.ref b), some (.ref a), some (.ref m), some (.int (nI i))] [] := by
  intro n
  induction n with
  | zero =>
    intro i cb sb rl h S h1 h2 h3 h4 hC hR
    refine hG 1 _ _ _ _ _ ?_
    refine ⟨rfl, ?_⟩
    refine b_cases (fun z => rfl) (fun z => ?_)
    have := lw_sub6 hL h2 z
    omega
  | succ n ih =>
    intro i cb sb rl h S h1 h2 h3 h4 hC hR
    refine hG 1 _ _ _ _ _ ?_
    refine ⟨rfl, ?_⟩
    refine b_cases (fun z => rfl) (fun z => ?_)
    have hi := lw_sub6 hL h2 z
    refine y_sld i rfl ?_
    have kk : LwK g G 31 b a m i cb sb := fun rl1 h5 S1 cb1 sb1 e1 e2 hC1 hR1 => by
      refine hG 31 _ _ _ _ _ ?_
      have ih9 := ih (i + 6) cb1 sb1 rl1 h5 S1 (by omega) (by omega) (by omega) (by omega) hC1 hR1
      rw [← nI_add i 6] at ih9
      exact ih9
    refine b_cases (fun _ => lc_land hG hL hi hC hR (by omega) (by omega) kk) (fun _ => ?_)
    refine b_cases (fun _ => lc_ofVillage hG hL hi hC hR (by omega) (by omega) kk) (fun _ => ?_)
    refine b_cases (fun _ => lc_thing hG hL hi hC hR (by omega) (by omega) kk) (fun _ => ?_)
    refine b_cases (fun _ => lc_ahead hG hL hi hC hR (by omega) (by omega) kk) (fun _ => ?_)
    refine b_cases (fun _ => lc_happen hG hL hi hC hR (by omega) (by omega) kk) (fun _ => ?_)
    refine b_cases (fun _ => lc_anew hG hL hi hC hR (by omega) (by omega) kk) (fun _ => ?_)
    refine b_cases (fun _ => lc_cut hG hL hi hC hR (by omega) (by omega) kk) (fun _ => ?_)
    refine b_cases (fun _ => lc_now hG hL hi hC hR (by omega) (by omega) kk) (fun _ => ?_)
    refine b_cases (fun _ => lc_tale hG hL hi hC hR (by omega) (by omega) kk) (fun _ => ?_)
    refine b_cases (fun _ => lc_cuts hG hL hi hC hR (by omega) (by omega) kk) (fun _ => ?_)
    refine b_cases (fun _ => lc_runs hG hL hi hC hR (by omega) (by omega) kk) (fun _ => ?_)
    refine b_cases (fun _ => lc_first hG hL hi hC hR (by omega) (by omega) kk) (fun _ => ?_)
    refine b_cases (fun _ => lc_some hG hL hi hC hR (by omega) (by omega) kk) (fun _ => ?_)
    refine b_cases (fun _ => lc_every hG hL hi hC hR (by omega) (by omega) kk) (fun _ => ?_)
    refine b_cases (fun _ => lc_reading hG hL hi hC hR (by omega) (by omega) kk) (fun _ => ?_)
    refine b_cases (fun _ => lc_back hG hL hi hC hR (by omega) (by omega) kk) (fun _ => ?_)
    refine b_cases (fun _ => lc_kinds hG hL hi hC hR (by omega) (by omega) kk) (fun _ => ?_)
    refine b_cases (fun _ => lc_odds hG hL hi hC hR (by omega) (by omega) kk) (fun _ => ?_)
    refine b_cases (fun _ => lc_sheet hG hL hi hC hR (by omega) (by omega) kk) (fun _ => ?_)
    refine b_cases (fun _ => lc_lose hG hL hi hC hR (by omega) (by omega) kk) (fun _ => ?_)
    refine b_cases (fun _ => lc_put hG hL hi hC hR (by omega) (by omega) kk) (fun _ => ?_)
    refine b_cases (fun _ => lc_cell hG hL hi hC hR (by omega) (by omega) kk) (fun _ => ?_)
    refine b_cases (fun _ => lc_copy hG hL hi hC hR (by omega) (by omega) kk) (fun _ => ?_)
    refine b_cases (fun _ => lc_tell hG hL hi hC hR (by omega) (by omega) kk) (fun _ => ?_)
    refine b_cases (fun _ => lc_ring hG hL hi hC hR (by omega) (by omega) kk) (fun _ => ?_)
    refine b_cases (fun _ => lc_as hG hL hi hC hR (by omega) (by omega) kk) (fun _ => ?_)
    refine b_cases (fun _ => lc_trace hG hL hi hC hR (by omega) (by omega) kk) (fun _ => ?_)
    refine b_cases (fun _ => lc_fault hG hL hi hC hR (by omega) (by omega) kk) (fun _ => ?_)
    refine b_cases (fun _ => lc_many hG hL hi hC hR (by omega) (by omega) kk) (fun _ => ?_)
    exact kk rl h S cb sb (by omega) (by omega) hC hR
end LLOOP

