section MM5
variable {l : Launch} {g : Gm} {rl : Nat → Nat} {h : Hp} {K : PT} {m : Nat} {q : Nat → Nat} {I : Nat → Int32} {A : Nat → Nat → Int32} {Wy : Nat → Int64} {S : St} {L : Ld} {nd : Nat → Nat → Nat → Nat} {c : Nat → Nat}
theorem sm_le2 {f k : Nat → Nat} : ∀ n, (∀ v, v < n → f v ≤ k v) → sm f n ≤ sm k n
  | 0, _ => Nat.le_refl _
  | n + 1, h => by
    have h1 := sm_le2 n (fun v hv => h v (by omega))
    have h2 := h n (by omega)
    rw [sm_succ, sm_succ]; omega
theorem sm_lt2 {f k : Nat → Nat} {u : Nat} : ∀ n, (∀ v, v < n → f v ≤ k v) → u < n → f u < k u → sm f n < sm k n
  | n + 1, h, hu, hl => by
    rw [sm_succ, sm_succ]
    by_cases e : u = n
    · subst e
      have h1 := sm_le2 u (fun v hv => h v (by omega))
      omega
    · have h1 := sm_lt2 n (fun v hv => h v (by omega)) (by omega) hl
      have h2 := h n (by omega)
      omega
/-- the cut in the reference's hand becomes the least one that can be and has all of it -/
theorem m_close (hN : Need L nd) (hM : ModH g rl h m q I A Wy) (hL : MLand I A L nd) (hc : MCut A L c) (hK : ∀ (h1 : Hp) (F : Nat → Int32), ModH g rl h1 m q I (va_up A 21 F) Wy → (∀ v, v < vn L → F v = nI (Cl L nd c v)) → MX rl h h1 → K none h1) : Run l g d_X10_close [.ref m] h 0 0 K := by
  have h5 := hL.2.1
  have b1 := hL.1.1
  have hC := cl_ok hL.1 hN hc.1
  have hCb := cl_cbe hL.1 hN hc.1
  refine vc_X10_close (fun G hG => ?_)
  have step : ∀ n (d : Nat → Nat), sm d (vn L) + n = sm (Cl L nd c) (vn L) → (∀ v, v < vn L → c v ≤ d v ∧ d v ≤ Cl L nd c v) → ∀ (h1 : Hp) (F : Nat → Int32) (o2 o3 o4 : Option Value), ModH g rl h1 m q I (va_up A 21 F) Wy → (∀ v, v < vn L → F v = nI (d v)) → MX rl h h1 → G 1 h1 0 0 [some (.ref m), some (.int 1), o2, o3, o4] [] := by
    intro n
    induction n using Nat.strongRecOn with
    | ind n ihn =>
      intro d hd hcd h1 F o2 o3 o4 hM hF hx
      -- one pass: d0 is what it began with
      have pass : ∀ k v, v + k = vn L → ∀ (e : Nat → Nat) (x : Int32), (∀ w, w < vn L → d w ≤ e w ∧ e w ≤ Cl L nd c w) → ((x = 0 ∧ (∀ w, w < vn L → e w = d w) ∧ ∀ w, w < v → ∀ u, u < vn L → 0 < d w → nd w (d w - 1) u ≤ d u) ∨ (x = 1 ∧ sm d (vn L) < sm e (vn L))) → ∀ (h1 : Hp) (F : Nat → Int32) (o3 o4 : Option Value), ModH g rl h1 m q I (va_up A 21 F) Wy → (∀ v, v < vn L → F v = nI (e v)) → MX rl h h1 → G 2 h1 0 0 [some (.ref m), some (.int x), some (.int (nI v)), o3, o4] [] := by
        intro k
        induction k with
        | zero =>
          intro v hv e x he hst h1 F o3 o4 hM hF hx
          refine hG 2 _ _ _ _ _ ?_
          refine y_get hM.1 (by decide) rfl ?_
          rw [h5]
          refine b_ge v (vn L) (fun _ => ?_) (fun _ => by omega)
          rcases hst with ⟨rfl, hed, hcl⟩ | ⟨rfl, hlt⟩
          · refine hG 1 _ _ _ _ _ ?_
            refine b_yes rfl ?_
            refine hK h1 F hM (fun w hw => ?_) hx
            rw [hF w hw, hed w hw]
            congr 1
            have h9 := cl_least hL.1 hN (d := d) (fun w hw => Nat.le_trans (hcd w hw).2 (hC w hw)) (fun w hw => (hcd w hw).1) (fun w hw => hcl w (by omega)) hw
            have := (hcd w hw).2
            omega
          · have hle := sm_le2 (f := e) (k := Cl L nd c) (vn L) (fun w hw => (he w hw).2)
            exact ihn (sm (Cl L nd c) (vn L) - sm e (vn L)) (by omega) e (by omega) (fun w hw => ⟨Nat.le_trans (hcd w hw).1 (he w hw).1, (he w hw).2⟩) h1 F _ _ _ hM hF hx
        | succ k ih =>
          intro v hv e x he hst h1 F o3 o4 hM hF hx
          refine hG 2 _ _ _ _ _ ?_
          refine y_get hM.1 (by decide) rfl ?_
          rw [h5]
          refine b_ge v (vn L) (fun _ => by omega) (fun _ => ?_)
          have hvn : v < vn L := by omega
          have next : ∀ (e : Nat → Nat) (x : Int32), (∀ w, w < vn L → d w ≤ e w ∧ e w ≤ Cl L nd c w) → ((x = 0 ∧ (∀ w, w < vn L → e w = d w) ∧ ∀ w, w < v + 1 → ∀ u, u < vn L → 0 < d w → nd w (d w - 1) u ≤ d u) ∨ (x = 1 ∧ sm d (vn L) < sm e (vn L))) → ∀ (h1 : Hp) (F : Nat → Int32) (o3 o4 : Option Value), ModH g rl h1 m q I (va_up A 21 F) Wy → (∀ v, v < vn L → F v = nI (e v)) → MX rl h h1 → G 2 h1 0 0 [some (.ref m), some (.int x), some (.int (nI v + 1)), o3, o4] [] := fun e x he hst h1 F o3 o4 hM hF hx => by
            have ih9 := ih (v + 1) (by omega) e x he hst h1 F o3 o4 hM hF hx
            rw [nI_succ v] at ih9
            exact ih9 
          have inner : ∀ j u, u + j = vn L → ∀ (e : Nat → Nat) (x : Int32), (∀ w, w < vn L → d w ≤ e w ∧ e w ≤ Cl L nd c w) → ((x = 0 ∧ (∀ w, w < vn L → e w = d w) ∧ (∀ w, w < v → ∀ u, u < vn L → 0 < d w → nd w (d w - 1) u ≤ d u) ∧ ∀ w, w < u → 0 < d v → nd v (d v - 1) w ≤ d w) ∨ (x = 1 ∧ sm d (vn L) < sm e (vn L))) → ∀ (h1 : Hp) (F : Nat → Int32) (o4 : Option Value), ModH g rl h1 m q I (va_up A 21 F) Wy → (∀ v, v < vn L → F v = nI (e v)) → MX rl h h1 → G 3 h1 0 0 [some (.ref m), some (.int x), some (.int (nI v)), some (.int (nI u)), o4] [] := by
            intro j
            induction j with
            | zero =>
              intro u hu e x he hst h1 F o4 hM hF hx
              refine hG 3 _ _ _ _ _ ?_
              refine y_get hM.1 (by decide) rfl ?_
              rw [h5]
              refine b_ge u (vn L) (fun _ => ?_) (fun _ => by omega)
              refine next e x he ?_ h1 F _ _ hM hF hx
              rcases hst with ⟨rfl, s1, s2, s3⟩ | hst
              · exact Or.inl ⟨rfl, s1, lt_s s2 (fun w hw => s3 w (by omega))⟩
              · exact Or.inr hst
            | succ j ih2 =>
              intro u hu e x he hst h1 F o4 hM hF hx
              have hun : u < vn L := by omega
              have hev := he v hvn
              have hCv := hC v hvn
              have b2 := (hL.1.2 v hvn).2.2.1
              have heu := he u hun
              have hCu := hC u hun
              have b3 := (hL.1.2 u hun).2.2.1
              refine hG 3 _ _ _ _ _ ?_
              refine y_get hM.1 (by decide) rfl ?_
              rw [h5]
              refine b_ge u (vn L) (fun _ => by omega) (fun _ => ?_)
              refine y_get hM.1 (by decide) rfl ?_
              refine y_ia (v) hM.a21 (by omega) (hF v hvn) ?_
              refine pk_le (e v) 0 (fun z => ?_) (fun z => ?_)
              · refine next e x he ?_ h1 F _ _ hM hF hx
                rcases hst with ⟨rfl, s1, s2, s3⟩ | hst
                · exact Or.inl ⟨rfl, s1, lt_s s2 (fun w hw h0 => by have := s1 v hvn; omega)⟩
                · exact Or.inr hst
              obtain ⟨e1, e2⟩ := ((hL.2.2 v hvn).2.2 (e v - 1) (by omega)).2.2 u (by omega)
              refine y_get hM.1 (by decide) rfl ?_
              refine y_ia (v) hM.a21 (by omega) (hF v hvn) ?_
              have e9 : nI (e v) - 1 = nI (e v - 1) := pk_sub (b := 1) (by omega)
              refine y_call1 hM.1 (m_aheadOf hM (by omega) e1 ?_ rfl e9)
              have hitC : nd v (e v - 1) u ≤ Cl L nd c u := Nat.le_trans (nd_mn hN hvn (by omega) (by omega) (by omega)) (hCb v hvn u hun (by omega))
              -- the row becomes e' ; more becomes x'
              have fin : ∀ x' : Int32, ((x' = 0 ∧ x = 0 ∧ nd v (e v - 1) u ≤ e u) ∨ (x' = 1 ∧ (x = 1 ∨ e u < nd v (e v - 1) u))) → G 4 h1 0 0 [some (.ref m), some (.int x), some (.int (nI v)), some (.int (nI u)), some (.int (nI (nd v (e v - 1) u)))] [.int x'] := fun x' hx' => by
                have fin5 : ∀ y : Nat, y = (if e u < nd v (e v - 1) u then nd v (e v - 1) u else e u) → G 5 h1 0 0 [some (.ref m), some (.int x'), some (.int (nI v)), some (.int (nI u)), some (.int (nI (nd v (e v - 1) u)))] [.int (nI y), .int (nI u), .ref (q 21)] := fun y hy => by
                  refine hG 5 _ _ _ _ _ ?_
                  refine y_is u hM.a21 (by omega) (fun h2 e2 x2 => ?_)
                  have hM2 := hM.setA 21 e2 x2
                  rw [up_up] at hM2
                  have hye : e u ≤ y ∧ y ≤ Cl L nd c u := by rw [hy]; split <;> omega
                  have he2 : ∀ w, w < vn L → d w ≤ updN e u y w ∧ updN e u y w ≤ Cl L nd c w := fun w hw => by
                    by_cases ew : w = u
                    · subst ew; rw [updN_s]; omega
                    · rw [updN_n ew]; exact he w hw
                  refine (fun z => by rw [nI_succ u] at z; exact z) (ih2 (u + 1) (by omega) (updN e u y) x' he2 ?_ h2 _ _ hM2 (fun w hw => ?_) (hx.trs (MX.of x2)))
                  · rcases hx' with ⟨rfl, rfl, hle⟩ | ⟨rfl, hlt⟩
                    · rcases hst with ⟨-, s1, s2, s3⟩ | ⟨hst, -⟩
                      · have hyu : y = e u := by rw [hy, if_neg (by omega)]
                        refine Or.inl ⟨rfl, fun w hw => ?_, s2, lt_s s3 (fun h0 => ?_)⟩
                        · by_cases ew : w = u
                          · subst ew; rw [updN_s, hyu]; exact s1 w hw
                          · rw [updN_n ew]; exact s1 w hw
                        · rw [s1 v hvn, s1 u hun] at hle; exact hle
                      · exact absurd hst (by decide)
                    · refine Or.inr ⟨rfl, ?_⟩
                      rcases hlt with h1 | h1
                      · rcases hst with ⟨hst, -⟩ | ⟨-, hlt2⟩
                        · rw [h1] at hst; exact absurd hst (by decide)
                        · refine Nat.lt_of_lt_of_le hlt2 (sm_le2 _ (fun w hw => ?_))
                          by_cases ew : w = u
                          · subst ew; rw [updN_s]; omega
                          · rw [updN_n ew]; exact Nat.le_refl _
                      · have hyu : e u < y := by rw [hy, if_pos h1]; exact h1
                        refine Nat.lt_of_le_of_lt (sm_le2 (k := e) _ (fun w hw => (he w hw).1)) (sm_lt2 (u := u) _ (fun w hw => ?_) hun (by rw [updN_s]; exact hyu))
                        by_cases ew : w = u
                        · subst ew; rw [updN_s]; omega
                        · rw [updN_n ew]; exact Nat.le_refl _
                  · by_cases ew : w = u
                    · subst ew; rw [updN_s]; exact pk_us
                    · rw [updN_n ew]; exact (pk_un ew).trans (hF w hw)
                refine hG 4 _ _ _ _ _ ?_
                refine y_get hM.1 (by decide) rfl ?_
                refine y_get hM.1 (by decide) rfl ?_
                refine y_ia (u) hM.a21 (by omega) (hF u hun) ?_
                refine pk_le (nd v (e v - 1) u) (e u) (fun a => ?_) (fun a => ?_)
                · refine y_get hM.1 (by decide) rfl ?_
                  refine y_ia (u) hM.a21 (by omega) (hF u hun) ?_
                  exact fin5 _ (by rw [if_neg (by omega)])
                · exact fin5 _ (by rw [if_pos (by omega)])
              refine b_cases (fun a => ?_) (fun a => ?_)
              · refine y_get hM.1 (by decide) rfl ?_
                refine y_ia (u) hM.a21 (by omega) (hF u hun) ?_
                refine pk_le (nd v (e v - 1) u) (e u) (fun b => ?_) (fun b => ?_)
                · exact fin 0 (Or.inl ⟨rfl, a, b⟩)
                · exact fin 1 (Or.inr ⟨rfl, Or.inr b⟩)
              · refine fin 1 (Or.inr ⟨rfl, Or.inl ?_⟩)
                rcases hst with ⟨hst, -⟩ | ⟨hst, -⟩
                · exact absurd hst a
                · exact hst
          refine inner (vn L) 0 (by omega) e x he ?_ h1 F _ hM hF hx
          rcases hst with ⟨rfl, s1, s2⟩ | hst
          · exact Or.inl ⟨rfl, s1, s2, fun w hw => by omega⟩
          · exact Or.inr hst
      refine hG 1 _ _ _ _ _ ?_
      refine b_no (by decide) ?_
      exact pass (vn L) 0 (by omega) d 0 (fun w hw => ⟨Nat.le_refl _, (hcd w hw).2⟩) (Or.inl ⟨rfl, fun w _ => rfl, fun w hw => by omega⟩) h1 F o3 o4 hM hF hx
  refine hG 0 _ _ _ _ _ ?_
  have hle := sm_le2 (f := c) (k := Cl L nd c) (vn L) (fun w _ => cl_ge w)
  refine step (sm (Cl L nd c) (vn L) - sm c (vn L)) c (by omega) (fun w _ => ⟨Nat.le_refl _, cl_ge w⟩) h (A 21) _ _ _ ?_ hc.2 Ex.rf
  rw [up_id]
  exact hM
end MM5

