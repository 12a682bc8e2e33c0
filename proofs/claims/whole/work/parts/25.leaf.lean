section LEAF
variable {l : Launch} {g : Gm} {h : Hp} {K : PT}
/-- a letter, in the numbers of its fields -/
abbrev oLet (sent sender sentAs got getter gotAs : Nat) : va_E := .inr (3, [.int (nI sent), .int (nI sender), .int (nI sentAs), .int (nI got), .int (nI getter), .int (nI gotAs)])
theorem r_isSentIn {a b n : Nat} {f : Nat → Int32} {s1 s2 s3 s4 s5 s6 x : Nat} (hl : h a = some (oLet s1 s2 s3 s4 s5 s6)) (hc : h b = some (aI g n f)) (h2 : s2 < n) (hx : f s2 = nI x) (b1 : s1 < 1000) (b3 : s3 < 1000) (bx : x < 1000) (bn : n < 1000)
    (hK : K (some (.int (if 0 < s1 ∧ s3 < x then 1 else 0))) h) : Run l g d_X3_isSentIn [.ref a, .ref b] h 0 0 K := by
  refine vc_X3_isSentIn (fun G hG => ?_)
  refine hG 0 _ _ _ _ _ ?_
  refine x_get (by assumption) (by first | decide | assumption) rfl ?_
  refine pk_le s1 0 (fun q => ?_) (fun q => ?_)
  · refine ⟨Or.inl rfl, ?_⟩
    rw [if_neg (by omega)] at hK
    exact hK
  · refine x_get (by assumption) (by first | decide | assumption) rfl ?_
    refine x_ial s2 hc h2 hx ?_
    refine x_get (by assumption) (by first | decide | assumption) rfl ?_
    refine pk_le x s3 (fun q => ?_) (fun q => ?_)
    · refine ⟨Or.inl rfl, ?_⟩
      rw [if_neg (by omega)] at hK
      exact hK
    · refine ⟨Or.inr rfl, ?_⟩
      rw [if_pos (by omega)] at hK
      exact hK
end LEAF

