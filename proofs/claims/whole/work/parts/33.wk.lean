theorem wk_n : wkL [] [] := trivial
theorem wk_x {b : aV} {l r : List aV} (h : wkL l r) : wkL (aX :: l) (b :: r) := ⟨Or.inl rfl, h⟩
theorem wk_e {a : aV} {l r : List aV} (h : wkL l r) : wkL (a :: l) (a :: r) := ⟨Or.inr rfl, h⟩
theorem aw_wkk {Γ : cx_T} {M : mt_T} {pc : Nat} {ls ls' st : List aV} {μ : mH} {Q : aV → mH → Prop} (k : aw Γ M pc ls' st μ Q) (h : wkL ls' ls) : aw Γ M pc ls st μ Q := aw_wk h k
