/-- the heap behind both constructors -/
def mu0 : mH := fun K i s => if (K = 3 ∧ (s = 5 ∨ s = 6)) ∨ K = 27 then -1 else if (K = 35 ∧ i < 2) ∨ K = 47 then 25 else 0
abbrev L0 : lkT := look mu0
def szk (K : Nat) : Nat := match kd K with
  | some (.inl ci) => match vwCl[ci]? with
    | some r => r.2.2
    | none => 0
  | some (.inr (_, n)) => n
  | none => 0
/-- all that stands, but for what X names, is as it will be -/
def AG (n : Nat) (lk : lkT) (X : Nat → Prop) : Prop := ∀ o, o < n → ¬ X o → ∀ s, s < szk (nm o).1 → lk (nm o).1 (nm o).2 s = L0 (nm o).1 (nm o).2 s
theorem ne_nm {o K i : Nat} (ho : o < 292) (hne : off K i ≠ o) : ¬ ((nm o).1 = K ∧ (nm o).2 = i) := fun q => hne (by
  have h := (nm_off o ho).2.2
  rw [← q.1, ← q.2]
  exact h)
theorem AG_mono {n : Nat} {lk : lkT} {X Y : Nat → Prop} (h : AG n lk X) (hXY : ∀ o, X o → Y o) : AG n lk Y := fun o ho hY => h o ho (fun q => hY (hXY o q))
theorem AG_nw {n K i : Nat} {lk : lkT} {X : Nat → Prop} {d : Nat → aV} (h : AG n lk X) (hn : n < 292) (ho : off K i = n) : AG (n + 1) (nw lk K i d) (fun o => o = n ∨ X o) := by
  intro o h1 h2 s hs
  have hne : o ≠ n := fun q => h2 (Or.inl q)
  rw [nw_ne (ne_nm (by omega) (by omega))]
  exact h o (by omega) (fun q => h2 (Or.inr q)) s hs
theorem AG_nwD {n K i : Nat} {lk : lkT} {X : Nat → Prop} {d : Nat → aV} (h : AG n lk X) (hn : n < 292) (hk : kd K ≠ none) (hi : i < kn K) (ho : off K i = n) (hd : ∀ s, s < szk K → d s = L0 K i s) : AG (n + 1) (nw lk K i d) X := by
  intro o h1 h2 s hs
  by_cases hne : o = n
  · have e := (off_nm hk hi).2
    rw [ho, ← hne] at e
    rw [e] at hs ⊢
    rw [nw_eq]
    exact hd s hs
  · rw [nw_ne (ne_nm (by omega) (by omega))]
    exact h o (by omega) h2 s hs
theorem AG_pf {n K i f : Nat} {lk : lkT} {X : Nat → Prop} {v : aV} (h : AG n lk X) (hn : n ≤ 292) (hX : X (off K i)) : AG n (pf lk K i f v) X := by
  intro o h1 h2 s hs
  rw [pf_ne (fun q => ne_nm (o := o) (K := K) (i := i) (by omega) (fun e => h2 (e ▸ hX)) ⟨q.1, q.2.1⟩)]
  exact h o h1 h2 s hs
theorem AG_fin {n K i : Nat} {lk : lkT} {X : Nat → Prop} (h : AG n lk (fun o => o = off K i ∨ X o)) (hk : kd K ≠ none) (hi : i < kn K) (hd : ∀ s, s < szk K → lk K i s = L0 K i s) : AG n lk X := by
  intro o h1 h2 s hs
  by_cases e : o = off K i
  · have e1 := (off_nm hk hi).2
    rw [← e] at e1
    rw [e1] at hs ⊢
    exact hd s hs
  · exact h o h1 (fun q => q.elim e h2) s hs
/-- what X names is as it was -/
def KP (lk lk' : lkT) (X : Nat → Prop) : Prop := ∀ o, X o → ∀ s, lk' (nm o).1 (nm o).2 s = lk (nm o).1 (nm o).2 s
theorem KP_at {lk lk' : lkT} {X : Nat → Prop} (h : KP lk lk' X) {K i : Nat} (hk : kd K ≠ none) (hi : i < kn K) (hX : X (off K i)) (s : Nat) : lk' K i s = lk K i s := by
  have := h (off K i) hX s
  rw [(off_nm hk hi).2] at this
  exact this
theorem KP_nw {K i : Nat} {lk : lkT} {X : Nat → Prop} {d : Nat → aV} (hX : ∀ o, X o → o < 292 ∧ o ≠ off K i) : KP lk (nw lk K i d) X := fun o ho s => nw_ne (ne_nm (hX o ho).1 (fun e => (hX o ho).2 e.symm))
theorem KP_pf {K i f : Nat} {lk : lkT} {X : Nat → Prop} {v : aV} (hX : ∀ o, X o → o < 292 ∧ o ≠ off K i) : KP lk (pf lk K i f v) X := fun o ho s => pf_ne (fun q => ne_nm (hX o ho).1 (fun e => (hX o ho).2 e.symm) ⟨q.1, q.2.1⟩)
theorem KP_trans {a b c : lkT} {X : Nat → Prop} (h1 : KP a b X) (h2 : KP b c X) : KP a c X := fun o ho s => (h2 o ho s).trans (h1 o ho s)
theorem KP_mono {a b : lkT} {X Y : Nat → Prop} (h : KP a b Y) (hXY : ∀ o, X o → Y o) : KP a b X := fun o ho => h o (hXY o ho)
theorem KP_rf {a : lkT} {X : Nat → Prop} : KP a a X := fun _ _ _ => rfl
