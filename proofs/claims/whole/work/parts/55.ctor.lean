theorem ct_X7 {Γ : cx_T} {j : Nat} {n : Nat} {lk : lkT} {X : Nat → Prop} {Q : Nat → lkT → Prop} (hj : j < 88) (hn : off 24 j = n) (hn2 : n < 292) (ho : off 7 j < n) (hd : ∀ s, lk 7 j s = dvT (tyT 7 s)) (hA : AG n lk (fun o => o = off 7 j ∨ X o)) (hX : ∀ o, X o → o < n ∧ o ≠ off 7 j) (k : ∀ lk', AG (n + 1) lk' X → KP lk lk' X → Q (n + 1) lk') : cb Γ M_X7_init 1 8 [aR 7 j] n lk Q := by
  have hk : kd 7 ≠ none := by decide
  have hka : kd 24 ≠ none := by decide
  have hi : j < kn 7 := (show j < 88 by omega)
  have hia : j < kn 24 := (show j < 89 by omega)
  refine cb_ofU (ls := [aR 7 j]) (Or.inl (by decide)) rfl rfl (Nat.le_of_ble_eq_true rfl) rfl ?_
  refine bw_aload_n dX7_init_0 rfl ?_
  refine bw_objInit dX7_init_1 oi_RX7_3 (by decide) (by decide) (Nat.le_of_ble_eq_true rfl) ?_
  refine bw_aload_n dX7_init_4 rfl ?_
  refine bw_bipush (v := 8) dX7_init_5 rfl ?_
  refine bw_newa (K := 24) (i := j) (N := 8) (ty := .int) dX7_init_7 rfl ac_int rfl hia hn (by decide) (by decide) (by decide) (by decide) (by decide) ⟨by decide, by decide⟩ (fun _ _ h => h) ?_
  refine bw_put (f := 6) dX7_init_9 rfl fk_RX7_9 hi (by omega) (fun r h => by cases h; rfl) rfl (fun _ => rfl) (fun _ => rfl) ?_
  have hne : ∀ s, nw lk 24 j (fun _ => dvT .int) 7 j s = lk 7 j s := fun s => nw_ne (fun q => absurd q.1 (by decide))
  refine bw_vret dX7_init_12 (by decide) (by decide) (k _ (AG_fin (AG_pf (AG_nwD hA hn2 hka hia hn (fun s _ => rfl)) (by omega) (Or.inl rfl)) hk hi ?_) (KP_trans (KP_nw (fun o ho => ⟨by have := hX o ho; omega, by have := hX o ho; omega⟩)) (KP_pf (fun o ho => ⟨by have := hX o ho; omega, (hX o ho).2⟩))))
  intro s hs
  by_cases e : s = 6
  · subst e
    rw [pf_eq]
    rfl
  · rw [pf_ne (fun q => e q.2.2), hne, hd]
    have hs : s < 7 := hs
    rcases (show s = 0 ∨ s = 1 ∨ s = 2 ∨ s = 3 ∨ s = 4 ∨ s = 5 by omega) with rfl | rfl | rfl | rfl | rfl | rfl <;> rfl
theorem ct_X10 {Γ : cx_T} {j : Nat} {n : Nat} {lk : lkT} {X : Nat → Prop} {Q : Nat → lkT → Prop} (hj : j < 11) (hn : off 21 j = n) (hn2 : n < 292) (ho : off 10 j < n) (hd : ∀ s, lk 10 j s = dvT (tyT 10 s)) (hA : AG n lk (fun o => o = off 10 j ∨ X o)) (hX : ∀ o, X o → o < n ∧ o ≠ off 10 j) (k : ∀ lk', AG (n + 1) lk' X → KP lk lk' X → Q (n + 1) lk') : cb Γ M_X10_init 1 320 [aR 10 j] n lk Q := by
  have hk : kd 10 ≠ none := by decide
  have hka : kd 21 ≠ none := by decide
  have hi : j < kn 10 := (show j < 11 by omega)
  have hia : j < kn 21 := (show j < 11 by omega)
  refine cb_ofU (ls := [aR 10 j]) (Or.inl (by decide)) rfl rfl (Nat.le_of_ble_eq_true rfl) rfl ?_
  refine bw_aload_n dX10_init_0 rfl ?_
  refine bw_objInit dX10_init_1 oi_RX10_3 (by decide) (by decide) (Nat.le_of_ble_eq_true rfl) ?_
  refine bw_aload_n dX10_init_4 rfl ?_
  refine bw_sipush (v := 320) dX10_init_5 rfl ?_
  refine bw_newa (K := 21) (i := j) (N := 320) (ty := .int) dX10_init_8 rfl ac_int rfl hia hn (by decide) (by decide) (by decide) (by decide) (by decide) ⟨by decide, by decide⟩ (fun _ _ h => h) ?_
  refine bw_put (f := 0) dX10_init_10 rfl fk_RX10_9 hi (by omega) (fun r h => by cases h; rfl) rfl (fun _ => rfl) (fun _ => rfl) ?_
  have hne : ∀ s, nw lk 21 j (fun _ => dvT .int) 10 j s = lk 10 j s := fun s => nw_ne (fun q => absurd q.1 (by decide))
  refine bw_vret dX10_init_13 (by decide) (by decide) (k _ (AG_fin (AG_pf (AG_nwD hA hn2 hka hia hn (fun s _ => rfl)) (by omega) (Or.inl rfl)) hk hi ?_) (KP_trans (KP_nw (fun o ho => ⟨by have := hX o ho; omega, by have := hX o ho; omega⟩)) (KP_pf (fun o ho => ⟨by have := hX o ho; omega, (hX o ho).2⟩))))
  intro s hs
  by_cases e : s = 0
  · subst e
    rw [pf_eq]
    rfl
  · rw [pf_ne (fun q => e q.2.2), hne, hd]
    have hs : s < 2 := hs
    rcases (show s = 1 by omega) with rfl <;> rfl
theorem ct_X2 {Γ : cx_T} {n : Nat} {lk : lkT} {X : Nat → Prop} {Q : Nat → lkT → Prop} (hn : off 20 0 = n) (hn2 : n < 292) (ho : off 2 0 < n) (hd : ∀ s, lk 2 0 s = dvT (tyT 2 s)) (hA : AG n lk (fun o => o = off 2 0 ∨ X o)) (hX : ∀ o, X o → o < n ∧ o ≠ off 2 0) (k : ∀ lk', AG (n + 1) lk' X → KP lk lk' X → Q (n + 1) lk') : cb Γ M_X2_init 1 200 [aR 2 0] n lk Q := by
  have hk : kd 2 ≠ none := by decide
  have hka : kd 20 ≠ none := by decide
  have hi : 0 < kn 2 := by decide
  have hia : 0 < kn 20 := by decide
  refine cb_ofU (ls := [aR 2 0]) (Or.inl (by decide)) rfl rfl (Nat.le_of_ble_eq_true rfl) rfl ?_
  refine bw_aload_n dX2_init_0 rfl ?_
  refine bw_objInit dX2_init_1 oi_RX2_5 (by decide) (by decide) (Nat.le_of_ble_eq_true rfl) ?_
  refine bw_aload_n dX2_init_4 rfl ?_
  refine bw_sipush (v := 200) dX2_init_5 rfl ?_
  refine bw_newa (K := 20) (i := 0) (N := 200) (ty := .int) dX2_init_8 rfl ac_int rfl hia hn (by decide) (by decide) (by decide) (by decide) (by decide) ⟨by decide, by decide⟩ (fun _ _ h => h) ?_
  refine bw_put (f := 0) dX2_init_10 rfl fk_RX2_11 hi (by omega) (fun r h => by cases h; rfl) rfl (fun _ => rfl) (fun _ => rfl) ?_
  have hne : ∀ s, nw lk 20 0 (fun _ => dvT .int) 2 0 s = lk 2 0 s := fun s => nw_ne (fun q => absurd q.1 (by decide))
  refine bw_vret dX2_init_13 (by decide) (by decide) (k _ (AG_fin (AG_pf (AG_nwD hA hn2 hka hia hn (fun s _ => rfl)) (by omega) (Or.inl rfl)) hk hi ?_) (KP_trans (KP_nw (fun o ho => ⟨by have := hX o ho; omega, by have := hX o ho; omega⟩)) (KP_pf (fun o ho => ⟨by have := hX o ho; omega, (hX o ho).2⟩))))
  intro s hs
  by_cases e : s = 0
  · subst e
    rw [pf_eq]
    rfl
  · rw [pf_ne (fun q => e q.2.2), hne, hd]
    have hs : s < 8 := hs
    rcases (show s = 1 ∨ s = 2 ∨ s = 3 ∨ s = 4 ∨ s = 5 ∨ s = 6 ∨ s = 7 by omega) with rfl | rfl | rfl | rfl | rfl | rfl | rfl <;> rfl
theorem ct_X5 {Γ : cx_T} {n : Nat} {lk : lkT} {X : Nat → Prop} {Q : Nat → lkT → Prop} (hn : off 22 0 = n) (hn2 : n < 292) (ho : off 5 0 < n) (hd : ∀ s, lk 5 0 s = dvT (tyT 5 s)) (hA : AG n lk (fun o => o = off 5 0 ∨ X o)) (hX : ∀ o, X o → o < n ∧ o ≠ off 5 0) (k : ∀ lk', AG (n + 1) lk' X → KP lk lk' X → Q (n + 1) lk') : cb Γ M_X5_init 1 2560 [aR 5 0] n lk Q := by
  have hk : kd 5 ≠ none := by decide
  have hka : kd 22 ≠ none := by decide
  have hi : 0 < kn 5 := by decide
  have hia : 0 < kn 22 := by decide
  refine cb_ofU (ls := [aR 5 0]) (Or.inl (by decide)) rfl rfl (Nat.le_of_ble_eq_true rfl) rfl ?_
  refine bw_aload_n dX5_init_0 rfl ?_
  refine bw_objInit dX5_init_1 oi_RX5_3 (by decide) (by decide) (Nat.le_of_ble_eq_true rfl) ?_
  refine bw_aload_n dX5_init_4 rfl ?_
  refine bw_sipush (v := 2560) dX5_init_5 rfl ?_
  refine bw_newa (K := 22) (i := 0) (N := 2560) (ty := .int) dX5_init_8 rfl ac_int rfl hia hn (by decide) (by decide) (by decide) (by decide) (by decide) ⟨by decide, by decide⟩ (fun _ _ h => h) ?_
  refine bw_put (f := 0) dX5_init_10 rfl fk_RX5_9 hi (by omega) (fun r h => by cases h; rfl) rfl (fun _ => rfl) (fun _ => rfl) ?_
  have hne : ∀ s, nw lk 22 0 (fun _ => dvT .int) 5 0 s = lk 5 0 s := fun s => nw_ne (fun q => absurd q.1 (by decide))
  refine bw_vret dX5_init_13 (by decide) (by decide) (k _ (AG_fin (AG_pf (AG_nwD hA hn2 hka hia hn (fun s _ => rfl)) (by omega) (Or.inl rfl)) hk hi ?_) (KP_trans (KP_nw (fun o ho => ⟨by have := hX o ho; omega, by have := hX o ho; omega⟩)) (KP_pf (fun o ho => ⟨by have := hX o ho; omega, (hX o ho).2⟩))))
  intro s hs
  by_cases e : s = 0
  · subst e
    rw [pf_eq]
    rfl
  · rw [pf_ne (fun q => e q.2.2), hne, hd]
    have hs : s < 2 := hs
    rcases (show s = 1 by omega) with rfl <;> rfl
theorem ct_X6 {Γ : cx_T} {n : Nat} {lk : lkT} {X : Nat → Prop} {Q : Nat → lkT → Prop} (hn : off 39 0 = n) (hn2 : n < 292) (ho : off 6 0 < n) (hd : ∀ s, lk 6 0 s = dvT (tyT 6 s)) (hA : AG n lk (fun o => o = off 6 0 ∨ X o)) (hX : ∀ o, X o → o < n ∧ o ≠ off 6 0) (k : ∀ lk', AG (n + 1) lk' X → KP lk lk' X → Q (n + 1) lk') : cb Γ M_X6_init 1 225 [aR 6 0] n lk Q := by
  have hk : kd 6 ≠ none := by decide
  have hka : kd 39 ≠ none := by decide
  have hi : 0 < kn 6 := by decide
  have hia : 0 < kn 39 := by decide
  refine cb_ofU (ls := [aR 6 0]) (Or.inl (by decide)) rfl rfl (Nat.le_of_ble_eq_true rfl) rfl ?_
  refine bw_aload_n dX6_init_0 rfl ?_
  refine bw_objInit dX6_init_1 oi_RX6_5 (by decide) (by decide) (Nat.le_of_ble_eq_true rfl) ?_
  refine bw_aload_n dX6_init_4 rfl ?_
  refine bw_sipush (v := 225) dX6_init_5 rfl ?_
  refine bw_newa (K := 39) (i := 0) (N := 225) (ty := .int) dX6_init_8 rfl ac_int rfl hia hn (by decide) (by decide) (by decide) (by decide) (by decide) ⟨by decide, by decide⟩ (fun _ _ h => h) ?_
  refine bw_put (f := 0) dX6_init_10 rfl fk_RX6_11 hi (by omega) (fun r h => by cases h; rfl) rfl (fun _ => rfl) (fun _ => rfl) ?_
  have hne : ∀ s, nw lk 39 0 (fun _ => dvT .int) 6 0 s = lk 6 0 s := fun s => nw_ne (fun q => absurd q.1 (by decide))
  refine bw_vret dX6_init_13 (by decide) (by decide) (k _ (AG_fin (AG_pf (AG_nwD hA hn2 hka hia hn (fun s _ => rfl)) (by omega) (Or.inl rfl)) hk hi ?_) (KP_trans (KP_nw (fun o ho => ⟨by have := hX o ho; omega, by have := hX o ho; omega⟩)) (KP_pf (fun o ho => ⟨by have := hX o ho; omega, (hX o ho).2⟩))))
  intro s hs
  by_cases e : s = 0
  · subst e
    rw [pf_eq]
    rfl
  · rw [pf_ne (fun q => e q.2.2), hne, hd]
    have hs : s < 6 := hs
    rcases (show s = 1 ∨ s = 2 ∨ s = 3 ∨ s = 4 ∨ s = 5 by omega) with rfl | rfl | rfl | rfl | rfl <;> rfl
theorem ct_X4 {Γ : cx_T} {i n : Nat} {lk : lkT} {X : Nat → Prop} {Q : Nat → lkT → Prop} (hi : i < 2) (ho : off 4 i < n) (hd : ∀ s, lk 4 i s = dvT (tyT 4 s)) (hA : AG n lk (fun o => o = off 4 i ∨ X o)) (k : ∀ lk', AG n lk' X → KP lk lk' X → Q n lk') : cb Γ M_X4_init 0 0 [aR 4 i] n lk Q := by
  refine cb_ofU (ls := [aR 4 i]) (Or.inl (by decide)) rfl rfl (Nat.le_of_ble_eq_true rfl) rfl ?_
  refine bw_aload_n dX4_init_0 rfl ?_
  refine bw_objInit dX4_init_1 oi_RX4_3 (by decide) (by decide) (Nat.le_of_ble_eq_true rfl) ?_
  refine bw_vret dX4_init_4 (by decide) (by decide) (k _ (AG_fin hA (by decide) hi ?_) KP_rf)
  intro s hs
  rw [hd]
  have hs : s < 9 := hs
  rcases (show s = 0 ∨ s = 1 ∨ s = 2 ∨ s = 3 ∨ s = 4 ∨ s = 5 ∨ s = 6 ∨ s = 7 ∨ s = 8 by omega) with rfl | rfl | rfl | rfl | rfl | rfl | rfl | rfl | rfl <;> rfl
