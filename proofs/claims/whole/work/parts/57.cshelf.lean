theorem off_t : ∀ t, t < 10 → off 9 t = 29 + 21 * t ∧ off 10 (t + 1) = 30 + 21 * t ∧ off 21 (t + 1) = 31 + 21 * t ∧ off 1 t = 32 + 21 * t ∧ off 23 t = 33 + 21 * t := by decide +kernel
theorem ct_X9 {Γ : cx_T} {t : Nat} {lk : lkT} {X : Nat → Prop} {Q : Nat → lkT → Prop} (ht : t < 10) (hd : ∀ s, lk 9 t s = dvT (tyT 9 s)) (hA : AG (30 + 21 * t) lk (fun o => o = off 9 t ∨ X o)) (hX : ∀ o, X o → o < 29 + 21 * t) (kk : ∀ lk', AG (50 + 21 * t) lk' X → KP lk lk' X → Q (50 + 21 * t) lk') : cb Γ M_X9_init 20 452 [aR 9 t] (30 + 21 * t) lk Q := by
  obtain ⟨f1, f2, f3, f4, f5⟩ := off_t t ht
  have ht9 : t < kn 9 := ht
  have ht10 : t + 1 < kn 10 := by show _ < 11; omega
  have ht1 : t < kn 1 := by show _ < 11; omega
  refine cb_ofU (ls := [aR 9 t]) (Or.inl (by decide)) rfl rfl (Nat.le_of_ble_eq_true rfl) rfl ?_
  refine bw_aload_n dX9_init_0 rfl ?_
  refine bw_objInit dX9_init_1 oi_RX9_1 (by decide) (by decide) (Nat.le_of_ble_eq_true rfl) ?_
  refine bw_aload_n dX9_init_4 rfl ?_
  refine bw_new (K := 10) (i := t + 1) (ci := 10) dX9_init_5 rfl cl_RX9_7 ni_RX10 it_RX10 rfl ht10 f2 (by decide) (by decide) (by decide) ?_
  refine bw_dup dX9_init_8 ?_
  refine bw_callIN (M' := M_X10_init) (mc' := 1) (ms' := 320) dX9_init_9 mk_X10_init mI_X10_init ml_RX9_9 mp_X10_init rfl rfl rm_X9_init__X10_init (Nat.le_of_ble_eq_true rfl) (by decide) (by decide) ?_
  refine ct_X10 (X := fun o => o = off 9 t ∨ X o) (by omega) (by omega) (by omega) (by omega) (fun s => nw_eq) (AG_mono (AG_nw hA (by omega) f2) (fun o ho => ho.imp (fun h => by omega) id)) ?_ ?_
  · intro o ho
    rcases ho with h | h
    · omega
    · have := hX o h; omega
  intro lk1 hA1 hK1
  have e1 : ∀ s, lk1 9 t s = lk 9 t s := fun s => (KP_at hK1 kd9 ht9 (Or.inl rfl) s).trans (nw_ne (fun q => absurd q.1 (by decide)))
  refine bw_put (f := 0) dX9_init_12 rfl fk_RX9_10 ht9 (by omega) (fun r h => by cases h; rfl) rfl (fun _ => rfl) (fun _ => rfl) ?_
  refine bw_aload_n dX9_init_15 rfl ?_
  refine bw_new (K := 1) (i := t) (ci := 1) dX9_init_16 rfl cl_RX9_16 ni_RX1 it_RX1 rfl ht1 (by omega) (by decide) (by decide) (by decide) ?_
  refine bw_dup dX9_init_19 ?_
  refine bw_callI (M' := M_X1_init) (mc' := 17) (ms' := 128) dX9_init_20 mk_X1_init mI_X1_init ml_RX9_18 mp_X1_init rfl rfl rm_X9_init__X1_init (Nat.le_of_ble_eq_true rfl) (by decide) (by decide) ?_
  refine ct_X1 (X := fun o => o = off 9 t ∨ X o) (by omega) (by omega) (fun s => nw_eq) (AG_mono (AG_nw (AG_pf hA1 (by omega) (Or.inl rfl)) (by omega) (by omega)) (fun o ho => ho.imp (fun h => by omega) id)) ?_ ?_
  · intro o ho
    rcases ho with h | h
    · omega
    · have := hX o h; omega
  intro lk2 hA2 hK2
  have e2 : ∀ s, lk2 9 t s = pf lk1 9 t 0 (aR 10 (t + 1)) 9 t s := fun s => (KP_at hK2 kd9 ht9 (Or.inl rfl) s).trans (nw_ne (fun q => absurd q.1 (by decide)))
  refine bw_put (f := 1) dX9_init_23 rfl fk_RX9_19 ht9 (by omega) (fun r h => by cases h; rfl) rfl (fun _ => rfl) (fun _ => rfl) ?_
  have hK : KP lk (pf lk2 9 t 1 (aR 1 t)) X := by
    have hx : ∀ o, X o → o < 292 ∧ o < 29 + 21 * t := fun o ho => by have := hX o ho; omega
    refine KP_trans (KP_nw (K := 10) (i := t + 1) (fun o ho => by have := hx o ho; omega)) (KP_trans (KP_mono hK1 (fun o ho => Or.inr ho)) (KP_trans (KP_pf (K := 9) (i := t) (fun o ho => by have := hx o ho; omega)) (KP_trans (KP_nw (K := 1) (i := t) (fun o ho => by have := hx o ho; omega)) (KP_trans (KP_mono hK2 (fun o ho => Or.inr ho)) (KP_pf (K := 9) (i := t) (fun o ho => by have := hx o ho; omega))))))
  have hfin : AG (50 + 21 * t) (pf lk2 9 t 1 (aR 1 t)) X := by
    have h5 := AG_pf (K := 9) (i := t) (f := 1) (v := aR 1 t) hA2 (by omega) (Or.inl rfl)
    have h6 : AG (50 + 21 * t) (pf lk2 9 t 1 (aR 1 t)) (fun o => o = off 9 t ∨ X o) := (show 30 + 21 * t + 1 + 1 + 1 + 17 = 50 + 21 * t by omega) ▸ h5
    refine AG_fin h6 kd9 ht9 (fun s hs => ?_)
    have hs : s < 8 := hs
    by_cases g1 : s = 1
    · subst g1
      rw [pf_eq]
      rfl
    · rw [pf_ne (fun q => g1 q.2.2), e2]
      by_cases g0 : s = 0
      · subst g0
        rw [pf_eq]
        rfl
      · rw [pf_ne (fun q => g0 q.2.2), e1, hd]
        rcases (show s = 2 ∨ s = 3 ∨ s = 4 ∨ s = 5 ∨ s = 6 ∨ s = 7 by omega) with rfl | rfl | rfl | rfl | rfl | rfl <;> rfl
  have hq := kk _ hfin hK
  rw [show 50 + 21 * t = 30 + 21 * t + 1 + 1 + 1 + 17 by omega] at hq
  exact bw_vret dX9_init_26 (by decide) (by decide) hq
/-- the loop of Shelf() -/
theorem lp_X8 {Γ : cx_T} {lk0 : lkT} {X : Nat → Prop} {Q : Nat → lkT → Prop} (hX : ∀ o, X o → o < 9) (kk : ∀ lk', AG 239 lk' X → KP lk0 lk' X → Q 239 lk') :
    ∀ (d k : Nat) (lk : lkT), k + d = 10 → AG (29 + 21 * k) lk (fun o => o = 9 ∨ o = 10 ∨ X o) → lk 8 0 0 = aR 25 0 → lk 8 0 1 = aI 0 → lk 8 0 2 = aR 1 10 → (∀ s, s < 10 → lk 25 0 s = if s < k then aR 9 s else aN) → KP lk0 lk X → bw Γ M_X8_init 229 4740 26 [aR 8 0, aI (nI k)] [] (29 + 21 * k) lk (19 + 21 * k) (140 + 460 * k) Q := by
  have h80 : 0 < kn 8 := by decide
  have h250 : 0 < kn 25 := by decide
  intro d
  induction d with
  | zero =>
    intro k lk hk hA h0 h1 h2 h3 hK
    obtain rfl : k = 10 := by omega
    refine bw_iload_n dX8_init_26 rfl ?_
    refine bw_bipush (v := 10) dX8_init_27 rfl ?_
    refine bw_icmp_ge (tgt := 51) dX8_init_29 (by decide) (fun _ => ?_) (fun c => absurd (by decide) c)
    refine bw_vret dX8_init_51 (by decide) (by decide) (kk lk (AG_fin (K := 8) (i := 0) (AG_fin (K := 25) (i := 0) (AG_mono hA ?_) kd25 h250 ?_) kd8 h80 ?_) hK)
    · intro o ho
      rcases ho with h | h | h
      · exact Or.inr (Or.inl h)
      · exact Or.inl h
      · exact Or.inr (Or.inr h)
    · intro s hs
      have hs : s < 10 := hs
      rw [h3 s hs, if_pos hs]
      rfl
    · intro s hs
      have hs : s < 3 := hs
      rcases (show s = 0 ∨ s = 1 ∨ s = 2 by omega) with rfl | rfl | rfl
      · rw [h0]; rfl
      · rw [h1]; rfl
      · rw [h2]; rfl
  | succ d ih =>
    intro k lk hk hA h0 h1 h2 h3 hK
    have hk10 : k < 10 := by omega
    obtain ⟨f1, f2, f3, f4, f5⟩ := off_t k hk10
    have hj : k < kn 9 := hk10
    refine bw_iload_n dX8_init_26 rfl ?_
    refine bw_bipush (v := 10) dX8_init_27 rfl ?_
    refine bw_icmp_ge (tgt := 51) dX8_init_29 (by decide) (fun c => absurd c (nI_ge (b := 10) hk10 (by decide))) (fun _ => ?_)
    refine bw_aload_n dX8_init_32 rfl ?_
    refine bw_get dX8_init_33 rfl fk_RX8_11 h80 (show 9 < _ by omega) h0 ?_
    refine bw_iload_n dX8_init_36 rfl ?_
    refine bw_new (K := 9) (i := k) (ci := 9) dX8_init_37 rfl cl_RX8_9 ni_RX9 it_RX9 rfl hj f1 (by omega) (by show 140 + 460 * k + 8 ≤ 4740; omega) (by decide) ?_
    refine bw_dup dX8_init_40 ?_
    refine bw_callIN (M' := M_X9_init) (mc' := 20) (ms' := 452) dX8_init_41 mk_X9_init mI_X9_init ml_RX8_24 mp_X9_init rfl rfl rm_X8_init__X9_init (Nat.le_of_ble_eq_true rfl) (by omega) (by show 140 + 460 * k + 8 + 452 ≤ 4740; omega) ?_
    rw [show 29 + 21 * k + 1 = 30 + 21 * k by omega]
    refine ct_X9 (X := fun o => o = 9 ∨ o = 10 ∨ X o) hk10 (fun s => nw_eq) ?_ ?_ ?_
    · have h5 := AG_mono (AG_nw (K := 9) (i := k) (d := fun s => dvT (tyT 9 s)) hA (by omega) f1) (Y := fun o => o = off 9 k ∨ o = 9 ∨ o = 10 ∨ X o) (fun o ho => ho.imp (fun h => by omega) id)
      exact (show 29 + 21 * k + 1 = 30 + 21 * k by omega) ▸ h5
    · intro o ho
      rcases ho with h | h | h
      · omega
      · omega
      · have := hX o h; omega
    · intro lk' hA' hK'
      have e1 : ∀ s, lk' 8 0 s = lk 8 0 s := fun s => (KP_at (K := 8) (i := 0) hK' kd8 h80 (Or.inl rfl) s).trans (nw_ne (fun q => absurd q.1 (by decide)))
      have e2 : ∀ s, lk' 25 0 s = lk 25 0 s := fun s => (KP_at (K := 25) (i := 0) hK' kd25 h250 (Or.inr (Or.inl rfl)) s).trans (nw_ne (fun q => absurd q.1 (by decide)))
      have hcl : (nI k).toNatClampNeg = k := nI_clamp (by omega)
      refine bw_aast (K := 25) (i := 0) (N := 10) (K' := 9) (j := k) (ci := 9) dX8_init_44 rfl rfl h250 (show 10 < _ by omega) rfl hj (by omega) (vp_in_nI hk10 (by decide)) ?_
      rw [hcl]
      refine bw_iinc (v := nI (k + 1)) (ls' := [aR 8 0, aI (nI (k + 1))]) dX8_init_45 rfl (nI_1 k) (by decide) rfl rfl ?_
      refine bw_goto (tgt := 26) dX8_init_48 (by decide) ?_
      have h := ih (k + 1) (pf lk' 25 0 k (aR 9 k)) (by omega) (by
        have h5 := AG_pf (K := 25) (i := 0) (f := k) (v := aR 9 k) hA' (by omega) (Or.inr (Or.inl rfl))
        exact (show 50 + 21 * k = 29 + 21 * (k + 1) by omega) ▸ h5) (by rw [pf_ne (fun q => absurd q.1 (by decide)), e1]; exact h0) (by rw [pf_ne (fun q => absurd q.1 (by decide)), e1]; exact h1) (by rw [pf_ne (fun q => absurd q.1 (by decide)), e1]; exact h2) (fun s hs => by
        by_cases e : s = k
        · subst e
          rw [pf_eq, if_pos (by omega)]
        · rw [pf_ne (fun q => e q.2.2), e2, h3 s hs]
          by_cases hlt : s < k
          · rw [if_pos hlt, if_pos (by omega)]
          · rw [if_neg hlt, if_neg (by omega)]) (KP_trans hK (KP_trans (KP_nw (K := 9) (i := k) (fun o ho => by have := hX o ho; omega)) (KP_trans (KP_mono hK' (fun o ho => Or.inr (Or.inr ho))) (KP_pf (K := 25) (i := 0) (fun o ho => by have := hX o ho; exact ⟨by omega, show o ≠ 10 by omega⟩)))))
      have z1 : 29 + 21 * (k + 1) = 50 + 21 * k := by omega
      have z2 : 19 + 21 * (k + 1) = 19 + 21 * k + 1 + 20 := by omega
      have z3 : 140 + 460 * (k + 1) = 140 + 460 * k + 8 + 452 := by omega
      rw [z1, z2, z3] at h
      exact h
theorem ct_X8 {Γ : cx_T} {lk : lkT} {X : Nat → Prop} {Q : Nat → lkT → Prop} (hd : ∀ s, lk 8 0 s = dvT (tyT 8 s)) (hA : AG 10 lk (fun o => o = 9 ∨ X o)) (hX : ∀ o, X o → o < 9) (kk : ∀ lk', AG 239 lk' X → KP lk lk' X → Q 239 lk') : cb Γ M_X8_init 229 4740 [aR 8 0] 10 lk Q := by
  have h80 : 0 < kn 8 := by decide
  have h250 : 0 < kn 25 := by decide
  refine cb_ofU (ls := [aR 8 0, aX]) (Or.inl (by decide)) rfl rfl (Nat.le_of_ble_eq_true rfl) rfl ?_
  refine bw_aload_n dX8_init_0 rfl ?_
  refine bw_objInit dX8_init_1 oi_RX8_3 (by decide) (by decide) (Nat.le_of_ble_eq_true rfl) ?_
  refine bw_aload_n dX8_init_4 rfl ?_
  refine bw_bipush (v := 10) dX8_init_5 rfl ?_
  refine bw_anew (K := 25) (i := 0) (N := 10) (C := RX9) dX8_init_7 cl_RX8_9 (Or.inr rfl) rfl h250 rfl (by decide) (by decide) (by decide) (by decide) (by decide) ?_
  refine bw_put (f := 0) dX8_init_10 rfl fk_RX8_11 h80 (by decide) (fun r h => by cases h; rfl) rfl (fun _ => rfl) (fun _ => rfl) ?_
  refine bw_aload_n dX8_init_13 rfl ?_
  refine bw_new (K := 1) (i := 10) (ci := 1) dX8_init_14 rfl cl_RX8_17 ni_RX1 it_RX1 rfl (by decide) rfl (by decide) (by decide) (by decide) ?_
  refine bw_dup dX8_init_17 ?_
  refine bw_callI (M' := M_X1_init) (mc' := 17) (ms' := 128) dX8_init_18 mk_X1_init mI_X1_init ml_RX8_19 mp_X1_init rfl rfl rm_X8_init__X1_init (Nat.le_of_ble_eq_true rfl) (by decide) (by decide) ?_
  have hA1 : AG 11 (pf (nw lk 25 0 (fun _ => aN)) 8 0 0 (aR 25 0)) (fun o => o = 9 ∨ o = 10 ∨ X o) := AG_pf (K := 8) (i := 0) (AG_mono (AG_nw (K := 25) (i := 0) hA (by decide) rfl) (fun o ho => by rcases ho with h | h | h; exact Or.inr (Or.inl h); exact Or.inl h; exact Or.inr (Or.inr h))) (by decide) (Or.inl rfl)
  refine ct_X1 (t := 10) (X := fun o => o = 9 ∨ o = 10 ∨ X o) (by decide) rfl (fun s => nw_eq) (AG_mono (AG_nw (K := 1) (i := 10) hA1 (by decide) rfl) (fun o ho => ho)) ?_ ?_
  · intro o ho
    rcases ho with h | h | h
    · subst h; exact ⟨by decide, by decide⟩
    · subst h; exact ⟨by decide, by decide⟩
    · have := hX o h
      exact ⟨by omega, show o ≠ 11 by omega⟩
  intro lk2 hA2 hK2
  have e2 : ∀ s, lk2 8 0 s = pf (nw lk 25 0 (fun _ => aN)) 8 0 0 (aR 25 0) 8 0 s := fun s => (KP_at (K := 8) (i := 0) hK2 kd8 h80 (Or.inl rfl) s).trans (nw_ne (fun q => absurd q.1 (by decide)))
  have e3 : ∀ s, lk2 25 0 s = aN := fun s => (KP_at (K := 25) (i := 0) hK2 kd25 h250 (Or.inr (Or.inl rfl)) s).trans ((nw_ne (fun q => absurd q.1 (by decide))).trans ((pf_ne (fun q => absurd q.1 (by decide))).trans nw_eq))
  refine bw_put (f := 2) dX8_init_21 rfl fk_RX8_20 h80 (by decide) (fun r h => by cases h; rfl) rfl (fun _ => rfl) (fun _ => rfl) ?_
  refine bw_iconst (v := 0) dX8_init_24 rfl ?_
  refine bw_istore_n (ls' := [aR 8 0, aI 0]) dX8_init_25 (by decide) rfl rfl ?_
  refine lp_X8 (lk0 := lk) hX kk 10 0 _ rfl (AG_pf (K := 8) (i := 0) hA2 (by decide) (Or.inl rfl)) ?_ ?_ pf_eq ?_ ?_
  · rw [pf_ne (fun q => absurd q.2.2 (by decide)), e2, pf_eq]
  · rw [pf_ne (fun q => absurd q.2.2 (by decide)), e2, pf_ne (fun q => absurd q.2.2 (by decide)), nw_ne (fun q => absurd q.1 (by decide)), hd]
    rfl
  · intro s hs
    rw [pf_ne (fun q => absurd q.1 (by decide)), e3, if_neg (by omega)]
  · have hx : ∀ (K i : Nat), 9 ≤ off K i → ∀ o, X o → o < 292 ∧ o ≠ off K i := fun K i h o ho => by have := hX o ho; omega
    exact KP_trans (KP_nw (hx 25 0 (by decide))) (KP_trans (KP_pf (hx 8 0 (by decide))) (KP_trans (KP_nw (hx 1 10 (by decide))) (KP_trans (KP_mono hK2 (fun o ho => Or.inr (Or.inr ho))) (KP_pf (hx 8 0 (by decide))))))
