theorem off_f : ∀ t, t < 11 → off 23 t = off 1 t + 1 ∧ off 1 t + 18 < 292 ∧ ∀ k, k < 8 → off 7 (8 * t + k) = off 1 t + 2 + 2 * k ∧ off 24 (8 * t + k) = off 1 t + 3 + 2 * k := by decide +kernel
theorem kd1 : kd 1 ≠ none := by decide
theorem kd23 : kd 23 ≠ none := by decide
theorem kd7 : kd 7 ≠ none := by decide
theorem kd9 : kd 9 ≠ none := by decide
theorem kd10 : kd 10 ≠ none := by decide
theorem kd25 : kd 25 ≠ none := by decide
theorem kd8 : kd 8 ≠ none := by decide
/-- the loop of Find() -/
theorem lp_X1 {Γ : cx_T} {t n : Nat} {lk0 : lkT} {X : Nat → Prop} {Q : Nat → lkT → Prop} (ht : t < 11) (hn : off 23 t = n) (hX : ∀ o, X o → o < n ∧ o ≠ off 1 t) (kk : ∀ lk', AG (n + 17) lk' X → KP lk0 lk' X → Q (n + 17) lk') :
    ∀ (d k : Nat) (lk : lkT), k + d = 8 → AG (n + 1 + 2 * k) lk (fun o => o = off 1 t ∨ o = off 23 t ∨ X o) → lk 1 t 0 = aR 23 t → lk 1 t 1 = aI 0 → (∀ s, s < 8 → lk 23 t s = if s < k then aR 7 (8 * t + s) else aN) → KP lk0 lk X → bw Γ M_X1_init 17 128 15 [aR 1 t, aI (nI k)] [] (n + 1 + 2 * k) lk (1 + 2 * k) (8 + 15 * k) Q := by
  obtain ⟨f1, f2, f3⟩ := off_f t ht
  have ht1 : t < kn 1 := ht
  have ht23 : t < kn 23 := ht
  intro d
  induction d with
  | zero =>
    intro k lk hk hA h0 h1 h2 hK
    obtain rfl : k = 8 := by omega
    refine bw_iload_n dX1_init_15 rfl ?_
    refine bw_bipush (v := 8) dX1_init_16 rfl ?_
    refine bw_icmp_ge (tgt := 40) dX1_init_18 (by decide) (fun _ => ?_) (fun c => absurd (by decide) c)
    refine bw_vret dX1_init_40 (by decide) (by decide) (kk lk (AG_fin (AG_fin (AG_mono hA ?_) kd23 ht23 ?_) kd1 ht1 ?_) hK)
    · intro o ho
      rcases ho with h | h | h
      · exact Or.inr (Or.inl h)
      · exact Or.inl h
      · exact Or.inr (Or.inr h)
    · intro s hs
      have hs : s < 8 := hs
      rw [h2 s hs, if_pos hs]
      rfl
    · intro s hs
      have hs : s < 2 := hs
      rcases (show s = 0 ∨ s = 1 by omega) with rfl | rfl
      · rw [h0]; rfl
      · rw [h1]; rfl
  | succ d ih =>
    intro k lk hk hA h0 h1 h2 hK
    have hk8 : k < 8 := by omega
    obtain ⟨g1, g2⟩ := f3 k hk8
    have hj : 8 * t + k < kn 7 := by show _ < 88; omega
    refine bw_iload_n dX1_init_15 rfl ?_
    refine bw_bipush (v := 8) dX1_init_16 rfl ?_
    refine bw_icmp_ge (tgt := 40) dX1_init_18 (by decide) (fun c => absurd c (nI_ge (b := 8) hk8 (by decide))) (fun _ => ?_)
    refine bw_aload_n dX1_init_21 rfl ?_
    refine bw_get dX1_init_22 rfl fk_RX1_11 ht1 (by omega) h0 ?_
    refine bw_iload_n dX1_init_25 rfl ?_
    refine bw_new (K := 7) (i := 8 * t + k) (ci := 7) dX1_init_26 rfl cl_RX1_9 ni_RX7 it_RX7 rfl hj (by omega) (by omega) (by show 8 + 15 * k + 7 ≤ 128; omega) (by decide) ?_
    refine bw_dup dX1_init_29 ?_
    refine bw_callIN (M' := M_X7_init) (mc' := 1) (ms' := 8) dX1_init_30 mk_X7_init mI_X7_init ml_RX1_17 mp_X7_init rfl rfl rm_X1_init__X7_init (Nat.le_of_ble_eq_true rfl) (by omega) (by show 8 + 15 * k + 7 + 8 ≤ 128; omega) ?_
    refine ct_X7 (X := fun o => o = off 1 t ∨ o = off 23 t ∨ X o) hj (by omega) (by omega) (by omega) (fun s => nw_eq) (AG_mono (AG_nw hA (by omega) (by omega)) (fun o ho => ho.imp (fun h => by omega) id)) ?_ ?_
    · intro o ho
      rcases ho with h | h | h
      · omega
      · omega
      · have := hX o h; omega
    · intro lk' hA' hK'
      have e1 : ∀ s, lk' 1 t s = lk 1 t s := fun s => (KP_at hK' kd1 ht1 (Or.inl rfl) s).trans (nw_ne (fun q => absurd q.1 (by decide)))
      have e2 : ∀ s, lk' 23 t s = lk 23 t s := fun s => (KP_at hK' kd23 ht23 (Or.inr (Or.inl rfl)) s).trans (nw_ne (fun q => absurd q.1 (by decide)))
      have hcl : (nI k).toNatClampNeg = k := nI_clamp (by omega)
      refine bw_aast (K := 23) (i := t) (N := 8) (K' := 7) (j := 8 * t + k) (ci := 7) dX1_init_33 rfl rfl ht23 (by omega) rfl hj (by omega) (vp_in_nI hk8 (by decide)) ?_
      rw [hcl]
      refine bw_iinc (v := nI (k + 1)) (ls' := [aR 1 t, aI (nI (k + 1))]) dX1_init_34 rfl (nI_1 k) (by decide) rfl rfl ?_
      refine bw_goto (tgt := 15) dX1_init_37 (by decide) ?_
      have h := ih (k + 1) (pf lk' 23 t k (aR 7 (8 * t + k))) (by omega) (by
        have h5 := AG_pf (K := 23) (i := t) (f := k) (v := aR 7 (8 * t + k)) hA' (by omega) (Or.inr (Or.inl rfl))
        exact (show n + 1 + 2 * (k + 1) = n + 1 + 2 * k + 1 + 1 by omega) ▸ h5) (by rw [pf_ne (fun q => absurd q.1 (by decide)), e1]; exact h0) (by rw [pf_ne (fun q => absurd q.1 (by decide)), e1]; exact h1) (fun s hs => by
        by_cases e : s = k
        · subst e
          rw [pf_eq, if_pos (by omega)]
        · rw [pf_ne (fun q => e q.2.2), e2, h2 s hs]
          by_cases hlt : s < k
          · rw [if_pos hlt, if_pos (by omega)]
          · rw [if_neg hlt, if_neg (by omega)]) (KP_trans hK (KP_trans (KP_nw (fun o ho => by have := hX o ho; omega)) (KP_trans (KP_mono hK' (fun o ho => Or.inr (Or.inr ho))) (KP_pf (fun o ho => by have := hX o ho; omega)))))
      have z1 : n + 1 + 2 * (k + 1) = n + 1 + 2 * k + 1 + 1 := by omega
      have z2 : 1 + 2 * (k + 1) = 1 + 2 * k + 1 + 1 := by omega
      have z3 : 8 + 15 * (k + 1) = 8 + 15 * k + 7 + 8 := by omega
      rw [z1, z2, z3] at h
      exact h
theorem ct_X1 {Γ : cx_T} {t n : Nat} {lk : lkT} {X : Nat → Prop} {Q : Nat → lkT → Prop} (ht : t < 11) (hn : off 23 t = n) (hd : ∀ s, lk 1 t s = dvT (tyT 1 s)) (hA : AG n lk (fun o => o = off 1 t ∨ X o)) (hX : ∀ o, X o → o < n ∧ o ≠ off 1 t) (kk : ∀ lk', AG (n + 17) lk' X → KP lk lk' X → Q (n + 17) lk') : cb Γ M_X1_init 17 128 [aR 1 t] n lk Q := by
  obtain ⟨f1, f2, f3⟩ := off_f t ht
  have ht1 : t < kn 1 := ht
  have ht23 : t < kn 23 := ht
  refine cb_ofU (ls := [aR 1 t, aX]) (Or.inl (by decide)) rfl rfl (Nat.le_of_ble_eq_true rfl) rfl ?_
  refine bw_aload_n dX1_init_0 rfl ?_
  refine bw_objInit dX1_init_1 oi_RX1_3 (by decide) (by decide) (Nat.le_of_ble_eq_true rfl) ?_
  refine bw_aload_n dX1_init_4 rfl ?_
  refine bw_bipush (v := 8) dX1_init_5 rfl ?_
  refine bw_anew (K := 23) (i := t) (N := 8) (C := RX7) dX1_init_7 cl_RX1_9 (Or.inl rfl) rfl ht23 hn (by decide) (by decide) (by decide) (by decide) (by decide) ?_
  refine bw_put (f := 0) dX1_init_10 rfl fk_RX1_11 ht1 (by omega) (fun r h => by cases h; rfl) rfl (fun _ => rfl) (fun _ => rfl) ?_
  refine bw_iconst (v := 0) dX1_init_13 rfl ?_
  refine bw_istore_n (ls' := [aR 1 t, aI 0]) dX1_init_14 (by decide) rfl rfl ?_
  have hne : ∀ s, nw lk 23 t (fun _ => aN) 1 t s = lk 1 t s := fun s => nw_ne (fun q => absurd q.1 (by decide))
  refine lp_X1 (lk0 := lk) ht hn hX kk 8 0 _ rfl (AG_mono (AG_pf (AG_nw hA (by omega) hn) (by omega) (Or.inr (Or.inl rfl))) ?_) pf_eq (by rw [pf_ne (fun q => absurd q.2.2 (by decide)), hne, hd]; rfl) (fun s hs => ?_) (KP_trans (KP_nw (fun o ho => by have := hX o ho; omega)) (KP_pf (fun o ho => by have := hX o ho; omega)))
  · intro o ho
    rcases ho with h | h | h
    · exact Or.inr (Or.inl (h.trans hn.symm))
    · exact Or.inl h
    · exact Or.inr (Or.inr h)
  · rw [pf_ne (fun q => absurd q.1 (by decide)), nw_eq, if_neg (by omega)]
