section PLW
variable {Γ : cx_T}
theorem law_lp (hb0 : g_ad Γ 65 0 = g_b Γ) (hL : g_L Γ ≤ 3072) : ∀ (d i : Nat) (μ : mH), g_L Γ ≤ i + d → i ≤ 3100 → Iv μ → aw Γ M_L_law 18 [aR 65 0, aR 11 0, aR 12 0, aI (nI i)] [] μ (rI (fun x _ => x = 1)) := by
  have hc : ∀ i, i ≤ 3100 → ((Int32.ofNat (g_L Γ) - 6 < nI i) ↔ g_L Γ < i + 6) := fun i hi => by
    have e : (nI (g_L Γ)).toInt = (g_L Γ : Int) := nI_toInt (by omega)
    have e6 : (6 : Int32).toInt = 6 := by decide
    rw [fa_lt, show Int32.ofNat (g_L Γ) = nI (g_L Γ) from rfl, fb_subI (by rw [e, e6]; omega) (by rw [e, e6]; omega), e, e6, nI_toInt (by omega)]
    omega
  intro d
  induction d with
  | zero =>
    intro i μ hd hi h
    exact u_L_law_18 hb0 (br_t ((hc i hi).mpr (by omega)) rfl)
  | succ d ih =>
    intro i μ hd hi h
    refine u_L_law_18 hb0 ⟨fun _ => rfl, fun z => ?_⟩
    have hi6 : i + 6 ≤ g_L Γ := Nat.le_of_not_lt (fun y => z ((hc i hi).mpr y))
    have v : ∀ k, k < 6 → vp_in (nI i + nI k) (g_L Γ) := fun k hk => by
      rw [nI_add]
      exact vp_in_nI (by omega) (by omega)
    have v1 := v 1 (by decide)
    have v2 := v 2 (by decide)
    have v3 := v 3 (by decide)
    have v4 := v 4 (by decide)
    have v5 := v 5 (by decide)
    have kk : ∀ μ', Iv μ' → aw Γ M_L_law 18 [aR 65 0, aR 11 0, aR 12 0, aI (nI i + 6)] [] μ' (rI (fun x _ => x = 1)) := fun μ' h' => by
      rw [show nI i + (6 : Int32) = nI (i + 6) from nI_add i 6]
      exact ih (i + 6) μ' (by omega) (by omega) h'
    refine ⟨vp_in_nI (by omega) (by omega), ?_⟩
    refine ⟨fun _ => ⟨v1, v2, v3, v4, v5, cwi_mono (p_feed h kk) (fun r μ1 q => ⟨v1, v2, v3, v4, v5, q⟩)⟩, fun _ => ⟨v1, cwi_mono (p_end h kk) (fun r μ1 q => ⟨v1, q⟩)⟩, fun _ => p_fault h kk, fun _ => p_format h kk, fun _ => ⟨v1, v2, v3, v4, v5, cwi_mono (p_flux h kk) (fun r μ1 q => ⟨v1, v2, v3, v4, v5, q⟩)⟩, fun _ => p_wipe h kk, fun _ => ⟨v1, cwi_mono (p_read h kk) (fun r μ1 q => ⟨v1, q⟩)⟩, fun _ => ⟨v1, v2, v3, cwi_mono (p_raw h kk) (fun r μ1 q => ⟨v1, v2, v3, q⟩)⟩, fun _ => ⟨v1, v2, v3, cwi_mono (p_found h kk) (fun r μ1 q => ⟨v1, v2, v3, q⟩)⟩, fun _ => ⟨v1, v2, cwi_mono (p_tuned h kk) (fun r μ1 q => ⟨v1, v2, q⟩)⟩, fun _ => ⟨v1, v2, v3, cwi_mono (p_status h kk) (fun r μ1 q => ⟨v1, v2, v3, q⟩)⟩, fun _ => ⟨v1, v2, v3, cwi_mono (p_value h kk) (fun r μ1 q => ⟨v1, v2, v3, q⟩)⟩, fun _ => ⟨v1, v2, v3, cwi_mono (p_tell h kk) (fun r μ1 q => ⟨v1, v2, v3, q⟩)⟩, fun _ => ⟨v1, v2, cwi_mono (p_file h kk) (fun r μ1 q => ⟨v1, v2, q⟩)⟩, fun _ => ⟨v1, cwi_mono (p_mishaps h kk) (fun r μ1 q => ⟨v1, q⟩)⟩, fun _ => ⟨v1, v2, cwi_mono (p_next h kk) (fun r μ1 q => ⟨v1, v2, q⟩)⟩, fun _ => ⟨v1, v2, v3, cwi_mono (p_chain h kk) (fun r μ1 q => ⟨v1, v2, v3, q⟩)⟩, fun _ => ⟨v1, cwi_mono (p_gaps h kk) (fun r μ1 q => ⟨v1, q⟩)⟩, fun _ => ⟨v1, cwi_mono (p_hope h kk) (fun r μ1 q => ⟨v1, q⟩)⟩, fun _ => ⟨v1, cwi_mono (p_ask h kk) (fun r μ1 q => ⟨v1, q⟩)⟩, fun _ => ⟨v1, v2, v3, cwi_mono (p_written h kk) (fun r μ1 q => ⟨v1, v2, v3, q⟩)⟩, fun _ => ⟨v1, cwi_mono (p_count h kk) (fun r μ1 q => ⟨v1, q⟩)⟩, fun _ _ _ _ _ _ _ _ _ _ _ _ _ _ _ _ _ _ _ _ _ _ => kk μ h⟩
end PLW
theorem law_all (Γ : cx_T) (hb0 : g_ad Γ 65 0 = g_b Γ) (hL : g_L Γ ≤ 3072) : aw Γ M_L_law 18 [aR 65 0, aR 11 0, aR 12 0, aI 0] [] mu0 (rI (fun x _ => x = 1)) := law_lp hb0 hL (g_L Γ) 0 mu0 (by omega) (by omega) Iv_0
theorem whole_start {p : Program} {e : Env} {s : State} {m : MethodId} {below : List Frame} {meth : Method} {c : Code} (l : Launch) {b L : Nat} {xs : Nat → Int32} (hL : L ≤ 3072) (C0 : lw_At p s m meth c b L xs) : W p l e room_1 s m #[Value.ref b] below meth c s.heap [] 0 0 (lw_Z below #[Value.ref b] s) (entryFrame m ([Value.ref b] : List Value).toArray 4) := start_of law_all l hL C0
