def RM (row : Nat → Nat) (μ : mH) : Prop := ∀ c, c < 24 → row c ≤ 26 ∧ μ 60 0 c = nI (row c)
def HM (nf : Nat) (hd ln : Nat → Nat) (μ : mH) : Prop := nf ≤ 6 ∧ μ 12 0 16 = nI nf ∧ ∀ f, f < nf → hd f < 24 ∧ 1 ≤ ln f ∧ ln f ≤ 24 ∧ μ 48 0 f = nI (hd f) ∧ μ 49 0 f = nI (ln f)
section PMC
variable {Γ : cx_T}
theorem s_misCl {μ : mH} {a : Nat} {Q : Int32 → mH → Prop} (ha : a < 2 ^ 31) (k1 : a < 24 → Q 1 μ) (k0 : 24 ≤ a → Q 0 μ) : cwi Γ M_X12_isCluster [aI (nI a)] μ Q :=
  s_misClX (fun b hb e => k1 (by have := (nI_eq ha (by omega)).mp e; omega)) (fun h => k0 (by
    by_cases c : a < 24
    · exact absurd rfl (h a c)
    · omega))
theorem chains_lp {h N : Nat} {row : Nat → Nat} {μ0 : mH} {Q : mH → Prop} (eN : cN row h = N) (hh : h < 24) (hR : RM row μ0) (kk : ∀ μ', Fr [12, 61] μ0 μ' → (∀ s, s ≠ 34 → μ' 12 0 s = μ0 12 0 s) → μ' 12 0 34 = nI N → (∀ j, j < N → μ' 61 0 j = nI (ca row h j)) → Q μ') :
    ∀ (d k : Nat) (μ : mH), k + d = N → Fr [12, 61] μ0 μ → (∀ s, s ≠ 34 → μ 12 0 s = μ0 12 0 s) → μ 12 0 34 = nI k → (∀ j, j < k → μ 61 0 j = nI (ca row h j)) → aw Γ M_X12_chains 14 [aR 12 0, aX, aI (nI (ca row h k)), aI (nI (cS row h k))] [] μ (rV Q) := by
  have hN := cN_le row h
  rw [eN] at hN
  intro d
  induction d with
  | zero =>
    intro k μ hk hF hs h1 hp
    obtain rfl : k = N := by omega
    have hS := cN_S (row := row) (h := h) (k := k) (by omega)
    have hq := kk μ hF hs h1 hp
    refine u_X12_chains_14 (s_misCl (by have := ca_le hh (fun c hc => (hR c hc).1) k (by omega); omega) (fun c => ⟨fun e => absurd e (by decide), fun _ => ⟨fun _ => hq, fun e => ?_⟩⟩) (fun _ => ⟨fun _ => hq, fun e => absurd rfl e⟩))
    have hf := cN_f row h
    rw [eN] at hf
    rcases cok_f hf with c2 | c2
    · omega
    · exact absurd e (mb_1 (by omega) (by omega) c2)
  | succ d ih =>
    intro k μ hk hF hs h1 hp
    obtain ⟨c1, c2⟩ := cok_t (cN_t (row := row) (h := h) (k := k) (by omega))
    have hS := cN_S (row := row) (h := h) (k := k) (by omega)
    refine u_X12_chains_14 (s_misCl (by omega) (fun _ => ⟨fun e => absurd e (by decide), fun _ => ⟨fun e => absurd (mb_0 (by omega) (by omega) c2) e, fun _ => ?_⟩⟩) (fun c => absurd c (by omega)))
    rw [h1, mb_s _ (by omega), tn_nI (by omega), tn_nI (by omega), nI_1]
    refine ⟨vp_in_nI (by omega) (by decide), vp_in_nI (by omega) (by decide), ?_⟩
    rw [Fr_at hF (by decide), (hR _ c1).2]
    refine ih (k + 1) _ (by omega) (Fr_st2 (Fr_st2 hF (by decide)) (by decide)) (fun s q => by rw [sto_s q, sto_K (by decide)]; exact hs s q) sto_eq (fun j hj => ?_)
    rw [sto_K (by decide)]
    by_cases e : j = k
    · subst e; rw [sto_eq]
    · rw [sto_s e]; exact hp j (by omega)
theorem m_chains {f nf : Nat} {row hd ln : Nat → Nat} {μ : mH} {Q : mH → Prop} (hf : f < nf) (hH : HM nf hd ln μ) (hR : RM row μ) (kk : ∀ μ', Fr [12, 61] μ μ' → (∀ s, s ≠ 34 → μ' 12 0 s = μ 12 0 s) → μ' 12 0 34 = nI (cN row (hd f)) → (∀ j, j < cN row (hd f) → μ' 61 0 j = nI (ca row (hd f) j)) → Q μ') : cwv Γ M_X12_chains [aR 12 0, aI (nI f)] μ Q := by
  obtain ⟨h1, h2, h3⟩ := hH
  obtain ⟨g1, g2, g3, g4, g5⟩ := h3 f hf
  refine u_X12_chains ⟨vp_in_nI (by omega) (by decide), ?_⟩
  rw [tn_nI (by omega), g4]
  exact chains_lp rfl g1 hR kk _ 0 _ (Nat.zero_add _) (Fr_sto (by decide)) (fun s q => sto_s q) sto_eq (fun j hj => absurd hj (by omega))
end PMC
