/-! MISHAPS -/
def mcov (row hd : Nat → Nat) : Nat → Nat
  | 0 => 0
  | f + 1 => mcov row hd f ||| cS row (hd f) (cN row (hd f))
def mall (row hd ln : Nat → Nat) : Nat → Nat
  | 0 => 0
  | f + 1 => mall row hd ln f + (if cN row (hd f) = ln f then 0 else 1) + (if ca row (hd f) (cN row (hd f)) = 24 then 0 else 1) + fb_ct (mcov row hd f &&& cS row (hd f) (cN row (hd f))).testBit 24
def mlp (row : Nat → Nat) (cov : Nat) (c : Nat) : Bool := !cov.testBit c && !decide (row c = 25) && !decide (row c = 26)
def mi (row hd ln : Nat → Nat) (nf : Nat) : Nat := mall row hd ln nf + fb_ct (mlp row (mcov row hd nf)) 24
theorem mcov_lt (row hd : Nat → Nat) : ∀ f, mcov row hd f < 2 ^ 24
  | 0 => by show 0 < 2 ^ 24; decide
  | f + 1 => Nat.or_lt_two_pow (mcov_lt row hd f) (cN_S (Nat.le_refl _))
theorem mall_le (row hd ln : Nat → Nat) : ∀ f, mall row hd ln f ≤ 26 * f
  | 0 => Nat.le_refl _
  | f + 1 => by
    have h := mall_le row hd ln f
    have h2 := fb_ct_le (mcov row hd f &&& cS row (hd f) (cN row (hd f))).testBit 24
    show mall row hd ln f + (if cN row (hd f) = ln f then 0 else 1) + (if ca row (hd f) (cN row (hd f)) = 24 then 0 else 1) + fb_ct (mcov row hd f &&& cS row (hd f) (cN row (hd f))).testBit 24 ≤ _
    split <;> split <;> omega
section PMI
variable {Γ : cx_T}
theorem lost_lp {i cov : Nat} {row : Nat → Nat} {μ : mH} {Q : Int32 → mH → Prop} (hc : cov < 2 ^ 24) (hR : RW i row μ) (kk : Q (nI (fb_ct (mlp row cov) 24)) μ) : ∀ d c, c + d = 24 → aw Γ M_X0_lostOnes 4 [aR 35 i, aI (nI cov), aI (nI (fb_ct (mlp row cov) c)), aI (nI c)] [] μ (rI Q) := by
  intro d
  induction d with
  | zero =>
    intro c h
    obtain rfl : c = 24 := by omega
    exact u_X0_lostOnes_4 (br_t (by decide) kk)
  | succ d ih =>
    intro c h
    have h := ih (c + 1) (by omega)
    have hlt : c < 24 := by omega
    obtain ⟨r1, r2⟩ := hR c hlt
    have e : fb_ct (mlp row cov) (c + 1) = fb_ct (mlp row cov) c + (if mlp row cov c then 1 else 0) := rfl
    rw [e] at h
    refine u_X0_lostOnes_4 (br_f (nI_ge (b := 24) hlt (by decide)) ?_)
    rw [nI_1, nI_1, tn_nI (by omega), r2]
    by_cases c1 : cov.testBit c = true
    · refine ⟨fun _ => ?_, fun q => absurd q (mb_1 (by omega) (by omega) c1)⟩
      simp [mlp, c1] at h
      exact h
    · have c1 : cov.testBit c = false := by simpa using c1
      refine ⟨fun q => absurd (mb_0 (by omega) (by omega) c1) q, fun _ => ⟨vp_in_nI hlt (by decide), pk_eq (row c) 25 (fun c2 => ?_) (fun c2 => ⟨vp_in_nI hlt (by decide), pk_eq (row c) 26 (fun c3 => ?_) (fun c3 => ?_)⟩)⟩⟩
      · simp [mlp, c1, c2] at h
        exact h
      · simp [mlp, c1, c3] at h
        exact h
      · simp [mlp, c1, c2, c3] at h
        exact h
theorem fb_lp {i h N : Nat} {row : Nat → Nat} {x2 x3 x4 : Int32} {μ : mH} {Q : Int32 → mH → Prop} (eN : cN row h = N) (hh : h < 24) (hR : RW i row μ) (kk : aw Γ M_X0_faultsBy 77 [aR 0 0, aR 35 i, aI x2, aI x3, aI x4, aI (nI (cS row h N)), aI (nI N), aI (nI (ca row h N))] [] μ (rI Q)) :
    ∀ (d k : Nat), k + d = N → aw Γ M_X0_faultsBy 31 [aR 0 0, aR 35 i, aI x2, aI x3, aI x4, aI (nI (cS row h k)), aI (nI k), aI (nI (ca row h k))] [] μ (rI Q) := by
  have hN := cN_le row h
  rw [eN] at hN
  intro d
  induction d with
  | zero =>
    intro k hk
    obtain rfl : k = N := by omega
    have hS := cN_S (row := row) (h := h) (k := k) (by omega)
    refine u_X0_faultsBy_31 ⟨fun _ => kk, fun _ => s_isCl (by have := ca_le hh (fun c hc => (hR c hc).1) k (by omega); omega) (fun c => ⟨fun e => absurd e (by decide), fun _ => ⟨fun _ => kk, fun e => ?_⟩⟩) (fun _ => ⟨fun _ => kk, fun e => absurd rfl e⟩)⟩
    have hf := cN_f row h
    rw [eN] at hf
    rcases cok_f hf with c2 | c2
    · omega
    · exact absurd e (mb_1 (by omega) (by omega) c2)
  | succ d ih =>
    intro k hk
    obtain ⟨c1, c2⟩ := cok_t (cN_t (row := row) (h := h) (k := k) (by omega))
    have hS := cN_S (row := row) (h := h) (k := k) (by omega)
    refine u_X0_faultsBy_31 (br_f (nI_ge (b := 24) (by omega) (by decide)) (s_isCl (by omega) (fun _ => ⟨fun e => absurd e (by decide), fun _ => ⟨fun e => absurd (mb_0 (by omega) (by omega) c2) e, fun _ => ⟨vp_in_nI (by omega) (by decide), ?_⟩⟩⟩) (fun c => absurd c (by omega))))
    rw [mb_s _ (by omega), tn_nI (by omega), nI_1, (hR _ c1).2]
    exact ih (k + 1) (by omega)
theorem c_faultsBy {i nf : Nat} {row hd ln : Nat → Nat} {μ : mH} {Q : Int32 → mH → Prop} (hH : HD nf hd ln μ) (hR : RW i row μ) (kk : Q (nI (mi row hd ln nf)) μ) : cwi Γ M_X0_faultsBy [aR 0 0, aR 35 i] μ Q := by
  obtain ⟨h1, h2, h3⟩ := hH
  refine u_X0_faultsBy ?_
  have lp : ∀ d f, f + d = nf → aw Γ M_X0_faultsBy 7 [aR 0 0, aR 35 i, aI (nI (mall row hd ln f)), aI (nI (mcov row hd f)), aI (nI f), aX, aX, aX] [] μ (rI Q) := by
    intro d
    induction d with
    | zero =>
      intro f hf
      obtain rfl : f = nf := by omega
      refine u_X0_faultsBy_7 ?_
      rw [h2]
      refine br_t (nI_le (Nat.le_refl _) (by omega)) (u_X0_lostOnes (lost_lp (mcov_lt row hd f) hR ?_ 24 0 rfl))
      rw [nI_add]
      exact kk
    | succ d ih =>
      intro f hf
      have h := ih (f + 1) (by omega)
      obtain ⟨g1, g2, g3, g4, g5⟩ := h3 f (by omega)
      have hN := cN_le row (hd f)
      have hS := cN_S (row := row) (h := hd f) (Nat.le_refl _)
      have ha := ca_le g1 (fun c hc => (hR c hc).1) _ (Nat.le_refl (cN row (hd f)))
      refine u_X0_faultsBy_7 ?_
      rw [h2, tn_nI (by omega), g4]
      refine br_f (nI_ge (by omega) (by omega)) ⟨vp_in_nI (by omega) (by decide), fb_lp rfl g1 hR ?_ _ 0 (Nat.zero_add _)⟩
      generalize eN : cN row (hd f) = N at *
      have em : mall row hd ln (f + 1) = mall row hd ln f + (if N = ln f then 0 else 1) + (if ca row (hd f) N = 24 then 0 else 1) + fb_ct (mcov row hd f &&& cS row (hd f) N).testBit 24 := by rw [← eN]; rfl
      have ec : mcov row hd (f + 1) = mcov row hd f ||| cS row (hd f) N := by rw [← eN]; rfl
      rw [em, ec] at h
      have last : ∀ (y0 y1 : Nat), y1 + y0 = mall row hd ln f + (if N = ln f then 0 else 1) + (if ca row (hd f) N = 24 then 0 else 1) → aw Γ M_X0_faultsBy 110 [aR 0 0, aR 35 i, aX, aI (nI (mcov row hd f)), aI (nI f), aI (nI (cS row (hd f) N)), aX, aX] [aI (nI y0), aI (nI y1)] μ (rI Q) := by
        intro y0 y1 hy
        refine u_X0_faultsBy_110 ?_
        rw [fa_and]
        refine s_bitCount (Nat.and_lt_two_pow _ hS) ?_
        rw [nI_add, nI_add, nI_1, fa_or, hy]
        exact h
      refine u_X0_faultsBy_77 ⟨vp_in_nI (by omega) (by decide), ?_⟩
      rw [tn_nI (by omega), g5]
      have l0 := last 0
      have l1 := last 1
      have p0 : ∀ a, nI a + (0 : Int32) = nI (a + 0) := fun a => nI_add a 0
      rw [p0, nI_1]
      refine ⟨fun q => ?_, fun q => ?_⟩
      · have q : N ≠ ln f := fun e => q (by rw [e])
        refine ⟨fun r => l1 _ ?_, fun r => l0 _ ?_⟩
        · rw [if_neg q, if_neg (fun e => r (by rw [e]; rfl))]
        · have r := (nI_eq (b := 24) (by omega) (by decide)).mp r
          rw [if_neg q, if_pos r]
      · have q := (nI_eq (by omega) (by omega)).mp q
        refine ⟨fun r => l1 _ ?_, fun r => l0 _ ?_⟩
        · rw [if_pos q, if_neg (fun e => r (by rw [e]; rfl))]
        · have r := (nI_eq (b := 24) (by omega) (by decide)).mp r
          rw [if_pos q, if_pos r]
  exact lp nf 0 (Nat.zero_add _)
end PMI
