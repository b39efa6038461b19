theorem ct_link {cov S a : Nat} (ha : a < 24) (h : S.testBit a = false) : fb_ct (cov &&& (S ||| 2 ^ a)).testBit 24 = fb_ct (cov &&& S).testBit 24 + (if cov.testBit a then 1 else 0) := by
  have e : fb_ct (cov &&& (S ||| 2 ^ a)).testBit 24 = fb_ct (fun k => if k = a then cov.testBit a else (cov &&& S).testBit k) 24 := fb_ct_cong (fun k _ => by
    rw [Nat.testBit_and, fb_bit_set, Nat.testBit_and]
    by_cases c : k = a
    · subst c; simp
    · simp [c])
  have u := fb_ct_upd (cov &&& S).testBit (cov.testBit a) ha
  rw [e]
  rw [Nat.testBit_and, h, Bool.and_false] at u
  simp only [Bool.false_eq_true, if_false, Nat.add_zero] at u
  exact u
section PMM
variable {Γ : cx_T}
theorem mlost_lp {cov al : Nat} {row : Nat → Nat} {μ : mH} {Q : Int32 → mH → Prop} (hc : cov < 2 ^ 24) (hR : RM row μ) (kk : Q (nI (al + fb_ct (mlp row cov) 24)) μ) : ∀ d c, c + d = 24 → aw Γ M_X12_mishapsNow 121 [aR 12 0, aI (nI (al + fb_ct (mlp row cov) c)), aI (nI cov), aI (nI c), aX] [] μ (rI Q) := by
  intro d
  induction d with
  | zero =>
    intro c h
    obtain rfl : c = 24 := by omega
    exact u_X12_mishapsNow_121 (br_t (by decide) kk)
  | succ d ih =>
    intro c h
    have h := ih (c + 1) (by omega)
    have hlt : c < 24 := by omega
    obtain ⟨r1, r2⟩ := hR c hlt
    have e : fb_ct (mlp row cov) (c + 1) = fb_ct (mlp row cov) c + (if mlp row cov c then 1 else 0) := rfl
    rw [e] at h
    refine u_X12_mishapsNow_121 (br_f (nI_ge (b := 24) hlt (by decide)) ?_)
    rw [nI_1, nI_1, tn_nI (by omega), r2, show nI (al + fb_ct (mlp row cov) c) + (0 : Int32) = nI (al + fb_ct (mlp row cov) c) from nI_add _ 0]
    by_cases c1 : cov.testBit c = true
    · refine ⟨fun _ => ?_, fun q => absurd q (mb_1 (by omega) (by omega) c1)⟩
      simp [mlp, c1] at h
      exact h
    · have c1 : cov.testBit c = false := by simpa using c1
      refine ⟨fun q => absurd (mb_0 (by omega) (by omega) c1) q, fun _ => ⟨vp_in_nI hlt (by decide), pk_eq (row c) 25 (fun c2 => ?_) (fun c2 => ⟨vp_in_nI hlt (by decide), pk_eq (row c) 26 (fun c3 => ?_) (fun c3 => ?_)⟩)⟩⟩
      · simp [mlp, c1, c2] at h
        exact h
      · simp [mlp, c1, c3] at h
        exact h
      · simp [mlp, c1, c2, c3] at h
        exact h
theorem mlink_lp {h N cov al f : Nat} {row : Nat → Nat} {μ : mH} {Q : Int32 → mH → Prop} (eN : cN row h = N) (hc : cov < 2 ^ 24) (h1 : μ 12 0 34 = nI N) (hp : ∀ j, j < N → μ 61 0 j = nI (ca row h j)) (kk : aw Γ M_X12_mishapsNow 6 [aR 12 0, aI (nI (al + fb_ct (cov &&& cS row h N).testBit 24)), aI (nI (cov ||| cS row h N)), aI (nI f + 1), aX] [] μ (rI Q)) :
    ∀ d k, k + d = N → aw Γ M_X12_mishapsNow 72 [aR 12 0, aI (nI (al + fb_ct (cov &&& cS row h k).testBit 24)), aI (nI (cov ||| cS row h k)), aI (nI f), aI (nI k)] [] μ (rI Q) := by
  have hN := cN_le row h
  rw [eN] at hN
  intro d
  induction d with
  | zero =>
    intro k hk
    obtain rfl : k = N := by omega
    refine u_X12_mishapsNow_72 ?_
    rw [h1]
    exact br_t (nI_le (Nat.le_refl _) (by omega)) kk
  | succ d ih =>
    intro k hk
    have hI := ih (k + 1) (by omega)
    obtain ⟨c1, c2⟩ := cok_t (cN_t (row := row) (h := h) (k := k) (by omega))
    have hS := cN_S (row := row) (h := h) (k := k) (by omega)
    refine u_X12_mishapsNow_72 ?_
    rw [h1]
    refine br_f (nI_ge (by omega) (by omega)) ⟨vp_in_nI (by omega) (by decide), vp_in_nI (by omega) (by decide), ?_⟩
    rw [tn_nI (by omega), hp k (by omega), mb_s _ (by omega), mb_t (by have := Nat.or_lt_two_pow hc hS; omega) (by omega), nI_add, nI_1, Nat.testBit_or, c2, Bool.or_false, Nat.or_assoc]
    have e : cS row h (k + 1) = cS row h k ||| 2 ^ ca row h k := rfl
    rw [e, ct_link c1 c2, ← Nat.add_assoc] at hI
    exact hI
theorem m_mishapsNow {nf : Nat} {row hd ln : Nat → Nat} {μ : mH} {Q : Int32 → mH → Prop} (hH : HM nf hd ln μ) (hR : RM row μ) (kk : ∀ μ', Fr [12, 61] μ μ' → (∀ s, s ≠ 34 → μ' 12 0 s = μ 12 0 s) → Q (nI (mi row hd ln nf)) μ') : cwi Γ M_X12_mishapsNow [aR 12 0] μ Q := by
  obtain ⟨h1, h2, h3⟩ := hH
  refine u_X12_mishapsNow ?_
  have lp : ∀ d f μ1, f + d = nf → Fr [12, 61] μ μ1 → (∀ s, s ≠ 34 → μ1 12 0 s = μ 12 0 s) → aw Γ M_X12_mishapsNow 6 [aR 12 0, aI (nI (mall row hd ln f)), aI (nI (mcov row hd f)), aI (nI f), aX] [] μ1 (rI Q) := by
    intro d
    induction d with
    | zero =>
      intro f μ1 hf hF hs
      obtain rfl : f = nf := by omega
      refine u_X12_mishapsNow_6 ?_
      rw [hs 16 (by decide), h2]
      have hR1 : RM row μ1 := fun c hc => by rw [Fr_at hF (by decide)]; exact hR c hc
      exact br_t (nI_le (Nat.le_refl _) (by omega)) (mlost_lp (mcov_lt row hd f) hR1 (kk μ1 hF hs) 24 0 rfl)
    | succ d ih =>
      intro f μ1 hf hF hs
      obtain ⟨g1, g2, g3, g4, g5⟩ := h3 f (by omega)
      have hR1 : RM row μ1 := fun c hc => by rw [Fr_at hF (by decide)]; exact hR c hc
      have hH1 : HM nf hd ln μ1 := ⟨h1, by rw [hs 16 (by decide)]; exact h2, fun q hq => by rw [Fr_at hF (by decide), Fr_at hF (by decide)]; exact h3 q hq⟩
      refine u_X12_mishapsNow_6 ?_
      rw [hs 16 (by decide), h2]
      refine br_f (nI_ge (by omega) (by omega)) (m_chains (by omega) hH1 hR1 (fun μ2 F2 s2 n2 p2 => ?_))
      have F3 := Fr_tr hF F2
      have s3 : ∀ s, s ≠ 34 → μ2 12 0 s = μ 12 0 s := fun s q => (s2 s q).trans (hs s q)
      have h := ih (f + 1) μ2 (by omega) F3 s3
      have hN := cN_le row (hd f)
      have hN1 := cN_1 (row := row) g1
      have hS := cN_S (row := row) (h := hd f) (Nat.le_refl _)
      have ha := ca_le g1 (fun c hc => (hR c hc).1) _ (Nat.le_refl (cN row (hd f)))
      generalize eN : cN row (hd f) = N at *
      have em : mall row hd ln (f + 1) = mall row hd ln f + (if N = ln f then 0 else 1) + (if ca row (hd f) N = 24 then 0 else 1) + fb_ct (mcov row hd f &&& cS row (hd f) N).testBit 24 := by rw [← eN]; rfl
      have ec : mcov row hd (f + 1) = mcov row hd f ||| cS row (hd f) N := by rw [← eN]; rfl
      rw [em, ec] at h
      have last : ∀ (y0 y1 : Nat), y1 + y0 = mall row hd ln f + (if N = ln f then 0 else 1) → aw Γ M_X12_mishapsNow 38 [aR 12 0, aX, aI (nI (mcov row hd f)), aI (nI f), aX] [aI (nI y0), aI (nI y1)] μ2 (rI Q) := by
        intro y0 y1 hy
        obtain ⟨c1, c2⟩ := cok_t (cN_t (row := row) (h := hd f) (k := N - 1) (by omega))
        have eca : row (ca row (hd f) (N - 1)) = ca row (hd f) N := by
          have : N = (N - 1) + 1 := by omega
          conv => rhs; rw [this]
          rfl
        refine u_X12_mishapsNow_38 ?_
        rw [n2, show nI N - (1 : Int32) = nI (N - 1) from pk_sub (b := 1) (by omega), tn_nI (by omega), p2 (N - 1) (by omega), tn_nI (by omega), Fr_at F3 (by decide), (hR _ c1).2, eca, nI_add, hy]
        have z0 : ∀ al, aw Γ M_X12_mishapsNow 6 [aR 12 0, aI (nI (al + fb_ct (mcov row hd f &&& cS row (hd f) N).testBit 24)), aI (nI (mcov row hd f ||| cS row (hd f) N)), aI (nI f + 1), aX] [] μ2 (rI Q) → aw Γ M_X12_mishapsNow 72 [aR 12 0, aI (nI al), aI (nI (mcov row hd f)), aI (nI f), aI 0] [] μ2 (rI Q) := fun al q => by
          have := mlink_lp (al := al) eN (mcov_lt row hd f) n2 p2 q N 0 (Nat.zero_add _)
          have e0 : cS row (hd f) 0 = 0 := rfl
          rw [e0, Nat.and_zero, Nat.or_zero, show fb_ct (Nat.testBit 0) 24 = 0 by decide, Nat.add_zero] at this
          exact this
        rw [← nI_1] at h
        refine ⟨vp_in_nI (by omega) (by decide), vp_in_nI c1 (by decide), fun r => ?_, fun r => ?_⟩
        · rw [nI_1]
          refine z0 _ ?_
          have r2 : ¬ ca row (hd f) N = 24 := fun e => r (by rw [e]; rfl)
          rw [if_neg r2] at h
          exact h
        · have r := (nI_eq (b := 24) (by omega) (by decide)).mp r
          rw [show ∀ a, nI a + (0 : Int32) = nI a from fun a => nI_add a 0]
          refine z0 _ ?_
          rw [if_pos r, Nat.add_zero] at h
          exact h
      rw [n2, tn_nI (by omega), Fr_at F3 (show 49 ∉ [12, 61] by decide), g5]
      exact ⟨vp_in_nI (by omega) (by decide), fun q => last 1 _ (by rw [if_neg (fun e => q (by rw [e]))]), fun q => last 0 _ (by rw [if_pos ((nI_eq (by omega) (by omega)).mp q)])⟩
  exact lp nf 0 μ (Nat.zero_add _) Fr_rf (fun _ _ => rfl)
end PMM
