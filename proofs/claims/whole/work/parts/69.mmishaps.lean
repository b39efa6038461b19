theorem ct_link {cov S a : Nat} (ha : a < 24) (h : S.testBit a = false) : fb_ct (cov &&& (S ||| 2 ^ a)).testBit 24 = fb_ct (cov &&& S).testBit 24 + (if cov.testBit a then 1 else 0) := by
  have e : fb_ct (cov &&& (S ||| 2 ^ a)).testBit 24 = fb_ct (fun k => if k = a then cov.testBit a else (cov &&& S).testBit k) 24 := fb_ct_cong (fun k _ => by
    rw [Nat.testBit_and, fb_bit_set, Nat.testBit_and]
    by_cases c : k = a
    · subst c; simp
    · simp [c])
  have u := fb_ct_upd (cov &&& S).testBit (cov.testBit a) ha
  rw [e]
  rw [Nat.testBit_and, h, Bool.and_false] at u
  simp only [Bool.false_eq_true, if_false, Nat.add_zero] at u
  exact u
section PMM
variable {Γ : cx_T}
theorem mlost_lp {cov al : Nat} {row : Nat → Nat} {μ : mH} {Q : Int32 → mH → Prop} (hc : cov < 2 ^ 24) (hR : RM row μ) (kk : Q (nI (al + fb_ct (mlp row cov) 24)) μ) : ∀ d c, c + d = 24 → aw Γ M_X12_mishapsNow 121 [aR 12 0, aI (nI (al + fb_ct (mlp row cov) c)), aI (nI cov), aI (nI c), aX] [] μ (rI Q) := by
  intro d
  induction d with
  | zero =>
    intro c h
    obtain rfl : c = 24 := by omega
    exact u_X12_mishapsNow_121 (br_t (by decide) kk)
  | succ d ih =>
    intro c h
    have h := ih (c + 1) (by omega)
    have hlt : c < 24 := by omega
    obtain ⟨r1, r2⟩ := hR c hlt
    have e : fb_ct (mlp row cov) (c + 1) = fb_ct (mlp row cov) c + (if mlp row cov c then 1 else 0) := rfl
    rw [e] at h
    refine u_X12_mishapsNow_121 (br_f (nI_ge (b := 24) hlt (by decide)) ?_)
    rw [nI_1, nI_1, tn_nI (by omega), r2, show nI (al + fb_ct (mlp row cov) c) + (0 : Int32) = nI (al + fb_ct (mlp row cov) c) from nI_add _ 0]
    by_cases c1 : cov.testBit c = true
    · refine ⟨fun _ => ?_, fun q => absurd q (mb_1 (by omega) (by omega) c1)⟩
      simp [mlp, c1] at h
      exact h
    · have c1 : cov.testBit c = false := by simpa using c1
      refine ⟨fun q => absurd (mb_0 (by omega) (by omega) c1) q, fun _ => ⟨vp_in_nI hlt (by decide), pk_eq (row c) 25 (fun c2 => ?_) (fun c2 => ⟨vp_in_nI hlt (by decide), pk_eq (row c) 26 (fun c3 => ?_) (fun c3 => ?_)⟩)⟩⟩
      · simp [mlp, c1, c2] at h
        exact h
      · simp [mlp, c1, c3] at h
        exact h
      · simp [mlp, c1, c2, c3] at h
        exact h
theorem mlink_lp {h N cov al f : Nat} {row : Nat → Nat} {μ : mH} {Q : Int32 → mH → Prop} (eN : cN row h = N) (hc : cov < 2 ^ 24) (h1 : μ 12 0 34 = nI N) (hp : ∀ j, j < N → μ 61 0 j = nI (ca row h j)) (kk : aw Γ M_X12_mishapsNow 6 [aR 12 0, aI (nI (al + fb_ct (cov &&& cS row h N).testBit 24)), aI (nI (cov ||| cS row h N)), aI (nI f + 1), aX] [] μ (rI Q)) :
    ∀ d k, k + d = N → aw Γ M_X12_mishapsNow 72 [aR 12 0, aI (nI (al + fb_ct (cov &&& cS row h k).testBit 24)), aI (nI (cov ||| cS row h k)), aI (nI f), aI (nI k)] [] μ (rI Q) := by
  have hN := cN_le row h
  rw [eN] at hN
  intro d
  induction d with
  | zero =>
    intro k hk
    obtain rfl : k = N := by omega
    refine u_X12_mishapsNow_72 ?_
    rw [h1]
    exact br_t (nI_le (Nat.le_refl _) (by omega)) kk
  | succ d ih =>
    intro k hk
    have h := ih (k + 1) (by omega)
    obtain ⟨c1, c2⟩ := cok_t (cN_t (row := row) (h := h) (k := k) (by omega))
    have hS := cN_S (row := row) (h := h) (k := k) (by omega)
    refine u_X12_mishapsNow_72 ?_
    rw [h1]
    refine br_f (nI_ge (by omega) (by omega)) ⟨vp_in_nI (by omega) (by decide), vp_in_nI (by omega) (by decide), ?_⟩
    rw [tn_nI (by omega), hp k (by omega), mb_s _ (by omega), mb_t (by have := Nat.or_lt_two_pow hc hS; omega) (by omega), nI_add, nI_1, Nat.testBit_or, c2, Bool.or_false, Nat.or_assoc]
    have e : cS row h (k + 1) = cS row h k ||| 2 ^ ca row h k := rfl
    rw [e, ct_link c1 c2, ← Nat.add_assoc] at h
    exact h
end PMM
