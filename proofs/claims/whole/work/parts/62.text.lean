def TXC (n : Nat) (t : Nat → Nat) (μ : mH) : Prop := n ≤ 200 ∧ μ 2 0 1 = nI n ∧ ∀ j, j < n → t j < 256 ∧ μ 20 0 j = nI (t j)
def TXM (n : Nat) (t : Nat → Nat) (μ : mH) : Prop := n ≤ 200 ∧ μ 12 0 1 = nI n ∧ ∀ j, j < n → t j < 256 ∧ μ 40 0 j = (nI (t j)).toInt8.toInt32
def apb (t : Nat → Nat) (n : Nat) (x : Int32) : Nat → Nat := fun j => if j < n then t j else bq x (j - n)
def w20 (x1 x2 x3 x4 x5 : Int32) (k : Nat) : Int32 := if k < 4 then x1 else if k < 8 then x2 else if k < 12 then x3 else if k < 16 then x4 else x5
def b20 (x1 x2 x3 x4 x5 : Int32) (k : Nat) : Nat := bq (w20 x1 x2 x3 x4 x5 k) (k % 4)
def ap20 (t : Nat → Nat) (n : Nat) (x1 x2 x3 x4 x5 : Int32) : Nat → Nat := fun j => if j < n then t j else b20 x1 x2 x3 x4 x5 (j - n)
theorem ap20_eq (t : Nat → Nat) (n : Nat) (x1 x2 x3 x4 x5 : Int32) (j : Nat) (hj : j < n + 20) : apb (apb (apb (apb (apb t n x1) (n + 4) x2) (n + 8) x3) (n + 12) x4) (n + 16) x5 j = ap20 t n x1 x2 x3 x4 x5 j := by
  unfold apb ap20 b20 w20
  by_cases h0 : j < n
  · simp [h0, show j < n + 16 by omega, show j < n + 12 by omega, show j < n + 8 by omega, show j < n + 4 by omega]
  · by_cases h1 : j < n + 4
    · simp [h0, h1, show j < n + 16 by omega, show j < n + 12 by omega, show j < n + 8 by omega, show j - n < 4 by omega, show (j - n) % 4 = j - n by omega]
    · by_cases h2 : j < n + 8
      · simp [h0, h1, h2, show j < n + 16 by omega, show j < n + 12 by omega, show ¬ j - n < 4 by omega, show j - n < 8 by omega, show (j - n) % 4 = j - (n + 4) by omega]
      · by_cases h3 : j < n + 12
        · simp [h0, h2, h3, show j < n + 16 by omega, show ¬ j - n < 4 by omega, show ¬ j - n < 8 by omega, show j - n < 12 by omega, show (j - n) % 4 = j - (n + 8) by omega]
        · by_cases h4 : j < n + 16
          · simp [h0, h3, h4, show ¬ j - n < 4 by omega, show ¬ j - n < 8 by omega, show ¬ j - n < 12 by omega, show j - n < 16 by omega, show (j - n) % 4 = j - (n + 12) by omega]
          · simp [h0, h4, show ¬ j - n < 4 by omega, show ¬ j - n < 8 by omega, show ¬ j - n < 12 by omega, show ¬ j - n < 16 by omega, show (j - n) % 4 = j - (n + 16) by omega]
theorem TXC_cong {n : Nat} {t t' : Nat → Nat} {μ : mH} (h : TXC n t μ) (e : ∀ j, j < n → t j = t' j) : TXC n t' μ := ⟨h.1, h.2.1, fun j hj => by rw [← e j hj]; exact h.2.2 j hj⟩
theorem TXM_cong {n : Nat} {t t' : Nat → Nat} {μ : mH} (h : TXM n t μ) (e : ∀ j, j < n → t j = t' j) : TXM n t' μ := ⟨h.1, h.2.1, fun j hj => by rw [← e j hj]; exact h.2.2 j hj⟩
theorem TXC_fr {l : List Nat} {n : Nat} {t : Nat → Nat} {μ μ' : mH} (h : TXC n t μ) (hf : Fr l μ μ') (h1 : 2 ∉ l) (h2 : 20 ∉ l) : TXC n t μ' := ⟨h.1, by rw [hf 2 h1]; exact h.2.1, fun j hj => by rw [hf 20 h2]; exact h.2.2 j hj⟩
section PT
variable {Γ : cx_T}
theorem s_byteOf {μ : mH} {x : Int32} {k : Nat} {Q : Int32 → mH → Prop} (hk : k < 4) (h : Q (nI (bq x k)) μ) : cwi Γ M_X11_byteOf [aI x, aI (nI k)] μ Q := u_X11_byteOf (by rw [bq_u x k hk]; exact h)
theorem push_lp {n : Nat} {t : Nat → Nat} {x : Int32} {μ0 : mH} {Q : mH → Prop} (hn : n + 4 ≤ 200) (kk : ∀ μ', TXC (n + 4) (apb t n x) μ' → Fr [2, 20] μ0 μ' → Q μ') :
    ∀ (d i : Nat) (μ : mH), i + d = 4 → TXC (n + i) (apb t n x) μ → Fr [2, 20] μ0 μ → aw Γ M_X2_push 2 [aR 2 0, aI x, aI (nI i)] [] μ (rV Q) := by
  intro d
  induction d with
  | zero =>
    intro i μ hi hT hF
    obtain rfl : i = 4 := by omega
    exact u_X2_push_2 (br_t (by decide) (kk μ hT hF))
  | succ d ih =>
    intro i μ hi hT hF
    have hi4 : i < 4 := by omega
    obtain ⟨h1, h2, h3⟩ := hT
    refine u_X2_push_2 (br_f (nI_ge (b := 4) hi4 (by decide)) ?_)
    rw [h2]
    refine br_f (nI_ge (b := 200) (by omega) (by decide)) (s_byteOf hi4 ⟨vp_in_nI (by omega) (by decide), ?_⟩)
    rw [h2, tn_nI (by omega), nI_1, nI_1]
    refine ih (i + 1) _ (by omega) ⟨by omega, sto_eq, fun j hj => ?_⟩ (Fr_st2 (Fr_st2 hF (by decide)) (by decide))
    rw [sto_K (by decide)]
    by_cases e : j = n + i
    · subst e
      rw [sto_eq]
      have : apb t n x (n + i) = bq x i := by unfold apb; rw [if_neg (by omega), show n + i - n = i by omega]
      rw [this]
      exact ⟨bq_lt x i, rfl⟩
    · rw [sto_s e]
      exact h3 j (by omega)
theorem s_push {n : Nat} {t : Nat → Nat} {x : Int32} {μ : mH} {Q : mH → Prop} (hn : n + 4 ≤ 200) (hT : TXC n t μ) (kk : ∀ μ', TXC (n + 4) (apb t n x) μ' → Fr [2, 20] μ μ' → Q μ') : cwv Γ M_X2_push [aR 2 0, aI x] μ Q :=
  u_X2_push (push_lp (n := n) hn kk 4 0 μ rfl ⟨hT.1, hT.2.1, fun j hj => by
    have := hT.2.2 j hj
    unfold apb
    rw [if_pos (show j < n from hj)]
    exact this⟩ Fr_rf)
/-- feed, by the class -/
theorem c_feed {n : Nat} {t : Nat → Nat} {x1 x2 x3 x4 x5 : Int32} {μ : mH} {Q : Int32 → mH → Prop} (hT : TXC n t μ) (k1 : n + 20 ≤ 200 → ∀ μ', TXC (n + 20) (ap20 t n x1 x2 x3 x4 x5) μ' → Fr [2, 20] μ μ' → Q (nI (n + 20)) μ') (k2 : ¬ n + 20 ≤ 200 → Q (-1) μ) : cwi Γ M_X11_feed [aR 11 0, aI x1, aI x2, aI x3, aI x4, aI x5] μ Q := by
  have hn := hT.1
  refine u_X11_feed ?_
  rw [hT.2.1, show nI n + (20 : Int32) = nI (n + 20) from nI_add n 20]
  by_cases h : n + 20 ≤ 200
  · refine br_t (nI_le (b := 200) h (by decide)) ?_
    refine s_push (by omega) hT (fun m1 T1 F1 => s_push (by omega) T1 (fun m2 T2 F2 => s_push (by omega) T2 (fun m3 T3 F3 => s_push (by omega) T3 (fun m4 T4 F4 => s_push (by omega) T4 (fun m5 T5 F5 => ?_)))))
    rw [T5.2.1]
    exact k1 h m5 (TXC_cong T5 (fun j hj => ap20_eq t n x1 x2 x3 x4 x5 j hj)) (Fr_tr F1 (Fr_tr F2 (Fr_tr F3 (Fr_tr F4 F5))))
  · exact br_f (nI_ge (a := 200) (by omega) (by omega)) (k2 h)
/-- feed, by the reference -/
theorem mfeed_lp {n : Nat} {t : Nat → Nat} {x1 x2 x3 x4 x5 : Int32} {μ0 : mH} {Q : Int32 → mH → Prop} (hn : n + 20 ≤ 200) (kk : ∀ μ', TXM (n + 20) (ap20 t n x1 x2 x3 x4 x5) μ' → Fr [12, 40] μ0 μ' → (∀ s, s ≠ 1 → μ' 12 0 s = μ0 12 0 s) → Q (nI (n + 20)) μ') :
    ∀ (d i : Nat) (μ : mH), i + d = 20 → TXM (n + i) (ap20 t n x1 x2 x3 x4 x5) μ → Fr [12, 40] μ0 μ → (∀ s, s ≠ 1 → μ 12 0 s = μ0 12 0 s) → aw Γ M_X12_feed 18 [aR 12 0, aI x1, aI x2, aI x3, aI x4, aI x5, aI (nI i), aX] [] μ (rI Q) := by
  intro d
  induction d with
  | zero =>
    intro i μ hi hT hF hS
    obtain rfl : i = 20 := by omega
    refine u_X12_feed_18 (br_t (by decide) ?_)
    rw [hT.2.1]
    exact kk μ hT hF hS
  | succ d ih =>
    intro i μ hi hT hF hS
    have hi20 : i < 20 := by omega
    obtain ⟨h1, h2, h3⟩ := hT
    have step : ∀ y, y = w20 x1 x2 x3 x4 x5 i → aw Γ M_X12_feed 71 [aR 12 0, aI x1, aI x2, aI x3, aI x4, aI x5, aI (nI i), aX] [aI y] μ (rI Q) := by
      intro y hy
      refine u_X12_feed_71 ⟨by rw [h2]; exact vp_in_nI (by omega) (by decide), ?_⟩
      rw [h2, tn_nI (by omega), mod4 i hi20, bq_b y (i % 4) (by omega), nI_1, nI_1]
      refine ih (i + 1) _ (by omega) ⟨by omega, sto_eq, fun j hj => ?_⟩ (Fr_st2 (Fr_st2 hF (by decide)) (by decide)) (fun s hs => by rw [sto_s hs, sto_K (by decide)]; exact hS s hs)
      rw [sto_K (by decide)]
      by_cases e : j = n + i
      · subst e
        rw [sto_eq]
        have : ap20 t n x1 x2 x3 x4 x5 (n + i) = bq y (i % 4) := by unfold ap20 b20; rw [if_neg (by omega), show n + i - n = i by omega, hy]
        rw [this]
        exact ⟨bq_lt _ _, rfl⟩
      · rw [sto_s e]
        exact h3 j (by omega)
    refine u_X12_feed_18 (br_f (nI_ge (b := 20) hi20 (by decide)) ?_)
    unfold w20 at step
    refine pk_le 4 i (fun c4 => pk_le 8 i (fun c8 => pk_le 12 i (fun c12 => pk_le 16 i (fun c16 => step _ ?_) (fun c16 => step _ ?_) ) (fun c12 => step _ ?_) ) (fun c8 => step _ ?_) ) (fun c4 => step _ ?_) 
    · rw [if_neg (by omega), if_neg (by omega), if_neg (by omega), if_neg (by omega)]
    · rw [if_neg (by omega), if_neg (by omega), if_neg (by omega), if_pos (by omega)]
    · rw [if_neg (by omega), if_neg (by omega), if_pos (by omega)]
    · rw [if_neg (by omega), if_pos (by omega)]
    · rw [if_pos (by omega)]
theorem m_feed {n : Nat} {t : Nat → Nat} {x1 x2 x3 x4 x5 : Int32} {μ : mH} {Q : Int32 → mH → Prop} (hT : TXM n t μ) (k1 : n + 20 ≤ 200 → ∀ μ', TXM (n + 20) (ap20 t n x1 x2 x3 x4 x5) μ' → Fr [12, 40] μ μ' → (∀ s, s ≠ 1 → μ' 12 0 s = μ 12 0 s) → Q (nI (n + 20)) μ') (k2 : ¬ n + 20 ≤ 200 → Q (-1) μ) : cwi Γ M_X12_feed [aR 12 0, aI x1, aI x2, aI x3, aI x4, aI x5] μ Q := by
  have hn := hT.1
  refine u_X12_feed ?_
  rw [hT.2.1, show nI n + (20 : Int32) = nI (n + 20) from nI_add n 20]
  by_cases h : n + 20 ≤ 200
  · refine br_t (nI_le (b := 200) h (by decide)) (mfeed_lp (n := n) h (k1 h) 20 0 μ rfl ⟨hT.1, hT.2.1, fun j hj => ?_⟩ Fr_rf (fun _ _ => rfl))
    have := hT.2.2 j hj
    unfold ap20
    rw [if_pos (show j < n from hj)]
    exact this
  · exact br_f (nI_ge (a := 200) (by omega) (by omega)) (k2 h)
/-- end -/
theorem s_in {μ : mH} {x lo hi : Int32} {Q : Int32 → mH → Prop} (k0 : ¬ (lo ≤ x ∧ x ≤ hi) → Q 0 μ) (k1 : lo ≤ x → x ≤ hi → Q 1 μ) : cwi Γ M_X12_in [aI x, aI lo, aI hi] μ Q := by
  refine u_X12_in ⟨fun h => k0 (fun q => absurd q.1 (Int32.not_le.mpr h)), fun h => ⟨fun h2 => k0 (fun q => absurd q.2 (Int32.not_le.mpr h2)), fun h2 => k1 (Int32.not_lt.mp h) (Int32.not_lt.mp h2)⟩⟩
theorem c_end {n : Nat} {t : Nat → Nat} {x : Int32} {μ : mH} {Q : Int32 → mH → Prop} (hT : TXC n t μ) (k1 : ∀ k, k ≤ n → x = nI k → ∀ μ', TXC k t μ' → Fr [2] μ μ' → Q 1 μ') (k2 : ¬ (0 ≤ x ∧ x ≤ nI n) → Q 0 μ) : cwi Γ M_X11_end [aR 11 0, aI x] μ Q := by
  obtain ⟨h1, h2, h3⟩ := hT
  refine u_X11_end ⟨fun h => k2 (fun q => absurd q.1 (Int32.not_le.mpr h)), fun h => ?_⟩
  rw [h2]
  refine ⟨fun h4 => ?_, fun h4 => k2 (fun q => h4 q.2)⟩
  obtain ⟨k, hk, rfl⟩ := nI_of h
  have hkn : k ≤ n := (nI_leI hk (by omega)).mp h4
  exact k1 k hkn rfl _ ⟨by omega, sto_eq, fun j hj => by rw [sto_K (by decide)]; exact h3 j (by omega)⟩ (Fr_sto (by decide))
theorem m_end {n : Nat} {t : Nat → Nat} {x : Int32} {μ : mH} {Q : Int32 → mH → Prop} (hT : TXM n t μ) (k1 : ∀ k, k ≤ n → x = nI k → ∀ μ', TXM k t μ' → Fr [12] μ μ' → (∀ s, s ≠ 1 → μ' 12 0 s = μ 12 0 s) → Q 1 μ') (k2 : ¬ (0 ≤ x ∧ x ≤ nI n) → Q 0 μ) : cwi Γ M_X12_end [aR 12 0, aI x] μ Q := by
  obtain ⟨h1, h2, h3⟩ := hT
  refine u_X12_end ?_
  rw [h2]
  refine s_in (fun h => ⟨fun c => absurd rfl c, fun _ => k2 h⟩) (fun h4 h5 => ⟨fun _ => ?_, fun c => absurd c (by decide)⟩)
  obtain ⟨k, hk, rfl⟩ := nI_of (Int32.not_lt.mpr h4)
  have hkn : k ≤ n := (nI_leI hk (by omega)).mp h5
  exact k1 k hkn rfl _ ⟨by omega, sto_eq, fun j hj => by rw [sto_K (by decide)]; exact h3 j (by omega)⟩ (Fr_sto (by decide)) (fun s hs => sto_s hs)
end PT
