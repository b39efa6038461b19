def TPC (i m : Nat) (s : Nat → Nat) (μ : mH) : Prop := m ≤ 320 ∧ μ 10 i 1 = nI m ∧ ∀ j, j < m → 1 ≤ s j ∧ s j < 256 ∧ μ 21 i j = nI (s j)
def TPM (m : Nat) (s : Nat → Nat) (μ : mH) : Prop := m ≤ 320 ∧ μ 12 0 9 = nI m ∧ ∀ j, j < m → 1 ≤ s j ∧ s j < 256 ∧ μ 43 0 j = nI (s j)
/-- how many steps, and which, when k of the bytes have come -/
def fxm (m : Nat) (b : Nat → Nat) : Nat → Nat
  | 0 => m
  | k + 1 => if b k = 0 then fxm m b k else fxm m b k + 1
def fxs (m : Nat) (s b : Nat → Nat) : Nat → Nat → Nat
  | 0 => s
  | k + 1 => if b k = 0 then fxs m s b k else fun j => if j = fxm m b k then b k else fxs m s b k j
theorem fxm_mono (m : Nat) (b : Nat → Nat) : ∀ k d, fxm m b k ≤ fxm m b (k + d)
  | _, 0 => Nat.le_refl _
  | k, d + 1 => by
    have := fxm_mono m b k d
    have e : fxm m b (k + (d + 1)) = if b (k + d) = 0 then fxm m b (k + d) else fxm m b (k + d) + 1 := rfl
    rw [e]
    split <;> omega
theorem fxm_up (m : Nat) (b : Nat → Nat) : ∀ k d, fxm m b (k + d) ≤ fxm m b k + d
  | _, 0 => Nat.le_refl _
  | k, d + 1 => by
    have := fxm_up m b k d
    have e : fxm m b (k + (d + 1)) = if b (k + d) = 0 then fxm m b (k + d) else fxm m b (k + d) + 1 := rfl
    rw [e]
    split <;> omega
theorem w20_0 {x1 x2 x3 x4 x5 : Int32} {i : Nat} (h : i < 4) : b20 x1 x2 x3 x4 x5 (0 + i) = bq x1 i := by
  unfold b20 w20; simp [show 0 + i < 4 by omega, h, show i % 4 = i by omega]
theorem w20_4 {x1 x2 x3 x4 x5 : Int32} {i : Nat} (h : i < 4) : b20 x1 x2 x3 x4 x5 (4 + i) = bq x2 i := by
  unfold b20 w20; simp [show ¬ 4 + i < 4 by omega, show 4 + i < 8 by omega, show (4 + i) % 4 = i by omega]
theorem w20_8 {x1 x2 x3 x4 x5 : Int32} {i : Nat} (h : i < 4) : b20 x1 x2 x3 x4 x5 (8 + i) = bq x3 i := by
  unfold b20 w20; simp [show ¬ 8 + i < 4 by omega, show ¬ 8 + i < 8 by omega, show 8 + i < 12 by omega, show (8 + i) % 4 = i by omega]
theorem w20_12 {x1 x2 x3 x4 x5 : Int32} {i : Nat} (h : i < 4) : b20 x1 x2 x3 x4 x5 (12 + i) = bq x4 i := by
  unfold b20 w20; simp [show ¬ 12 + i < 4 by omega, show ¬ 12 + i < 8 by omega, show ¬ 12 + i < 12 by omega, show 12 + i < 16 by omega, show (12 + i) % 4 = i by omega]
theorem w20_16 {x1 x2 x3 x4 x5 : Int32} {i : Nat} (h : i < 4) : b20 x1 x2 x3 x4 x5 (16 + i) = bq x5 i := by
  unfold b20 w20; simp [show ¬ 16 + i < 4 by omega, show ¬ 16 + i < 8 by omega, show ¬ 16 + i < 12 by omega, show ¬ 16 + i < 16 by omega, show (16 + i) % 4 = i by omega]
section PTP
variable {Γ : cx_T}
theorem stepsIn_lp {m w : Nat} {b : Nat → Nat} {x : Int32} {μ : mH} {Q : Int32 → mH → Prop} (hb : ∀ i, i < 4 → b (w + i) = bq x i) (kk : Q (nI (fxm m b (w + 4) - fxm m b w)) μ) :
    ∀ (d i : Nat), i + d = 4 → aw Γ M_X11_stepsIn 4 [aI x, aI (nI (fxm m b (w + i) - fxm m b w)), aI (nI i)] [] μ (rI Q) := by
  intro d
  induction d with
  | zero =>
    intro i hi
    obtain rfl : i = 4 := by omega
    exact u_X11_stepsIn_4 (br_t (by decide) kk)
  | succ d ih =>
    intro i hi
    have hi4 : i < 4 := by omega
    have h0 := fxm_mono m b w i
    have h := ih (i + 1) (by omega)
    have e : fxm m b (w + (i + 1)) = if b (w + i) = 0 then fxm m b (w + i) else fxm m b (w + i) + 1 := rfl
    rw [e, hb i hi4] at h
    refine u_X11_stepsIn_4 (br_f (nI_ge (b := 4) hi4 (by decide)) (s_byteOf hi4 ?_))
    rw [nI_1]
    have hlt := bq_lt x i
    refine pk_eq (bq x i) 0 (fun c => ?_) (fun c => ?_)
    · rw [if_pos c] at h
      exact h
    · rw [if_neg c, show fxm m b (w + i) + 1 - fxm m b w = fxm m b (w + i) - fxm m b w + 1 by omega, ← nI_1] at h
      exact h
theorem s_stepsIn {m w : Nat} {b : Nat → Nat} {x : Int32} {μ : mH} {Q : Int32 → mH → Prop} (hb : ∀ i, i < 4 → b (w + i) = bq x i) (kk : Q (nI (fxm m b (w + 4) - fxm m b w)) μ) : cwi Γ M_X11_stepsIn [aI x] μ Q :=
  u_X11_stepsIn (by
    have h := stepsIn_lp (Γ := Γ) (m := m) (w := w) hb kk 4 0 rfl
    rw [Nat.add_zero, Nat.sub_self] at h
    exact h)
theorem tpush_lp {m w : Nat} {s b : Nat → Nat} {x : Int32} {μ0 : mH} {Q : mH → Prop} (hm : fxm m b (w + 4) ≤ 320) (hb : ∀ i, i < 4 → b (w + i) = bq x i) (kk : ∀ μ', TPC 0 (fxm m b (w + 4)) (fxs m s b (w + 4)) μ' → Fr [10, 21] μ0 μ' → (∀ i, i ≠ 0 → μ' 10 i = μ0 10 i ∧ μ' 21 i = μ0 21 i) → Q μ') :
    ∀ (d i : Nat) (μ : mH), i + d = 4 → TPC 0 (fxm m b (w + i)) (fxs m s b (w + i)) μ → Fr [10, 21] μ0 μ → (∀ i, i ≠ 0 → μ 10 i = μ0 10 i ∧ μ 21 i = μ0 21 i) → aw Γ M_X10_push 2 [aR 10 0, aI x, aI (nI i), aX] [] μ (rV Q) := by
  intro d
  induction d with
  | zero =>
    intro i μ hi hT hF hI
    obtain rfl : i = 4 := by omega
    exact u_X10_push_2 (br_t (by decide) (kk μ hT hF hI))
  | succ d ih =>
    intro i μ hi hT hF hI
    have hi4 : i < 4 := by omega
    obtain ⟨h1, h2, h3⟩ := hT
    have e1 : fxm m b (w + (i + 1)) = if b (w + i) = 0 then fxm m b (w + i) else fxm m b (w + i) + 1 := rfl
    have e2 : fxs m s b (w + (i + 1)) = if b (w + i) = 0 then fxs m s b (w + i) else fun j => if j = fxm m b (w + i) then b (w + i) else fxs m s b (w + i) j := rfl
    rw [hb i hi4] at e1 e2
    have hlt := bq_lt x i
    refine u_X10_push_2 (br_f (nI_ge (b := 4) hi4 (by decide)) (s_byteOf hi4 ?_))
    rw [nI_1]
    refine pk_eq (bq x i) 0 (fun c => ?_) (fun c => ?_)
    · rw [if_pos c] at e1 e2
      refine ih (i + 1) μ (by omega) ?_ hF hI
      rw [e1, e2]
      exact ⟨h1, h2, h3⟩
    · rw [if_neg c] at e1 e2
      have hm2 := fxm_mono m b (w + (i + 1)) (4 - (i + 1))
      rw [show w + (i + 1) + (4 - (i + 1)) = w + 4 by omega] at hm2
      rw [h2]
      refine br_f (nI_ge (b := 320) (by omega) (by decide)) ⟨vp_in_nI (by omega) (by decide), ?_⟩
      rw [tn_nI (by omega), nI_1]
      refine ih (i + 1) _ (by omega) ?_ (Fr_st2 (Fr_st2 hF (by decide)) (by decide)) (fun q hq => ⟨by funext z; rw [sto_i hq, sto_K (by decide)]; rw [(hI q hq).1], by funext z; rw [sto_K (by decide), sto_i hq]; rw [(hI q hq).2]⟩)
      rw [e1, e2]
      refine ⟨by omega, sto_eq, fun j hj => ?_⟩
      rw [sto_K (by decide)]
      simp only []
      by_cases e : j = fxm m b (w + i)
      · rw [if_pos e]
        subst e
        rw [sto_eq]
        exact ⟨by omega, hlt, rfl⟩
      · rw [if_neg e, sto_s e]
        exact h3 j (by omega)
theorem s_tpush {m w : Nat} {s b : Nat → Nat} {x : Int32} {μ : mH} {Q : mH → Prop} (hm : fxm m b (w + 4) ≤ 320) (hb : ∀ i, i < 4 → b (w + i) = bq x i) (hT : TPC 0 (fxm m b w) (fxs m s b w) μ) (kk : ∀ μ', TPC 0 (fxm m b (w + 4)) (fxs m s b (w + 4)) μ' → Fr [10, 21] μ μ' → (∀ i, i ≠ 0 → μ' 10 i = μ 10 i ∧ μ' 21 i = μ 21 i) → Q μ') : cwv Γ M_X10_push [aR 10 0, aI x] μ Q :=
  u_X10_push (tpush_lp (m := m) (w := w) (s := s) hm hb kk 4 0 μ rfl hT Fr_rf (fun _ _ => ⟨rfl, rfl⟩))
/-- flux, by the class -/
theorem c_flux {m : Nat} {s : Nat → Nat} {x1 x2 x3 x4 x5 : Int32} {μ : mH} {Q : Int32 → mH → Prop} (hT : TPC 0 m s μ) (k1 : fxm m (b20 x1 x2 x3 x4 x5) 20 ≤ 320 → ∀ μ', TPC 0 (fxm m (b20 x1 x2 x3 x4 x5) 20) (fxs m s (b20 x1 x2 x3 x4 x5) 20) μ' → Fr [10, 21] μ μ' → (∀ i, i ≠ 0 → μ' 10 i = μ 10 i ∧ μ' 21 i = μ 21 i) → Q (nI (fxm m (b20 x1 x2 x3 x4 x5) 20)) μ') (k2 : ¬ fxm m (b20 x1 x2 x3 x4 x5) 20 ≤ 320 → Q (-1) μ) : cwi Γ M_X11_flux [aR 11 0, aI x1, aI x2, aI x3, aI x4, aI x5] μ Q := by
  generalize hb : b20 x1 x2 x3 x4 x5 = b at k1 k2 ⊢
  have b0 : ∀ i, i < 4 → b (0 + i) = bq x1 i := fun i hi => by rw [← hb]; exact w20_0 hi
  have b4 : ∀ i, i < 4 → b (4 + i) = bq x2 i := fun i hi => by rw [← hb]; exact w20_4 hi
  have b8 : ∀ i, i < 4 → b (8 + i) = bq x3 i := fun i hi => by rw [← hb]; exact w20_8 hi
  have b12 : ∀ i, i < 4 → b (12 + i) = bq x4 i := fun i hi => by rw [← hb]; exact w20_12 hi
  have b16 : ∀ i, i < 4 → b (16 + i) = bq x5 i := fun i hi => by rw [← hb]; exact w20_16 hi
  have m0 := fxm_mono m b 0 4
  have m4 := fxm_mono m b 4 4
  have m8 := fxm_mono m b 8 4
  have m12 := fxm_mono m b 12 4
  have m16 := fxm_mono m b 16 4
  have up := fxm_up m b 0 20
  have z0 : fxm m b 0 = m := rfl
  refine u_X11_flux (s_stepsIn (m := m) (w := 0) b0 (s_stepsIn (m := m) (w := 4) b4 (s_stepsIn (m := m) (w := 8) b8 (s_stepsIn (m := m) (w := 12) b12 (s_stepsIn (m := m) (w := 16) b16 ?_)))))
  have hm := hT.1
  rw [hT.2.1, nI_add, nI_add, nI_add, nI_add, nI_add]
  simp only [Nat.zero_add, Nat.reduceAdd] at m0 m4 m8 m12 m16 up ⊢
  rw [show m + (fxm m b 4 - fxm m b 0 + (fxm m b 8 - fxm m b 4) + (fxm m b 12 - fxm m b 8) + (fxm m b 16 - fxm m b 12) + (fxm m b 20 - fxm m b 16)) = fxm m b 20 by omega]
  by_cases h : fxm m b 20 ≤ 320
  · refine br_t (nI_le (b := 320) h (by decide)) ?_
    refine s_tpush (m := m) (w := 0) (s := s) (b := b) (by show fxm m b 4 ≤ 320; omega) b0 hT (fun u1 T1 F1 I1 => s_tpush (m := m) (w := 4) (s := s) (b := b) (by show fxm m b 8 ≤ 320; omega) b4 T1 (fun u2 T2 F2 I2 => s_tpush (m := m) (w := 8) (s := s) (b := b) (by show fxm m b 12 ≤ 320; omega) b8 T2 (fun u3 T3 F3 I3 => s_tpush (m := m) (w := 12) (s := s) (b := b) (by show fxm m b 16 ≤ 320; omega) b12 T3 (fun u4 T4 F4 I4 => s_tpush (m := m) (w := 16) (s := s) (b := b) (by show fxm m b 20 ≤ 320; omega) b16 T4 (fun u5 T5 F5 I5 => ?_)))))
    rw [T5.2.1]
    exact k1 h u5 T5 (Fr_tr F1 (Fr_tr F2 (Fr_tr F3 (Fr_tr F4 F5)))) (fun i hi => ⟨(I5 i hi).1.trans ((I4 i hi).1.trans ((I3 i hi).1.trans ((I2 i hi).1.trans (I1 i hi).1))), (I5 i hi).2.trans ((I4 i hi).2.trans ((I3 i hi).2.trans ((I2 i hi).2.trans (I1 i hi).2)))⟩)
  · exact br_f (nI_ge (a := 320) (by omega) (by omega)) (k2 h)
/-- flux, by the reference -/
theorem s_mbyteOf {x1 x2 x3 x4 x5 : Int32} {k : Nat} {μ : mH} {Q : Int32 → mH → Prop} (hk : k < 20) (h : Q (nI (b20 x1 x2 x3 x4 x5 k)) μ) : cwi Γ M_X12_byteOf [aI (nI k), aI x1, aI x2, aI x3, aI x4, aI x5] μ Q := by
  have e : ∀ y, y = w20 x1 x2 x3 x4 x5 k → Q ((y >>> ((24 : Int32) - ((8 : Int32) * (nI k - nI k / (4 : Int32) * (4 : Int32))) &&& 31)) &&& (255 : Int32)) μ := fun y hy => by
    rw [mod4 k hk, bq_s y (k % 4) (by omega), hy]
    exact h
  unfold w20 at e
  refine u_X12_byteOf (pk_le 4 k (fun c4 => pk_le 8 k (fun c8 => pk_le 12 k (fun c12 => pk_le 16 k (fun c16 => e _ ?_) (fun c16 => e _ ?_)) (fun c12 => e _ ?_)) (fun c8 => e _ ?_)) (fun c4 => e _ ?_))
  · rw [if_neg (by omega), if_neg (by omega), if_neg (by omega), if_neg (by omega)]
  · rw [if_neg (by omega), if_neg (by omega), if_neg (by omega), if_pos (by omega)]
  · rw [if_neg (by omega), if_neg (by omega), if_pos (by omega)]
  · rw [if_neg (by omega), if_pos (by omega)]
  · rw [if_pos (by omega)]
theorem b20_lt (x1 x2 x3 x4 x5 : Int32) (k : Nat) : b20 x1 x2 x3 x4 x5 k < 256 := bq_lt _ _
theorem mflux_lp2 {m : Nat} {s : Nat → Nat} {x1 x2 x3 x4 x5 : Int32} {μ0 : mH} {Q : Int32 → mH → Prop} (hm : fxm m (b20 x1 x2 x3 x4 x5) 20 ≤ 320) (kk : ∀ μ', TPM (fxm m (b20 x1 x2 x3 x4 x5) 20) (fxs m s (b20 x1 x2 x3 x4 x5) 20) μ' → Fr [12, 43] μ0 μ' → (∀ s, s ≠ 9 → μ' 12 0 s = μ0 12 0 s) → Q (nI (fxm m (b20 x1 x2 x3 x4 x5) 20)) μ') :
    ∀ (d k : Nat) (μ : mH), k + d = 20 → TPM (fxm m (b20 x1 x2 x3 x4 x5) k) (fxs m s (b20 x1 x2 x3 x4 x5) k) μ → Fr [12, 43] μ0 μ → (∀ s, s ≠ 9 → μ 12 0 s = μ0 12 0 s) → aw Γ M_X12_flux 62 [aR 12 0, aI x1, aI x2, aI x3, aI x4, aI x5, aX, aI (nI k), aX] [] μ (rI Q) := by
  intro d
  induction d with
  | zero =>
    intro k μ hk hT hF hS
    obtain rfl : k = 20 := by omega
    refine u_X12_flux_62 (br_t (by decide) ?_)
    rw [hT.2.1]
    exact kk μ hT hF hS
  | succ d ih =>
    intro k μ hk hT hF hS
    have hk20 : k < 20 := by omega
    obtain ⟨h1, h2, h3⟩ := hT
    have hlt := b20_lt x1 x2 x3 x4 x5 k
    refine u_X12_flux_62 (br_f (nI_ge (b := 20) hk20 (by decide)) (s_mbyteOf hk20 ?_))
    rw [nI_1]
    generalize hb : b20 x1 x2 x3 x4 x5 = b at *
    have e1 : fxm m b (k + 1) = if b k = 0 then fxm m b k else fxm m b k + 1 := rfl
    have e2 : fxs m s b (k + 1) = if b k = 0 then fxs m s b k else fun j => if j = fxm m b k then b k else fxs m s b k j := rfl
    refine ⟨fun c => ?_, fun c => ?_⟩
    · have c : b k ≠ 0 := fun q => c (by rw [q]; rfl)
      rw [if_neg c] at e1 e2
      have hm2 := fxm_mono m b (k + 1) (20 - (k + 1))
      rw [show k + 1 + (20 - (k + 1)) = 20 by omega] at hm2
      rw [h2]
      refine ⟨vp_in_nI (by omega) (by decide), ?_⟩
      rw [tn_nI (by omega), nI_1]
      refine ih (k + 1) _ (by omega) ?_ (Fr_st2 (Fr_st2 hF (by decide)) (by decide)) (fun s hs => by rw [sto_s hs, sto_K (by decide)]; exact hS s hs)
      rw [e1, e2]
      refine ⟨by omega, sto_eq, fun j hj => ?_⟩
      rw [sto_K (by decide)]
      simp only []
      by_cases e : j = fxm m b k
      · rw [if_pos e]
        subst e
        rw [sto_eq]
        exact ⟨by omega, hlt, rfl⟩
      · rw [if_neg e, sto_s e]
        exact h3 j (by omega)
    · have c : b k = 0 := (nI_eq (by omega) (by decide)).mp c
      rw [if_pos c] at e1 e2
      refine ih (k + 1) μ (by omega) ?_ hF hS
      rw [e1, e2]
      exact ⟨h1, h2, h3⟩
theorem mflux_lp {m : Nat} {x1 x2 x3 x4 x5 : Int32} {μ : mH} {Q : Int32 → mH → Prop} (hm : m ≤ 320) (hμ : μ 12 0 9 = nI m) (k1 : fxm m (b20 x1 x2 x3 x4 x5) 20 ≤ 320 → aw Γ M_X12_flux 62 [aR 12 0, aI x1, aI x2, aI x3, aI x4, aI x5, aX, aI 0, aX] [] μ (rI Q)) (k2 : ¬ fxm m (b20 x1 x2 x3 x4 x5) 20 ≤ 320 → Q (-1) μ) :
    ∀ (d k : Nat), k + d = 20 → aw Γ M_X12_flux 6 [aR 12 0, aI x1, aI x2, aI x3, aI x4, aI x5, aI (nI (fxm m (b20 x1 x2 x3 x4 x5) k - m)), aI (nI k), aX] [] μ (rI Q) := by
  intro d
  induction d with
  | zero =>
    intro k hk
    obtain rfl : k = 20 := by omega
    have h0 := fxm_mono m (b20 x1 x2 x3 x4 x5) 0 20
    have h1 := fxm_up m (b20 x1 x2 x3 x4 x5) 0 20
    have z0 : fxm m (b20 x1 x2 x3 x4 x5) 0 = m := rfl
    simp only [Nat.zero_add] at h0 h1
    refine u_X12_flux_6 (br_t (by decide) ?_)
    rw [hμ, nI_add, show m + (fxm m (b20 x1 x2 x3 x4 x5) 20 - m) = fxm m (b20 x1 x2 x3 x4 x5) 20 by omega]
    exact pk_le (fxm m (b20 x1 x2 x3 x4 x5) 20) 320 k1 (fun h => k2 (by omega))
  | succ d ih =>
    intro k hk
    have hk20 : k < 20 := by omega
    have hlt := b20_lt x1 x2 x3 x4 x5 k
    have h0 := fxm_mono m (b20 x1 x2 x3 x4 x5) 0 k
    have z0 : fxm m (b20 x1 x2 x3 x4 x5) 0 = m := rfl
    simp only [Nat.zero_add] at h0
    have h := ih (k + 1) (by omega)
    refine u_X12_flux_6 (br_f (nI_ge (b := 20) hk20 (by decide)) (s_mbyteOf hk20 ?_))
    rw [nI_1]
    have e1 : fxm m (b20 x1 x2 x3 x4 x5) (k + 1) = if b20 x1 x2 x3 x4 x5 k = 0 then fxm m (b20 x1 x2 x3 x4 x5) k else fxm m (b20 x1 x2 x3 x4 x5) k + 1 := rfl
    rw [e1] at h
    refine pk_le (b20 x1 x2 x3 x4 x5 k) 0 (fun c => ?_) (fun c => ?_)
    · rw [if_pos (by omega)] at h
      rw [show nI (fxm m (b20 x1 x2 x3 x4 x5) k - m) + (0 : Int32) = nI (fxm m (b20 x1 x2 x3 x4 x5) k - m) from nI_add _ 0]
      exact h
    · rw [if_neg (by omega), show fxm m (b20 x1 x2 x3 x4 x5) k + 1 - m = fxm m (b20 x1 x2 x3 x4 x5) k - m + 1 by omega, ← nI_1] at h
      exact h
theorem m_flux {m : Nat} {s : Nat → Nat} {x1 x2 x3 x4 x5 : Int32} {μ : mH} {Q : Int32 → mH → Prop} (hT : TPM m s μ) (k1 : fxm m (b20 x1 x2 x3 x4 x5) 20 ≤ 320 → ∀ μ', TPM (fxm m (b20 x1 x2 x3 x4 x5) 20) (fxs m s (b20 x1 x2 x3 x4 x5) 20) μ' → Fr [12, 43] μ μ' → (∀ s, s ≠ 9 → μ' 12 0 s = μ 12 0 s) → Q (nI (fxm m (b20 x1 x2 x3 x4 x5) 20)) μ') (k2 : ¬ fxm m (b20 x1 x2 x3 x4 x5) 20 ≤ 320 → Q (-1) μ) : cwi Γ M_X12_flux [aR 12 0, aI x1, aI x2, aI x3, aI x4, aI x5] μ Q := by
  refine u_X12_flux ?_
  have h := mflux_lp (Γ := Γ) (x1 := x1) (x2 := x2) (x3 := x3) (x4 := x4) (x5 := x5) (Q := Q) hT.1 hT.2.1 (fun hm => mflux_lp2 (s := s) hm (k1 hm) 20 0 μ rfl hT Fr_rf (fun _ _ => rfl)) k2 20 0 rfl
  rw [show fxm m (b20 x1 x2 x3 x4 x5) 0 - m = 0 from Nat.sub_self m] at h
  exact h
end PTP
