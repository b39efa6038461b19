/-! RAW bits -/
def fdv (x : Int32) : Int32 := if 0 ≤ (x ^^^ 32) then x / 32 else if x / 32 * 32 = x then x / 32 else x / 32 - 1
def smx (a b : Int32) : Int32 := if a < b then b else a
def smn (a b : Int32) : Int32 := if b < a then b else a
theorem clamp (a b : Nat) (y : Int32) (hab : a ≤ b) (hb : b < 2 ^ 31) : ∃ z, a ≤ z ∧ z ≤ b ∧ smx (nI a) (smn (nI b) y) = nI z ∧ (nI a ≤ y → y ≤ nI b → y = nI z) ∧ (nI a ≤ y → ¬ y ≤ nI b → z = b) ∧ (¬ nI a ≤ y → z = a) := by
  unfold smx smn
  rcases Int32_cases y with h | ⟨n, hn, rfl⟩
  · have h1 : y < nI b := neg_lt h hb
    have h2 : ¬ nI a < y := fun q => absurd (Int32.le_of_lt q) (neg_nle h (by omega))
    refine ⟨a, Nat.le_refl _, hab, ?_, fun q => absurd q (neg_nle h (by omega)), fun q => absurd q (neg_nle h (by omega)), fun _ => rfl⟩
    rw [if_pos h1, if_neg h2]
  · by_cases c1 : n < b
    · rw [if_pos (nI_lt c1 hb)]
      by_cases c2 : a < n
      · exact ⟨n, by omega, by omega, by rw [if_pos (nI_lt c2 hn)], fun _ _ => rfl, fun _ q => absurd (nI_le (by omega) hb) q, fun q => absurd (nI_le (by omega) hn) q⟩
      · refine ⟨a, Nat.le_refl _, hab, by rw [if_neg (nI_nlt (by omega) (by omega))], fun q _ => ?_, fun _ q => absurd (nI_le (by omega) hb) q, fun _ => rfl⟩
        have := (nI_leI (by omega) hn).mp q
        rw [show n = a by omega]
    · rw [if_neg (nI_nlt (by omega) hn)]
      refine ⟨b, hab, Nat.le_refl _, ?_, fun _ q => ?_, fun _ _ => rfl, fun q => absurd (nI_le (by omega) hn) q⟩
      · by_cases c2 : a < b
        · rw [if_pos (nI_lt c2 hb)]
        · rw [if_neg (nI_nlt (by omega) (by omega)), show a = b by omega]
      · have := (nI_leI hn hb).mp q
        rw [show n = b by omega]
/-- how many bits a step makes, and the clock behind it -/
def rq (C t : Nat) : Int32 := ((32 : Int32) * nI t + nI C) / ((2 : Int32) * nI C)
def rn (C t : Nat) : Nat := tn (smx 1 (smn 8 (rq C t)))
theorem rn_rng (C t : Nat) : 1 ≤ rn C t ∧ rn C t ≤ 8 ∧ smx 1 (smn 8 (rq C t)) = nI (rn C t) := by
  obtain ⟨z, h1, h2, h3, _⟩ := clamp 1 8 (rq C t) (by decide) (by decide)
  have e : rn C t = z := by
    unfold rn
    rw [show smx 1 (smn 8 (rq C t)) = nI z from h3, tn_nI (by omega)]
  rw [e]
  exact ⟨h1, h2, h3⟩
def ry (G C t : Nat) : Int32 := nI C + fdv (((16 : Int32) * nI t / nI (rn C t) - nI C) * nI G)
def rw1 (P G C t : Nat) : Nat := tn (smx (nI (12 * P)) (smn (nI (20 * P)) (ry G C t)))
theorem rw1_rng (P G C t : Nat) (hP : P ≤ 60) : 12 * P ≤ rw1 P G C t ∧ rw1 P G C t ≤ 20 * P ∧ smx (nI (12 * P)) (smn (nI (20 * P)) (ry G C t)) = nI (rw1 P G C t) := by
  obtain ⟨z, h1, h2, h3, _⟩ := clamp (12 * P) (20 * P) (ry G C t) (by omega) (by omega)
  have e : rw1 P G C t = z := by
    unfold rw1
    rw [h3, tn_nI (by omega)]
  rw [e]
  exact ⟨h1, h2, h3⟩
def rc (P G : Nat) (s : Nat → Nat) : Nat → Nat
  | 0 => 16 * P
  | k + 1 => rw1 P G (rc P G s k) (s k)
def rz (P G : Nat) (s : Nat → Nat) : Nat → Nat
  | 0 => 0
  | k + 1 => rz P G s k + rn (rc P G s k) (s k)
def bap (z n : Nat) (b : Nat → Nat) (j : Nat) : Nat := if j < z then b j else if j + 1 = z + n then 1 else 0
def rbt (P G : Nat) (s : Nat → Nat) : Nat → Nat → Nat
  | 0 => fun _ => 0
  | k + 1 => bap (rz P G s k) (rn (rc P G s k) (s k)) (rbt P G s k)
theorem rc_rng (P G : Nat) (s : Nat → Nat) (hP : P ≤ 60) : ∀ k, 12 * P ≤ rc P G s k ∧ rc P G s k ≤ 20 * P
  | 0 => by show 12 * P ≤ 16 * P ∧ 16 * P ≤ 20 * P; omega
  | k + 1 => ⟨(rw1_rng P G _ _ hP).1, (rw1_rng P G _ _ hP).2.1⟩
theorem rz_le (P G : Nat) (s : Nat → Nat) : ∀ k, rz P G s k ≤ 8 * k
  | 0 => Nat.le_refl _
  | k + 1 => by
    have h := rz_le P G s k
    have h2 := (rn_rng (rc P G s k) (s k)).2.1
    show rz P G s k + rn (rc P G s k) (s k) ≤ _
    omega
theorem rbt_le (P G : Nat) (s : Nat → Nat) : ∀ k j, rbt P G s k j ≤ 1
  | 0, _ => by show 0 ≤ 1; decide
  | k + 1, j => by
    have h := rbt_le P G s k j
    show bap _ _ _ _ ≤ 1
    unfold bap
    split
    · exact h
    · split <;> decide
def BC (n : Nat) (b : Nat → Nat) (μ : mH) : Prop := μ 5 0 1 = nI n ∧ ∀ j, j < n → μ 22 0 j = nI (b j)
def BM (n : Nat) (b : Nat → Nat) (μ : mH) : Prop := μ 12 0 20 = nI n ∧ ∀ j, j < n → μ 50 0 j = nI (b j)
section PRB
variable {Γ : cx_T}
theorem s_fdiv {μ : mH} {x : Int32} {Q : Int32 → mH → Prop} (h : Q (fdv x) μ) : cwi Γ M_J9_floorDiv_7cf53 [aI x, aI 32] μ Q := by
  unfold fdv at h
  refine u_J9_floorDiv ⟨by decide, fun q => ?_, fun q => ⟨fun q2 => ?_, fun q2 => ?_⟩⟩
  · rw [if_pos q] at h; exact h
  · rw [if_neg q, if_pos q2] at h; exact h
  · rw [if_neg q, if_neg q2] at h; exact h
theorem s_max {μ : mH} {x y : Int32} {Q : Int32 → mH → Prop} (h : Q (smx x y) μ) : cwi Γ M_J9_max_7cf53 [aI x, aI y] μ Q := by
  unfold smx at h
  exact u_J9_max ⟨fun q => by rw [if_pos q] at h; exact h, fun q => by rw [if_neg q] at h; exact h⟩
theorem s_min {μ : mH} {x y : Int32} {Q : Int32 → mH → Prop} (h : Q (smn x y) μ) : cwi Γ M_J9_min_7cf53 [aI x, aI y] μ Q := by
  unfold smn at h
  exact u_J9_min ⟨fun q => by rw [if_pos q] at h; exact h, fun q => by rw [if_neg q] at h; exact h⟩
theorem bpush_lp {z n : Nat} {b : Nat → Nat} {μ0 : mH} {Q : mH → Prop} (hz : z + n ≤ 2560) (h1 : 1 ≤ n) (kk : ∀ μ', BC (z + n) (bap z n b) μ' → Fr [5, 22] μ0 μ' → Q μ') :
    ∀ (d i : Nat) (μ : mH), 1 ≤ i → i + d = n → BC (z + i - 1) (bap z n b) μ → Fr [5, 22] μ0 μ → aw Γ M_X5_push 17 [aR 5 0, aI (nI n), aI (nI i)] [] μ (rV Q) := by
  intro d
  induction d with
  | zero =>
    intro i μ hi hd hB hF
    obtain rfl : i = n := by omega
    refine u_X5_push_17 (br_t (nI_le (Nat.le_refl _) (by omega)) ?_)
    rw [hB.1, tn_nI (by omega), nI_1, show z + i - 1 + 1 = z + i by omega]
    refine ⟨vp_in_nI (by omega) (by decide), kk _ ⟨sto_eq, fun j hj => ?_⟩ (Fr_st2 (Fr_st2 hF (by decide)) (by decide))⟩
    rw [sto_K (by decide)]
    by_cases e : j = z + i - 1
    · subst e
      rw [sto_eq]
      unfold bap
      rw [if_neg (by omega), if_pos (by omega)]
      rfl
    · rw [sto_s e]; exact hB.2 j (by omega)
  | succ d ih =>
    intro i μ hi hd hB hF
    refine u_X5_push_17 (br_f (nI_ge (by omega) (by omega)) ?_)
    rw [hB.1, tn_nI (by omega), nI_1, nI_1, show z + i - 1 + 1 = z + (i + 1) - 1 by omega]
    refine ⟨vp_in_nI (by omega) (by decide), ih (i + 1) _ (by omega) (by omega) ⟨sto_eq, fun j hj => ?_⟩ (Fr_st2 (Fr_st2 hF (by decide)) (by decide))⟩
    rw [sto_K (by decide)]
    by_cases e : j = z + i - 1
    · subst e
      rw [sto_eq]
      unfold bap
      rw [if_neg (by omega), if_neg (by omega)]
      rfl
    · rw [sto_s e]; exact hB.2 j (by omega)
theorem s_bpush {z n : Nat} {b : Nat → Nat} {μ : mH} {Q : mH → Prop} (hz : z + n ≤ 2560) (h1 : 1 ≤ n) (hB : BC z b μ) (kk : ∀ μ', BC (z + n) (bap z n b) μ' → Fr [5, 22] μ μ' → Q μ') : cwv Γ M_X5_push [aR 5 0, aI (nI n)] μ Q := by
  refine u_X5_push ?_
  rw [hB.1, nI_add]
  refine br_t (nI_le (b := 2560) hz (by decide)) (bpush_lp hz h1 kk (n - 1) 1 μ (Nat.le_refl _) (by omega) ⟨hB.1, fun j hj => ?_⟩ Fr_rf)
  unfold bap
  rw [if_pos (by omega)]
  exact hB.2 j (by omega)
theorem fill_lp {i m P G : Nat} {s : Nat → Nat} {μ0 : mH} {Q : mH → Prop} (hP : 8 ≤ P) (hP2 : P ≤ 60) (hT : TPC i m s μ0) (kk : ∀ μ', BC (rz P G s m) (rbt P G s m) μ' → Fr [5, 22] μ0 μ' → Q μ') :
    ∀ (d k : Nat) (μ : mH), k + d = m → BC (rz P G s k) (rbt P G s k) μ → Fr [5, 22] μ0 μ → aw Γ M_X5_fill 38 [aR 5 0, aR 10 i, aX, aI (nI G), aI (nI (12 * P)), aI (nI (20 * P)), aI (nI (rc P G s k)), aI (nI k), aX, aX, aX] [] μ (rV Q) := by
  obtain ⟨t1, t2, t3⟩ := hT
  intro d
  induction d with
  | zero =>
    intro k μ hk hB hF
    obtain rfl : k = m := by omega
    refine u_X5_fill_38 ?_
    rw [Fr_at hF (by decide), t2]
    exact br_t (nI_le (Nat.le_refl _) (by omega)) (kk μ hB hF)
  | succ d ih =>
    intro k μ hk hB hF
    obtain ⟨s1, s2, s3⟩ := t3 k (by omega)
    obtain ⟨c1, c2⟩ := rc_rng P G s hP2 k
    obtain ⟨n1, n2, n3⟩ := rn_rng (rc P G s k) (s k)
    have hz := rz_le P G s k
    refine u_X5_fill_38 ?_
    rw [Fr_at hF (by decide), t2, Fr_at hF (show 21 ∉ [5, 22] by decide), tn_nI (by omega), s3]
    refine br_f (nI_ge (by omega) (by omega)) ⟨vp_in_nI (by omega) (by decide), ?_, s_min (s_max ?_)⟩
    · rw [show (2 : Int32) = nI 2 from rfl, pk_mul]
      exact nI_ne0 (by omega) (by omega)
    · have n4 : smx 1 (smn 8 (((32 : Int32) * nI (s k) + nI (rc P G s k)) / ((2 : Int32) * nI (rc P G s k)))) = nI (rn (rc P G s k) (s k)) := n3
      rw [n4]
      refine s_bpush (by omega) n1 hB (fun μ2 B2 F2 => ⟨nI_ne0 (by omega) (by omega), s_fdiv (s_min (s_max ?_))⟩)
      have w4 : smx (nI (12 * P)) (smn (nI (20 * P)) (nI (rc P G s k) + fdv (((16 : Int32) * nI (s k) / nI (rn (rc P G s k) (s k)) - nI (rc P G s k)) * nI G))) = nI (rc P G s (k + 1)) := (rw1_rng P G _ _ hP2).2.2
      rw [w4, nI_1]
      exact ih (k + 1) μ2 (by omega) B2 (Fr_tr hF F2)
theorem c_fill {i m P G : Nat} {s : Nat → Nat} {μ : mH} {Q : mH → Prop} (hP : 8 ≤ P) (hP2 : P ≤ 60) (hT : TPC i m s μ) (kk : ∀ μ', BC (rz P G s m) (rbt P G s m) μ' → Fr [5, 22] μ μ' → Q μ') : cwv Γ M_X5_fill [aR 5 0, aR 10 i, aI (nI P), aI (nI G)] μ Q := by
  have e : ∀ a : Nat, 1 ≤ a → a ≤ 20 → smx (nI a * nI P) 1 = nI (a * P) := fun a h1 h2 => by
    rw [pk_mul]
    unfold smx
    have h3 : 1 * 8 ≤ a * P := Nat.mul_le_mul h1 hP
    have h4 : a * P ≤ 20 * 60 := Nat.mul_le_mul h2 hP2
    exact if_neg (nI_nlt (b := 1) (by omega) (by omega))
  refine u_X5_fill (s_max (s_max (s_max ?_)))
  rw [show smx ((12 : Int32) * nI P) 1 = nI (12 * P) from e 12 (by decide) (by decide), show smx ((20 : Int32) * nI P) 1 = nI (20 * P) from e 20 (by decide) (by decide), show smx ((16 : Int32) * nI P) 1 = nI (16 * P) from e 16 (by decide) (by decide)]
  exact fill_lp hP hP2 ⟨hT.1, by rw [sto_K (by decide)]; exact hT.2.1, fun j hj => by rw [sto_K (by decide)]; exact hT.2.2 j hj⟩ (fun μ' B' F' => kk μ' B' (Fr_tr (Fr_sto (by decide)) F')) m 0 _ (Nat.zero_add _) ⟨sto_eq, fun j hj => absurd hj (by show ¬ j < 0; omega)⟩ Fr_rf
/-- the steps that the reference turns -/
def ST (x : Int32) (m : Nat) (s : Nat → Nat) (μ : mH) : Prop := m ≤ 320 ∧ (∀ j, j < m → 1 ≤ s j ∧ s j < 256) ∧ ((x = -1 ∧ μ 12 0 9 = nI m ∧ ∀ j, j < m → μ 43 0 j = nI (s j)) ∨ (∃ r, r < 10 ∧ x = nI r ∧ μ 45 0 r = nI m ∧ ∀ j, j < m → μ 46 0 (320 * r + j) = nI (s j)))
theorem mpush_lp {z n P G C T k : Nat} {b : Nat → Nat} {x1 x5 : Int32} {μ0 : mH} {Q : mH → Prop} (hP2 : P ≤ 60) (hn : n = rn C T) (hz : z + n ≤ 2560) (h1 : 1 ≤ n)
    (kk : ∀ μ', BM (z + n) (bap z n b) μ' → Fr [12, 50] μ0 μ' → (∀ s, s ≠ 20 → μ' 12 0 s = μ0 12 0 s) → aw Γ M_X12_turns 34 [aR 12 0, aI x1, aI (nI P), aI (nI G), aI (nI (rw1 P G C T)), aI x5, aI (nI (k + 1)), aX, aX, aX] [] μ' (rV Q)) :
    ∀ (d i : Nat) (μ : mH), 1 ≤ i → i + d = n → BM (z + i - 1) (bap z n b) μ → Fr [12, 50] μ0 μ → (∀ s, s ≠ 20 → μ 12 0 s = μ0 12 0 s) → aw Γ M_X12_turns 115 [aR 12 0, aI x1, aI (nI P), aI (nI G), aI (nI C), aI x5, aI (nI k), aI (nI T), aI (nI n), aI (nI i)] [] μ (rV Q) := by
  intro d
  induction d with
  | zero =>
    intro i μ hi hd hB hF hs
    obtain rfl : i = n := by omega
    refine u_X12_turns_115 (br_t (nI_le (Nat.le_refl _) (by omega)) ?_)
    rw [hB.1, tn_nI (by omega), nI_1, nI_1, show z + i - 1 + 1 = z + i by omega]
    refine ⟨vp_in_nI (by omega) (by decide), nI_ne0 (by omega) (by omega), s_fdiv ?_⟩
    have k := kk (sto (sto μ 50 0 (z + i - 1) (1 &&& 1)) 12 0 20 (nI (z + i))) ⟨sto_eq, fun j hj => by
      rw [sto_K (by decide)]
      by_cases e : j = z + i - 1
      · subst e
        rw [sto_eq]
        unfold bap
        rw [if_neg (by omega), if_pos (by omega)]
        decide
      · rw [sto_s e]; exact hB.2 j (by omega)⟩ (Fr_st2 (Fr_st2 hF (by decide)) (by decide)) (fun s q => by rw [sto_s q, sto_K (by decide)]; exact hs s q)
    have ey : nI C + fdv (((16 : Int32) * nI T / nI i - nI C) * nI G) = ry G C T := by
      unfold ry
      rw [← hn]
    rw [ey, show (12 : Int32) * nI P = nI (12 * P) from pk_mul 12 P, show (20 : Int32) * nI P = nI (20 * P) from pk_mul 20 P]
    obtain ⟨w, w1, w2, w3, w4, w5, w6⟩ := clamp (12 * P) (20 * P) (ry G C T) (by omega) (by omega)
    have ew : rw1 P G C T = w := by
      unfold rw1
      rw [w3, tn_nI (by omega)]
    rw [ew] at k
    refine ⟨fun q => ⟨fun q2 => ?_, fun q2 => ?_⟩, fun q => ?_⟩
    · rw [w4 q q2]; exact k
    · rw [← w5 q q2]; exact k
    · rw [← w6 q]; exact k
  | succ d ih =>
    intro i μ hi hd hB hF hs
    refine u_X12_turns_115 (br_f (nI_ge (by omega) (by omega)) ?_)
    rw [hB.1, tn_nI (by omega), nI_1, nI_1, show z + i - 1 + 1 = z + (i + 1) - 1 by omega]
    refine ⟨vp_in_nI (by omega) (by decide), ih (i + 1) _ (by omega) (by omega) ⟨sto_eq, fun j hj => ?_⟩ (Fr_st2 (Fr_st2 hF (by decide)) (by decide)) (fun s q => by rw [sto_s q, sto_K (by decide)]; exact hs s q)⟩
    rw [sto_K (by decide)]
    by_cases e : j = z + i - 1
    · subst e
      rw [sto_eq]
      unfold bap
      rw [if_neg (by omega), if_neg (by omega)]
      decide
    · rw [sto_s e]; exact hB.2 j (by omega)
theorem turns_lp {m P G : Nat} {s : Nat → Nat} {x1 : Int32} {μ0 : mH} {Q : mH → Prop} (hP : 8 ≤ P) (hP2 : P ≤ 60) (hT : ST x1 m s μ0) (kk : ∀ μ', BM (rz P G s m) (rbt P G s m) μ' → Fr [12, 50] μ0 μ' → (∀ s, s ≠ 20 → μ' 12 0 s = μ0 12 0 s) → Q μ') :
    ∀ (d k : Nat) (μ : mH), k + d = m → BM (rz P G s k) (rbt P G s k) μ → Fr [12, 50] μ0 μ → (∀ s, s ≠ 20 → μ 12 0 s = μ0 12 0 s) → aw Γ M_X12_turns 34 [aR 12 0, aI x1, aI (nI P), aI (nI G), aI (nI (rc P G s k)), aI (nI m), aI (nI k), aX, aX, aX] [] μ (rV Q) := by
  obtain ⟨t1, t2, t3⟩ := hT
  intro d
  induction d with
  | zero =>
    intro k μ hk hB hF hs
    obtain rfl : k = m := by omega
    exact u_X12_turns_34 (br_t (nI_le (Nat.le_refl _) (by omega)) (kk μ hB hF hs))
  | succ d ih =>
    intro k μ hk hB hF hs
    obtain ⟨s1, s2⟩ := t2 k (by omega)
    obtain ⟨c1, c2⟩ := rc_rng P G s hP2 k
    obtain ⟨n1, n2, n3⟩ := rn_rng (rc P G s k) (s k)
    have hz := rz_le P G s k
    have go : aw Γ M_X12_turns 69 [aR 12 0, aI x1, aI (nI P), aI (nI G), aI (nI (rc P G s k)), aI (nI m), aI (nI k), aX, aX, aX] [aI (nI (s k))] μ (rV Q) := by
      have lp := mpush_lp (Γ := Γ) (x1 := x1) (x5 := nI m) (μ0 := μ) (Q := Q) (k := k) (G := G) (b := rbt P G s k) (z := rz P G s k) (C := rc P G s k) (T := s k) hP2 rfl (by omega) n1 (fun μ' B' F' s' => ih (k + 1) μ' (by omega) B' (Fr_tr hF F') (fun q z => (s' q z).trans (hs q z))) (rn (rc P G s k) (s k) - 1) 1 μ (Nat.le_refl _) (by omega) ⟨by rw [hB.1]; congr 1, fun j hj => by
        unfold bap
        rw [if_pos (by omega)]
        exact hB.2 j (by omega)⟩ Fr_rf (fun _ _ => rfl)
      refine u_X12_turns_69 ⟨?_, ?_⟩
      · rw [show (2 : Int32) = nI 2 from rfl, pk_mul]
        exact nI_ne0 (by omega) (by omega)
      · obtain ⟨w, w1, w2, w3, w4, w5, w6⟩ := clamp 1 8 (rq (rc P G s k) (s k)) (by decide) (by decide)
        have ew : rn (rc P G s k) (s k) = w := by
          unfold rn
          rw [show smx 1 (smn 8 (rq (rc P G s k) (s k))) = nI w from w3, tn_nI (by omega)]
        rw [ew] at lp
        change (1 ≤ rq (rc P G s k) (s k) → ((rq (rc P G s k) (s k) ≤ 8 → aw Γ M_X12_turns 115 [aR 12 0, aI x1, aI (nI P), aI (nI G), aI (nI (rc P G s k)), aI (nI m), aI (nI k), aI (nI (s k)), aI (rq (rc P G s k) (s k)), aI 1] [] μ (rV Q)) ∧ _)) ∧ _
        refine ⟨fun q => ⟨fun q2 => ?_, fun q2 => ?_⟩, fun q => ?_⟩
        · rw [w4 q q2]; exact lp
        · rw [w5 q q2] at lp; exact lp
        · rw [w6 q] at lp; exact lp
    refine u_X12_turns_34 (br_f (nI_ge (by omega) (by omega)) ?_)
    rcases t3 with ⟨e1, _, e2⟩ | ⟨r, hr, e1, _, e2⟩
    · refine ⟨fun z => absurd e1 z, fun _ => ⟨vp_in_nI (by omega) (by decide), ?_⟩⟩
      rw [tn_nI (by omega), Fr_at hF (by decide), e2 k (by omega)]
      exact go
    · refine ⟨fun _ => ?_, fun z => absurd (e1.symm.trans z) (nI_m1 (by omega))⟩
      have e3 : (320 : Int32) * x1 + nI k = nI (320 * r + k) := by rw [e1, show (320 : Int32) = nI 320 from rfl, pk_mul, nI_add]
      rw [e3, tn_nI (by omega), Fr_at hF (by decide), e2 k (by omega)]
      exact ⟨vp_in_nI (by omega) (by decide), go⟩
theorem m_turns {m P G : Nat} {s : Nat → Nat} {x1 : Int32} {μ : mH} {Q : mH → Prop} (hP : 8 ≤ P) (hP2 : P ≤ 60) (hT : ST x1 m s μ) (kk : ∀ μ', BM (rz P G s m) (rbt P G s m) μ' → Fr [12, 50] μ μ' → (∀ s, s ≠ 20 → μ' 12 0 s = μ 12 0 s) → Q μ') : cwv Γ M_X12_turns [aR 12 0, aI x1, aI (nI P), aI (nI G)] μ Q := by
  have hT2 : ST x1 m s (sto μ 12 0 20 0) := ⟨hT.1, hT.2.1, by
    rcases hT.2.2 with ⟨e1, e0, e2⟩ | ⟨r, hr, e1, e0, e2⟩
    · exact Or.inl ⟨e1, by rw [sto_s (by decide)]; exact e0, fun j hj => by rw [sto_K (by decide)]; exact e2 j hj⟩
    · exact Or.inr ⟨r, hr, e1, by rw [sto_K (by decide)]; exact e0, fun j hj => by rw [sto_K (by decide)]; exact e2 j hj⟩⟩
  have lp := turns_lp (Γ := Γ) (G := G) hP hP2 hT2 (fun μ' B' F' s' => kk μ' B' (Fr_tr (Fr_sto (by decide)) F') (fun q z => by rw [s' q z, sto_s z])) m 0 _ (Nat.zero_add _) ⟨sto_eq, fun j hj => absurd hj (by show ¬ j < 0; omega)⟩ Fr_rf (fun _ _ => rfl)
  refine u_X12_turns ?_
  rw [show (16 : Int32) * nI P = nI (16 * P) from pk_mul 16 P]
  rcases hT.2.2 with ⟨e1, e0, e2⟩ | ⟨r, hr, e1, e0, e2⟩
  · refine ⟨fun z => absurd e1 z, fun _ => ?_⟩
    rw [e0]
    exact lp
  · refine ⟨fun _ => ?_, fun z => absurd (e1.symm.trans z) (nI_m1 (by omega))⟩
    have et : tn x1 = r := by rw [e1]; exact tn_nI (by omega)
    rw [et, e0]
    exact ⟨by rw [e1]; exact vp_in_nI hr (by decide), lp⟩
/-- raw -/
def rwok (x1 x2 : Int32) : Prop := inN x1 61 ∧ 8 ≤ tn x1 ∧ inN x2 9
def rwA (m : Nat) (s : Nat → Nat) (x1 x2 x3 : Int32) : Int32 := if x3 = -1 then nI (rz (tn x1) (tn x2) s m) else if inN x3 (rz (tn x1) (tn x2) s m) then nI (rbt (tn x1) (tn x2) s m (tn x3)) else -1
theorem c_raw {m : Nat} {s : Nat → Nat} {x1 x2 x3 : Int32} {μ : mH} {Q : Int32 → mH → Prop} (hT : TPC 0 m s μ) (k1 : rwok x1 x2 → ∀ μ', Fr [5, 22] μ μ' → Q (rwA m s x1 x2 x3) μ') (k0 : ¬ rwok x1 x2 → Q (-1) μ) : cwi Γ M_X11_raw [aR 11 0, aI x1, aI x2, aI x3] μ Q := by
  rcases Int32_cases x1 with hn | ⟨P, hP, rfl⟩
  · exact u_X11_raw ⟨fun _ => k0 (fun q => inN_neg hn (by decide) q.1), fun z => absurd (neg_lt (n := 8) hn (by decide)) z⟩
  · rcases Int32_cases x2 with hn | ⟨G, hG, rfl⟩
    · have k := k0 (fun q => inN_neg hn (by decide) q.2.2)
      exact u_X11_raw ⟨fun _ => k, fun _ => ⟨fun _ => k, fun _ => ⟨fun _ => k, fun z => absurd hn z⟩⟩⟩
    · have k0' : ¬ (8 ≤ P ∧ P ≤ 60 ∧ G ≤ 8) → Q (-1) μ := fun h => k0 (fun q => h (by
        obtain ⟨⟨_, a⟩, b, _, c⟩ := q
        rw [tn_nI hP] at a b
        rw [tn_nI hG] at c
        omega))
      refine u_X11_raw (pk_lt P 8 (fun q => k0' (by omega)) (fun q => pk_lt 60 P (fun q2 => k0' (by omega)) (fun q2 => ⟨fun z => absurd z (nI_pos hG), fun _ => pk_le G 8 (fun q3 => c_fill q q2 hT (fun μ' B F => ?_)) (fun q3 => k0' (by omega))⟩)))
      have k := k1 ⟨inN_of (by omega) (by decide), by rw [tn_nI hP]; exact q, inN_of (by omega) (by decide)⟩ μ' F
      unfold rwA at k
      rw [tn_nI hP, tn_nI hG] at k
      have hz := rz_le P G s m
      have hm := hT.1
      rw [B.1]
      refine ⟨fun z => ?_, fun z => ?_⟩
      · rw [if_neg z] at k
        refine s_rng (by omega) (fun h => ?_) (fun h => ⟨by rw [h.1]; exact vp_in_nI (by have := h.2; omega) (by decide), ?_⟩)
        · rw [if_neg h] at k; exact k
        · rw [if_pos h] at k; rw [B.2 _ h.2]; exact k
      · rw [if_pos z] at k; exact k
theorem m_raw {m : Nat} {s : Nat → Nat} {x1 x2 x3 : Int32} {μ : mH} {Q : Int32 → mH → Prop} (hT : TPM m s μ) (k1 : rwok x1 x2 → ∀ μ', Fr [12, 50] μ μ' → (∀ s, s ≠ 20 → μ' 12 0 s = μ 12 0 s) → Q (rwA m s x1 x2 x3) μ') (k0 : ¬ rwok x1 x2 → Q (-1) μ) : cwi Γ M_X12_raw [aR 12 0, aI x1, aI x2, aI x3] μ Q := by
  refine u_X12_raw (s_in (fun h => ⟨fun _ => k0 (fun q => h ?_), fun z => absurd rfl z⟩) (fun g1 g2 => ⟨fun z => absurd z (by decide), fun _ => s_inN (n := 9) (by decide) rfl (fun h => ⟨fun z => absurd rfl z, fun _ => k0 (fun q => h q.2.2)⟩) (fun i2 => ⟨fun _ => ?_, fun z => absurd z (by decide)⟩)⟩))
  · obtain ⟨⟨a, a2⟩, b, _⟩ := q
    rw [a]
    exact ⟨nI_le (a := 8) b (by omega), nI_le (b := 60) (by omega) (by decide)⟩
  · rcases Int32_cases x1 with hn | ⟨P, hP, rfl⟩
    · exact absurd g1 (neg_nle hn (by decide))
    · have g1 := (nI_leI (a := 8) (by decide) hP).mp g1
      have g2 := (nI_leI (b := 60) hP (by decide)).mp g2
      have k1 := k1 ⟨inN_of (by omega) (by decide), by rw [tn_nI hP]; exact g1, i2⟩
      unfold rwA at k1
      rw [tn_nI hP] at k1
      rw [i2.1]
      refine m_turns g1 g2 ⟨hT.1, fun j hj => ⟨(hT.2.2 j hj).1, (hT.2.2 j hj).2.1⟩, Or.inl ⟨rfl, hT.2.1, fun j hj => (hT.2.2 j hj).2.2⟩⟩ (fun μ' B F s' => ?_)
      have k := k1 μ' F s'
      have hz := rz_le P (tn x2) s m
      have hm := hT.1
      refine ⟨fun z => ?_, fun z => ?_⟩
      · rw [if_neg z] at k
        refine s_inN (n := rz P (tn x2) s m) (by omega) (by rw [B.1]) (fun h => ⟨fun _ => ?_, fun y => absurd rfl y⟩) (fun h => ⟨fun y => absurd y (by decide), fun _ => ⟨by rw [h.1]; exact vp_in_nI (by have := h.2; omega) (by decide), ?_⟩⟩)
        · rw [if_neg h] at k; exact k
        · rw [if_pos h] at k
          rw [B.2 _ h.2]
          have hb := rbt_le P (tn x2) s m (tn x3)
          rcases (show rbt P (tn x2) s m (tn x3) = 0 ∨ rbt P (tn x2) s m (tn x3) = 1 by omega) with e | e
          · rw [e] at k ⊢; exact ⟨fun _ => k, fun y => absurd rfl y⟩
          · rw [e] at k ⊢; exact ⟨fun y => absurd y (by decide), fun _ => k⟩
      · rw [if_pos z] at k; rw [B.1]; exact k
end PRB
