/-! written -/
def datN (fm dat : Nat → Nat) : Nat → Nat := fun i => if i < fm 4 then dat i else 0
theorem datN_eq {fm d d' : Nat → Nat} (h : ∀ i, i < fm 4 → d i = d' i) : datN fm d = datN fm d' := by
  funext i
  unfold datN
  by_cases c : i < fm 4
  · rw [if_pos c, if_pos c, h i c]
  · rw [if_neg c, if_neg c]
theorem datN_at {fm d : Nat → Nat} {i : Nat} (h : i < fm 4) : datN fm d i = d i := if_pos h
def wY (fm : Nat → Nat) (T S : Nat) (d : Nat → Nat) (b : Nat) : Nat := if b < 2 + fm 4 then hdv fm T S d b else if b = 2 + fm 4 then SUMd fm T S d / 256 else SUMd fm T S d % 256
def wD (Y : Nat → Nat) (j : Nat) : Nat := if (Y (j / 8)).testBit (7 - j % 8) then 1 else 0
def wP (fm Y : Nat → Nat) (j : Nat) : Nat := if j = 0 then fm 3 % 2 else wD Y (j - 1)
def wB (fm Y : Nat → Nat) (n : Nat) : Nat := if n < 16 then 1 - n % 2 else if n < 32 then (if (fm 3).testBit (31 - n) then 1 else 0) else if n < 32 + 16 * (4 + fm 4) then (if n % 2 = 0 then ckd (wP fm Y ((n - 32) / 2)) (wD Y ((n - 32) / 2)) else wD Y ((n - 32) / 2)) else 1
def wq (B : Nat → Nat) : Nat → Nat
  | 0 => 0
  | t + 1 => if B (t + 1) = 0 then wq B t + 1 else 0
def wz (B : Nat → Nat) : Nat → Nat
  | 0 => 0
  | t + 1 => if B (t + 1) = 0 then wz B t else wz B t + 1
def ww (c : Nat) (B : Nat → Nat) : Nat → Nat → Nat
  | 0 => fun _ => 0
  | t + 1 => if B (t + 1) = 0 then ww c B t else up (ww c B t) (wz B t) (c * (wq B t + 1))
def wk (c : Nat) (B : Nat → Nat) : Nat → Bool
  | 0 => true
  | t + 1 => if B (t + 1) = 0 then wk c B t else wk c B t && decide (c * (wq B t + 1) ≤ 255)
theorem wq_le (B : Nat → Nat) : ∀ t, wq B t ≤ t
  | 0 => Nat.le_refl _
  | t + 1 => by
    have := wq_le B t
    unfold wq
    split <;> omega
theorem wz_le (B : Nat → Nat) : ∀ t, wz B t ≤ t
  | 0 => Nat.le_refl _
  | t + 1 => by
    have := wz_le B t
    unfold wz
    split <;> omega
theorem wD_le (Y : Nat → Nat) (j : Nat) : wD Y j ≤ 1 := by unfold wD; split <;> decide
theorem wB_le (fm Y : Nat → Nat) (n : Nat) : wB fm Y n ≤ 1 := by
  unfold wB
  split
  · omega
  · split
    · split <;> decide
    · split
      · split
        · exact ckd_le _ _
        · exact wD_le _ _
      · decide
def wrA (fm : Nat → Nat) (T S : Nat) (dat : Nat → Nat) (x : Int32) : Int32 :=
  if wk (fm 1) (wB fm (wY fm T S (datN fm dat))) (32 + 16 * (4 + fm 4)) then (if x = -1 then nI (wz (wB fm (wY fm T S (datN fm dat))) (32 + 16 * (4 + fm 4))) else if inN x (wz (wB fm (wY fm T S (datN fm dat))) (32 + 16 * (4 + fm 4))) then nI (ww (fm 1) (wB fm (wY fm T S (datN fm dat))) (32 + 16 * (4 + fm 4)) (tn x)) else -1) else -1
def wrV (fm : Nat → Nat) (T S v : Nat) (dat : Nat → Nat) (x : Int32) : Int32 := if v = 1 ∨ v = 3 then wrA fm T S dat x else -1
def SCn (c : Nat) (B : Nat → Nat) (n : Nat) (μ : mH) : Prop := μ 6 0 2 = nI c ∧ ((n = 0 ∧ μ 6 0 3 = -1 ∧ μ 6 0 1 = nI 0 ∧ μ 6 0 5 = 1) ∨ (0 < n ∧ μ 6 0 3 = nI (wq B (n - 1)) ∧ μ 6 0 1 = nI (wz B (n - 1)) ∧ μ 6 0 5 = nI (if wk c B (n - 1) then 1 else 0) ∧ ∀ j, j < wz B (n - 1) → μ 39 0 j = nI (ww c B (n - 1) j)))
section PWR
variable {Γ : cx_T}
theorem c_pushBit {c n : Nat} {B : Nat → Nat} {μ : mH} {Q : mH → Prop} (hc : 1 ≤ c) (hc2 : c ≤ 60) (hB0 : B 0 = 1) (hB : B n ≤ 1) (hn : n < 225) (hS : SCn c B n μ) (kk : ∀ μ', SCn c B (n + 1) μ' → Fr [6, 39] μ μ' → μ' 6 0 4 = μ 6 0 4 → Q μ') : cwv Γ M_X6_pushBit [aR 6 0, aI (nI (B n))] μ Q := by
  obtain ⟨s2, h⟩ := hS
  rcases h with ⟨n0, s3, s1, s5⟩ | ⟨np, s3, s1, s5, s9⟩
  · subst n0
    refine u_X6_pushBit ⟨fun _ => u_X6_pushBit_18 ⟨fun _ => ⟨fun _ => ?_, fun z => absurd s3 z⟩, fun z => absurd (hB0 ▸ z) (by decide)⟩, fun z => absurd s3 z⟩
    refine kk _ ⟨by rw [sto_s (by decide)]; exact s2, Or.inr ⟨by omega, sto_eq, by rw [sto_s (by decide)]; exact s1, by rw [sto_s (by decide)]; exact s5, fun j hj => absurd hj (by show ¬ j < 0; omega)⟩⟩ (Fr_sto (by decide)) (sto_s (by decide))
  · have lq := wq_le B (n - 1)
    have lz := wz_le B (n - 1)
    have en : n = (n - 1) + 1 := by omega
    have bl : c * (wq B (n - 1) + 1) ≤ 60 * 225 := Nat.mul_le_mul hc2 (by omega)
    refine u_X6_pushBit ⟨fun z => absurd (s3.symm.trans z) (nI_m1 (by omega)), fun _ => u_X6_pushBit_18 ?_⟩
    rw [s3, nI_1, sto_eq, sto_s (show 1 ≠ 3 by decide), sto_s (show 5 ≠ 3 by decide), sto_s (show 2 ≠ 3 by decide), s1, s5, s2, pk_mul]
    rcases (show B n = 0 ∨ B n = 1 by omega) with e | e
    · refine ⟨fun z => absurd (by rw [e]; rfl) z, fun _ => kk _ ⟨by rw [sto_s (by decide)]; exact s2, Or.inr ⟨by omega, ?_, ?_, ?_, fun j hj => ?_⟩⟩ (Fr_sto (by decide)) (sto_s (by decide))⟩
      · rw [sto_eq, show n + 1 - 1 = (n - 1) + 1 by omega]
        congr 1
        show _ = if B (n - 1 + 1) = 0 then wq B (n - 1) + 1 else 0
        rw [← en, if_pos e]
      · rw [sto_s (by decide), s1, show n + 1 - 1 = (n - 1) + 1 by omega]
        congr 1
        show _ = if B (n - 1 + 1) = 0 then wz B (n - 1) else wz B (n - 1) + 1
        rw [← en, if_pos e]
      · rw [sto_s (by decide), s5, show n + 1 - 1 = (n - 1) + 1 by omega]
        have : wk c B (n - 1 + 1) = wk c B (n - 1) := by
          show (if B (n - 1 + 1) = 0 then wk c B (n - 1) else _) = _
          rw [← en, if_pos e]
        rw [this]
      · have e1 : wz B (n - 1 + 1) = wz B (n - 1) := by
          show (if B (n - 1 + 1) = 0 then wz B (n - 1) else _) = _
          rw [← en, if_pos e]
        have e2 : ww c B (n - 1 + 1) = ww c B (n - 1) := by
          show (if B (n - 1 + 1) = 0 then ww c B (n - 1) else _) = _
          rw [← en, if_pos e]
        rw [show n + 1 - 1 = (n - 1) + 1 by omega] at hj ⊢
        rw [e1] at hj
        rw [sto_K (by decide), e2]
        exact s9 j hj
    · refine ⟨fun _ => ?_, fun z => absurd z (by rw [e]; decide)⟩
      refine ⟨fun z => absurd z (nI_m1 (by omega)), fun _ => br_f (nI_ge (b := 225) (by omega) (by decide)) ?_⟩
      have e1 : wq B (n - 1 + 1) = 0 := by
        show (if B (n - 1 + 1) = 0 then _ else 0) = 0
        rw [← en, if_neg (by omega)]
      have e2 : wz B (n - 1 + 1) = wz B (n - 1) + 1 := by
        show (if B (n - 1 + 1) = 0 then wz B (n - 1) else wz B (n - 1) + 1) = _
        rw [← en, if_neg (by omega)]
      have e3 : ww c B (n - 1 + 1) = up (ww c B (n - 1)) (wz B (n - 1)) (c * (wq B (n - 1) + 1)) := by
        show (if B (n - 1 + 1) = 0 then ww c B (n - 1) else _) = _
        rw [← en, if_neg (by omega)]
      have e4 : wk c B (n - 1 + 1) = (wk c B (n - 1) && decide (c * (wq B (n - 1) + 1) ≤ 255)) := by
        show (if B (n - 1 + 1) = 0 then wk c B (n - 1) else _) = _
        rw [← en, if_neg (by omega)]
      have fin : ∀ y : Nat, y ≤ 1 → y = (if wk c B (n - 1 + 1) then 1 else 0) → aw Γ M_X6_pushBit 69 [aR 6 0, aX] [aI (nI y), aR 6 0] (sto μ 6 0 3 (nI (wq B (n - 1) + 1))) (rV Q) := by
        intro y hy hye
        refine u_X6_pushBit_69 ⟨by rcases (show y = 0 ∨ y = 1 by omega) with w | w <;> rw [w] <;> decide, ?_⟩
        rw [sto_s (show 1 ≠ 3 by decide), s1, sto_eq, sto_s (show 2 ≠ 3 by decide), s2, pk_mul, tn_nI (by omega), nI_1]
        refine ⟨vp_in_nI (by omega) (by decide), kk _ ⟨?_, Or.inr ⟨by omega, ?_, ?_, ?_, fun j hj => ?_⟩⟩ (Fr_st2 (Fr_st2 (Fr_st2 (Fr_st2 (Fr_sto (by decide)) (by decide)) (by decide)) (by decide)) (by decide)) ?_⟩
        · rw [sto_s (by decide), sto_s (by decide), sto_K (by decide), sto_s (by decide), sto_s (by decide)]; exact s2
        · rw [sto_eq, show n + 1 - 1 = (n - 1) + 1 by omega, e1]; rfl
        · rw [sto_s (by decide), sto_eq, show n + 1 - 1 = (n - 1) + 1 by omega, e2]
        · rw [sto_s (by decide), sto_s (by decide), sto_K (by decide), sto_eq, show n + 1 - 1 = (n - 1) + 1 by omega, hye]
        · rw [show n + 1 - 1 = (n - 1) + 1 by omega] at hj ⊢
          rw [e2] at hj
          rw [sto_K (by decide), sto_K (by decide), e3]
          by_cases w : j = wz B (n - 1)
          · rw [w, sto_eq, up_eq]
          · rw [sto_s w, sto_K (by decide), sto_K (by decide), up_ne _ w]
            exact s9 j (by omega)
        · rw [sto_s (by decide), sto_s (by decide), sto_K (by decide), sto_s (by decide), sto_s (by decide)]
      rw [e4] at fin
      cases ek : wk c B (n - 1)
      · rw [ek] at fin
        exact ⟨fun _ => fin 0 (by decide) rfl, fun z => absurd rfl z⟩
      · rw [ek] at fin
        refine ⟨fun z => absurd z (by decide), fun _ => pk_lt 255 (c * (wq B (n - 1) + 1)) (fun q => fin 0 (by decide) ?_) (fun q => fin 1 (by decide) ?_)⟩
        · simp [show ¬ c * (wq B (n - 1) + 1) ≤ 255 by omega]
        · simp [q]
theorem wB_lead {fm Y : Nat → Nat} {n : Nat} (h : n < 16) : wB fm Y n = 1 - n % 2 := if_pos h
theorem wB_mark {fm Y : Nat → Nat} {n : Nat} (h : 16 ≤ n) (h2 : n < 32) : wB fm Y n = if (fm 3).testBit (31 - n) then 1 else 0 := by
  unfold wB
  rw [if_neg (by omega), if_pos h2]
theorem wB_clock {fm Y : Nat → Nat} {j : Nat} (h : j < 8 * (4 + fm 4)) : wB fm Y (32 + 2 * j) = ckd (wP fm Y j) (wD Y j) := by
  unfold wB
  rw [if_neg (by omega), if_neg (by omega), if_pos (by omega), if_pos (by omega), show (32 + 2 * j - 32) / 2 = j by omega]
theorem wB_data {fm Y : Nat → Nat} {j : Nat} (h : j < 8 * (4 + fm 4)) : wB fm Y (32 + 2 * j + 1) = wD Y j := by
  unfold wB
  rw [if_neg (by omega), if_neg (by omega), if_pos (by omega), if_neg (by omega), show (32 + 2 * j + 1 - 32) / 2 = j by omega]
theorem wB_last {fm Y : Nat → Nat} : wB fm Y (32 + 16 * (4 + fm 4)) = 1 := by
  unfold wB
  rw [if_neg (by omega), if_neg (by omega), if_neg (by omega)]
theorem c_pushByte {b : Nat} {fm Y : Nat → Nat} {μ : mH} {Q : mH → Prop} (hO : OKF fm) (hY : Y b < 256) (hb : b < 4 + fm 4) (hS : SCn (fm 1) (wB fm Y) (32 + 16 * b) μ) (h4 : μ 6 0 4 = nI (wP fm Y (8 * b))) (kk : ∀ μ', SCn (fm 1) (wB fm Y) (32 + 16 * (b + 1)) μ' → μ' 6 0 4 = nI (wP fm Y (8 * (b + 1))) → Fr [6, 39] μ μ' → Q μ') : cwv Γ M_X6_pushByte [aR 6 0, aI (nI (Y b))] μ Q := by
  obtain ⟨o1, o2, o3, o4, o5, o6, o7, o8, o9, o10⟩ := hO
  have hP : ∀ j, wP fm Y j ≤ 1 := fun j => by
    unfold wP
    split
    · omega
    · exact wD_le _ _
  have lp : ∀ t p (μ1 : mH), p + t = 8 → SCn (fm 1) (wB fm Y) (32 + 2 * (8 * b + p)) μ1 → μ1 6 0 4 = nI (wP fm Y (8 * b + p)) → Fr [6, 39] μ μ1 → aw Γ M_X6_pushByte 3 [aR 6 0, aI (nI (Y b)), aI (nI t - 1), aX] [] μ1 (rV Q) := by
    intro t
    induction t with
    | zero =>
      intro p μ1 hp S1 h1 F1
      obtain rfl : p = 8 := by omega
      refine u_X6_pushByte_3 (br_t (by decide) (kk μ1 ?_ h1 F1))
      rw [show 32 + 16 * (b + 1) = 32 + 2 * (8 * b + 8) by omega]
      exact S1
    | succ t ih =>
      intro p μ1 hp S1 h1 F1
      have eD : wD Y (8 * b + p) = if (Y b).testBit t then 1 else 0 := by
        unfold wD
        rw [show (8 * b + p) / 8 = b by omega, show 7 - (8 * b + p) % 8 = t by omega]
      have hj : 8 * b + p < 8 * (4 + fm 4) := by omega
      have l1 := hP (8 * b + p)
      have l2 := wD_le Y (8 * b + p)
      refine u_X6_pushByte_3 ?_
      rw [nI_pred, mb_t (by omega) (by omega), ← eD, h1, neg1_add]
      refine br_f (nI_pos (by omega)) (s_clock (by omega) (by omega) ?_)
      rw [← wB_clock hj]
      refine c_pushBit (by omega) o2 rfl (wB_le _ _ _) (by omega) S1 (fun μ2 S2 F2 g2 => ?_)
      rw [← wB_data (fm := fm) hj]
      refine c_pushBit (by omega) o2 rfl (wB_le _ _ _) (by omega) S2 (fun μ3 S3 F3 g3 => ?_)
      rw [wB_data hj]
      refine ih (p + 1) _ (by omega) ?_ ?_ (Fr_st2 (Fr_tr F1 (Fr_tr F2 F3)) (by decide))
      · rw [show 32 + 2 * (8 * b + (p + 1)) = 32 + 2 * (8 * b + p) + 1 + 1 by omega]
        unfold SCn
        rw [sto_s (by decide), sto_s (by decide), sto_s (by decide), sto_s (by decide)]
        obtain ⟨u, w⟩ := S3
        refine ⟨u, ?_⟩
        rcases w with w | ⟨w1, w2, w3, w4, w5⟩
        · exact Or.inl w
        · exact Or.inr ⟨w1, w2, w3, w4, fun j hj => by rw [sto_K (by decide)]; exact w5 j hj⟩
      · rw [sto_eq]
        congr 1
  exact u_X6_pushByte (lp 8 0 μ rfl (by rw [show 32 + 2 * (8 * b + 0) = 32 + 16 * b by omega]; exact hS) h4 Fr_rf)
theorem wY_lt {fm : Nat → Nat} {T S : Nat} {d : Nat → Nat} (hO : OKF fm) (hT : T < 256) (hS : S < 256) (hd : ∀ i, i < fm 4 → d i < 256) (b : Nat) (hb : b < 4 + fm 4) : wY fm T S d b < 256 := by
  have hh : ∀ j, j < 2 + fm 4 → hdv fm T S d j < 256 := fun j hj => by
    unfold hdv
    split
    · split <;> assumption
    · split
      · split <;> assumption
      · exact hd _ (by omega)
  have := sm_lt hO (2 + fm 4) hh
  unfold wY
  split
  · exact hh b (by assumption)
  · split
    · show SUMd fm T S d / 256 < 256
      unfold SUMd
      omega
    · exact Nat.mod_lt _ (by decide)
theorem c_write {fm : Nat → Nat} {T S : Nat} {d : Nat → Nat} {μ : mH} {Q : Int32 → mH → Prop} (hO : OKF fm) (hT : T < 256) (hS : S < 256) (hF : FMC 1 fm μ) (hd : ∀ i, i < fm 4 → d i < 256 ∧ μ 24 88 i = nI (d i))
    (kk : ∀ μ', SCn (fm 1) (wB fm (wY fm T S d)) (33 + 16 * (4 + fm 4)) μ' → Fr [6, 39] μ μ' → Q (μ' 6 0 5) μ') : cwi Γ M_X6_write [aR 6 0, aR 4 1, aI (nI T), aI (nI S), aR 24 88] μ Q := by
  have hO0 := hO
  obtain ⟨o1, o2, o3, o4, o5, o6, o7, o8, o9, o10⟩ := hO
  have yl := wY_lt (d := d) hO0 hT hS (fun i hi => (hd i hi).1)
  have y0 : wY fm T S d 0 = if fm 8 = 0 then T else S := by unfold wY; rw [if_pos (by omega)]; rfl
  have y1 : wY fm T S d 1 = if fm 8 = 0 then S else T := by unfold wY; rw [if_pos (by omega)]; rfl
  have yd : ∀ i, i < fm 4 → wY fm T S d (2 + i) = d i := fun i hi => by
    unfold wY hdv
    rw [if_pos (by omega), if_neg (by omega), if_neg (by omega), show 2 + i - 2 = i by omega]
  have ys : wY fm T S d (2 + fm 4) = SUMd fm T S d / 256 := by unfold wY; rw [if_neg (by omega), if_pos rfl]
  have yt : wY fm T S d (3 + fm 4) = SUMd fm T S d % 256 := by unfold wY; rw [if_neg (by omega), if_neg (by omega)]
  have hsum : SUMd fm T S d < 65536 := sm_lt hO0 (2 + fm 4) (fun j hj => by
    have := yl j (by omega)
    unfold wY at this
    rw [if_pos hj] at this
    exact this)
  generalize hYe : wY fm T S d = Y at *
  refine u_X6_write ?_
  rw [hF 1 (by decide) (by decide)]
  have F0 : Fr [6, 39] μ (sto (sto (sto (sto μ 6 0 1 0) 6 0 3 (-1)) 6 0 2 (nI (fm 1))) 6 0 5 1) := Fr_st2 (Fr_st2 (Fr_st2 (Fr_sto (by decide)) (by decide)) (by decide)) (by decide)
  have S0 : SCn (fm 1) (wB fm Y) 0 (sto (sto (sto (sto μ 6 0 1 0) 6 0 3 (-1)) 6 0 2 (nI (fm 1))) 6 0 5 1) := ⟨by rw [sto_s (by decide), sto_eq], Or.inl ⟨rfl, by rw [sto_s (by decide), sto_s (by decide), sto_eq], by rw [sto_s (by decide), sto_s (by decide), sto_s (by decide), sto_eq]; rfl, sto_eq⟩⟩
  -- the data and the sum
  have lpD : ∀ e i (μ1 : mH), i + e = fm 4 → SCn (fm 1) (wB fm Y) (32 + 16 * (2 + i)) μ1 → μ1 6 0 4 = nI (wP fm Y (8 * (2 + i))) → Fr [6, 39] μ μ1 → aw Γ M_X6_write 110 [aR 6 0, aR 4 1, aI (nI T), aI (nI S), aR 24 88, aI (nI i)] [] μ1 (rI Q) := by
    intro e
    induction e with
    | zero =>
      intro i μ1 hi S1 g1 F1
      obtain rfl : i = fm 4 := by omega
      refine u_X6_write_110 ?_
      rw [Fr_at F1 (by decide), hF 4 (by decide) (by decide)]
      refine br_t (nI_le (Nat.le_refl _) (by omega)) (u_X6_write_142 ?_)
      refine s_sumOf (f := hdv fm T S d) hO0 (FMC_fr hF F1 (by decide)) (fun j hj => ?_) rfl rfl (fun j hj => ?_) ?_
      · have := yl j (by omega)
        rw [← hYe] at this
        unfold wY at this
        rw [if_pos hj] at this
        exact this
      · rw [Fr_at F1 (by decide), (hd j hj).2]
        congr 1
        unfold hdv
        rw [if_neg (by omega), if_neg (by omega), show 2 + j - 2 = j by omega]
      · have e1 : nI (sm fm (hdv fm T S d) (2 + fm 4)) >>> ((8 : Int32) &&& 31) = nI (Y (2 + fm 4)) := by
          rw [show sm fm (hdv fm T S d) (2 + fm 4) = SUMd fm T S d from rfl, pk_shrN (by omega) _ 8 (by decide), ys]
        have e2 : nI (sm fm (hdv fm T S d) (2 + fm 4)) &&& (255 : Int32) = nI (Y (2 + fm 4 + 1)) := by
          rw [show sm fm (hdv fm T S d) (2 + fm 4) = SUMd fm T S d from rfl, pk_andN (by omega) 8 (by decide), show 2 + fm 4 + 1 = 3 + fm 4 by omega, yt]
        rw [e1, e2]
        refine c_pushByte hO0 (yl _ (by omega)) (by omega) S1 g1 (fun μ2 S2 g2 F2 => ?_)
        refine c_pushByte hO0 (yl _ (by omega)) (by omega) S2 g2 (fun μ3 S3 g3 F3 => ?_)
        have S3' : SCn (fm 1) (wB fm Y) (32 + 16 * (4 + fm 4)) μ3 := by
          rw [show 32 + 16 * (2 + fm 4 + 1 + 1) = 32 + 16 * (4 + fm 4) by omega] at S3
          exact S3
        have last := c_pushBit (Γ := Γ) (Q := fun μ5 => (μ5 6 0 5 = 0 ∨ μ5 6 0 5 = 1) ∧ Q (μ5 6 0 5) μ5) (by omega) o2 rfl (wB_le fm Y _) (by omega) S3' (fun μ4 S4 F4 _ => by
          have S4' : SCn (fm 1) (wB fm Y) (33 + 16 * (4 + fm 4)) μ4 := by
            rw [show 33 + 16 * (4 + fm 4) = 32 + 16 * (4 + fm 4) + 1 by omega]
            exact S4
          refine ⟨?_, kk μ4 S4' (Fr_tr F1 (Fr_tr F2 (Fr_tr F3 F4)))⟩
          rcases S4.2 with ⟨z, _⟩ | ⟨_, _, _, z, _⟩
          · omega
          · rw [z]
            split
            · right; rfl
            · left; rfl)
        rw [wB_last] at last
        exact last
    | succ e ih =>
      intro i μ1 hi S1 g1 F1
      refine u_X6_write_110 ?_
      rw [Fr_at F1 (by decide), hF 4 (by decide) (by decide), tn_nI (by omega), Fr_at F1 (show 24 ∉ [6, 39] by decide), (hd i (by omega)).2, ← yd i (by omega), nI_1]
      refine br_f (nI_ge (by omega) (by omega)) (br_f (nI_ge (b := 8) (by omega) (by decide)) ⟨vp_in_nI (by omega) (by decide), c_pushByte hO0 (yl _ (by omega)) (by omega) S1 g1 (fun μ2 S2 g2 F2 => ih (i + 1) μ2 (by omega) S2 g2 (Fr_tr F1 F2))⟩)
  -- the mark
  have lpM : ∀ t k (μ1 : mH), k + t = 16 → SCn (fm 1) (wB fm Y) (16 + k) μ1 → Fr [6, 39] μ μ1 → aw Γ M_X6_write 53 [aR 6 0, aR 4 1, aI (nI T), aI (nI S), aR 24 88, aI (nI t - 1)] [] μ1 (rI Q) := by
    intro t
    induction t with
    | zero =>
      intro k μ1 hk S1 F1
      obtain rfl : k = 16 := by omega
      have F2 : Fr [6, 39] μ (sto μ1 6 0 4 (nI (fm 3 % 2))) := Fr_st2 F1 (by decide)
      refine u_X6_write_53 (br_t (by decide) ?_)
      rw [Fr_at F1 (by decide), hF 3 (by decide) (by decide), pk_andN (by omega) 1 (by decide)]
      refine s_first hO0 (FMC_fr hF F2 (by decide)) ?_
      rw [← y0]
      have S2 : SCn (fm 1) (wB fm Y) (32 + 16 * 0) (sto μ1 6 0 4 (nI (fm 3 % 2))) := by
        unfold SCn
        rw [sto_s (by decide), sto_s (by decide), sto_s (by decide), sto_s (by decide)]
        obtain ⟨u, w⟩ := S1
        refine ⟨u, ?_⟩
        rcases w with w | ⟨w1, w2, w3, w4, w5⟩
        · omega
        · exact Or.inr ⟨w1, w2, w3, w4, fun j hj => by rw [sto_K (by decide)]; exact w5 j hj⟩
      refine c_pushByte (b := 0) hO0 (yl 0 (by omega)) (by omega) S2 (by rw [sto_eq]; rfl) (fun μ3 S3 g3 F3 => ?_)
      refine s_second hO0 (FMC_fr (FMC_fr hF F2 (by decide)) F3 (by decide)) ?_
      rw [← y1]
      exact c_pushByte (b := 1) hO0 (yl 1 (by omega)) (by omega) S3 g3 (fun μ4 S4 g4 F4 => lpD (fm 4) 0 μ4 (Nat.zero_add _) S4 g4 (Fr_tr F2 (Fr_tr F3 F4)))
    | succ t ih =>
      intro k μ1 hk S1 F1
      have eB : wB fm Y (16 + k) = if (fm 3).testBit t then 1 else 0 := by
        rw [wB_mark (by omega) (by omega), show 31 - (16 + k) = t by omega]
      refine u_X6_write_53 ?_
      rw [nI_pred, Fr_at F1 (by decide), hF 3 (by decide) (by decide), mb_t (by omega) (by omega), ← eB, neg1_add]
      exact br_f (nI_pos (by omega)) (c_pushBit (by omega) o2 rfl (wB_le _ _ _) (by omega) S1 (fun μ2 S2 F2 _ => ih (k + 1) μ2 (by omega) S2 (Fr_tr F1 F2)))
  -- the lead
  have lpL : ∀ t k (μ1 : mH), k + t = 8 → SCn (fm 1) (wB fm Y) (2 * k) μ1 → Fr [6, 39] μ μ1 → aw Γ M_X6_write 26 [aR 6 0, aR 4 1, aI (nI T), aI (nI S), aR 24 88, aI (nI k)] [] μ1 (rI Q) := by
    intro t
    induction t with
    | zero =>
      intro k μ1 hk S1 F1
      obtain rfl : k = 8 := by omega
      exact u_X6_write_26 (br_t (by decide) (lpM 16 0 μ1 rfl S1 F1))
    | succ t ih =>
      intro k μ1 hk S1 F1
      have e1 : wB fm Y (2 * k) = 1 := by rw [wB_lead (by omega)]; omega
      have e2 : wB fm Y (2 * k + 1) = 0 := by rw [wB_lead (by omega)]; omega
      refine u_X6_write_26 (br_f (nI_ge (b := 8) (by omega) (by decide)) ?_)
      rw [nI_1]
      have a := c_pushBit (Γ := Γ) (Q := fun μ2 => cwv Γ M_X6_pushBit [aR 6 0, aI 0] μ2 (fun μ3 => aw Γ M_X6_write 26 [aR 6 0, aR 4 1, aI (nI T), aI (nI S), aR 24 88, aI (nI (k + 1))] [] μ3 (rI Q))) (by omega) o2 rfl (wB_le fm Y _) (by omega) S1 (fun μ2 S2 F2 _ => by
        have b := c_pushBit (Γ := Γ) (Q := fun μ3 => aw Γ M_X6_write 26 [aR 6 0, aR 4 1, aI (nI T), aI (nI S), aR 24 88, aI (nI (k + 1))] [] μ3 (rI Q)) (by omega) o2 rfl (wB_le fm Y _) (by omega) S2 (fun μ3 S3 F3 _ => ih (k + 1) μ3 (by omega) S3 (Fr_tr F1 (Fr_tr F2 F3)))
        rw [e2] at b
        exact b)
      rw [e1] at a
      exact a
  exact lpL 8 0 _ rfl S0 F0
end PWR
