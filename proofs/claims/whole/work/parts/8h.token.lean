/-! TOKENS -/
theorem shlL (v : Nat) : lN v <<< ((8 : Int32).toInt64 &&& 63) = lN (256 * v) := by
  have e : ((8 : Int32).toInt64 &&& 63) = (8 : Int64) := by decide
  rw [e]
  apply Int64.toBitVec_inj.mp
  rw [Int64.toBitVec_shiftLeft]
  have e2 : (Int64.toBitVec 8).smod 64 = (8 : BitVec 64) := by decide
  rw [e2]
  show BitVec.ofNat 64 v <<< (8 : BitVec 64) = BitVec.ofNat 64 (256 * v)
  apply BitVec.eq_of_toNat_eq
  simp [BitVec.toNat_shiftLeft, Nat.shiftLeft_eq]
  omega
def blk (b : Nat) : Bool := decide (b = 32) || decide (b = 10)
def ckn (b : Nat) : Nat := if 97 ≤ b ∧ b ≤ 122 then 0 else if 48 ≤ b ∧ b ≤ 57 then 1 else if b = 59 then 2 else 4
def kp (n : Nat) (t : Nat → Nat) (a : Nat) : Nat := if a < n then ckn (t a) else 3
def skd (n : Nat) (t : Nat → Nat) (a : Nat) : Nat := fa_first (fun d => !(decide (a + d < n) && blk (t (a + d)))) (n + 1)
def tS0 (n : Nat) (t : Nat → Nat) (a : Nat) : Nat := a + skd n t a
def tKi (n : Nat) (t : Nat → Nat) (a : Nat) : Nat := kp n t (tS0 n t a)
def tLd (n : Nat) (t : Nat → Nat) (a : Nat) : Nat := fa_first (fun d => decide (kp n t (tS0 n t a + d) ≠ tKi n t a)) (n + 1)
def tLn (n : Nat) (t : Nat → Nat) (a : Nat) : Nat := if tKi n t a = 3 then 0 else if tKi n t a = 0 ∨ tKi n t a = 1 then tLd n t a else 1
def tEn (n : Nat) (t : Nat → Nat) (a : Nat) : Nat := tS0 n t a + tLn n t a
def nvc (t : Nat → Nat) (s : Nat) : Nat → Nat
  | 0 => 0
  | d + 1 => min (nvc t s d * 10 + t (s + d) - 48) 1000000
def nvm (t : Nat → Nat) (s : Nat) : Nat → Nat
  | 0 => 0
  | d + 1 => if nvm t s d ≤ 99999 then 10 * nvm t s d + t (s + d) - 48 else nvm t s d
def pkv (f : Nat → Nat) : Nat → Nat
  | 0 => 0
  | d + 1 => 256 * pkv f d + f d
theorem ckn_0 {b : Nat} : ckn b = 0 ↔ 97 ≤ b ∧ b ≤ 122 := by
  unfold ckn
  constructor
  · intro h
    split at h
    · assumption
    · split at h
      · omega
      · split at h <;> omega
  · intro h
    rw [if_pos h]
theorem ckn_1 {b : Nat} : ckn b = 1 ↔ 48 ≤ b ∧ b ≤ 57 := by
  unfold ckn
  constructor
  · intro h
    split at h
    · omega
    · split at h
      · assumption
      · split at h <;> omega
  · intro h
    rw [if_neg (by omega), if_pos h]
theorem ckn_ne3 (b : Nat) : ckn b ≠ 3 := by
  unfold ckn
  split
  · decide
  · split
    · decide
    · split <;> decide
theorem ckn_le (b : Nat) : ckn b ≤ 4 := by
  unfold ckn
  split
  · decide
  · split
    · decide
    · split <;> decide
theorem kp_3 {n : Nat} {t : Nat → Nat} {a : Nat} : kp n t a = 3 ↔ n ≤ a := by
  unfold kp
  constructor
  · intro h
    by_cases c : a < n
    · rw [if_pos c] at h
      exact absurd h (ckn_ne3 _)
    · omega
  · intro h
    rw [if_neg (by omega)]
theorem skd_b {n : Nat} {t : Nat → Nat} {a : Nat} {d : Nat} (h : d < skd n t a) : a + d < n ∧ blk (t (a + d)) = true := by
  have := fa_first_no (fun d => !(decide (a + d < n) && blk (t (a + d)))) (n + 1) d h
  simpa using this
theorem skd_e {n : Nat} {t : Nat → Nat} {a : Nat} : ¬ (a + skd n t a < n ∧ blk (t (a + skd n t a)) = true) := by
  have hle := fa_first_le (fun d => !(decide (a + d < n) && blk (t (a + d)))) (n + 1)
  have : skd n t a < n + 1 := by
    by_cases c : skd n t a < n + 1
    · exact c
    · have := (skd_b (n := n) (t := t) (a := a) (d := n) (by unfold skd at c ⊢; omega)).1
      omega
  have y := fa_first_yes (fun d => !(decide (a + d < n) && blk (t (a + d)))) (n + 1) this
  change (!(decide (a + skd n t a < n) && blk (t (a + skd n t a)))) = true at y
  rintro ⟨a1, a2⟩
  rw [a2, decide_eq_true a1] at y
  exact absurd y (by decide)
theorem tS0_le {n : Nat} {t : Nat → Nat} {a : Nat} (h : a ≤ n) : tS0 n t a ≤ n := by
  unfold tS0
  by_cases c : skd n t a = 0
  · omega
  · have := (skd_b (n := n) (t := t) (a := a) (d := skd n t a - 1) (by omega)).1
    omega
theorem tLd_b {n : Nat} {t : Nat → Nat} {a : Nat} {d : Nat} (h : d < tLd n t a) : kp n t (tS0 n t a + d) = tKi n t a := by
  have := fa_first_no (fun d => decide (kp n t (tS0 n t a + d) ≠ tKi n t a)) (n + 1) d h
  simpa using this
theorem tLd_e {n : Nat} {t : Nat → Nat} {a : Nat} (hk : tKi n t a ≠ 3) : kp n t (tS0 n t a + tLd n t a) ≠ tKi n t a := by
  have : tLd n t a < n + 1 := by
    by_cases c : tLd n t a < n + 1
    · exact c
    · have h := tLd_b (n := n) (t := t) (a := a) (d := n) (by
        have := fa_first_le (fun d => decide (kp n t (tS0 n t a + d) ≠ tKi n t a)) (n + 1)
        unfold tLd at c ⊢
        omega)
      rw [kp_3.mpr (by omega)] at h
      exact absurd h.symm hk
  have y := fa_first_yes (fun d => decide (kp n t (tS0 n t a + d) ≠ tKi n t a)) (n + 1) this
  change decide (kp n t (tS0 n t a + tLd n t a) ≠ tKi n t a) = true at y
  simpa using y
theorem tLd_1 {n : Nat} {t : Nat → Nat} {a : Nat} (hk : tKi n t a ≠ 3) : 1 ≤ tLd n t a := by
  by_cases c : tLd n t a = 0
  · have := tLd_e hk
    rw [c] at this
    exact absurd rfl this
  · omega
theorem tLn_1 {n : Nat} {t : Nat → Nat} {a : Nat} (hk : tKi n t a ≠ 3) : 1 ≤ tLn n t a := by
  unfold tLn
  rw [if_neg hk]
  split
  · exact tLd_1 hk
  · exact Nat.le_refl _
theorem tEn_le {n : Nat} {t : Nat → Nat} {a : Nat} (h : a ≤ n) : tEn n t a ≤ n := by
  have hs := tS0_le (t := t) h
  unfold tEn tLn
  by_cases k3 : tKi n t a = 3
  · rw [if_pos k3]; omega
  · rw [if_neg k3]
    have hlt : tS0 n t a < n := by
      by_cases c : tS0 n t a < n
      · exact c
      · exact absurd (kp_3.mpr (by omega)) k3
    split
    · have h1 := tLd_1 k3
      have h2 := tLd_b (n := n) (t := t) (a := a) (d := tLd n t a - 1) (by omega)
      by_cases c : tS0 n t a + (tLd n t a - 1) < n
      · omega
      · rw [kp_3.mpr (by omega)] at h2
        exact absurd h2.symm k3
    · omega
theorem tEn_ge {n : Nat} {t : Nat → Nat} {a : Nat} : a ≤ tEn n t a := by unfold tEn tS0; omega
theorem nvc_le (t : Nat → Nat) (s : Nat) : ∀ d, nvc t s d ≤ 1000000
  | 0 => by show 0 ≤ _; decide
  | d + 1 => by show min _ _ ≤ _; omega
theorem nvm_le {t : Nat → Nat} {s : Nat} : ∀ d, (∀ i, i < d → t (s + i) ≤ 57) → nvm t s d ≤ 999999
  | 0, _ => by show 0 ≤ _; decide
  | d + 1, h => by
    have h1 := nvm_le d (fun i hi => h i (by omega))
    have h2 := h d (by omega)
    unfold nvm
    split <;> omega
theorem nv_rel {t : Nat → Nat} {s : Nat} : ∀ d, (∀ i, i < d → 48 ≤ t (s + i) ∧ t (s + i) ≤ 57) → (nvc t s d = nvm t s d ∧ nvm t s d ≤ 99999) ∨ (99999 < nvc t s d ∧ 99999 < nvm t s d)
  | 0, _ => Or.inl ⟨rfl, by show 0 ≤ _; decide⟩
  | d + 1, h => by
    have ih := nv_rel d (fun i hi => h i (by omega))
    obtain ⟨h1, h2⟩ := h d (by omega)
    have e1 : nvc t s (d + 1) = min (nvc t s d * 10 + t (s + d) - 48) 1000000 := rfl
    have e2 : nvm t s (d + 1) = if nvm t s d ≤ 99999 then 10 * nvm t s d + t (s + d) - 48 else nvm t s d := rfl
    rw [e1, e2]
    rcases ih with ⟨a, b⟩ | ⟨a, b⟩
    · rw [if_pos b, a]
      by_cases c : 10 * nvm t s d + t (s + d) - 48 ≤ 99999
      · left; omega
      · right; omega
    · rw [if_neg (by omega)]
      right; omega
def TKC (n : Nat) (t : Nat → Nat) (p : Nat) (μ : mH) : Prop := μ 2 0 2 = nI (tKi n t p) ∧ μ 2 0 3 = nI (tS0 n t p) ∧ μ 2 0 4 = nI (tEn n t p) ∧ (tKi n t p = 1 → μ 2 0 5 = nI (nvc t (tS0 n t p) (tLn n t p)))
section PTK
variable {Γ : cx_T}
theorem s_kindAt {n a : Nat} {t : Nat → Nat} {μ : mH} {Q : Int32 → mH → Prop} (hT : TXC n t μ) (ha : a ≤ 200) (kk : Q (nI (kp n t a)) μ) : cwi Γ M_X2_kindAt [aR 2 0, aI (nI a)] μ Q := by
  obtain ⟨h1, h2, h3⟩ := hT
  refine u_X2_kindAt ?_
  rw [h2]
  unfold kp at kk
  refine ⟨fun z => absurd z (nI_pos (by omega)), fun _ => pk_lt a n (fun c => ?_) (fun c => by rw [if_neg (by omega)] at kk; exact kk)⟩
  obtain ⟨b1, b2⟩ := h3 a c
  rw [if_pos c] at kk
  rw [tn_nI (by omega), b2]
  unfold ckn at kk
  have rest : ¬ (97 ≤ t a ∧ t a ≤ 122) → aw Γ M_X2_kindAt 35 [aX, aX, aI (nI (t a))] [] μ (rI Q) := fun no => by
    rw [if_neg no] at kk
    have sem : ¬ (48 ≤ t a ∧ t a ≤ 57) → (¬ nI (t a) = 59 → Q 4 μ) ∧ (nI (t a) = 59 → Q 2 μ) := fun no2 => by
      rw [if_neg no2] at kk
      refine ⟨fun z => ?_, fun z => ?_⟩
      · rw [if_neg (fun y => z (by rw [y]; rfl))] at kk; exact kk
      · rw [if_pos ((nI_eq (b := 59) (by omega) (by decide)).mp z)] at kk; exact kk
    refine u_X2_kindAt_35 (pk_lt (t a) 48 (fun q => sem (by omega)) (fun q => pk_lt 57 (t a) (fun q2 => sem (by omega)) (fun q2 => ?_)))
    rw [if_pos ⟨q, q2⟩] at kk
    exact kk
  refine ⟨vp_in_nI (by omega) (by decide), pk_lt (t a) 97 (fun q => rest (by omega)) (fun q => pk_lt 122 (t a) (fun q2 => rest (by omega)) (fun q2 => ?_))⟩
  rw [if_pos ⟨q, q2⟩] at kk
  exact kk
theorem TXC_s {n : Nat} {t : Nat → Nat} {μ : mH} {s : Nat} {x : Int32} (h : TXC n t μ) (hs : 1 ≠ s) : TXC n t (sto μ 2 0 s x) := ⟨h.1, by rw [sto_s hs]; exact h.2.1, fun j hj => by rw [sto_K (by decide)]; exact h.2.2 j hj⟩
theorem c_step {n p : Nat} {t : Nat → Nat} {μ : mH} {Q : mH → Prop} (hT : TXC n t μ) (hp : p ≤ n) (h4 : μ 2 0 4 = nI p) (kk : ∀ μ', TKC n t p μ' → TXC n t μ' → Fr [2] μ μ' → μ' 2 0 6 = μ 2 0 6 → μ' 2 0 7 = μ 2 0 7 → Q μ') : cwv Γ M_X2_step [aR 2 0] μ Q := by
  have hn := hT.1
  have hs := tS0_le (t := t) hp
  have he := tEn_le (t := t) hp
  -- the token itself
  have tk : ∀ (μ1 : mH), TXC n t μ1 → Fr [2] μ μ1 → μ1 2 0 6 = μ 2 0 6 → μ1 2 0 7 = μ 2 0 7 → μ1 2 0 4 = nI (tS0 n t p) → aw Γ M_X2_step 52 [aR 2 0] [] μ1 (rV Q) := by
    intro μ1 T1 F1 g6 g7 g4
    refine u_X2_step_52 ?_
    rw [g4]
    refine s_kindAt (TXC_s T1 (by decide)) (by omega) ?_
    have fin : ∀ (μ2 : mH), TXC n t μ2 → Fr [2] μ μ2 → μ2 2 0 6 = μ 2 0 6 → μ2 2 0 7 = μ 2 0 7 → μ2 2 0 2 = nI (tKi n t p) → μ2 2 0 3 = nI (tS0 n t p) → μ2 2 0 4 = nI (tS0 n t p + tLn n t p) → (tKi n t p = 1 → μ2 2 0 5 = nI (nvc t (tS0 n t p) (tLn n t p))) → Q μ2 := fun μ2 T2 F2 e6 e7 e2 e3 e4 e5 => kk μ2 ⟨e2, e3, e4, e5⟩ T2 F2 e6 e7
    have k4 : tKi n t p ≤ 4 := by
      unfold tKi kp
      split
      · exact ckn_le _
      · decide
    have lp : ∀ e d (μ2 : mH), d + e = tLn n t p → TXC n t μ2 → Fr [2] μ μ2 → μ2 2 0 6 = μ 2 0 6 → μ2 2 0 7 = μ 2 0 7 → μ2 2 0 2 = nI (tKi n t p) → μ2 2 0 3 = nI (tS0 n t p) → μ2 2 0 4 = nI (tS0 n t p + d) → (tKi n t p = 1 → μ2 2 0 5 = nI (nvc t (tS0 n t p) d)) → aw Γ M_X2_step 77 [aR 2 0] [] μ2 (rV Q) := by
      intro e
      induction e with
      | zero =>
        intro d μ2 hd T2 F2 e6 e7 e2 e3 e4 e5
        obtain rfl : d = tLn n t p := by omega
        have q := fin μ2 T2 F2 e6 e7 e2 e3 e4 e5
        refine u_X2_step_77 ⟨fun _ => q, fun z => ⟨fun y => ?_, fun y => ?_⟩⟩
        · exfalso
          rw [T2.2.1, e4] at z
          rw [e4, e3] at y
          have y := (nI_eq (by unfold tEn at he; omega) (by omega)).mp y
          have k3 : tKi n t p = 3 := by
            by_cases c : tKi n t p = 3
            · exact c
            · have := tLn_1 c; omega
          have := kp_3.mp (show kp n t (tS0 n t p) = 3 from k3)
          exact z (nI_le (by omega) (by unfold tEn at he; omega))
        · refine u_X2_isLong ?_
          rw [e2]
          have lng : (tKi n t p = 0 ∨ tKi n t p = 1) → cwi Γ M_X2_kindAt [aR 2 0, aI (μ2 2 0 4)] μ2 (fun r4 μ3 => (¬ r4 = μ3 2 0 2 → Q μ3) ∧ (r4 = μ3 2 0 2 → aw Γ M_X2_step 121 [aR 2 0] [] μ3 (rV Q))) := fun hl => by
            rw [e4]
            refine s_kindAt T2 (by unfold tEn at he; omega) ⟨fun _ => q, fun w => ?_⟩
            exfalso
            rw [e2] at w
            have hle : kp n t (tS0 n t p + tLn n t p) ≤ 4 := by
              unfold kp
              split
              · exact ckn_le _
              · decide
            have w := (nI_eq (by omega) (by omega)).mp w
            have k3 : tKi n t p ≠ 3 := by omega
            have := tLd_e k3
            unfold tLn at w
            rw [if_neg k3, if_pos hl] at w
            exact this w
          refine pk_eq (tKi n t p) 0 (fun c => ⟨fun z => absurd z (by decide), fun _ => lng (Or.inl c)⟩) (fun c => ⟨fun _ => ⟨fun _ => q, fun z => absurd rfl z⟩, fun w => ⟨fun z => absurd z (by decide), fun _ => lng (Or.inr ((nI_eq (b := 1) (by omega) (by decide)).mp w))⟩⟩)
      | succ e ih =>
        intro d μ2 hd T2 F2 e6 e7 e2 e3 e4 e5
        have hlt : tS0 n t p + d < n := by unfold tEn at he; omega
        have k3 : tKi n t p ≠ 3 := fun c => by
          unfold tLn at hd
          rw [if_pos c] at hd
          omega
        have body : aw Γ M_X2_step 121 [aR 2 0] [] μ2 (rV Q) := by
          refine u_X2_step_121 ?_
          rw [e2, e4, nI_1, tn_nI (by omega)]
          refine ⟨fun z => ih (d + 1) _ (by omega) (TXC_s T2 (by decide)) (Fr_st2 F2 (by decide)) (by rw [sto_s (by decide)]; exact e6) (by rw [sto_s (by decide)]; exact e7) (by rw [sto_s (by decide)]; exact e2) (by rw [sto_s (by decide)]; exact e3) sto_eq (fun c => absurd (by rw [c]; rfl) z), fun z => ⟨vp_in_nI (by omega) (by decide), s_min ?_⟩⟩
          have k1 := (nI_eq (b := 1) (by omega) (by decide)).mp z
          obtain ⟨b1, b2⟩ := T2.2.2 (tS0 n t p + d) hlt
          have dg : 48 ≤ t (tS0 n t p + d) := by
            have hb : d < tLd n t p := by
              unfold tLn at hd
              rw [if_neg k3, if_pos (Or.inr k1)] at hd
              omega
            have := tLd_b hb
            rw [k1] at this
            unfold kp at this
            rw [if_pos hlt] at this
            exact (ckn_1.mp this).1
          have nl := nvc_le t (tS0 n t p) d
          have ev : smn (μ2 2 0 5 * 10 + μ2 20 0 (tS0 n t p + d) - 48) 1000000 = nI (nvc t (tS0 n t p) (d + 1)) := by
            rw [e5 k1, b2, show nI (nvc t (tS0 n t p) d) * (10 : Int32) = nI (nvc t (tS0 n t p) d * 10) from pk_mul _ 10, nI_add, show nI (nvc t (tS0 n t p) d * 10 + t (tS0 n t p + d)) - (48 : Int32) = nI (nvc t (tS0 n t p) d * 10 + t (tS0 n t p + d) - 48) from pk_sub (b := 48) (by omega)]
            show (if nI 1000000 < nI _ then nI 1000000 else nI _) = nI (min _ _)
            by_cases c : 1000000 < nvc t (tS0 n t p) d * 10 + t (tS0 n t p + d) - 48
            · rw [if_pos (nI_lt c (by omega))]; congr 1; omega
            · rw [if_neg (nI_nlt (by omega) (by decide))]; congr 1; omega
          rw [ev, e4, nI_1]
          exact ih (d + 1) _ (by omega) (TXC_s (TXC_s T2 (by decide)) (by decide)) (Fr_st2 (Fr_st2 F2 (by decide)) (by decide)) (by rw [sto_s (by decide), sto_s (by decide)]; exact e6) (by rw [sto_s (by decide), sto_s (by decide)]; exact e7) (by rw [sto_s (by decide), sto_s (by decide)]; exact e2) (by rw [sto_s (by decide), sto_s (by decide)]; exact e3) sto_eq (fun _ => by rw [sto_s (by decide), sto_eq])
        refine u_X2_step_77 ?_
        rw [T2.2.1, e4, e3]
        refine br_f (nI_ge hlt (by omega)) ⟨fun _ => body, fun z => ?_⟩
        have d0 : d ≠ 0 := fun y => z (by rw [y]; rfl)
        have hl : tKi n t p = 0 ∨ tKi n t p = 1 := by
          by_cases c : tKi n t p = 0 ∨ tKi n t p = 1
          · exact c
          · unfold tLn at hd
            rw [if_neg k3, if_neg c] at hd
            omega
        have hb : d < tLd n t p := by
          unfold tLn at hd
          rw [if_neg k3, if_pos hl] at hd
          omega
        have cont : cwi Γ M_X2_kindAt [aR 2 0, aI (μ2 2 0 4)] μ2 (fun r4 μ3 => (¬ r4 = μ3 2 0 2 → Q μ3) ∧ (r4 = μ3 2 0 2 → aw Γ M_X2_step 121 [aR 2 0] [] μ3 (rV Q))) := by
          rw [e4]
          refine s_kindAt T2 (by omega) ⟨fun w => absurd (by rw [e2, tLd_b hb]) w, fun _ => body⟩
        refine u_X2_isLong ?_
        rw [e2]
        refine pk_eq (tKi n t p) 0 (fun c => ⟨fun z => absurd z (by decide), fun _ => cont⟩) (fun c => ⟨fun w => ?_, fun w => ⟨fun z => absurd z (by decide), fun _ => cont⟩⟩)
        exact absurd (show nI (tKi n t p) = 1 by rw [show tKi n t p = 1 by omega]; rfl) w
    refine lp (tLn n t p) 0 _ (Nat.zero_add _) (TXC_s (TXC_s (TXC_s T1 (by decide)) (by decide)) (by decide)) (Fr_st2 (Fr_st2 (Fr_st2 F1 (by decide)) (by decide)) (by decide)) ?_ ?_ ?_ ?_ ?_ (fun _ => sto_eq)
    · rw [sto_s (by decide), sto_s (by decide), sto_s (by decide)]; exact g6
    · rw [sto_s (by decide), sto_s (by decide), sto_s (by decide)]; exact g7
    · rw [sto_s (by decide), sto_eq]; rfl
    · rw [sto_s (by decide), sto_s (by decide), sto_eq]
    · rw [sto_s (by decide), sto_s (by decide), sto_s (by decide)]; exact g4
  -- the blanks
  have bl : ∀ e d (μ1 : mH), d + e = skd n t p → TXC n t μ1 → Fr [2] μ μ1 → μ1 2 0 6 = μ 2 0 6 → μ1 2 0 7 = μ 2 0 7 → μ1 2 0 4 = nI (p + d) → ((μ1 2 0 1 ≤ μ1 2 0 4 → aw Γ M_X2_step 52 [aR 2 0] [] μ1 (rV Q)) ∧ (¬ μ1 2 0 1 ≤ μ1 2 0 4 → (vp_in (μ1 2 0 4) 200 ∧ ((μ1 20 0 (tn (μ1 2 0 4)) = 32 → aw Γ M_X2_step 0 [aR 2 0] [] (sto μ1 2 0 4 (μ1 2 0 4 + 1)) (rV Q)) ∧ (¬ μ1 20 0 (tn (μ1 2 0 4)) = 32 → (vp_in (μ1 2 0 4) 200 ∧ ((¬ μ1 20 0 (tn (μ1 2 0 4)) = 10 → aw Γ M_X2_step 52 [aR 2 0] [] μ1 (rV Q)) ∧ (μ1 20 0 (tn (μ1 2 0 4)) = 10 → aw Γ M_X2_step 0 [aR 2 0] [] (sto μ1 2 0 4 (μ1 2 0 4 + 1)) (rV Q))))))))) := by
    intro e
    induction e with
    | zero =>
      intro d μ1 hd T1 F1 g6 g7 g4
      obtain rfl : d = skd n t p := by omega
      have go := tk μ1 T1 F1 g6 g7 g4
      have ne := skd_e (n := n) (t := t) (a := p)
      unfold tS0 at hs
      rw [T1.2.1, g4]
      refine pk_le n (p + skd n t p) (fun _ => go) (fun c => ?_)
      obtain ⟨b1, b2⟩ := T1.2.2 (p + skd n t p) c
      rw [tn_nI (by omega), b2]
      have nb : blk (t (p + skd n t p)) ≠ true := fun y => ne ⟨c, y⟩
      simp [blk] at nb
      refine ⟨vp_in_nI (by omega) (by decide), fun z => absurd ((nI_eq (b := 32) (by omega) (by decide)).mp z) nb.1, fun _ => ⟨vp_in_nI (by omega) (by decide), fun _ => go, fun z => absurd ((nI_eq (b := 10) (by omega) (by decide)).mp z) nb.2⟩⟩
    | succ e ih =>
      intro d μ1 hd T1 F1 g6 g7 g4
      obtain ⟨c, hb⟩ := skd_b (n := n) (t := t) (a := p) (d := d) (by omega)
      obtain ⟨b1, b2⟩ := T1.2.2 (p + d) c
      have nx := ih (d + 1) (sto μ1 2 0 4 (nI (p + d + 1))) (by omega) (TXC_s T1 (by decide)) (Fr_st2 F1 (by decide)) (by rw [sto_s (by decide)]; exact g6) (by rw [sto_s (by decide)]; exact g7) sto_eq
      have go := u_X2_step_0 (Γ := Γ) nx
      rw [T1.2.1, g4, tn_nI (by omega), b2, nI_1]
      refine br_f (nI_ge c (by omega)) ⟨vp_in_nI (by omega) (by decide), fun _ => go, fun z => ⟨vp_in_nI (by omega) (by decide), fun y => ?_, fun _ => go⟩⟩
      exfalso
      simp [blk] at hb
      rcases hb with w | w
      · exact z (by rw [w]; rfl)
      · exact y (by rw [w]; rfl)
  exact u_X2_step (bl (skd n t p) 0 μ (Nat.zero_add _) hT Fr_rf rfl rfl h4)
end PTK
