/-! the FORMAT's text, line by line -/
theorem pkv_eq {f g : Nat → Nat} : ∀ L, (∀ i, i < L → f i < 256) → (∀ i, i < L → g i < 256) → (pkv f L = pkv g L ↔ ∀ i, i < L → f i = g i)
  | 0, _, _ => ⟨fun _ i hi => absurd hi (by omega), fun _ => rfl⟩
  | L + 1, hf, hg => by
    have ih := pkv_eq L (fun i hi => hf i (by omega)) (fun i hi => hg i (by omega))
    have a := hf L (by omega)
    have b := hg L (by omega)
    have e : pkv f (L + 1) = 256 * pkv f L + f L := rfl
    have e2 : pkv g (L + 1) = 256 * pkv g L + g L := rfl
    rw [e, e2]
    constructor
    · intro h i hi
      by_cases z : i = L
      · subst z; omega
      · exact ih.mp (by omega) i (by omega)
    · intro h
      rw [ih.mpr (fun i hi => h i (by omega)), h L (by omega)]
theorem pkv_lo {f : Nat → Nat} : ∀ L, (∀ i, i < L + 1 → 1 ≤ f i) → 256 ^ L ≤ pkv f (L + 1)
  | 0, h => by
    have := h 0 (by omega)
    show 256 ^ 0 ≤ 256 * 0 + f 0
    omega
  | L + 1, h => by
    have ih := pkv_lo L (fun i hi => h i (by omega))
    show 256 ^ (L + 1) ≤ 256 * pkv f (L + 1) + f (L + 1)
    rw [Nat.pow_succ]
    omega
theorem pkv_hi {f : Nat → Nat} : ∀ L, (∀ i, i < L → f i ≤ 126) → 2 * pkv f L < 256 ^ L
  | 0, _ => by show 2 * 0 < 256 ^ 0; decide
  | L + 1, h => by
    have ih := pkv_hi L (fun i hi => h i (by omega))
    have := h L (by omega)
    show 2 * (256 * pkv f L + f L) < 256 ^ (L + 1)
    rw [Nat.pow_succ]
    omega
theorem pkv_len {f g : Nat → Nat} {L M : Nat} (hf : ∀ i, i < L → 1 ≤ f i ∧ f i ≤ 126) (hg : ∀ i, i < M → 1 ≤ g i ∧ g i ≤ 126) (e : pkv f L = pkv g M) : L = M := by
  rcases Nat.lt_trichotomy L M with c | c | c
  · exfalso
    have a := pkv_hi L (fun i hi => (hf i hi).2)
    have b := pkv_lo (f := g) (M - 1) (fun i hi => (hg i (by omega)).1)
    rw [show M - 1 + 1 = M by omega] at b
    have p : 256 ^ L ≤ 256 ^ (M - 1) := Nat.pow_le_pow_right (by decide) (by omega)
    omega
  · exact c
  · exfalso
    have a := pkv_hi M (fun i hi => (hg i hi).2)
    have b := pkv_lo (f := f) (L - 1) (fun i hi => (hf i (by omega)).1)
    rw [show L - 1 + 1 = L by omega] at b
    have p : 256 ^ M ≤ 256 ^ (L - 1) := Nat.pow_le_pow_right (by decide) (by omega)
    omega
def wrd (n : Nat) (t : Nat → Nat) (p k : Nat) : Bool := decide (tKi n t p = 0) && (decide (tLn n t p = wl k) && decide (pkv (fun i => t (tS0 n t p + i)) (wl k) = pkv (wby k) (wl k)))
abbrev pR : Type := Nat ⊕ (Nat × (Nat → Option Nat))
def upo (g : Nat → Option Nat) (i v : Nat) : Nat → Option Nat := fun k => if k = i then some v else g k
theorem upo_eq (g : Nat → Option Nat) (i v : Nat) : upo g i v i = some v := if_pos rfl
theorem upo_ne (g : Nat → Option Nat) {i v k : Nat} (h : k ≠ i) : upo g i v k = g k := if_neg h
def tVa (n : Nat) (t : Nat → Nat) (p : Nat) : Nat := nvm t (tS0 n t p) (tLn n t p)
def nuc (n : Nat) (t : Nat → Nat) (p lo hi : Nat) : Bool := decide (tKi n t p = 1) && (decide (lo ≤ tVa n t p) && decide (tVa n t p ≤ hi))
def stpK (n : Nat) (t : Nat → Nat) (p : Nat) (g : Nat → Option Nat) : pR := if tKi n t p = 2 then .inr (tEn n t p, g) else .inl (tS0 n t p)
def num1 (n : Nat) (t : Nat → Nat) (p lo hi i : Nat) (g : Nat → Option Nat) : pR := if nuc n t p lo hi then stpK n t (tEn n t p) (upo g i (tVa n t p)) else .inl (tS0 n t p)
def num2 (n : Nat) (t : Nat → Nat) (p hi i j : Nat) (g : Nat → Option Nat) : pR := if nuc n t p 0 hi then (if nuc n t (tEn n t p) 0 hi then stpK n t (tEn n t (tEn n t p)) (upo (upo g i (tVa n t p)) j (tVa n t (tEn n t p))) else .inl (tS0 n t (tEn n t p))) else .inl (tS0 n t p)
def sumK (n : Nat) (t : Nat → Nat) (p : Nat) (g : Nat → Option Nat) : pR := if wrd n t p 8 then num2 n t (tEn n t p) 65535 6 7 (upo g 5 1) else if wrd n t p 6 then stpK n t (tEn n t p) (upo g 5 2) else if wrd n t p 7 then stpK n t (tEn n t p) (upo g 5 3) else .inl (tS0 n t p)
def linF (n : Nat) (t : Nat → Nat) (p : Nat) (g : Nat → Option Nat) : pR :=
  if wrd n t p 0 then (if (g 0).isSome then .inl (tS0 n t p) else num1 n t (tEn n t p) 8 60 0 g)
  else if wrd n t p 1 then (if (g 1).isSome then .inl (tS0 n t p) else num1 n t (tEn n t p) 0 8 1 g)
  else if wrd n t p 2 then (if (g 2).isSome then .inl (tS0 n t p) else num2 n t (tEn n t p) 255 2 3 g)
  else if wrd n t p 3 then (if (g 4).isSome then .inl (tS0 n t p) else num1 n t (tEn n t p) 1 8 4 g)
  else if wrd n t p 4 then (if (g 5).isSome then .inl (tS0 n t p) else sumK n t (tEn n t p) g)
  else if wrd n t p 5 then (if (g 8).isSome then .inl (tS0 n t p) else stpK n t (tEn n t p) (upo g 8 1))
  else .inl (tS0 n t p)
def psr (n : Nat) (t : Nat → Nat) : Nat → Nat → (Nat → Option Nat) → (Nat ⊕ (Nat → Option Nat))
  | 0, _, _ => .inl 0
  | F + 1, p, g => if tKi n t p = 3 then (if (g 0).isSome && ((g 2).isSome && ((g 4).isSome && (g 5).isSome)) then .inr g else .inl (tS0 n t p)) else match linF n t p g with
    | .inl x => .inl x
    | .inr q => psr n t F q.1 q.2
theorem stpK_ok {n : Nat} {t : Nat → Nat} {p : Nat} {g : Nat → Option Nat} {q : Nat × (Nat → Option Nat)} (h : stpK n t p g = .inr q) : p ≤ q.1 := by
  unfold stpK at h
  split at h
  · injection h with h
    rw [← h]
    exact tEn_ge
  · cases h
theorem num1_ok {n : Nat} {t : Nat → Nat} {p lo hi i : Nat} {g : Nat → Option Nat} {q : Nat × (Nat → Option Nat)} (h : num1 n t p lo hi i g = .inr q) : p ≤ q.1 := by
  unfold num1 at h
  split at h
  · exact Nat.le_trans tEn_ge (stpK_ok h)
  · cases h
theorem num2_ok {n : Nat} {t : Nat → Nat} {p hi i j : Nat} {g : Nat → Option Nat} {q : Nat × (Nat → Option Nat)} (h : num2 n t p hi i j g = .inr q) : p ≤ q.1 := by
  unfold num2 at h
  split at h
  · split at h
    · exact Nat.le_trans tEn_ge (Nat.le_trans tEn_ge (stpK_ok h))
    · cases h
  · cases h
theorem sumK_ok {n : Nat} {t : Nat → Nat} {p : Nat} {g : Nat → Option Nat} {q : Nat × (Nat → Option Nat)} (h : sumK n t p g = .inr q) : p ≤ q.1 := by
  unfold sumK at h
  split at h
  · exact Nat.le_trans tEn_ge (num2_ok h)
  · split at h
    · exact Nat.le_trans tEn_ge (stpK_ok h)
    · split at h
      · exact Nat.le_trans tEn_ge (stpK_ok h)
      · cases h
theorem linF_ok {n : Nat} {t : Nat → Nat} {p : Nat} {g : Nat → Option Nat} {q : Nat × (Nat → Option Nat)} (h : linF n t p g = .inr q) : tEn n t p ≤ q.1 := by
  unfold linF at h
  split at h
  · split at h
    · cases h
    · exact num1_ok h
  · split at h
    · split at h
      · cases h
      · exact num1_ok h
    · split at h
      · split at h
        · cases h
        · exact num2_ok h
      · split at h
        · split at h
          · cases h
          · exact num1_ok h
        · split at h
          · split at h
            · cases h
            · exact sumK_ok h
          · split at h
            · split at h
              · cases h
              · exact stpK_ok h
            · cases h
section PPA
variable {Γ : cx_T}
theorem c_isWord {n p k : Nat} {t : Nat → Nat} {μ : mH} {Q : Int32 → mH → Prop} (hk : k < 9) (hT : TXC n t μ) (hp : p ≤ n) (hK : TKC n t p μ) (k1 : wrd n t p k = true → Q 1 μ) (k0 : wrd n t p k = false → Q 0 μ) : cwi Γ M_X2_isWord [aR 2 0, aR 63 k] μ Q := by
  have hn := hT.1
  have he := tEn_le (t := t) hp
  have w4 := wl_le k hk
  obtain ⟨a2, a3, a4, _⟩ := hK
  have k4 : tKi n t p ≤ 4 := by
    unfold tKi kp
    split
    · exact ckn_le _
    · decide
  refine u_X2_isWord ?_
  rw [a2, a3, a4]
  unfold tEn at he ⊢
  rw [pk_sub (by omega), show tS0 n t p + tLn n t p - tS0 n t p = tLn n t p by omega]
  refine ⟨fun z => k0 ?_, fun z => s_length hk ⟨fun y => ?_, fun y => k0 ?_⟩⟩
  · unfold wrd
    rw [show decide (tKi n t p = 0) = false by simp; exact fun w => z (by rw [w]; rfl)]
    rfl
  · have z := (nI_eq (b := 0) (by omega) (by decide)).mp z
    have y := (nI_eq (by omega) (by omega)).mp y
    have ew : wrd n t p k = decide (pkv (fun i => t (tS0 n t p + i)) (wl k) = pkv (wby k) (wl k)) := by
      unfold wrd
      rw [z, y]
      simp
    have pe := pkv_eq (f := fun i => t (tS0 n t p + i)) (g := wby k) (wl k) (fun i hi => (hT.2.2 _ (by omega)).1) (fun i hi => by have := wby_r k hk i hi; omega)
    rw [ew] at k1 k0
    have lp : ∀ e i, i + e = wl k → (∀ j, j < i → t (tS0 n t p + j) = wby k j) → aw Γ M_X2_isWord 27 [aR 2 0, aR 63 k, aI (nI i)] [] μ (rI Q) := by
      intro e
      induction e with
      | zero =>
        intro i hi hj
        obtain rfl : i = wl k := by omega
        refine u_X2_isWord_27 (s_length hk (br_t (nI_le (Nat.le_refl _) (by omega)) (k1 ?_)))
        rw [decide_eq_true_eq]
        exact pe.mpr hj
      | succ e ih =>
        intro i hi hj
        obtain ⟨b1, b2⟩ := hT.2.2 (tS0 n t p + i) (by omega)
        obtain ⟨c1, c2⟩ := wby_r k hk i (by omega)
        refine u_X2_isWord_27 (s_length hk (br_f (nI_ge (by omega) (by omega)) ?_))
        rw [hT.2.1, a3, nI_add]
        refine br_f (nI_ge (by omega) (by omega)) ⟨vp_in_nI (by omega) (by decide), s_charAt hk (by omega) ?_⟩
        rw [tn_nI (by omega), b2, nI_1]
        refine ⟨fun w => ih (i + 1) (by omega) (fun j hj' => ?_), fun w => k0 ?_⟩
        · by_cases q : j = i
          · subst q; exact (nI_eq (by omega) (by omega)).mp w
          · exact hj j (by omega)
        · rw [decide_eq_false_iff_not]
          exact fun q => w (by rw [pe.mp q i (by omega)])
    exact lp (wl k) 0 (Nat.zero_add _) (fun j hj => absurd hj (by omega))
  · unfold wrd
    rw [show decide (tLn n t p = wl k) = false by simp; exact fun w => y (by rw [w])]
    simp
theorem m_packed {k : Nat} {μ : mH} {Q : Int64 → mH → Prop} (hk : k < 9) (kk : Q (lN (pkv (wby k) (wl k))) μ) : cwl Γ M_X12_packed [aR 63 k] μ Q := by
  have w4 := wl_le k hk
  have lp : ∀ e i, i + e = wl k → aw Γ M_X12_packed 4 [aR 63 k, aL (lN (pkv (wby k) i)), aX, aI (nI i)] [] μ (rL Q) := by
    intro e
    induction e with
    | zero =>
      intro i hi
      obtain rfl : i = wl k := by omega
      exact u_X12_packed_4 (s_length hk (br_t (nI_le (Nat.le_refl _) (by omega)) kk))
    | succ e ih =>
      intro i hi
      have c := wby_r k hk i (by omega)
      refine u_X12_packed_4 (s_length hk (br_f (nI_ge (by omega) (by omega)) (s_charAt hk (by omega) ?_)))
      have go := ih (i + 1) (by omega)
      have e1 : lN (256 * pkv (wby k) i) ||| lN (wby k i) = lN (pkv (wby k) (i + 1)) := fb_or_sumL (a := wby k i) (k := 8) _ (by omega)
      rw [shlL, nI_l (by omega), e1, nI_1]
      exact go
  exact u_X12_packed (lp (wl k) 0 (Nat.zero_add _))
theorem m_isWord {n p k : Nat} {t : Nat → Nat} {μ : mH} {Q : Int32 → mH → Prop} (hk : k < 9) (hT : TXM n t μ) (hp : p ≤ n) (hK : TKM n t p μ) (k1 : wrd n t p k = true → Q 1 μ) (k0 : wrd n t p k = false → Q 0 μ) : cwi Γ M_X12_isWord [aR 12 0, aR 63 k] μ Q := by
  have hn := hT.1
  have he := tEn_le (t := t) hp
  have w4 := wl_le k hk
  obtain ⟨a3, a4, a2, a5, _⟩ := hK
  have k4 : tKi n t p ≤ 4 := by
    unfold tKi kp
    split
    · exact ckn_le _
    · decide
  have m4 : mki (tKi n t p) ≤ 4 ∧ (mki (tKi n t p) = 1 ↔ tKi n t p = 0) := by
    unfold mki
    split
    · omega
    · split
      · omega
      · split
        · omega
        · split <;> omega
  refine u_X12_isWord ?_
  rw [a3]
  refine ⟨fun z => k0 ?_, fun z => m_packed hk ?_⟩
  · unfold wrd
    rw [show decide (tKi n t p = 0) = false by simp; exact fun w => z (by rw [m4.2.mpr w]; rfl)]
    rfl
  · have z := m4.2.mp ((nI_eq (b := 1) (by omega) (by decide)).mp z)
    have lt : ∀ i, i < tLn n t p → 97 ≤ t (tS0 n t p + i) ∧ t (tS0 n t p + i) ≤ 122 := fun i hi => by
      have c2 : tS0 n t p + i < n := by unfold tEn at he; omega
      have eL : tLn n t p = tLd n t p := by unfold tLn; rw [if_neg (by omega), if_pos (Or.inl z)]
      have lk := tLd_b (n := n) (t := t) (a := p) (d := i) (by omega)
      unfold kp at lk
      rw [if_pos c2, z] at lk
      exact ckn_0.mp lk
    have wv := pkv_hi (f := wby k) (wl k) (fun i hi => by have := wby_r k hk i hi; omega)
    have wv2 : 256 ^ wl k ≤ 256 ^ 4 := Nat.pow_le_pow_right (by decide) w4.2
    have wv3 : (256 : Nat) ^ 4 = 4294967296 := by decide
    rw [a5 z, lg_cmp_eq]
    by_cases c8 : tLn n t p ≤ 8
    · rw [if_pos c8]
      have tv := pkv_hi (f := fun i => t (tS0 n t p + i)) (tLn n t p) (fun i hi => by have := lt i hi; omega)
      have tv2 : 256 ^ tLn n t p ≤ 256 ^ 8 := Nat.pow_le_pow_right (by decide) c8
      have tv3 : (256 : Nat) ^ 8 = 2 ^ 64 := by decide
      rw [fb_lN_inj (by omega) (by omega)]
      refine ⟨fun y => k0 ?_, fun y => k1 ?_⟩
      · unfold wrd
        by_cases q : tLn n t p = wl k
        · rw [q] at y
          rw [show decide (pkv (fun i => t (tS0 n t p + i)) (wl k) = pkv (wby k) (wl k)) = false by simp; exact y]
          simp
        · simp [q]
      · have q := pkv_len (fun i hi => by have := lt i hi; omega) (fun i hi => by have := wby_r k hk i hi; omega) y
        unfold wrd
        rw [q] at y
        simp [z, q, y]
    · rw [if_neg c8]
      have pos : 256 ^ (wl k - 1) ≤ pkv (wby k) (wl k) := by
        have := pkv_lo (f := wby k) (wl k - 1) (fun i hi => by have := wby_r k hk i (by omega); omega)
        rw [show wl k - 1 + 1 = wl k by omega] at this
        exact this
      have pp : 0 < 256 ^ (wl k - 1) := Nat.pow_pos (by decide)
      rw [fb_lN_inj (by decide) (by omega)]
      refine ⟨fun _ => k0 ?_, fun y => by omega⟩
      unfold wrd
      rw [show decide (tLn n t p = wl k) = false by simp; omega]
      simp
end PPA
