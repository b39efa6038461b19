/-! the operations of the disk -/
def up (f : Nat → Nat) (c v : Nat) : Nat → Nat := fun k => if k = c then v else f k
theorem up_eq (f : Nat → Nat) (c v : Nat) : up f c v c = v := if_pos rfl
theorem up_ne (f : Nat → Nat) {c v k : Nat} (h : k ≠ c) : up f c v k = f k := if_neg h
abbrev inN (x : Int32) (n : Nat) : Prop := x = nI (tn x) ∧ tn x < n
theorem inN_of {a n : Nat} (h : a < n) (hn : n ≤ 2 ^ 31) : inN (nI a) n := by
  have := tn_nI (n := a) (by omega)
  exact ⟨by rw [this], by rw [this]; exact h⟩
theorem inN_neg {x : Int32} {n : Nat} (h : x < 0) (hn : n ≤ 2 ^ 31) : ¬ inN x n := fun q => by
  rw [q.1] at h
  exact nI_pos (by omega) h
theorem inN_no {a n : Nat} (h : n ≤ a) (ha : a < 2 ^ 31) : ¬ inN (nI a) n := fun q => by
  have := q.2
  rw [tn_nI ha] at this
  omega
section PDO
variable {Γ : cx_T}
theorem s_inN {μ : mH} {x y : Int32} {n : Nat} {Q : Int32 → mH → Prop} (hn : n < 2 ^ 31) (hy : y = nI n - 1) (k0 : ¬ inN x n → Q 0 μ) (k1 : inN x n → Q 1 μ) : cwi Γ M_X12_in [aI x, aI 0, aI y] μ Q := by
  subst hy
  refine s_in (fun h => k0 (fun q => h ?_)) (fun h1 h2 => k1 ?_)
  · rw [q.1]
    have := q.2
    refine ⟨nI_pos' (by omega), ?_⟩
    rw [show nI n - (1 : Int32) = nI (n - 1) from pk_sub (b := 1) (by omega)]
    exact nI_le (by omega) (by omega)
  · obtain ⟨k, hk, rfl⟩ := nI_of (Int32.not_lt.mpr h1)
    by_cases z : n = 0
    · subst z
      exact absurd h2 (fun q => by
        have h3 := Int32.le_iff_toInt_le.mp q
        rw [nI_toInt hk, show (nI 0 - 1 : Int32).toInt = -1 by decide] at h3
        omega)
    · rw [show nI n - (1 : Int32) = nI (n - 1) from pk_sub (b := 1) (by omega)] at h2
      have := (nI_leI hk (by omega)).mp h2
      exact inN_of (by omega) (by omega)
theorem s_rng {x : Int32} {n : Nat} {A B : Prop} (hn : n < 2 ^ 31) (k0 : ¬ inN x n → A) (k1 : inN x n → B) : (x < 0 → A) ∧ (¬ x < 0 → ((nI n ≤ x → A) ∧ (¬ nI n ≤ x → B))) := by
  refine ⟨fun h => k0 (inN_neg h (by omega)), fun h => ?_⟩
  obtain ⟨k, hk, rfl⟩ := nI_of h
  exact ⟨fun q => k0 (inN_no ((nI_leI hn hk).mp q) hk), fun q => k1 (inN_of (a := k) (Nat.lt_of_not_le (fun z => q ((nI_leI hn hk).mpr z))) (by omega))⟩
theorem s_dholds {μ : mH} {x : Int32} {n : Nat} {Q : Int32 → mH → Prop} (hn : n < 2 ^ 31) (h : μ 0 0 0 = nI n) (k0 : ¬ inN x n → Q 0 μ) (k1 : inN x n → Q 1 μ) : cwi Γ M_X0_holds [aR 0 0, aI x] μ Q := u_X0_holds (by rw [h]; exact s_rng hn k0 k1)
theorem s_sholds {μ : mH} {x : Int32} {n : Nat} {Q : Int32 → mH → Prop} (hn : n < 2 ^ 31) (h : μ 8 0 1 = nI n) (k0 : ¬ inN x n → Q 0 μ) (k1 : inN x n → Q 1 μ) : cwi Γ M_X8_holds [aR 8 0, aI x] μ Q := u_X8_holds (by rw [h]; exact s_rng hn k0 k1)
theorem s_clN {μ : mH} {x : Int32} {Q : Int32 → mH → Prop} (k0 : ¬ inN x 24 → Q 0 μ) (k1 : inN x 24 → Q 1 μ) : cwi Γ M_X11_isCluster [aI x] μ Q := u_X11_isCluster (s_rng (n := 24) (by decide) k0 k1)
theorem s_drN {μ : mH} {x : Int32} {Q : Int32 → mH → Prop} (k0 : ¬ inN x 4 → Q 0 μ) (k1 : inN x 4 → Q 1 μ) : cwi Γ M_X11_isDrive [aI x] μ Q := u_X11_isDrive (s_rng (n := 4) (by decide) k0 k1)
theorem s_mclN {μ : mH} {x : Int32} {Q : Int32 → mH → Prop} (k0 : ¬ inN x 24 → Q 0 μ) (k1 : inN x 24 → Q 1 μ) : cwi Γ M_X12_isCluster [aI x] μ Q := u_X12_isCluster (s_inN (n := 24) (by decide) rfl (fun h => ⟨Or.inl rfl, k0 h⟩) (fun h => ⟨Or.inr rfl, k1 h⟩))
/-- tell -/
def tlok (x1 x2 x3 : Int32) : Prop := inN x1 2 ∧ inN x2 24 ∧ inN x3 27
def tl0 (x1 x2 x3 : Int32) (f : Nat → Nat) : Nat → Nat := if x1 = 0 then up f (tn x2) (tn x3) else f
def tl1 (x1 x2 x3 : Int32) (f : Nat → Nat) : Nat → Nat := if x1 = 0 then f else up f (tn x2) (tn x3)
theorem c_tell {f0 f1 hd ln : Nat → Nat} {nf : Nat} {x1 x2 x3 : Int32} {μ : mH} {Q : Int32 → mH → Prop} (hD : DC f0 f1 hd ln nf μ) (k1 : tlok x1 x2 x3 → ∀ μ', DC (tl0 x1 x2 x3 f0) (tl1 x1 x2 x3 f1) hd ln nf μ' → Fr [0, 35] μ μ' → Q 1 μ') (k0 : ¬ tlok x1 x2 x3 → Q 0 μ) : cwi Γ M_X11_tell [aR 11 0, aI x1, aI x2, aI x3] μ Q := by
  obtain ⟨h0, h1, ⟨n1, n2, n3⟩, hj⟩ := hD
  refine u_X11_tell (s_rng (n := 2) (by decide) (fun h => k0 (fun q => h q.1)) (fun i1 => ?_))
  refine s_clN (fun h => ⟨fun _ => k0 (fun q => h q.2.1), fun z => absurd rfl z⟩) (fun i2 => ⟨fun z => absurd z (by decide), fun _ => ⟨fun h => k0 (fun q => inN_neg h (by decide) q.2.2), fun h => ?_⟩⟩)
  obtain ⟨v, hv, rfl⟩ := nI_of h
  refine pk_le v 26 (fun h26 => ?_) (fun h26 => k0 (fun q => inN_no (by omega) hv q.2.2))
  have ok : tlok x1 x2 (nI v) := ⟨i1, i2, inN_of (by omega) (by decide)⟩
  have k1 := k1 ok
  obtain ⟨e2, l2⟩ := i2
  refine u_X0_write (s_clN (fun h => absurd ⟨e2, l2⟩ h) (fun _ => ⟨fun _ => ?_, fun z => absurd z (by decide)⟩))
  unfold tl0 tl1 at k1
  rw [tn_nI hv] at k1
  have hin : vp_in x2 24 := by rw [e2]; exact vp_in_nI l2 (by decide)
  have e0 : ∀ i, (sto (sto μ 35 i (tn x2) (nI v)) 0 0 8 0) 0 0 0 = nI nf := fun i => by rw [sto_s (by decide), sto_K (by decide)]; exact n2
  refine ⟨fun z => ⟨hin, ?_⟩, fun z => ⟨hin, ?_⟩⟩
  · rw [if_neg z, if_neg z] at k1
    refine k1 _ ⟨fun c hc => ?_, fun c hc => ?_, ⟨n1, e0 1, fun f hf => ?_⟩, fun q => absurd sto_eq q⟩ (Fr_st2 (Fr_sto (by decide)) (by decide))
    · rw [sto_K (by decide), sto_i (by decide)]; exact h0 c hc
    · rw [sto_K (by decide)]
      by_cases y : c = tn x2
      · subst y; rw [sto_eq, up_eq]; exact ⟨h26, rfl⟩
      · rw [sto_s y, up_ne _ y]; exact h1 c hc
    · rw [sto_K (by decide), sto_K (by decide), sto_K (by decide), sto_K (by decide)]; exact n3 f hf
  · rw [if_pos z, if_pos z] at k1
    refine k1 _ ⟨fun c hc => ?_, fun c hc => ?_, ⟨n1, e0 0, fun f hf => ?_⟩, fun q => absurd sto_eq q⟩ (Fr_st2 (Fr_sto (by decide)) (by decide))
    · rw [sto_K (by decide)]
      by_cases y : c = tn x2
      · subst y; rw [sto_eq, up_eq]; exact ⟨h26, rfl⟩
      · rw [sto_s y, up_ne _ y]; exact h0 c hc
    · rw [sto_K (by decide), sto_i (by decide)]; exact h1 c hc
    · rw [sto_K (by decide), sto_K (by decide), sto_K (by decide), sto_K (by decide)]; exact n3 f hf
theorem m_tell {f0 f1 : Nat → Nat} {x1 x2 x3 : Int32} {μ : mH} {Q : Int32 → mH → Prop} (hT : TM f0 f1 μ) (k1 : tlok x1 x2 x3 → ∀ μ', TM (tl0 x1 x2 x3 f0) (tl1 x1 x2 x3 f1) μ' → Fr [47] μ μ' → Q 1 μ') (k0 : ¬ tlok x1 x2 x3 → Q 0 μ) : cwi Γ M_X12_tell [aR 12 0, aI x1, aI x2, aI x3] μ Q := by
  refine u_X12_tell (s_inN (n := 2) (by decide) rfl (fun h => ⟨fun _ => k0 (fun q => h q.1), fun z => absurd rfl z⟩) (fun i1 => ⟨fun z => absurd z (by decide), fun _ => ?_⟩))
  refine s_mclN (fun h => ⟨fun _ => k0 (fun q => h q.2.1), fun z => absurd rfl z⟩) (fun i2 => ⟨fun z => absurd z (by decide), fun _ => ?_⟩)
  refine s_inN (n := 27) (by decide) rfl (fun h => ⟨fun z => absurd rfl z, fun _ => k0 (fun q => h q.2.2)⟩) (fun i3 => ⟨fun _ => ?_, fun z => absurd z (by decide)⟩)
  have k1 := k1 ⟨i1, i2, i3⟩
  obtain ⟨e1, l1⟩ := i1
  obtain ⟨e2, l2⟩ := i2
  obtain ⟨e3, l3⟩ := i3
  have e : (24 : Int32) * x1 + x2 = nI (24 * tn x1 + tn x2) := by
    rw [e1, e2, show (24 : Int32) = nI 24 from rfl, pk_mul, nI_add, tn_nI (by omega), tn_nI (by omega)]
  rw [e, tn_nI (by omega)]
  refine ⟨vp_in_nI (by omega) (by decide), ?_⟩
  refine k1 _ (fun c hc => ?_) (Fr_sto (by decide))
  obtain ⟨t1, t2, t3, t4⟩ := hT c hc
  unfold tl0 tl1
  rcases (show tn x1 = 0 ∨ tn x1 = 1 by omega) with z | z
  · have zx : x1 = 0 := by rw [e1, z]; rfl
    rw [if_pos zx, if_pos zx, z, sto_s (show 24 + c ≠ 24 * 0 + tn x2 by omega)]
    by_cases y : c = tn x2
    · subst y; rw [show 24 * 0 + tn x2 = tn x2 by omega, sto_eq, up_eq]; exact ⟨by omega, t2, e3, t4⟩
    · rw [sto_s (by omega), up_ne _ y]; exact ⟨t1, t2, t3, t4⟩
  · have zx : ¬ x1 = 0 := by rw [e1, z]; decide
    rw [if_neg zx, if_neg zx, z, sto_s (show c ≠ 24 * 1 + tn x2 by omega)]
    by_cases y : c = tn x2
    · subst y; rw [show 24 * 1 + tn x2 = 24 + tn x2 by omega, sto_eq, up_eq]; exact ⟨t1, by omega, t3, e3⟩
    · rw [sto_s (by omega), up_ne _ y]; exact ⟨t1, t2, t3, t4⟩
/-- file -/
def flok (nf : Nat) (x1 x2 : Int32) : Prop := inN x1 24 ∧ inN x2 25 ∧ 1 ≤ tn x2 ∧ nf < 6
theorem c_file {f0 f1 hd ln : Nat → Nat} {nf : Nat} {x1 x2 : Int32} {μ : mH} {Q : Int32 → mH → Prop} (hD : DC f0 f1 hd ln nf μ) (k1 : flok nf x1 x2 → ∀ μ', DC f0 f1 (up hd nf (tn x1)) (up ln nf (tn x2)) (nf + 1) μ' → Fr [0, 37, 38] μ μ' → Q (nI nf) μ') (k0 : ¬ flok nf x1 x2 → Q (-1) μ) : cwi Γ M_X11_file [aR 11 0, aI x1, aI x2] μ Q := by
  obtain ⟨h0, h1, ⟨n1, n2, n3⟩, hj⟩ := hD
  refine u_X11_file (s_clN (fun h => ⟨fun _ => k0 (fun q => h q.1), fun z => absurd rfl z⟩) (fun i1 => ⟨fun z => absurd z (by decide), fun _ => ?_⟩))
  rcases Int32_cases x2 with hn | ⟨l, hl, rfl⟩
  · exact ⟨fun _ => k0 (fun q => inN_neg hn (by decide) q.2.1), fun z => absurd (neg_lt (n := 1) hn (by decide)) z⟩
  · rw [n2]
    have k0' : ¬ (1 ≤ l ∧ l ≤ 24 ∧ nf < 6) → Q (-1) μ := fun h => k0 (fun q => h ⟨by have := q.2.2.1; rw [tn_nI hl] at this; exact this, by have := q.2.1.2; rw [tn_nI hl] at this; omega, q.2.2.2⟩)
    refine pk_lt l 1 (fun q => k0' (by omega)) (fun q => pk_lt 24 l (fun q2 => k0' (by omega)) (fun q2 => pk_lt nf 6 (fun q3 => ?_) (fun q3 => k0' (by omega))))
    have k1 := k1 ⟨i1, inN_of (by omega) (by decide), by rw [tn_nI hl]; exact q, q3⟩
    rw [tn_nI hl] at k1
    refine u_X0_add ?_
    rw [n2, tn_nI (by omega), nI_1]
    refine br_t (nI_lt (b := 6) q3 (by decide)) ⟨vp_in_nI q3 (by decide), vp_in_nI q3 (by decide), ?_⟩
    rw [sto_s (by decide), sto_eq, nI_pred]
    refine k1 _ ⟨fun c hc => ?_, fun c hc => ?_, ⟨by omega, ?_, fun f hf => ?_⟩, fun q => absurd sto_eq q⟩ (Fr_st2 (Fr_st2 (Fr_st2 (Fr_sto (by decide)) (by decide)) (by decide)) (by decide))
    · rw [sto_K (by decide), sto_K (by decide), sto_K (by decide), sto_K (by decide)]; exact h0 c hc
    · rw [sto_K (by decide), sto_K (by decide), sto_K (by decide), sto_K (by decide)]; exact h1 c hc
    · rw [sto_s (by decide), sto_eq]
    · rw [sto_K (by decide), sto_K (by decide), sto_K (by decide), sto_K (K := 0) (by decide), sto_K (K := 0) (by decide)]
      by_cases z : f = nf
      · subst z; rw [sto_eq, sto_eq, up_eq, up_eq]; exact ⟨i1.2, q, q2, i1.1, rfl⟩
      · rw [sto_s z, sto_s z, up_ne _ z, up_ne _ z, sto_K (by decide)]; exact n3 f (by omega)
theorem m_file {hd ln : Nat → Nat} {nf : Nat} {x1 x2 : Int32} {μ : mH} {Q : Int32 → mH → Prop} (hH : HM nf hd ln μ) (k1 : flok nf x1 x2 → ∀ μ', HM (nf + 1) (up hd nf (tn x1)) (up ln nf (tn x2)) μ' → Fr [12, 48, 49] μ μ' → (∀ s, s ≠ 16 → μ' 12 0 s = μ 12 0 s) → Q (nI nf) μ') (k0 : ¬ flok nf x1 x2 → Q (-1) μ) : cwi Γ M_X12_file [aR 12 0, aI x1, aI x2] μ Q := by
  obtain ⟨n1, n2, n3⟩ := hH
  refine u_X12_file (s_mclN (fun h => ⟨fun _ => k0 (fun q => h q.1), fun z => absurd rfl z⟩) (fun i1 => ⟨fun z => absurd z (by decide), fun _ => ?_⟩))
  refine s_in (fun h => ⟨fun _ => k0 (fun q => h ?_), fun z => absurd rfl z⟩) (fun g1 g2 => ⟨fun z => absurd z (by decide), fun _ => ?_⟩)
  · obtain ⟨_, ⟨e2, l2⟩, l3, _⟩ := q
    rw [e2]
    exact ⟨nI_le (a := 1) l3 (by omega), nI_le (b := 24) (by omega) (by decide)⟩
  · rcases Int32_cases x2 with hn | ⟨l, hl, rfl⟩
    · exact absurd g1 (neg_nle hn (by decide))
    · have g1 := (nI_leI (a := 1) (by decide) hl).mp g1
      have g2 := (nI_leI (b := 24) hl (by decide)).mp g2
      rw [n2, tn_nI (by omega), nI_1, nI_pred]
      refine ⟨fun q => ?_, fun q => k0 (fun z => absurd ((nI_eq (b := 6) (by omega) (by decide)).mp q) (by have := z.2.2.2; omega))⟩
      have q3 : nf < 6 := by
        have : nf ≠ 6 := fun z => q (by rw [z]; rfl)
        omega
      have k1 := k1 ⟨i1, inN_of (by omega) (by decide), by rw [tn_nI hl]; exact g1, q3⟩
      rw [tn_nI hl] at k1
      refine ⟨vp_in_nI q3 (by decide), vp_in_nI q3 (by decide), k1 _ ⟨by omega, sto_eq, fun f hf => ?_⟩ (Fr_st2 (Fr_st2 (Fr_sto (by decide)) (by decide)) (by decide)) (fun s z => by rw [sto_s z, sto_K (by decide), sto_K (by decide)])⟩
      rw [sto_K (by decide), sto_K (by decide), sto_K (K := 12) (by decide)]
      by_cases z : f = nf
      · subst z; rw [sto_eq, sto_eq, up_eq, up_eq]; exact ⟨i1.2, g1, g2, i1.1, rfl⟩
      · rw [sto_s z, sto_s z, up_ne _ z, up_ne _ z, sto_K (by decide)]; exact n3 f (by omega)
/-- mishaps, next, chain -/
def miA (o : Option (Nat → Nat)) (hd ln : Nat → Nat) (nf : Nat) : Int32 := match o with
  | none => -1
  | some row => nI (mi row hd ln nf)
def nxA (o : Option (Nat → Nat)) (x : Int32) : Int32 := match o with
  | none => -1
  | some row => if inN x 24 then nI (row (tn x)) else -1
def chA (o : Option (Nat → Nat)) (hd : Nat → Nat) (nf : Nat) (x2 x3 : Int32) : Int32 := match o with
  | none => -1
  | some row => if inN x2 nf then (if x3 = -1 then nI (cN row (hd (tn x2))) else if inN x3 (cN row (hd (tn x2))) then nI (ca row (hd (tn x2)) (tn x3)) else -1) else -1
theorem c_mishaps {f0 f1 hd ln : Nat → Nat} {nf : Nat} {x : Int32} {μ : mH} {Q : Int32 → mH → Prop} (hD : DC f0 f1 hd ln nf μ) (kk : ∀ μ', DC f0 f1 hd ln nf μ' → Fr [0, 35, 36] μ μ' → Q (miA (CRo f0 f1 hd ln nf x) hd ln nf) μ') : cwi Γ M_X11_mishaps [aR 11 0, aI x] μ Q :=
  u_X11_mishaps (c_rowOf hD (fun i row μ' e R D F => ⟨fun z => (nomatch z), fun j z _ => by
    cases z
    rw [e] at kk
    exact c_faultsBy D.2.2.1 R (kk μ' D F)⟩) (fun μ' e D F => ⟨fun _ => by rw [e] at kk; exact kk μ' D F, fun j z => nomatch z⟩))
theorem m_mishaps {f0 f1 hd ln : Nat → Nat} {nf : Nat} {x : Int32} {μ : mH} {Q : Int32 → mH → Prop} (hT : TM f0 f1 μ) (hH : HM nf hd ln μ) (kk : ∀ μ', Fr [12, 60, 61] μ μ' → (∀ s, s ≠ 34 → μ' 12 0 s = μ 12 0 s) → Q (miA (CRo f0 f1 hd ln nf x) hd ln nf) μ') : cwi Γ M_X12_mishaps [aR 12 0, aI x] μ Q :=
  u_X12_mishaps (m_asks hT hH (fun row μ' e R F s => ⟨fun z => absurd z (by decide), fun _ => by
    rw [e] at kk
    exact m_mishapsNow (HM_fr hH F (s 16 (by decide)) (by decide) (by decide)) R (fun μ2 F2 s2 => kk μ2 (Fr_tr F (Fr_mono F2 (by decide))) (fun q z => (s2 q z).trans (s q z)))⟩) (fun e => ⟨fun _ => by rw [e] at kk; exact kk μ Fr_rf (fun _ _ => rfl), fun z => absurd rfl z⟩))
theorem c_next {f0 f1 hd ln : Nat → Nat} {nf : Nat} {x x2 : Int32} {μ : mH} {Q : Int32 → mH → Prop} (hD : DC f0 f1 hd ln nf μ) (kk : ∀ μ', DC f0 f1 hd ln nf μ' → Fr [0, 35, 36] μ μ' → Q (nxA (CRo f0 f1 hd ln nf x) x2) μ') : cwi Γ M_X11_next [aR 11 0, aI x, aI x2] μ Q :=
  u_X11_next (c_rowOf hD (fun i row μ' e R D F => ⟨fun z => (nomatch z), fun j z _ => by
    cases z
    have k := kk μ' D F
    rw [e] at k
    unfold nxA at k
    refine s_clN (fun h => ⟨fun z => absurd rfl z, fun _ => ?_⟩) (fun h => ⟨fun _ => ?_, fun z => absurd z (by decide)⟩)
    · simp only [if_neg h] at k
      exact k
    · simp only [if_pos h] at k
      exact ⟨by rw [h.1]; exact vp_in_nI h.2 (by decide), by rw [(R _ h.2).2]; exact k⟩⟩) (fun μ' e D F => ⟨fun _ => by have k := kk μ' D F; rw [e] at k; exact k, fun j z => nomatch z⟩))
theorem m_next {f0 f1 hd ln : Nat → Nat} {nf : Nat} {x x2 : Int32} {μ : mH} {Q : Int32 → mH → Prop} (hT : TM f0 f1 μ) (hH : HM nf hd ln μ) (kk : ∀ μ', Fr [12, 60, 61] μ μ' → (∀ s, s ≠ 34 → μ' 12 0 s = μ 12 0 s) → Q (nxA (CRo f0 f1 hd ln nf x) x2) μ') : cwi Γ M_X12_next [aR 12 0, aI x, aI x2] μ Q := by
  refine u_X12_next (s_mclN (fun h => ⟨fun _ => ?_, fun z => absurd rfl z⟩) (fun h => ⟨fun z => absurd z (by decide), fun _ => m_asks hT hH (fun row μ' e R F s => ⟨fun z => absurd z (by decide), fun _ => ⟨by rw [h.1]; exact vp_in_nI h.2 (by decide), ?_⟩⟩) (fun e => ⟨fun _ => by have k := kk μ Fr_rf (fun _ _ => rfl); rw [e] at k; exact k, fun z => absurd rfl z⟩)⟩))
  · have k := kk μ Fr_rf (fun _ _ => rfl)
    unfold nxA at k
    revert k
    cases CRo f0 f1 hd ln nf x with
    | none => exact fun k => k
    | some row => intro k; simp only [if_neg h] at k; exact k
  · have k := kk μ' F s
    rw [e] at k
    unfold nxA at k
    simp only [if_pos h] at k
    rw [(R _ h.2).2]
    exact k
theorem c_chain {f0 f1 hd ln : Nat → Nat} {nf : Nat} {x x2 x3 : Int32} {μ : mH} {Q : Int32 → mH → Prop} (hD : DC f0 f1 hd ln nf μ) (kk : ∀ μ', DC f0 f1 hd ln nf μ' → Fr [0, 34, 35, 36] μ μ' → Q (chA (CRo f0 f1 hd ln nf x) hd nf x2 x3) μ') : cwi Γ M_X11_chain [aR 11 0, aI x, aI x2, aI x3] μ Q := by
  refine u_X11_chain (c_rowOf hD (fun i row μ' e R D F => ⟨fun z => (nomatch z), fun j z _ => ?_⟩) (fun μ' e D F => ⟨fun _ => by have k := kk μ' D (Fr_mono F (by decide)); rw [e] at k; exact k, fun j z => nomatch z⟩))
  cases z
  rw [e] at kk
  unfold chA at kk
  simp only [] at kk
  have hnf := D.2.2.1.1
  refine s_dholds (n := nf) (by omega) D.2.2.1.2.1 (fun h => ⟨fun z => absurd rfl z, fun _ => ?_⟩) (fun h => ⟨fun _ => ?_, fun z => absurd z (by decide)⟩)
  · simp only [if_neg h] at kk
    exact kk μ' D (Fr_mono F (by decide))
  · simp only [if_pos h] at kk
    obtain ⟨e2, l2⟩ := h
    rw [e2]
    have hN := cN_le row (hd (tn x2))
    refine c_walk l2 D.2.2.1 R (fun μ2 F2 s2 n2 p2 => ?_)
    have D2 : DC f0 f1 hd ln nf μ2 := ⟨RW_fr D.1 F2 (by decide), RW_fr D.2.1 F2 (by decide), HD_fr D.2.2.1 F2 (s2 0 (by decide)) (by decide) (by decide), fun z => by
      rw [s2 8 (by decide)] at z
      rw [s2 9 (by decide)]
      rcases D.2.2.2 z with ⟨a, b, c⟩ | y
      · exact Or.inl ⟨a, b, RW_fr c F2 (by decide)⟩
      · exact Or.inr y⟩
    have k := kk μ2 D2 (Fr_tr (Fr_mono F (by decide)) (Fr_mono F2 (by decide)))
    generalize cN row (hd (tn x2)) = N at *
    rw [n2]
    refine ⟨fun z => ?_, fun z => ?_⟩
    · rw [if_neg z] at k
      rcases Int32_cases x3 with hn | ⟨b, hb, rfl⟩
      · rw [if_neg (inN_neg hn (by omega))] at k
        exact ⟨fun _ => k, fun y => absurd hn y⟩
      · refine ⟨fun y => absurd y (nI_pos hb), fun _ => pk_le N b (fun q => ?_) (fun q => ⟨vp_in_nI (by omega) (by decide), ?_⟩)⟩
        · rw [if_neg (inN_no q hb)] at k
          exact k
        · rw [if_pos (inN_of q (by omega)), tn_nI hb] at k
          rw [tn_nI hb, p2 b q]
          exact k
    · rw [if_pos z] at k
      exact k
theorem m_chain {f0 f1 hd ln : Nat → Nat} {nf : Nat} {x x2 x3 : Int32} {μ : mH} {Q : Int32 → mH → Prop} (hT : TM f0 f1 μ) (hH : HM nf hd ln μ) (kk : ∀ μ', Fr [12, 60, 61] μ μ' → (∀ s, s ≠ 34 → μ' 12 0 s = μ 12 0 s) → Q (chA (CRo f0 f1 hd ln nf x) hd nf x2 x3) μ') : cwi Γ M_X12_chain [aR 12 0, aI x, aI x2, aI x3] μ Q := by
  have hnf := hH.1
  refine u_X12_chain (s_inN (n := nf) (by omega) (by rw [hH.2.1]) (fun h => ⟨fun _ => ?_, fun z => absurd rfl z⟩) (fun h => ⟨fun z => absurd z (by decide), fun _ => m_asks hT hH (fun row μ' e R F s => ⟨fun _ => ?_, fun z => absurd z (by decide)⟩) (fun e => ⟨fun z => absurd rfl z, fun _ => by have k := kk μ Fr_rf (fun _ _ => rfl); rw [e] at k; exact k⟩)⟩))
  · have k := kk μ Fr_rf (fun _ _ => rfl)
    unfold chA at k
    revert k
    cases CRo f0 f1 hd ln nf x with
    | none => exact fun k => k
    | some row => intro k; simp only [if_neg h] at k; exact k
  · rw [e] at kk
    unfold chA at kk
    simp only [if_pos h] at kk
    obtain ⟨e2, l2⟩ := h
    rw [e2]
    have hN := cN_le row (hd (tn x2))
    refine m_chains l2 (HM_fr hH F (s 16 (by decide)) (by decide) (by decide)) R (fun μ2 F2 s2 n2 p2 => ?_)
    have k := kk μ2 (Fr_tr F (Fr_mono F2 (by decide))) (fun q z => (s2 q z).trans (s q z))
    generalize cN row (hd (tn x2)) = N at *
    refine ⟨fun z => ?_, fun z => ?_⟩
    · rw [if_neg z] at k
      refine s_inN (n := N) (by omega) (by rw [n2]) (fun h => ⟨fun _ => ?_, fun y => absurd rfl y⟩) (fun h => ⟨fun y => absurd y (by decide), fun _ => ⟨by rw [h.1]; exact vp_in_nI (by have := h.2; omega) (by decide), ?_⟩⟩)
      · rw [if_neg h] at k
        exact k
      · rw [if_pos h] at k
        rw [p2 _ h.2]
        exact k
    · rw [if_pos z] at k
      rw [n2]
      exact k
end PDO
