/-! READS and what is found in them -/
def fbb (fm s : Nat → Nat) (m : Nat) : Nat → Nat := rbt (fm 1) (fm 2) s m
def fzz (fm s : Nat → Nat) (m : Nat) : Nat := rz (fm 1) (fm 2) s m
def rg (fm b : Nat → Nat) (p : Nat) : Bool := decide (256 * sb b p (2 + fm 4) + sb b p (3 + fm 4) = sm fm (sb b p) (2 + fm 4))
def Rn (fm b : Nat → Nat) (nb : Nat) : Nat := fb_ct (fun k => rg fm b (FP fm b nb k)) (FN fm b nb)
def slN (fm b : Nat → Nat) (p : Nat) : Nat := fb_ct (slp fm b p) (8 * (4 + fm 4))
def Sn (fm b : Nat → Nat) (nb : Nat) : Nat := fb_sm (fun k => if rg fm b (FP fm b nb k) then slN fm b (FP fm b nb k) else 0) (FN fm b nb)
theorem slN_le {fm b : Nat → Nat} {p : Nat} (h : OKF fm) : slN fm b p ≤ 96 := by
  have h6 := h.2.2.2.2.2.1
  have := fb_ct_le (slp fm b p) (8 * (4 + fm 4))
  unfold slN
  omega
theorem smk_le {fm b : Nat → Nat} {nb : Nat} (h : OKF fm) (k : Nat) : fb_sm (fun k => if rg fm b (FP fm b nb k) then slN fm b (FP fm b nb k) else 0) k ≤ k * 96 := fb_sm_bound (fun k _ => by
  have := slN_le (b := b) (p := FP fm b nb k) h
  show (if _ then _ else _) ≤ _
  split <;> omega)
section PRD
variable {Γ : cx_T}
theorem s_isRight {p q : Nat} {fm b : Nat → Nat} {μ : mH} {Q : Int32 → mH → Prop} (hO : OKF fm) (hb : ∀ j, b j ≤ 1) (hS : SEC fm b p q μ) (k1 : rg fm b p = true → Q 1 μ) (k0 : rg fm b p = false → Q 0 μ) : cwi Γ M_X7_isRight [aR 7 q] μ Q := by
  refine u_X7_isRight ?_
  rw [hS.2.2.2.1, hS.2.2.2.2.1]
  have l1 := sb_lt hb p (2 + fm 4)
  have l2 := sb_lt hb p (3 + fm 4)
  have l3 := sm_lt hO (2 + fm 4) (fun j _ => sb_lt hb p j)
  refine ⟨fun z => k0 ?_, fun z => k1 ?_⟩
  · simp [rg]
    exact fun y => z (by rw [y])
  · simp [rg]
    exact (nI_eq (by omega) (by omega)).mp z
theorem c_rightOnes {t nb : Nat} {fm b : Nat → Nat} {μ : mH} {Q : Int32 → mH → Prop} (hO : OKF fm) (hb : ∀ j, b j ≤ 1) (hD : FDC fm b nb t μ) (kk : Q (nI (Rn fm b nb)) μ) : cwi Γ M_X1_rightOnes [aR 1 t] μ Q := by
  have h8 := FN_le fm b nb
  have lp : ∀ d k, k + d = FN fm b nb → aw Γ M_X1_rightOnes 4 [aR 1 t, aI (nI (fb_ct (fun k => rg fm b (FP fm b nb k)) k)), aI (nI k)] [] μ (rI Q) := by
    intro d
    induction d with
    | zero =>
      intro k hk
      obtain rfl : k = FN fm b nb := by omega
      refine u_X1_rightOnes_4 ?_
      rw [hD.1]
      exact br_t (nI_le (Nat.le_refl _) (by omega)) kk
    | succ d ih =>
      intro k hk
      have go := ih (k + 1) (by omega)
      rw [fb_ct_succ] at go
      refine u_X1_rightOnes_4 ?_
      rw [hD.1, tn_nI (by omega), nI_1, nI_1]
      refine br_f (nI_ge (by omega) (by omega)) ⟨vp_in_nI (by omega) (by decide), s_isRight hO hb (hD.2 k (by omega)) (fun c => ⟨fun z => absurd z (by decide), fun _ => ?_⟩) (fun c => ⟨fun _ => ?_, fun z => absurd rfl z⟩)⟩
      · rw [c] at go; exact go
      · rw [c] at go; exact go
  exact u_X1_rightOnes (lp _ 0 (Nat.zero_add _))
theorem c_slipsOfRight {t nb : Nat} {fm b : Nat → Nat} {μ : mH} {Q : Int32 → mH → Prop} (hO : OKF fm) (hb : ∀ j, b j ≤ 1) (hD : FDC fm b nb t μ) (kk : Q (nI (Sn fm b nb)) μ) : cwi Γ M_X1_slipsOfRight [aR 1 t] μ Q := by
  have h8 := FN_le fm b nb
  have lp : ∀ d k, k + d = FN fm b nb → aw Γ M_X1_slipsOfRight 4 [aR 1 t, aI (nI (fb_sm (fun k => if rg fm b (FP fm b nb k) then slN fm b (FP fm b nb k) else 0) k)), aI (nI k)] [] μ (rI Q) := by
    intro d
    induction d with
    | zero =>
      intro k hk
      obtain rfl : k = FN fm b nb := by omega
      refine u_X1_slipsOfRight_4 ?_
      rw [hD.1]
      exact br_t (nI_le (Nat.le_refl _) (by omega)) kk
    | succ d ih =>
      intro k hk
      have go := ih (k + 1) (by omega)
      rw [fb_sm_succ] at go
      refine u_X1_slipsOfRight_4 ?_
      rw [hD.1, tn_nI (by omega), nI_1]
      refine br_f (nI_ge (by omega) (by omega)) ⟨vp_in_nI (by omega) (by decide), s_isRight hO hb (hD.2 k (by omega)) (fun c => ⟨fun z => absurd z (by decide), fun _ => ⟨vp_in_nI (by omega) (by decide), ?_⟩⟩) (fun c => ⟨fun _ => ?_, fun z => absurd rfl z⟩)⟩
      · rw [(hD.2 k (by omega)).2.2.2.2.2.1, nI_add]
        simp only [c, if_true] at go
        exact go
      · simp only [c, Bool.false_eq_true, if_false, Nat.add_zero] at go
        exact go
  exact u_X1_slipsOfRight (lp _ 0 (Nat.zero_add _))
theorem m_sumOfSector {k p : Nat} {fm b : Nat → Nat} {μ : mH} {Q : Int32 → mH → Prop} (hO : OKF fm) (hF : FMM fm μ) (hb : ∀ j, b j ≤ 1) (hk : k < 8) (hS : SEM fm b p k μ) (kk : ∀ μ', Fr [54] μ μ' → Q (nI (sm fm (sb b p) (2 + fm 4))) μ') : cwi Γ M_X12_sumOfSector [aR 12 0, aI (nI k)] μ Q := by
  have o6 := hO.2.2.2.2.2.1
  have lp : ∀ d i (μ1 : mH), i + d = 4 + fm 4 → Fr [54] μ μ1 → (∀ j, j < i → μ1 54 0 j = nI (sb b p j)) → aw Γ M_X12_sumOfSector 2 [aR 12 0, aI (nI k), aI (nI i)] [] μ1 (rI Q) := by
    intro d
    induction d with
    | zero =>
      intro i μ1 hi Fa ha
      obtain rfl : i = 4 + fm 4 := by omega
      refine u_X12_sumOfSector_2 (u_X12_many ?_)
      rw [Fr_at Fa (by decide), hF.2.2.2.2.1, show (4 : Int32) + nI (fm 4) = nI (4 + fm 4) from nI_add 4 _]
      exact br_t (nI_le (Nat.le_refl _) (by omega)) (m_sumOf hO (FMM_fr hF Fa (by decide)) (fun j _ => sb_lt hb p j) (fun j hj => ha j (by omega)) (kk μ1 Fa))
    | succ d ih =>
      intro i μ1 hi Fa ha
      refine u_X12_sumOfSector_2 (u_X12_many ?_)
      rw [Fr_at Fa (by decide), hF.2.2.2.2.1, show (4 : Int32) + nI (fm 4) = nI (4 + fm 4) from nI_add 4 _, show (12 : Int32) * nI k = nI (12 * k) from pk_mul 12 _, nI_add, tn_nI (by omega), tn_nI (by omega), Fr_at Fa (show 52 ∉ [54] by decide), hS.2.1 i (by omega), nI_1]
      refine br_f (nI_ge (by omega) (by omega)) ⟨vp_in_nI (by omega) (by decide), vp_in_nI (by omega) (by decide), ih (i + 1) _ (by omega) (Fr_st2 Fa (by decide)) (fun j hj => ?_)⟩
      by_cases z : j = i
      · subst z; exact sto_eq
      · rw [sto_s z]; exact ha j (by omega)
  exact u_X12_sumOfSector (lp _ 0 μ (Nat.zero_add _) Fr_rf (fun j hj => absurd hj (by omega)))
theorem m_told {k p : Nat} {fm b : Nat → Nat} {μ : mH} {Q : Int32 → mH → Prop} (hO : OKF fm) (hF : FMM fm μ) (hk : k < 8) (hS : SEM fm b p k μ) (kk : Q (nI (256 * sb b p (2 + fm 4) + sb b p (3 + fm 4))) μ) : cwi Γ M_X12_told [aR 12 0, aI (nI k)] μ Q := by
  have o6 := hO.2.2.2.2.2.1
  have em : (4 : Int32) + μ 42 0 4 = nI (4 + fm 4) := by rw [hF.2.2.2.2.1]; exact nI_add 4 _
  refine u_X12_told (u_X12_many ?_)
  rw [em, show (12 : Int32) * nI k = nI (12 * k) from pk_mul 12 _, nI_add, show nI (12 * k + (4 + fm 4)) - (2 : Int32) = nI (12 * k + (4 + fm 4) - 2) from pk_sub (b := 2) (by omega), show 12 * k + (4 + fm 4) - 2 = 12 * k + (2 + fm 4) by omega]
  refine ⟨vp_in_nI (by omega) (by decide), u_X12_many ?_⟩
  rw [em, nI_add, show nI (12 * k + (4 + fm 4)) - (1 : Int32) = nI (12 * k + (4 + fm 4) - 1) from pk_sub (b := 1) (by omega), show 12 * k + (4 + fm 4) - 1 = 12 * k + (3 + fm 4) by omega, tn_nI (by omega), tn_nI (by omega), hS.2.1 (2 + fm 4) (by omega), hS.2.1 (3 + fm 4) (by omega), show (256 : Int32) * nI (sb b p (2 + fm 4)) = nI (256 * sb b p (2 + fm 4)) from pk_mul 256 _, nI_add]
  exact ⟨vp_in_nI (by omega) (by decide), kk⟩
theorem SEM_fr {fm b : Nat → Nat} {p k : Nat} {l : List Nat} {μ μ' : mH} (h : SEM fm b p k μ) (hF : Fr l μ μ') (h1 : 51 ∉ l) (h2 : 52 ∉ l) (h3 : 53 ∉ l) : SEM fm b p k μ' := by
  unfold SEM
  rw [hF 51 h1, hF 52 h2, hF 53 h3]
  exact h
theorem FDM_fr {fm b : Nat → Nat} {nb : Nat} {l : List Nat} {μ μ' : mH} (h : FDM fm b nb μ) (hF : Fr l μ μ') (h0 : μ' 12 0 21 = μ 12 0 21) (h1 : 51 ∉ l) (h2 : 52 ∉ l) (h3 : 53 ∉ l) : FDM fm b nb μ' := ⟨by rw [h0]; exact h.1, fun k hk => SEM_fr (h.2 k hk) hF h1 h2 h3⟩
theorem m_isRight {k p : Nat} {fm b : Nat → Nat} {μ : mH} {Q : Int32 → mH → Prop} (hO : OKF fm) (hF : FMM fm μ) (hb : ∀ j, b j ≤ 1) (hk : k < 8) (hS : SEM fm b p k μ) (k1 : rg fm b p = true → ∀ μ', Fr [54] μ μ' → Q 1 μ') (k0 : rg fm b p = false → ∀ μ', Fr [54] μ μ' → Q 0 μ') : cwi Γ M_X12_isRight [aR 12 0, aI (nI k)] μ Q := by
  have l1 := sb_lt hb p (2 + fm 4)
  have l2 := sb_lt hb p (3 + fm 4)
  have l3 := sm_lt hO (2 + fm 4) (fun j _ => sb_lt hb p j)
  refine u_X12_isRight (m_sumOfSector hO hF hb hk hS (fun μ1 F1 => m_told hO (FMM_fr hF F1 (by decide)) hk (SEM_fr hS F1 (by decide) (by decide) (by decide)) ⟨fun z => k0 ?_ μ1 F1, fun z => k1 ?_ μ1 F1⟩))
  · simp [rg]
    exact fun y => z (by rw [y])
  · simp [rg]
    exact ((nI_eq (by omega) (by omega)).mp z).symm
theorem m_trackOf {k p : Nat} {fm b : Nat → Nat} {μ : mH} {Q : Int32 → mH → Prop} (hO : OKF fm) (hF : FMM fm μ) (hk : k < 8) (hS : SEM fm b p k μ) (kk : Q (nI (sb b p (fm 8))) μ) : cwi Γ M_X12_trackOf [aR 12 0, aI (nI k)] μ Q := by
  have o10 := hO.2.2.2.2.2.2.2.2.2
  refine u_X12_trackOf ?_
  rw [hF.2.2.2.2.2.2.2.2, show (12 : Int32) * nI k = nI (12 * k) from pk_mul 12 _, nI_add, tn_nI (by omega), hS.2.1 (fm 8) (by omega)]
  exact ⟨vp_in_nI (by omega) (by decide), kk⟩
theorem m_numberOf {k p : Nat} {fm b : Nat → Nat} {μ : mH} {Q : Int32 → mH → Prop} (hO : OKF fm) (hF : FMM fm μ) (hk : k < 8) (hS : SEM fm b p k μ) (kk : Q (nI (sb b p (1 - fm 8))) μ) : cwi Γ M_X12_numberOf [aR 12 0, aI (nI k)] μ Q := by
  have o10 := hO.2.2.2.2.2.2.2.2.2
  refine u_X12_numberOf ?_
  rw [hF.2.2.2.2.2.2.2.2, show (12 : Int32) * nI k = nI (12 * k) from pk_mul 12 _, nI_1, pk_sub (by omega), show 12 * k + 1 - fm 8 = 12 * k + (1 - fm 8) by omega, tn_nI (by omega), hS.2.1 (1 - fm 8) (by omega)]
  exact ⟨vp_in_nI (by omega) (by decide), kk⟩
end PRD
/-- how a READ is tuned -/
def tlo (fm : Nat → Nat) : Nat := max 8 (fm 1 - 6)
def thi (fm : Nat → Nat) : Nat := min 60 (fm 1 + 6)
def tR (fm s : Nat → Nat) (m e : Nat) : Nat := Rn fm (rbt (tlo fm + e / 9) (e % 9) s m) (rz (tlo fm + e / 9) (e % 9) s m)
def tS (fm s : Nat → Nat) (m e : Nat) : Nat := Sn fm (rbt (tlo fm + e / 9) (e % 9) s m) (rz (tlo fm + e / 9) (e % 9) s m)
def tbt (fm s : Nat → Nat) (m e f : Nat) : Bool := decide (tR fm s m f < tR fm s m e) || (decide (tR fm s m e = tR fm s m f) && decide (tS fm s m e < tS fm s m f))
def tb (fm s : Nat → Nat) (m : Nat) : Nat → Nat
  | 0 => 0
  | e + 1 => if tbt fm s m (e + 1) (tb fm s m e) then e + 1 else tb fm s m e
def tE (fm : Nat → Nat) : Nat := 9 * (thi fm - tlo fm + 1)
def TUN (fm s : Nat → Nat) (m r e : Nat) (μ : mH) : Prop := μ 9 r 4 = nI (tlo fm + tb fm s m e / 9) ∧ μ 9 r 5 = nI (tb fm s m e % 9) ∧ μ 9 r 6 = nI (tR fm s m (tb fm s m e)) ∧ μ 9 r 7 = nI (tS fm s m (tb fm s m e))
def RDC (fm : Nat → Nat) (nr : Nat) (dr ml : Nat → Nat) (st : Nat → Nat → Nat) (μ : mH) : Prop := nr ≤ 10 ∧ μ 8 0 1 = nI nr ∧ ∀ r, r < nr → dr r < 4 ∧ μ 9 r 2 = nI (dr r) ∧ TPC (r + 1) (ml r) (st r) μ ∧ FDC fm (fbb fm (st r) (ml r)) (fzz fm (st r) (ml r)) r μ ∧ (¬ μ 9 r 3 = 0 → TUN fm (st r) (ml r) r (tE fm - 1) μ)
def RDM (nr : Nat) (dr ml : Nat → Nat) (st : Nat → Nat → Nat) (μ : mH) : Prop := nr ≤ 10 ∧ μ 12 0 11 = nI nr ∧ ∀ r, r < nr → dr r < 4 ∧ μ 44 0 r = nI (dr r) ∧ μ 45 0 r = nI (ml r) ∧ ml r ≤ 320 ∧ ∀ j, j < ml r → 1 ≤ st r j ∧ st r j < 256 ∧ μ 46 0 (320 * r + j) = nI (st r j)
theorem RDM_ST {nr r : Nat} {dr ml : Nat → Nat} {st : Nat → Nat → Nat} {μ : mH} (h : RDM nr dr ml st μ) (hr : r < nr) : ST (nI r) (ml r) (st r) μ := by
  obtain ⟨h1, h2, h3⟩ := h
  obtain ⟨g1, g2, g3, g4, g5⟩ := h3 r hr
  exact ⟨g4, fun j hj => ⟨(g5 j hj).1, (g5 j hj).2.1⟩, Or.inr ⟨r, by omega, rfl, g3, fun j hj => (g5 j hj).2.2⟩⟩
theorem RDM_fr {nr : Nat} {dr ml : Nat → Nat} {st : Nat → Nat → Nat} {l : List Nat} {μ μ' : mH} (h : RDM nr dr ml st μ) (hF : Fr l μ μ') (h0 : μ' 12 0 11 = μ 12 0 11) (h1 : 44 ∉ l) (h2 : 45 ∉ l) (h3 : 46 ∉ l) : RDM nr dr ml st μ' := by
  unfold RDM
  rw [h0, hF 44 h1, hF 45 h2, hF 46 h3]
  exact h
/-- found -/
def secA (fm b : Nat → Nat) (p : Nat) (x : Int32) : Int32 := if x = 0 then nI p else if x = 1 then nI (sb b p (fm 8)) else if x = 2 then nI (sb b p (1 - fm 8)) else if x = 3 then nI (256 * sb b p (2 + fm 4) + sb b p (3 + fm 4)) else if x = 4 then nI (sm fm (sb b p) (2 + fm 4)) else if x = 5 then nI (slN fm b p) else if inN x (10 + fm 4) ∧ 10 ≤ tn x then nI (sb b p (2 + (tn x - 10))) else -1
def fdA (fm b : Nat → Nat) (nb : Nat) (x2 x3 : Int32) : Int32 := if x2 = -1 then nI (FN fm b nb) else if inN x2 (FN fm b nb) then secA fm b (FP fm b nb (tn x2)) x3 else -1
def fndA (fm : Nat → Nat) (nr : Nat) (ml : Nat → Nat) (st : Nat → Nat → Nat) (x1 x2 x3 : Int32) : Int32 := if inN x1 nr then fdA fm (fbb fm (st (tn x1)) (ml (tn x1))) (fzz fm (st (tn x1)) (ml (tn x1))) x2 x3 else -1
section PFD
variable {Γ : cx_T}
theorem c_found {fm : Nat → Nat} {nr : Nat} {dr ml : Nat → Nat} {st : Nat → Nat → Nat} {x1 x2 x3 : Int32} {μ : mH} {Q : Int32 → mH → Prop} (hO : 0 < nr → OKF fm) (hF : FMC 1 fm μ) (hR : RDC fm nr dr ml st μ) (kk : Q (fndA fm nr ml st x1 x2 x3) μ) : cwi Γ M_X11_found [aR 11 0, aI x1, aI x2, aI x3] μ Q := by
  obtain ⟨r1, r2, r3⟩ := hR
  unfold fndA at kk
  refine u_X11_found (s_sholds (n := nr) (by omega) r2 (fun h => ⟨fun z => absurd rfl z, fun _ => ?_⟩) (fun h => ⟨fun _ => ⟨by rw [h.1]; exact vp_in_nI (by have := h.2; omega) (by decide), ?_⟩, fun z => absurd z (by decide)⟩))
  · rw [if_neg h] at kk; exact kk
  · rw [if_pos h] at kk
    obtain ⟨g1, g2, g3, g4, g5⟩ := r3 _ h.2
    have hO := hO (by have := h.2; omega)
    obtain ⟨o1, o2, o3, o4, o5, o6, o7, o8, o9, o10⟩ := hO
    generalize fbb fm (st (tn x1)) (ml (tn x1)) = b at *
    generalize fzz fm (st (tn x1)) (ml (tn x1)) = nb at *
    have h8 := FN_le fm b nb
    unfold fdA at kk
    rw [g4.1]
    refine ⟨fun z => ?_, fun z => by rw [if_pos z] at kk; exact kk⟩
    rw [if_neg z] at kk
    have sw : ∀ {A B : Prop}, ((x2 < 0 → A) ∧ (¬ x2 < 0 → ((nI (FN fm b nb) ≤ x2 → A) ∧ (¬ nI (FN fm b nb) ≤ x2 → B)))) → ((x2 < 0 → A) ∧ (¬ x2 < 0 → ((x2 < nI (FN fm b nb) → B) ∧ (¬ x2 < nI (FN fm b nb) → A)))) := fun h => ⟨h.1, fun y => ⟨fun w => (h.2 y).2 (Int32.not_le.mpr w), fun w => (h.2 y).1 (Int32.not_lt.mp w)⟩⟩
    refine sw (s_rng (by omega) (fun i => ?_) (fun i => ⟨by rw [i.1]; exact vp_in_nI (by have := i.2; omega) (by decide), ?_⟩))
    · rw [if_neg i] at kk; exact kk
    · rw [if_pos i] at kk
      obtain ⟨s0, s1, s2, s3, s4, s5, s6⟩ := g4.2 _ i.2
      unfold secA at kk
      refine u_X11_ofSector ?_
      rw [s0, s1, s2, s3, s4, s5, hF 4 (by decide) (by decide), show (10 : Int32) + nI (fm 4) = nI (10 + fm 4) from nI_add 10 _]
      refine ⟨fun z => by rw [if_pos z] at kk; exact kk, fun z => by subst z; exact kk, fun z => by subst z; exact kk, fun z => by subst z; exact kk, fun z => by subst z; exact kk, fun z => by subst z; exact kk, fun n0 n1 n2 n3 n4 n5 => ?_⟩
      rw [if_neg n0, if_neg n1, if_neg n2, if_neg n3, if_neg n4, if_neg n5] at kk
      rcases Int32_cases x3 with hn | ⟨v, hv, rfl⟩
      · rw [if_neg (fun q => inN_neg hn (by omega) q.1)] at kk
        exact ⟨fun _ => kk, fun y => absurd (neg_lt (n := 10) hn (by decide)) y⟩
      · have ev := tn_nI hv
        refine pk_lt v 10 (fun c => ?_) (fun c => pk_le (10 + fm 4) v (fun c2 => ?_) (fun c2 => ?_))
        · rw [if_neg (fun q => by have := q.2; rw [ev] at this; omega)] at kk; exact kk
        · rw [if_neg (fun q => inN_no c2 hv q.1)] at kk; exact kk
        · rw [if_pos ⟨inN_of c2 (by omega), by rw [ev]; exact c⟩, ev] at kk
          rw [show nI v - (10 : Int32) = nI (v - 10) from pk_sub (b := 10) c, tn_nI (by omega), s6 (v - 10) (by omega)]
          exact ⟨vp_in_nI (by omega) (by decide), kk⟩
theorem m_found {fm : Nat → Nat} {nr : Nat} {dr ml : Nat → Nat} {st : Nat → Nat → Nat} {x1 x2 x3 : Int32} {μ : mH} {Q : Int32 → mH → Prop} (hO : 0 < nr → OKF fm) (hF : 0 < nr → FMM fm μ) (hR : RDM nr dr ml st μ) (kk : ∀ μ', Fr [12, 50, 51, 52, 53, 54] μ μ' → (∀ s, s ≠ 20 → s ≠ 21 → μ' 12 0 s = μ 12 0 s) → Q (fndA fm nr ml st x1 x2 x3) μ') : cwi Γ M_X12_found [aR 12 0, aI x1, aI x2, aI x3] μ Q := by
  have r1 := hR.1
  unfold fndA at kk
  refine u_X12_found (s_inN (n := nr) (by omega) (by rw [hR.2.1]) (fun h => ⟨fun z => absurd rfl z, fun _ => ?_⟩) (fun h => ⟨fun _ => ?_, fun z => absurd z (by decide)⟩))
  · have kk := kk μ Fr_rf (fun _ _ _ => rfl)
    rw [if_neg h] at kk; exact kk
  · simp only [if_pos h] at kk
    have hpos : 0 < nr := by have := h.2; omega
    have hO := hO hpos
    have hF := hF hpos
    have hT := RDM_ST hR h.2
    have hO0 := hO
    obtain ⟨o1, o2, o3, o4, o5, o6, o7, o8, o9, o10⟩ := hO
    rw [hF.1, hF.2.1]
    conv => arg 3; rw [h.1]
    refine m_finds o1 o2 hO0 hF hT (fun μ1 D1 F1 s1 => ?_)
    have hb := rbt_le (fm 1) (fm 2) (st (tn x1)) (ml (tn x1))
    unfold fbb fzz at kk
    generalize rbt (fm 1) (fm 2) (st (tn x1)) (ml (tn x1)) = b at *
    generalize rz (fm 1) (fm 2) (st (tn x1)) (ml (tn x1)) = nb at *
    have h8 := FN_le fm b nb
    have F1m := FMM_fr hF F1 (by decide)
    unfold fdA at kk
    rw [D1.1]
    have k1 : ∀ μ', Fr [54] μ1 μ' → Fr [12, 50, 51, 52, 53, 54] μ μ' ∧ (∀ s, s ≠ 20 → s ≠ 21 → μ' 12 0 s = μ 12 0 s) := fun μ' F' => ⟨Fr_tr (Fr_mono F1 (by decide)) (Fr_mono F' (by decide)), fun s y z => by rw [Fr_at F' (by decide)]; exact s1 s y z⟩
    refine ⟨fun z => ?_, fun z => by
      have q := kk μ1 (k1 μ1 Fr_rf).1 (k1 μ1 Fr_rf).2
      rw [if_pos z] at q; exact q⟩
    simp only [if_neg z] at kk
    refine s_inN (n := FN fm b nb) (by omega) rfl (fun i => ⟨fun y => absurd rfl y, fun _ => ?_⟩) (fun i => ⟨fun _ => ?_, fun y => absurd y (by decide)⟩)
    · have q := kk μ1 (k1 μ1 Fr_rf).1 (k1 μ1 Fr_rf).2
      rw [if_neg i] at q; exact q
    · simp only [if_pos i] at kk
      have S := D1.2 _ i.2
      have i8 : tn x2 < 8 := by have := i.2; omega
      unfold secA at kk
      have k2 := fun μ' F' => kk μ' (k1 μ' F').1 (k1 μ' F').2
      have v2 : vp_in x2 8 := by rw [i.1]; exact vp_in_nI i8 (by decide)
      rw [S.1, S.2.2]
      refine ⟨fun z => ⟨v2, ?_⟩, fun z => ?_, fun z => ?_, fun z => ?_, fun z => ?_, fun z => ⟨v2, ?_⟩, fun n0 n1 n2 n3 n4 n5 => ?_⟩
      · have q := k2 μ1 Fr_rf
        rw [if_pos z] at q; exact q
      · subst z
        rw [i.1]
        exact m_trackOf hO0 F1m i8 S (k2 μ1 Fr_rf)
      · subst z
        rw [i.1]
        exact m_numberOf hO0 F1m i8 S (k2 μ1 Fr_rf)
      · subst z
        rw [i.1]
        exact m_told hO0 F1m i8 S (k2 μ1 Fr_rf)
      · subst z
        rw [i.1]
        exact m_sumOfSector hO0 F1m hb i8 S (fun μ' F' => k2 μ' F')
      · subst z
        exact k2 μ1 Fr_rf
      · simp only [if_neg n0, if_neg n1, if_neg n2, if_neg n3, if_neg n4, if_neg n5] at k2
        have k3 := k2 μ1 Fr_rf
        rw [F1m.2.2.2.2.1, show (9 : Int32) + nI (fm 4) = nI (9 + fm 4) from nI_add 9 _]
        refine s_in (fun h => ⟨fun _ => ?_, fun y => absurd rfl y⟩) (fun g1 g2 => ⟨fun y => absurd y (by decide), fun _ => ?_⟩)
        · rw [if_neg (fun q => h (by
            rw [q.1.1]
            have := q.1.2
            exact ⟨nI_le (a := 10) q.2 (by omega), nI_le (by omega) (by omega)⟩))] at k3
          exact k3
        · rcases Int32_cases x3 with hn | ⟨v, hv, rfl⟩
          · exact absurd g1 (neg_nle hn (by decide))
          · have g1 := (nI_leI (a := 10) (by decide) hv).mp g1
            have g2 := (nI_leI hv (by omega)).mp g2
            have ev := tn_nI hv
            rw [if_pos ⟨inN_of (by omega) (by omega), by rw [ev]; exact g1⟩, ev] at k3
            have e : (12 : Int32) * x2 + 2 + nI v - 10 = nI (12 * tn x2 + (2 + (v - 10))) := by
              have e12 : (12 : Int32) * x2 = nI (12 * tn x2) := by
                conv => lhs; rw [i.1]
                exact pk_mul 12 _
              rw [e12, show nI (12 * tn x2) + (2 : Int32) = nI (12 * tn x2 + 2) from nI_add _ 2, nI_add, show nI (12 * tn x2 + 2 + v) - (10 : Int32) = nI (12 * tn x2 + 2 + v - 10) from pk_sub (b := 10) (by omega)]
              congr 1
              omega
            rw [e, tn_nI (by omega), S.2.1 _ (by omega)]
            exact ⟨vp_in_nI (by omega) (by decide), k3⟩
end PFD
