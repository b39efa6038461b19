/-! SECTORS in RAW bits, by the class -/
def bv (b : Nat → Nat) (q : Nat) : Nat → Nat
  | 0 => 0
  | k + 1 => 2 * bv b q k + b (q + 2 * k + 1)
theorem bv_lt {b : Nat → Nat} (hb : ∀ j, b j ≤ 1) (q : Nat) : ∀ k, bv b q k < 2 ^ k
  | 0 => by show 0 < 2 ^ 0; decide
  | k + 1 => by
    have h := bv_lt hb q k
    have h2 := hb (q + 2 * k + 1)
    show 2 * bv b q k + b (q + 2 * k + 1) < 2 ^ (k + 1)
    rw [Nat.pow_succ]
    omega
def sb (b : Nat → Nat) (p i : Nat) : Nat := bv b (p + 16 * i) 8
theorem sb_lt {b : Nat → Nat} (hb : ∀ j, b j ≤ 1) (p i : Nat) : sb b p i < 256 := bv_lt hb _ 8
def pvb (fm b : Nat → Nat) (p k : Nat) : Nat := if k = 0 then fm 3 % 2 else b (p + 2 * k - 1)
def ckd (a c : Nat) : Nat := if a = 0 ∧ c = 0 then 1 else 0
def slp (fm b : Nat → Nat) (p k : Nat) : Bool := decide (b (p + 2 * k) ≠ ckd (pvb fm b p k) (b (p + 2 * k + 1)))
def SEC (fm b : Nat → Nat) (p q : Nat) (μ : mH) : Prop := μ 7 q 0 = nI p ∧ μ 7 q 1 = nI (sb b p (fm 8)) ∧ μ 7 q 2 = nI (sb b p (1 - fm 8)) ∧ μ 7 q 3 = nI (256 * sb b p (2 + fm 4) + sb b p (3 + fm 4)) ∧ μ 7 q 4 = nI (sm fm (sb b p) (2 + fm 4)) ∧ μ 7 q 5 = nI (fb_ct (slp fm b p) (8 * (4 + fm 4))) ∧ ∀ i, i < fm 4 → μ 24 q i = nI (sb b p (2 + i))
theorem BC_fr {n : Nat} {b : Nat → Nat} {l : List Nat} {μ μ' : mH} (h : BC n b μ) (hF : Fr l μ μ') (h1 : 5 ∉ l) (h2 : 22 ∉ l) : BC n b μ' := ⟨by rw [Fr_at hF h1]; exact h.1, fun j hj => by rw [Fr_at hF h2]; exact h.2 j hj⟩
theorem FMC_fr {i : Nat} {fm : Nat → Nat} {l : List Nat} {μ μ' : mH} (h : FMC i fm μ) (hF : Fr l μ μ') (h1 : 4 ∉ l) : FMC i fm μ' := fun s a c => by rw [Fr_at hF h1]; exact h s a c
theorem ckd_le (a c : Nat) : ckd a c ≤ 1 := by unfold ckd; split <;> decide
section PFI
variable {Γ : cx_T}
theorem s_clock {a c : Nat} {μ : mH} {Q : Int32 → mH → Prop} (ha : a < 2 ^ 31) (hc : c < 2 ^ 31) (kk : Q (nI (ckd a c)) μ) : cwi Γ M_X11_clockDue [aI (nI a), aI (nI c)] μ Q := by
  unfold ckd at kk
  refine u_X11_clockDue ⟨fun z => ?_, fun z => ⟨fun y => ?_, fun y => ?_⟩⟩
  · rw [if_neg (fun q => z (by rw [q.1]; rfl))] at kk; exact kk
  · rw [if_neg (fun q => y (by rw [q.2]; rfl))] at kk; exact kk
  · rw [if_pos ⟨(nI_eq (b := 0) ha (by decide)).mp z, (nI_eq (b := 0) hc (by decide)).mp y⟩] at kk; exact kk
theorem shl1 {v c : Nat} (hv : v < 2 ^ 16) (hc : c ≤ 1) : (nI v <<< ((1 : Int32) &&& 31)) ||| nI c = nI (2 * v + c) := by
  rw [pk_shlN (n := v) (1 &&& 31) 1 (by decide) (by omega)]
  have := fa_or_sum (a := c) (k := 1) v (by omega)
  rw [show v * 2 ^ 1 = 2 ^ 1 * v by omega, this]
theorem s_byteAt {p q i nb : Nat} {b : Nat → Nat} {μ : mH} {Q : Int32 → mH → Prop} (hB : BC nb b μ) (hb : ∀ j, b j ≤ 1) (hn : nb ≤ 2560) (h0 : μ 7 q 0 = nI p) (hp : p + 16 * i + 16 ≤ nb) (kk : Q (nI (sb b p i)) μ) : cwi Γ M_X7_byteAt [aR 7 q, aR 5 0, aI (nI i)] μ Q := by
  refine u_X7_byteAt ?_
  have e : μ 7 q 0 + nI i * (16 : Int32) = nI (p + 16 * i) := by
    rw [h0, show nI i * (16 : Int32) = nI (i * 16) from pk_mul i 16, nI_add, Nat.mul_comm]
  rw [e]
  have lp : ∀ d k, k + d = 8 → aw Γ M_X7_byteAt 18 [aX, aR 5 0, aX, aI (nI (p + 16 * i)), aI (nI (bv b (p + 16 * i) k)), aI (nI (p + 16 * i + 2 * k + 1))] [] μ (rI Q) := by
    intro d
    induction d with
    | zero =>
      intro k hk
      obtain rfl : k = 8 := by omega
      refine u_X7_byteAt_18 ?_
      rw [show nI (p + 16 * i) + (16 : Int32) = nI (p + 16 * i + 16) from nI_add _ 16]
      exact br_t (nI_le (by omega) (by omega)) kk
    | succ d ih =>
      intro k hk
      have hv := bv_lt hb (p + 16 * i) k
      have hv2 : 2 ^ k ≤ 2 ^ 8 := Nat.pow_le_pow_right (by decide) (by omega)
      refine u_X7_byteAt_18 ?_
      rw [show nI (p + 16 * i) + (16 : Int32) = nI (p + 16 * i + 16) from nI_add _ 16, hB.1, tn_nI (by omega), hB.2 _ (by omega), shl1 (by omega) (hb _), show nI (p + 16 * i + 2 * k + 1) + (2 : Int32) = nI (p + 16 * i + 2 * k + 1 + 2) from nI_add _ 2]
      refine br_f (nI_ge (by omega) (by omega)) (br_f (nI_ge (by omega) (by omega)) ⟨vp_in_nI (by omega) (by decide), ?_⟩)
      have := ih (k + 1) (by omega)
      rw [show p + 16 * i + 2 * (k + 1) + 1 = p + 16 * i + 2 * k + 1 + 2 by omega] at this
      exact this
  have := lp 8 0 rfl
  rw [show p + 16 * i + 2 * 0 + 1 = p + 16 * i + 1 by omega] at this
  rw [nI_1]
  exact this
theorem s_slipsIn {p q nb : Nat} {fm b : Nat → Nat} {μ : mH} {Q : Int32 → mH → Prop} (hO : OKF fm) (hF : FMC 1 fm μ) (hB : BC nb b μ) (hb : ∀ j, b j ≤ 1) (hn : nb ≤ 2560) (h0 : μ 7 q 0 = nI p) (hp : p + 16 * (4 + fm 4) ≤ nb) (kk : Q (nI (fb_ct (slp fm b p) (8 * (4 + fm 4)))) μ) : cwi Γ M_X7_slipsIn [aR 7 q, aR 5 0, aR 4 1] μ Q := by
  obtain ⟨o1, o2, o3, o4, o5, o6, o7, o8, o9, o10⟩ := hO
  refine u_X7_slipsIn ?_
  rw [h0, hF 4 (by decide) (by decide), hF 3 (by decide) (by decide), show (4 : Int32) + nI (fm 4) = nI (4 + fm 4) from nI_add 4 _, show nI (4 + fm 4) * (16 : Int32) = nI ((4 + fm 4) * 16) from pk_mul _ 16, nI_add, pk_andN (by omega) 1 (by decide)]
  have lp : ∀ d k, k + d = 8 * (4 + fm 4) → aw Γ M_X7_slipsIn 32 [aX, aR 5 0, aX, aI (nI (p + (4 + fm 4) * 16)), aI (nI (fb_ct (slp fm b p) k)), aI (nI (pvb fm b p k)), aI (nI (p + 2 * k)), aX] [] μ (rI Q) := by
    intro d
    induction d with
    | zero =>
      intro k hk
      obtain rfl : k = 8 * (4 + fm 4) := by omega
      refine u_X7_slipsIn_32 ?_
      rw [nI_1]
      exact br_t (nI_le (by omega) (by omega)) kk
    | succ d ih =>
      intro k hk
      have go := ih (k + 1) (by omega)
      have hpv : pvb fm b p k ≤ 1 := by
        unfold pvb
        split
        · omega
        · exact hb _
      have h1 := hb (p + 2 * k + 1)
      have h2 := hb (p + 2 * k)
      have h3 := ckd_le (pvb fm b p k) (b (p + 2 * k + 1))
      have ep : pvb fm b p (k + 1) = b (p + 2 * k + 1) := by
        unfold pvb
        rw [if_neg (by omega)]
        congr 1
      rw [ep, fb_ct_succ, show p + 2 * (k + 1) = p + 2 * k + 2 by omega] at go
      refine u_X7_slipsIn_32 ?_
      rw [nI_1, hB.1, tn_nI (by omega), tn_nI (by omega), hB.2 _ (by omega), hB.2 _ (by omega), nI_1, show nI (p + 2 * k) + (2 : Int32) = nI (p + 2 * k + 2) from nI_add _ 2]
      refine br_f (nI_ge (by omega) (by omega)) (br_f (nI_ge (by omega) (by omega)) ⟨vp_in_nI (by omega) (by decide), vp_in_nI (by omega) (by decide), s_clock (by omega) (by omega) ⟨fun z => ?_, fun z => ?_⟩⟩)
      · have z := (nI_eq (by omega) (by omega)).mp z
        have t : slp fm b p k = false := by simp [slp, z]
        rw [t] at go
        exact go
      · have t : slp fm b p k = true := by
          simp [slp]
          exact fun y => z (by rw [y])
        rw [t] at go
        exact go
  exact lp _ 0 (Nat.zero_add _)
theorem c_take {p q nb : Nat} {fm b : Nat → Nat} {μ : mH} {Q : mH → Prop} (hO : OKF fm) (hF : FMC 1 fm μ) (hB : BC nb b μ) (hb : ∀ j, b j ≤ 1) (hn : nb ≤ 2560) (hp : p + 16 * (4 + fm 4) ≤ nb)
    (kk : ∀ μ', SEC fm b p q μ' → Fr [7, 24] μ μ' → (∀ q', q' ≠ q → μ' 7 q' = μ 7 q' ∧ μ' 24 q' = μ 24 q') → Q μ') : cwv Γ M_X7_take [aR 7 q, aR 5 0, aI (nI p), aR 4 1] μ Q := by
  have hO0 := hO
  obtain ⟨o1, o2, o3, o4, o5, o6, o7, o8, o9, o10⟩ := hO
  have st7 : ∀ (μ1 : mH) (s : Nat) (x : Int32), (∀ q', q' ≠ q → μ1 7 q' = μ 7 q' ∧ μ1 24 q' = μ 24 q') → (∀ q', q' ≠ q → (sto μ1 7 q s x) 7 q' = μ 7 q' ∧ (sto μ1 7 q s x) 24 q' = μ 24 q') := fun μ1 s x h q' z => ⟨by rw [← (h q' z).1]; funext s'; exact sto_i z, by rw [← (h q' z).2]; funext s'; exact sto_K (by decide)⟩
  have st24 : ∀ (μ1 : mH) (s : Nat) (x : Int32), (∀ q', q' ≠ q → μ1 7 q' = μ 7 q' ∧ μ1 24 q' = μ 24 q') → (∀ q', q' ≠ q → (sto μ1 24 q s x) 7 q' = μ 7 q' ∧ (sto μ1 24 q s x) 24 q' = μ 24 q') := fun μ1 s x h q' z => ⟨by rw [← (h q' z).1]; funext s'; exact sto_K (by decide), by rw [← (h q' z).2]; funext s'; exact sto_i z⟩
  have F1 : Fr [7, 24] μ (sto μ 7 q 0 (nI p)) := Fr_sto (by decide)
  have lp : ∀ d i (μ1 : mH), i + d = fm 4 → Fr [7, 24] μ μ1 → (∀ q', q' ≠ q → μ1 7 q' = μ 7 q' ∧ μ1 24 q' = μ 24 q') → μ1 7 q 0 = nI p → μ1 7 q 1 = nI (sb b p (fm 8)) → μ1 7 q 2 = nI (sb b p (1 - fm 8)) → (∀ j, j < i → μ1 24 q j = nI (sb b p (2 + j))) → aw Γ M_X7_take 59 [aR 7 q, aR 5 0, aX, aR 4 1, aX, aX, aI (nI (fm 4)), aI (nI i)] [] μ1 (rV Q) := by
    intro d
    induction d with
    | zero =>
      intro i μ1 hi Fa ha h0 h1 h2 hd
      obtain rfl : i = fm 4 := by omega
      have B1 := BC_fr hB Fa (by decide) (by decide)
      refine u_X7_take_59 (br_t (nI_le (Nat.le_refl _) (by omega)) ?_)
      rw [show (2 : Int32) + nI (fm 4) = nI (2 + fm 4) from nI_add 2 _, show (3 : Int32) + nI (fm 4) = nI (3 + fm 4) from nI_add 3 _]
      refine s_byteAt B1 hb hn h0 (by omega) (s_byteAt B1 hb hn h0 (by omega) ?_)
      have l1 := sb_lt hb p (2 + fm 4)
      have l2 := sb_lt hb p (3 + fm 4)
      have er : (nI (sb b p (2 + fm 4)) <<< ((8 : Int32) &&& 31)) ||| nI (sb b p (3 + fm 4)) = nI (256 * sb b p (2 + fm 4) + sb b p (3 + fm 4)) := by
        rw [pk_shlN (n := sb b p (2 + fm 4)) (8 &&& 31) 8 (by decide) (by omega), show sb b p (2 + fm 4) * 2 ^ 8 = 2 ^ 8 * sb b p (2 + fm 4) by omega, fa_or_sum (k := 8) _ l2]
      rw [er, h1, h2]
      have F2 : Fr [7, 24] μ (sto μ1 7 q 3 (nI (256 * sb b p (2 + fm 4) + sb b p (3 + fm 4)))) := Fr_st2 Fa (by decide)
      refine s_sumOf hO0 (FMC_fr hF F2 (by decide)) (fun j _ => sb_lt hb p j) ?_ ?_ (fun j hj => by rw [sto_K (by decide)]; exact hd j hj) ?_
      · rcases (show fm 8 = 0 ∨ fm 8 = 1 by omega) with e | e <;> rw [e] <;> rfl
      · rcases (show fm 8 = 0 ∨ fm 8 = 1 by omega) with e | e <;> rw [e] <;> rfl
      · have F3 : Fr [7, 24] μ (sto (sto μ1 7 q 3 (nI (256 * sb b p (2 + fm 4) + sb b p (3 + fm 4)))) 7 q 4 (nI (sm fm (sb b p) (2 + fm 4)))) := Fr_st2 F2 (by decide)
        refine s_slipsIn hO0 (FMC_fr hF F3 (by decide)) (BC_fr hB F3 (by decide) (by decide)) hb hn (by rw [sto_s (by decide), sto_s (by decide)]; exact h0) hp ?_
        refine kk _ ⟨?_, ?_, ?_, ?_, ?_, sto_eq, fun i hi => ?_⟩ (Fr_st2 F3 (by decide)) (st7 _ _ _ (st7 _ _ _ (st7 _ _ _ ha)))
        · rw [sto_s (by decide), sto_s (by decide), sto_s (by decide)]; exact h0
        · rw [sto_s (by decide), sto_s (by decide), sto_s (by decide)]; exact h1
        · rw [sto_s (by decide), sto_s (by decide), sto_s (by decide)]; exact h2
        · rw [sto_s (by decide), sto_s (by decide), sto_eq]
        · rw [sto_s (by decide), sto_eq]
        · rw [sto_K (by decide), sto_K (by decide), sto_K (by decide)]; exact hd i hi
    | succ d ih =>
      intro i μ1 hi Fa ha h0 h1 h2 hd
      refine u_X7_take_59 (br_f (nI_ge (by omega) (by omega)) ?_)
      rw [show (2 : Int32) + nI i = nI (2 + i) from nI_add 2 _, tn_nI (by omega), nI_1]
      refine s_byteAt (BC_fr hB Fa (by decide) (by decide)) hb hn h0 (by omega) ⟨vp_in_nI (by omega) (by decide), ?_⟩
      refine ih (i + 1) _ (by omega) (Fr_st2 Fa (by decide)) (st24 _ _ _ ha) (by rw [sto_K (by decide)]; exact h0) (by rw [sto_K (by decide)]; exact h1) (by rw [sto_K (by decide)]; exact h2) (fun j hj => ?_)
      by_cases z : j = i
      · subst z; exact sto_eq
      · rw [sto_s z]; exact hd j (by omega)
  refine u_X7_take (s_byteAt (i := 0) (BC_fr hB F1 (by decide) (by decide)) hb hn sto_eq (by omega) (s_byteAt (i := 1) (BC_fr hB F1 (by decide) (by decide)) hb hn sto_eq (by omega) (s_first hO0 (FMC_fr hF F1 (by decide)) ?_)))
  have F2 : ∀ x, Fr [7, 24] μ (sto (sto μ 7 q 0 (nI p)) 7 q 1 x) := fun x => Fr_st2 F1 (by decide)
  refine s_second hO0 (FMC_fr hF (F2 _) (by decide)) ?_
  have F3 : ∀ x y, Fr [7, 24] μ (sto (sto (sto μ 7 q 0 (nI p)) 7 q 1 x) 7 q 2 y) := fun x y => Fr_st2 (F2 x) (by decide)
  refine s_min ?_
  have e4 : smn ((sto (sto μ 7 q 0 (nI p)) 7 q 1 (nI (if fm 8 = 0 then sb b p 0 else sb b p 1))) 4 1 4) 8 = nI (fm 4) := by
    rw [sto_K (by decide), sto_K (by decide), hF 4 (by decide) (by decide)]
    unfold smn
    by_cases z : fm 4 = 8
    · rw [z]; rfl
    · exact if_neg (nI_nlt (b := fm 4) (a := 8) (by omega) (by decide))
  rw [e4]
  refine lp (fm 4) 0 _ (Nat.zero_add _) (F3 _ _) (st7 _ _ _ (st7 _ _ _ (st7 _ _ _ (fun _ _ => ⟨rfl, rfl⟩)))) (by rw [sto_s (by decide), sto_s (by decide), sto_eq]) ?_ ?_ (fun j hj => absurd hj (by omega))
  · rw [sto_s (by decide), sto_eq]
    rcases (show fm 8 = 0 ∨ fm 8 = 1 by omega) with e | e <;> rw [e] <;> rfl
  · rw [sto_eq]
    rcases (show fm 8 = 0 ∨ fm 8 = 1 by omega) with e | e <;> rw [e] <;> rfl
end PFI
