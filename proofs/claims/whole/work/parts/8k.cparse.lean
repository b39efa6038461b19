def tB (a b c d e f : Bool) : Nat := (if a then 1 else 0) + (if b then 2 else 0) + (if c then 4 else 0) + (if d then 8 else 0) + (if e then 16 else 0) + (if f then 32 else 0)
def tld (g : Nat → Option Nat) : Nat := tB (g 0).isSome (g 1).isSome (g 2).isSome (g 4).isSome (g 5).isSome (g 8).isSome
theorem tB_bit : ∀ a b c d e f : Bool, (tB a b c d e f).testBit 0 = a ∧ (tB a b c d e f).testBit 1 = b ∧ (tB a b c d e f).testBit 2 = c ∧ (tB a b c d e f).testBit 3 = d ∧ (tB a b c d e f).testBit 4 = e ∧ (tB a b c d e f).testBit 5 = f := by decide
theorem tB_set : ∀ a b c d e f : Bool, tB a b c d e f ||| 2 ^ 0 = tB true b c d e f ∧ tB a b c d e f ||| 2 ^ 1 = tB a true c d e f ∧ tB a b c d e f ||| 2 ^ 2 = tB a b true d e f ∧ tB a b c d e f ||| 2 ^ 3 = tB a b c true e f ∧ tB a b c d e f ||| 2 ^ 4 = tB a b c d true f ∧ tB a b c d e f ||| 2 ^ 5 = tB a b c d e true := by decide
theorem tB_all : ∀ a b c d e f : Bool, (tB a b c d e f &&& 29 = 29) ↔ (a && (c && (d && e))) = true := by decide
theorem tB_lt : ∀ a b c d e f : Bool, tB a b c d e f < 64 := by decide
def sk5 (o : Option Nat) : Nat := if o = some 1 then 2 else if o = some 3 then 1 else 0
def GOK (g : Nat → Option Nat) : Prop := (∀ v, g 0 = some v → 8 ≤ v ∧ v ≤ 60) ∧ (∀ v, g 1 = some v → v ≤ 8) ∧ (∀ v, g 2 = some v → v < 256) ∧ (∀ v, g 3 = some v → v < 256) ∧ (∀ v, g 4 = some v → 1 ≤ v ∧ v ≤ 8) ∧ (∀ v, g 5 = some v → 1 ≤ v ∧ v ≤ 3) ∧ (∀ v, g 6 = some v → v < 65536) ∧ (∀ v, g 7 = some v → v < 65536) ∧ (∀ v, g 8 = some v → v = 1)
def DRF (g : Nat → Option Nat) (μ : mH) : Prop := μ 4 0 1 = nI ((g 0).getD 0) ∧ μ 4 0 2 = nI ((g 1).getD 0) ∧ μ 4 0 3 = nI (256 * (g 2).getD 0 + (g 3).getD 0) ∧ μ 4 0 4 = nI ((g 4).getD 0) ∧ μ 4 0 5 = nI (sk5 (g 5)) ∧ μ 4 0 6 = nI ((g 6).getD 0) ∧ μ 4 0 7 = nI ((g 7).getD 0) ∧ μ 4 0 8 = nI ((g 8).getD 0)
theorem DRF_2 {g : Nat → Option Nat} {μ μ' : mH} (h : DRF g μ) (hF : Fr [2] μ μ') : DRF g μ' := by
  unfold DRF
  rw [hF 4 (by decide)]
  exact h
def FPP (μ μ' : mH) : Prop := Fr [2, 4] μ μ' ∧ μ' 4 1 = μ 4 1
theorem FPP_2 {a b c : mH} (h : FPP a b) (h2 : Fr [2] b c) : FPP a c := ⟨Fr_tr h.1 (Fr_mono h2 (by decide)), by rw [h2 4 (by decide)]; exact h.2⟩
theorem FPP_s {a b : mH} {s : Nat} {x : Int32} (h : FPP a b) : FPP a (sto b 4 0 s x) := ⟨Fr_st2 h.1 (by decide), by rw [← h.2]; funext s'; exact sto_i (by decide)⟩
theorem FPP_s2 {a b : mH} {s : Nat} {x : Int32} (h : FPP a b) : FPP a (sto b 2 0 s x) := ⟨Fr_st2 h.1 (by decide), by rw [← h.2]; funext s'; exact sto_K (by decide)⟩
theorem TXC_4 {n : Nat} {t : Nat → Nat} {μ : mH} {s : Nat} {x : Int32} (h : TXC n t μ) : TXC n t (sto μ 4 0 s x) := ⟨h.1, by rw [sto_K (by decide)]; exact h.2.1, fun j hj => by rw [sto_K (by decide)]; exact h.2.2 j hj⟩
theorem TKC_4 {n p : Nat} {t : Nat → Nat} {μ : mH} {s : Nat} {x : Int32} (h : TKC n t p μ) : TKC n t p (sto μ 4 0 s x) := by
  unfold TKC
  rw [sto_K (by decide), sto_K (by decide), sto_K (by decide), sto_K (by decide)]
  exact h
section PCR
variable {Γ : cx_T}
theorem tKi_le4 (n : Nat) (t : Nat → Nat) (p : Nat) : tKi n t p ≤ 4 := by
  unfold tKi kp
  split
  · exact ckn_le _
  · decide
theorem c_takeNumber {n p lo hi : Nat} {t : Nat → Nat} {μ : mH} {Q : Int32 → mH → Prop} (hT : TXC n t μ) (hp : p ≤ n) (hK : TKC n t p μ) (hlo : lo ≤ 65535) (hhi : hi ≤ 65535) (k1 : nuc n t p lo hi = true → ∀ μ', TKC n t (tEn n t p) μ' → TXC n t μ' → Fr [2] μ μ' → μ' 2 0 6 = nI (tVa n t p) → μ' 2 0 7 = μ 2 0 7 → Q 1 μ') (k0 : nuc n t p lo hi = false → Q 0 μ) : cwi Γ M_X2_takeNumber [aR 2 0, aI (nI lo), aI (nI hi)] μ Q := by
  have he := tEn_le (t := t) hp
  have k4 := tKi_le4 n t p
  obtain ⟨a2, a3, a4, a5⟩ := hK
  refine u_X2_takeNumber ?_
  rw [a2]
  unfold nuc at k1 k0
  refine ⟨fun z => k0 ?_, fun z => ?_⟩
  · rw [show decide (tKi n t p = 1) = false by simp; exact fun w => z (by rw [w]; rfl)]
    rfl
  · have z := (nI_eq (b := 1) (by omega) (by decide)).mp z
    rw [a5 z]
    have dg : ∀ i, i < tLn n t p → 48 ≤ t (tS0 n t p + i) ∧ t (tS0 n t p + i) ≤ 57 := fun i hi => by
      have c2 : tS0 n t p + i < n := by unfold tEn at he; omega
      have eL : tLn n t p = tLd n t p := by unfold tLn; rw [if_neg (by omega), if_pos (Or.inr z)]
      have lk := tLd_b (n := n) (t := t) (a := p) (d := i) (by omega)
      unfold kp at lk
      rw [if_pos c2, z] at lk
      exact ckn_1.mp lk
    have rl := nv_rel (t := t) (s := tS0 n t p) (tLn n t p) dg
    have nl := nvc_le t (tS0 n t p) (tLn n t p)
    change (_ = tVa n t p ∧ tVa n t p ≤ 99999) ∨ (_ ∧ 99999 < tVa n t p) at rl
    rw [z] at k1 k0
    simp only [decide_true, Bool.true_and, Bool.and_eq_true, decide_eq_true_eq, Bool.and_eq_false_iff, decide_eq_false_iff_not] at k1 k0
    refine pk_lt (nvc t (tS0 n t p) (tLn n t p)) lo (fun q => k0 (by rcases rl with ⟨a, b⟩ | ⟨a, b⟩ <;> omega)) (fun q => pk_le (nvc t (tS0 n t p) (tLn n t p)) hi (fun q2 => ?_) (fun q2 => k0 (by rcases rl with ⟨a, b⟩ | ⟨a, b⟩ <;> omega)))
    rcases rl with ⟨a, b⟩ | ⟨a, b⟩
    · refine c_step (TXC_s hT (by decide)) he (by rw [sto_s (by decide)]; exact a4) (fun μ1 K1 T1 F1 g6 g7 => k1 ⟨by omega, by omega⟩ μ1 K1 T1 (Fr_tr (Fr_sto (by decide)) F1) ?_ ?_)
      · rw [g6, sto_eq, a]
      · rw [g7, sto_s (by decide)]
    · omega
theorem c_takeStop {n p : Nat} {t : Nat → Nat} {g : Nat → Option Nat} {μ : mH} {Q : Int32 → mH → Prop} (hT : TXC n t μ) (hp : p ≤ n) (hK : TKC n t p μ) (k1 : tKi n t p = 2 → ∀ μ', TKC n t (tEn n t p) μ' → TXC n t μ' → Fr [2] μ μ' → μ' 2 0 7 = μ 2 0 7 → Q 1 μ') (k0 : tKi n t p ≠ 2 → Q 0 μ) : cwi Γ M_X2_takeStop [aR 2 0] μ Q := by
  have he := tEn_le (t := t) hp
  have k4 := tKi_le4 n t p
  refine u_X2_takeStop ?_
  rw [hK.1]
  exact pk_eq (tKi n t p) 2 (fun c => c_step hT he hK.2.2.1 (fun μ1 K1 T1 F1 _ g7 => k1 c μ1 K1 T1 F1 g7)) (fun c => k0 c)
/-- a line is over: what comes behind it -/
def LE (Γ : cx_T) (n : Nat) (t : Nat → Nat) (Q : Int32 → mH → Prop) (l : Nat) (r : pR) (μ0 : mH) : Prop := match r with
  | .inl x => ∀ μ', x ≤ n → TXC n t μ' → FPP μ0 μ' → Q (nI x) μ'
  | .inr q => ∀ μ', q.1 ≤ n → TXC n t μ' → TKC n t q.1 μ' → FPP μ0 μ' → DRF q.2 μ' → GOK q.2 → μ' 2 0 7 = nI (tld q.2) → aw Γ M_X2_parse 20 [aR 2 0, aR 4 0, aI (nI (l + 1)), aX] [] μ' (rI Q)
theorem stop_end {n p l : Nat} {t : Nat → Nat} {g : Nat → Option Nat} {μ0 μ : mH} {Q : Int32 → mH → Prop} (hT : TXC n t μ) (hp : p ≤ n) (hK : TKC n t p μ) (hF : FPP μ0 μ) (hD : DRF g μ) (hG : GOK g) (h7 : μ 2 0 7 = nI (tld g)) (hE : LE Γ n t Q l (stpK n t p g) μ0) : cwi Γ M_X2_takeStop [aR 2 0] μ (fun r7 μ6 => (¬ r7 = 0 → aw Γ M_X2_parse 20 [aR 2 0, aR 4 0, aI (nI l + 1), aX] [] μ6 (rI Q)) ∧ (r7 = 0 → Q (μ6 2 0 3) μ6)) := by
  refine c_takeStop (g := g) hT hp hK (fun c μ1 K1 T1 F1 g7 => ⟨fun _ => ?_, fun z => absurd z (by decide)⟩) (fun c => ⟨fun z => absurd rfl z, fun _ => ?_⟩)
  · unfold stpK at hE
    rw [if_pos c] at hE
    rw [nI_1]
    exact hE μ1 (tEn_le hp) T1 K1 (FPP_2 hF F1) (DRF_2 hD F1) hG (by rw [g7]; exact h7)
  · unfold stpK at hE
    rw [if_neg c] at hE
    rw [hK.2.1]
    exact hE μ (tS0_le hp) hT hF
theorem c_parse {n : Nat} {t : Nat → Nat} {μ : mH} {Q : Int32 → mH → Prop} (hT : TXC n t μ) (kF : ∀ x μ', psr n t 201 0 (fun _ => none) = .inl x → x ≤ n → TXC n t μ' → FPP μ μ' → Q (nI x) μ') (kS : ∀ g μ', psr n t 201 0 (fun _ => none) = .inr g → TXC n t μ' → DRF g μ' → GOK g → (g 0).isSome = true → (g 4).isSome = true → (g 5).isSome = true → FPP μ μ' → Q (-1) μ') : cwi Γ M_X2_parse [aR 2 0, aR 4 0] μ Q := by
  have hn := hT.1
  have lp : ∀ F l p (g : Nat → Option Nat) (μ1 : mH), l + F = 201 → l ≤ tS0 n t p → p ≤ n → psr n t 201 0 (fun _ => none) = psr n t F p g → TXC n t μ1 → TKC n t p μ1 → FPP μ μ1 → DRF g μ1 → GOK g → μ1 2 0 7 = nI (tld g) → aw Γ M_X2_parse 20 [aR 2 0, aR 4 0, aI (nI l), aX] [] μ1 (rI Q) := by
    intro F
    induction F with
    | zero =>
      intro l p g μ1 hl hls hp
      have := tS0_le (t := t) hp
      omega
    | succ F ih =>
      intro l p g μ1 hl hls hp ep T1 K1 F1 D1 G1 h7
      have hs := tS0_le (t := t) hp
      have he := tEn_le (t := t) hp
      have k4 := tKi_le4 n t p
      have tl := tB_lt (g 0).isSome (g 1).isSome (g 2).isSome (g 4).isSome (g 5).isSome (g 8).isSome
      change tld g < 64 at tl
      have fin : tKi n t p = 3 → (¬ (μ1 2 0 7 &&& 29) = 29 → Q (μ1 2 0 1) μ1) ∧ ((μ1 2 0 7 &&& 29) = 29 → Q (-1) μ1) := fun k3 => by
        have e3 : tS0 n t p = n := by
          have := kp_3.mp (show kp n t (tS0 n t p) = 3 from k3)
          omega
        have al := tB_all (g 0).isSome (g 1).isSome (g 2).isSome (g 4).isSome (g 5).isSome (g 8).isSome
        change (tld g &&& 29 = 29) ↔ _ at al
        have ple : psr n t (F + 1) p g = if (g 0).isSome && ((g 2).isSome && ((g 4).isSome && (g 5).isSome)) then .inr g else .inl (tS0 n t p) := by
          show (if tKi n t p = 3 then _ else _) = _
          rw [if_pos k3]
        rw [h7, show (29 : Int32) = nI 29 from rfl, fa_and, T1.2.1]
        have hlt : tld g &&& 29 < 2 ^ 31 := Nat.lt_of_le_of_lt Nat.and_le_right (by decide)
        rw [nI_eq hlt (by decide), al]
        refine ⟨fun z => ?_, fun z => ?_⟩
        · rw [if_neg z] at ple
          rw [← e3]
          exact kF _ μ1 (ep.trans ple) hs T1 F1
        · rw [if_pos z] at ple
          simp only [Bool.and_eq_true] at z
          exact kS g μ1 (ep.trans ple) T1 D1 G1 z.1 z.2.2.1 z.2.2.2 F1
      refine u_X2_parse_20 ?_
      rw [K1.1]
      refine pk_le 200 l (fun q => fin ?_) (fun q => ⟨fun z => fin ((nI_eq (b := 3) (by omega) (by decide)).mp z), fun z => ?_⟩)
      · exact kp_3.mpr (by omega)
      · have k3 : tKi n t p ≠ 3 := fun y => z (by rw [y]; rfl)
        have e1 := tLn_1 k3
        have pl : psr n t (F + 1) p g = match linF n t p g with
            | .inl x => .inl x
            | .inr q => psr n t F q.1 q.2 := by
          show (if tKi n t p = 3 then _ else _) = _
          rw [if_neg k3]
          cases linF n t p g <;> rfl
        -- what the line gives
        have hE : ∀ r, linF n t p g = r → LE Γ n t Q l r μ := by
          intro r hr
          rw [hr] at pl
          cases r with
          | inl x => exact fun μ' hx T' F' => kF x μ' (ep.trans pl) hx T' F'
          | inr q =>
            intro μ' hq T' K' F' D' G' h7'
            have := linF_ok hr
            refine ih (l + 1) q.1 q.2 μ' (by omega) ?_ hq (ep.trans pl) T' K' F' D' G' h7'
            have : q.1 ≤ tS0 n t q.1 := by unfold tS0; omega
            unfold tEn at *
            omega
        have bad : ∀ r : pR, linF n t p g = r → r = .inl (tS0 n t p) → Q (μ1 2 0 3) μ1 := fun r hr h => by
          have := hE r hr
          rw [h] at this
          rw [K1.2.1]
          exact this μ1 hs T1 F1
        -- a line that has begun
        have beg : ∀ (i j : Nat) (rest : pR), j < 6 → (tld g).testBit j = (g i).isSome → linF n t p g = (if (g i).isSome then .inl (tS0 n t p) else rest) → ((g i).isSome = false → ∀ μ2, TXC n t μ2 → TKC n t (tEn n t p) μ2 → FPP μ μ2 → DRF g μ2 → μ2 2 0 7 = nI (tld g ||| 2 ^ j) → LE Γ n t Q l rest μ → cwi Γ M_X2_takeRest [aR 2 0, aI (nI j), aR 4 0] μ2 (fun r5 μ4 => (r5 = 0 → Q (μ4 2 0 3) μ4) ∧ (¬ r5 = 0 → cwi Γ M_X2_takeStop [aR 2 0] μ4 (fun r7 μ6 => (¬ r7 = 0 → aw Γ M_X2_parse 20 [aR 2 0, aR 4 0, aI (nI l + 1), aX] [] μ6 (rI Q)) ∧ (r7 = 0 → Q (μ6 2 0 3) μ6))))) → ((nI j = -1 → Q (μ1 2 0 3) μ1) ∧ (¬ nI j = -1 → ((((μ1 2 0 7 >>> (nI j &&& 31)) &&& 1) = 0 → cwv Γ M_X2_step [aR 2 0] (sto μ1 2 0 7 (μ1 2 0 7 ||| (1 <<< (nI j &&& 31)))) (fun μ3 => cwi Γ M_X2_takeRest [aR 2 0, aI (nI j), aR 4 0] μ3 (fun r5 μ4 => (r5 = 0 → Q (μ4 2 0 3) μ4) ∧ (¬ r5 = 0 → cwi Γ M_X2_takeStop [aR 2 0] μ4 (fun r7 μ6 => (¬ r7 = 0 → aw Γ M_X2_parse 20 [aR 2 0, aR 4 0, aI (nI l + 1), aX] [] μ6 (rI Q)) ∧ (r7 = 0 → Q (μ6 2 0 3) μ6)))))) ∧ (¬ ((μ1 2 0 7 >>> (nI j &&& 31)) &&& 1) = 0 → Q (μ1 2 0 3) μ1)))) := by
          intro i j rest hj hb hl2 kr
          refine ⟨fun z => absurd z (nI_m1 (by omega)), fun _ => ?_⟩
          rw [h7, mb_t (by omega) (by omega), mb_s _ (by omega), hb]
          cases eg : (g i).isSome
          · rw [eg] at hl2
            refine ⟨fun _ => ?_, fun z => absurd rfl z⟩
            refine c_step (TXC_s T1 (by decide)) he (by rw [sto_s (by decide)]; exact K1.2.2.1) (fun μ2 K2 T2 F2 _ g7 => kr eg μ2 T2 K2 (FPP_2 (FPP_s2 F1) F2) (DRF_2 (DRF_2 D1 (Fr_sto (by decide))) F2) (by rw [g7, sto_eq]) (hE _ hl2))
          · rw [eg] at hl2
            exact ⟨fun z => absurd z (by decide), fun _ => bad _ hl2 rfl⟩
        obtain ⟨t0, t1, t2, t3, t4, t5⟩ := tB_bit (g 0).isSome (g 1).isSome (g 2).isSome (g 4).isSome (g 5).isSome (g 8).isSome
        obtain ⟨s0, s1, s2, s3, s4, s5⟩ := tB_set (g 0).isSome (g 1).isSome (g 2).isSome (g 4).isSome (g 5).isSome (g 8).isSome
        obtain ⟨G0, G1', G2, G3, G4, G5, G6, G7, G8⟩ := G1
        -- one number, and the stop
        have one : ∀ (j lo hi i : Nat) (μ2 : mH), lo ≤ 65535 → hi ≤ 65535 → TXC n t μ2 → TKC n t (tEn n t p) μ2 → FPP μ μ2 → LE Γ n t Q l (num1 n t (tEn n t p) lo hi i g) μ → (∀ μ3, TXC n t μ3 → TKC n t (tEn n t (tEn n t p)) μ3 → Fr [2] μ2 μ3 → μ3 2 0 7 = μ2 2 0 7 → nuc n t (tEn n t p) lo hi = true → DRF (upo g i (tVa n t (tEn n t p))) (sto μ3 4 0 j (nI (tVa n t (tEn n t p)))) ∧ GOK (upo g i (tVa n t (tEn n t p))) ∧ μ2 2 0 7 = nI (tld (upo g i (tVa n t (tEn n t p))))) → cwi Γ M_X2_takeNumber [aR 2 0, aI (nI lo), aI (nI hi)] μ2 (fun r2 μ1 => (r2 = 0 ∨ r2 = 1) ∧ ((r2 = 0 → Q ((sto μ1 4 0 j (μ1 2 0 6)) 2 0 3) (sto μ1 4 0 j (μ1 2 0 6))) ∧ (¬ r2 = 0 → cwi Γ M_X2_takeStop [aR 2 0] (sto μ1 4 0 j (μ1 2 0 6)) (fun r7 μ6 => (¬ r7 = 0 → aw Γ M_X2_parse 20 [aR 2 0, aR 4 0, aI (nI l + 1), aX] [] μ6 (rI Q)) ∧ (r7 = 0 → Q (μ6 2 0 3) μ6))))) := by
          intro j lo hi i μ2 hlo hhi T2 K2 F2 L2 up
          have hp2 := tEn_le (t := t) he
          unfold num1 at L2
          refine c_takeNumber T2 he K2 hlo hhi (fun ok μ3 K3 T3 F3 g6 g7 => ⟨Or.inr rfl, fun z => absurd z (by decide), fun _ => ?_⟩) (fun no => ⟨Or.inl rfl, fun _ => ?_, fun z => absurd rfl z⟩)
          · obtain ⟨u1, u2, u3⟩ := up μ3 T3 K3 F3 g7 ok
            rw [if_pos ok] at L2
            rw [g6]
            exact stop_end (TXC_4 T3) hp2 (TKC_4 K3) (FPP_s (FPP_2 F2 F3)) u1 u2 (by rw [sto_K (by decide), g7]; exact u3) L2
          · rw [if_neg (by rw [no]; decide)] at L2
            rw [sto_K (by decide), K2.2.1]
            exact L2 _ (tS0_le he) (TXC_4 T2) (FPP_s F2)
        have nucR : ∀ {p' lo hi}, nuc n t p' lo hi = true → lo ≤ tVa n t p' ∧ tVa n t p' ≤ hi := fun h => by
          unfold nuc at h
          simp only [Bool.and_eq_true, decide_eq_true_eq] at h
          exact h.2
        refine u_X2_lineBegun (c_isWord (by decide) T1 hp K1 (fun w0 => ⟨fun z => absurd z (by decide), fun _ => ?_⟩) (fun w0 => ⟨fun _ => ?_, fun z => absurd rfl z⟩))
        · -- cell
          refine beg 0 0 (num1 n t (tEn n t p) 8 60 0 g) (by decide) t0 (by unfold linF; rw [if_pos w0]) (fun eg μ2 T2 K2 F2 D2 g7 L2 => u_X2_takeRest ⟨fun _ => ?_, fun z => absurd z (by decide), fun z => absurd z (by decide), fun z => absurd z (by decide), fun z => absurd z (by decide), fun z => absurd rfl z⟩)
          refine one 1 8 60 0 μ2 (by decide) (by decide) T2 K2 F2 L2 (fun μ3 T3 K3 F3 g7' ok => ?_)
          obtain ⟨d1, d2, d3, d4, d5, d6, d7, d8⟩ := DRF_2 D2 F3
          have r := nucR ok
          refine ⟨⟨sto_eq, by rw [sto_s (by decide)]; exact d2, by rw [sto_s (by decide)]; exact d3, by rw [sto_s (by decide)]; exact d4, by rw [sto_s (by decide)]; exact d5, by rw [sto_s (by decide)]; exact d6, by rw [sto_s (by decide)]; exact d7, by rw [sto_s (by decide)]; exact d8⟩, ⟨fun v hv => by rw [upo_eq] at hv; injection hv; omega, G1', G2, G3, G4, G5, G6, G7, G8⟩, ?_⟩
          rw [g7]
          congr 1
        · refine c_isWord (by decide) T1 hp K1 (fun w1 => ⟨fun z => absurd z (by decide), fun _ => ?_⟩) (fun w1 => ⟨fun _ => ?_, fun z => absurd rfl z⟩)
          · -- gain
            refine beg 1 1 (num1 n t (tEn n t p) 0 8 1 g) (by decide) t1 (by unfold linF; rw [if_neg (by rw [w0]; decide), if_pos w1]) (fun eg μ2 T2 K2 F2 D2 g7 L2 => u_X2_takeRest ⟨fun z => absurd z (by decide), fun _ => ?_, fun z => absurd z (by decide), fun z => absurd z (by decide), fun z => absurd z (by decide), fun _ z => absurd rfl z⟩)
            refine one 2 0 8 1 μ2 (by decide) (by decide) T2 K2 F2 L2 (fun μ3 T3 K3 F3 g7' ok => ?_)
            obtain ⟨d1, d2, d3, d4, d5, d6, d7, d8⟩ := DRF_2 D2 F3
            have r := nucR ok
            refine ⟨⟨by rw [sto_s (by decide)]; exact d1, sto_eq, by rw [sto_s (by decide)]; exact d3, by rw [sto_s (by decide)]; exact d4, by rw [sto_s (by decide)]; exact d5, by rw [sto_s (by decide)]; exact d6, by rw [sto_s (by decide)]; exact d7, by rw [sto_s (by decide)]; exact d8⟩, ⟨G0, fun v hv => by rw [upo_eq] at hv; injection hv; omega, G2, G3, G4, G5, G6, G7, G8⟩, ?_⟩
            rw [g7]
            congr 1
          · refine c_isWord (by decide) T1 hp K1 (fun w2 => ⟨fun z => absurd z (by decide), fun _ => ?_⟩) (fun w2 => ⟨fun _ => ?_, fun z => absurd rfl z⟩)
            · -- mark
              refine beg 2 2 (num2 n t (tEn n t p) 255 2 3 g) (by decide) t2 (by unfold linF; rw [if_neg (by rw [w0]; decide), if_neg (by rw [w1]; decide), if_pos w2]) (fun eg μ2 T2 K2 F2 D2 g7 L2 => u_X2_takeRest ⟨fun z => absurd z (by decide), fun z => absurd z (by decide), fun _ => ?_, fun z => absurd z (by decide), fun z => absurd z (by decide), fun _ _ z => absurd rfl z⟩)
              unfold num2 at L2
              have hp2 := tEn_le (t := t) he
              have hp3 := tEn_le (t := t) hp2
              refine u_X2_takeMark (c_takeNumber (lo := 0) (hi := 255) T2 he K2 (by decide) (by decide) (fun ok μ3 K3 T3 F3 g6 g7' => ⟨fun _ => ?_, fun z => absurd z (by decide)⟩) (fun no => ⟨fun z => absurd rfl z, fun _ => ⟨Or.inl rfl, fun _ => ?_, fun z => absurd rfl z⟩⟩))
              · rw [if_pos ok] at L2
                have r1 := nucR ok
                rw [g6, pk_shlN (n := tVa n t (tEn n t p)) (8 &&& 31) 8 (by decide) (by omega)]
                refine c_takeNumber (lo := 0) (hi := 255) (TXC_4 T3) hp2 (TKC_4 K3) (by decide) (by decide) (fun ok2 μ4 K4 T4 F4 h6 h7' => ⟨fun _ => ⟨Or.inr rfl, fun z => absurd z (by decide), fun _ => ?_⟩, fun z => absurd z (by decide)⟩) (fun no => ⟨fun z => absurd rfl z, fun _ => ⟨Or.inl rfl, fun _ => ?_, fun z => absurd rfl z⟩⟩)
                · rw [if_pos ok2] at L2
                  have r2 := nucR ok2
                  obtain ⟨d1, d2, d3, d4, d5, d6, d7, d8⟩ := DRF_2 D2 F3
                  have e3 : μ4 4 0 3 ||| μ4 2 0 6 = nI (256 * tVa n t (tEn n t p) + tVa n t (tEn n t (tEn n t p))) := by
                    rw [Fr_at F4 (by decide), sto_eq, h6, show tVa n t (tEn n t p) * 2 ^ 8 = 2 ^ 8 * tVa n t (tEn n t p) by omega, fa_or_sum (k := 8) _ (by omega)]
                  have c4 : ∀ s, s ≠ 3 → μ4 4 0 s = μ3 4 0 s := fun s hs => by rw [Fr_at F4 (by decide), sto_s hs]
                  rw [e3]
                  refine stop_end (g := upo (upo g 2 (tVa n t (tEn n t p))) 3 (tVa n t (tEn n t (tEn n t p)))) (TXC_4 T4) hp3 (TKC_4 K4) (FPP_s (FPP_2 (FPP_s (FPP_2 F2 F3)) F4)) ⟨by rw [sto_s (by decide), c4 1 (by decide)]; exact d1, by rw [sto_s (by decide), c4 2 (by decide)]; exact d2, sto_eq, by rw [sto_s (by decide), c4 4 (by decide)]; exact d4, by rw [sto_s (by decide), c4 5 (by decide)]; exact d5, by rw [sto_s (by decide), c4 6 (by decide)]; exact d6, by rw [sto_s (by decide), c4 7 (by decide)]; exact d7, by rw [sto_s (by decide), c4 8 (by decide)]; exact d8⟩ ⟨G0, G1', fun v hv => by rw [upo_ne _ (by decide), upo_eq] at hv; injection hv; omega, fun v hv => by rw [upo_eq] at hv; injection hv; omega, G4, G5, G6, G7, G8⟩ ?_ L2
                  rw [sto_K (by decide), h7', sto_K (by decide), g7', g7]
                  congr 1
                · rw [if_neg (by rw [no]; decide)] at L2
                  rw [sto_K (by decide), K3.2.1]
                  exact L2 _ (tS0_le hp2) (TXC_4 T3) (FPP_s (FPP_2 F2 F3))
              · rw [if_neg (by rw [no]; decide)] at L2
                rw [K2.2.1]
                exact L2 _ (tS0_le he) T2 F2
            · refine c_isWord (by decide) T1 hp K1 (fun w3 => ⟨fun z => absurd z (by decide), fun _ => ?_⟩) (fun w3 => ⟨fun _ => ?_, fun z => absurd rfl z⟩)
              · -- data
                refine beg 4 3 (num1 n t (tEn n t p) 1 8 4 g) (by decide) t3 (by unfold linF; rw [if_neg (by rw [w0]; decide), if_neg (by rw [w1]; decide), if_neg (by rw [w2]; decide), if_pos w3]) (fun eg μ2 T2 K2 F2 D2 g7 L2 => u_X2_takeRest ⟨fun z => absurd z (by decide), fun z => absurd z (by decide), fun z => absurd z (by decide), fun _ => ?_, fun z => absurd z (by decide), fun _ _ _ z => absurd rfl z⟩)
                refine one 4 1 8 4 μ2 (by decide) (by decide) T2 K2 F2 L2 (fun μ3 T3 K3 F3 g7' ok => ?_)
                obtain ⟨d1, d2, d3, d4, d5, d6, d7, d8⟩ := DRF_2 D2 F3
                have r := nucR ok
                refine ⟨⟨by rw [sto_s (by decide)]; exact d1, by rw [sto_s (by decide)]; exact d2, by rw [sto_s (by decide)]; exact d3, sto_eq, by rw [sto_s (by decide)]; exact d5, by rw [sto_s (by decide)]; exact d6, by rw [sto_s (by decide)]; exact d7, by rw [sto_s (by decide)]; exact d8⟩, ⟨G0, G1', G2, G3, fun v hv => by rw [upo_eq] at hv; injection hv; omega, G5, G6, G7, G8⟩, ?_⟩
                rw [g7]
                congr 1
              · refine c_isWord (by decide) T1 hp K1 (fun w4 => ⟨fun z => absurd z (by decide), fun _ => ?_⟩) (fun w4 => ⟨fun _ => ?_, fun z => absurd rfl z⟩)
                · -- sum
                  refine beg 5 4 (sumK n t (tEn n t p) g) (by decide) t4 (by unfold linF; rw [if_neg (by rw [w0]; decide), if_neg (by rw [w1]; decide), if_neg (by rw [w2]; decide), if_neg (by rw [w3]; decide), if_pos w4]) (fun eg μ2 T2 K2 F2 D2 g7 L2 => u_X2_takeRest ⟨fun z => absurd z (by decide), fun z => absurd z (by decide), fun z => absurd z (by decide), fun z => absurd z (by decide), fun _ => ?_, fun _ _ _ _ z => absurd rfl z⟩)
                  have hp2 := tEn_le (t := t) he
                  have hp3 := tEn_le (t := t) hp2
                  have hp4 := tEn_le (t := t) hp3
                  obtain ⟨d1, d2, d3, d4, d5, d6, d7, d8⟩ := D2
                  unfold sumK at L2
                  have wne : ∀ a b, a < 9 → b < 9 → a ≠ b → wrd n t (tEn n t p) a = true → wrd n t (tEn n t p) b = true → pkv (wby a) (wl a) = pkv (wby b) (wl b) ∧ wl a = wl b := fun a b _ _ _ ha hb => by
                    unfold wrd at ha hb
                    simp only [Bool.and_eq_true, decide_eq_true_eq] at ha hb
                    have el : wl a = wl b := by rw [← ha.2.1, ← hb.2.1]
                    refine ⟨?_, el⟩
                    rw [← ha.2.2, ← hb.2.2, el]
                  have no68 : wrd n t (tEn n t p) 6 = true → wrd n t (tEn n t p) 8 = false := fun h => by
                    cases e : wrd n t (tEn n t p) 8
                    · rfl
                    · exact absurd (wne 6 8 (by decide) (by decide) (by decide) h e).1 (by decide)
                  have no78 : wrd n t (tEn n t p) 7 = true → wrd n t (tEn n t p) 8 = false := fun h => by
                    cases e : wrd n t (tEn n t p) 8
                    · rfl
                    · exact absurd (wne 7 8 (by decide) (by decide) (by decide) h e).1 (by decide)
                  refine u_X2_takeSum (c_isWord (by decide) T2 he K2 (fun v6 => ⟨fun z => absurd z (by decide), fun _ => ?_⟩) (fun v6 => ⟨fun _ => c_isWord (by decide) T2 he K2 (fun v7 => ⟨fun z => absurd z (by decide), fun _ => ?_⟩) (fun v7 => ⟨fun _ => c_isWord (by decide) T2 he K2 (fun v8 => ⟨fun _ => ?_, fun z => absurd z (by decide)⟩) (fun v8 => ⟨fun z => absurd rfl z, fun _ => ⟨Or.inl rfl, fun _ => ?_, fun z => absurd rfl z⟩⟩), fun z => absurd rfl z⟩), fun z => absurd rfl z⟩))
                  · rw [if_neg (by rw [no68 v6]; decide), if_pos v6] at L2
                    refine c_step (TXC_4 T2) hp2 (by rw [sto_K (by decide)]; exact K2.2.2.1) (fun μ3 K3 T3 F3 _ h7' => ⟨Or.inr rfl, fun z => absurd z (by decide), fun _ => ?_⟩)
                    refine stop_end (g := upo g 5 2) T3 hp2 K3 (FPP_2 (FPP_s F2) F3) (DRF_2 (g := upo g 5 2) ⟨by rw [sto_s (by decide)]; exact d1, by rw [sto_s (by decide)]; exact d2, by rw [sto_s (by decide)]; exact d3, by rw [sto_s (by decide)]; exact d4, by rw [sto_eq]; rfl, by rw [sto_s (by decide)]; exact d6, by rw [sto_s (by decide)]; exact d7, by rw [sto_s (by decide)]; exact d8⟩ F3) ⟨G0, G1', G2, G3, G4, fun v hv => by rw [upo_eq] at hv; injection hv; omega, G6, G7, G8⟩ ?_ L2
                    rw [h7', sto_K (by decide), g7]
                    congr 1
                  · rw [if_neg (by rw [no78 v7]; decide), if_neg (by rw [v6]; decide), if_pos v7] at L2
                    refine c_step (TXC_4 T2) hp2 (by rw [sto_K (by decide)]; exact K2.2.2.1) (fun μ3 K3 T3 F3 _ h7' => ⟨Or.inr rfl, fun z => absurd z (by decide), fun _ => ?_⟩)
                    refine stop_end (g := upo g 5 3) T3 hp2 K3 (FPP_2 (FPP_s F2) F3) (DRF_2 (g := upo g 5 3) ⟨by rw [sto_s (by decide)]; exact d1, by rw [sto_s (by decide)]; exact d2, by rw [sto_s (by decide)]; exact d3, by rw [sto_s (by decide)]; exact d4, by rw [sto_eq]; rfl, by rw [sto_s (by decide)]; exact d6, by rw [sto_s (by decide)]; exact d7, by rw [sto_s (by decide)]; exact d8⟩ F3) ⟨G0, G1', G2, G3, G4, fun v hv => by rw [upo_eq] at hv; injection hv; omega, G6, G7, G8⟩ ?_ L2
                    rw [h7', sto_K (by decide), g7]
                    congr 1
                  · rw [if_pos v8] at L2
                    unfold num2 at L2
                    refine c_step (TXC_4 T2) hp2 (by rw [sto_K (by decide)]; exact K2.2.2.1) (fun μ3 K3 T3 F3 _ h7' => ?_)
                    have F3' := FPP_2 (FPP_s F2 (s := 5) (x := 2)) F3
                    refine c_takeNumber (lo := 0) (hi := 65535) T3 hp2 K3 (by decide) (by decide) (fun ok μ4 K4 T4 F4 h6 i7 => ⟨fun _ => ?_, fun z => absurd z (by decide)⟩) (fun no => ⟨fun z => absurd rfl z, fun _ => ⟨Or.inl rfl, fun _ => ?_, fun z => absurd rfl z⟩⟩)
                    · rw [if_pos ok] at L2
                      have r1 := nucR ok
                      rw [h6]
                      refine c_takeNumber (lo := 0) (hi := 65535) (TXC_4 T4) hp3 (TKC_4 K4) (by decide) (by decide) (fun ok2 μ5 K5 T5 F5 j6 j7 => ⟨fun _ => ⟨Or.inr rfl, fun z => absurd z (by decide), fun _ => ?_⟩, fun z => absurd z (by decide)⟩) (fun no => ⟨fun z => absurd rfl z, fun _ => ⟨Or.inl rfl, fun _ => ?_, fun z => absurd rfl z⟩⟩)
                      · rw [if_pos ok2] at L2
                        have r2 := nucR ok2
                        have c5 : ∀ s, s ≠ 6 → s ≠ 5 → μ5 4 0 s = μ2 4 0 s := fun s a b => by rw [Fr_at F5 (by decide), sto_s a, Fr_at F4 (by decide), Fr_at F3 (by decide), sto_s b]
                        rw [j6]
                        refine stop_end (g := upo (upo (upo g 5 1) 6 (tVa n t (tEn n t (tEn n t p)))) 7 (tVa n t (tEn n t (tEn n t (tEn n t p))))) (TXC_4 T5) hp4 (TKC_4 K5) (FPP_s (FPP_2 (FPP_s (FPP_2 F3' F4)) F5)) ⟨by rw [sto_s (by decide), c5 1 (by decide) (by decide)]; exact d1, by rw [sto_s (by decide), c5 2 (by decide) (by decide)]; exact d2, by rw [sto_s (by decide), c5 3 (by decide) (by decide)]; exact d3, by rw [sto_s (by decide), c5 4 (by decide) (by decide)]; exact d4, by rw [sto_s (by decide), Fr_at F5 (by decide), sto_s (by decide), Fr_at F4 (by decide), Fr_at F3 (by decide), sto_eq]; rfl, by rw [sto_s (by decide), Fr_at F5 (by decide), sto_eq]; rfl, sto_eq, by rw [sto_s (by decide), c5 8 (by decide) (by decide)]; exact d8⟩ ⟨G0, G1', G2, G3, G4, fun v hv => by rw [upo_ne _ (by decide), upo_ne _ (by decide), upo_eq] at hv; injection hv; omega, fun v hv => by rw [upo_ne _ (by decide), upo_eq] at hv; injection hv; omega, fun v hv => by rw [upo_eq] at hv; injection hv; omega, G8⟩ ?_ L2
                        rw [sto_K (by decide), j7, sto_K (by decide), i7, h7', sto_K (by decide), g7]
                        congr 1
                      · rw [if_neg (by rw [no]; decide)] at L2
                        rw [sto_K (by decide), K4.2.1]
                        exact L2 _ (tS0_le hp3) (TXC_4 T4) (FPP_s (FPP_2 F3' F4))
                    · rw [if_neg (by rw [no]; decide)] at L2
                      rw [K3.2.1]
                      exact L2 _ (tS0_le hp2) T3 F3'
                  · rw [if_neg (by rw [v8]; decide), if_neg (by rw [v6]; decide), if_neg (by rw [v7]; decide)] at L2
                    rw [K2.2.1]
                    exact L2 _ (tS0_le he) T2 F2
                · refine c_isWord (by decide) T1 hp K1 (fun w5 => ⟨fun z => absurd z (by decide), fun _ => ?_⟩) (fun w5 => ⟨fun _ => ?_, fun z => absurd rfl z⟩)
                  · -- swap
                    refine beg 8 5 (stpK n t (tEn n t p) (upo g 8 1)) (by decide) t5 (by unfold linF; rw [if_neg (by rw [w0]; decide), if_neg (by rw [w1]; decide), if_neg (by rw [w2]; decide), if_neg (by rw [w3]; decide), if_neg (by rw [w4]; decide), if_pos w5]) (fun eg μ2 T2 K2 F2 D2 g7 L2 => u_X2_takeRest ⟨fun z => absurd z (by decide), fun z => absurd z (by decide), fun z => absurd z (by decide), fun z => absurd z (by decide), fun z => absurd z (by decide), fun _ _ _ _ _ => ⟨fun z => absurd z (by decide), fun _ => ?_⟩⟩)
                    obtain ⟨d1, d2, d3, d4, d5, d6, d7, d8⟩ := D2
                    refine stop_end (g := upo g 8 1) (TXC_4 T2) he (TKC_4 K2) (FPP_s F2) ⟨by rw [sto_s (by decide)]; exact d1, by rw [sto_s (by decide)]; exact d2, by rw [sto_s (by decide)]; exact d3, by rw [sto_s (by decide)]; exact d4, by rw [sto_s (by decide)]; exact d5, by rw [sto_s (by decide)]; exact d6, by rw [sto_s (by decide)]; exact d7, by rw [sto_eq]; rfl⟩ ⟨G0, G1', G2, G3, G4, G5, G6, G7, fun v hv => by rw [upo_eq] at hv; injection hv; omega⟩ ?_ L2
                    rw [sto_K (by decide), g7]
                    congr 1
                  · refine ⟨fun _ => ?_, fun z => absurd rfl z⟩
                    refine bad _ rfl ?_
                    unfold linF
                    rw [if_neg (by rw [w0]; decide), if_neg (by rw [w1]; decide), if_neg (by rw [w2]; decide), if_neg (by rw [w3]; decide), if_neg (by rw [w4]; decide), if_neg (by rw [w5]; decide)]
  refine u_X2_parse (u_X4_clear ?_)
  generalize hμa : sto (sto (sto (sto (sto (sto (sto (sto (sto μ 4 0 0 0) 4 0 1 0) 4 0 2 0) 4 0 3 0) 4 0 4 0) 4 0 5 0) 4 0 6 0) 4 0 7 0) 4 0 8 0 = μa
  have Pa : FPP μ μa := by
    rw [← hμa]
    exact FPP_s (FPP_s (FPP_s (FPP_s (FPP_s (FPP_s (FPP_s (FPP_s (FPP_s ⟨Fr_rf, rfl⟩))))))))
  have Ta : TXC n t μa := by
    rw [← hμa]
    exact TXC_4 (TXC_4 (TXC_4 (TXC_4 (TXC_4 (TXC_4 (TXC_4 (TXC_4 (TXC_4 hT))))))))
  have Da : DRF (fun _ => none) μa := by
    rw [← hμa]
    refine ⟨?_, ?_, ?_, ?_, ?_, ?_, ?_, ?_⟩
    · rw [sto_s (by decide), sto_s (by decide), sto_s (by decide), sto_s (by decide), sto_s (by decide), sto_s (by decide), sto_s (by decide), sto_eq]; rfl
    · rw [sto_s (by decide), sto_s (by decide), sto_s (by decide), sto_s (by decide), sto_s (by decide), sto_s (by decide), sto_eq]; rfl
    · rw [sto_s (by decide), sto_s (by decide), sto_s (by decide), sto_s (by decide), sto_s (by decide), sto_eq]; rfl
    · rw [sto_s (by decide), sto_s (by decide), sto_s (by decide), sto_s (by decide), sto_eq]; rfl
    · rw [sto_s (by decide), sto_s (by decide), sto_s (by decide), sto_eq]; rfl
    · rw [sto_s (by decide), sto_s (by decide), sto_eq]; rfl
    · rw [sto_s (by decide), sto_eq]; rfl
    · rw [sto_eq]; rfl
  refine c_step (p := 0) (TXC_s (TXC_s Ta (by decide)) (by decide)) (by omega) sto_eq (fun μ2 K2 T2 F2 _ g7 => lp 201 0 0 (fun _ => none) μ2 (by omega) (by omega) (by omega) rfl T2 K2 (FPP_2 (FPP_s2 (FPP_s2 Pa)) F2) (DRF_2 (DRF_2 Da (Fr_st2 (Fr_sto (by decide)) (by decide))) F2) ⟨fun v h => (nomatch h), fun v h => (nomatch h), fun v h => (nomatch h), fun v h => (nomatch h), fun v h => (nomatch h), fun v h => (nomatch h), fun v h => (nomatch h), fun v h => (nomatch h), fun v h => (nomatch h)⟩ ?_)
  rw [g7, sto_s (by decide), sto_eq]
  rfl
end PCR
