/-! ask -/
def bdv (h : Nat → Int32) : Nat → Nat
  | 0 => 0
  | d + 1 => if h (d + 1) ≤ h (bdv h d) then bdv h d else d + 1
theorem bdv_le (h : Nat → Int32) : ∀ d, bdv h d ≤ d
  | 0 => Nat.le_refl _
  | d + 1 => by
    have := bdv_le h d
    unfold bdv
    split <;> omega
def cnm (o : Option (Nat → Nat)) (hd : Nat → Nat) (nf : Nat) : Nat := match o with
  | none => 16777215
  | some row => mcov row hd nf
theorem cnm_lt (o : Option (Nat → Nat)) (hd : Nat → Nat) (nf : Nat) : cnm o hd nf < 2 ^ 24 := by
  unfold cnm
  cases o with
  | none => exact (by decide : (16777215 : Nat) < 2 ^ 24)
  | some row => exact mcov_lt row hd nf
def mss (cnt : Nat) (sv : Nat → Nat) (t k : Nat) : Nat := fb_ct (fun i => cnt.testBit (4 * t + i) && nsd (sv (4 * t + i))) k
def wkm (g : Nat → Nat) : Nat → Nat
  | 0 => 0
  | t + 1 => if g t ≤ wkm g t then wkm g t else g t
def wkw (g : Nat → Nat) : Nat → Nat
  | 0 => 0
  | t + 1 => if g t ≤ wkm g t then wkw g t else t
theorem wkm_le {g : Nat → Nat} (h : ∀ t, g t ≤ 4) : ∀ t, wkm g t ≤ 4
  | 0 => by show 0 ≤ 4; decide
  | t + 1 => by
    have a := wkm_le h t
    have b := h t
    unfold wkm
    split <;> omega
def askV (hp : Nat → Int32) (cnt : Nat) (sv : Nat → Nat) (x : Int32) : Int32 := if x = 0 then nI (bdv hp 3) else nI (wkw (fun t => mss cnt sv t 4) 6)
section PAK
variable {Γ : cx_T}
theorem c_bestDrive {fm : Nat → Nat} {nr : Nat} {dr ml : Nat → Nat} {st : Nat → Nat → Nat} {μ : mH} {Q : Int32 → mH → Prop} (hO : OKF fm) (hR : RDC fm nr dr ml st μ) (kk : Q (nI (bdv (hpV fm nr dr ml st) 3)) μ) : cwi Γ M_X11_bestDrive [aR 11 0] μ Q := by
  have lp : ∀ e d, d + e = 3 → aw Γ M_X11_bestDrive 13 [aR 11 0, aI (nI (bdv (hpV fm nr dr ml st) d)), aI (hpV fm nr dr ml st (bdv (hpV fm nr dr ml st) d)), aI (nI (d + 1)), aX] [] μ (rI Q) := by
    intro e
    induction e with
    | zero =>
      intro d hd
      obtain rfl : d = 3 := by omega
      exact u_X11_bestDrive_13 (br_t (by decide) kk)
    | succ e ih =>
      intro d hd
      have go := ih (d + 1) (by omega)
      have eb : bdv (hpV fm nr dr ml st) (d + 1) = if hpV fm nr dr ml st (d + 1) ≤ hpV fm nr dr ml st (bdv (hpV fm nr dr ml st) d) then bdv (hpV fm nr dr ml st) d else d + 1 := rfl
      rw [eb] at go
      refine u_X11_bestDrive_13 (br_f (nI_ge (b := 4) (by omega) (by decide)) (c_hopeOf (by omega) hO hR ⟨fun z => ?_, fun z => ?_⟩))
      · rw [if_pos z] at go; rw [nI_1]; exact go
      · rw [if_neg z] at go; rw [nI_1]; exact go
  exact u_X11_bestDrive (c_hopeOf (v := 0) (by decide) hO hR (lp 3 0 rfl))
theorem c_inFiles {f0 f1 hd ln : Nat → Nat} {nf : Nat} {μ : mH} {Q : Int32 → mH → Prop} (hD : DC f0 f1 hd ln nf μ) (kk : ∀ μ', DC f0 f1 hd ln nf μ' → Fr [0, 34, 35, 36] μ μ' → Q (nI (cnm (CRo f0 f1 hd ln nf 2) hd nf)) μ') : cwi Γ M_X0_inFiles [aR 0 0] μ Q := by
  refine u_X0_inFiles (c_rowOf hD (fun i row μ1 e R D F => ⟨fun z => (nomatch z), fun j z _ => ?_⟩) (fun μ1 e D F => ⟨fun _ => ?_, fun j z => (nomatch z)⟩))
  · cases z
    rw [e] at kk
    have hnf := D.2.2.1.1
    have lp : ∀ d f (μ2 : mH), f + d = nf → DC f0 f1 hd ln nf μ2 → RW i row μ2 → Fr [0, 34, 35, 36] μ μ2 → aw Γ M_X0_inFiles 17 [aR 0 0, aR 35 i, aI (nI (mcov row hd f)), aI (nI f), aX] [] μ2 (rI Q) := by
      intro d
      induction d with
      | zero =>
        intro f μ2 hf D2 R2 F2
        obtain rfl : f = nf := by omega
        refine u_X0_inFiles_17 ?_
        rw [D2.2.2.1.2.1]
        exact br_t (nI_le (Nat.le_refl _) (by omega)) (kk μ2 D2 F2)
      | succ d ih =>
        intro f μ2 hf D2 R2 F2
        have g1 := (D2.2.2.1.2.2 f (by omega)).1
        have hN := cN_le row (hd f)
        refine u_X0_inFiles_17 ?_
        rw [D2.2.2.1.2.1]
        refine br_f (nI_ge (by omega) (by omega)) (c_walk (by omega) D2.2.2.1 R2 (fun μ3 F3 s3 n3 p3 => ?_))
        have D3 := DC_fr D2 F3 s3 (by decide) (by decide) (by decide)
        have go := ih (f + 1) μ3 (by omega) D3 (RW_fr R2 F3 (by decide)) (Fr_tr F2 (Fr_mono F3 (by decide)))
        have em : mcov row hd (f + 1) = mcov row hd f ||| cS row (hd f) (cN row (hd f)) := rfl
        rw [em] at go
        generalize eN : cN row (hd f) = N at *
        have lp2 : ∀ d2 k, k + d2 = N → aw Γ M_X0_inFiles 34 [aR 0 0, aR 35 i, aI (nI (mcov row hd f ||| cS row (hd f) k)), aI (nI f), aI (nI k)] [] μ3 (rI Q) := by
          intro d2
          induction d2 with
          | zero =>
            intro k hk
            obtain rfl : k = N := by omega
            refine u_X0_inFiles_34 ?_
            rw [n3, nI_1]
            exact br_t (nI_le (Nat.le_refl _) (by omega)) go
          | succ d2 ih2 =>
            intro k hk
            obtain ⟨c1, _⟩ := cok_t (cN_t (row := row) (h := hd f) (k := k) (by omega))
            refine u_X0_inFiles_34 ?_
            rw [n3, tn_nI (by omega), p3 k (by omega), mb_s _ (by omega), nI_1 k, Nat.or_assoc]
            exact br_f (nI_ge (by omega) (by omega)) ⟨vp_in_nI (by omega) (by decide), ih2 (k + 1) (by omega)⟩
        have := lp2 N 0 (Nat.zero_add _)
        have e0 : cS row (hd f) 0 = 0 := rfl
        rw [e0, Nat.or_zero] at this
        exact this
    exact lp nf 0 μ1 (Nat.zero_add _) D R (Fr_mono F (by decide))
  · rw [e] at kk
    exact kk μ1 D (Fr_mono F (by decide))
theorem c_worstTrack {fm : Nat → Nat} {f nr : Nat} {dr ml : Nat → Nat} {st : Nat → Nat → Nat} {f0 f1 hd ln sv : Nat → Nat} {nf : Nat} {μ0 μ : mH} {Q : Int32 → mH → Prop} (hO : OKF fm) (hsv : SV fm nr ml st sv) (hX : CX fm f nr dr ml st f0 f1 hd ln nf μ0 μ)
    (kk : ∀ μ', CX fm f nr dr ml st f0 f1 hd ln nf μ0 μ' → Q (nI (wkw (fun t => mss (cnm (CRo f0 f1 hd ln nf 2) hd nf) sv t 4) 6)) μ') : cwi Γ M_X11_worstTrack [aR 11 0] μ Q := by
  refine u_X11_worstTrack (c_inFiles hX.2.2.2.1 (fun μ1 D1 F1 => ?_))
  have X1 := CX_d hX D1 F1
  have hc := cnm_lt (CRo f0 f1 hd ln nf 2) hd nf
  generalize cnm (CRo f0 f1 hd ln nf 2) hd nf = cnt at *
  have ml4 : ∀ t k, mss cnt sv t k ≤ k := fun t k => fb_ct_le _ _
  have wl := wkm_le (g := fun t => mss cnt sv t 4) (fun t => ml4 t 4)
  have lp : ∀ d t (μ2 : mH), t + d = 6 → CX fm f nr dr ml st f0 f1 hd ln nf μ0 μ2 → aw Γ M_X11_worstTrack 15 [aR 11 0, aI (nI cnt), aI (nI (wkw (fun t => mss cnt sv t 4) t)), aI (nI (wkm (fun t => mss cnt sv t 4) t)), aI (nI t), aX, aX, aX, aX] [] μ2 (rI Q) := by
    intro d
    induction d with
    | zero =>
      intro t μ2 ht X2
      obtain rfl : t = 6 := by omega
      exact u_X11_worstTrack_15 (br_t (by decide) (kk μ2 X2))
    | succ d ih =>
      intro t μ2 ht X2
      have wt := wl t
      refine u_X11_worstTrack_15 (br_f (nI_ge (b := 6) (by omega) (by decide)) ?_)
      have lp2 : ∀ d2 i (μ3 : mH), i + d2 = 4 → CX fm f nr dr ml st f0 f1 hd ln nf μ0 μ3 → aw Γ M_X11_worstTrack 28 [aR 11 0, aI (nI cnt), aI (nI (wkw (fun t => mss cnt sv t 4) t)), aI (nI (wkm (fun t => mss cnt sv t 4) t)), aI (nI t), aI (nI (mss cnt sv t i)), aI (nI i), aX, aX] [] μ3 (rI Q) := by
        intro d2
        induction d2 with
        | zero =>
          intro i μ3 hi X3
          obtain rfl : i = 4 := by omega
          have go := ih (t + 1) μ3 (by omega) X3
          have e1 : wkw (fun t => mss cnt sv t 4) (t + 1) = if mss cnt sv t 4 ≤ wkm (fun t => mss cnt sv t 4) t then wkw (fun t => mss cnt sv t 4) t else t := rfl
          have e2 : wkm (fun t => mss cnt sv t 4) (t + 1) = if mss cnt sv t 4 ≤ wkm (fun t => mss cnt sv t 4) t then wkm (fun t => mss cnt sv t 4) t else mss cnt sv t 4 := rfl
          rw [e1, e2] at go
          have := ml4 t 4
          refine u_X11_worstTrack_28 (br_t (by decide) ?_)
          rw [nI_1]
          refine pk_le (mss cnt sv t 4) (wkm (fun t => mss cnt sv t 4) t) (fun q => ?_) (fun q => ?_)
          · rw [if_pos q, if_pos q] at go; exact go
          · rw [if_neg (by omega), if_neg (by omega)] at go; exact go
        | succ d2 ih2 =>
          intro i μ3 hi X3
          have go := fun μ4 => ih2 (i + 1) μ4 (by omega)
          have es : mss cnt sv t (i + 1) = mss cnt sv t i + (if cnt.testBit (4 * t + i) && nsd (sv (4 * t + i)) then 1 else 0) := rfl
          rw [es] at go
          have ec : nI t * (4 : Int32) + nI i = nI (4 * t + i) := by
            rw [show nI t * (4 : Int32) = nI (t * 4) from pk_mul t 4, nI_add, Nat.mul_comm]
          refine u_X11_worstTrack_28 (br_f (nI_ge (b := 4) (by omega) (by decide)) ?_)
          rw [ec]
          cases eb : cnt.testBit (4 * t + i)
          · rw [eb] at go
            simp only [Bool.false_and, Bool.false_eq_true, if_false, Nat.add_zero] at go
            refine ⟨fun _ => u_X11_worstTrack_57 ⟨fun _ => ?_, fun z => absurd rfl z⟩, fun z => absurd (mb_0 (by omega) (by omega) eb) z⟩
            rw [nI_1]
            exact go μ3 X3
          · rw [eb] at go
            simp only [Bool.true_and] at go
            refine ⟨fun z => absurd z (mb_1 (by omega) (by omega) eb), fun _ => u_X11_worstTrack_57 ⟨fun z => absurd z (by decide), fun _ => c_judgeCluster (by omega) hO X3.1 X3.2.1 X3.2.2.1 (fun v dat μ4 hv J4 R4 M4 K4 => ?_)⟩⟩
            obtain ⟨dat', hv'⟩ := hsv (4 * t + i)
            have ev := (VER_one hv hv').1
            have go := go μ4 (CX_k X3 J4 R4 M4 K4)
            refine s_sound (VER_le hv) (fun s => ⟨fun _ => ?_, fun z => absurd z (by decide)⟩) (fun s => ⟨fun z => absurd rfl z, fun _ => ?_⟩)
            · simp only [nsd_f (show sv (4 * t + i) = 1 ∨ sv (4 * t + i) = 3 by omega), Bool.false_eq_true, if_false, Nat.add_zero] at go
              rw [nI_1]
              exact go
            · simp only [nsd_t (show ¬ (sv (4 * t + i) = 1 ∨ sv (4 * t + i) = 3) by omega), if_true] at go
              rw [nI_1, nI_1]
              exact go
      exact lp2 4 0 μ2 rfl X2
  exact lp 6 0 μ1 rfl X1
theorem c_ask {fm : Nat → Nat} {f nr : Nat} {dr ml : Nat → Nat} {st : Nat → Nat → Nat} {f0 f1 hd ln sv : Nat → Nat} {nf : Nat} {x : Int32} {μ0 μ : mH} {Q : Int32 → mH → Prop} (hf : f ≤ 1) (h4 : μ 4 1 0 = nI f) (hO : f = 1 → OKF fm) (hsv : SV fm nr ml st sv) (hX : CX fm f nr dr ml st f0 f1 hd ln nf μ0 μ)
    (k1 : f = 1 → inN x 2 → ∀ μ', CX fm f nr dr ml st f0 f1 hd ln nf μ0 μ' → Q (askV (hpV fm nr dr ml st) (cnm (CRo f0 f1 hd ln nf 2) hd nf) sv x) μ') (k0 : ¬ (f = 1 ∧ inN x 2) → Q (-1) μ) : cwi Γ M_X11_ask [aR 11 0, aI x] μ Q := by
  refine u_X11_ask ?_
  rw [h4]
  refine pk_eq f 0 (fun c => k0 (by omega)) (fun c => ?_)
  have f1' : f = 1 := by omega
  rcases Int32_cases x with hn | ⟨k, hk, rfl⟩
  · exact ⟨fun _ => k0 (fun q => inN_neg hn (by decide) q.2), fun z => absurd hn z⟩
  · refine ⟨fun z => absurd z (nI_pos hk), fun _ => pk_le k 1 (fun q => ?_) (fun q => k0 (fun z => inN_no (by omega) hk z.2))⟩
    have k1 := k1 f1' (inN_of (by omega) (by decide))
    unfold askV at k1
    refine ⟨fun z => ?_, fun z => ?_⟩
    · simp only [if_neg z] at k1
      exact c_worstTrack (hO f1') hsv hX k1
    · simp only [if_pos z] at k1
      exact c_bestDrive (hO f1') hX.2.1 (k1 μ hX)
theorem m_ask {fm : Nat → Nat} {f nr : Nat} {dr ml : Nat → Nat} {st : Nat → Nat → Nat} {f0 f1 hd ln sv : Nat → Nat} {nf : Nat} {x : Int32} {μ : mH} {Q : Int32 → mH → Prop} (hf : f ≤ 1) (h4 : μ 12 0 8 = nI f) (hO : f = 1 → OKF fm) (hF : f = 1 → FMM fm μ) (hsv : SV fm nr ml st sv) (hR : RDM nr dr ml st μ) (hT : TM f0 f1 μ) (hH : HM nf hd ln μ)
    (k1 : f = 1 → inN x 2 → ∀ μ', FRT μ μ' → Q (askV (hpV fm nr dr ml st) (cnm (CRo f0 f1 hd ln nf 2) hd nf) sv x) μ') (k0 : ¬ (f = 1 ∧ inN x 2) → Q (-1) μ) : cwi Γ M_X12_ask [aR 12 0, aI x] μ Q := by
  refine u_X12_ask ?_
  rw [h4]
  refine pk_eq f 0 (fun c => k0 (by omega)) (fun c => s_inN (n := 2) (by decide) rfl (fun h => ⟨fun z => absurd rfl z, fun _ => k0 (fun q => h q.2)⟩) (fun h => ⟨fun _ => ?_, fun z => absurd z (by decide)⟩))
  have f1' : f = 1 := by omega
  subst f1'
  have hO := hO rfl
  have hF := hF rfl
  have k1 := k1 rfl h
  unfold askV at k1
  refine ⟨fun z => ?_, fun z => ?_⟩
  · simp only [if_neg z] at k1
    have hc := cnm_lt (CRo f0 f1 hd ln nf 2) hd nf
    have main : ∀ cnt (μ1 : mH), cnt = cnm (CRo f0 f1 hd ln nf 2) hd nf → FRT μ μ1 → aw Γ M_X12_ask 128 [aR 12 0, aX, aI 0, aI (nI cnt), aI 0, aI 0, aX, aX] [] μ1 (rI Q) := by
      intro cnt μ1 ecn T1
      rw [← ecn] at k1 hc
      have ml4 : ∀ t k, mss cnt sv t k ≤ k := fun t k => fb_ct_le _ _
      have wl := wkm_le (g := fun t => mss cnt sv t 4) (fun t => ml4 t 4)
      have lp : ∀ d t (μ2 : mH), t + d = 6 → FRT μ μ2 → aw Γ M_X12_ask 128 [aR 12 0, aX, aI (nI (wkw (fun t => mss cnt sv t 4) t)), aI (nI cnt), aI (nI (wkm (fun t => mss cnt sv t 4) t)), aI (nI t), aX, aX] [] μ2 (rI Q) := by
        intro d
        induction d with
        | zero =>
          intro t μ2 ht T2
          obtain rfl : t = 6 := by omega
          exact u_X12_ask_128 (br_t (by decide) (k1 μ2 T2))
        | succ d ih =>
          intro t μ2 ht T2
          have wt := wl t
          refine u_X12_ask_128 (br_f (nI_ge (b := 6) (by omega) (by decide)) ?_)
          have lp2 : ∀ d2 i (μ3 : mH), i + d2 = 4 → FRT μ μ3 → aw Γ M_X12_ask 141 [aR 12 0, aX, aI (nI (wkw (fun t => mss cnt sv t 4) t)), aI (nI cnt), aI (nI (wkm (fun t => mss cnt sv t 4) t)), aI (nI t), aI (nI (mss cnt sv t i)), aI (nI i)] [] μ3 (rI Q) := by
            intro d2
            induction d2 with
            | zero =>
              intro i μ3 hi T3
              obtain rfl : i = 4 := by omega
              have go := ih (t + 1) μ3 (by omega) T3
              have e1 : wkw (fun t => mss cnt sv t 4) (t + 1) = if mss cnt sv t 4 ≤ wkm (fun t => mss cnt sv t 4) t then wkw (fun t => mss cnt sv t 4) t else t := rfl
              have e2 : wkm (fun t => mss cnt sv t 4) (t + 1) = if mss cnt sv t 4 ≤ wkm (fun t => mss cnt sv t 4) t then wkm (fun t => mss cnt sv t 4) t else mss cnt sv t 4 := rfl
              rw [e1, e2] at go
              have := ml4 t 4
              refine u_X12_ask_141 (br_t (by decide) ?_)
              rw [nI_1]
              refine pk_lt (wkm (fun t => mss cnt sv t 4) t) (mss cnt sv t 4) (fun q => ?_) (fun q => ?_)
              · rw [if_neg (by omega), if_neg (by omega)] at go; exact go
              · rw [if_pos q, if_pos q] at go; exact go
            | succ d2 ih2 =>
              intro i μ3 hi T3
              have go := fun μ4 => ih2 (i + 1) μ4 (by omega)
              have es : mss cnt sv t (i + 1) = mss cnt sv t i + (if cnt.testBit (4 * t + i) && nsd (sv (4 * t + i)) then 1 else 0) := rfl
              rw [es] at go
              have ec : (4 : Int32) * nI t + nI i = nI (4 * t + i) := by
                rw [show (4 : Int32) * nI t = nI (4 * t) from pk_mul 4 t, nI_add]
              refine u_X12_ask_141 (br_f (nI_ge (b := 4) (by omega) (by decide)) ?_)
              rw [ec, mb_t (by omega) (by omega), nI_1 i, show ∀ a, nI a + (0 : Int32) = nI a from fun a => nI_add a 0]
              cases eb : cnt.testBit (4 * t + i)
              · rw [eb] at go
                simp only [Bool.false_and, Bool.false_eq_true, if_false, Nat.add_zero] at go
                exact ⟨fun _ => go μ3 T3, fun z => absurd z (by decide)⟩
              · rw [eb] at go
                simp only [Bool.true_and] at go
                have dv : (4 * t + i) / 4 = t := by omega
                have md : (4 * t + i) % 4 = i := by omega
                refine ⟨fun z => absurd rfl z, fun _ => m_statusOf (by omega) (by omega) hO (FMM_fr hF T3.1 (by decide)) (RDM_fr hR T3.1 (T3.2 11 (by decide) (by decide) (by decide) (by decide)) (by decide) (by decide) (by decide)) (fun v dat μ4 hv _ _ S4 => ?_)⟩
                obtain ⟨dat', hv'⟩ := hsv (4 * t + i)
                rw [dv, md] at hv'
                have ev := (VER_one hv hv').1
                have go := go μ4 (FRT_tr T3 (FRT_s S4))
                refine s_whole (VER_le hv) (fun s => ⟨fun _ => ?_, fun z => absurd z (by decide)⟩) (fun s => ⟨fun z => absurd rfl z, fun _ => ?_⟩)
                · simp only [nsd_f (show sv (4 * t + i) = 1 ∨ sv (4 * t + i) = 3 by omega), Bool.false_eq_true, if_false, Nat.add_zero] at go
                  exact go
                · simp only [nsd_t (show ¬ (sv (4 * t + i) = 1 ∨ sv (4 * t + i) = 3) by omega), if_true] at go
                  rw [nI_1]
                  exact go
          exact lp2 4 0 μ2 rfl T2
      exact lp 6 0 μ1 rfl T1
    refine m_asks hT hH (fun row μ1 e R F s => ⟨fun z => absurd z (by decide), fun _ => ?_⟩) (fun e => ⟨fun _ => main 16777215 μ (by rw [e]; rfl) FRT_rf, fun z => absurd rfl z⟩)
    have T1 := FRT_d F s
    have H1 := HM_fr hH F (s 16 (by decide)) (by decide) (by decide)
    have hnf := hH.1
    have lp : ∀ d g (μ2 : mH), g + d = nf → HM nf hd ln μ2 → RM row μ2 → FRT μ μ2 → aw Γ M_X12_ask 71 [aR 12 0, aX, aI 0, aI (nI (mcov row hd g)), aI (nI g), aX, aX, aX] [] μ2 (rI Q) := by
      intro d
      induction d with
      | zero =>
        intro g μ2 hg H2 R2 T2
        obtain rfl : g = nf := by omega
        refine u_X12_ask_71 ?_
        rw [H2.2.1]
        exact br_t (nI_le (Nat.le_refl _) (by omega)) (main _ μ2 (by rw [e]; rfl) T2)
      | succ d ih =>
        intro g μ2 hg H2 R2 T2
        have hN := cN_le row (hd g)
        refine u_X12_ask_71 ?_
        rw [H2.2.1]
        refine br_f (nI_ge (by omega) (by omega)) (m_chains (by omega) H2 R2 (fun μ3 F3 s3 n3 p3 => ?_))
        have go := ih (g + 1) μ3 (by omega) (HM_fr H2 F3 (s3 16 (by decide)) (by decide) (by decide)) (fun c hc => by rw [Fr_at F3 (by decide)]; exact R2 c hc) (FRT_tr T2 (FRT_d (Fr_mono F3 (by decide)) s3))
        have em : mcov row hd (g + 1) = mcov row hd g ||| cS row (hd g) (cN row (hd g)) := rfl
        rw [em] at go
        generalize eN : cN row (hd g) = N at *
        have lp2 : ∀ d2 k, k + d2 = N → aw Γ M_X12_ask 89 [aR 12 0, aX, aI 0, aI (nI (mcov row hd g ||| cS row (hd g) k)), aI (nI g), aI (nI k), aX, aX] [] μ3 (rI Q) := by
          intro d2
          induction d2 with
          | zero =>
            intro k hk
            obtain rfl : k = N := by omega
            refine u_X12_ask_89 ?_
            rw [n3, nI_1]
            exact br_t (nI_le (Nat.le_refl _) (by omega)) go
          | succ d2 ih2 =>
            intro k hk
            obtain ⟨c1, _⟩ := cok_t (cN_t (row := row) (h := hd g) (k := k) (by omega))
            refine u_X12_ask_89 ?_
            rw [n3, tn_nI (by omega), p3 k (by omega), mb_s _ (by omega), nI_1 k, Nat.or_assoc]
            exact br_f (nI_ge (by omega) (by omega)) ⟨vp_in_nI (by omega) (by decide), ih2 (k + 1) (by omega)⟩
        have := lp2 N 0 (Nat.zero_add _)
        have e0 : cS row (hd g) 0 = 0 := rfl
        rw [e0, Nat.or_zero] at this
        exact this
    exact lp nf 0 μ1 (Nat.zero_add _) H1 R T1
  · simp only [if_pos z] at k1
    have lp : ∀ e d (μ1 : mH), d + e = 3 → FRM μ μ1 → aw Γ M_X12_ask 26 [aR 12 0, aX, aI (nI (bdv (hpV fm nr dr ml st) d)), aI (nI (d + 1)), aX, aX, aX, aX] [] μ1 (rI Q) := by
      intro e
      induction e with
      | zero =>
        intro d μ1 hd F1
        obtain rfl : d = 3 := by omega
        exact u_X12_ask_26 (br_t (by decide) (k1 μ1 (FRT_s (FRS_m F1))))
      | succ e ih =>
        intro d μ1 hd F1
        have hb := bdv_le (hpV fm nr dr ml st) d
        have st8 : ∀ μ2, FRM μ μ2 → μ2 12 0 8 = 1 ∧ FMM fm μ2 ∧ RDM nr dr ml st μ2 := fun μ2 F2 => ⟨by rw [F2.2 8 (by decide) (by decide)]; exact h4, FMM_fr hF F2.1 (by decide), RDM_fr hR F2.1 (F2.2 11 (by decide) (by decide)) (by decide) (by decide) (by decide)⟩
        obtain ⟨a1, a2, a3⟩ := st8 μ1 F1
        refine u_X12_ask_26 (br_f (nI_ge (b := 4) (by omega) (by decide)) (m_hopeOf (by omega) a1 hO a2 a3 (fun μ2 F2 => ?_)))
        obtain ⟨b1, b2, b3⟩ := st8 μ2 (FRM_tr F1 F2)
        refine m_hopeOf (by omega) b1 hO b2 b3 (fun μ3 F3 => ?_)
        have go := ih (d + 1) μ3 (by omega) (FRM_tr F1 (FRM_tr F2 F3))
        have eb : bdv (hpV fm nr dr ml st) (d + 1) = if hpV fm nr dr ml st (d + 1) ≤ hpV fm nr dr ml st (bdv (hpV fm nr dr ml st) d) then bdv (hpV fm nr dr ml st) d else d + 1 := rfl
        rw [eb] at go
        rw [nI_1]
        refine ⟨fun z => ?_, fun z => ?_⟩
        · rw [if_pos z] at go; exact go
        · rw [if_neg z] at go; exact go
    exact lp 3 0 μ rfl FRM_rf
/-- hope, as the law calls it -/
theorem c_hope {fm : Nat → Nat} {f nr : Nat} {dr ml : Nat → Nat} {st : Nat → Nat → Nat} {x : Int32} {μ : mH} {Q : Int32 → mH → Prop} (hf : f ≤ 1) (h4 : μ 4 1 0 = nI f) (hO : f = 1 → OKF fm) (hR : RDC fm nr dr ml st μ) (k1 : f = 1 → inN x 4 → Q (hpV fm nr dr ml st (tn x)) μ) (k0 : ¬ (f = 1 ∧ inN x 4) → Q (-999) μ) : cwi Γ M_X11_hope [aR 11 0, aI x] μ Q := by
  refine u_X11_hope ?_
  rw [h4]
  refine pk_eq f 0 (fun c => k0 (by omega)) (fun c => s_drN (fun h => ⟨fun z => absurd rfl z, fun _ => k0 (fun q => h q.2)⟩) (fun h => ⟨fun _ => ?_, fun z => absurd z (by decide)⟩))
  have f1 : f = 1 := by omega
  have k := k1 f1 h
  conv => arg 3; rw [h.1]
  exact c_hopeOf h.2 (hO f1) hR k
theorem m_hope {fm : Nat → Nat} {f nr : Nat} {dr ml : Nat → Nat} {st : Nat → Nat → Nat} {x : Int32} {μ : mH} {Q : Int32 → mH → Prop} (hf : f ≤ 1) (h4 : μ 12 0 8 = nI f) (hO : f = 1 → OKF fm) (hF : f = 1 → FMM fm μ) (hR : RDM nr dr ml st μ) (k1 : f = 1 → inN x 4 → ∀ μ', FRM μ μ' → Q (hpV fm nr dr ml st (tn x)) μ') (k0 : ¬ (f = 1 ∧ inN x 4) → Q (-999) μ) : cwi Γ M_X12_hope [aR 12 0, aI x] μ Q := by
  by_cases h : f = 1 ∧ inN x 4
  · obtain ⟨f1, i⟩ := h
    subst f1
    have k := k1 rfl i
    conv => arg 3; rw [i.1]
    exact m_hopeOf i.2 h4 (hO rfl) (hF rfl) hR k
  · refine u_X12_hope ?_
    rw [h4]
    refine pk_eq f 0 (fun c => k0 h) (fun c => s_inN (n := 4) (by decide) rfl (fun i => ⟨fun z => absurd rfl z, fun _ => k0 h⟩) (fun i => absurd ⟨by omega, i⟩ h))
end PAK
