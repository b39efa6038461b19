def wl (k : Nat) : Nat := lenS.getD k 0
def wby (k i : Nat) : Nat := tn ((bytS.getD k []).getD i 0)
theorem wl_I : ∀ k, k < 9 → (Int32.ofNat (lenS.getD k 0)) >>> ((0 : Int32) &&& 31) = nI (wl k) := by decide +kernel
theorem wl_le : ∀ k, k < 9 → 3 ≤ wl k ∧ wl k ≤ 4 := by decide +kernel
theorem wby_I : ∀ k, k < 9 → ∀ i, i < wl k → ((((bytS.getD k []).getD i 0) &&& (255 : Int32)).toUInt32 % 65536).toInt32 = nI (wby k i) := by decide +kernel
theorem wby_r : ∀ k, k < 9 → ∀ i, i < wl k → 97 ≤ wby k i ∧ wby k i ≤ 122 := by decide +kernel
theorem nar_c {b : Nat} (h : b < 128) : narrow .char (.int (nI b)) = .int (nI b) := by
  have : ∀ b, b < 128 → (nI b).toUInt32.toUInt16.toUInt32.toInt32 = nI b := by decide +kernel
  show Value.int _ = _
  first
  | exact congrArg Value.int (this b h)
  | simp [narrow, this b h]
section PWD
variable {Γ : cx_T}
theorem s_length {k : Nat} {μ : mH} {Q : Int32 → mH → Prop} (hk : k < 9) (kk : Q (nI (wl k)) μ) : cwi Γ M_J0_length_8abf5 [aR 63 k] μ Q := u_J0_length (u_J0_coder (by rw [wl_I k hk]; exact kk))
theorem s_charAt {k i : Nat} {μ : mH} {Q : Int32 → mH → Prop} (hk : k < 9) (hi : i < wl k) (kk : Q (nI (wby k i)) μ) : cwi Γ M_J0_charAt_5068e [aR 63 k, aI (nI i)] μ Q := by
  have w4 := wl_le k hk
  have e := wby_I k hk i hi
  obtain ⟨r1, r2⟩ := wby_r k hk i hi
  refine u_J0_charAt (u_J0_isLatin1 ⟨fun z => absurd z (by decide), fun _ => u_J1_charAt (u_J0_checkIndex (fun o => u_J3_checkIndex ⟨fun z => absurd z (nI_pos (by omega)), fun _ => ⟨fun _ => ?_, fun z => absurd (nI_lt (b := wl k) hi (by omega)) z⟩⟩))⟩)
  rw [tn_nI (by omega), e]
  have n := nar_c (b := wby k i) (by omega)
  exact ⟨vp_in_nI hi (show wl k < 2 ^ 31 by omega), n, n, kk⟩
/-! TOKENS of the reference -/
def mki (k : Nat) : Nat := if k = 0 then 1 else if k = 1 then 2 else if k = 2 then 3 else if k = 3 then 0 else 4
def TKM (n : Nat) (t : Nat → Nat) (p : Nat) (μ : mH) : Prop := μ 12 0 3 = nI (mki (tKi n t p)) ∧ μ 12 0 4 = nI (tS0 n t p) ∧ μ 12 0 2 = nI (tEn n t p) ∧ (tKi n t p = 0 → mkL (μ 12 0 5) (μ 12 0 100) = lN (if tLn n t p ≤ 8 then pkv (fun i => t (tS0 n t p + i)) (tLn n t p) else 0)) ∧ (tKi n t p = 1 → mkL (μ 12 0 5) (μ 12 0 100) = lN (nvm t (tS0 n t p) (tLn n t p)))
theorem mb_big : ∀ b, b < 256 → 128 ≤ b → (nI b).toInt8.toInt32 < 48 := by decide +kernel
theorem mb_eq : ∀ b, b < 256 → ((nI b).toInt8.toInt32 = 32 ↔ b = 32) ∧ ((nI b).toInt8.toInt32 = 10 ↔ b = 10) ∧ ((nI b).toInt8.toInt32 = 59 ↔ b = 59) := by decide +kernel
theorem s_letter {b : Nat} {μ : mH} {Q : Int32 → mH → Prop} (hb : b < 256) (k1 : ckn b = 0 → Q 1 μ) (k0 : ckn b ≠ 0 → Q 0 μ) : cwi Γ M_X12_isLetter [aI (nI b).toInt8.toInt32] μ Q := by
  by_cases c : b < 128
  · rw [fa_byte_small c]
    exact u_X12_isLetter (pk_lt b 97 (fun q => k0 (fun y => by have := ckn_0.mp y; omega)) (fun q => pk_lt 122 b (fun q2 => k0 (fun y => by have := ckn_0.mp y; omega)) (fun q2 => k1 (ckn_0.mpr ⟨q, q2⟩))))
  · have h := mb_big b hb (by omega)
    have h97 : (nI b).toInt8.toInt32 < 97 := fa_trans h (by decide)
    exact u_X12_isLetter (br_t h97 (k0 (fun y => by have := ckn_0.mp y; omega)))
theorem s_digit {b : Nat} {μ : mH} {Q : Int32 → mH → Prop} (hb : b < 256) (k1 : ckn b = 1 → Q 1 μ) (k0 : ckn b ≠ 1 → Q 0 μ) : cwi Γ M_X12_isDigit [aI (nI b).toInt8.toInt32] μ Q := by
  by_cases c : b < 128
  · rw [fa_byte_small c]
    exact u_X12_isDigit (pk_lt b 48 (fun q => k0 (fun y => by have := ckn_1.mp y; omega)) (fun q => pk_lt 57 b (fun q2 => k0 (fun y => by have := ckn_1.mp y; omega)) (fun q2 => k1 (ckn_1.mpr ⟨q, q2⟩))))
  · exact u_X12_isDigit (br_t (mb_big b hb (by omega)) (k0 (fun y => by have := ckn_1.mp y; omega)))
def FRD (μ μ' : mH) : Prop := Fr [12] μ μ' ∧ ∀ s, s ≠ 2 → s ≠ 3 → s ≠ 4 → s ≠ 5 → s ≠ 100 → μ' 12 0 s = μ 12 0 s
theorem FRD_s {a b : mH} {s : Nat} {x : Int32} (h : FRD a b) (hs : s = 2 ∨ s = 3 ∨ s = 4 ∨ s = 5 ∨ s = 100) : FRD a (sto b 12 0 s x) := ⟨Fr_st2 h.1 (by decide), fun s' p q r u v => by rw [sto_s (by omega)]; exact h.2 s' p q r u v⟩
theorem TXM_d {n : Nat} {t : Nat → Nat} {μ μ' : mH} (h : TXM n t μ) (hF : FRD μ μ') : TXM n t μ' := ⟨h.1, by rw [hF.2 1 (by decide) (by decide) (by decide) (by decide) (by decide)]; exact h.2.1, fun j hj => by rw [Fr_at hF.1 (by decide)]; exact h.2.2 j hj⟩
theorem m_leads {n p : Nat} {t : Nat → Nat} {μ : mH} {Q : mH → Prop} (hT : TXM n t μ) (hp : p ≤ n) (h2 : μ 12 0 2 = nI p) (kk : ∀ μ', TKM n t p μ' → TXM n t μ' → FRD μ μ' → Q μ') : cwv Γ M_X12_leads [aR 12 0] μ Q := by
  have hn := hT.1
  have hs := tS0_le (t := t) hp
  have he := tEn_le (t := t) hp
  have k4 : tKi n t p ≤ 4 := by
    unfold tKi kp
    split
    · exact ckn_le _
    · decide
  have fin : ∀ (μ2 : mH), FRD μ μ2 → TKM n t p μ2 → Q μ2 := fun μ2 F2 K2 => kk μ2 K2 (TXM_d hT F2) F2
  have tk : ∀ (μ1 : mH), FRD μ μ1 → μ1 12 0 2 = nI (tS0 n t p) → aw Γ M_X12_leads 52 [aR 12 0, aX] [] μ1 (rV Q) := by
    intro μ1 F1 g2
    have T1 := TXM_d hT F1
    refine u_X12_leads_52 ?_
    rw [g2, T1.2.1]
    have F0 : FRD μ (sto (sto (sto (sto μ1 12 0 4 (nI (tS0 n t p))) 12 0 5 (hiL 0)) 12 0 100 (loL 0)) 12 0 3 0) := FRD_s (FRD_s (FRD_s (FRD_s F1 (by decide)) (by decide)) (by decide)) (by decide)
    refine ⟨fun z => ?_, fun z => ?_⟩
    · have c : tS0 n t p < n := by
        have : tS0 n t p ≠ n := fun y => z (by rw [y])
        omega
      obtain ⟨b1, b2⟩ := T1.2.2 (tS0 n t p) c
      have ek : tKi n t p = ckn (t (tS0 n t p)) := by unfold tKi kp; rw [if_pos c]
      have k3 : tKi n t p ≠ 3 := by rw [ek]; exact ckn_ne3 _
      rw [tn_nI (by omega), b2]
      refine ⟨vp_in_nI (by omega) (by decide), s_letter b1 (fun q => ⟨fun y => absurd y (by decide), fun _ => ?_⟩) (fun q => ⟨fun _ => s_digit b1 (fun q2 => ⟨fun y => absurd y (by decide), fun _ => ?_⟩) (fun q2 => ⟨fun _ => ?_, fun y => absurd rfl y⟩), fun y => absurd rfl y⟩)⟩
      · -- a word
        rw [← ek] at q
        have eL : tLn n t p = tLd n t p := by unfold tLn; rw [if_neg k3, if_pos (Or.inl q)]
        have lp : ∀ e d (μ2 : mH), d + e = tLn n t p → FRD μ μ2 → μ2 12 0 4 = nI (tS0 n t p) → μ2 12 0 2 = nI (tS0 n t p + d) → mkL (μ2 12 0 5) (μ2 12 0 100) = lN (pkv (fun i => t (tS0 n t p + i)) (min d 8)) → aw Γ M_X12_leads 99 [aR 12 0, aX] [] μ2 (rV Q) := by
          intro e
          induction e with
          | zero =>
            intro d μ2 hd F2 e4 e2 e5
            obtain rfl : d = tLn n t p := by omega
            have T2 := TXM_d hT F2
            have fn : aw Γ M_X12_leads 174 [aR 12 0, aX] [] μ2 (rV Q) := by
              refine u_X12_leads_174 ?_
              rw [e2, e4, pk_sub (by omega), show tS0 n t p + tLn n t p - tS0 n t p = tLn n t p by omega]
              have h1 : nI (mki (tKi n t p)) = 1 := by rw [q]; rfl
              refine pk_le (tLn n t p) 8 (fun c8 => ?_) (fun c8 => ?_) rfl rfl (by unfold tEn at he; omega) (by decide)
              · refine fin _ (FRD_s F2 (by decide)) ⟨by rw [sto_eq, h1], by rw [sto_s (by decide)]; exact e4, by rw [sto_s (by decide)]; exact e2, fun _ => ?_, fun w => by omega⟩
                rw [sto_s (by decide), sto_s (by decide), e5, if_pos c8, show min (tLn n t p) 8 = tLn n t p by omega]
              · refine fin _ (FRD_s (FRD_s (FRD_s F2 (by decide)) (by decide)) (by decide)) ⟨by rw [sto_eq, h1], by rw [sto_s (by decide), sto_s (by decide), sto_s (by decide)]; exact e4, by rw [sto_s (by decide), sto_s (by decide), sto_s (by decide)]; exact e2, fun _ => ?_, fun w => by omega⟩
                rw [sto_s (by decide), sto_s (by decide), sto_eq, sto_s (by decide), sto_eq, mkL_hl, if_neg (by omega)]
                rfl
            refine u_X12_leads_99 ?_
            rw [T2.2.1, e2]
            refine pk_le n (tS0 n t p + tLn n t p) (fun _ => fn) (fun c2 => ?_) rfl rfl (by omega) (by unfold tEn at he; omega)
            obtain ⟨y1, y2⟩ := T2.2.2 (tS0 n t p + tLn n t p) c2
            rw [tn_nI (by omega), y2]
            refine ⟨vp_in_nI (by omega) (by decide), s_letter y1 (fun w => ?_) (fun _ => ⟨fun _ => fn, fun y => absurd rfl y⟩)⟩
            exfalso
            have := tLd_e k3
            rw [← eL] at this
            unfold kp at this
            rw [if_pos c2, w, q] at this
            exact this rfl
          | succ e ih =>
            intro d μ2 hd F2 e4 e2 e5
            have T2 := TXM_d hT F2
            have c2 : tS0 n t p + d < n := by unfold tEn at he; omega
            obtain ⟨y1, y2⟩ := T2.2.2 (tS0 n t p + d) c2
            have lk := tLd_b (n := n) (t := t) (a := p) (d := d) (by omega)
            unfold kp at lk
            rw [if_pos c2, q] at lk
            have lt := ckn_0.mp lk
            refine u_X12_leads_99 ?_
            rw [T2.2.1, e2, tn_nI (by omega), y2]
            refine br_f (nI_ge c2 (by omega)) ⟨vp_in_nI (by omega) (by decide), s_letter y1 (fun _ => ⟨fun y => absurd y (by decide), fun _ => ?_⟩) (fun w => absurd lk w)⟩
            rw [e2, e4, pk_sub (by omega), show tS0 n t p + d - tS0 n t p = d by omega, nI_1]
            refine pk_le 8 d (fun c8 => ih (d + 1) _ (by omega) (FRD_s F2 (by decide)) (by rw [sto_s (by decide)]; exact e4) sto_eq ?_) (fun c8 => ⟨vp_in_nI (by omega) (by decide), ?_⟩) rfl rfl (by decide) (by omega)
            · rw [sto_s (by decide), sto_s (by decide), e5, show min d 8 = 8 by omega, show min (d + 1) 8 = 8 by omega]
            · rw [e5, tn_nI (by omega), y2, fa_byte_small (show t (tS0 n t p + d) < 128 by omega), nI_l (by omega), shlL, show min d 8 = d by omega]
              refine ih (d + 1) _ (by omega) (FRD_s (FRD_s (FRD_s F2 (by decide)) (by decide)) (by decide)) (by rw [sto_s (by decide), sto_s (by decide), sto_s (by decide)]; exact e4) sto_eq ?_
              rw [sto_s (by decide), sto_s (by decide), sto_eq, sto_s (by decide), sto_eq, mkL_hl, show min (d + 1) 8 = d + 1 by omega]
              exact fb_or_sumL (a := t (tS0 n t p + d)) (k := 8) _ (by omega)
        exact lp (tLn n t p) 0 _ (Nat.zero_add _) F0 (by rw [sto_s (by decide), sto_s (by decide), sto_s (by decide), sto_eq]) (by rw [sto_s (by decide), sto_s (by decide), sto_s (by decide), sto_s (by decide)]; exact g2) (by rw [sto_s (by decide), sto_s (by decide), sto_eq, sto_s (by decide), sto_eq, mkL_hl]; rfl)
      · -- a number
        rw [← ek] at q2
        have eL : tLn n t p = tLd n t p := by unfold tLn; rw [if_neg k3, if_pos (Or.inr q2)]
        have dg : ∀ d, d < tLn n t p → tS0 n t p + d < n ∧ 48 ≤ t (tS0 n t p + d) ∧ t (tS0 n t p + d) ≤ 57 := fun d hd => by
          have c2 : tS0 n t p + d < n := by unfold tEn at he; omega
          have lk := tLd_b (n := n) (t := t) (a := p) (d := d) (by omega)
          unfold kp at lk
          rw [if_pos c2, q2] at lk
          exact ⟨c2, ckn_1.mp lk⟩
        have lp : ∀ e d (μ2 : mH), d + e = tLn n t p → FRD μ μ2 → μ2 12 0 4 = nI (tS0 n t p) → μ2 12 0 2 = nI (tS0 n t p + d) → mkL (μ2 12 0 5) (μ2 12 0 100) = lN (nvm t (tS0 n t p) d) → aw Γ M_X12_leads 208 [aR 12 0, aX] [] μ2 (rV Q) := by
          intro e
          induction e with
          | zero =>
            intro d μ2 hd F2 e4 e2 e5
            obtain rfl : d = tLn n t p := by omega
            have T2 := TXM_d hT F2
            have h1 : nI (mki (tKi n t p)) = 2 := by rw [q2]; rfl
            have fn : Q (sto μ2 12 0 3 2) := fin _ (FRD_s F2 (by decide)) ⟨by rw [sto_eq, h1], by rw [sto_s (by decide)]; exact e4, by rw [sto_s (by decide)]; exact e2, fun w => by omega, fun _ => by rw [sto_s (by decide), sto_s (by decide)]; exact e5⟩
            refine u_X12_leads_208 ?_
            rw [T2.2.1, e2]
            refine pk_le n (tS0 n t p + tLn n t p) (fun _ => fn) (fun c2 => ?_) rfl rfl (by omega) (by unfold tEn at he; omega)
            obtain ⟨y1, y2⟩ := T2.2.2 (tS0 n t p + tLn n t p) c2
            rw [tn_nI (by omega), y2]
            refine ⟨vp_in_nI (by omega) (by decide), s_digit y1 (fun w => ?_) (fun _ => ⟨fun _ => fn, fun y => absurd rfl y⟩)⟩
            exfalso
            have := tLd_e k3
            rw [← eL] at this
            unfold kp at this
            rw [if_pos c2, w, q2] at this
            exact this rfl
          | succ e ih =>
            intro d μ2 hd F2 e4 e2 e5
            have T2 := TXM_d hT F2
            obtain ⟨c2, d1, d2⟩ := dg d (by omega)
            obtain ⟨y1, y2⟩ := T2.2.2 (tS0 n t p + d) c2
            have nl := nvm_le (t := t) (s := tS0 n t p) d (fun i hi => (dg i (by omega)).2.2)
            have go := fun μ3 => ih (d + 1) μ3 (by omega)
            have ev : nvm t (tS0 n t p) (d + 1) = if nvm t (tS0 n t p) d ≤ 99999 then 10 * nvm t (tS0 n t p) d + t (tS0 n t p + d) - 48 else nvm t (tS0 n t p) d := rfl
            rw [ev] at go
            refine u_X12_leads_208 ?_
            rw [T2.2.1, e2, tn_nI (by omega), y2]
            refine br_f (nI_ge c2 (by omega)) ⟨vp_in_nI (by omega) (by decide), s_digit y1 (fun _ => ⟨fun y => absurd y (by decide), fun _ => ?_⟩) (fun w => absurd (ckn_1.mpr ⟨d1, d2⟩) w)⟩
            rw [e5, e2, tn_nI (by omega), y2, fa_byte_small (show t (tS0 n t p + d) < 128 by omega), nI_l (by omega), nI_1, lg_cmp_le, show (99999 : Int64) = lN 99999 from rfl, lN_le (by omega) (by decide), show (10 : Int64) = lN 10 from rfl, lN_mul, lN_add, show (48 : Int64) = lN 48 from rfl, lN_sub (by omega)]
            refine ⟨fun w => ⟨vp_in_nI (by omega) (by decide), go _ (FRD_s (FRD_s (FRD_s F2 (by decide)) (by decide)) (by decide)) (by rw [sto_s (by decide), sto_s (by decide), sto_s (by decide)]; exact e4) sto_eq ?_⟩, fun w => go _ (FRD_s (FRD_s (FRD_s F2 (by decide)) (by decide)) (by decide)) (by rw [sto_s (by decide), sto_s (by decide), sto_s (by decide)]; exact e4) sto_eq ?_⟩
            · rw [sto_s (by decide), sto_s (by decide), sto_eq, sto_s (by decide), sto_eq, mkL_hl, if_pos w]
            · rw [sto_s (by decide), sto_s (by decide), sto_eq, sto_s (by decide), sto_eq, mkL_hl, if_neg w]
        exact lp (tLn n t p) 0 _ (Nat.zero_add _) F0 (by rw [sto_s (by decide), sto_s (by decide), sto_s (by decide), sto_eq]) (by rw [sto_s (by decide), sto_s (by decide), sto_s (by decide), sto_s (by decide)]; exact g2) (by rw [sto_s (by decide), sto_s (by decide), sto_eq, sto_s (by decide), sto_eq, mkL_hl]; rfl)
      · rw [← ek] at q q2
        have eL : tLn n t p = 1 := by unfold tLn; rw [if_neg k3, if_neg (by omega)]
        have e2 : (sto (sto (sto (sto μ1 12 0 4 (nI (tS0 n t p))) 12 0 5 (hiL 0)) 12 0 100 (loL 0)) 12 0 3 0) 12 0 2 = nI (tS0 n t p) := by rw [sto_s (by decide), sto_s (by decide), sto_s (by decide), sto_s (by decide)]; exact g2
        rw [e2, nI_1]
        have g : ∀ x : Int32, x = nI (mki (tKi n t p)) → Q (sto (sto (sto (sto (sto (sto μ1 12 0 4 (nI (tS0 n t p))) 12 0 5 (hiL 0)) 12 0 100 (loL 0)) 12 0 3 0) 12 0 3 x) 12 0 2 (nI (tS0 n t p + 1))) := fun x hx => fin _ (FRD_s (FRD_s F0 (by decide)) (by decide)) ⟨by rw [sto_s (by decide), sto_eq, hx], by rw [sto_s (by decide), sto_s (by decide), sto_s (by decide), sto_s (by decide), sto_s (by decide), sto_eq], by rw [sto_eq]; unfold tEn; rw [eL], fun w => by omega, fun w => by omega⟩
        have e59 := (mb_eq _ b1).2.2
        refine ⟨fun w => g 4 ?_, fun w => g 3 ?_⟩
        · have : tKi n t p = 4 := by
            have h59 : t (tS0 n t p) ≠ 59 := fun y => w (e59.mpr y)
            rw [ek]
            unfold ckn
            rw [if_neg (fun y => q (by rw [ek]; exact ckn_0.mpr y)), if_neg (fun y => q2 (by rw [ek]; exact ckn_1.mpr y)), if_neg h59]
          rw [this]; rfl
        · have : tKi n t p = 2 := by
            have h59 := e59.mp w
            rw [ek, h59]; rfl
          rw [this]; rfl
    · have z : tS0 n t p = n := (nI_eq (by omega) (by omega)).mp z
      have k3 : tKi n t p = 3 := kp_3.mpr (by omega)
      have eL : tLn n t p = 0 := by unfold tLn; rw [if_pos k3]
      refine fin _ F0 ⟨by rw [sto_eq, k3]; rfl, by rw [sto_s (by decide), sto_s (by decide), sto_s (by decide), sto_eq], by rw [sto_s (by decide), sto_s (by decide), sto_s (by decide), sto_s (by decide)]; unfold tEn; rw [eL, Nat.add_zero]; exact g2, fun w => by omega, fun w => by omega⟩
  have bl : ∀ e d (μ1 : mH), d + e = skd n t p → FRD μ μ1 → μ1 12 0 2 = nI (p + d) → ((μ1 12 0 1 ≤ μ1 12 0 2 → aw Γ M_X12_leads 52 [aR 12 0, aX] [] μ1 (rV Q)) ∧ (¬ μ1 12 0 1 ≤ μ1 12 0 2 → (vp_in (μ1 12 0 2) 200 ∧ ((μ1 40 0 (tn (μ1 12 0 2)) = 32 → aw Γ M_X12_leads 0 [aR 12 0, aX] [] (sto μ1 12 0 2 (μ1 12 0 2 + 1)) (rV Q)) ∧ (¬ μ1 40 0 (tn (μ1 12 0 2)) = 32 → (vp_in (μ1 12 0 2) 200 ∧ ((¬ μ1 40 0 (tn (μ1 12 0 2)) = 10 → aw Γ M_X12_leads 52 [aR 12 0, aX] [] μ1 (rV Q)) ∧ (μ1 40 0 (tn (μ1 12 0 2)) = 10 → aw Γ M_X12_leads 0 [aR 12 0, aX] [] (sto μ1 12 0 2 (μ1 12 0 2 + 1)) (rV Q))))))))) := by
    intro e
    induction e with
    | zero =>
      intro d μ1 hd F1 g2
      obtain rfl : d = skd n t p := by omega
      have T1 := TXM_d hT F1
      have go := tk μ1 F1 g2
      have ne := skd_e (n := n) (t := t) (a := p)
      unfold tS0 at hs
      rw [T1.2.1, g2]
      refine pk_le n (p + skd n t p) (fun _ => go) (fun c => ?_)
      obtain ⟨b1, b2⟩ := T1.2.2 (p + skd n t p) c
      obtain ⟨e32, e10, _⟩ := mb_eq _ b1
      rw [tn_nI (by omega), b2]
      have nb : blk (t (p + skd n t p)) ≠ true := fun y => ne ⟨c, y⟩
      simp [blk] at nb
      refine ⟨vp_in_nI (by omega) (by decide), fun z => absurd (e32.mp z) nb.1, fun _ => ⟨vp_in_nI (by omega) (by decide), fun _ => go, fun z => absurd (e10.mp z) nb.2⟩⟩
    | succ e ih =>
      intro d μ1 hd F1 g2
      have T1 := TXM_d hT F1
      obtain ⟨c, hb⟩ := skd_b (n := n) (t := t) (a := p) (d := d) (by omega)
      obtain ⟨b1, b2⟩ := T1.2.2 (p + d) c
      obtain ⟨e32, e10, _⟩ := mb_eq _ b1
      have nx := ih (d + 1) (sto μ1 12 0 2 (nI (p + d + 1))) (by omega) (FRD_s F1 (by decide)) sto_eq
      have go := u_X12_leads_0 (Γ := Γ) nx
      rw [T1.2.1, g2, tn_nI (by omega), b2, nI_1]
      refine br_f (nI_ge c (by omega)) ⟨vp_in_nI (by omega) (by decide), fun _ => go, fun z => ⟨vp_in_nI (by omega) (by decide), fun y => ?_, fun _ => go⟩⟩
      exfalso
      simp [blk] at hb
      rcases hb with w | w
      · exact z (e32.mpr w)
      · exact y (e10.mpr w)
  exact u_X12_leads (bl (skd n t p) 0 μ (Nat.zero_add _) ⟨Fr_rf, fun _ _ _ _ _ _ => rfl⟩ h2)
end PWD
