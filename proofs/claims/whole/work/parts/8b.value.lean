def vt (V : Nat → Nat → Nat) (n i w : Nat) : Nat := fb_ct (fun c => decide (V c (2 + i) = w)) n
def vbs (g : Nat → Nat) : Nat → Nat
  | 0 => 0
  | w + 1 => if g (vbs g w) < g (w + 1) then w + 1 else vbs g w
theorem vbs_le (g : Nat → Nat) : ∀ w, vbs g w ≤ w
  | 0 => Nat.le_refl _
  | w + 1 => by
    have := vbs_le g w
    unfold vbs
    split <;> omega
def valV (v : Nat) (dat : Nat → Nat) (n : Nat) (V : Nat → Nat → Nat) (i : Nat) : Int32 := if n = 0 then -1 else if v = 1 ∨ v = 3 then nI (dat i + 256) else if 2 * vt V n i (vbs (vt V n i) 255) ≤ n then nI (vbs (vt V n i) 255) else nI (vbs (vt V n i) 255 + 256)
section PVA
variable {Γ : cx_T}
theorem s_sound {v : Nat} {μ : mH} {Q : Int32 → mH → Prop} (hv : v ≤ 4) (k1 : (v = 1 ∨ v = 3) → Q 1 μ) (k0 : ¬ (v = 1 ∨ v = 3) → Q 0 μ) : cwi Γ M_X11_soundStatus [aI (nI v)] μ Q := u_X11_soundStatus (pk_eq v 1 (fun c => k1 (Or.inl c)) (fun c => ⟨fun z => k0 (fun q => z (by rw [show v = 3 by omega]; rfl)), fun z => k1 (Or.inr ((nI_eq (b := 3) (by omega) (by decide)).mp z))⟩))
theorem s_whole {v : Nat} {μ : mH} {Q : Int32 → mH → Prop} (hv : v ≤ 4) (k1 : (v = 1 ∨ v = 3) → Q 1 μ) (k0 : ¬ (v = 1 ∨ v = 3) → Q 0 μ) : cwi Γ M_X12_isWhole [aI (nI v)] μ Q := u_X12_isWhole (pk_eq v 1 (fun c => k1 (Or.inl c)) (fun c => ⟨fun z => k0 (fun q => z (by rw [show v = 3 by omega]; rfl)), fun z => k1 (Or.inr ((nI_eq (b := 3) (by omega) (by decide)).mp z))⟩))
theorem fill33_lp {x : Int32} {μ0 : mH} {Q : mH → Prop} (kk : ∀ μ', (∀ c, c < 256 → μ' 33 0 c = x) → Fr [33] μ0 μ' → Q μ') : ∀ (d i : Nat) (μ : mH), i + d = 256 → (∀ c, c < i → μ 33 0 c = x) → Fr [33] μ0 μ → aw Γ M_J7_fill_53178 5 [aR 33 0, aI x, aI (nI i), aI 256] [] μ (rV Q) := by
  intro d
  induction d with
  | zero =>
    intro i μ hi hc hF
    obtain rfl : i = 256 := by omega
    exact u_J7_fill_33_5 (br_t (by decide) (kk μ hc hF))
  | succ d ih =>
    intro i μ hi hc hF
    refine u_J7_fill_33_5 (br_f (nI_ge (b := 256) (by omega) (by decide)) ?_)
    rw [tn_nI (by omega), nI_1]
    refine ⟨vp_in_nI (by omega) (by decide), ih (i + 1) _ (by omega) (fun c h => ?_) (Fr_st2 hF (by decide))⟩
    by_cases z : c = i
    · subst z; exact sto_eq
    · rw [sto_s z]; exact hc c (by omega)
theorem c_vote {fm : Nat → Nat} {T S n v i : Nat} {V : Nat → Nat → Nat} {r : Nat → Bool} {dat : Nat → Nat} {μ : mH} {Q : Int32 → mH → Prop} (hO : OKF fm) (hi : i < fm 4) (hW : CPV fm T S n V r) (hC : CPC fm n V r μ) (hv4 : v ≤ 4) (h2 : μ 3 0 2 = nI v) (hd : v = 1 ∨ v = 3 → ∀ i, i < fm 4 → μ 24 88 i = nI (dat i)) (kk : ∀ μ', Fr [33] μ μ' → Q (valV v dat n V i) μ') : cwi Γ M_X3_vote [aR 3 0, aI (nI i)] μ Q := by
  have o6 := hO.2.2.2.2.2.1
  have hn8 := hW.1
  obtain ⟨a0, a1, a2⟩ := hC
  unfold valV at kk
  refine u_X3_vote ?_
  rw [a0, h2]
  refine pk_eq n 0 (fun c => ?_) (fun c => ⟨fun z => absurd z (nI_pos (by omega)), fun _ => br_t (nI_lt (b := 8) (by omega) (by decide)) (s_sound hv4 (fun s => ⟨fun z => absurd z (by decide), fun _ => ⟨vp_in_nI (by omega) (by decide), ?_⟩⟩) (fun s => ⟨fun _ => ?_, fun z => absurd rfl z⟩))⟩)
  · have k := kk μ Fr_rf
    rw [if_pos c] at k
    exact k
  · have k := kk μ Fr_rf
    rw [if_neg c, if_pos s] at k
    rw [tn_nI (by omega), hd s i hi, show nI (dat i) + (256 : Int32) = nI (dat i + 256) from nI_add _ 256]
    exact k
  · simp only [if_neg c, if_neg s] at kk
    refine u_J7_fill_33 (fill33_lp (fun μ1 h33 F1 => ?_) 256 0 μ rfl (fun c hc => absurd hc (by omega)) Fr_rf)
    have vl : ∀ w c, fb_ct (fun c => decide (V c (2 + i) = w)) c ≤ c := fun w c => fb_ct_le _ _
    have lp2 : ∀ (μ2 : mH), Fr [33] μ μ2 → (∀ w, w < 256 → μ2 33 0 w = nI (vt V n i w)) → ∀ d b, b + d = 255 → aw Γ M_X3_vote 92 [aR 3 0, aX, aI (nI (vbs (vt V n i) b)), aI (nI (b + 1))] [] μ2 (rI Q) := by
      intro μ2 F2 t2 d
      have vn : ∀ w, vt V n i w ≤ n := fun w => vl w n
      induction d with
      | zero =>
        intro b hb
        obtain rfl : b = 255 := by omega
        have k := kk μ2 F2
        have hb := vbs_le (vt V n i) 255
        have := vn (vbs (vt V n i) 255)
        refine u_X3_vote_92 (br_t (by decide) ?_)
        rw [tn_nI (by omega), t2 _ (by omega), Fr_at F2 (show 3 ∉ [33] by decide), a0, show (2 : Int32) * nI (vt V n i (vbs (vt V n i) 255)) = nI (2 * vt V n i (vbs (vt V n i) 255)) from pk_mul 2 _, show nI (vbs (vt V n i) 255) + (256 : Int32) = nI (vbs (vt V n i) 255 + 256) from nI_add _ 256]
        refine ⟨vp_in_nI (by omega) (by decide), pk_le (2 * vt V n i (vbs (vt V n i) 255)) n (fun q => ?_) (fun q => ?_)⟩
        · rw [if_pos q] at k; exact k
        · rw [if_neg (by omega)] at k; exact k
      | succ d ih =>
        intro b hb
        have hbl := vbs_le (vt V n i) b
        have go := ih (b + 1) (by omega)
        have eb : vbs (vt V n i) (b + 1) = if vt V n i (vbs (vt V n i) b) < vt V n i (b + 1) then b + 1 else vbs (vt V n i) b := rfl
        rw [eb] at go
        have := vn (vbs (vt V n i) b)
        have := vn (b + 1)
        refine u_X3_vote_92 (br_f (nI_nlt (a := 255) (b := b + 1) (by omega) (by decide)) ?_)
        rw [tn_nI (by omega), tn_nI (by omega), t2 _ (by omega), t2 _ (by omega), nI_1]
        refine ⟨vp_in_nI (by omega) (by decide), vp_in_nI (by omega) (by decide), pk_le (vt V n i (b + 1)) (vt V n i (vbs (vt V n i) b)) (fun q => ?_) (fun q => ?_)⟩
        · rw [if_neg (by omega)] at go; exact go
        · rw [if_pos q] at go; exact go
    have lp : ∀ d c (μ2 : mH), c + d = n → Fr [33] μ μ2 → (∀ w, w < 256 → μ2 33 0 w = nI (fb_ct (fun c => decide (V c (2 + i) = w)) c)) → aw Γ M_X3_vote 50 [aR 3 0, aI (nI i), aI (nI c), aX] [] μ2 (rI Q) := by
      intro d
      induction d with
      | zero =>
        intro c μ2 hc F2 t2
        obtain rfl : c = n := by omega
        refine u_X3_vote_50 ?_
        rw [Fr_at F2 (by decide), a0]
        exact br_t (nI_le (Nat.le_refl _) (by omega)) (lp2 μ2 F2 t2 255 0 rfl)
      | succ d ih =>
        intro c μ2 hc F2 t2
        obtain ⟨q, q1, q2, q3, q4, q5⟩ := a2 c (by omega)
        have vc := (hW.2 c (by omega)).1 (2 + i)
        refine u_X3_vote_50 ?_
        rw [Fr_at F2 (by decide), a0, tn_nI (by omega), Fr_at F2 (show 26 ∉ [33] by decide)]
        refine br_f (nI_ge (by omega) (by omega)) ⟨vp_in_nI (by omega) (by decide), q, q2, by omega, vp_in_nI (by omega) (by decide), ?_⟩
        have e : μ2 24 q (tn (nI i)) &&& (255 : Int32) = nI (V c (2 + i)) := by
          rw [tn_nI (by omega), Fr_at F2 (by decide), q3 i hi, pk_andN (by omega) 8 (by decide), Nat.mod_eq_of_lt vc]
        rw [e, tn_nI (by omega), t2 _ vc, nI_1, nI_1]
        refine ⟨vp_in_nI vc (by decide), vp_in_nI vc (by decide), ih (c + 1) _ (by omega) (Fr_st2 F2 (by decide)) (fun w hw => ?_)⟩
        rw [fb_ct_succ]
        by_cases y : w = V c (2 + i)
        · subst y
          rw [sto_eq]
          simp
        · rw [sto_s y, t2 w hw]
          simp [show ¬ V c (2 + i) = w from fun z => y z.symm]
    exact lp n 0 μ1 (Nat.zero_add _) F1 (fun w hw => by rw [h33 w hw]; rfl)
theorem c_value {fm : Nat → Nat} {f nr : Nat} {dr ml : Nat → Nat} {st : Nat → Nat → Nat} {x1 x2 x3 : Int32} {μ : mH} {Q : Int32 → mH → Prop} (hf : f ≤ 1) (h4 : μ 4 1 0 = nI f) (hO : f = 1 → OKF fm) (hF : FMC 1 fm μ) (hR : RDC fm nr dr ml st μ) (hJ : JC fm nr ml st μ)
    (k1 : cjok f x1 x2 → inN x3 (fm 4) → ∀ v dat μ', VER fm (tn x1) (tn x2) (gN fm nr ml st (tn x1) (tn x2)) (gV fm nr ml st (tn x1) (tn x2)) (gR fm nr ml st (tn x1) (tn x2)) v dat → JC fm nr ml st μ' → RDC fm nr dr ml st μ' → FRK μ μ' → Q (valV v dat (gN fm nr ml st (tn x1) (tn x2)) (gV fm nr ml st (tn x1) (tn x2)) (tn x3)) μ')
    (k0 : ¬ (cjok f x1 x2 ∧ inN x3 (fm 4)) → Q (-1) μ) : cwi Γ M_X11_value [aR 11 0, aI x1, aI x2, aI x3] μ Q := by
  refine u_X11_value (s_canJudge hf h4 (fun ok => ⟨fun z => absurd z (by decide), fun _ => ?_⟩) (fun no => ⟨fun _ => k0 (fun z => no z.1), fun z => absurd rfl z⟩))
  have k1 := k1 ok
  have k0 : ¬ inN x3 (fm 4) → Q (-1) μ := fun h => k0 (fun z => h z.2)
  obtain ⟨f1, i1, i2⟩ := ok
  have hO := hO f1
  have o6 := hO.2.2.2.2.2.1
  rw [hF 4 (by decide) (by decide)]
  rcases Int32_cases x3 with hn | ⟨i, hi, rfl⟩
  · exact ⟨fun _ => k0 (inN_neg hn (by omega)), fun z => absurd hn z⟩
  · refine ⟨fun z => absurd z (nI_pos hi), fun _ => pk_lt i (fm 4) (fun q => ?_) (fun q => k0 (inN_no q hi))⟩
    have k1 := k1 (inN_of q (by omega))
    rw [tn_nI hi] at k1
    rw [i1.1, i2.1]
    refine c_judge i1.2 i2.2 hO hF hR hJ (fun μ1 V1 J1 R1 M1 K1 => ?_)
    obtain ⟨v, dat, v1, v2, v3, v4⟩ := V1
    refine c_vote hO q (g_CPV hR.1) v3 (VER_le v1) v2 v4 (fun μ2 F2 => k1 v dat μ2 v1 ⟨?_, fun c hc => ?_⟩ (RDC_fr R1 F2 (by decide) (by decide) (by decide) (by decide) (by decide) (by decide) (fun q _ => by rw [F2 24 (by decide)])) (FRK_tr K1 ⟨Fr_mono F2 (by decide), fun q _ => by rw [F2 24 (by decide)]⟩))
    · unfold JV CPC
      rw [F2 3 (by decide), F2 26 (by decide), F2 24 (by decide), F2 7 (by decide)]
      exact J1.1
    · rw [F2 27 (by decide)]
      exact J1.2 c hc
theorem m_value {fm : Nat → Nat} {f nr : Nat} {dr ml : Nat → Nat} {st : Nat → Nat → Nat} {x1 x2 x3 : Int32} {μ : mH} {Q : Int32 → mH → Prop} (hf : f ≤ 1) (h4 : μ 12 0 8 = nI f) (hO : f = 1 → OKF fm) (hF : f = 1 → FMM fm μ) (hR : RDM nr dr ml st μ)
    (k1 : cjok f x1 x2 → inN x3 (fm 4) → ∀ v dat μ', VER fm (tn x1) (tn x2) (gN fm nr ml st (tn x1) (tn x2)) (gV fm nr ml st (tn x1) (tn x2)) (gR fm nr ml st (tn x1) (tn x2)) v dat → FRS μ μ' → Q (valV v dat (gN fm nr ml st (tn x1) (tn x2)) (gV fm nr ml st (tn x1) (tn x2)) (tn x3)) μ')
    (k0 : ¬ (cjok f x1 x2 ∧ inN x3 (fm 4)) → Q (-1) μ) : cwi Γ M_X12_value [aR 12 0, aI x1, aI x2, aI x3] μ Q := by
  refine u_X12_value (s_isSector hf h4 (fun ok => ⟨fun z => absurd z (by decide), fun _ => ?_⟩) (fun no => ⟨fun _ => k0 (fun z => no z.1), fun z => absurd rfl z⟩))
  have k1 := k1 ok
  have k0 : ¬ inN x3 (fm 4) → Q (-1) μ := fun h => k0 (fun z => h z.2)
  obtain ⟨f1, i1, i2⟩ := ok
  have hO := hO f1
  have hF := hF f1
  have o6 := hO.2.2.2.2.2.1
  refine s_inN (n := fm 4) (by omega) (by rw [hF.2.2.2.2.1]) (fun h => ⟨fun z => absurd rfl z, fun _ => k0 h⟩) (fun i3 => ⟨fun _ => ?_, fun z => absurd z (by decide)⟩)
  have k1 := k1 i3
  obtain ⟨e3, l3⟩ := i3
  have hW := g_CPV (fm := fm) (nr := nr) (ml := ml) (st := st) (T := tn x1) (S := tn x2) hR.1
  have hn8 := hW.1
  conv => arg 3; rw [i1.1, i2.1]
  refine m_statusOf i1.2 i2.2 hO hF hR (fun v dat μ1 v1 hd C1 F1 => ?_)
  have k := k1 v dat μ1 v1 F1
  have hv := VER_le v1
  unfold valV at k
  generalize gN fm nr ml st (tn x1) (tn x2) = n at *
  generalize gV fm nr ml st (tn x1) (tn x2) = V at *
  generalize gR fm nr ml st (tn x1) (tn x2) = r at *
  rw [C1.1]
  refine ⟨fun z => ?_, fun z => by rw [if_pos ((nI_eq (b := 0) (by omega) (by decide)).mp z)] at k; exact k⟩
  rw [if_neg (fun y => z (by rw [y]; rfl))] at k
  refine s_whole hv (fun s => ⟨fun z => absurd z (by decide), fun _ => ?_⟩) (fun s => ⟨fun _ => ?_, fun z => absurd rfl z⟩)
  · rw [if_pos s] at k
    have e2 : (2 : Int32) + x3 = nI (2 + tn x3) := by
      conv => lhs; rw [e3]
      exact nI_add 2 _
    have hh : hdv fm (tn x1) (tn x2) dat (2 + tn x3) = dat (tn x3) := by
      unfold hdv
      rw [if_neg (by omega), if_neg (by omega), show 2 + tn x3 - 2 = tn x3 by omega]
    rw [e2, tn_nI (n := 2 + tn x3) (by omega), hd s (2 + tn x3) (by omega), hh, show (256 : Int32) + nI (dat (tn x3)) = nI (256 + dat (tn x3)) from nI_add 256 _, Nat.add_comm 256]
    exact ⟨vp_in_nI (by omega) (by decide), k⟩
  · rw [if_neg s] at k
    generalize tn x3 = i at *
    have vn : ∀ w, vt V n i w ≤ n := fun w => fb_ct_le _ _
    have lp3 : ∀ d w bx mx, w < 256 → ((aw Γ M_X12_value 74 [aR 12 0, aX, aX, aI x3, aX, aI (nI w), aI (nI (vt V n i w)), aI (nI (w + 1)), aX, aX] [] μ1 (rI Q) ∧ mx < vt V n i w) ∨ (aw Γ M_X12_value 74 [aR 12 0, aX, aX, aI x3, aX, aI (nI bx), aI (nI mx), aI (nI (w + 1)), aX, aX] [] μ1 (rI Q) ∧ ¬ mx < vt V n i w)) → mx ≤ 80 → ∀ c, c + d = n → aw Γ M_X12_value 88 [aR 12 0, aX, aX, aI x3, aX, aI (nI bx), aI (nI mx), aI (nI w), aI (nI (fb_ct (fun c => decide (V c (2 + i) = w)) c)), aI (nI c)] [] μ1 (rI Q) := by
      intro d w bx mx hw hk hm
      have := vn w
      induction d with
      | zero =>
        intro c hc
        obtain rfl : c = n := by omega
        refine u_X12_value_88 ?_
        rw [C1.1, nI_1]
        refine br_t (nI_le (Nat.le_refl _) (by omega)) (pk_lt mx (vt V c i w) (fun q => ?_) (fun q => ?_) rfl rfl (by omega) (by omega))
        · rcases hk with ⟨h, _⟩ | ⟨_, h⟩
          · exact h
          · exact absurd q h
        · rcases hk with ⟨_, h⟩ | ⟨h, _⟩
          · omega
          · exact h
      | succ d ih =>
        intro c hc
        have go := ih (c + 1) (by omega)
        rw [fb_ct_succ] at go
        have vc := (hW.2 c (by omega)).1 (2 + i)
        have e12 : (12 : Int32) * nI c + 2 + x3 = nI (12 * c + (2 + i)) := by
          conv => lhs; rw [e3]
          rw [show (12 : Int32) * nI c = nI (12 * c) from pk_mul 12 _, show nI (12 * c) + (2 : Int32) = nI (12 * c + 2) from nI_add _ 2, nI_add, Nat.add_assoc]
        refine u_X12_value_88 ?_
        rw [C1.1, e12, tn_nI (by omega), (C1.2 c (by omega)).1 (2 + i) (by omega), nI_1 c, nI_1 (fb_ct (fun c => decide (V c (2 + i) = w)) c), show ∀ a, nI a + (0 : Int32) = nI a from fun a => nI_add a 0]
        refine br_f (nI_ge (by omega) (by omega)) ⟨vp_in_nI (by omega) (by decide), fun y => ?_, fun y => ?_⟩
        · have y : V c (2 + i) ≠ w := fun z => y (by rw [z])
          simp only [y, decide_false, Bool.false_eq_true, if_false, Nat.add_zero] at go
          exact go
        · have y := (nI_eq (by omega) (by omega)).mp y
          simp only [y, decide_true, if_true] at go
          exact go
    have lp : ∀ d w, w + d = 255 → aw Γ M_X12_value 74 [aR 12 0, aX, aX, aI x3, aX, aI (nI (vbs (vt V n i) w)), aI (nI (vt V n i (vbs (vt V n i) w))), aI (nI (w + 1)), aX, aX] [] μ1 (rI Q) := by
      intro d
      induction d with
      | zero =>
        intro w hw
        obtain rfl : w = 255 := by omega
        have := vn (vbs (vt V n i) 255)
        refine u_X12_value_74 (br_t (by decide) ?_)
        rw [C1.1, show (2 : Int32) * nI (vt V n i (vbs (vt V n i) 255)) = nI (2 * vt V n i (vbs (vt V n i) 255)) from pk_mul 2 _, show (256 : Int32) + nI (vbs (vt V n i) 255) = nI (256 + vbs (vt V n i) 255) from nI_add 256 _, Nat.add_comm 256]
        refine pk_le (2 * vt V n i (vbs (vt V n i) 255)) n (fun q => ?_) (fun q => ?_)
        · rw [if_pos q] at k; exact k
        · rw [if_neg (by omega)] at k; exact k
      | succ d ih =>
        intro w hw
        have go := ih (w + 1) (by omega)
        have eb : vbs (vt V n i) (w + 1) = if vt V n i (vbs (vt V n i) w) < vt V n i (w + 1) then w + 1 else vbs (vt V n i) w := rfl
        rw [eb] at go
        have := vn (vbs (vt V n i) w)
        refine u_X12_value_74 (br_f (nI_ge (b := 256) (by omega) (by decide)) ?_)
        refine lp3 n (w + 1) _ _ (by omega) ?_ (by omega) 0 (Nat.zero_add _)
        by_cases q : vt V n i (vbs (vt V n i) w) < vt V n i (w + 1)
        · rw [if_pos q] at go; exact Or.inl ⟨go, q⟩
        · rw [if_neg q] at go; exact Or.inr ⟨go, q⟩
    refine u_X12_value_74 (br_f (by decide) ?_)
    refine lp3 n 0 0 0 (by decide) ?_ (by decide) 0 (Nat.zero_add _)
    have go := lp 255 0 rfl
    have e0 : vbs (vt V n i) 0 = 0 := rfl
    rw [e0] at go
    by_cases q : 0 < vt V n i 0
    · exact Or.inl ⟨go, q⟩
    · refine Or.inr ⟨?_, q⟩
      rw [show vt V n i 0 = 0 by omega] at go
      exact go
end PVA
