/-! read -/
def ups (st : Nat → Nat → Nat) (n : Nat) (s : Nat → Nat) : Nat → Nat → Nat := fun r => if r = n then s else st r
theorem ups_eq (st : Nat → Nat → Nat) (n : Nat) (s : Nat → Nat) : ups st n s n = s := if_pos rfl
theorem ups_ne (st : Nat → Nat → Nat) {n r : Nat} (s : Nat → Nat) (h : r ≠ n) : ups st n s r = st r := if_neg h
def JF (μ : mH) : Prop := μ 3 0 5 = -1 ∧ μ 3 0 6 = -1 ∧ ∀ c, c < 24 → μ 27 0 c = -1
theorem TPC_at {i m : Nat} {s : Nat → Nat} {μ μ' : mH} (h : TPC i m s μ) (h1 : μ' 10 i 1 = μ 10 i 1) (h2 : μ' 21 i = μ 21 i) : TPC i m s μ' := by
  unfold TPC
  rw [h1, h2]
  exact h
theorem FDC_at {fm b : Nat → Nat} {nb t : Nat} {μ μ' : mH} (h : FDC fm b nb t μ) (h1 : μ' 1 t = μ 1 t) (h2 : ∀ q, q / 8 = t → μ' 7 q = μ 7 q ∧ μ' 24 q = μ 24 q) : FDC fm b nb t μ' := by
  refine ⟨by rw [h1]; exact h.1, fun k hk => ?_⟩
  have h8 := FN_le fm b nb
  obtain ⟨a, c⟩ := h2 (8 * t + k) (by omega)
  exact SEC_at (h.2 k hk) a c
section PRE
variable {Γ : cx_T}
theorem fill27_lp {x : Int32} {μ0 : mH} {Q : mH → Prop} (kk : ∀ μ', (∀ c, c < 24 → μ' 27 0 c = x) → Fr [27] μ0 μ' → Q μ') : ∀ (d i : Nat) (μ : mH), i + d = 24 → (∀ c, c < i → μ 27 0 c = x) → Fr [27] μ0 μ → aw Γ M_J7_fill_53178 5 [aR 27 0, aI x, aI (nI i), aI 24] [] μ (rV Q) := by
  intro d
  induction d with
  | zero =>
    intro i μ hi hc hF
    obtain rfl : i = 24 := by omega
    exact u_J7_fill_27_5 (br_t (by decide) (kk μ hc hF))
  | succ d ih =>
    intro i μ hi hc hF
    refine u_J7_fill_27_5 (br_f (nI_ge (b := 24) (by omega) (by decide)) ?_)
    rw [tn_nI (by omega), nI_1]
    refine ⟨vp_in_nI (by omega) (by decide), ih (i + 1) _ (by omega) (fun c h => ?_) (Fr_st2 hF (by decide))⟩
    by_cases z : c = i
    · subst z; exact sto_eq
    · rw [sto_s z]; exact hc c (by omega)
theorem c_forget {μ : mH} {Q : mH → Prop} (kk : ∀ μ', JF μ' → Fr [3, 27] μ μ' → Q μ') : cwv Γ M_X3_forget [aR 3 0] μ Q := by
  refine u_X3_forget (u_J7_fill_27 (fill27_lp (fun μ' hc hF => kk μ' ⟨?_, ?_, hc⟩ (Fr_tr (Fr_st2 (Fr_sto (by decide)) (by decide)) (Fr_mono hF (by decide)))) 24 0 _ rfl (fun c h => absurd h (by omega)) Fr_rf))
  · rw [Fr_at hF (by decide), sto_s (by decide), sto_eq]
  · rw [Fr_at hF (by decide), sto_eq]
theorem c_read {fm : Nat → Nat} {f nr m : Nat} {dr ml s : Nat → Nat} {st : Nat → Nat → Nat} {x1 : Int32} {μ : mH} {Q : Int32 → mH → Prop} (hf : f ≤ 1) (h4 : μ 4 1 0 = nI f) (hO : f = 1 → OKF fm) (hF : FMC 1 fm μ) (hR : RDC fm nr dr ml st μ) (hT : TPC 0 m s μ)
    (k1 : f = 1 → inN x1 4 → nr < 10 → ∀ μ', RDC fm (nr + 1) (up dr nr (tn x1)) (up ml nr m) (ups st nr s) μ' → TPC 0 0 s μ' → JF μ' → Fr [1, 3, 5, 7, 8, 9, 10, 21, 22, 24, 27] μ μ' → Q (nI nr) μ')
    (k0 : ¬ (f = 1 ∧ inN x1 4 ∧ nr < 10) → Q (-1) μ) : cwi Γ M_X11_read [aR 11 0, aI x1] μ Q := by
  obtain ⟨r1, r2, r3⟩ := hR
  refine u_X11_read ?_
  rw [h4]
  refine pk_eq f 0 (fun c => k0 (by omega)) (fun c => s_drN (fun h => ⟨fun _ => k0 (fun q => h q.2.1), fun z => absurd rfl z⟩) (fun h => ⟨fun z => absurd z (by decide), fun _ => ?_⟩))
  rw [r2]
  refine pk_lt nr 10 (fun c2 => ?_) (fun c2 => k0 (by omega))
  have f1 : f = 1 := by omega
  have hO := hO f1
  have hO0 := hO
  obtain ⟨o1, o2, o3, o4, o5, o6, o7, o8, o9, o10⟩ := hO
  refine u_X8_put ?_
  rw [r2, tn_nI (by omega)]
  refine br_t (nI_lt (b := 10) c2 (by decide)) ⟨vp_in_nI c2 (by decide), u_X10_take ?_⟩
  have hm := hT.1
  rw [hT.2.1, tn_nI (by omega)]
  refine ⟨nI_pos (by omega), by omega, ?_⟩
  have e4 : ∀ s, (sto (cpy μ 21 0 21 (nr + 1) 0 0 m) 10 (nr + 1) 1 (nI m)) 4 1 s = μ 4 1 s := fun s => by
    rw [sto_K (by decide)]
    exact if_neg (fun z => absurd z.1 (by decide))
  rw [e4, e4, hF 1 (by decide) (by decide), hF 2 (by decide) (by decide)]
  generalize hμa : sto (sto (sto (cpy μ 21 0 21 (nr + 1) 0 0 m) 10 (nr + 1) 1 (nI m)) 9 nr 2 x1) 9 nr 3 0 = μa
  have Fa : Fr [9, 10, 21] μ μa := fun K hK => by
    rw [← hμa]
    funext i s'
    rw [sto_K (fun e => hK (by rw [e]; decide)), sto_K (fun e => hK (by rw [e]; decide)), sto_K (fun e => hK (by rw [e]; decide))]
    exact if_neg (fun z => hK (by rw [z.1]; decide))
  have a10 : ∀ i, i ≠ nr + 1 → μa 10 i = μ 10 i := fun i z => by
    rw [← hμa]
    funext s'
    rw [sto_K (by decide), sto_K (by decide), sto_i z]
    exact if_neg (fun q => absurd q.1 (by decide))
  have a21 : ∀ i, i ≠ nr + 1 → μa 21 i = μ 21 i := fun i z => by
    rw [← hμa]
    funext s'
    rw [sto_K (by decide), sto_K (by decide), sto_K (by decide)]
    exact if_neg (fun q => z q.2.1)
  have a9 : ∀ i, i ≠ nr → μa 9 i = μ 9 i := fun i z => by
    rw [← hμa]
    funext s'
    rw [sto_i z, sto_i z, sto_K (by decide)]
    exact if_neg (fun q => absurd q.1 (by decide))
  have Tn : TPC (nr + 1) m s μa := by
    refine ⟨hm, ?_, fun j hj => ⟨(hT.2.2 j hj).1, (hT.2.2 j hj).2.1, ?_⟩⟩
    · rw [← hμa, sto_K (by decide), sto_K (by decide), sto_eq]
    · rw [← hμa, sto_K (by decide), sto_K (by decide), sto_K (by decide)]
      unfold cpy
      rw [if_pos ⟨rfl, rfl, by omega, by omega⟩, show 0 + (j - 0) = j by omega]
      exact (hT.2.2 j hj).2.2
  have n2 : μa 9 nr 2 = x1 := by rw [← hμa, sto_s (by decide), sto_eq]
  have n3 : μa 9 nr 3 = 0 := by rw [← hμa, sto_eq]
  refine c_fill o1 o2 (TPC_at hT (by rw [a10 0 (by omega)]) (a21 0 (by omega))) (fun μb Bb Fb => ?_)
  refine c_search hO0 (FMC_fr (FMC_fr hF Fa (by decide)) Fb (by decide)) Bb (rbt_le _ _ _ _) (by have := rz_le (fm 1) (fm 2) s m; omega) (fun μc Dc Fc tc qc => ?_)
  have e8 : μc 8 0 1 = nI nr := by rw [Fr_at Fc (by decide), Fr_at Fb (by decide), Fr_at Fa (by decide)]; exact r2
  rw [e8, nI_1]
  refine c_forget (fun μd Jd Fd => ?_)
  have Fe : Fr [1, 3, 5, 7, 8, 9, 10, 21, 22, 24, 27] μ μd := Fr_tr (Fr_mono Fa (by decide)) (Fr_tr (Fr_mono Fb (by decide)) (Fr_tr (Fr_mono Fc (by decide)) (Fr_tr (Fr_st2 (Fr_sto (by decide)) (by decide)) (Fr_mono Fd (by decide)))))
  have d8 : μd 8 0 1 = nI (nr + 1) := by rw [Fr_at Fd (by decide), sto_K (by decide), sto_eq]
  have dK : ∀ K, K ∉ [3, 27, 10, 8] → μd K = μc K := fun K hK => by
    rw [Fd K (fun q => hK (by simp at q ⊢; omega))]
    funext i s'
    rw [sto_K (fun e => hK (by simp; omega)), sto_K (fun e => hK (by simp; omega))]
  have d10 : ∀ i, i ≠ 0 → μd 10 i = μa 10 i := fun i z => by
    rw [Fd 10 (by decide)]
    funext s'
    rw [sto_i z, sto_K (by decide), Fr_at Fc (by decide), Fr_at Fb (by decide)]
  have d21 : μd 21 = μa 21 := by rw [dK 21 (by decide), Fc 21 (by decide), Fb 21 (by decide)]
  have d9 : μd 9 = μa 9 := by rw [dK 9 (by decide), Fc 9 (by decide), Fb 9 (by decide)]
  have t0 : TPC 0 0 s μd := ⟨by omega, by rw [Fr_at Fd (by decide), sto_eq]; rfl, fun j hj => absurd hj (by omega)⟩
  rw [d8, nI_pred]
  refine k1 f1 h c2 μd ⟨by omega, d8, fun r hr => ?_⟩ t0 Jd Fe
  by_cases z : r = nr
  · subst z
    rw [up_eq, up_eq, ups_eq]
    refine ⟨h.2, by rw [d9, n2]; exact h.1, TPC_at Tn (by rw [d10 _ (by omega)]) (by rw [d21]), ?_, fun y => absurd (by rw [d9]; exact n3) y⟩
    exact FDC_at Dc (by rw [dK 1 (by decide)]) (fun q _ => by rw [dK 7 (by decide), dK 24 (by decide)]; exact ⟨rfl, rfl⟩)
  · rw [up_ne _ z, up_ne _ z, ups_ne _ _ z]
    obtain ⟨g1, g2, g3, g4, g5⟩ := r3 r (by omega)
    have e9 : μd 9 r = μ 9 r := by rw [d9, a9 r z]
    refine ⟨g1, by rw [e9]; exact g2, TPC_at g3 (by rw [d10 _ (by omega), a10 _ (by omega)]) (by rw [d21, a21 _ (by omega)]), FDC_at g4 ?_ (fun q hq => ?_), fun y => ?_⟩
    · rw [dK 1 (by decide), tc r z, Fb 1 (by decide), Fa 1 (by decide)]
    · obtain ⟨u1, u2⟩ := qc q (by omega)
      rw [dK 7 (by decide), dK 24 (by decide), u1, u2, Fb 7 (by decide), Fa 7 (by decide), Fb 24 (by decide), Fa 24 (by decide)]
      exact ⟨rfl, rfl⟩
    · rw [e9] at y
      have := g5 y
      unfold TUN at this ⊢
      rw [e9]
      exact this
theorem m_read {f nr m : Nat} {dr ml s : Nat → Nat} {st : Nat → Nat → Nat} {x1 : Int32} {μ : mH} {Q : Int32 → mH → Prop} (hf : f ≤ 1) (h4 : μ 12 0 8 = nI f) (hR : RDM nr dr ml st μ) (hT : TPM m s μ)
    (k1 : f = 1 → inN x1 4 → nr < 10 → ∀ μ', RDM (nr + 1) (up dr nr (tn x1)) (up ml nr m) (ups st nr s) μ' → TPM 0 s μ' → Fr [12, 44, 45, 46] μ μ' → (∀ s, s ≠ 9 → s ≠ 11 → μ' 12 0 s = μ 12 0 s) → Q (nI nr) μ')
    (k0 : ¬ (f = 1 ∧ inN x1 4 ∧ nr < 10) → Q (-1) μ) : cwi Γ M_X12_read [aR 12 0, aI x1] μ Q := by
  obtain ⟨r1, r2, r3⟩ := hR
  obtain ⟨t1, t2, t3⟩ := hT
  refine u_X12_read ?_
  rw [h4]
  refine pk_eq f 0 (fun c => k0 (by omega)) (fun c => s_inN (n := 4) (by decide) rfl (fun h => ⟨fun _ => k0 (fun q => h q.2.1), fun z => absurd rfl z⟩) (fun h => ⟨fun z => absurd z (by decide), fun _ => ?_⟩))
  rw [r2]
  refine ⟨fun z => ?_, fun z => k0 (by have := (nI_eq (b := 10) (by omega) (by decide)).mp z; omega)⟩
  have c2 : nr < 10 := by
    have : nr ≠ 10 := fun y => z (by rw [y]; rfl)
    omega
  have f1 : f = 1 := by omega
  refine ⟨vp_in_nI c2 (by decide), vp_in_nI c2 (by decide), ?_⟩
  rw [tn_nI (by omega), t2]
  have lp : ∀ d i (μ1 : mH), i + d = m → Fr [44, 45, 46] μ μ1 → μ1 44 0 nr = x1 → μ1 45 0 nr = nI m → (∀ r, r < nr → μ1 44 0 r = μ 44 0 r ∧ μ1 45 0 r = μ 45 0 r) → (∀ j, j < 320 * nr → μ1 46 0 j = μ 46 0 j) → (∀ j, j < i → μ1 46 0 (320 * nr + j) = nI (s j)) → aw Γ M_X12_read 52 [aR 12 0, aX, aI (nI i)] [] μ1 (rI Q) := by
    intro d
    induction d with
    | zero =>
      intro i μ1 hi Fa h44 h45 hl hl2 hs
      obtain rfl : i = m := by omega
      refine u_X12_read_52 ?_
      rw [Fr_at Fa (by decide), t2, Fr_at Fa (show 12 ∉ [44, 45, 46] by decide), r2, nI_1, nI_pred]
      refine br_t (nI_le (Nat.le_refl _) (by omega)) (k1 f1 h c2 _ ⟨by omega, sto_eq, fun r hr => ?_⟩ ⟨by omega, by rw [sto_s (by decide), sto_eq]; rfl, fun j hj => absurd hj (by omega)⟩ (Fr_st2 (Fr_st2 (Fr_mono Fa (by decide)) (by decide)) (by decide)) (fun q y z => by rw [sto_s z, sto_s y, Fr_at Fa (by decide)]))
      have k46 : ∀ j, (sto (sto μ1 12 0 9 0) 12 0 11 (nI (nr + 1))) 46 0 j = μ1 46 0 j := fun j => by rw [sto_K (by decide), sto_K (by decide)]
      have k44 : ∀ j, (sto (sto μ1 12 0 9 0) 12 0 11 (nI (nr + 1))) 44 0 j = μ1 44 0 j := fun j => by rw [sto_K (by decide), sto_K (by decide)]
      have k45 : ∀ j, (sto (sto μ1 12 0 9 0) 12 0 11 (nI (nr + 1))) 45 0 j = μ1 45 0 j := fun j => by rw [sto_K (by decide), sto_K (by decide)]
      rw [k44, k45]
      by_cases z : r = nr
      · subst z
        rw [up_eq, up_eq, ups_eq]
        exact ⟨h.2, by rw [h44]; exact h.1, h45, t1, fun j hj => ⟨(t3 j hj).1, (t3 j hj).2.1, by rw [k46]; exact hs j hj⟩⟩
      · rw [up_ne _ z, up_ne _ z, ups_ne _ _ z]
        obtain ⟨g1, g2, g3, g4, g5⟩ := r3 r (by omega)
        obtain ⟨u1, u2⟩ := hl r (by omega)
        exact ⟨g1, by rw [u1]; exact g2, by rw [u2]; exact g3, g4, fun j hj => ⟨(g5 j hj).1, (g5 j hj).2.1, by rw [k46, hl2 _ (by omega)]; exact (g5 j hj).2.2⟩⟩
    | succ d ih =>
      intro i μ1 hi Fa h44 h45 hl hl2 hs
      refine u_X12_read_52 ?_
      rw [Fr_at Fa (by decide), t2, Fr_at Fa (show 12 ∉ [44, 45, 46] by decide), r2, show (320 : Int32) * nI nr = nI (320 * nr) from pk_mul 320 _, nI_add, tn_nI (by omega), tn_nI (by omega), Fr_at Fa (show 43 ∉ [44, 45, 46] by decide), (t3 i (by omega)).2.2, nI_1 i]
      refine br_f (nI_ge (by omega) (by omega)) ⟨vp_in_nI (by omega) (by decide), vp_in_nI (by omega) (by decide), ih (i + 1) _ (by omega) (Fr_st2 Fa (by decide)) (by rw [sto_K (by decide)]; exact h44) (by rw [sto_K (by decide)]; exact h45) (fun r hr => by rw [sto_K (by decide), sto_K (by decide)]; exact hl r hr) (fun j hj => by rw [sto_s (by omega)]; exact hl2 j hj) (fun j hj => ?_)⟩
      by_cases z : j = i
      · subst z; exact sto_eq
      · rw [sto_s (by omega)]; exact hs j (by omega)
  exact lp m 0 _ (Nat.zero_add _) (Fr_st2 (Fr_sto (by decide)) (by decide)) (by rw [sto_K (by decide), sto_eq]) sto_eq (fun r hr => ⟨by rw [sto_K (by decide), sto_s (by omega)], by rw [sto_s (by omega), sto_K (by decide)]⟩) (fun j hj => by rw [sto_K (by decide), sto_K (by decide)]) (fun j hj => absurd hj (by omega))
end PRE
