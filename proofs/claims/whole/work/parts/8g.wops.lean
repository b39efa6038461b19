theorem VER_lt {fm : Nat → Nat} {T S n : Nat} {V : Nat → Nat → Nat} {r : Nat → Bool} {v : Nat} {dat : Nat → Nat} (hW : CPV fm T S n V r) (h : VER fm T S n V r v dat) (hv : v = 1 ∨ v = 3) (i : Nat) (hi : i < fm 4) : dat i < 256 := by
  rcases h with ⟨_, b⟩ | ⟨c0, a1, _, _, a4, _⟩ | ⟨_, _, a3⟩
  · omega
  · rw [a4 i hi]; exact (hW.2 c0 a1).1 _
  · rcases a3 with ⟨_, u⟩ | ⟨x, _⟩
    · obtain ⟨c, c1, c2⟩ := u.2.1.1 i hi
      rw [c2]; exact (hW.2 c c1).1 _
    · omega
theorem hdv_N {fm : Nat → Nat} {T S : Nat} {dat : Nat → Nat} {b : Nat} (hb : b < 2 + fm 4) : hdv fm T S (datN fm dat) b = hdv fm T S dat b := by
  unfold hdv
  by_cases h0 : b = 0
  · rw [if_pos h0, if_pos h0]
  · by_cases h1 : b = 1
    · rw [if_neg h0, if_neg h0, if_pos h1, if_pos h1]
    · rw [if_neg h0, if_neg h0, if_neg h1, if_neg h1, datN_at (by omega)]
section PWO
variable {Γ : cx_T}
def FRKW (μ μ' : mH) : Prop := Fr [3, 6, 24, 26, 27, 29, 30, 31, 32, 33, 39] μ μ' ∧ ∀ q, q ≠ 88 → μ' 24 q = μ 24 q
theorem c_written {fm : Nat → Nat} {f nr : Nat} {dr ml : Nat → Nat} {st : Nat → Nat → Nat} {x1 x2 x3 : Int32} {μ : mH} {Q : Int32 → mH → Prop} (hf : f ≤ 1) (h4 : μ 4 1 0 = nI f) (hO : f = 1 → OKF fm) (hF : FMC 1 fm μ) (hR : RDC fm nr dr ml st μ) (hJ : JC fm nr ml st μ)
    (k1 : cjok f x1 x2 → ∀ v dat μ', VER fm (tn x1) (tn x2) (gN fm nr ml st (tn x1) (tn x2)) (gV fm nr ml st (tn x1) (tn x2)) (gR fm nr ml st (tn x1) (tn x2)) v dat → JC fm nr ml st μ' → RDC fm nr dr ml st μ' → FRKW μ μ' → Q (wrV fm (tn x1) (tn x2) v dat x3) μ')
    (k0 : ¬ cjok f x1 x2 → Q (-1) μ) : cwi Γ M_X11_written [aR 11 0, aI x1, aI x2, aI x3] μ Q := by
  refine u_X11_written (s_canJudge hf h4 (fun ok => ⟨fun _ => ?_, fun z => absurd z (by decide)⟩) (fun no => ⟨fun z => absurd rfl z, fun _ => k0 no⟩))
  have k1 := k1 ok
  obtain ⟨f1, i1, i2⟩ := ok
  have hO := hO f1
  have hW := g_CPV (fm := fm) (nr := nr) (ml := ml) (st := st) (T := tn x1) (S := tn x2) hR.1
  rw [i1.1, i2.1]
  refine c_judge i1.2 i2.2 hO hF hR hJ (fun μ1 V1 J1 R1 M1 K1 => ?_)
  obtain ⟨v, dat, v1, v2, v3, v4⟩ := V1
  have KW : FRKW μ μ1 := ⟨Fr_mono K1.1 (by decide), K1.2⟩
  have k := k1 v dat
  unfold wrV at k
  rw [v2]
  refine s_sound (VER_le v1) (fun s => ⟨fun z => absurd z (by decide), fun _ => ?_⟩) (fun s => ⟨fun _ => ?_, fun z => absurd rfl z⟩)
  · simp only [if_pos s] at k
    unfold wrA at k
    refine c_write (d := datN fm dat) hO i1.2 i2.2 M1 (fun i hi => ?_) (fun μ2 S2 F2 => ?_)
    · rw [datN_at hi]
      exact ⟨VER_lt hW v1 s i hi, v4 s i hi⟩
    · have J2 := JC_fr J1 F2 (by decide) (by decide) (by decide) (fun q _ => by rw [F2 7 (by decide)]) (fun q _ _ _ _ _ _ _ _ => by rw [F2 24 (by decide)])
      have R2 := RDC_fr R1 F2 (by decide) (by decide) (by decide) (by decide) (by decide) (by decide) (fun q _ => by rw [F2 24 (by decide)])
      have k := k μ2 v1 J2 R2 ⟨Fr_tr KW.1 (Fr_mono F2 (by decide)), fun q y => by rw [F2 24 (by decide)]; exact KW.2 q y⟩
      have o6 := hO.2.2.2.2.2.1
      have lz := wz_le (wB fm (wY fm (tn x1) (tn x2) (datN fm dat))) (32 + 16 * (4 + fm 4))
      rcases S2.2 with ⟨z, _⟩ | ⟨_, _, g1, g5, g9⟩
      · omega
      · rw [show 33 + 16 * (4 + fm 4) - 1 = 32 + 16 * (4 + fm 4) by omega] at g1 g5 g9
        rw [g5, g1]
        cases ek : wk (fm 1) (wB fm (wY fm (tn x1) (tn x2) (datN fm dat))) (32 + 16 * (4 + fm 4))
        · rw [ek] at k
          exact ⟨fun z => absurd rfl z, fun _ => k⟩
        · rw [ek] at k
          simp only [if_true] at k
          refine ⟨fun _ => ⟨fun z => ?_, fun z => by rw [if_pos z] at k; exact k⟩, fun z => absurd z (by decide)⟩
          rw [if_neg z] at k
          refine s_rng (by omega) (fun h => ?_) (fun h => ⟨by rw [h.1]; exact vp_in_nI (by have := h.2; omega) (by decide), ?_⟩)
          · rw [if_neg h] at k; exact k
          · rw [if_pos h] at k
            rw [g9 _ h.2]
            exact k
  · simp only [if_neg s] at k
    exact k μ1 v1 J1 R1 KW
def FRSW (μ μ' : mH) : Prop := Fr [12, 50, 51, 52, 53, 54, 55, 56, 57, 58, 59, 62] μ μ' ∧ ∀ s, s ≠ 20 → s ≠ 21 → s ≠ 26 → s ≠ 36 → s ≠ 37 → μ' 12 0 s = μ 12 0 s
theorem m_written {fm : Nat → Nat} {f nr : Nat} {dr ml : Nat → Nat} {st : Nat → Nat → Nat} {x1 x2 x3 : Int32} {μ : mH} {Q : Int32 → mH → Prop} (hf : f ≤ 1) (h4 : μ 12 0 8 = nI f) (hO : f = 1 → OKF fm) (hF : f = 1 → FMM fm μ) (hR : RDM nr dr ml st μ)
    (k1 : cjok f x1 x2 → ∀ v dat μ', VER fm (tn x1) (tn x2) (gN fm nr ml st (tn x1) (tn x2)) (gV fm nr ml st (tn x1) (tn x2)) (gR fm nr ml st (tn x1) (tn x2)) v dat → FRSW μ μ' → Q (wrV fm (tn x1) (tn x2) v dat x3) μ')
    (k0 : ¬ cjok f x1 x2 → Q (-1) μ) : cwi Γ M_X12_written [aR 12 0, aI x1, aI x2, aI x3] μ Q := by
  refine u_X12_written (s_isSector hf h4 (fun ok => ⟨fun z => absurd z (by decide), fun _ => ?_⟩) (fun no => ⟨fun _ => k0 no, fun z => absurd rfl z⟩))
  have k1 := k1 ok
  obtain ⟨f1, i1, i2⟩ := ok
  have hO := hO f1
  have hF := hF f1
  have hW := g_CPV (fm := fm) (nr := nr) (ml := ml) (st := st) (T := tn x1) (S := tn x2) hR.1
  rw [i1.1, i2.1]
  refine m_statusOf i1.2 i2.2 hO hF hR (fun v dat μ1 v1 hw C1 F1 => ?_)
  have KW : FRSW μ μ1 := ⟨Fr_mono F1.1 (by decide), fun s x y z _ _ => F1.2 s x y z⟩
  have k := k1 v dat
  unfold wrV at k
  refine s_whole (VER_le v1) (fun s => ⟨fun z => absurd z (by decide), fun _ => ?_⟩) (fun s => ⟨fun _ => ?_, fun z => absurd rfl z⟩)
  · simp only [if_pos s] at k
    unfold wrA at k
    refine m_writes (d := datN fm dat) hO i1.2 i2.2 (FMM_fr hF F1.1 (by decide)) (fun i hi => by rw [datN_at hi]; exact VER_lt hW v1 s i hi) (fun b hb => by rw [hdv_N hb]; exact hw s b hb) (fun μ2 S2 F2 => ?_)
    have k := k μ2 v1 ⟨Fr_tr KW.1 (Fr_mono F2.1 (by decide)), fun s x y z w u => (F2.2 s w u).trans (KW.2 s x y z w u)⟩
    have o6 := hO.2.2.2.2.2.1
    have lz := wz_le (wB fm (wY fm (tn x1) (tn x2) (datN fm dat))) (32 + 16 * (4 + fm 4))
    have eo : okn (fm 1) (wB fm (wY fm (tn x1) (tn x2) (datN fm dat))) (33 + 16 * (4 + fm 4)) = wk (fm 1) (wB fm (wY fm (tn x1) (tn x2) (datN fm dat))) (32 + 16 * (4 + fm 4)) := by
      unfold okn
      rw [if_neg (by omega), show 33 + 16 * (4 + fm 4) - 1 = 32 + 16 * (4 + fm 4) by omega]
    rw [eo]
    rcases S2 with ⟨z, _⟩ | ⟨_, g0, _, g6, g9⟩ | ⟨_, g0, _⟩
    · omega
    · rw [show 33 + 16 * (4 + fm 4) - 1 = 32 + 16 * (4 + fm 4) by omega] at g0 g6 g9
      rw [g0] at k ⊢
      simp only [if_true] at k
      refine ⟨fun _ => ⟨fun z => ?_, fun z => by rw [if_pos z] at k; rw [g6]; exact k⟩, fun z => absurd z (by decide)⟩
      rw [if_neg z] at k
      refine s_inN (n := wz (wB fm (wY fm (tn x1) (tn x2) (datN fm dat))) (32 + 16 * (4 + fm 4))) (by omega) (by rw [g6]) (fun h => ⟨fun _ => ?_, fun y => absurd rfl y⟩) (fun h => ⟨fun y => absurd y (by decide), fun _ => ⟨by rw [h.1]; exact vp_in_nI (by have := h.2; omega) (by decide), ?_⟩⟩)
      · rw [if_neg h] at k; exact k
      · rw [if_pos h] at k
        rw [g9 _ h.2]
        exact k
    · rw [show 33 + 16 * (4 + fm 4) - 1 = 32 + 16 * (4 + fm 4) by omega] at g0
      rw [g0] at k ⊢
      exact ⟨fun z => absurd rfl z, fun _ => k⟩
  · simp only [if_neg s] at k
    exact k μ1 v1 KW
end PWO
