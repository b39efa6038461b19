/-! masks of clusters, and chains -/
theorem sm31 : ∀ n, n < 32 → ((nI n &&& 31).toBitVec.smod 32).toNat = n := by decide +kernel
theorem mb_t {S a : Nat} (hS : S < 2 ^ 31) (ha : a < 32) : (nI S >>> (nI a &&& 31)) &&& (1 : Int32) = nI (if S.testBit a then 1 else 0) := by
  rw [pk_shrN hS _ a (sm31 a ha), pk_andN (by have := Nat.div_le_self S (2 ^ a); omega) 1 (by decide), Nat.testBit_eq_decide_div_mod_eq]
  have : S / 2 ^ a % 2 < 2 := Nat.mod_lt _ (by decide)
  by_cases h : S / 2 ^ a % 2 = 1
  · simp [h]
  · simp [h, show S / 2 ^ a % 2 = 0 by omega]
theorem mb_0 {S a : Nat} (hS : S < 2 ^ 31) (ha : a < 32) (h : S.testBit a = false) : (nI S >>> (nI a &&& 31)) &&& (1 : Int32) = 0 := by rw [mb_t hS ha, h]; rfl
theorem mb_1 {S a : Nat} (hS : S < 2 ^ 31) (ha : a < 32) (h : S.testBit a = true) : ¬ (nI S >>> (nI a &&& 31)) &&& (1 : Int32) = 0 := by rw [mb_t hS ha, h]; decide
theorem mb_s (S : Nat) {a : Nat} (ha : a < 31) : nI S ||| ((1 : Int32) <<< (nI a &&& 31)) = nI (S ||| 2 ^ a) := by
  have hp : 2 ^ a < 2 ^ 31 := Nat.pow_lt_pow_right (by decide) ha
  have := pk_shlN (n := 1) (nI a &&& 31) a (sm31 a (by omega)) (by omega)
  rw [show (1 : Int32) = nI 1 from rfl, this, fa_or, Nat.one_mul]
theorem or_lt24 {S a : Nat} (hS : S < 2 ^ 24) (ha : a < 24) : S ||| 2 ^ a < 2 ^ 24 := Nat.or_lt_two_pow hS (Nat.pow_lt_pow_right (by decide) ha)
def ca (row : Nat → Nat) (h : Nat) : Nat → Nat
  | 0 => h
  | k + 1 => row (ca row h k)
def cS (row : Nat → Nat) (h : Nat) : Nat → Nat
  | 0 => 0
  | k + 1 => cS row h k ||| 2 ^ ca row h k
def cok (row : Nat → Nat) (h k : Nat) : Bool := decide (ca row h k < 24) && !(cS row h k).testBit (ca row h k)
def cN (row : Nat → Nat) (h : Nat) : Nat := fa_first (fun k => !cok row h k) 25
theorem cok_t {row : Nat → Nat} {h k : Nat} (e : cok row h k = true) : ca row h k < 24 ∧ (cS row h k).testBit (ca row h k) = false := by
  unfold cok at e
  simpa using e
theorem cok_f {row : Nat → Nat} {h k : Nat} (e : cok row h k = false) : 24 ≤ ca row h k ∨ (cS row h k).testBit (ca row h k) = true := by
  unfold cok at e
  by_cases c : ca row h k < 24
  · right; simpa [c] using e
  · left; omega
theorem cS_ct (row : Nat → Nat) (h : Nat) : ∀ n, (∀ k, k < n → cok row h k = true) → cS row h n < 2 ^ 24 ∧ fb_ct (cS row h n).testBit 24 = n
  | 0, _ => ⟨by show 0 < 2 ^ 24; decide, by show fb_ct (Nat.testBit 0) 24 = 0; decide⟩
  | n + 1, hk => by
    obtain ⟨h1, h2⟩ := cS_ct row h n (fun k hk' => hk k (by omega))
    obtain ⟨h3, h4⟩ := cok_t (hk n (by omega))
    refine ⟨or_lt24 h1 h3, ?_⟩
    have e : fb_ct (cS row h (n + 1)).testBit 24 = fb_ct (fun k => if k = ca row h n then true else (cS row h n).testBit k) 24 := fb_ct_cong (fun k _ => by
      show (cS row h n ||| 2 ^ ca row h n).testBit k = _
      rw [fb_bit_set]
      by_cases c : k = ca row h n
      · simp [c]
      · simp [c])
    have u := fb_ct_upd (cS row h n).testBit true h3
    rw [h4] at u
    simp at u
    rw [e]
    simp only [Bool.if_true_left] at u ⊢
    omega
theorem cN_le (row : Nat → Nat) (h : Nat) : cN row h ≤ 24 := by
  have h1 := fa_first_le (fun k => !cok row h k) 25
  by_cases c : cN row h = 25
  · have := (cS_ct row h 25 (fun k hk => by
      have := fa_first_no (fun k => !cok row h k) 25 k (by unfold cN at c; omega)
      simpa using this)).2
    have h2 := fb_ct_le (cS row h 25).testBit 24
    omega
  · unfold cN at *
    omega
theorem cN_t {row : Nat → Nat} {h k : Nat} (hk : k < cN row h) : cok row h k = true := by
  have := fa_first_no (fun k => !cok row h k) 25 k hk
  simpa using this
theorem cN_f (row : Nat → Nat) (h : Nat) : cok row h (cN row h) = false := by
  have h1 := cN_le row h
  have := fa_first_yes (fun k => !cok row h k) 25 (by unfold cN at h1; omega)
  unfold cN
  simpa using this
theorem cN_S {row : Nat → Nat} {h k : Nat} (hk : k ≤ cN row h) : cS row h k < 2 ^ 24 := (cS_ct row h k (fun j hj => cN_t (by omega))).1
theorem cN_1 {row : Nat → Nat} {h : Nat} (hh : h < 24) : 1 ≤ cN row h := by
  by_cases c : cN row h = 0
  · have := cN_f row h
    rw [c] at this
    simp [cok, ca, cS, hh] at this
  · omega
theorem ca_le {row : Nat → Nat} {h : Nat} (hh : h < 24) (hr : ∀ c, c < 24 → row c ≤ 26) : ∀ k, k ≤ cN row h → ca row h k ≤ 26
  | 0, _ => by show h ≤ 26; omega
  | k + 1, hk => hr _ (cok_t (cN_t (by omega))).1
/-- a row of a catalogue of the class; the files -/
def RW (i : Nat) (row : Nat → Nat) (μ : mH) : Prop := ∀ c, c < 24 → row c ≤ 26 ∧ μ 35 i c = nI (row c)
def HD (nf : Nat) (hd ln : Nat → Nat) (μ : mH) : Prop := nf ≤ 6 ∧ μ 0 0 0 = nI nf ∧ ∀ f, f < nf → hd f < 24 ∧ 1 ≤ ln f ∧ ln f ≤ 24 ∧ μ 37 0 f = nI (hd f) ∧ μ 38 0 f = nI (ln f)
section PCH
variable {Γ : cx_T}
theorem s_isCl {μ : mH} {a : Nat} {Q : Int32 → mH → Prop} (ha : a < 2 ^ 31) (k1 : a < 24 → Q 1 μ) (k0 : 24 ≤ a → Q 0 μ) : cwi Γ M_X11_isCluster [aI (nI a)] μ Q :=
  u_X11_isCluster ⟨fun h => absurd h (nI_pos ha), fun _ => pk_le 24 a k0 (fun h => k1 h)⟩
theorem s_isClX {μ : mH} {x : Int32} {Q : Int32 → mH → Prop} (k1 : ∀ a, a < 24 → x = nI a → Q 1 μ) (k0 : (∀ a, a < 24 → x ≠ nI a) → Q 0 μ) : cwi Γ M_X11_isCluster [aI x] μ Q := by
  rcases Int32_cases x with h | ⟨a, ha, rfl⟩
  · exact u_X11_isCluster ⟨fun _ => k0 (fun a ha => neg_ne h (by omega)), fun c => absurd h c⟩
  · exact s_isCl ha (fun h => k1 a h rfl) (fun h => k0 (fun b hb e => by have := (nI_eq ha (by omega)).mp e; omega))
theorem s_misClX {μ : mH} {x : Int32} {Q : Int32 → mH → Prop} (k1 : ∀ a, a < 24 → x = nI a → Q 1 μ) (k0 : (∀ a, a < 24 → x ≠ nI a) → Q 0 μ) : cwi Γ M_X12_isCluster [aI x] μ Q := by
  refine u_X12_isCluster (s_in (fun h => ⟨Or.inl rfl, k0 (fun a ha e => h ?_)⟩) (fun h1 h2 => ⟨Or.inr rfl, ?_⟩))
  · rw [e]
    exact ⟨nI_pos' (by omega), nI_le (b := 23) (by omega) (by decide)⟩
  · obtain ⟨a, ha, rfl⟩ := nI_of (Int32.not_lt.mpr h1)
    exact k1 a (by have := (nI_leI (b := 23) ha (by decide)).mp h2; omega) rfl
theorem walk_lp {i h N : Nat} {row : Nat → Nat} {μ0 : mH} {Q : mH → Prop} (eN : cN row h = N) (hh : h < 24) (hR : RW i row μ0) (kk : ∀ μ', Fr [0, 34] μ0 μ' → (∀ s, s ≠ 1 → μ' 0 0 s = μ0 0 0 s) → μ' 0 0 1 = nI N → (∀ j, j < N → μ' 34 0 j = nI (ca row h j)) → Q μ') :
    ∀ (d k : Nat) (μ : mH), k + d = N → Fr [0, 34] μ0 μ → (∀ s, s ≠ 1 → μ 0 0 s = μ0 0 0 s) → μ 0 0 1 = nI k → (∀ j, j < k → μ 34 0 j = nI (ca row h j)) → aw Γ M_X0_walk 24 [aR 0 0, aR 35 i, aX, aI (nI (cS row h k)), aI (nI (ca row h k))] [] μ (rV Q) := by
  have hN := cN_le row h
  rw [eN] at hN
  intro d
  induction d with
  | zero =>
    intro k μ hk hF hs h1 hp
    obtain rfl : k = N := by omega
    have hS := cN_S (row := row) (h := h) (k := k) (by omega)
    have hq := kk μ hF hs h1 hp
    refine u_X0_walk_24 ⟨fun _ => hq, fun _ => s_isCl (by have := ca_le hh (fun c hc => (hR c hc).1) k (by omega); omega) (fun c => ⟨fun e => absurd e (by decide), fun _ => ⟨fun _ => hq, fun e => ?_⟩⟩) (fun _ => ⟨fun _ => hq, fun e => absurd rfl e⟩)⟩
    have hf := cN_f row h
    rw [eN] at hf
    rcases cok_f hf with c2 | c2
    · omega
    · exact absurd e (mb_1 (by omega) (by omega) c2)
  | succ d ih =>
    intro k μ hk hF hs h1 hp
    obtain ⟨c1, c2⟩ := cok_t (cN_t (row := row) (h := h) (k := k) (by omega))
    have hS := cN_S (row := row) (h := h) (k := k) (by omega)
    refine u_X0_walk_24 ?_
    rw [h1]
    refine br_f (nI_ge (b := 24) (by omega) (by decide)) (s_isCl (by omega) (fun _ => ⟨fun e => absurd e (by decide), fun _ => ⟨fun e => absurd (mb_0 (by omega) (by omega) c2) e, fun _ => ?_⟩⟩) (fun c => absurd c (by omega)))
    rw [h1, mb_s _ (by omega), tn_nI (by omega), tn_nI (by omega), nI_1]
    refine ⟨vp_in_nI (by omega) (by decide), vp_in_nI (by omega) (by decide), ?_⟩
    rw [Fr_at hF (by decide), (hR _ c1).2]
    refine ih (k + 1) _ (by omega) (Fr_st2 (Fr_st2 hF (by decide)) (by decide)) (fun s q => by rw [sto_s q, sto_K (by decide)]; exact hs s q) sto_eq (fun j hj => ?_)
    rw [sto_K (by decide)]
    by_cases e : j = k
    · subst e; rw [sto_eq]
    · rw [sto_s e]; exact hp j (by omega)
theorem c_walk {i f nf : Nat} {row hd ln : Nat → Nat} {μ : mH} {Q : mH → Prop} (hf : f < nf) (hH : HD nf hd ln μ) (hR : RW i row μ) (kk : ∀ μ', Fr [0, 34] μ μ' → (∀ s, s ≠ 1 → μ' 0 0 s = μ 0 0 s) → μ' 0 0 1 = nI (cN row (hd f)) → (∀ j, j < cN row (hd f) → μ' 34 0 j = nI (ca row (hd f) j)) → Q μ') : cwv Γ M_X0_walk [aR 0 0, aR 35 i, aI (nI f)] μ Q := by
  obtain ⟨h1, h2, h3⟩ := hH
  obtain ⟨g1, g2, g3, g4, g5⟩ := h3 f hf
  refine u_X0_walk (u_X0_holds ⟨fun c => absurd c (nI_pos (by omega)), fun _ => ?_⟩)
  rw [sto_s (by decide), h2]
  refine br_f (nI_ge hf (by omega)) ⟨fun _ => ⟨vp_in_nI (by omega) (by decide), ?_⟩, fun c => absurd c (by decide)⟩
  rw [sto_K (by decide), tn_nI (by omega), g4]
  exact walk_lp rfl g1 hR kk _ 0 _ (Nat.zero_add _) (Fr_sto (by decide)) (fun s q => sto_s q) sto_eq (fun j hj => absurd hj (by omega))
end PCH
