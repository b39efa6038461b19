abbrev tn (x : Int32) : Nat := x.toNatClampNeg
/-- what a method answers: an int, a long, nothing, a reference or null -/
abbrev rI (Q : Int32 → mH → Prop) : aV → mH → Prop := fun r μ => ∃ x, r = aI x ∧ Q x μ
abbrev rL (Q : Int64 → mH → Prop) : aV → mH → Prop := fun r μ => ∃ x, r = aL x ∧ Q x μ
abbrev rV (Q : mH → Prop) : aV → mH → Prop := fun _ μ => Q μ
abbrev rQ (K : Nat) (Q : Option Nat → mH → Prop) : aV → mH → Prop := fun r μ => ∃ o, r = aQ K o ∧ Q o μ
abbrev cwi (Γ : cx_T) (M : mt_T) (vs : List aV) (μ : mH) (Q : Int32 → mH → Prop) : Prop := cw Γ M vs μ (rI Q)
abbrev cwl (Γ : cx_T) (M : mt_T) (vs : List aV) (μ : mH) (Q : Int64 → mH → Prop) : Prop := cw Γ M vs μ (rL Q)
abbrev cwv (Γ : cx_T) (M : mt_T) (vs : List aV) (μ : mH) (Q : mH → Prop) : Prop := cw Γ M vs μ (rV Q)
abbrev cwq (K : Nat) (Γ : cx_T) (M : mt_T) (vs : List aV) (μ : mH) (Q : Option Nat → mH → Prop) : Prop := cw Γ M vs μ (rQ K Q)
theorem cwi_mono {Γ : cx_T} {M : mt_T} {vs : List aV} {μ : mH} {Q Q' : Int32 → mH → Prop} (h : cwi Γ M vs μ Q) (hQ : ∀ x μ', Q x μ' → Q' x μ') : cwi Γ M vs μ Q' := cw_mono h (fun _ μ' ⟨x, e, q⟩ => ⟨x, e, hQ x μ' q⟩)
theorem cwl_mono {Γ : cx_T} {M : mt_T} {vs : List aV} {μ : mH} {Q Q' : Int64 → mH → Prop} (h : cwl Γ M vs μ Q) (hQ : ∀ x μ', Q x μ' → Q' x μ') : cwl Γ M vs μ Q' := cw_mono h (fun _ μ' ⟨x, e, q⟩ => ⟨x, e, hQ x μ' q⟩)
theorem cwv_mono {Γ : cx_T} {M : mt_T} {vs : List aV} {μ : mH} {Q Q' : mH → Prop} (h : cwv Γ M vs μ Q) (hQ : ∀ μ', Q μ' → Q' μ') : cwv Γ M vs μ Q' := cw_mono h (fun _ μ' q => hQ μ' q)
theorem cwq_mono {K : Nat} {Γ : cx_T} {M : mt_T} {vs : List aV} {μ : mH} {Q Q' : Option Nat → mH → Prop} (h : cwq K Γ M vs μ Q) (hQ : ∀ o μ', Q o μ' → Q' o μ') : cwq K Γ M vs μ Q' := cw_mono h (fun _ μ' ⟨x, e, q⟩ => ⟨x, e, hQ x μ' q⟩)
def isC1 (v : aV) : Bool := match v with
  | .inr (.inl _) => false
  | _ => true
theorem isC1_cat {v : aV} (h : isC1 v = true) (ad : Nat → Nat → Nat) : (cv ad v).category = 1 := by
  rcases lv_cat (cv ad v) with h1 | h1
  · exact h1
  · obtain ⟨x, rfl⟩ := cv_cat h1
    cases h
def wkL : List aV → List aV → Prop
  | [], [] => True
  | a :: l, b :: r => (a = aX ∨ a = b) ∧ wkL l r
  | _, _ => False
section AU
variable {Γ : cx_T} {M : mt_T} {pc : Nat} {ls ls' st : List aV} {μ : mH} {Q : aV → mH → Prop}
theorem cw_ofU {vs : List aV} (hpl : plainName (m_y M).cls = true ∨ plainFor (m_y M) = true) (hc : vs.all isC1 = true) (hn : vs.length ≤ m_L M) (he : vs ++ List.replicate (m_L M - vs.length) aX = ls) (h : aw Γ M 0 ls [] μ Q) : cw Γ M vs μ Q :=
  cw_of hpl (fun v hv ad => isC1_cat (List.all_eq_true.mp hc v hv) ad) hn he h
theorem wk_at : ∀ (ls' ls : List aV), wkL ls' ls → ∀ (i : Nat) (v : aV), ls'[i]? = some v → v ≠ aX → ls[i]? = some v
  | [], [], _, i, v, h, _ => by simp at h
  | [], _ :: _, h0, _, _, _, _ => h0.elim
  | _ :: _, [], h0, _, _, _, _ => h0.elim
  | a :: l, b :: r, h0, 0, v, h, hv => by
    rw [List.getElem?_cons_zero] at h ⊢
    rcases h0.1 with e | e
    · rw [e] at h; cases h; exact absurd rfl hv
    · rw [← e]; exact h
  | a :: l, b :: r, h0, i + 1, v, h, hv => by
    rw [List.getElem?_cons_succ] at h ⊢
    exact wk_at l r h0.2 i v h hv
theorem aw_wk (h : wkL ls' ls) (k : aw Γ M pc ls' st μ Q) : aw Γ M pc ls st μ Q := aw_weak (wk_at ls' ls h) k
theorem look_R {K i s a b : Nat} (h : rs K s = true) (hq : rf K i s = (a, b)) : look μ K i s = aR a b := by
  unfold look
  rw [if_pos h, hq]
theorem look_cpo {i s j : Nat} (h : cpo (μ 26 i s) = some j) : look μ 26 i s = aR 7 j := by
  show aQ 7 (cpo (μ 26 i s)) = _
  rw [h]
  rfl
theorem aw_ia {K i n j : Nat} {x y : Int32} (hd : decode (m_c M) pc = .ok (.iaload, 1)) (hk : kd K = some (.inr (.int, n))) (hI : ∀ s, isI K s = true) (hin : vp_in x n) (hj : x.toNatClampNeg = j) (hv : μ K i j = y) (k : aw Γ M (pc + 1) ls (aI y :: st) μ Q) : aw Γ M pc ls (aI x :: aR K i :: st) μ Q := by
  subst hj; subst hv
  exact aw_iald hd hk hI hin k
theorem aw_ba {K i n j : Nat} {x y : Int32} (hd : decode (m_c M) pc = .ok (.baload, 1)) (hk : kd K = some (.inr (.byte, n))) (hI : ∀ s, isI K s = true) (hin : vp_in x n) (hj : x.toNatClampNeg = j) (hv : μ K i j = y) (k : aw Γ M (pc + 1) ls (aI y :: st) μ Q) : aw Γ M pc ls (aI x :: aR K i :: st) μ Q := by
  subst hj; subst hv
  exact aw_bald hd hk hI hin k
theorem aw_za {K i n j : Nat} {x y : Int32} (hd : decode (m_c M) pc = .ok (.baload, 1)) (hk : kd K = some (.inr (.boolean, n))) (hI : ∀ s, isI K s = true) (hin : vp_in x n) (hj : x.toNatClampNeg = j) (hv : μ K i j = y) (k : aw Γ M (pc + 1) ls (aI y :: st) μ Q) : aw Γ M pc ls (aI x :: aR K i :: st) μ Q := by
  subst hj; subst hv
  exact aw_zald hd hk hI hin k
theorem aw_is {K i n j : Nat} {x y : Int32} (hd : decode (m_c M) pc = .ok (.iastore, 1)) (hk : kd K = some (.inr (.int, n))) (hI : ∀ s, isI K s = true) (hin : vp_in x n) (hj : x.toNatClampNeg = j) (k : aw Γ M (pc + 1) ls st (sto μ K i j y) Q) : aw Γ M pc ls (aI y :: aI x :: aR K i :: st) μ Q := by
  subst hj
  exact aw_iast hd hk hI hin k
theorem aw_bs {K i n j : Nat} {x y : Int32} (hd : decode (m_c M) pc = .ok (.bastore, 1)) (hk : kd K = some (.inr (.byte, n))) (hI : ∀ s, isI K s = true) (hin : vp_in x n) (hj : x.toNatClampNeg = j) (k : aw Γ M (pc + 1) ls st (sto μ K i j y.toInt8.toInt32) Q) : aw Γ M pc ls (aI y :: aI x :: aR K i :: st) μ Q := by
  subst hj
  exact aw_bast hd hk hI hin k
theorem aw_zs {K i n j : Nat} {x y : Int32} (hd : decode (m_c M) pc = .ok (.bastore, 1)) (hk : kd K = some (.inr (.boolean, n))) (hI : ∀ s, isI K s = true) (hin : vp_in x n) (hj : x.toNatClampNeg = j) (k : aw Γ M (pc + 1) ls st (sto μ K i j (y &&& 1)) Q) : aw Γ M pc ls (aI y :: aI x :: aR K i :: st) μ Q := by
  subst hj
  exact aw_zast hd hk hI hin k
theorem le_trans2 {a b c : Nat} (h : a ≤ b) (h2 : b ≤ c) : a ≤ c := Nat.le_trans h h2
theorem cp_w1 : Cond.native arraycopyName ∈ tb_g := tb_gm 669 (by decide +kernel) (by decide +kernel)
theorem cp_w2 : Cond.static arraycopyName ∈ tb_g := tb_gm 668 (by decide +kernel) (by decide +kernel)
theorem cp_w3 : Cond.initialized "java/lang/System" ∈ tb_g := tb_gm 79 (by decide +kernel) (by decide +kernel)
theorem aw_copy0 {K i n0 K' i' n1 idx : Nat} {n : Int32} (hd : decode (m_c M) pc = .ok (.invokestatic idx, 3)) (hlk : Cond.methodLink (m_y M).cls idx arraycopyName ∈ tb_g) (hk0 : kd K = some (.inr (.int, n0))) (hk1 : kd K' = some (.inr (.int, n1))) (hI0 : ∀ s, isI K s = true) (hI1 : ∀ s, isI K' s = true)
    (h3 : ¬ n < 0) (h4 : n.toNatClampNeg ≤ n0) (h5 : n.toNatClampNeg ≤ n1) (hf0 : 1 ≤ m_f M) (hm0 : 26 ≤ m_w M) (k : aw Γ M (pc + 3) ls st (cpy μ K i K' i' 0 0 (tn n)) Q) (hst : st.length ≤ 4 := by decide) : aw Γ M pc ls (aI n :: aI (0 : Int32) :: aR K' i' :: aI (0 : Int32) :: aR K i :: st) μ Q :=
  aw_copy hd hlk cp_w1 cp_w2 cp_w3 hk0 hk1 hI0 hI1 (by decide) (by decide) h3 (by show 0 + _ ≤ _; omega) (by show 0 + _ ≤ _; omega) hf0 hm0 hst k
end AU
