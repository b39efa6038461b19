/-- System.arraycopy among arrays of ints -/
def cpy (μ : mH) (K i K' i' sp dp n : Nat) : mH := fun A a s => if A = K' ∧ a = i' ∧ dp ≤ s ∧ s < dp + n then μ K i (sp + (s - dp)) else μ A a s
theorem look_cpy {μ : mH} {K i K' i' sp dp n : Nat} (hI : ∀ s, isI K' s = true) (A a s : Nat) : look (cpy μ K i K' i' sp dp n) A a s = if A = K' ∧ a = i' ∧ dp ≤ s ∧ s < dp + n then aI (μ K i (sp + (s - dp))) else look μ A a s := by
  by_cases h : A = K'
  · subst h
    rw [look_I (hI s), look_I (hI s)]
    unfold cpy
    split <;> rfl
  · rw [if_neg (fun q => h q.1)]
    have e : ∀ s, cpy μ K i K' i' sp dp n A a s = μ A a s := fun s => if_neg (fun q => h q.1)
    unfold look
    simp only [e]
section ACP
variable {Γ : cx_T} {M : mt_T} {pc : Nat} {ls ls' st : List aV} {μ : mH} {Q : aV → mH → Prop}
theorem aw_copy {K i n0 K' i' n1 idx : Nat} {sp dp n : Int32} (hd : decode (m_c M) pc = .ok (.invokestatic idx, 3)) (hlk : Cond.methodLink (m_y M).cls idx arraycopyName ∈ tb_g) (hw1 : Cond.native arraycopyName ∈ tb_g) (hw2 : Cond.static arraycopyName ∈ tb_g) (hw3 : Cond.initialized "java/lang/System" ∈ tb_g) (hk0 : kd K = some (.inr (.int, n0))) (hk1 : kd K' = some (.inr (.int, n1))) (hI0 : ∀ s, isI K s = true) (hI1 : ∀ s, isI K' s = true)
    (h1 : ¬ sp < 0) (h2 : ¬ dp < 0) (h3 : ¬ n < 0) (h4 : sp.toNatClampNeg + n.toNatClampNeg ≤ n0) (h5 : dp.toNatClampNeg + n.toNatClampNeg ≤ n1) (hf0 : 1 ≤ m_f M) (hm0 : 26 ≤ m_w M) (hst : st.length ≤ 4) (k : aw Γ M (pc + 3) ls st (cpy μ K i K' i' sp.toNatClampNeg dp.toNatClampNeg n.toNatClampNeg) Q) : aw Γ M pc ls (aI n :: aI dp :: aR K' i' :: aI sp :: aR K i :: st) μ Q := by
  intro X hB hR H locs arr hH hS hL hl hw
  have hw0 := (List.forall_mem_cons.mp (List.forall_mem_cons.mp hw).2).2
  have hi1 : i' < kn K' := (List.forall_mem_cons.mp hw0).1
  have hw0 := (List.forall_mem_cons.mp (List.forall_mem_cons.mp hw0).2).2
  have hi0 : i < kn K := (List.forall_mem_cons.mp hw0).1
  have hk' := fun H' locs' h1 h2 => k X hB hR H' locs' arr h1 h2 hL hl (List.forall_mem_cons.mp hw0).2
  obtain ⟨p, e, R, s, m, args, below, meth, c, cells, slots, QQ⟩ := X
  obtain ⟨hx, hb, hml, hown, hvm, hfr, hlo, -⟩ := hB
  have hcat := cat_le (ad := g_ad Γ) st
  have ef : (fun j => cv (g_ad Γ) (look μ K i j)) = fun j => Value.int (μ K i j) := funext fun j => by rw [look_I (hI0 j)]; rfl
  have eg : (fun j => cv (g_ad Γ) (look μ K' i' j)) = fun j => Value.int (μ K' i' j) := funext fun j => by rw [look_I (hI1 j)]; rfl
  have nn : ∀ z : Int32, ¬ z < 0 → z.toInt = (z.toNatClampNeg : Int) := by
    intro z hz
    have hz0 : (0 : Int) ≤ z.toInt := by
      have := Int32.not_lt.mp hz
      simpa using Int32.le_iff_toInt_le.mp this
    show z.toInt = ((z.toInt.toNat : Nat) : Int)
    omega
  intro T hT X
  have hc0 := rp_arr hH hi0 hk0
  have hc1 := rp_arr hH hi1 hk1
  rw [ef] at hc0
  rw [eg] at hc1
  obtain ⟨-, k0, hkk0, cm0, hkd0⟩ := (hvm.2.2.2.2.1 K _ n0 hk0).1 n0 (fun j => .int (μ K i j))
  obtain ⟨-, k1, hkk1, cm1, hkd1⟩ := (hvm.2.2.2.2.1 K' _ n1 hk1).1 n1 (fun j => .int (μ K' i' j))
  obtain ⟨vm', X', step⟩ := X.arraycopy hx hown (hvm.2.1 _ hlk args) (hvm.2.1 _ hw1 args) (hvm.2.1 _ hw2 args) (hvm.2.1 _ hw3 args) (src := g_ad Γ K i) (dst := g_ad Γ K' i') (cs := arrV (g_cA Γ K) n0 (fun j => .int (μ K i j))) (cd := arrV (g_cA Γ K') n1 (fun j => .int (μ K' i' j))) (srcPos := sp) (destPos := dp) (n := n) (by rw [hT]; exact hc0) (by rw [hT]; exact hc1)
    (fun _ h => by cases h) (fun _ h => by cases h) (fun h => by cases h) (fun h => by cases h) hkk0 hkk1 hkd0 hkd1 (by simp [refKind]) h1 h2 h3
    (by rw [nn sp h1, nn n h3, arrV_size]; omega)
    (by rw [nn dp h2, nn n h3, arrV_size]; omega)
    (fun vm₁ _ j hj => by
      have e : (arrV (g_cA Γ K) n0 (fun j => .int (μ K i j))).slots.getD (sp.toNatClampNeg + j) .null = .int (μ K i (sp.toNatClampNeg + j)) := by
        rw [Array.getD_eq_getD_getElem?, arrV_read _ _ (by omega)]
        rfl
      refine ⟨?_, ?_⟩
      · rw [e]
        rfl
      · rw [e]
        exact trivial)
    (g := F0 m pc arr ((aI n :: aI dp :: aR K' i' :: aI sp :: aR K i :: st).map (cv (g_ad Γ)))) rfl (by rw [hml]; exact hL.1) (rest := st.map (cv (g_ad Γ))) rfl (by rw [hb]; exact hd) (Nat.le_trans hf0 hfr) (by
      show 2 * 0 + ((st.map (cv (g_ad Γ))).map fun v => v.category).sum + (nativeFrameWords "java/lang/System" "arraycopy" 5 + 11) ≤ R.locals
      have : nativeFrameWords "java/lang/System" "arraycopy" 5 = 7 := by decide
      omega)
  have e1 : copied (arrV (g_cA Γ K) n0 (fun j => .int (μ K i j))) (arrV (g_cA Γ K') n1 (fun j => .int (μ K' i' j))) sp dp n = arrV (g_cA Γ K') n1 (fun j => .int (va_cpy (μ K i) (μ K' i') sp.toNatClampNeg dp.toNatClampNeg n.toNatClampNeg j)) := va_copied (fun z => .int z) _ _ (μ K i) (μ K' i') h4
  rw [e1] at X' step
  have hl : g_ad Γ K' i' < H.size := (Array.getElem?_eq_some_iff.mp hc1).1
  generalize hcell : arrV (g_cA Γ K') n1 (fun j => Value.int (va_cpy (μ K i) (μ K' i') sp.toNatClampNeg dp.toNatClampNeg n.toNatClampNeg j)) = cell at X' step
  have hheap : ((T.setVm vm').setCell (g_ad Γ K' i') cell).heap = H.setIfInBounds (g_ad Γ K' i') cell := by rw [← hT]; rfl
  have oq : ∀ q : Nat, q ≠ g_ad Γ K' i' → (H.setIfInBounds (g_ad Γ K' i') cell)[q]? = H[q]? := fun q hq => by simp [Array.getElem?_setIfInBounds, Ne.symm hq]
  have hA : g_A Γ (g_ad Γ K' i') := hvm.1.2 K' i' (by rw [hk1]; simp) hi1
  obtain ⟨t, a1, b1⟩ := hk' _ _ (rp_set (μ' := cpy μ K i K' i' sp.toNatClampNeg dp.toNatClampNeg n.toNatClampNeg) hvm.1 hH hi1 (by rw [hk1]; simp) (H' := H.setIfInBounds (g_ad Γ K' i') cell) (by simp) oq (by
      unfold rp_c
      rw [hk1]
      show (H.setIfInBounds (g_ad Γ K' i') cell)[g_ad Γ K' i']? = _
      rw [Array.getElem?_setIfInBounds, if_pos rfl, if_pos hl, ← hcell]
      refine congrArg some (congrArg (arrV (g_cA Γ K') n1) (funext fun q => ?_))
      rw [look_cpy hI1]
      unfold va_cpy
      by_cases hq : dp.toNatClampNeg ≤ q ∧ q < dp.toNatClampNeg + n.toNatClampNeg
      · rw [if_pos hq, if_pos ⟨rfl, rfl, hq⟩]
        rfl
      · rw [if_neg hq, if_neg (fun z => hq z.2.2), look_I (hI1 _)]
        rfl) (fun A a s h => by rw [look_cpy hI1, if_neg (fun z => h ⟨z.1, z.2.1⟩)])) ⟨by simp; exact hS.1, fun q g1 g2 => by
      rw [oq q (fun e => g2 (by rw [e]; exact hA))]
      exact hS.2.1 q g1 g2, fun q hq => by
      rcases List.mem_append.mp hq with h | h
      · exact hS.2.2 q h
      · obtain ⟨z, -, hz⟩ := List.mem_map.mp h
        rw [← hz]
        exact hA⟩ _ hheap X'
  exact ⟨t, step t a1, b1⟩
end ACP
