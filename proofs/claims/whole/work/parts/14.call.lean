section AC
variable {Γ : cx_T} {M : mt_T} {pc : Nat} {ls ls' st : List aV} {μ : mH} {Q : aV → mH → Prop}
theorem sh_S {p : Program} {e : Env} {R : Room} {s : State} {m : MethodId} {args : Array Value} {below : List Frame} {meth : Method} {c : Code} {cells slots : Nat} {QQ : State → Prop} (hB : in_B Γ M (p, e, R, s, m, args, below, meth, c, cells, slots, QQ)) {H : Heap} {locs : List Loc} (hH : rp_H Γ μ H) (hS : va_S (g_A Γ) (g_H0 Γ) H locs) : va_S (g_A Γ) s.heap H locs := by
  obtain ⟨-, -, -, -, -, -, -, -, -, h1, h2, -⟩ := hB
  refine ⟨by rw [hH.1]; exact h2, fun q hq hA => ?_, hS.2.2⟩
  have hq0 : q < (g_H0 Γ).size := Nat.not_le.mp hA
  rw [hS.2.1 q hq0 hA, h1.2.1 q hq0 hA]
theorem sh_K {p : Program} {e : Env} {R : Room} {s : State} {m : MethodId} {args : Array Value} {below : List Frame} {meth : Method} {c : Code} {cells slots : Nat} {QQ : State → Prop} (hB : in_B Γ M (p, e, R, s, m, args, below, meth, c, cells, slots, QQ)) : ∀ a : Nat, a < (g_H0 Γ).size → ¬ g_A Γ a → s.heap[a]? = (g_H0 Γ)[a]? := by
  obtain ⟨-, -, -, -, -, -, -, -, -, h1, h2, -⟩ := hB
  exact h1.2.1
theorem aw_ldc {idx : Nat} {v : Int32} (hd : decode (m_c M) pc = .ok (.ldc idx, 2)) (hc : Cond.constant (m_y M).cls idx v ∈ tb_g) (k : aw Γ M (pc + 2) ls (aI v :: st) μ Q) : aw Γ M pc ls st μ Q := by
  intro X hB hR H locs arr hH hS hL hl hw
  have hk' := k X hB hR H locs arr hH hS hL hl (List.forall_mem_cons.mpr ⟨trivial, hw⟩)
  obtain ⟨p, e, R, s, m, args, below, meth, c, cells, slots, QQ⟩ := X
  obtain ⟨hx, hb, hml, hown, hvm, -⟩ := hB
  exact lv_ldc hx hb hown (hvm.2.1 _ hc args) hd hk'
theorem aw_ldcw {idx : Nat} {v : Int32} (hd : decode (m_c M) pc = .ok (.ldc_w idx, 3)) (hc : Cond.constant (m_y M).cls idx v ∈ tb_g) (k : aw Γ M (pc + 3) ls (aI v :: st) μ Q) : aw Γ M pc ls st μ Q := by
  intro X hB hR H locs arr hH hS hL hl hw
  have hk' := k X hB hR H locs arr hH hS hL hl (List.forall_mem_cons.mpr ⟨trivial, hw⟩)
  obtain ⟨p, e, R, s, m, args, below, meth, c, cells, slots, QQ⟩ := X
  obtain ⟨hx, hb, hml, hown, hvm, -⟩ := hB
  exact lv_ldcw hx hb hown (hvm.2.1 _ hc args) hd hk'
theorem aw_ldc2 {idx : Nat} {v : Int64} (hd : decode (m_c M) pc = .ok (.ldc2_w idx, 3)) (hc : Cond.constantLong (m_y M).cls idx v ∈ tb_g) (k : aw Γ M (pc + 3) ls (aL v :: st) μ Q) : aw Γ M pc ls st μ Q := by
  intro X hB hR H locs arr hH hS hL hl hw
  have hk' := k X hB hR H locs arr hH hS hL hl (List.forall_mem_cons.mpr ⟨trivial, hw⟩)
  obtain ⟨p, e, R, s, m, args, below, meth, c, cells, slots, QQ⟩ := X
  obtain ⟨hx, hb, hml, hown, hvm, -⟩ := hB
  exact lv_ldc2 hx hb hown (hvm.2.1 _ hc args) hd hk'
theorem aw_ldcS {idx j : Nat} {tx : String} (hd : decode (m_c M) pc = .ok (.ldc idx, 2)) (hq : ((m_y M).cls, idx, tx, j) ∈ st_tab) (hj : j < 9) (k : aw Γ M (pc + 2) ls (aR 63 j :: st) μ Q) : aw Γ M pc ls st μ Q := by
  intro X hB hR H locs arr hH hS hL hl hw
  have hk' := k X hB hR H locs arr hH hS hL hl (List.forall_mem_cons.mpr ⟨hj, hw⟩)
  obtain ⟨p, e, R, s, m, args, below, meth, c, cells, slots, QQ⟩ := X
  obtain ⟨hx, hb, hml, hown, hvm, -⟩ := hB
  exact va_ldcS hx hb hown (hvm.2.2.2.2.2.2.1 _ hq) hd hk'
theorem aw_strV {idx j : Nat} (hd : decode (m_c M) pc = .ok (.getfield idx, 3)) (hf : Cond.fieldLink (m_y M).cls idx "java/lang/String" "value" "[B" ∈ tb_g) (k : aw Γ M (pc + 3) ls (aR 64 j :: st) μ Q) : aw Γ M pc ls (aR 63 j :: st) μ Q := by
  intro X hB hR H locs arr hH hS hL hl hw
  have hj : j < 9 := (List.forall_mem_cons.mp hw).1
  have hk' := k X hB hR H locs arr hH hS hL hl (List.forall_mem_cons.mpr ⟨hj, (List.forall_mem_cons.mp hw).2⟩)
  obtain ⟨p, e, R, s, m, args, below, meth, c, cells, slots, QQ⟩ := X
  have hS' := sh_S hB hH hS
  have hK' := sh_K hB
  obtain ⟨hx, hb, hml, hown, hvm, -⟩ := hB
  exact vk_getf hx hb ((hvm.2.2.2.2.2.1.1 j hj).2.2.1.kept hK') hS' hown (hvm.2.1 _ hf args) (fun _ h => h) hd hk'
theorem aw_strC {idx j : Nat} (hd : decode (m_c M) pc = .ok (.getfield idx, 3)) (hf : Cond.fieldLink (m_y M).cls idx "java/lang/String" "coder" "B" ∈ tb_g) (k : aw Γ M (pc + 3) ls (aI 0 :: st) μ Q) : aw Γ M pc ls (aR 63 j :: st) μ Q := by
  intro X hB hR H locs arr hH hS hL hl hw
  have hj : j < 9 := (List.forall_mem_cons.mp hw).1
  have hk' := k X hB hR H locs arr hH hS hL hl (List.forall_mem_cons.mpr ⟨trivial, (List.forall_mem_cons.mp hw).2⟩)
  obtain ⟨p, e, R, s, m, args, below, meth, c, cells, slots, QQ⟩ := X
  have hS' := sh_S hB hH hS
  have hK' := sh_K hB
  obtain ⟨hx, hb, hml, hown, hvm, -⟩ := hB
  exact vk_getf hx hb ((hvm.2.2.2.2.2.1.1 j hj).2.1.kept hK') hS' hown (hvm.2.1 _ hf args) (fun _ h => h) hd hk'
theorem aw_strB {j : Nat} {x : Int32} (hd : decode (m_c M) pc = .ok (.baload, 1)) (hin : vp_in x (lenS.getD j 0)) (k : aw Γ M (pc + 1) ls (aI ((bytS.getD j []).getD x.toNatClampNeg 0) :: st) μ Q) : aw Γ M pc ls (aI x :: aR 64 j :: st) μ Q := by
  intro X hB hR H locs arr hH hS hL hl hw
  have hw := (List.forall_mem_cons.mp hw).2
  have hj : j < 9 := (List.forall_mem_cons.mp hw).1
  have hk' := k X hB hR H locs arr hH hS hL hl (List.forall_mem_cons.mpr ⟨trivial, (List.forall_mem_cons.mp hw).2⟩)
  obtain ⟨p, e, R, s, m, args, below, meth, c, cells, slots, QQ⟩ := X
  have hS' := sh_S hB hH hS
  have hK' := sh_K hB
  obtain ⟨hx, hb, hml, hown, hvm, -⟩ := hB
  exact va_tb hx hb ((hvm.2.2.2.2.2.1.1 j hj).2.2.2.kept hK') hS' hin rfl hd hk'
theorem aw_strL {j : Nat} (hd : decode (m_c M) pc = .ok (.arraylength, 1)) (k : aw Γ M (pc + 1) ls (aI (Int32.ofNat (lenS.getD j 0)) :: st) μ Q) : aw Γ M pc ls (aR 64 j :: st) μ Q := by
  intro X hB hR H locs arr hH hS hL hl hw
  have hj : j < 9 := (List.forall_mem_cons.mp hw).1
  have hk' := k X hB hR H locs arr hH hS hL hl (List.forall_mem_cons.mpr ⟨trivial, (List.forall_mem_cons.mp hw).2⟩)
  obtain ⟨p, e, R, s, m, args, below, meth, c, cells, slots, QQ⟩ := X
  have hS' := sh_S hB hH hS
  have hK' := sh_K hB
  obtain ⟨hx, hb, hml, hown, hvm, -⟩ := hB
  exact va_tlen hx hb ((hvm.2.2.2.2.2.1.1 j hj).2.2.2.kept hK') hS' rfl hd hk'
theorem aw_compact {idx : Nat} (hd : decode (m_c M) pc = .ok (.getstatic idx, 3)) (hf : Cond.fieldLink (m_y M).cls idx "java/lang/String" "COMPACT_STRINGS" "Z" ∈ tb_g) (k : aw Γ M (pc + 3) ls (aI 1 :: st) μ Q) : aw Γ M pc ls st μ Q := by
  intro X hB hR H locs arr hH hS hL hl hw
  have hk' := k X hB hR H locs arr hH hS hL hl (List.forall_mem_cons.mpr ⟨trivial, hw⟩)
  obtain ⟨p, e, R, s, m, args, below, meth, c, cells, slots, QQ⟩ := X
  have hS' := sh_S hB hH hS
  have hK' := sh_K hB
  obtain ⟨hx, hb, hml, hown, hvm, -⟩ := hB
  exact va_gets hx hb (hvm.2.2.2.2.2.2.2.1.1.kept hK') hS' hown (hvm.2.1 _ hf args) (fun _ h => h) hd hk'
theorem aw_sio {idx : Nat} (hd : decode (m_c M) pc = .ok (.getstatic idx, 3)) (hf : Cond.fieldLink (m_y M).cls idx "jdk/internal/util/Preconditions" "SIOOBE_FORMATTER" "Ljava/util/function/BiFunction;" ∈ tb_g) (k : ∀ o, aw Γ M (pc + 3) ls (aQ 66 o :: st) μ Q) : aw Γ M pc ls st μ Q := by
  intro X hB hR H locs arr hH hS hL hl hw
  have hk0 := k none X hB hR H locs arr hH hS hL hl (List.forall_mem_cons.mpr ⟨trivial, hw⟩)
  have hk1 := k (some 0) X hB hR H locs arr hH hS hL hl (List.forall_mem_cons.mpr ⟨Nat.zero_lt_one, hw⟩)
  obtain ⟨p, e, R, s, m, args, below, meth, c, cells, slots, QQ⟩ := X
  have hS' := sh_S hB hH hS
  have hK' := sh_K hB
  obtain ⟨hx, hb, hml, hown, hvm, -⟩ := hB
  rcases hvm.2.2.2.2.2.2.2.1.2 with h | h
  · exact va_gets hx hb (h.kept hK') hS' hown (hvm.2.1 _ hf args) (fun _ h => h) hd hk0
  · exact va_gets hx hb (h.kept hK') hS' hown (hvm.2.1 _ hf args) (fun _ h => h) hd hk1
theorem aw_pop {x : Int32} (hd : decode (m_c M) pc = .ok (.pop, 1)) (k : aw Γ M (pc + 1) ls st μ Q) : aw Γ M pc ls (aI x :: st) μ Q := aw_s k (fun _ h => (List.forall_mem_cons.mp h).2) (fun hx hb hL kk => lv_pop hx hb hd rfl kk)
theorem aw_scL {i : Nat} (hd : decode (m_c M) pc = .ok (.arraylength, 1)) (hb0 : g_ad Γ 65 i = g_b Γ) (k : aw Γ M (pc + 1) ls (aI (Int32.ofNat (g_L Γ)) :: st) μ Q) : aw Γ M pc ls (aR 65 i :: st) μ Q := by
  intro X hB hR H locs arr hH hS hL hl hw
  have hk' := k X hB hR H locs arr hH hS hL hl (List.forall_mem_cons.mpr ⟨trivial, (List.forall_mem_cons.mp hw).2⟩)
  obtain ⟨p, e, R, s, m, args, below, meth, c, cells, slots, QQ⟩ := X
  obtain ⟨hx, hb, hml, hown, hvm, -⟩ := hB
  show W _ _ _ _ _ _ _ _ _ _ _ _ _ _ _ (F0 m pc arr (.ref (g_ad Γ 65 i) :: st.map (cv (g_ad Γ))))
  rw [hb0]
  exact va_slen hx hb hvm.2.2.2.2.2.2.2.2.1 hvm.2.2.2.2.2.2.2.2.2 (Nat.not_le.mpr hvm.2.2.2.2.2.2.2.2.2) hS hd hk'
theorem aw_scI {i : Nat} {x : Int32} (hd : decode (m_c M) pc = .ok (.iaload, 1)) (hb0 : g_ad Γ 65 i = g_b Γ) (hin : vp_in x (g_L Γ)) (k : aw Γ M (pc + 1) ls (aI (g_xs Γ x.toNatClampNeg) :: st) μ Q) : aw Γ M pc ls (aI x :: aR 65 i :: st) μ Q := by
  intro X hB hR H locs arr hH hS hL hl hw
  have hk' := k X hB hR H locs arr hH hS hL hl (List.forall_mem_cons.mpr ⟨trivial, (List.forall_mem_cons.mp (List.forall_mem_cons.mp hw).2).2⟩)
  obtain ⟨p, e, R, s, m, args, below, meth, c, cells, slots, QQ⟩ := X
  obtain ⟨hx, hb, hml, hown, hvm, -⟩ := hB
  show W _ _ _ _ _ _ _ _ _ _ _ _ _ _ _ (F0 m pc arr (.int x :: .ref (g_ad Γ 65 i) :: st.map (cv (g_ad Γ))))
  rw [hb0]
  exact va_sld hx hb hvm.2.2.2.2.2.2.2.2.1 hvm.2.2.2.2.2.2.2.2.2 (Nat.not_le.mpr hvm.2.2.2.2.2.2.2.2.2) hS hin hd hk'
/-! returns -/
theorem aw_iret {x : Int32} {ty : FieldType} (hd : decode (m_c M) pc = .ok (.ireturn, 1)) (hr : m_r M = some ty) (hn : narrow ty (.int x) = .int x) (h : Q (aI x) μ) : aw Γ M pc ls [aI x] μ Q := fun _ _ hR H locs arr hH hS _ _ _ => (hR (aI x) μ trivial h H locs pc arr hH hS).1 hd x ty rfl hr hn
theorem aw_lret {x : Int64} (hd : decode (m_c M) pc = .ok (.lreturn, 1)) (hr : m_r M = some .long) (h : Q (aL x) μ) : aw Γ M pc ls [aL x] μ Q := fun _ _ hR H locs arr hH hS _ _ _ => (hR (aL x) μ trivial h H locs pc arr hH hS).2.1 hd x rfl hr
theorem aw_aret {K : Nat} {o : Option Nat} (hd : decode (m_c M) pc = .ok (.areturn, 1)) (hr : m_r M = some (.array .int)) (h : Q (aQ K o) μ) : aw Γ M pc ls [aQ K o] μ Q := fun _ _ hR H locs arr hH hS _ _ hw => (hR (aQ K o) μ (List.forall_mem_cons.mp hw).1 h H locs pc arr hH hS).2.2.1 hd _ rfl hr
theorem aw_vret (hd : decode (m_c M) pc = .ok (.return_, 1)) (hr : m_r M = none) (h : Q aX μ) : aw Γ M pc ls [] μ Q := fun _ _ hR H locs arr hH hS _ _ _ => (hR aX μ trivial h H locs pc arr hH hS).2.2.2 hd rfl hr
/-! the entry -/
theorem lv_args_in : ∀ (vs : List Value) (j : Nat), (∀ v ∈ vs, v.category = 1) → ∀ (i : Nat) (v : Value), vs[i]? = some v → (j + i, v) ∈ lv_args j vs
  | [], _, _, i, v, h => by simp at h
  | w :: vs, j, hc, i, v, h => by
    have h1 := hc w List.mem_cons_self
    unfold lv_args
    cases i with
    | zero =>
      rw [List.getElem?_cons_zero] at h
      cases h
      exact List.mem_cons_self
    | succ i =>
      rw [List.getElem?_cons_succ] at h
      refine List.mem_cons_of_mem _ ?_
      rw [if_neg (by rw [h1]; decide), show j + (i + 1) = (j + 1) + i by omega]
      exact lv_args_in vs (j + 1) (fun v hv => hc v (List.mem_cons_of_mem _ hv)) i v h
theorem lg_sl_len : ∀ (vs : List Value), (∀ v ∈ vs, v.category = 1) → (lg_sl vs).length = vs.length
  | [], _ => rfl
  | v :: vs, hc => by
    have h := lg_sl_len vs (fun v hv => hc v (List.mem_cons_of_mem _ hv))
    have h1 := hc v List.mem_cons_self
    unfold lg_sl at h ⊢
    rw [List.flatMap_cons, List.length_append, h, if_neg (by rw [h1]; decide)]
    simp only [List.length_cons, List.length_nil]
    omega
theorem cw_of {vs : List aV} (hpl : plainName (m_y M).cls = true ∨ plainFor (m_y M) = true) (hc : ∀ v ∈ vs, ∀ ad, (cv ad v).category = 1) (hn : vs.length ≤ m_L M) (he : vs ++ List.replicate (m_L M - vs.length) aX = ls) (h : aw Γ M 0 ls [] μ Q) : cw Γ M vs μ Q := by
  unfold cw
  have key : ∀ p e s m args below meth c s₁, BodyLoose p (g_l Γ) (m_y M) (headSpec [.code (m_y M) (m_c M) (m_L M) (m_r M)] { frames := m_f M, cells := 0, slots := 0, locals := m_w M }) (m_c M) (m_L M) (m_r M) e s m args below meth c s₁ → c.maxLocals = m_L M → cw_P Γ vs μ args s → W p (g_l Γ) e (headSpec [.code (m_y M) (m_c M) (m_L M) (m_r M)] { frames := m_f M, cells := 0, slots := 0, locals := m_w M }).room s m args below meth c s.heap [] 0 0 (MQ below (cw_Q Γ M Q) args s 0 0 (g_A Γ)) (entryFrame m args (m_L M)) := ?_
  · rcases hpl with hpl | hpl
    · exact Met.ofW (cc := m_c M) (maxL := m_L M) (ret := m_r M) hpl rfl key
    · exact va_MetF (cc := m_c M) (maxL := m_L M) (ret := m_r M) hpl rfl key
  intro p e s m args below meth c s₁ B hml hv
  obtain ⟨rfl, hlv, hH, hS, hvm⟩ := hv
  have hcat : ∀ v ∈ vs.map (cv (g_ad Γ)), v.category = 1 := fun v hv => by
    obtain ⟨w, hw, rfl⟩ := List.mem_map.mp hv
    exact hc w hw _
  have hlen := lg_sl_len _ hcat
  rw [List.length_map] at hlen
  have hl := lv_entry (vs.map (cv (g_ad Γ))) (n := m_L M) (by rw [hlen]; exact hn)
  rw [lg_entry_eq]
  generalize (lg_sl (vs.map (cv (g_ad Γ))) ++ List.replicate (m_L M - (lg_sl (vs.map (cv (g_ad Γ)))).length) Slot.unset).toArray = arr at hl ⊢
  have hB : in_B Γ M (p, e, (headSpec [.code (m_y M) (m_c M) (m_L M) (m_r M)] { frames := m_f M, cells := 0, slots := 0, locals := m_w M }).room, s, m, (vs.map (cv (g_ad Γ))).toArray, below, meth, c, 0, 0, MQ below (cw_Q Γ M Q) (vs.map (cv (g_ad Γ))).toArray s 0 0 (g_A Γ)) :=
    ⟨B.exec, B.bytes, hml, findClass_of_methodNamed B.named, hvm, Nat.le_refl _, Nat.le_refl _, Nat.le_refl _, Nat.le_refl _, hS, Nat.le_of_eq hH.1, B.returns⟩
  have hlocks := B.notSynchronized
  refine h _ hB ?_ s.heap [] arr hH hS ⟨hl.1, hl.2.1, fun q hq => ?_⟩ ?_ (fun v hv => by cases hv)
  · intro r μ' hlr hq H locs pc arr hH hS
    have hfin : ∀ t : State, t.heap = H → cw_Q Γ M Q (vs.map (cv (g_ad Γ))).toArray s (cw_o Γ M r) t := fun t ht => ⟨r, μ', rfl, hlr, by rw [ht]; exact hH, ⟨by rw [ht]; exact hS.1, fun q h1 h2 => by rw [ht]; exact hS.2.1 q h1 h2, fun q hq => by cases hq⟩, hq⟩
    refine ⟨fun hd x ty hr hm hn => ?_, fun hd x hr hm => ?_, fun hd o hr hm => ?_, fun hd hr hm => ?_⟩
    · subst hr
      exact W.zret B.exec B.bytes (B.returns.trans hm) hn (fun t ht _ => by have := hfin t ht; unfold cw_o at this; rw [hm] at this; exact this) hS.2.2 hd hlocks
    · subst hr
      exact W.lret B.exec B.bytes (B.returns.trans hm) (fun t ht _ => by have := hfin t ht; unfold cw_o at this; rw [hm] at this; exact this) hS.2.2 hd hlocks
    · refine W.aret B.exec B.bytes (B.returns.trans hm) (Or.inr ⟨_, rfl⟩) ?_ (fun t ht _ => by have := hfin t ht; unfold cw_o at this; rw [hm] at this; exact this) hS.2.2 hd hlocks
      subst hr
      cases o with
      | none => exact Or.inl rfl
      | some q => exact Or.inr ⟨_, rfl⟩
    · exact W.vret B.exec B.bytes (B.returns.trans hm) (fun t ht _ => by have := hfin t ht; unfold cw_o at this; rw [hm] at this; exact this) hS.2.2 hd hlocks
  · obtain ⟨v, h1, h2, h3⟩ := lo_mem.mp hq
    subst he
    by_cases hi : q.1 < vs.length
    · rw [List.getElem?_append_left hi] at h1
      have := lv_args_in (vs.map (cv (g_ad Γ))) 0 hcat q.1 (cv (g_ad Γ) v) (by rw [List.getElem?_map, h1]; rfl)
      rw [Nat.zero_add] at this
      have h4 := hl.2.2 _ this
      rw [h3]
      exact h4
    · rw [List.getElem?_append_right (by omega)] at h1
      have := (List.mem_replicate.mp (List.mem_of_getElem? h1)).2
      exact absurd this h2
  · subst he
    intro v hv
    rcases List.mem_append.mp hv with h1 | h1
    · exact hlv v h1
    · rw [(List.mem_replicate.mp h1).2]; exact trivial
/-! calls -/
def mk_ok (M : mt_T) : Prop := Cond.code (m_y M) (m_c M) (m_L M) (m_r M) ∈ tb_g ∧ Cond.initialized (m_y M).cls ∈ tb_g ∧ (m_y M).cls ≠ "java/lang/invoke/MethodHandle" ∧ (m_y M).cls ≠ "java/lang/invoke/VarHandle"
def mi_ok (M : mt_T) : Prop := Cond.instanceMethod (m_y M) ∈ tb_g ∧ Cond.selects (m_y M).cls (m_y M) (m_y M) ∈ tb_g
def mp_n (M : mt_T) (n : Nat) : Prop := (parseMethodDescriptor (m_y M).desc).map (fun d => d.parameters.length) = some n
/-- the receiver's class -/
def rc_ok (K : Nat) (C : String) : Prop := (∃ (ci : Nat) (r : vw_C), kd K = some (.inl ci) ∧ vwCl[ci]? = some r ∧ r.1 = C) ∨ (K = 63 ∧ C = "java/lang/String")
def rm_ok (M M' : mt_T) : Prop := m_f M' + 1 ≤ m_f M ∧ 8 + (m_L M' + 11) + m_w M' ≤ m_w M
theorem cat_le {ad : Nat → Nat → Nat} : ∀ (st : List aV), ((st.map (cv ad)).map fun v => v.category).sum ≤ 2 * st.length
  | [] => Nat.zero_le _
  | v :: st => by
    have h := cat_le (ad := ad) st
    have h1 : (cv ad v).category ≤ 2 := by rcases lv_cat (cv ad v) with h | h <;> omega
    simp only [List.map_cons, List.sum_cons, List.length_cons]
    omega
theorem cw_blind {vs : List aV} : FrameBlind (cw_P Γ vs μ) := fun a U g mk h => ⟨h.1, h.2.1, h.2.2.1, h.2.2.2.1, vm_warm (s := U) (U := U.calling g mk a) (State.WarmedH.refl U) h.2.2.2.2⟩
theorem cb_of {p : Program} {e : Env} {R : Room} {s : State} {m : MethodId} {args : Array Value} {below : List Frame} {meth : Method} {c : Code} {cells slots : Nat} {QQ : State → Prop} (hB : in_B Γ M (p, e, R, s, m, args, below, meth, c, cells, slots, QQ)) {M' : mt_T} {idx n : Nat} (hm : mk_ok M') (hl : Cond.methodLink (m_y M).cls idx (m_y M') ∈ tb_g) (hp : mp_n M' n) (hr : rm_ok M M') :
    CallB R s args (m_y M).cls idx (m_y M') (m_c M') (m_L M') (m_r M') [.code (m_y M') (m_c M') (m_L M') (m_r M')] { frames := m_f M', cells := 0, slots := 0, locals := m_w M' } 0 0 n := by
  obtain ⟨hx, hb, hml, hown, hvm, hf, hw, -⟩ := hB
  refine ⟨rfl, rfl, Nat.le_trans hr.1 hf, Nat.le_trans hr.2 hw, fun w hw' a' U hW => ?_, List.mem_cons_self, hvm.2.1 _ hm.1 args, hvm.2.1 _ hm.2.1 args, hm.2.2, fun sig h => ?_, hvm.2.1 _ hl args⟩
  · rw [List.mem_singleton.mp hw']
    exact (vm_warm hW hvm).2.1 _ hm.1 a'
  · unfold mp_n at hp
    rw [h] at hp
    exact (Option.some.inj hp).symm
theorem cn_of {p : Program} {e : Env} {R : Room} {s : State} {m : MethodId} {args : Array Value} {below : List Frame} {meth : Method} {c : Code} {cells slots : Nat} {QQ : State → Prop} (hB : in_B Γ M (p, e, R, s, m, args, below, meth, c, cells, slots, QQ)) {M' : mt_T} {idx n : Nat} {host : String} (hm : mk_ok M') (hl : Cond.methodLinkNest (m_y M).cls idx (m_y M') host ∈ tb_n) (hp : mp_n M' n) (hr : rm_ok M M') :
    va_CN R s args (m_y M).cls idx (m_y M') host (m_c M') (m_L M') (m_r M') [.code (m_y M') (m_c M') (m_L M') (m_r M')] { frames := m_f M', cells := 0, slots := 0, locals := m_w M' } 0 0 n := by
  obtain ⟨hx, hb, hml, hown, hvm, hf, hw, -⟩ := hB
  refine ⟨⟨rfl, rfl, Nat.le_trans hr.1 hf, Nat.le_trans hr.2 hw, fun w hw' a' U hW => ?_, List.mem_cons_self⟩, hvm.2.1 _ hm.1 args, hvm.2.1 _ hm.2.1 args, hm.2.2, fun sig h => ?_, va_Nw.use rfl (hvm.2.2.1 _ hl)⟩
  · rw [List.mem_singleton.mp hw']
    exact (vm_warm hW hvm).2.1 _ hm.1 a'
  · unfold mp_n at hp
    rw [h] at hp
    exact (Option.some.inj hp).symm
theorem rc_cell {p : Program} {e : Env} {R : Room} {s : State} {m : MethodId} {args : Array Value} {below : List Frame} {meth : Method} {c : Code} {cells slots : Nat} {QQ : State → Prop} (hB : in_B Γ M (p, e, R, s, m, args, below, meth, c, cells, slots, QQ)) {H : Heap} {locs : List Loc} (hH : rp_H Γ μ H) (hS : va_S (g_A Γ) (g_H0 Γ) H locs) {K i : Nat} {C : String} (hi : i < kn K) (h : rc_ok K C) : ∃ cellB : Cell, H[g_ad Γ K i]? = some cellB ∧ cellB.vm.isStatics = false ∧ s.vm.findClass C = some cellB.cls := by
  have hS' := sh_S hB hH hS
  have hK' := sh_K hB
  obtain ⟨hx, hb, hml, hown, hvm, -⟩ := hB
  rcases h with ⟨ci, r, h1, h2, rfl⟩ | ⟨rfl, rfl⟩
  · obtain ⟨r', hr', cell, q1, q2, q3, q4⟩ := rp_obj hH hi h1
    cases h2.symm.trans hr'
    exact ⟨cell, q1, by rw [q3]; rfl, by rw [q2]; exact (hvm.2.2.2.1 ci r h2).2.1⟩
  · exact vk_recv (hvm.2.2.2.2.2.1.kept hK') hi hS'
/-- what a call leaves on the stack -/
def pu (M : mt_T) (r : aV) (st : List aV) : List aV := match m_r M with
  | none => st
  | some _ => r :: st
/-- behind any kind of call -/
theorem aw_run {M' : mt_T} {vs st0 : List aV} {a : Array Value} {Qk : aV → mH → Prop} (hk : ∀ r μ', Qk r μ' → aw Γ M (pc + 3) ls (pu M' r st) μ' Q) (X : mx_T) (hB : in_B Γ M X) (hR : rt_ok Γ M X Q) {H : Heap} {locs : List Loc} {arr : Array Slot} (hS : va_S (g_A Γ) (g_H0 Γ) H locs) (hL : lv_has arr (m_L M) (lo_l (g_ad Γ) ls)) (hl : ∀ v ∈ ls, liv v) (hw : ∀ v ∈ st, liv v)
    (hr : match X with | (p, e, R, s, m, args, below, meth, c, cells, slots, QQ) => va_Run p (g_l Γ) e R s m args below meth c H locs cells slots 0 0 (F0 m pc arr (st0.map (cv (g_ad Γ)))) (st.map (cv (g_ad Γ))) (cw_Q Γ M' Qk a) (g_A Γ)) : wx Γ X H locs pc arr (st0.map (cv (g_ad Γ))) := by
  have hk' := fun r μ' h H' locs' h1 h2 h3 => hk r μ' h X hB hR H' locs' arr h1 h2 hL hl h3
  obtain ⟨p, e, R, s, m, args, below, meth, c, cells, slots, QQ⟩ := X
  intro T hT Xs
  obtain ⟨v, st₀, t, T', L, h0, X', hL', e1, e2, ⟨r, μ', ho, hlr, hrp, hva, hq⟩, stp⟩ := hr T hT Xs
  have hS1 : va_S (g_A Γ) (g_H0 Γ) T'.heap (locs ++ L) := ⟨by rw [e1]; exact hva.1, fun q h1 h2 => by rw [e1]; exact hva.2.1 q h1 h2, fun q hq => by
    rcases List.mem_append.mp hq with h | h
    · exact hS.2.2 q h
    · exact hL' q h⟩
  have hst : ∀ w ∈ pu M' r st, liv w := by
    unfold pu
    split
    · exact hw
    · exact List.forall_mem_cons.mpr ⟨hlr, hw⟩
  obtain ⟨t2, a1, b1⟩ := hk' r μ' hq T'.heap (locs ++ L) (by rw [e1]; exact hrp) hS1 hst T' rfl X'
  refine ⟨t2, stp t2 ?_, b1⟩
  have : v.toList ++ st.map (cv (g_ad Γ)) = (pu M' r st).map (cv (g_ad Γ)) := by
    unfold cw_o at ho
    unfold pu
    split at ho
    · rename_i e; cases ho; rw [e]; rfl
    · rename_i e; cases ho; rw [e]; rfl
  rw [this]
  exact a1
theorem aw_callV {M' : mt_T} {idx K i : Nat} {vs st0 : List aV} (hd : decode (m_c M) pc = .ok (.invokevirtual idx, 3)) (hm : mk_ok M') (hI : mi_ok M') (hlk : Cond.methodLink (m_y M).cls idx (m_y M') ∈ tb_g) (hp : mp_n M' vs.length) (hrc : rc_ok K (m_y M').cls) (hr : rm_ok M M') (hst : st.length ≤ 4) (he : vs.reverse ++ aR K i :: st = st0) (k : cw Γ M' (aR K i :: vs) μ (fun r μ' => aw Γ M (pc + 3) ls (pu M' r st) μ' Q)) : aw Γ M pc ls st0 μ Q := by
  intro X hB hR H locs arr hH hS hL hl hw
  subst he
  have hw1 : ∀ v ∈ vs, liv v := fun v hv => hw v (List.mem_append_left _ (List.mem_reverse.mpr hv))
  have hw2 := fun v hv => hw v (List.mem_append_right _ hv)
  have hi : i < kn K := (List.forall_mem_cons.mp hw2).1
  refine aw_run (M' := M') (vs := vs) (Qk := fun r μ' => aw Γ M (pc + 3) ls (pu M' r st) μ' Q) (a := (Value.ref (g_ad Γ K i) :: vs.map (cv (g_ad Γ))).toArray) (fun _ _ h => h) X hB hR hS hL hl (List.forall_mem_cons.mp hw2).2 ?_
  obtain ⟨p, e, R, s, m, args, below, meth, c, cells, slots, QQ⟩ := X
  have hcb := cb_of hB hm hlk hp hr
  have hcell := rc_cell hB hH hS hi hrc
  obtain ⟨hx, hb, hml, hown, hvm, hf1, hf2, hf3, hf4, -⟩ := hB
  exact va_runV (Ts := []) (C := (m_y M').cls) (As := vs.map (cv (g_ad Γ))) ⟨hx, hb, hml, hown, fun w h => by cases h⟩ k ⟨hcb, hvm.2.1 _ hI.1 args, hvm.2.1 _ hI.2 args⟩ ⟨cw_blind, hcell, fun U hU hW => ⟨by simp [cv], List.forall_mem_cons.mpr ⟨hi, hw1⟩, by rw [hU]; exact hH, ⟨by rw [hU]; exact hS.1, fun q h1 h2 => by rw [hU]; exact hS.2.1 q h1 h2, fun q hq => by cases hq⟩, vm_warm hW hvm⟩⟩ rfl (by rw [List.length_map]) hL.1 (by simp [cv, List.map_reverse]) (lv_room (by have := cat_le (ad := g_ad Γ) st; omega)) hd ⟨hf3, hf4⟩
theorem aw_callVN {M' : mt_T} {idx K i : Nat} {host : String} {vs st0 : List aV} (hd : decode (m_c M) pc = .ok (.invokevirtual idx, 3)) (hm : mk_ok M') (hI : mi_ok M') (hlk : Cond.methodLinkNest (m_y M).cls idx (m_y M') host ∈ tb_n) (hp : mp_n M' vs.length) (hrc : rc_ok K (m_y M').cls) (hr : rm_ok M M') (hst : st.length ≤ 4) (he : vs.reverse ++ aR K i :: st = st0) (k : cw Γ M' (aR K i :: vs) μ (fun r μ' => aw Γ M (pc + 3) ls (pu M' r st) μ' Q)) : aw Γ M pc ls st0 μ Q := by
  intro X hB hR H locs arr hH hS hL hl hw
  subst he
  have hw1 : ∀ v ∈ vs, liv v := fun v hv => hw v (List.mem_append_left _ (List.mem_reverse.mpr hv))
  have hw2 := fun v hv => hw v (List.mem_append_right _ hv)
  have hi : i < kn K := (List.forall_mem_cons.mp hw2).1
  refine aw_run (M' := M') (vs := vs) (Qk := fun r μ' => aw Γ M (pc + 3) ls (pu M' r st) μ' Q) (a := (Value.ref (g_ad Γ K i) :: vs.map (cv (g_ad Γ))).toArray) (fun _ _ h => h) X hB hR hS hL hl (List.forall_mem_cons.mp hw2).2 ?_
  obtain ⟨p, e, R, s, m, args, below, meth, c, cells, slots, QQ⟩ := X
  have hcb := cn_of hB hm hlk hp hr
  have hcell := rc_cell hB hH hS hi hrc
  obtain ⟨hx, hb, hml, hown, hvm, hf1, hf2, hf3, hf4, -⟩ := hB
  exact va_runVN (Ts := []) (C := (m_y M').cls) (As := vs.map (cv (g_ad Γ))) ⟨hx, hb, hml, hown, fun w h => by cases h⟩ k ⟨hcb, hvm.2.1 _ hI.1 args, hvm.2.1 _ hI.2 args⟩ ⟨cw_blind, hcell, fun U hU hW => ⟨by simp [cv], List.forall_mem_cons.mpr ⟨hi, hw1⟩, by rw [hU]; exact hH, ⟨by rw [hU]; exact hS.1, fun q h1 h2 => by rw [hU]; exact hS.2.1 q h1 h2, fun q hq => by cases hq⟩, vm_warm hW hvm⟩⟩ rfl (by rw [List.length_map]) hL.1 (by simp [cv, List.map_reverse]) (lv_room (by have := cat_le (ad := g_ad Γ) st; omega)) hd ⟨hf3, hf4⟩
theorem aw_callS {M' : mt_T} {idx : Nat} {vs st0 : List aV} (hd : decode (m_c M) pc = .ok (.invokestatic idx, 3)) (hm : mk_ok M') (hI : Cond.static (m_y M') ∈ tb_g) (hlk : Cond.methodLink (m_y M).cls idx (m_y M') ∈ tb_g) (hp : mp_n M' vs.length) (hr : rm_ok M M') (hst : st.length ≤ 4) (he : vs.reverse ++ st = st0) (k : cw Γ M' vs μ (fun r μ' => aw Γ M (pc + 3) ls (pu M' r st) μ' Q)) : aw Γ M pc ls st0 μ Q := by
  intro X hB hR H locs arr hH hS hL hl hw
  subst he
  have hw1 : ∀ v ∈ vs, liv v := fun v hv => hw v (List.mem_append_left _ (List.mem_reverse.mpr hv))
  have hw2 := fun v hv => hw v (List.mem_append_right _ hv)
  refine aw_run (M' := M') (vs := vs) (Qk := fun r μ' => aw Γ M (pc + 3) ls (pu M' r st) μ' Q) (a := (vs.map (cv (g_ad Γ))).toArray) (fun _ _ h => h) X hB hR hS hL hl hw2 ?_
  obtain ⟨p, e, R, s, m, args, below, meth, c, cells, slots, QQ⟩ := X
  have hcb := cb_of hB hm hlk hp hr
  obtain ⟨hx, hb, hml, hown, hvm, hf1, hf2, hf3, hf4, -⟩ := hB
  exact va_runS (Ts := []) (As := vs.map (cv (g_ad Γ))) ⟨hx, hb, hml, hown, fun w h => by cases h⟩ k ⟨hcb, hvm.2.1 _ hI args⟩ ⟨cw_blind, fun U hU hW => ⟨rfl, hw1, by rw [hU]; exact hH, ⟨by rw [hU]; exact hS.1, fun q h1 h2 => by rw [hU]; exact hS.2.1 q h1 h2, fun q hq => by cases hq⟩, vm_warm hW hvm⟩⟩ rfl (by rw [List.length_map]) hL.1 (by simp [List.map_reverse]) (lv_room (by have := cat_le (ad := g_ad Γ) st; omega)) hd ⟨hf3, hf4⟩
theorem aw_callSN {M' : mt_T} {idx : Nat} {host : String} {vs st0 : List aV} (hd : decode (m_c M) pc = .ok (.invokestatic idx, 3)) (hm : mk_ok M') (hI : Cond.static (m_y M') ∈ tb_g) (hlk : Cond.methodLinkNest (m_y M).cls idx (m_y M') host ∈ tb_n) (hp : mp_n M' vs.length) (hr : rm_ok M M') (hst : st.length ≤ 4) (he : vs.reverse ++ st = st0) (k : cw Γ M' vs μ (fun r μ' => aw Γ M (pc + 3) ls (pu M' r st) μ' Q)) : aw Γ M pc ls st0 μ Q := by
  intro X hB hR H locs arr hH hS hL hl hw
  subst he
  have hw1 : ∀ v ∈ vs, liv v := fun v hv => hw v (List.mem_append_left _ (List.mem_reverse.mpr hv))
  have hw2 := fun v hv => hw v (List.mem_append_right _ hv)
  refine aw_run (M' := M') (vs := vs) (Qk := fun r μ' => aw Γ M (pc + 3) ls (pu M' r st) μ' Q) (a := (vs.map (cv (g_ad Γ))).toArray) (fun _ _ h => h) X hB hR hS hL hl hw2 ?_
  obtain ⟨p, e, R, s, m, args, below, meth, c, cells, slots, QQ⟩ := X
  have hcb := cn_of hB hm hlk hp hr
  obtain ⟨hx, hb, hml, hown, hvm, hf1, hf2, hf3, hf4, -⟩ := hB
  exact va_runSN (Ts := []) (As := vs.map (cv (g_ad Γ))) ⟨hx, hb, hml, hown, fun w h => by cases h⟩ k ⟨hcb, hvm.2.1 _ hI args, trivial⟩ ⟨cw_blind, fun U hU hW => ⟨rfl, hw1, by rw [hU]; exact hH, ⟨by rw [hU]; exact hS.1, fun q h1 h2 => by rw [hU]; exact hS.2.1 q h1 h2, fun q hq => by cases hq⟩, vm_warm hW hvm⟩⟩ rfl (by rw [List.length_map]) hL.1 (by simp [List.map_reverse]) (lv_room (by have := cat_le (ad := g_ad Γ) st; omega)) hd ⟨hf3, hf4⟩
end AC
