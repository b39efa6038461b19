theorem oi_w2 : Cond.instanceMethod objectInit ∈ tb_g := tb_gm 87 (by decide +kernel) (by decide +kernel)
theorem oi_w3 : Cond.code objectInit ⟨#[0xb1]⟩ 1 none ∈ tb_g := tb_gm 88 (by decide +kernel) (by decide +kernel)
theorem bo_outer (c : ClassId) (N h0 : Nat) : ∀ i : Nat, Jvm.Free.Multi.outerC c N h0 i = arrV c N (fun j => if j < i then .ref (h0 + 1 + j) else .null)
  | 0 => by
    show ({ cls := c, slots := Array.replicate N .null, vm := .none } : Cell) = _
    rw [arrV_new]
    refine congrArg (arrV c N) (funext fun j => ?_)
    rw [if_neg (Nat.not_lt_zero j)]
  | i + 1 => by
    show (Jvm.Free.Multi.outerC c N h0 i).setSlot i (.ref (h0 + 1 + i)) = _
    rw [bo_outer c N h0 i, arrV_store]
    refine congrArg (arrV c N) (funext fun j => ?_)
    by_cases e : j = i
    · subst e
      simp [updV]
    · by_cases h : j < i
      · simp [updV, e, h, Nat.lt_succ_of_lt h]
      · simp [updV, e, h, show ¬ j < i + 1 by omega]
def mna (lk : lkT) : lkT := fun K i s => if K = 28 ∧ i = 0 then (if s < 10 then aR 29 s else aN) else if K = 29 then aI 0 else lk K i s
theorem mna_1 {lk : lkT} {s : Nat} (h : s < 10) : mna lk 28 0 s = aR 29 s := by simp [mna, h]
theorem mna_2 {lk : lkT} {s : Nat} (h : ¬ s < 10) : mna lk 28 0 s = aN := by simp [mna, h]
theorem mna_3 {lk : lkT} {i s : Nat} : mna lk 29 i s = aI 0 := by simp [mna]
theorem mna_4 {lk : lkT} {K i s : Nat} (h1 : ¬ (K = 28 ∧ i = 0)) (h2 : K ≠ 29) : mna lk K i s = lk K i s := by unfold mna; rw [if_neg h1, if_neg h2]
section BC
variable {Γ : cx_T} {M : mt_T} {mc ms pc n cells slots : Nat} {ls ls' st : List aV} {lk : lkT} {Q : Nat → lkT → Prop}
theorem bw_objInit {idx K i : Nat} (hd : decode (m_c M) pc = .ok (.invokespecial idx, 3)) (hw1 : Cond.methodLink (m_y M).cls idx objectInit ∈ tb_g) (hf : 1 ≤ m_f M) (hm : 20 ≤ m_w M) (hst : st.length ≤ 4) (k : bw Γ M mc ms (pc + 3) ls st n lk cells slots Q) : bw Γ M mc ms pc ls (aR K i :: st) n lk cells slots Q := by
  intro X hB hR H locs arr hH hS hL
  have hk' := k X hB hR H locs arr hH hS hL
  obtain ⟨p, e, R, s, m, args, below, meth, c, QQ⟩ := X
  obtain ⟨hx, hb, hml, hown, hvb, hfr, hlo, -⟩ := hB
  obtain ⟨hvm, had, -⟩ := id hvb
  have hcat := cat_le (ad := g_ad Γ) st
  exact W.objInit hx hb hown (hvm.2.1 _ hw1 args) (hvm.2.1 _ oi_w2 args) (hvm.2.1 _ oi_w3 args) rfl (by rw [hml]; exact hL.1) rfl hd (Nat.le_trans hf hfr) (by show 2 * 0 + _ + 12 ≤ _; omega) hk'
/-- new int[10][80] -/
theorem bw_mna {idx : Nat} (hd : decode (m_c M) pc = .ok (.multianewarray idx 2, 4)) (hw1 : Cond.classLink (m_y M).cls idx "[[I" ∈ tb_g) (hw2 : Cond.arrayClass .int ∈ tb_g) (hn : n = 243) (hc : cells + 11 ≤ mc) (hs : slots + 810 ≤ ms)
    (k : bw Γ M mc ms (pc + 4) ls (aR 28 0 :: st) 254 (mna lk) (cells + 11) (slots + 810) Q) : bw Γ M mc ms pc ls (aI 80 :: aI 10 :: st) n lk cells slots Q := by
  intro X hB hR H locs arr hH hS hL
  have hk' := fun H' h1 h2 => k X hB hR H' locs arr h1 h2 hL
  obtain ⟨p, e, R, s, m, args, below, meth, c, QQ⟩ := X
  obtain ⟨hx, hb, hml, hown, hvb, -, -, hR1, hR2, -⟩ := hB
  obtain ⟨hvm, had, -, -, hao⟩ := id hvb
  subst hn
  intro T hT Xs
  obtain ⟨vm₁, cA, comp, -, fA, fC, hO, -, X', step⟩ := Xs.multianewarray2F hx hown (ty := .int) (hvm.2.1 _ hw1 args) (Jvm.Stand.arrayOver_alikeB (Vm.Alike.refl s.vm) hao) (hvm.2.1 _ hw2 args) (g := F0 m pc arr ((aI 80 :: aI 10 :: st).map (cv (g_ad Γ)))) rfl (by rw [hb]; exact hd) (n := 10) (k := 80) (rest := st.map (cv (g_ad Γ))) rfl (by decide) (by decide) (by decide) (by decide) (by decide) rfl rfl (by show cells + (1 + 10) ≤ R.cells; omega) (by show slots + (10 + 10 * 80) ≤ R.slots; omega)
  have t10 : (10 : Int32).toNatClampNeg = 10 := by decide
  have t80 : (80 : Int32).toNatClampNeg = 80 := by decide
  rw [t10, t80] at X' step
  have hcA : cA = g_cA Γ 28 := Option.some.inj (fA.symm.trans (hvm.2.2.2.2.1 28 _ 10 rfl).2)
  have hcB : comp = g_cA Γ 29 := Option.some.inj (fC.symm.trans (hvm.2.2.2.2.1 29 _ 80 rfl).2)
  subst hcA
  subst hcB
  generalize hF : Jvm.Free.Multi.fill (T.setVm vm₁) (g_cA Γ 28) (g_cA Γ 29) 10 80 (defaultValue .int) 10 = F at X' step
  have hTh : (T.setVm vm₁).heap = H := hT
  obtain ⟨f1, f2, -, -⟩ := Jvm.Free.Multi.fill_facts (T.setVm vm₁) (g_cA Γ 28) (g_cA Γ 29) 10 80 (defaultValue .int) 10
  rw [hF, hTh] at f1 f2
  have hold : ∀ x : Nat, x < H.size → F.heap[x]? = H[x]? := fun x hx => by
    have := Jvm.Free.Multi.fill_old (T.setVm vm₁) (g_cA Γ 28) (g_cA Γ 29) 10 80 (defaultValue .int) (a := x) (by rw [hTh]; exact hx) 10
    rw [hF, hTh] at this
    exact this
  have hrow : ∀ j : Nat, j < 10 → F.heap[H.size + 1 + j]? = some (arrV (g_cA Γ 29) 80 (fun _ => .int 0)) := fun j hj => by
    have := Jvm.Free.Multi.fill_inner (T.setVm vm₁) (g_cA Γ 28) (g_cA Γ 29) 10 80 (defaultValue .int) 10 j hj
    rw [hF, hTh] at this
    rw [this, ← arrV_new]
    rfl
  rw [bo_outer] at f2
  have a28 : g_ad Γ 28 0 = H.size := by rw [had 28 0 (by decide) (by decide), hH.1]; rfl
  have a29 : ∀ j, j < 10 → g_ad Γ 29 j = H.size + 1 + j := fun j hj => by rw [had 29 j (by decide) hj, hH.1]; show _ + (244 + j) = _; omega
  obtain ⟨t, a1, b1⟩ := hk' F.heap ⟨by rw [f1, hH.1], fun K' i' hk1 hi1 ho1 => by
    by_cases e28 : K' = 28 ∧ i' = 0
    · obtain ⟨rfl, rfl⟩ := e28
      show F.heap[g_ad Γ 28 0]? = _
      rw [a28, f2]
      refine congrArg some (congrArg (arrV (g_cA Γ 28) 10) (funext fun q => ?_))
      by_cases hq : q < 10
      · rw [if_pos hq, mna_1 hq]
        show _ = Value.ref (g_ad Γ 29 q)
        rw [a29 q hq]
      · rw [if_neg hq, mna_2 hq]
        rfl
    · by_cases e29 : K' = 29
      · subst e29
        show F.heap[g_ad Γ 29 i']? = _
        rw [a29 i' hi1, hrow i' hi1]
        refine congrArg some (congrArg (arrV (g_cA Γ 29) 80) (funext fun q => ?_))
        rw [mna_3]
        rfl
      · have hlt : off K' i' < 243 := by
          rcases Nat.lt_or_ge (off K' i') 243 with q | q
          · exact q
          · exfalso
            by_cases e0 : off K' i' = 243
            · exact e28 (off_inj hk1 hi1 (show kd 28 ≠ none by decide) (show 0 < kn 28 by decide) e0)
            · exact e29 (off_inj hk1 hi1 (show kd 29 ≠ none by decide) (show off K' i' - 244 < kn 29 by show _ < 10; omega) (show off K' i' = 244 + (off K' i' - 244) by omega)).1
        refine rb_kept (hH.2 K' i' hk1 hi1 hlt) (hold _ (by rw [had K' i' hk1 hi1, hH.1]; omega)) (fun s => mna_4 e28 e29)⟩ ⟨Nat.le_trans hS.1 (by rw [f1]; omega), fun q h1 h2 => (hold q (Nat.lt_of_lt_of_le h1 hS.1)).trans (hS.2.1 q h1 h2), hS.2.2⟩ F rfl X'
  refine ⟨t, step t ?_, b1⟩
  have e : T.heap.size = H.size := by rw [hT]
  rw [e, ← a28]
  exact a1
/-! calls of constructors, and of Arrays.fill -/
theorem cb_blind {vs : List aV} : FrameBlind (cb_P Γ vs n lk) := fun a U g mk h => ⟨h.1, h.2.1, h.2.2.1, vmb_warm (s := U) (U := U.calling g mk a) (State.WarmedH.refl U) h.2.2.2⟩
theorem bw_run {M' : mt_T} {mc' ms' : Nat} {st0 : List aV} {a : Array Value} {Qk : Nat → lkT → Prop} (hk : ∀ n' lk', Qk n' lk' → bw Γ M mc ms (pc + 3) ls st n' lk' (cells + mc') (slots + ms') Q) (X : bx_T) (hB : in_C Γ M mc ms X) (hR : rt_C Γ M mc ms X Q) {H : Heap} {locs : List Loc} {arr : Array Slot} (hS : va_S (g_A Γ) (g_H0 Γ) H locs) (hL : lv_has arr (m_L M) (lo_l (g_ad Γ) ls))
    (hr : match X with | (p, e, R, s, m, args, below, meth, c, QQ) => va_Run p (g_l Γ) e R s m args below meth c H locs cells slots mc' ms' (F0 m pc arr (st0.map (cv (g_ad Γ)))) (st.map (cv (g_ad Γ))) (cb_Q Γ Qk a) (g_A Γ)) : wb Γ X H locs cells slots pc arr (st0.map (cv (g_ad Γ))) := by
  have hk' := fun n' lk' h H' locs' h1 h2 => hk n' lk' h X hB hR H' locs' arr h1 h2 hL
  obtain ⟨p, e, R, s, m, args, below, meth, c, QQ⟩ := X
  intro T hT Xs
  obtain ⟨v, st₀, t, T', L, h0, X', hL', e1, e2, ⟨n', lk', ho, hrp, hva, hq⟩, stp⟩ := hr T hT Xs
  have hS1 : va_S (g_A Γ) (g_H0 Γ) T'.heap (locs ++ L) := ⟨by rw [e1]; exact hva.1, fun q h1 h2 => by rw [e1]; exact hva.2.1 q h1 h2, fun q hq => by
    rcases List.mem_append.mp hq with h | h
    · exact hS.2.2 q h
    · exact hL' q h⟩
  obtain ⟨t2, a1, b1⟩ := hk' n' lk' hq T'.heap (locs ++ L) (by rw [e1]; exact hrp) hS1 T' rfl X'
  refine ⟨t2, stp t2 ?_, b1⟩
  cases ho
  exact a1
theorem cbB_of {p : Program} {e : Env} {R : Room} {s : State} {m : MethodId} {args : Array Value} {below : List Frame} {meth : Method} {c : Code} {QQ : State → Prop} (hB : in_C Γ M mc ms (p, e, R, s, m, args, below, meth, c, QQ)) {M' : mt_T} {idx k mc' ms' : Nat} (hm : mk_ok M') (hl : Cond.methodLink (m_y M).cls idx (m_y M') ∈ tb_g) (hp : mp_n M' k) (hr : rm_ok M M') :
    CallB R s args (m_y M).cls idx (m_y M') (m_c M') (m_L M') (m_r M') [.code (m_y M') (m_c M') (m_L M') (m_r M')] { frames := m_f M', cells := mc', slots := ms', locals := m_w M' } mc' ms' k := by
  obtain ⟨hx, hb, hml, hown, ⟨hvm, -⟩, hf, hw, -⟩ := hB
  refine ⟨rfl, rfl, Nat.le_trans hr.1 hf, Nat.le_trans hr.2 hw, fun w hw' a' U hW => ?_, List.mem_cons_self, hvm.2.1 _ hm.1 args, hvm.2.1 _ hm.2.1 args, hm.2.2, fun sig h => ?_, hvm.2.1 _ hl args⟩
  · rw [List.mem_singleton.mp hw']
    exact (vm_warm hW hvm).2.1 _ hm.1 a'
  · unfold mp_n at hp
    rw [h] at hp
    exact (Option.some.inj hp).symm
theorem cbN_of {p : Program} {e : Env} {R : Room} {s : State} {m : MethodId} {args : Array Value} {below : List Frame} {meth : Method} {c : Code} {QQ : State → Prop} (hB : in_C Γ M mc ms (p, e, R, s, m, args, below, meth, c, QQ)) {M' : mt_T} {idx k mc' ms' : Nat} {host : String} (hm : mk_ok M') (hl : Cond.methodLinkNest (m_y M).cls idx (m_y M') host ∈ tb_n) (hp : mp_n M' k) (hr : rm_ok M M') :
    va_CN R s args (m_y M).cls idx (m_y M') host (m_c M') (m_L M') (m_r M') [.code (m_y M') (m_c M') (m_L M') (m_r M')] { frames := m_f M', cells := mc', slots := ms', locals := m_w M' } mc' ms' k := by
  obtain ⟨hx, hb, hml, hown, ⟨hvm, -⟩, hf, hw, -⟩ := hB
  refine ⟨⟨rfl, rfl, Nat.le_trans hr.1 hf, Nat.le_trans hr.2 hw, fun w hw' a' U hW => ?_, List.mem_cons_self⟩, hvm.2.1 _ hm.1 args, hvm.2.1 _ hm.2.1 args, hm.2.2, fun sig h => ?_, va_Nw.use rfl (hvm.2.2.1 _ hl)⟩
  · rw [List.mem_singleton.mp hw']
    exact (vm_warm hW hvm).2.1 _ hm.1 a'
  · unfold mp_n at hp
    rw [h] at hp
    exact (Option.some.inj hp).symm
theorem bw_callI {M' : mt_T} {mc' ms' idx K i : Nat} (hd : decode (m_c M) pc = .ok (.invokespecial idx, 3)) (hm : mk_ok M') (hI : Cond.instanceMethod (m_y M') ∈ tb_g) (hlk : Cond.methodLink (m_y M).cls idx (m_y M') ∈ tb_g) (hp : mp_n M' 0) (hnm : (m_y M').name = "<init>") (hrt : m_r M' = none) (hr : rm_ok M M') (hst : st.length ≤ 4) (hc : cells + mc' ≤ mc) (hs : slots + ms' ≤ ms) (k : cb Γ M' mc' ms' [aR K i] n lk (fun n' lk' => bw Γ M mc ms (pc + 3) ls st n' lk' (cells + mc') (slots + ms') Q)) : bw Γ M mc ms pc ls (aR K i :: st) n lk cells slots Q := by
  intro X hB hR H locs arr hH hS hL
  refine bw_run (M' := M') (Qk := fun n' lk' => bw Γ M mc ms (pc + 3) ls st n' lk' (cells + mc') (slots + ms') Q) (a := (Value.ref (g_ad Γ K i) :: ([] : List Value)).toArray) (fun _ _ h => h) X hB hR hS hL ?_
  obtain ⟨p, e, R, s, m, args, below, meth, c, QQ⟩ := X
  have hcb := cbB_of (mc' := mc') (ms' := ms') hB hm hlk hp hr
  rw [hrt] at hcb
  have k : cb Γ M' mc' ms' [aR K i] n lk (fun n' lk' => bw Γ M mc ms (pc + 3) ls st n' lk' (cells + mc') (slots + ms') Q) := k
  unfold cb at k
  rw [hrt] at k
  obtain ⟨hx, hb, hml, hown, hvb, hf1, hf2, hR1, hR2, -⟩ := hB
  exact va_runI (Ts := []) (As := []) ⟨hx, hb, hml, hown, fun w h => by cases h⟩ k ⟨hcb, hnm, hvb.1.2.1 _ hI args⟩ ⟨cb_blind, fun U hU hW => ⟨by simp [cv], by rw [hU]; exact hH, ⟨by rw [hU]; exact hS.1, fun q h1 h2 => by rw [hU]; exact hS.2.1 q h1 h2, fun q hq => by cases hq⟩, vmb_warm hW hvb⟩⟩ rfl rfl hL.1 (by simp [cv]) (lv_room (by have := cat_le (ad := g_ad Γ) st; omega)) hd ⟨Nat.le_trans hc hR1, Nat.le_trans hs hR2⟩
theorem bw_callIN {M' : mt_T} {mc' ms' idx K i : Nat} {host : String} (hd : decode (m_c M) pc = .ok (.invokespecial idx, 3)) (hm : mk_ok M') (hI : Cond.instanceMethod (m_y M') ∈ tb_g) (hlk : Cond.methodLinkNest (m_y M).cls idx (m_y M') host ∈ tb_n) (hp : mp_n M' 0) (hnm : (m_y M').name = "<init>") (hrt : m_r M' = none) (hr : rm_ok M M') (hst : st.length ≤ 4) (hc : cells + mc' ≤ mc) (hs : slots + ms' ≤ ms) (k : cb Γ M' mc' ms' [aR K i] n lk (fun n' lk' => bw Γ M mc ms (pc + 3) ls st n' lk' (cells + mc') (slots + ms') Q)) : bw Γ M mc ms pc ls (aR K i :: st) n lk cells slots Q := by
  intro X hB hR H locs arr hH hS hL
  refine bw_run (M' := M') (Qk := fun n' lk' => bw Γ M mc ms (pc + 3) ls st n' lk' (cells + mc') (slots + ms') Q) (a := (Value.ref (g_ad Γ K i) :: ([] : List Value)).toArray) (fun _ _ h => h) X hB hR hS hL ?_
  obtain ⟨p, e, R, s, m, args, below, meth, c, QQ⟩ := X
  have hcb := cbN_of (mc' := mc') (ms' := ms') hB hm hlk hp hr
  rw [hrt] at hcb
  have k : cb Γ M' mc' ms' [aR K i] n lk (fun n' lk' => bw Γ M mc ms (pc + 3) ls st n' lk' (cells + mc') (slots + ms') Q) := k
  unfold cb at k
  rw [hrt] at k
  obtain ⟨hx, hb, hml, hown, hvb, hf1, hf2, hR1, hR2, -⟩ := hB
  exact va_runIN (Ts := []) (As := []) ⟨hx, hb, hml, hown, fun w h => by cases h⟩ k ⟨hcb, hnm, hvb.1.2.1 _ hI args⟩ ⟨cb_blind, fun U hU hW => ⟨by simp [cv], by rw [hU]; exact hH, ⟨by rw [hU]; exact hS.1, fun q h1 h2 => by rw [hU]; exact hS.2.1 q h1 h2, fun q hq => by cases hq⟩, vmb_warm hW hvb⟩⟩ rfl rfl hL.1 (by simp [cv]) (lv_room (by have := cat_le (ad := g_ad Γ) st; omega)) hd ⟨Nat.le_trans hc hR1, Nat.le_trans hs hR2⟩
theorem bw_callS {M' : mt_T} {idx : Nat} {v w : aV} (hd : decode (m_c M) pc = .ok (.invokestatic idx, 3)) (hm : mk_ok M') (hI : Cond.static (m_y M') ∈ tb_g) (hlk : Cond.methodLink (m_y M).cls idx (m_y M') ∈ tb_g) (hp : mp_n M' 2) (hr : rm_ok M M') (hst : st.length ≤ 4) (hc : cells ≤ mc) (hs : slots ≤ ms) (k : cb Γ M' 0 0 [v, w] n lk (fun n' lk' => bw Γ M mc ms (pc + 3) ls st n' lk' cells slots Q)) : bw Γ M mc ms pc ls (w :: v :: st) n lk cells slots Q := by
  intro X hB hR H locs arr hH hS hL
  refine bw_run (M' := M') (mc' := 0) (ms' := 0) (Qk := fun n' lk' => bw Γ M mc ms (pc + 3) ls st n' lk' cells slots Q) (a := [cv (g_ad Γ) v, cv (g_ad Γ) w].toArray) (fun _ _ h => h) X hB hR hS hL ?_
  obtain ⟨p, e, R, s, m, args, below, meth, c, QQ⟩ := X
  have hcb := cbB_of (mc' := 0) (ms' := 0) hB hm hlk hp hr
  obtain ⟨hx, hb, hml, hown, hvb, hf1, hf2, hR1, hR2, -⟩ := hB
  exact va_runS (Ts := []) (As := [cv (g_ad Γ) v, cv (g_ad Γ) w]) ⟨hx, hb, hml, hown, fun w h => by cases h⟩ k ⟨hcb, hvb.1.2.1 _ hI args⟩ ⟨cb_blind, fun U hU hW => ⟨rfl, by rw [hU]; exact hH, ⟨by rw [hU]; exact hS.1, fun q h1 h2 => by rw [hU]; exact hS.2.1 q h1 h2, fun q hq => by cases hq⟩, vmb_warm hW hvb⟩⟩ rfl rfl hL.1 (by simp) (lv_room (by have := cat_le (ad := g_ad Γ) st; omega)) hd ⟨Nat.le_trans hc hR1, Nat.le_trans hs hR2⟩
theorem cb_ofU {vs : List aV} (hpl : plainName (m_y M).cls = true ∨ plainFor (m_y M) = true) (hrt : m_r M = none) (hc : vs.all isC1 = true) (hn : vs.length ≤ m_L M) (he : vs ++ List.replicate (m_L M - vs.length) aX = ls) (h : bw Γ M mc ms 0 ls [] n lk 0 0 Q) (hnl : (m_y M).name ≠ "law" := by decide) : cb Γ M mc ms vs n lk Q := by
  unfold cb
  have key : ∀ p e s m args below meth c s₁, BodyLoose p (g_l Γ) (m_y M) (headSpec [.code (m_y M) (m_c M) (m_L M) (m_r M)] { frames := m_f M, cells := mc, slots := ms, locals := m_w M }) (m_c M) (m_L M) (m_r M) e s m args below meth c s₁ → c.maxLocals = m_L M → cb_P Γ vs n lk args s → W p (g_l Γ) e (headSpec [.code (m_y M) (m_c M) (m_L M) (m_r M)] { frames := m_f M, cells := mc, slots := ms, locals := m_w M }).room s m args below meth c s.heap [] 0 0 (MQ below (cb_Q Γ Q) args s mc ms (g_A Γ)) (entryFrame m args (m_L M)) := ?_
  · rcases hpl with hpl | hpl
    · exact Met.ofW (cc := m_c M) (maxL := m_L M) (ret := m_r M) hpl rfl key
    · exact va_MetF (cc := m_c M) (maxL := m_L M) (ret := m_r M) hpl rfl key
  intro p e s m args below meth c s₁ B hml hv
  obtain ⟨rfl, hH, hS, hvb⟩ := hv
  have hcat : ∀ v ∈ vs.map (cv (g_ad Γ)), v.category = 1 := fun v hv => by
    obtain ⟨w, hw, rfl⟩ := List.mem_map.mp hv
    exact isC1_cat (List.all_eq_true.mp hc w hw) _
  have hlen := lg_sl_len _ hcat
  rw [List.length_map] at hlen
  have hl := lv_entry (vs.map (cv (g_ad Γ))) (n := m_L M) (by rw [hlen]; exact hn)
  rw [lg_entry_eq]
  generalize (lg_sl (vs.map (cv (g_ad Γ))) ++ List.replicate (m_L M - (lg_sl (vs.map (cv (g_ad Γ)))).length) Slot.unset).toArray = arr at hl ⊢
  have hlocks := B.notSynchronized
  refine h (p, e, _, s, m, _, below, meth, c, _) ⟨B.exec, B.bytes, hml, findClass_of_methodNamed B.named, hvb, Nat.le_refl _, Nat.le_refl _, Nat.le_refl _, Nat.le_refl _, fun hi => (name_of_methodNamed B.named B.method).1.trans hi⟩ ?_ s.heap [] arr hH hS ⟨hl.1, hl.2.1, fun q hq => ?_⟩
  · intro n' lk' H' locs' pc' arr' hq hH' hS' hd
    have hd : decode (m_c M) pc' = .ok (.return_, 1) := (hd.resolve_right (fun q => hnl q.2.1)).1
    exact W.vret B.exec B.bytes (B.returns.trans hrt) (fun t ht _ => ⟨n', lk', rfl, by rw [ht]; exact hH', ⟨by rw [ht]; exact hS'.1, fun q h1 h2 => by rw [ht]; exact hS'.2.1 q h1 h2, fun q hq => by cases hq⟩, hq⟩) hS'.2.2 hd hlocks
  · obtain ⟨v, h1, h2, h3⟩ := lo_mem.mp hq
    subst he
    by_cases hi : q.1 < vs.length
    · rw [List.getElem?_append_left hi] at h1
      have := lv_args_in (vs.map (cv (g_ad Γ))) 0 hcat q.1 (cv (g_ad Γ) v) (by rw [List.getElem?_map, h1]; rfl)
      rw [Nat.zero_add] at this
      have h4 := hl.2.2 _ this
      rw [h3]
      exact h4
    · rw [List.getElem?_append_right (by omega)] at h1
      have := (List.mem_replicate.mp (List.mem_of_getElem? h1)).2
      exact absurd this h2
end BC
