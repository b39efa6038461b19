theorem arrV_cong {c : ClassId} {n : Nat} {f g : Nat → Value} (h : ∀ j, j < n → f j = g j) : arrV c n f = arrV c n g := by
  unfold arrV
  congr 1
  congr 1
  funext j
  exact h j.val j.isLt
theorem szk_obj {K ci : Nat} {r : vw_C} (hk : kd K = some (.inl ci)) (hr : vwCl[ci]? = some r) : szk K = r.2.2 := by
  unfold szk
  rw [hk]
  dsimp only
  rw [hr]
theorem szk_arr {K n : Nat} {ty : FieldType} (hk : kd K = some (.inr (ty, n))) : szk K = n := by
  unfold szk
  rw [hk]
/-- the world stands as it was told -/
theorem rb_rp {Γ : cx_T} {lk : lkT} {H : Heap} (hz : g_sz Γ = (g_H0 Γ).size + 292) (h : rb Γ 292 lk H) (hA : AG 292 lk (fun _ => False)) : rp_H Γ mu0 H := by
  refine ⟨h.1.trans hz.symm, fun K i hi => ?_⟩
  cases hk : kd K with
  | none => unfold rp_c; rw [hk]; trivial
  | some y =>
    have hkn : kd K ≠ none := by rw [hk]; simp
    obtain ⟨ho, hn⟩ := off_nm hkn hi
    have e : ∀ s, s < szk K → lk K i s = look mu0 K i s := fun s hs => by
      have := hA (off K i) ho (fun q => q) s (by rw [hn]; exact hs)
      rw [hn] at this
      exact this
    have h0 := h.2 K i hkn hi ho
    unfold rb_c at h0
    unfold rp_c
    rw [hk] at h0 ⊢
    cases y with
    | inl ci =>
      obtain ⟨r, h1, h2⟩ := h0
      exact ⟨r, h1, h2.to (fun s hs => by rw [e s (by rw [szk_obj hk h1]; exact hs)])⟩
    | inr y =>
      obtain ⟨ty, n⟩ := y
      show H[g_ad Γ K i]? = _
      rw [show H[g_ad Γ K i]? = some (arrV (g_cA Γ K) n (fun j => cv (g_ad Γ) (lk K i j))) from h0]
      exact congrArg some (arrV_cong (fun j hj => by rw [e j (by rw [szk_arr hk]; exact hj)]))
def idS : List Nat := [55, 61, 63, 65, 67, 69, 96, 101, 103]
def idM : List Nat := [146, 148, 150, 152, 154, 156, 138, 140, 132]
abbrev tmS (i : Nat) : Term := .string "ClickingDisk$FormatText" (idS.getD i 0)
abbrev tmM (i : Nat) : Term := .string "ClickingDiskModel" (idM.getD i 0)
abbrev nrw : List Cond := flatC (Jvm.Cond.and given_1 narrow_1)
theorem ns_1 : ∀ i, i < 9 → Cond.exactly (tmS i) "java/lang/String" ∈ nrw := by decide +kernel
theorem ns_2 : ∀ i, i < 9 → Cond.eq (.field (tmS i) "java/lang/String" "coder" "B") (.int 0) ∈ nrw := by decide +kernel
theorem ns_3 : ∀ i, i < 9 → Cond.arrayOf (.field (tmS i) "java/lang/String" "value" "[B") .byte ∈ nrw := by decide +kernel
theorem ns_4 : ∀ i, i < 9 → Cond.eq (.length (.field (tmS i) "java/lang/String" "value" "[B")) (.int (Int32.ofNat (lenS.getD i 0))) ∈ nrw := by decide +kernel
theorem ns_5 : ∀ i, i < 9 → ∀ j, j < lenS.getD i 0 → Cond.eq (.elem (.field (tmS i) "java/lang/String" "value" "[B") (.int (Int32.ofNat j))) (.int ((bytS.getD i []).getD j 0)) ∈ nrw := by decide +kernel
theorem ns_6 : ∀ i, i < 9 → ∀ j, j < 9 → i ≠ j → (Cond.not (Cond.eq (tmS i) (tmS j)) ∈ nrw ∨ Cond.not (Cond.eq (tmS j) (tmS i)) ∈ nrw) := by decide +kernel
theorem ns_7 : ∀ i, i < 9 → Cond.eq (tmS i) (tmM i) ∈ nrw := by decide +kernel
theorem ns_8 : Cond.eq (.static "java/lang/String" "COMPACT_STRINGS" "Z") (.int 1) ∈ nrw := by decide +kernel
theorem ns_9 : Cond.isRef (.static "jdk/internal/util/Preconditions" "SIOOBE_FORMATTER" "Ljava/util/function/BiFunction;") ∈ nrw := by decide +kernel
theorem nt_1 : Cond.laysStatic "java/lang/String" "COMPACT_STRINGS" "Z" ∈ lw_tbl := by decide +kernel
theorem nt_2 : Cond.laysStatic "jdk/internal/util/Preconditions" "SIOOBE_FORMATTER" "Ljava/util/function/BiFunction;" ∈ lw_tbl := by decide +kernel
theorem nt_3 : Cond.initialized "java/lang/String" ∈ lw_tbl := by decide +kernel
theorem nt_4 : Cond.initialized "jdk/internal/util/Preconditions" ∈ lw_tbl := by decide +kernel
theorem nt_5 : ∀ q ∈ st_tab, Cond.stringRef q.1 q.2.1 q.2.2.1 ∈ lw_tbl := by decide +kernel
theorem nt_6 : ∀ q ∈ st_tab, q.2.2.2 < 9 ∧ ((q.1 = "ClickingDisk$FormatText" ∧ q.2.1 = idS.getD q.2.2.2 0) ∨ (q.1 = "ClickingDiskModel" ∧ q.2.1 = idM.getD q.2.2.2 0)) := by decide +kernel
theorem nt_7 : Cond.arrayOver (.object RX7) ∈ lw_tbl := by decide +kernel
theorem nt_8 : Cond.arrayOver (.object RX9) ∈ lw_tbl := by decide +kernel
theorem nt_9 : Cond.arrayOver (.array .int) ∈ lw_tbl := by decide +kernel
theorem kd_ty {K n : Nat} {ty : FieldType} (h : kd K = some (.inr (ty, n))) : ty = .int ∨ ty = .byte ∨ ty = .boolean ∨ ty = .object RX7 ∨ ty = .object RX9 ∨ ty = .array .int := by
  unfold kd at h
  split at h <;> cases h <;> simp
theorem st_arr {s : State} {args : Array Value} (hts : ∀ w ∈ lw_tbl, w.before args s = true) (ty : FieldType) (h : ty = .int ∨ ty = .byte ∨ ty = .boolean ∨ ty = .object RX7 ∨ ty = .object RX9 ∨ ty = .array .int) : ∃ cA : ClassId, ArrOfT s cA ty ∧ va_RA s cA ty := by
  rcases h with rfl | rfl | rfl | rfl | rfl | rfl
  · obtain ⟨c, k, comp, h1, h2, h3⟩ := Cond.arrayClass_spec (hts _ (List.mem_filter.mp ac_int).1)
    exact ⟨c, fun n z => ⟨fun k h => (by cases h), k, h2, comp, h3⟩, h1⟩
  · obtain ⟨c, k, comp, h1, h2, h3⟩ := Cond.arrayClass_spec (hts _ (List.mem_filter.mp ac_byte).1)
    exact ⟨c, fun n z => ⟨fun k h => (by cases h), k, h2, comp, h3⟩, h1⟩
  · obtain ⟨c, k, comp, h1, h2, h3⟩ := Cond.arrayClass_spec (hts _ (List.mem_filter.mp ac_boolean).1)
    exact ⟨c, fun n z => ⟨fun k h => (by cases h), k, h2, comp, h3⟩, h1⟩
  · obtain ⟨comp, c, k, h1, -, h3, h4, h5⟩ := Cond.arrayOver_spec (hts _ nt_7)
    exact ⟨c, fun n z => ⟨fun k h => (by cases h), k, h3, comp, h4⟩, k, comp, h3, h4, h1, h5⟩
  · obtain ⟨comp, c, k, h1, -, h3, h4, h5⟩ := Cond.arrayOver_spec (hts _ nt_8)
    exact ⟨c, fun n z => ⟨fun k h => (by cases h), k, h3, comp, h4⟩, k, comp, h3, h4, h1, h5⟩
  · obtain ⟨comp, c, k, h1, -, h3, h4, h5⟩ := Jvm.Stand.arrayOver_specB (hts _ nt_9)
    exact ⟨c, fun n z => ⟨fun k h => (by cases h), k, h3, comp, h4⟩, h5⟩
theorem st_cls {s : State} {args : Array Value} (hts : ∀ w ∈ lw_tbl, w.before args s = true) (ci : Nat) : ∃ q0 : ClassId × (Nat → Nat), ∀ q : vw_C, vwCl[ci]? = some q → u_Kn s q.1 q.2.1 q.2.2 q0.1 q0.2 := by
  match ci with
  | 0 =>
    obtain ⟨c, i, h⟩ := u_known (C := RX0) (T := TX0) (N := 12) hts inX0 (hts _ (List.mem_filter.mp ni_RX0).1)
    exact ⟨(c, i), fun q hq => by cases hq; exact h⟩
  | 1 =>
    obtain ⟨c, i, h⟩ := u_known (C := RX1) (T := TX1) (N := 2) hts inX1 (hts _ (List.mem_filter.mp ni_RX1).1)
    exact ⟨(c, i), fun q hq => by cases hq; exact h⟩
  | 2 =>
    obtain ⟨c, i, h⟩ := u_known (C := RX2) (T := TX2) (N := 8) hts inX2 (hts _ (List.mem_filter.mp ni_RX2).1)
    exact ⟨(c, i), fun q hq => by cases hq; exact h⟩
  | 3 =>
    obtain ⟨c, i, h⟩ := u_known (C := RX3) (T := TX3) (N := 13) hts inX3 (hts _ (List.mem_filter.mp ni_RX3).1)
    exact ⟨(c, i), fun q hq => by cases hq; exact h⟩
  | 4 =>
    obtain ⟨c, i, h⟩ := u_known (C := RX4) (T := TX4) (N := 9) hts inX4 (hts _ (List.mem_filter.mp ni_RX4).1)
    exact ⟨(c, i), fun q hq => by cases hq; exact h⟩
  | 5 =>
    obtain ⟨c, i, h⟩ := u_known (C := RX5) (T := TX5) (N := 2) hts inX5 (hts _ (List.mem_filter.mp ni_RX5).1)
    exact ⟨(c, i), fun q hq => by cases hq; exact h⟩
  | 6 =>
    obtain ⟨c, i, h⟩ := u_known (C := RX6) (T := TX6) (N := 6) hts inX6 (hts _ (List.mem_filter.mp ni_RX6).1)
    exact ⟨(c, i), fun q hq => by cases hq; exact h⟩
  | 7 =>
    obtain ⟨c, i, h⟩ := u_known (C := RX7) (T := TX7) (N := 7) hts inX7 (hts _ (List.mem_filter.mp ni_RX7).1)
    exact ⟨(c, i), fun q hq => by cases hq; exact h⟩
  | 8 =>
    obtain ⟨c, i, h⟩ := u_known (C := RX8) (T := TX8) (N := 3) hts inX8 (hts _ (List.mem_filter.mp ni_RX8).1)
    exact ⟨(c, i), fun q hq => by cases hq; exact h⟩
  | 9 =>
    obtain ⟨c, i, h⟩ := u_known (C := RX9) (T := TX9) (N := 8) hts inX9 (hts _ (List.mem_filter.mp ni_RX9).1)
    exact ⟨(c, i), fun q hq => by cases hq; exact h⟩
  | 10 =>
    obtain ⟨c, i, h⟩ := u_known (C := RX10) (T := TX10) (N := 2) hts inX10 (hts _ (List.mem_filter.mp ni_RX10).1)
    exact ⟨(c, i), fun q hq => by cases hq; exact h⟩
  | 11 =>
    obtain ⟨c, i, h⟩ := u_known (C := RX11) (T := TX11) (N := 9) hts inX11 (hts _ (List.mem_filter.mp ni_RX11).1)
    exact ⟨(c, i), fun q hq => by cases hq; exact h⟩
  | 12 =>
    obtain ⟨c, i, h⟩ := u_known (C := RX12) (T := TX12) (N := 38) hts inX12 (hts _ (List.mem_filter.mp ni_RX12).1)
    exact ⟨(c, i), fun q hq => by cases hq; exact h⟩
  | n + 13 => exact ⟨(0, fun _ => 0), fun q hq => by simp [vwCl] at hq⟩
def adF (h : Nat) (adK adV : Nat → Nat) (b z : Nat) : Nat → Nat → Nat := fun K i => if K < 63 then h + off K i else if K = 63 then adK i else if K = 64 then adV i else if K = 65 then b else z
/-- the context at the law's start -/
theorem st_ctx {p : Program} {s : State} {m : MethodId} {meth : Method} {c : Code} (l : Launch) {b L : Nat} {xs : Nat → Int32} (C0 : lw_At p s m meth c b L xs) : ∃ Γ : cx_T, g_l Γ = l ∧ g_H0 Γ = s.heap ∧ g_sz Γ = s.heap.size + 292 ∧ g_ad Γ 65 0 = b ∧ g_b Γ = b ∧ g_L Γ = L ∧ vmb Γ s := by
  obtain ⟨hx, hb, hr, hml, hown, hts, hX, hbl, hlocks, hgv⟩ := id C0
  have hs := flat_of_before _ hgv
  have hA : ∀ a : Nat, a < s.heap.size → ¬ (fun q : Nat => s.heap.size ≤ q) a := fun a h => Nat.not_le.mpr h
  obtain ⟨adK, adV, hS, hev⟩ := vk_Sof (args := #[Value.ref b]) (s := s) (N := 9) (tm := tmS) (len := lenS) (byt := bytS) (A := fun q : Nat => s.heap.size ≤ q) (by decide) (fun i hi => hs _ (ns_1 i hi)) (fun i hi => hs _ (ns_2 i hi)) (fun i hi => hs _ (ns_3 i hi)) (fun i hi => hs _ (ns_4 i hi)) (fun i hi j hj => hs _ (ns_5 i hi j hj)) (fun i j hi hj h => (ns_6 i hi j hj h).imp (hs _) (hs _)) hA
  obtain ⟨dq, hdq⟩ := Classical.axiomOfChoice (st_cls hts)
  obtain ⟨cq, hcq⟩ := Classical.axiomOfChoice (show ∀ K : Nat, ∃ cA : ClassId, ∀ (ty : FieldType) (n : Nat), kd K = some (.inr (ty, n)) → ArrOfT s cA ty ∧ va_RA s cA ty from fun K => by
    cases hk : kd K with
    | none => exact ⟨0, fun ty n h => by cases h⟩
    | some y =>
      cases y with
      | inl ci => exact ⟨0, fun ty n h => by cases h⟩
      | inr y =>
        obtain ⟨ty, n⟩ := y
        obtain ⟨cA, h1⟩ := st_arr hts ty (kd_ty hk)
        exact ⟨cA, fun ty' n' h => by cases h; exact h1⟩)
  have hZ1 := va_Zof (hts _ nt_1) (hts _ nt_3) (va_eqi (hs _ ns_8)) hA
  have hZ2 := va_Zqof (hts _ nt_2) (hts _ nt_4) (hs _ ns_9) hA
  obtain ⟨z, hz⟩ : ∃ z : Nat, va_Z "jdk/internal/util/Preconditions" "SIOOBE_FORMATTER" "Ljava/util/function/BiFunction;" .null (fun q : Nat => s.heap.size ≤ q) s s.heap ∨ va_Z "jdk/internal/util/Preconditions" "SIOOBE_FORMATTER" "Ljava/util/function/BiFunction;" (.ref z) (fun q : Nat => s.heap.size ≤ q) s s.heap := by
    rcases hZ2 with h | ⟨t, h⟩
    · exact ⟨0, Or.inl h⟩
    · exact ⟨t, Or.inr h⟩
  have had : ∀ K i, kd K ≠ none → adF s.heap.size adK adV b z K i = s.heap.size + off K i := fun K i hk => if_pos (kd_lt hk)
  have hsel := State.WarmedH.refl s
  refine ⟨(l, fun k => (dq k).1, fun k => (dq k).2, cq, adF s.heap.size adK adV b z, s.heap, s.heap.size + 292, b, L, xs), rfl, rfl, rfl, rfl, rfl, rfl, ⟨⟨?_, ?_⟩, ?_, ?_, ?_, ?_, ?_, ?_, ?_, ?_, ?_⟩, ?_, ?_, ?_, ?_⟩
  · intro K i K' i' hk hk' hi hi' h
    have h : adF s.heap.size adK adV b z K i = adF s.heap.size adK adV b z K' i' := h
    rw [had K i hk, had K' i' hk'] at h
    exact off_inj hk hi hk' hi' (by omega)
  · intro K i hk hi
    show s.heap.size ≤ adF s.heap.size adK adV b z K i
    rw [had K i hk]
    omega
  · intro w hw a
    exact word_at hsel (good_of_word (List.mem_filter.mp hw).2) (hts w (List.mem_filter.mp hw).1)
  · intro w hw
    have h := hts w (List.mem_filter.mp hw).1
    have hn := (List.mem_filter.mp hw).2
    unfold is_nl at hn
    split at hn
    · exact va_Nw.of rfl h
    · cases hn
  · exact fun k q hq => hdq k q hq
  · exact fun K ty n hk => hcq K ty n hk
  · exact hS
  · intro q hq
    obtain ⟨h9, h⟩ := nt_6 q hq
    have hw := hts _ (nt_5 q hq)
    show vk_R q.1 q.2.1 q.2.2.1 (adK q.2.2.2) s
    rcases h with ⟨h1, h2⟩ | ⟨h1, h2⟩
    · refine vk_R.of hw ?_
      rw [h1, h2]
      exact hev _ h9
    · refine vk_R.of hw ?_
      rw [h1, h2]
      exact va_eqR (hs _ (ns_7 _ h9)) (hev _ h9)
  · exact ⟨hZ1, hz⟩
  · exact hX
  · exact hbl
  · exact fun K i hk hi => had K i hk
  · exact hts _ nt_7
  · exact hts _ nt_8
  · exact Jvm.Stand.arrayOver_alikeB (Vm.Alike.refl s.vm) (hts _ nt_9)
/-- both constructors -/
theorem st_walk {Γ : cx_T} : bw Γ M_L_law 292 20000 0 [aR 65 0, aX, aX, aX] [] 0 (fun _ _ _ => aX) 0 0 (fun n lk => n = 292 ∧ AG 292 lk (fun _ => False)) := by
  refine bw_new (K := 11) (i := 0) (ci := 11) dL_law_0 rfl cl_RL_7 ni_RX11 it_RX11 rfl (by decide) rfl (by decide) (by decide) (by decide) ?_
  refine bw_dup dL_law_3 ?_
  refine bw_callI (M' := M_X11_init) (mc' := 267) (ms' := 9434) dL_law_4 mk_X11_init mI_X11_init ml_RL_9 mp_X11_init rfl rfl rm_L_law__X11_init (Nat.le_of_ble_eq_true rfl) (by decide) (by decide) ?_
  refine ct_X11 (fun s => nw_eq) (fun l1 a1 => ?_)
  refine bw_astore_n (ls' := [aR 65 0, aR 11 0, aX, aX]) dL_law_7 (by decide) rfl rfl ?_
  refine bw_new (K := 12) (i := 0) (ci := 12) dL_law_8 rfl cl_RL_10 ni_RX12 it_RX12 rfl (by decide) rfl (by decide) (by decide) (by decide) ?_
  refine bw_dup dL_law_11 ?_
  refine bw_callI (M' := M_X12_init) (mc' := 23) (ms' := 9114) dL_law_12 mk_X12_init mI_X12_init ml_RL_12 mp_X12_init rfl rfl rm_L_law__X12_init (Nat.le_of_ble_eq_true rfl) (by decide) (by decide) ?_
  refine ct_X12 (X := fun _ => False) (fun s => nw_eq) (AG_nw (K := 12) (i := 0) a1 (by decide) rfl) (fun o ho => ho.elim) (fun l2 a2 _ => ?_)
  refine bw_astore_n (ls' := [aR 65 0, aR 11 0, aR 12 0, aX]) dL_law_15 (by decide) rfl rfl ?_
  refine bw_iconst (v := 0) dL_law_16 rfl ?_
  refine bw_istore_n (ls' := [aR 65 0, aR 11 0, aR 12 0, aI 0]) dL_law_17 (by decide) rfl rfl ?_
  exact bw_law rfl (by decide) (by decide) ⟨rfl, a2⟩
set_option maxHeartbeats 4000000 in
/-- the claim's walk, out of the loop's -/
theorem start_of (hlaw : ∀ Γ : cx_T, g_ad Γ 65 0 = g_b Γ → g_L Γ ≤ 3072 → aw Γ M_L_law 18 [aR 65 0, aR 11 0, aR 12 0, aI 0] [] mu0 (rI (fun x _ => x = 1))) {p : Program} {e : Env} {s : State} {m : MethodId} {below : List Frame} {meth : Method} {c : Code} (l : Launch) {b L : Nat} {xs : Nat → Int32} (hL : L ≤ 3072) (C0 : lw_At p s m meth c b L xs) : W p l e room_1 s m #[Value.ref b] below meth c s.heap [] 0 0 (lw_Z below #[Value.ref b] s) (entryFrame m ([Value.ref b] : List Value).toArray 4) := by
  obtain ⟨hx, hb, hr, hml, hown, hts, hX, hbl, hlocks, hgv⟩ := id C0
  obtain ⟨Γ, e1, e2, e3, e4, e5, e6, hvb⟩ := st_ctx l C0
  subst e1
  have hl := lv_entry ([.ref b]) (n := 4) (Nat.le_of_ble_eq_true rfl)
  rw [lg_entry_eq]
  generalize (lg_sl ([.ref b]) ++ List.replicate (4 - (lg_sl ([.ref b])).length) Slot.unset).toArray = arr at hl ⊢
  have hSs : va_S (g_A Γ) (g_H0 Γ) s.heap [] := by rw [e2]; exact va_S.rf
  refine st_walk (p, e, room_1, s, m, #[Value.ref b], below, meth, c, lw_Z below #[Value.ref b] s) ⟨hx, hb, hml, hown, hvb, Nat.le_refl _, Nat.le_refl _, by decide, by decide, fun h => absurd h (by decide)⟩ ?_ s.heap [] arr ⟨by rw [e2]; rfl, fun K i _ _ h => absurd h (Nat.not_lt_zero _)⟩ hSs ⟨hl.1, hl.2.1, fun q hq => ?_⟩
  · rintro n lk H locs pc arr1 ⟨rfl, hA⟩ hrb hS hcase
    obtain ⟨rfl, -, hlv⟩ := hcase.resolve_left (fun q => q.2 rfl)
    have hrp := rb_rp (by rw [e3, e2]) hrb hA
    refine hlaw Γ (e4.trans e5.symm) (by rw [e6]; exact hL) (p, e, room_1, s, m, #[Value.ref b], below, meth, c, 292, 20000, lw_Z below #[Value.ref b] s) ⟨hx, hb, hml, hown, hvb.1, Nat.le_refl _, Nat.le_refl _, by decide, by decide, hSs, by rw [e3]; omega, hr⟩ ?_ H locs arr1 hrp hS hlv ?_ (fun v hv => by cases hv)
    · rintro r μ hlr ⟨y, rfl, rfl⟩ H1 locs1 pc1 arr2 hH1 hS1
      refine ⟨fun hd x ty hxe hm hn => ?_, fun hd x hxe hm => absurd hm (by decide), fun hd o hxe hm => absurd hm (by decide), fun hd hxe hm => absurd hm (by decide)⟩
      cases hxe
      refine va_forget (fun q hq => ?_) (W.widen (k := 600000) (n := 7302250) (by decide) (by decide) (lw_ret hx hb hr hlocks hd))
      have := hS1.2.2 q hq
      unfold g_A at this
      rw [e2] at this
      exact this
    · intro v hv
      simp only [List.mem_cons, List.not_mem_nil, or_false] at hv
      rcases hv with rfl | rfl | rfl | rfl
      · exact Nat.zero_lt_one
      · exact Nat.zero_lt_one
      · exact Nat.zero_lt_one
      · trivial
  · obtain ⟨v, h1, h2, h3⟩ := lo_mem.mp hq
    have h4 := hl.2.2 (0, .ref b) List.mem_cons_self
    obtain ⟨k, z⟩ := q
    dsimp only at h1 h3 ⊢
    match k, h1 with
    | 0, h1 =>
      cases h1
      rw [h3]
      show arr[0]? = some (.val (.ref (g_ad Γ 65 0)))
      rw [e4]
      exact h4
    | 1, h1 => cases h1; exact absurd rfl h2
    | 2, h1 => cases h1; exact absurd rfl h2
    | 3, h1 => cases h1; exact absurd rfl h2
    | k + 4, h1 => simp at h1
