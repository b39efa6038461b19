theorem gw_lay (C : String) (T : u_T) (k : Nat) : goodWord (u_lay C T k) = true := by
  unfold u_lay
  split <;> rfl
theorem gw_ws {C : String} {T : u_T} {N : Nat} (h : ∀ w ∈ u_ws C T N, w ∈ lw_tbl) : ∀ w ∈ u_ws C T N, w ∈ tb_g := fun w hw => List.mem_filter.mpr ⟨h w hw, by
  obtain ⟨k, -, rfl⟩ := List.mem_map.mp hw
  exact gw_lay C T k⟩
def tyT (ci k : Nat) : FieldType := match ci with
  | 0 => tyX0 k | 1 => tyX1 k | 2 => tyX2 k | 3 => tyX3 k | 4 => tyX4 k | 5 => tyX5 k | 6 => tyX6 k | 7 => tyX7 k | 8 => tyX8 k | 9 => tyX9 k | 10 => tyX10 k | 11 => tyX11 k | _ => tyX12 k
theorem cls_ok : ∀ {ci : Nat} {r : vw_C}, vwCl[ci]? = some r → (∀ w ∈ u_ws r.1 r.2.1 r.2.2, w ∈ tb_g) ∧ (∀ k, k < r.2.2 → parseFieldDescriptor (r.2.1 k).2.2.1 = some (tyT ci k)) ∧ (∀ a, a < r.2.2 → ∀ b, b < r.2.2 → a ≠ b → (r.2.1 a).2.1 ≠ (r.2.1 b).2.1)
  | 0, r, h => by cases h; exact ⟨gw_ws inX0, tyX0_ok, nmX0⟩
  | 1, r, h => by cases h; exact ⟨gw_ws inX1, tyX1_ok, nmX1⟩
  | 2, r, h => by cases h; exact ⟨gw_ws inX2, tyX2_ok, nmX2⟩
  | 3, r, h => by cases h; exact ⟨gw_ws inX3, tyX3_ok, nmX3⟩
  | 4, r, h => by cases h; exact ⟨gw_ws inX4, tyX4_ok, nmX4⟩
  | 5, r, h => by cases h; exact ⟨gw_ws inX5, tyX5_ok, nmX5⟩
  | 6, r, h => by cases h; exact ⟨gw_ws inX6, tyX6_ok, nmX6⟩
  | 7, r, h => by cases h; exact ⟨gw_ws inX7, tyX7_ok, nmX7⟩
  | 8, r, h => by cases h; exact ⟨gw_ws inX8, tyX8_ok, nmX8⟩
  | 9, r, h => by cases h; exact ⟨gw_ws inX9, tyX9_ok, nmX9⟩
  | 10, r, h => by cases h; exact ⟨gw_ws inX10, tyX10_ok, nmX10⟩
  | 11, r, h => by cases h; exact ⟨gw_ws inX11, tyX11_ok, nmX11⟩
  | 12, r, h => by cases h; exact ⟨gw_ws inX12, tyX12_ok, nmX12⟩
  | n + 13, r, h => by simp [vwCl] at h
/-- a field of a class, as an entry of the pool of 'own' -/
def fk (own : String) (idx ci f : Nat) : Prop := ∃ r : vw_C, vwCl[ci]? = some r ∧ f < r.2.2 ∧ Cond.fieldLink own idx (r.2.1 f).1 (r.2.1 f).2.1 (r.2.1 f).2.2.1 ∈ tb_g
theorem cls_N : ∀ {ci : Nat} {r : vw_C}, vwCl[ci]? = some r → r.2.2 ≤ 100 := by
  intro ci r h
  have h2 := List.mem_of_getElem? h
  have : ∀ q ∈ vwCl.map (fun q => q.2.2), q ≤ 100 := by decide
  exact this _ (List.mem_map.mpr ⟨r, h2, rfl⟩)
section AH
variable {Γ : cx_T} {M : mt_T} {pc : Nat} {ls ls' st : List aV} {μ : mH} {Q : aV → mH → Prop}
theorem aw_get {K i ci f idx : Nat} {v : aV} (hd : decode (m_c M) pc = .ok (.getfield idx, 3)) (hk : kd K = some (.inl ci)) (hf : fk (m_y M).cls idx ci f) (hv : look μ K i f = v) (k : aw Γ M (pc + 3) ls (v :: st) μ Q) : aw Γ M pc ls (aR K i :: st) μ Q := by
  intro X hB hR H locs arr hH hS hL hl hw
  have hi : i < kn K := (List.forall_mem_cons.mp hw).1
  have hk' := k X hB hR H locs arr hH hS hL hl (List.forall_mem_cons.mpr ⟨by rw [← hv]; exact liv_look hi (fun ty n e => by rw [hk] at e; cases e), (List.forall_mem_cons.mp hw).2⟩)
  obtain ⟨p, e, R, s, m, args, below, meth, c, cells, slots, QQ⟩ := X
  obtain ⟨hx, hb, hml, hown, hvm, -⟩ := hB
  obtain ⟨r, hr, hfN, hlink⟩ := hf
  obtain ⟨r', hr', cell, q1, q2, q3, q4⟩ := rp_obj hH hi hk
  cases hr.symm.trans hr'
  obtain ⟨hSl, hfc, kC, hkC, hkind⟩ := hvm.2.2.2.1 ci r hr
  obtain ⟨cf, kf, fi, f', hi', hsl⟩ := hSl f hfN
  refine W.getf hx hb hown (hvm.2.1 _ hlink args) hi' (u_facts hfc hkC (u_lays (fun w h => hvm.2.1 w h args) (cls_ok hr).1 hfN) hi').1 q1 (by rw [q3]; exact fun h => by cases h) (v := cv (g_ad Γ) v) ?_ rfl rfl hd hk'
  rw [hsl, q4 f hfN, ← hv]
theorem aw_put {K i ci f idx : Nat} {v : aV} {μ' : mH} (hd : decode (m_c M) pc = .ok (.putfield idx, 3)) (hk : kd K = some (.inl ci)) (hf : fk (m_y M).cls idx ci f) (hfin : ∀ r : vw_C, vwCl[ci]? = some r → (r.2.1 f).2.2.2 = false) (hn : ∀ ad, narrow (tyT ci f) (cv ad v) = cv ad v) (hfit : ∀ ad, fits (tyT ci f) (cv ad v) = true) (hl1 : ∀ K' i' s', ¬ (K' = K ∧ i' = i) → look μ' K' i' s' = look μ K' i' s') (hl2 : ∀ s', s' < 100 → look μ' K i s' = if s' = f then v else look μ K i s') (k : aw Γ M (pc + 3) ls st μ' Q) : aw Γ M pc ls (v :: aR K i :: st) μ Q := by
  intro X hB hR H locs arr hH hS hL hl hw
  have hi : i < kn K := (List.forall_mem_cons.mp (List.forall_mem_cons.mp hw).2).1
  have hk' := fun H' locs' h1 h2 => k X hB hR H' locs' arr h1 h2 hL hl (List.forall_mem_cons.mp (List.forall_mem_cons.mp hw).2).2
  obtain ⟨p, e, R, s, m, args, below, meth, c, cells, slots, QQ⟩ := X
  obtain ⟨hx, hb, hml, hown, hvm, -⟩ := hB
  obtain ⟨r, hr, hfN, hlink⟩ := hf
  obtain ⟨r', hr', cell, q1, q2, q3, q4⟩ := rp_obj hH hi hk
  cases hr.symm.trans hr'
  obtain ⟨hin, hty, hnm⟩ := cls_ok hr
  have hts : ∀ w ∈ tb_g, w.before args s = true := fun w h => hvm.2.1 w h args
  obtain ⟨hSl, hfc, kC, hkC, hkind⟩ := hvm.2.2.2.1 ci r hr
  obtain ⟨cf, kf, fi, f', hi', hsl⟩ := hSl f hfN
  have hlay := hts _ (hin _ (u_in_lay hfN))
  unfold u_lay at hlay
  rw [if_neg (by rw [hfin r hr]; decide)] at hlay
  have hst := (u_facts hfc hkC (u_lays hts hin hfN) hi').1
  have h6 := u_store hfc hkC hkind hlay hi' (hty f hfN) (hn (g_ad Γ)) (hfit (g_ad Γ))
  have hap : ∀ x y, x < r.2.2 → y < r.2.2 → x ≠ y → (g_dI Γ ci) x ≠ (g_dI Γ ci) y := by
    intro x y hx hy hne
    obtain ⟨_, _, _, fa, hia, ea⟩ := hSl x hx
    obtain ⟨_, _, _, fb, hib, eb⟩ := hSl y hy
    rw [← ea, ← eb]
    refine u_apart (u_lays hts hin hx) (u_lays hts hin hy) hia hib ?_
    rw [(State.fieldFound?_type hia (hty x hx)).1, (State.fieldFound?_type hib (hty y hy)).1]
    exact hnm x hx y hy hne
  refine W.putK hx hb (f := f') ⟨hown, hts _ hlink, ⟨_, _, _, hi'⟩, hst⟩ (by rw [q2]; exact h6) q1 q3 (by rw [hsl]; exact k2_hasslot (q4 f hfN)) rfl rfl hd fun H' e1 e2 e3 => ?_
  rw [hsl] at e1 ⊢
  refine hk' H' _ (rp_set hvm.1 hH hi (by rw [hk]; simp) e2 e3 ?_ hl1) (hS.put e2 e3 (hvm.1.2 K i (by rw [hk]; simp) hi))
  unfold rp_c
  rw [hk]
  refine ⟨r, hr, t_OB.to (V := updV (fun s => cv (g_ad Γ) (look μ K i s)) f (cv (g_ad Γ) v)) ⟨_, e1, q2, q3, t_set q4 hap hfN _⟩ (fun j hj => ?_)⟩
  unfold updV
  dsimp only
  rw [hl2 j (Nat.lt_of_lt_of_le hj (cls_N hr))]
  by_cases hjf : j = f
  · rw [if_pos hjf, if_pos hjf]
  · rw [if_neg hjf, if_neg hjf]
theorem aw_putI {K i ci f idx : Nat} {x : Int32} (hd : decode (m_c M) pc = .ok (.putfield idx, 3)) (hk : kd K = some (.inl ci)) (hf : fk (m_y M).cls idx ci f) (hfin : ∀ r : vw_C, vwCl[ci]? = some r → (r.2.1 f).2.2.2 = false) (ht : tyT ci f = .int) (hI : isI K f = true) (k : aw Γ M (pc + 3) ls st (sto μ K i f x) Q) : aw Γ M pc ls (aI x :: aR K i :: st) μ Q :=
  aw_put hd hk hf hfin (fun _ => by rw [ht]; rfl) (fun _ => by rw [ht]; rfl) (fun K' i' s' h => by rw [look_sto hI, if_neg (fun q => h ⟨q.1, q.2.1⟩)]) (fun s' _ => by rw [look_sto hI]; by_cases e : s' = f <;> simp [e]) k
theorem nar_z {x : Int32} (h : x = 0 ∨ x = 1) : narrow .boolean (.int x) = .int x ∧ fits .boolean (.int x) = true := by
  rcases h with rfl | rfl <;> exact ⟨by decide, by decide⟩
theorem aw_putZ {K i ci f idx : Nat} {x : Int32} (hd : decode (m_c M) pc = .ok (.putfield idx, 3)) (hk : kd K = some (.inl ci)) (hf : fk (m_y M).cls idx ci f) (hfin : ∀ r : vw_C, vwCl[ci]? = some r → (r.2.1 f).2.2.2 = false) (ht : tyT ci f = .boolean) (hI : isI K f = true) (hz : x = 0 ∨ x = 1) (k : aw Γ M (pc + 3) ls st (sto μ K i f x) Q) : aw Γ M pc ls (aI x :: aR K i :: st) μ Q :=
  aw_put hd hk hf hfin (fun _ => by rw [ht]; exact (nar_z hz).1) (fun _ => by rw [ht]; exact (nar_z hz).2) (fun K' i' s' h => by rw [look_sto hI, if_neg (fun q => h ⟨q.1, q.2.1⟩)]) (fun s' _ => by rw [look_sto hI]; by_cases e : s' = f <;> simp [e]) k
/-- the one long: value of the reference -/
theorem look_L {μ : mH} {i : Nat} {x : Int64} (K' i' s' : Nat) : look (sto (sto μ 12 i 5 (hiL x)) 12 i 100 (loL x)) K' i' s' = if K' = 12 ∧ i' = i ∧ s' = 5 then aL x else if K' = 12 ∧ i' = i ∧ s' = 100 then aI (loL x) else look μ K' i' s' := by
  by_cases h1 : K' = 12 ∧ i' = i
  · obtain ⟨rfl, rfl⟩ := h1
    by_cases h2 : s' = 5
    · subst h2
      rw [if_pos ⟨rfl, rfl, rfl⟩]
      show aL (mkL (sto (sto μ 12 i' 5 (hiL x)) 12 i' 100 (loL x) 12 i' 5) (sto (sto μ 12 i' 5 (hiL x)) 12 i' 100 (loL x) 12 i' 100)) = aL x
      rw [sto_eq, sto_s (by decide), sto_eq, mkL_hl]
    · rw [if_neg (fun q => h2 q.2.2)]
      by_cases h3 : s' = 100
      · subst h3
        rw [if_pos ⟨rfl, rfl, rfl⟩]
        show aI (sto _ 12 i' 100 _ 12 i' 100) = _
        rw [sto_eq]
      · rw [if_neg (fun q => h3 q.2.2)]
        unfold look
        split
        · rfl
        · split
          · rename_i e; exact absurd e (by decide)
          · split
            · rename_i e; exact absurd e.2 h2
            · rw [sto_s h3, sto_s h2]
  · rw [if_neg (fun q => h1 ⟨q.1, q.2.1⟩), if_neg (fun q => h1 ⟨q.1, q.2.1⟩)]
    have hs : ∀ s, sto (sto μ 12 i 5 (hiL x)) 12 i 100 (loL x) K' i' s = μ K' i' s := fun s => by rw [sto_ne (fun q => h1 ⟨q.1, q.2.1⟩), sto_ne (fun q => h1 ⟨q.1, q.2.1⟩)]
    unfold look
    simp only [hs]
theorem aw_putL {i idx : Nat} {x : Int64} (hd : decode (m_c M) pc = .ok (.putfield idx, 3)) (hf : fk (m_y M).cls idx 12 5) (k : aw Γ M (pc + 3) ls st (sto (sto μ 12 i 5 (hiL x)) 12 i 100 (loL x)) Q) : aw Γ M pc ls (aL x :: aR 12 i :: st) μ Q :=
  aw_put hd rfl hf (fun r h => by cases h; rfl) (fun _ => rfl) (fun _ => rfl) (fun K' i' s' h => by rw [look_L, if_neg (fun q => h ⟨q.1, q.2.1⟩), if_neg (fun q => h ⟨q.1, q.2.1⟩)]) (fun s' h => by
    rw [look_L]
    by_cases e : s' = 5
    · rw [if_pos ⟨rfl, rfl, e⟩, if_pos e]
    · rw [if_neg (fun q => e q.2.2), if_neg e, if_neg (fun q => absurd q.2.2 (by omega))]) k
/-- arrays -/
theorem aw_iald {K i n : Nat} {x : Int32} (hd : decode (m_c M) pc = .ok (.iaload, 1)) (hk : kd K = some (.inr (.int, n))) (hI : ∀ s, isI K s = true) (hin : vp_in x n) (k : aw Γ M (pc + 1) ls (aI (μ K i x.toNatClampNeg) :: st) μ Q) : aw Γ M pc ls (aI x :: aR K i :: st) μ Q := by
  intro X hB hR H locs arr hH hS hL hl hw
  have hi : i < kn K := (List.forall_mem_cons.mp (List.forall_mem_cons.mp hw).2).1
  have hk' := k X hB hR H locs arr hH hS hL hl (List.forall_mem_cons.mpr ⟨trivial, (List.forall_mem_cons.mp (List.forall_mem_cons.mp hw).2).2⟩)
  obtain ⟨p, e, R, s, m, args, below, meth, c, cells, slots, QQ⟩ := X
  obtain ⟨hx, hb, hml, hown, hvm, -⟩ := hB
  have hlt : x.toNatClampNeg < n := Nat.not_le.mp fun q => hin (Or.inr q)
  exact W.iald (v := .int (μ K i x.toNatClampNeg)) hx hb (rp_arr hH hi hk) ((hvm.2.2.2.2.1 K _ n hk).1 n _) (fun q => by cases q) (by show ¬ (x < 0 ∨ (arrV _ _ _).slots.size ≤ _); rw [arrV_size]; exact hin) (by show (arrV _ _ _).slots[_]? = _; rw [arrV_read _ _ hlt, look_I (hI _)]; rfl) rfl rfl hd hk'
theorem aw_bald {K i n : Nat} {x : Int32} (hd : decode (m_c M) pc = .ok (.baload, 1)) (hk : kd K = some (.inr (.byte, n))) (hI : ∀ s, isI K s = true) (hin : vp_in x n) (k : aw Γ M (pc + 1) ls (aI (μ K i x.toNatClampNeg) :: st) μ Q) : aw Γ M pc ls (aI x :: aR K i :: st) μ Q := by
  intro X hB hR H locs arr hH hS hL hl hw
  have hi : i < kn K := (List.forall_mem_cons.mp (List.forall_mem_cons.mp hw).2).1
  have hk' := k X hB hR H locs arr hH hS hL hl (List.forall_mem_cons.mpr ⟨trivial, (List.forall_mem_cons.mp (List.forall_mem_cons.mp hw).2).2⟩)
  obtain ⟨p, e, R, s, m, args, below, meth, c, cells, slots, QQ⟩ := X
  obtain ⟨hx, hb, hml, hown, hvm, -⟩ := hB
  have hlt : x.toNatClampNeg < n := Nat.not_le.mp fun q => hin (Or.inr q)
  exact W.bald (v := .int (μ K i x.toNatClampNeg)) hx hb (rp_arr hH hi hk) ((hvm.2.2.2.2.1 K _ n hk).1 n _) (fun q => by cases q) (by show ¬ (x < 0 ∨ (arrV _ _ _).slots.size ≤ _); rw [arrV_size]; exact hin) (by show (arrV _ _ _).slots[_]? = _; rw [arrV_read _ _ hlt, look_I (hI _)]; rfl) rfl rfl hd hk'
theorem aw_zald {K i n : Nat} {x : Int32} (hd : decode (m_c M) pc = .ok (.baload, 1)) (hk : kd K = some (.inr (.boolean, n))) (hI : ∀ s, isI K s = true) (hin : vp_in x n) (k : aw Γ M (pc + 1) ls (aI (μ K i x.toNatClampNeg) :: st) μ Q) : aw Γ M pc ls (aI x :: aR K i :: st) μ Q := by
  intro X hB hR H locs arr hH hS hL hl hw
  have hi : i < kn K := (List.forall_mem_cons.mp (List.forall_mem_cons.mp hw).2).1
  have hk' := k X hB hR H locs arr hH hS hL hl (List.forall_mem_cons.mpr ⟨trivial, (List.forall_mem_cons.mp (List.forall_mem_cons.mp hw).2).2⟩)
  obtain ⟨p, e, R, s, m, args, below, meth, c, cells, slots, QQ⟩ := X
  obtain ⟨hx, hb, hml, hown, hvm, -⟩ := hB
  have hlt : x.toNatClampNeg < n := Nat.not_le.mp fun q => hin (Or.inr q)
  exact W.zald (v := .int (μ K i x.toNatClampNeg)) hx hb (rp_arr hH hi hk) ((hvm.2.2.2.2.1 K _ n hk).1 n _) (fun q => by cases q) (by show ¬ (x < 0 ∨ (arrV _ _ _).slots.size ≤ _); rw [arrV_size]; exact hin) (by show (arrV _ _ _).slots[_]? = _; rw [arrV_read _ _ hlt, look_I (hI _)]; rfl) rfl rfl hd hk'
theorem aw_aald {K i n : Nat} {ty : FieldType} {x : Int32} {v : aV} (hd : decode (m_c M) pc = .ok (.aaload, 1)) (hk : kd K = some (.inr (ty, n))) (hty : ty.isReference = true) (hin : vp_in x n) (hv : look μ K i x.toNatClampNeg = v) (k : aw Γ M (pc + 1) ls (v :: st) μ Q) : aw Γ M pc ls (aI x :: aR K i :: st) μ Q := by
  intro X hB hR H locs arr hH hS hL hl hw
  have hi : i < kn K := (List.forall_mem_cons.mp (List.forall_mem_cons.mp hw).2).1
  have hlt : x.toNatClampNeg < n := Nat.not_le.mp fun q => hin (Or.inr q)
  have hk' := k X hB hR H locs arr hH hS hL hl (List.forall_mem_cons.mpr ⟨by rw [← hv]; exact liv_look hi (fun ty n e => by rw [hk] at e; cases e; exact hlt), (List.forall_mem_cons.mp (List.forall_mem_cons.mp hw).2).2⟩)
  obtain ⟨p, e, R, s, m, args, below, meth, c, cells, slots, QQ⟩ := X
  obtain ⟨hx, hb, hml, hown, hvm, -⟩ := hB
  exact W.aald (v := cv (g_ad Γ) v) (ty := ty) hx hb (rp_arr hH hi hk) ((hvm.2.2.2.2.1 K _ n hk).1 n _) hty (fun q => by cases q) (by show ¬ (x < 0 ∨ (arrV _ _ _).slots.size ≤ _); rw [arrV_size]; exact hin) (by show (arrV _ _ _).slots[_]? = _; rw [arrV_read _ _ hlt, hv]) rfl rfl hd hk'
/-- an array's cell behind a store -/
theorem rp_ast {μ μ' : mH} {H H' : Heap} (hG : g_ok Γ) (h : rp_H Γ μ H) {K i n j : Nat} {ty : FieldType} {v : aV} (hi : i < kn K) (hk : kd K = some (.inr (ty, n))) (e1 : H'[g_ad Γ K i]? = some ((arrV (g_cA Γ K) n (fun j => cv (g_ad Γ) (look μ K i j))).setSlot j (cv (g_ad Γ) v))) (hz : H'.size = H.size) (oq : ∀ q : Nat, q ≠ g_ad Γ K i → H'[q]? = H[q]?) (hlk : ∀ K' i' s', look μ' K' i' s' = if K' = K ∧ i' = i ∧ s' = j then v else look μ K' i' s') : rp_H Γ μ' H' := by
  refine rp_set hG h hi (by rw [hk]; simp) hz oq ?_ (fun K' i' s' h => by rw [hlk, if_neg (fun q => h ⟨q.1, q.2.1⟩)])
  unfold rp_c
  rw [hk]
  show H'[g_ad Γ K i]? = _
  rw [e1, arrV_store]
  refine congrArg some (congrArg (arrV (g_cA Γ K) n) (funext fun q => ?_))
  unfold updV
  rw [hlk]
  by_cases hq : q = j
  · rw [if_pos hq, if_pos ⟨rfl, rfl, hq⟩]
  · rw [if_neg hq, if_neg (fun z => hq z.2.2)]
theorem aw_iast {K i n : Nat} {x y : Int32} (hd : decode (m_c M) pc = .ok (.iastore, 1)) (hk : kd K = some (.inr (.int, n))) (hI : ∀ s, isI K s = true) (hin : vp_in x n) (k : aw Γ M (pc + 1) ls st (sto μ K i x.toNatClampNeg y) Q) : aw Γ M pc ls (aI y :: aI x :: aR K i :: st) μ Q := by
  intro X hB hR H locs arr hH hS hL hl hw
  have hw := (List.forall_mem_cons.mp (List.forall_mem_cons.mp hw).2).2
  have hi : i < kn K := (List.forall_mem_cons.mp hw).1
  have hk' := fun H' locs' h1 h2 => k X hB hR H' locs' arr h1 h2 hL hl (List.forall_mem_cons.mp hw).2
  obtain ⟨p, e, R, s, m, args, below, meth, c, cells, slots, QQ⟩ := X
  obtain ⟨hx, hb, hml, hown, hvm, -⟩ := hB
  refine W.iast hx hb (rp_arr hH hi hk) ((hvm.2.2.2.2.1 K _ n hk).1 n _) (fun q => by cases q) (by show ¬ (x < 0 ∨ (arrV _ _ _).slots.size ≤ _); rw [arrV_size]; exact hin) rfl rfl hd fun H' e1 e2 e3 => ?_
  exact hk' H' _ (rp_ast hvm.1 hH hi hk (v := aI y) e1 e2 e3 (fun _ _ _ => look_sto (hI _))) (hS.put e2 e3 (hvm.1.2 K i (by rw [hk]; simp) hi))
theorem aw_bast {K i n : Nat} {x y : Int32} (hd : decode (m_c M) pc = .ok (.bastore, 1)) (hk : kd K = some (.inr (.byte, n))) (hI : ∀ s, isI K s = true) (hin : vp_in x n) (k : aw Γ M (pc + 1) ls st (sto μ K i x.toNatClampNeg y.toInt8.toInt32) Q) : aw Γ M pc ls (aI y :: aI x :: aR K i :: st) μ Q := by
  intro X hB hR H locs arr hH hS hL hl hw
  have hw := (List.forall_mem_cons.mp (List.forall_mem_cons.mp hw).2).2
  have hi : i < kn K := (List.forall_mem_cons.mp hw).1
  have hk' := fun H' locs' h1 h2 => k X hB hR H' locs' arr h1 h2 hL hl (List.forall_mem_cons.mp hw).2
  obtain ⟨p, e, R, s, m, args, below, meth, c, cells, slots, QQ⟩ := X
  obtain ⟨hx, hb, hml, hown, hvm, -⟩ := hB
  refine W.bast hx hb (rp_arr hH hi hk) ((hvm.2.2.2.2.1 K _ n hk).1 n _) (fun q => by cases q) (by show ¬ (x < 0 ∨ (arrV _ _ _).slots.size ≤ _); rw [arrV_size]; exact hin) rfl rfl hd fun H' e1 e2 e3 => ?_
  exact hk' H' _ (rp_ast hvm.1 hH hi hk (v := aI y.toInt8.toInt32) e1 e2 e3 (fun _ _ _ => look_sto (hI _))) (hS.put e2 e3 (hvm.1.2 K i (by rw [hk]; simp) hi))
theorem aw_zast {K i n : Nat} {x y : Int32} (hd : decode (m_c M) pc = .ok (.bastore, 1)) (hk : kd K = some (.inr (.boolean, n))) (hI : ∀ s, isI K s = true) (hin : vp_in x n) (k : aw Γ M (pc + 1) ls st (sto μ K i x.toNatClampNeg (y &&& 1)) Q) : aw Γ M pc ls (aI y :: aI x :: aR K i :: st) μ Q := by
  intro X hB hR H locs arr hH hS hL hl hw
  have hw := (List.forall_mem_cons.mp (List.forall_mem_cons.mp hw).2).2
  have hi : i < kn K := (List.forall_mem_cons.mp hw).1
  have hk' := fun H' locs' h1 h2 => k X hB hR H' locs' arr h1 h2 hL hl (List.forall_mem_cons.mp hw).2
  obtain ⟨p, e, R, s, m, args, below, meth, c, cells, slots, QQ⟩ := X
  obtain ⟨hx, hb, hml, hown, hvm, -⟩ := hB
  refine W.zast hx hb (rp_arr hH hi hk) ((hvm.2.2.2.2.1 K _ n hk).1 n _) (fun q => by cases q) (by show ¬ (x < 0 ∨ (arrV _ _ _).slots.size ≤ _); rw [arrV_size]; exact hin) rfl rfl hd fun H' e1 e2 e3 => ?_
  exact hk' H' _ (rp_ast hvm.1 hH hi hk (v := aI (y &&& 1)) e1 e2 e3 (fun _ _ _ => look_sto (hI _))) (hS.put e2 e3 (hvm.1.2 K i (by rw [hk]; simp) hi))
theorem look_cp {μ : mH} {i j s : Nat} (hj : j < 88) (K' i' s' : Nat) : look (sto μ 26 i s (nI (j + 1))) K' i' s' = if K' = 26 ∧ i' = i ∧ s' = s then aR 7 j else look μ K' i' s' := by
  by_cases h : K' = 26 ∧ i' = i ∧ s' = s
  · obtain ⟨rfl, rfl, rfl⟩ := h
    rw [if_pos ⟨rfl, rfl, rfl⟩]
    show aQ 7 (cpo (sto μ 26 i' s' (nI (j + 1)) 26 i' s')) = _
    rw [sto_eq]
    unfold cpo
    rw [nI_clamp (by omega), if_pos (by omega)]
    rfl
  · rw [if_neg h]
    unfold look
    split
    · rfl
    · split
      · rw [sto_ne h]
      · rename_i e
        split
        · rw [sto_K e, sto_K e]
        · rw [sto_K e]
theorem aw_aast {i j : Nat} {x : Int32} (hd : decode (m_c M) pc = .ok (.aastore, 1)) (hin : vp_in x 80) (k : aw Γ M (pc + 1) ls st (sto μ 26 i x.toNatClampNeg (nI (j + 1))) Q) : aw Γ M pc ls (aR 7 j :: aI x :: aR 26 i :: st) μ Q := by
  intro X hB hR H locs arr hH hS hL hl hw
  have hj : j < kn 7 := (List.forall_mem_cons.mp hw).1
  have hw := (List.forall_mem_cons.mp (List.forall_mem_cons.mp hw).2).2
  have hi : i < kn 26 := (List.forall_mem_cons.mp hw).1
  have hk' := fun H' locs' h1 h2 => k X hB hR H' locs' arr h1 h2 hL hl (List.forall_mem_cons.mp hw).2
  obtain ⟨p, e, R, s, m, args, below, meth, c, cells, slots, QQ⟩ := X
  obtain ⟨hx, hb, hml, hown, hvm, -⟩ := hB
  have hlt : x.toNatClampNeg < 80 := Nat.not_le.mp fun q => hin (Or.inr q)
  have h0 : ¬ x < 0 := fun q => hin (Or.inl q)
  obtain ⟨r, hr, cellV, g1, g2, g3, -⟩ := rp_obj hH hj (show kd 7 = some (.inl 7) from rfl)
  have hcls := (hvm.2.2.2.1 7 r hr).2
  cases hr
  obtain ⟨kA, comp, k1, k2, k3, -⟩ := (hvm.2.2.2.2.1 26 _ 80 rfl).2
  have hcomp : comp = g_dC Γ 7 := Option.some.inj (k3.symm.trans hcls.1)
  subst hcomp
  obtain ⟨kC, hkC, -⟩ := id hcls.2
  refine W.aast hx hb (rp_arr hH hi (show kd 26 = some (.inr (.object RX7, 80)) from rfl)) (fun q h => by cases h) (fun h => by cases h) k1 k2 rfl hkC ⟨h0, by show _ < (arrV _ _ _).slots.size; rw [arrV_size]; exact hlt⟩ g1 (fun q h => by rw [g3] at h; cases h) (by rw [g2]; exact hkC) (by rw [g2]; exact va_assign hcls) rfl rfl hd fun H' e1 e2 e3 => ?_
  exact hk' H' _ (rp_ast hvm.1 hH hi rfl (v := aR 7 j) e1 e2 e3 (look_cp hj)) (hS.put e2 e3 (hvm.1.2 26 i (by decide) hi))
theorem aw_alen {K i n : Nat} {ty : FieldType} {v : Int32} (hd : decode (m_c M) pc = .ok (.arraylength, 1)) (hk : kd K = some (.inr (ty, n))) (hv : n.toInt32 = v) (k : aw Γ M (pc + 1) ls (aI v :: st) μ Q) : aw Γ M pc ls (aR K i :: st) μ Q := by
  intro X hB hR H locs arr hH hS hL hl hw
  have hi : i < kn K := (List.forall_mem_cons.mp hw).1
  have hk' := k X hB hR H locs arr hH hS hL hl (List.forall_mem_cons.mpr ⟨trivial, (List.forall_mem_cons.mp hw).2⟩)
  obtain ⟨p, e, R, s, m, args, below, meth, c, cells, slots, QQ⟩ := X
  obtain ⟨hx, hb, hml, hown, hvm, -⟩ := hB
  exact W.alen hx hb (rp_arr hH hi hk) ((hvm.2.2.2.2.1 K _ n hk).1 n _) (by rw [arrV_size]; exact hv) rfl rfl hd hk'
end AH
