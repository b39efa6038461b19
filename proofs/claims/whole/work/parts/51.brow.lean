section BW
variable {Γ : cx_T} {M : mt_T} {mc ms pc n cells slots : Nat} {ls ls' st : List aV} {lk : lkT} {Q : Nat → lkT → Prop}
theorem bw_s {pc' : Nat} {st st' : List aV} (k : bw Γ M mc ms pc' ls st' n lk cells slots Q)
    (h : ∀ {p : Program} {l : Launch} {e : Env} {R : Room} {s : State} {m : MethodId} {args : Array Value} {below : List Frame} {meth : Method} {c : Code} {H : Heap} {locs : List Loc} {cells slots : Nat} {QQ : State → Prop} {arr : Array Slot}, p.tables.exec = Jvm.exec → c.code = m_c M → lv_has arr (m_L M) (lo_l (g_ad Γ) ls) → W p l e R s m args below meth c H locs cells slots QQ (F0 m pc' arr (st'.map (cv (g_ad Γ)))) → W p l e R s m args below meth c H locs cells slots QQ (F0 m pc arr (st.map (cv (g_ad Γ))))) : bw Γ M mc ms pc ls st n lk cells slots Q := by
  intro X hB hR H locs arr hH hS hL
  have hk := k X hB hR H locs arr hH hS hL
  obtain ⟨p, e, R, s, m, args, below, meth, c, QQ⟩ := X
  obtain ⟨hx, hb, -⟩ := hB
  exact h hx hb hL hk
theorem bw_l {pc' i : Nat} {v : aV} {st0 : List aV} (k : bw Γ M mc ms pc' ls' st n lk cells slots Q) (hn : lo_nl ls i = true) (he : ls.set i v = ls')
    (h : ∀ {p : Program} {l : Launch} {e : Env} {R : Room} {s : State} {m : MethodId} {args : Array Value} {below : List Frame} {meth : Method} {c : Code} {H : Heap} {locs : List Loc} {cells slots : Nat} {QQ : State → Prop} {arr : Array Slot}, p.tables.exec = Jvm.exec → c.code = m_c M → lv_has arr (m_L M) (lo_l (g_ad Γ) ls) → (∀ arr' : Array Slot, lv_has arr' (m_L M) ((i, cv (g_ad Γ) v) :: (lo_l (g_ad Γ) ls).filter (fun q => !(q.1 == i) && !(q.1 + 1 == i && q.2.category == 2))) → W p l e R s m args below meth c H locs cells slots QQ (F0 m pc' arr' (st.map (cv (g_ad Γ))))) → W p l e R s m args below meth c H locs cells slots QQ (F0 m pc arr (st0.map (cv (g_ad Γ))))) : bw Γ M mc ms pc ls st0 n lk cells slots Q := by
  intro X hB hR H locs arr hH hS hL
  have hk := fun arr' (hL' : lv_has arr' (m_L M) (lo_l (g_ad Γ) ls')) => k X hB hR H locs arr' hH hS hL'
  obtain ⟨p, e, R, s, m, args, below, meth, c, QQ⟩ := X
  obtain ⟨hx, hb, -⟩ := hB
  exact h hx hb hL (fun arr' h' => hk arr' (lo_set h' hn he))
theorem bw_iconst {k : Int} {v : Int32} (hd : decode (m_c M) pc = .ok (.iconst k, 1)) (hv : Int32.ofInt k = v) (kk : bw Γ M mc ms (pc + 1) ls (aI v :: st) n lk cells slots Q) : bw Γ M mc ms pc ls st n lk cells slots Q := bw_s kk (fun hx hb hL kk => lv_iconst hx hb hd hv kk)
theorem bw_bipush {k : Int} {v : Int32} (hd : decode (m_c M) pc = .ok (.bipush k, 2)) (hv : (Int8.ofInt k).toInt32 = v) (kk : bw Γ M mc ms (pc + 2) ls (aI v :: st) n lk cells slots Q) : bw Γ M mc ms pc ls st n lk cells slots Q := bw_s kk (fun hx hb hL kk => lv_bipush hx hb hd hv kk)
theorem bw_sipush {k : Int} {v : Int32} (hd : decode (m_c M) pc = .ok (.sipush k, 3)) (hv : (Int16.ofInt k).toInt32 = v) (kk : bw Γ M mc ms (pc + 3) ls (aI v :: st) n lk cells slots Q) : bw Γ M mc ms pc ls st n lk cells slots Q := bw_s kk (fun hx hb hL kk => lv_sipush hx hb hd hv kk)
theorem bw_iload_n {j : Fin 4} {x : Int32} (hd : decode (m_c M) pc = .ok (.iload_n j, 1)) (hl : ls[(j : Nat)]? = some (aI x)) (kk : bw Γ M mc ms (pc + 1) ls (aI x :: st) n lk cells slots Q) : bw Γ M mc ms pc ls st n lk cells slots Q := bw_s kk (fun hx hb hL kk => lv_iload_n hx hb hd rfl (lo_at hL hl (by simp)) kk)
theorem bw_aload_n {j : Fin 4} {K i : Nat} (hd : decode (m_c M) pc = .ok (.aload_n j, 1)) (hl : ls[(j : Nat)]? = some (aR K i)) (kk : bw Γ M mc ms (pc + 1) ls (aR K i :: st) n lk cells slots Q) : bw Γ M mc ms pc ls st n lk cells slots Q := bw_s kk (fun hx hb hL kk => lv_aload_n hx hb hd rfl (lo_at hL hl (by simp)) kk)
theorem bw_dup {K i : Nat} (hd : decode (m_c M) pc = .ok (.dup, 1)) (kk : bw Γ M mc ms (pc + 1) ls (aR K i :: aR K i :: st) n lk cells slots Q) : bw Γ M mc ms pc ls (aR K i :: st) n lk cells slots Q := bw_s kk (fun hx hb hL kk => lv_dup hx hb hd rfl kk)
theorem bw_goto {o : Int} {tgt : Nat} (hd : decode (m_c M) pc = .ok (.goto o, 3)) (ht : (pc : Int) + o = (tgt : Int)) (kk : bw Γ M mc ms tgt ls st n lk cells slots Q) : bw Γ M mc ms pc ls st n lk cells slots Q := bw_s kk (fun hx hb hL kk => lv_goto hx hb hd ht kk)
theorem bw_istore_n {j : Fin 4} {x : Int32} (hd : decode (m_c M) pc = .ok (.istore_n j, 1)) (hi : (j : Nat) < m_L M) (hn : lo_nl ls (j : Nat) = true) (he : ls.set (j : Nat) (aI x) = ls') (k : bw Γ M mc ms (pc + 1) ls' st n lk cells slots Q) : bw Γ M mc ms pc ls (aI x :: st) n lk cells slots Q := bw_l k hn he (fun hx hb hL kk => lv_istore_n hx hb hd rfl hL hi rfl kk)
theorem bw_astore_n {j : Fin 4} {K i : Nat} (hd : decode (m_c M) pc = .ok (.astore_n j, 1)) (hi : (j : Nat) < m_L M) (hn : lo_nl ls (j : Nat) = true) (he : ls.set (j : Nat) (aR K i) = ls') (k : bw Γ M mc ms (pc + 1) ls' st n lk cells slots Q) : bw Γ M mc ms pc ls (aR K i :: st) n lk cells slots Q := bw_l k hn he (fun hx hb hL kk => lv_astore_n hx hb hd rfl hL hi rfl kk)
theorem bw_iinc {j : Nat} {d : Int} {x v : Int32} (hd : decode (m_c M) pc = .ok (.iinc j d, 3)) (hl : ls[j]? = some (aI x)) (hv : x + Int32.ofInt d = v) (hi : j < m_L M) (hn : lo_nl ls j = true) (he : ls.set j (aI v) = ls') (k : bw Γ M mc ms (pc + 3) ls' st n lk cells slots Q) : bw Γ M mc ms pc ls st n lk cells slots Q := bw_l k hn he (fun hx hb hL kk => by
  obtain ⟨q, hq⟩ := List.getElem?_of_mem (lo_mem.mpr ⟨aI x, hl, by simp, rfl⟩ : (j, cv (g_ad Γ) (aI x)) ∈ lo_l (g_ad Γ) ls)
  exact lv_iinc hx hb hd hL hq hv hi rfl kk)
theorem bw_icmp_ge {x y : Int32} {o : Int} {tgt : Nat} (hd : decode (m_c M) pc = .ok (.if_icmp .ge o, 3)) (ht : (pc : Int) + o = (tgt : Int)) (kt : y ≤ x → bw Γ M mc ms tgt ls st n lk cells slots Q) (kf : ¬ y ≤ x → bw Γ M mc ms (pc + 3) ls st n lk cells slots Q) : bw Γ M mc ms pc ls (aI y :: aI x :: st) n lk cells slots Q := by
  intro X hB hR H locs arr hH hS hL
  have hk := fun c => kt c X hB hR H locs arr hH hS hL
  have hj := fun c => kf c X hB hR H locs arr hH hS hL
  obtain ⟨p, e, R, s, m, args, below, meth, c, QQ⟩ := X
  obtain ⟨hx, hb, -⟩ := hB
  exact lv_icmp_ge hx hb hd ht hk hj
theorem bw_widen {c' s' : Nat} (h1 : cells ≤ c') (h2 : slots ≤ s') (k : bw Γ M mc ms pc ls st n lk c' s' Q) : bw Γ M mc ms pc ls st n lk cells slots Q := by
  intro X hB hR H locs arr hH hS hL
  have hk := k X hB hR H locs arr hH hS hL
  obtain ⟨p, e, R, s, m, args, below, meth, c, QQ⟩ := X
  exact W.widen h1 h2 hk
/-- new -/
theorem bw_new {K i ci idx : Nat} {r : vw_C} (hd : decode (m_c M) pc = .ok (.new idx, 3)) (hr : vwCl[ci]? = some r) (hw1 : Cond.classLink (m_y M).cls idx r.1 ∈ tb_g) (hw2 : Cond.instantiable r.1 r.2.2 ∈ tb_g) (hw3 : Cond.initialized r.1 ∈ tb_g) (hk : kd K = some (.inl ci)) (hi : i < kn K) (ho : off K i = n) (hc : cells + 1 ≤ mc) (hs : slots + r.2.2 ≤ ms) (hty : ∀ j, j < r.2.2 → tyT ci j ≠ .float ∧ tyT ci j ≠ .double)
    (k : bw Γ M mc ms (pc + 3) ls (aR K i :: st) (n + 1) (nw lk K i (fun s => dvT (tyT ci s))) (cells + 1) (slots + r.2.2) Q) : bw Γ M mc ms pc ls st n lk cells slots Q := by
  intro X hB hR H locs arr hH hS hL
  have hk' := fun H' h1 h2 => k X hB hR H' locs arr h1 h2 hL
  obtain ⟨p, e, R, s, m, args, below, meth, c, QQ⟩ := X
  obtain ⟨hx, hb, hml, hown, hvb, -, -, hR1, hR2, -⟩ := hB
  obtain ⟨hvm, had, -⟩ := id hvb
  have hts : ∀ w ∈ tb_g, w.before args s = true := fun w h => hvm.2.1 w h args
  obtain ⟨hin, hty0, -⟩ := cls_ok hr
  have hKn := hvm.2.2.2.1 ci r hr
  have hkn : kd K ≠ none := by rw [hk]; simp
  have hadr : g_ad Γ K i = H.size := by rw [had K i hkn hi, hH.1, ho]
  refine W.newcK hx hb hown (hts _ hw1) (hts _ hw2) (hts _ hw3) rfl hd (Nat.le_trans hc hR1) (Nat.le_trans hs hR2) hKn.2.1 rfl fun H' kC hkC e1 z1 o1 => ?_
  have h := hk' H' (rb_new had hH hkn hi ho (by rw [z1]) o1 (by
    unfold rb_c
    rw [hk]
    refine ⟨r, hr, ?_⟩
    rw [hadr]
    refine (u_born (tyT ci) hts hin hKn hkC e1 hty0).to (fun j hj => ?_)
    rw [nw_eq, cv_dv (hty j hj).1 (hty j hj).2])) ⟨Nat.le_trans hS.1 (by omega), fun q h1 h2 => (o1 q (Nat.lt_of_lt_of_le h1 hS.1)).trans (hS.2.1 q h1 h2), hS.2.2⟩
  have e : (List.map (cv (g_ad Γ)) (aR K i :: st)) = .ref H.size :: st.map (cv (g_ad Γ)) := by rw [← hadr]; rfl
  unfold wb at h
  rw [e] at h
  exact h
/-- new int[], byte[], boolean[] -/
theorem bw_newa {K i N : Nat} {at_ : ArrayType} {ty : FieldType} {x : Int32} (hd : decode (m_c M) pc = .ok (.newarray at_, 2)) (hty : newarray.typeOf at_ = ty) (hw1 : Cond.arrayClass ty ∈ tb_g) (hk : kd K = some (.inr (ty, N))) (hi : i < kn K) (ho : off K i = n) (hn : ¬ x < 0) (hN : x.toNatClampNeg = N) (hbytes : N * componentBytes ty ≤ 536870912) (hc : cells + 1 ≤ mc) (hs : slots + N ≤ ms) (hf : ty ≠ .float ∧ ty ≠ .double) (hra : ∀ U cA, va_RA U cA ty → U.vm.findClass ("[" ++ ty.toString) = some cA)
    (k : bw Γ M mc ms (pc + 2) ls (aR K i :: st) (n + 1) (nw lk K i (fun _ => dvT ty)) (cells + 1) (slots + N) Q) : bw Γ M mc ms pc ls (aI x :: st) n lk cells slots Q := by
  intro X hB hR H locs arr hH hS hL
  have hk' := fun H' h1 h2 => k X hB hR H' locs arr h1 h2 hL
  obtain ⟨p, e, R, s, m, args, below, meth, c, QQ⟩ := X
  obtain ⟨hx, hb, hml, hown, hvb, -, -, hR1, hR2, -⟩ := hB
  obtain ⟨hvm, had, -⟩ := id hvb
  subst hty
  have hkn : kd K ≠ none := by rw [hk]; simp
  have hadr : g_ad Γ K i = H.size := by rw [had K i hkn hi, hH.1, ho]
  refine va_newaK hx hb (hvm.2.1 _ hw1 args) rfl hd rfl hn hN hbytes (Nat.le_trans hc hR1) (Nat.le_trans hs hR2) rfl fun H' cA e1 z1 o1 hAr hNm => ?_
  have hcA : cA = g_cA Γ K := Option.some.inj (hNm.symm.trans (hra s _ (hvm.2.2.2.2.1 K _ N hk).2))
  subst hcA
  have h := hk' H' (rb_new had hH hkn hi ho (by rw [z1]) o1 (by
    unfold rb_c
    rw [hk]
    show H'[g_ad Γ K i]? = _
    rw [hadr, e1]
    refine congrArg some (congrArg (arrV (g_cA Γ K) N) (funext fun q => ?_))
    rw [nw_eq, cv_dv hf.1 hf.2])) ⟨Nat.le_trans hS.1 (by omega), fun q h1 h2 => (o1 q (Nat.lt_of_lt_of_le h1 hS.1)).trans (hS.2.1 q h1 h2), hS.2.2⟩
  have e : (List.map (cv (g_ad Γ)) (aR K i :: st)) = .ref H.size :: st.map (cv (g_ad Γ)) := by rw [← hadr]; rfl
  unfold wb at h
  rw [e] at h
  exact h
/-- new Sector[], new Take[] -/
theorem bw_anew {K i N idx : Nat} {C : String} {x : Int32} (hd : decode (m_c M) pc = .ok (.anewarray idx, 3)) (hw1 : Cond.classLink (m_y M).cls idx C ∈ tb_g) (hC : C = RX7 ∨ C = RX9) (hk : kd K = some (.inr (.object C, N))) (hi : i < kn K) (ho : off K i = n) (hn : ¬ x < 0) (hN : x.toNatClampNeg = N) (hbytes : N * 4 ≤ 536870912) (hc : cells + 1 ≤ mc) (hs : slots + N ≤ ms)
    (k : bw Γ M mc ms (pc + 3) ls (aR K i :: st) (n + 1) (nw lk K i (fun _ => aN)) (cells + 1) (slots + N) Q) : bw Γ M mc ms pc ls (aI x :: st) n lk cells slots Q := by
  intro X hB hR H locs arr hH hS hL
  have hk' := fun H' h1 h2 => k X hB hR H' locs arr h1 h2 hL
  obtain ⟨p, e, R, s, m, args, below, meth, c, QQ⟩ := X
  obtain ⟨hx, hb, hml, hown, hvb, -, -, hR1, hR2, -⟩ := hB
  obtain ⟨hvm, had, ha7, ha9, -⟩ := id hvb
  have hao : va_AO C s := by rcases hC with rfl | rfl; exact ha7; exact ha9
  subst hN
  have hkn : kd K ≠ none := by rw [hk]; simp
  have hadr : g_ad Γ K i = H.size := by rw [had K i hkn hi, hH.1, ho]
  refine W.anew hx hb hown (hvm.2.1 _ hw1 args) (va_AO.use hao) rfl hd rfl hn hbytes (Nat.le_trans hc hR1) (Nat.le_trans hs hR2) fun cA kA comp f1 f2 f3 f4 => ?_
  obtain ⟨kA', comp', -, -, -, g4⟩ := (hvm.2.2.2.2.1 K _ _ hk).2
  have hcA : cA = g_cA Γ K := Option.some.inj (f1.symm.trans g4)
  subst hcA
  generalize hH1 : H.push ({ cls := g_cA Γ K, slots := Array.replicate x.toNatClampNeg .null, vm := .none } : Cell) = H1
  have z1 : H1.size = H.size + 1 := by rw [← hH1, Array.size_push]
  have e1 : H1[H.size]? = some (arrV (g_cA Γ K) x.toNatClampNeg (fun _ => .null)) := by rw [← hH1, Array.getElem?_push_size, ← arrV_new]
  have o1 : ∀ q : Nat, q < H.size → H1[q]? = H[q]? := fun q hq => by rw [← hH1, Array.getElem?_push, if_neg (Nat.ne_of_lt hq)]
  have h := hk' H1 (rb_new had hH hkn hi ho z1 o1 (by
    unfold rb_c
    rw [hk]
    show H1[g_ad Γ K i]? = _
    rw [hadr, e1]
    refine congrArg some (congrArg (arrV (g_cA Γ K) _) (funext fun q => ?_))
    rw [nw_eq]
    rfl)) ⟨Nat.le_trans hS.1 (by omega), fun q h1 h2 => (o1 q (Nat.lt_of_lt_of_le h1 hS.1)).trans (hS.2.1 q h1 h2), hS.2.2⟩
  have e : (List.map (cv (g_ad Γ)) (aR K i :: st)) = .ref H.size :: st.map (cv (g_ad Γ)) := by rw [← hadr]; rfl
  unfold wb at h
  rw [e] at h
  exact h
/-- a field -/
theorem bw_get {K i ci f idx : Nat} {v : aV} (hd : decode (m_c M) pc = .ok (.getfield idx, 3)) (hk : kd K = some (.inl ci)) (hf : fk (m_y M).cls idx ci f) (hi : i < kn K) (ho : off K i < n) (hv : lk K i f = v) (k : bw Γ M mc ms (pc + 3) ls (v :: st) n lk cells slots Q) : bw Γ M mc ms pc ls (aR K i :: st) n lk cells slots Q := by
  intro X hB hR H locs arr hH hS hL
  have hk' := k X hB hR H locs arr hH hS hL
  obtain ⟨p, e, R, s, m, args, below, meth, c, QQ⟩ := X
  obtain ⟨hx, hb, hml, hown, hvb, -⟩ := hB
  obtain ⟨hvm, had, -⟩ := id hvb
  obtain ⟨r, hr, hfN, hlink⟩ := hf
  obtain ⟨r', hr', cell, q1, q2, q3, q4⟩ := rb_obj hH hk hi ho
  cases hr.symm.trans hr'
  obtain ⟨hSl, hfc, kC, hkC, hkind⟩ := hvm.2.2.2.1 ci r hr
  obtain ⟨cf, kf, fi, f', hi', hsl⟩ := hSl f hfN
  refine W.getf hx hb hown (hvm.2.1 _ hlink args) hi' (u_facts hfc hkC (u_lays (fun w h => hvm.2.1 w h args) (cls_ok hr).1 hfN) hi').1 q1 (by rw [q3]; exact fun h => by cases h) (v := cv (g_ad Γ) v) ?_ rfl rfl hd hk'
  rw [hsl, q4 f hfN, ← hv]
theorem bw_put {K i ci f idx : Nat} {v : aV} (hd : decode (m_c M) pc = .ok (.putfield idx, 3)) (hk : kd K = some (.inl ci)) (hf : fk (m_y M).cls idx ci f) (hi : i < kn K) (ho : off K i < n) (hcl : ∀ r : vw_C, vwCl[ci]? = some r → (r.2.1 f).1 = (m_y M).cls) (hin0 : (m_y M).name = "<init>") (hn : ∀ ad, narrow (tyT ci f) (cv ad v) = cv ad v) (hfit : ∀ ad, fits (tyT ci f) (cv ad v) = true) (k : bw Γ M mc ms (pc + 3) ls st n (pf lk K i f v) cells slots Q) : bw Γ M mc ms pc ls (v :: aR K i :: st) n lk cells slots Q := by
  intro X hB hR H locs arr hH hS hL
  have hk' := fun H' locs' h1 h2 => k X hB hR H' locs' arr h1 h2 hL
  obtain ⟨p, e, R, s, m, args, below, meth, c, QQ⟩ := X
  obtain ⟨hx, hb, hml, hown, hvb, -, -, -, -, hmn⟩ := hB
  obtain ⟨hvm, had, -⟩ := id hvb
  obtain ⟨r, hr, hfN, hlink⟩ := hf
  obtain ⟨r', hr', cell, q1, q2, q3, q4⟩ := rb_obj hH hk hi ho
  cases hr.symm.trans hr'
  obtain ⟨hin, hty, hnm⟩ := cls_ok hr
  have hts : ∀ w ∈ tb_g, w.before args s = true := fun w h => hvm.2.1 w h args
  obtain ⟨hSl, hfc, kC, hkC, hkind⟩ := hvm.2.2.2.1 ci r hr
  obtain ⟨cf, kf, fi, f', hi', hsl⟩ := hSl f hfN
  have hlay := hts _ (hin _ (u_in_lay hfN))
  have hst := (u_facts hfc hkC (u_lays hts hin hfN) hi').1
  have hap : ∀ x y, x < r.2.2 → y < r.2.2 → x ≠ y → (g_dI Γ ci) x ≠ (g_dI Γ ci) y := by
    intro x y hx hy hne
    obtain ⟨_, _, _, fa, hia, ea⟩ := hSl x hx
    obtain ⟨_, _, _, fb, hib, eb⟩ := hSl y hy
    rw [← ea, ← eb]
    refine u_apart (u_lays hts hin hx) (u_lays hts hin hy) hia hib ?_
    rw [(State.fieldFound?_type hia (hty x hx)).1, (State.fieldFound?_type hib (hty y hy)).1]
    exact hnm x hx y hy hne
  have hkn : kd K ≠ none := by rw [hk]; simp
  have fin : ∀ H' : Heap, H'[g_ad Γ K i]? = some (cell.setSlot f'.slot (cv (g_ad Γ) v)) → H'.size = H.size → (∀ q, q ≠ g_ad Γ K i → H'[q]? = H[q]?) → W p (g_l Γ) e R s m args below meth c H' (locs ++ [⟨g_ad Γ K i, f'.slot⟩]) cells slots QQ (F0 m (pc + 3) arr (st.map (cv (g_ad Γ)))) := by
    intro H' e1 e2 e3
    rw [hsl] at e1 ⊢
    refine hk' H' _ (rb_set hvm.1 hH hkn hi e2 e3 ?_) (hS.put e2 e3 (hvm.1.2 K i hkn hi))
    unfold rb_c
    rw [hk]
    refine ⟨r, hr, t_OB.to (V := updV (fun s => cv (g_ad Γ) (lk K i s)) f (cv (g_ad Γ) v)) ⟨_, e1, q2, q3, t_set q4 hap hfN _⟩ (fun j hj => ?_)⟩
    unfold updV
    dsimp only
    by_cases hjf : j = f
    · subst hjf
      rw [if_pos rfl, pf_eq]
    · rw [if_neg hjf, pf_ne (fun q => hjf q.2.2)]
  unfold u_lay at hlay
  by_cases hfn : (r.2.1 f).2.2.2 = true
  · rw [if_pos hfn] at hlay
    have hcf : m.cls = cf := by
      obtain ⟨_, _, c', _, _, _, -, -, hf', -, -, -, hown2, -⟩ := Cond.laysFinal_spec hlay
      have e1 : c' = cf := by have := hi'.symm.trans hf'; simp at this; exact this.1.symm
      rw [hcl r hr] at hown2
      rw [← e1]; exact Option.some.inj (hown.symm.trans hown2)
    have h6 := u_fits hfc hkC hkind (Or.inr hlay) hi' (hty f hfN) (hn (g_ad Γ)) (hfit (g_ad Γ))
    exact W.putFinK hx hb hown (hts _ hlink) hi' hst hcf (hmn hin0) (by rw [q2]; exact h6) q1 q3 (by rw [hsl]; exact k2_hasslot (q4 f hfN)) rfl rfl hd fin
  · rw [if_neg hfn] at hlay
    have h6 := u_store hfc hkC hkind hlay hi' (hty f hfN) (hn (g_ad Γ)) (hfit (g_ad Γ))
    exact W.putK hx hb (f := f') ⟨hown, hts _ hlink, ⟨_, _, _, hi'⟩, hst⟩ (by rw [q2]; exact h6) q1 q3 (by rw [hsl]; exact k2_hasslot (q4 f hfN)) rfl rfl hd fin
/-- a place of an array -/
theorem rb_ast {lk : lkT} {H H' : Heap} (hG : g_ok Γ) (h : rb Γ n lk H) {K i N j : Nat} {ty : FieldType} {v : aV} (hk : kd K = some (.inr (ty, N))) (hi : i < kn K) (e1 : H'[g_ad Γ K i]? = some ((arrV (g_cA Γ K) N (fun j => cv (g_ad Γ) (lk K i j))).setSlot j (cv (g_ad Γ) v))) (hz : H'.size = H.size) (oq : ∀ q : Nat, q ≠ g_ad Γ K i → H'[q]? = H[q]?) : rb Γ n (pf lk K i j v) H' := by
  refine rb_set hG h (by rw [hk]; simp) hi hz oq ?_
  unfold rb_c
  rw [hk]
  show H'[g_ad Γ K i]? = _
  rw [e1, arrV_store]
  refine congrArg some (congrArg (arrV (g_cA Γ K) N) (funext fun q => ?_))
  unfold updV
  by_cases hq : q = j
  · subst hq
    rw [if_pos rfl, pf_eq]
  · rw [if_neg hq, pf_ne (fun z => hq z.2.2)]
theorem bw_iast {K i N : Nat} {x y : Int32} (hd : decode (m_c M) pc = .ok (.iastore, 1)) (hk : kd K = some (.inr (.int, N))) (hi : i < kn K) (ho : off K i < n) (hin : vp_in x N) (k : bw Γ M mc ms (pc + 1) ls st n (pf lk K i x.toNatClampNeg (aI y)) cells slots Q) : bw Γ M mc ms pc ls (aI y :: aI x :: aR K i :: st) n lk cells slots Q := by
  intro X hB hR H locs arr hH hS hL
  have hk' := fun H' locs' h1 h2 => k X hB hR H' locs' arr h1 h2 hL
  obtain ⟨p, e, R, s, m, args, below, meth, c, QQ⟩ := X
  obtain ⟨hx, hb, hml, hown, hvb, -⟩ := hB
  obtain ⟨hvm, had, -⟩ := id hvb
  refine W.iast hx hb (rb_arr hH hk hi ho) ((hvm.2.2.2.2.1 K _ N hk).1 N _) (fun q => by cases q) (by show ¬ (x < 0 ∨ (arrV _ _ _).slots.size ≤ _); rw [arrV_size]; exact hin) rfl rfl hd fun H' e1 e2 e3 => ?_
  exact hk' H' _ (rb_ast hvm.1 hH hk hi (v := aI y) e1 e2 e3) (hS.put e2 e3 (hvm.1.2 K i (by rw [hk]; simp) hi))
theorem bw_alen {K i N : Nat} {ty : FieldType} {v : Int32} (hd : decode (m_c M) pc = .ok (.arraylength, 1)) (hk : kd K = some (.inr (ty, N))) (hi : i < kn K) (ho : off K i < n) (hv : N.toInt32 = v) (k : bw Γ M mc ms (pc + 1) ls (aI v :: st) n lk cells slots Q) : bw Γ M mc ms pc ls (aR K i :: st) n lk cells slots Q := by
  intro X hB hR H locs arr hH hS hL
  have hk' := k X hB hR H locs arr hH hS hL
  obtain ⟨p, e, R, s, m, args, below, meth, c, QQ⟩ := X
  obtain ⟨hx, hb, hml, hown, hvb, -⟩ := hB
  obtain ⟨hvm, had, -⟩ := id hvb
  exact W.alen hx hb (rb_arr hH hk hi ho) ((hvm.2.2.2.2.1 K _ N hk).1 N _) (by rw [arrV_size]; exact hv) rfl rfl hd hk'
theorem bw_aast {K i N K' j ci : Nat} {r : vw_C} {x : Int32} (hd : decode (m_c M) pc = .ok (.aastore, 1)) (hr : vwCl[ci]? = some r) (hk : kd K = some (.inr (.object r.1, N))) (hi : i < kn K) (ho : off K i < n) (hk2 : kd K' = some (.inl ci)) (hj : j < kn K') (hoj : off K' j < n) (hin : vp_in x N) (k : bw Γ M mc ms (pc + 1) ls st n (pf lk K i x.toNatClampNeg (aR K' j)) cells slots Q) : bw Γ M mc ms pc ls (aR K' j :: aI x :: aR K i :: st) n lk cells slots Q := by
  intro X hB hR H locs arr hH hS hL
  have hk' := fun H' locs' h1 h2 => k X hB hR H' locs' arr h1 h2 hL
  obtain ⟨p, e, R, s, m, args, below, meth, c, QQ⟩ := X
  obtain ⟨hx, hb, hml, hown, hvb, -⟩ := hB
  obtain ⟨hvm, had, -⟩ := id hvb
  have hlt : x.toNatClampNeg < N := Nat.not_le.mp fun q => hin (Or.inr q)
  have h0 : ¬ x < 0 := fun q => hin (Or.inl q)
  obtain ⟨r', hr', cellV, g1, g2, g3, -⟩ := rb_obj hH hk2 hj hoj
  cases hr.symm.trans hr'
  have hcls := (hvm.2.2.2.1 ci r hr).2
  obtain ⟨kA, comp, k1, k2, k3, -⟩ := (hvm.2.2.2.2.1 K _ N hk).2
  have hcomp : comp = g_dC Γ ci := Option.some.inj (k3.symm.trans hcls.1)
  subst hcomp
  obtain ⟨kC, hkC, -⟩ := id hcls.2
  refine W.aast hx hb (rb_arr hH hk hi ho) (fun q h => by cases h) (fun h => by cases h) k1 k2 rfl hkC ⟨h0, by show _ < (arrV _ _ _).slots.size; rw [arrV_size]; exact hlt⟩ g1 (fun q h => by rw [g3] at h; cases h) (by rw [g2]; exact hkC) (by rw [g2]; exact va_assign hcls) rfl rfl hd fun H' e1 e2 e3 => ?_
  exact hk' H' _ (rb_ast hvm.1 hH hk hi (v := aR K' j) e1 e2 e3) (hS.put e2 e3 (hvm.1.2 K i (by rw [hk]; simp) hi))
theorem bw_vret (hd : decode (m_c M) pc = .ok (.return_, 1)) (hc : cells ≤ mc) (hs : slots ≤ ms) (h : Q n lk) (hnl : (m_y M).name ≠ "law" := by decide) : bw Γ M mc ms pc ls [] n lk cells slots Q := by
  intro X hB hR H locs arr hH hS hL
  have h1 := hR n lk H locs pc arr h hH hS (Or.inl ⟨hd, hnl⟩)
  obtain ⟨p, e, R, s, m, args, below, meth, c, QQ⟩ := X
  exact W.widen hc hs h1
/-- the law's loop begins -/
theorem bw_law (hM : (m_y M).name = "law") (hc : cells ≤ mc) (hs : slots ≤ ms) (h : Q n lk) : bw Γ M mc ms 18 [aR 65 0, aR 11 0, aR 12 0, aI 0] [] n lk cells slots Q := by
  intro X hB hR H locs arr hH hS hL
  have h1 := hR n lk H locs 18 arr h hH hS (Or.inr ⟨rfl, hM, hL⟩)
  obtain ⟨p, e, R, s, m, args, below, meth, c, QQ⟩ := X
  exact W.widen hc hs h1
end BW
