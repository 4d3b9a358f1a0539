section ZNAT
variable {zi : zMs} {al : Nat → Nat} {tf : Nat × Nat} {gm dC : Nat → ClassId} {dI : Nat → Nat → Nat} {N d : Nat} {l : Launch} {y : MethodName} {bytes : ByteArray} {maxL : Nat} {ret : Option FieldType} {pc : Nat}
theorem zpos {v : Nat} (h : v < ev_H) : ¬ nI (v / 4) < 0 ∧ (nI (v / 4)).toNatClampNeg = v / 4 ∧ (nI (v / 4)).toInt = ((v / 4 : Nat) : Int) := by
  unfold ev_H at h
  refine ⟨nI_pos (by omega), nI_clamp (by omega), ?_⟩
  rw [zn_toInt (by omega), if_pos (by omega)]
theorem zfb : ∀ k, k < 128 → fits .byte (.int (nI k)) = true := by decide +kernel
theorem zlaid {fs fd : List Nat} {sp dp n : Nat} (h1 : sp + n ≤ fs.length) (h2 : dp + n ≤ fd.length) (j : Nat) : (fd.take dp ++ ((fs.drop sp).take n ++ fd.drop (dp + n))).getD j 0 = if dp ≤ j ∧ j < dp + n then fs.getD (sp + (j - dp)) 0 else fd.getD j 0 := by
  have l1 : (fd.take dp).length = dp := by rw [List.length_take]; omega
  have l2 : ((fs.drop sp).take n).length = n := by rw [List.length_take, List.length_drop]; omega
  rw [List.getD_eq_getElem?_getD]
  by_cases ha : j < dp
  · rw [List.getElem?_append_left (by omega), List.getElem?_take_of_lt ha, if_neg (by omega), List.getD_eq_getElem?_getD]
  · rw [List.getElem?_append_right (by omega), l1]
    by_cases hb : j < dp + n
    · rw [List.getElem?_append_left (by omega), List.getElem?_take_of_lt (by omega), List.getElem?_drop, if_pos ⟨by omega, hb⟩, List.getD_eq_getElem?_getD]
    · rw [List.getElem?_append_right (by omega), l2, List.getElem?_drop, if_neg (by omega), List.getD_eq_getElem?_getD, show dp + n + (j - dp - n) = j by omega]
theorem zlaid_len {fs fd : List Nat} {sp dp n : Nat} (h1 : sp + n ≤ fs.length) (h2 : dp + n ≤ fd.length) : (fd.take dp ++ ((fs.drop sp).take n ++ fd.drop (dp + n))).length = fd.length := by
  simp only [List.length_append, List.length_take, List.length_drop]
  omega
theorem zo_acopy {nx index : Nat} (hd : decode bytes pc = .ok (.invokestatic index, 3)) (hn : nx = pc + 3) (hw : ∀ w ∈ ([.methodLink y.cls index arraycopyName, .native arraycopyName, .static arraycopyName, .initialized "java/lang/System"] : List Cond), w ∈ zTS) : zO zi al tf gm dC dI N d l y bytes maxL ret pc (eo_acopy N nx) := by
  intro p e R s m args below meth cc Q rt hrt call go f hM hC hG ls st B F top qq h hT H locs cells slots LS hX
  subst hn
  replace h := ev_uc_some h
  obtain ⟨n, s1, rfl, h⟩ := h
  replace h := ev_uc_some h
  obtain ⟨dp, s2, rfl, h⟩ := h
  replace h := ev_uc_some h
  obtain ⟨v, s3, rfl, h⟩ := h
  replace h := ev_uc_some h
  obtain ⟨sp, s4, rfl, h⟩ := h
  replace h := ev_uc_some h
  obtain ⟨u, r, rfl, h⟩ := h
  replace h := ev_i_some h
  obtain ⟨hn4, h⟩ := h
  replace h := ev_i_some h
  obtain ⟨hdp4, h⟩ := h
  replace h := ev_i_some h
  obtain ⟨hsp4, h⟩ := h
  replace h := ev_b_some h
  obtain ⟨hnl, h⟩ := h
  replace h := ev_b_some h
  obtain ⟨hdl, h⟩ := h
  replace h := ev_b_some h
  obtain ⟨hsl, h⟩ := h
  replace h := ev_b_some h
  obtain ⟨hs0, h⟩ := h
  replace h := ev_upto_some 4 _ _ _ h
  obtain ⟨hr4, h⟩ := h
  replace h := ev_r_some h
  obtain ⟨hv, h⟩ := h
  replace h := ev_r_some h
  obtain ⟨hu, h⟩ := h
  replace h := ev_b_none h
  obtain ⟨hne, h⟩ := h
  have hne := zb_ne hne
  replace h := ev_at_some hX.2.1 h
  obtain ⟨cs, hcs, h⟩ := h
  replace h := ev_at_some hX.2.1 h
  obtain ⟨cd, hcd, h⟩ := h
  replace h := ev_uc_some h
  obtain ⟨k1, fs, rfl, h⟩ := h
  replace h := ev_uc_some h
  obtain ⟨k2, fd, rfl, h⟩ := h
  replace h := ev_b_some h
  obtain ⟨hk1, h⟩ := h
  replace h := ev_b_some h
  obtain ⟨hk2, h⟩ := h
  have hk1 : k1 = 1 := zb_eq.mp hk1
  have hk2 : k2 = 1 := zb_eq.mp hk2
  subst hk1
  subst hk2
  rw [ev_drop_eq] at h
  replace h := ev_over_some _ _ _ _ _ _ h
  obtain ⟨g1, g2, g3, h⟩ := h
  have hdlt : v / 4 < (B ++ F.reverse).length := (List.getElem?_eq_some_iff.mp hcd).1
  replace h := ev_put_some hX.2.1 (by rw [← hX.2.1.len]; exact hdlt) h
  obtain ⟨B', F', hI', eW, h⟩ := h
  have hnl : n < ev_H := zb_lt.mp hnl
  have hdl : dp < ev_H := zb_lt.mp hdl
  have hsl : sp < ev_H := zb_lt.mp hsl
  have hs0 : sp ≤ 1000000 * n := zb_le.mp hs0
  have f1 : sp / 4 + n / 4 ≤ fs.length := by
    rw [List.length_drop] at g1
    have g1 : n / 4 ≤ fs.length - sp / 4 := g1
    omega
  have f2 : dp / 4 + n / 4 ≤ fd.length := g2
  obtain ⟨n1, n2, n3⟩ := zpos hnl
  obtain ⟨d1, d2, d3⟩ := zpos hdl
  obtain ⟨s1, s2, s3⟩ := zpos hsl
  have ht := hM.2.2.2.2.2.2.1
  have w1 := ht _ (hw (.methodLink y.cls index arraycopyName) (by simp))
  have w2 := ht _ (hw (.native arraycopyName) (by simp))
  have w3 := ht _ (hw (.static arraycopyName) (by simp))
  have w4 := ht _ (hw (.initialized "java/lang/System") (by simp))
  have hK : zK gm dC dI s := hM.2.2.2.2.2.2.2.2.1
  have ec := hX.2.2.1.1 (u / 4) _ (zw_get hcs)
  have ed := hX.2.2.1.1 (v / 4) _ (zw_get hcd)
  rw [ze_n (by omega)] at ec ed
  have ec : H[al (u / 4)]? = some (vp_cell (gm 1) (fs.length, .inl (fun j => nI (fs.getD j 0 / 4)))) := ec
  have ed : H[al (v / 4)]? = some (vp_cell (gm 1) (fd.length, .inl (fun j => nI (fd.getD j 0 / 4)))) := ed
  have hal : al (u / 4) ≠ al (v / 4) := fun q => hne (hM.2.2.2.2.2.2.2.2.2.2.2.1 _ _ q).symm
  obtain ⟨-, k0, hk0, cm0, hkk0⟩ := (hK.2 1 _ rfl).1 fs.length (fun j => .int (nI (fs.getD j 0 / 4)))
  obtain ⟨-, k9, hk9, cm9, hkk9⟩ := (hK.2 1 _ rfl).1 fd.length (fun j => .int (nI (fd.getD j 0 / 4)))
  have hcat := zcat_le (al := al) (tf := tf) r
  have hloc := hM.2.2.2.2.2.2.2.2.2.2.2.2.2
  rw [List.map_cons, List.map_cons, List.map_cons, List.map_cons, List.map_cons, zv_i hn4, zv_i hdp4, zv_i hsp4, zv_r hu, zv_r hv]
  intro T hTh X
  obtain ⟨vm', X', step⟩ := X.arraycopy hM.1 hM.2.2.2.2.2.1 w1 w2 w3 w4 (src := al (u / 4)) (dst := al (v / 4)) (cs := vp_cell (gm 1) (fs.length, .inl (fun j => nI (fs.getD j 0 / 4)))) (cd := vp_cell (gm 1) (fd.length, .inl (fun j => nI (fd.getD j 0 / 4)))) (srcPos := nI (sp / 4)) (destPos := nI (dp / 4)) (n := nI (n / 4)) (by rw [hTh]; exact ec) (by rw [hTh]; exact ed)
    (fun _ h => by cases h) (fun _ h => by cases h) (fun h => by cases h) (fun h => by cases h) hk0 hk9 hkk0 hkk9 (by simp [refKind]) s1 d1 n1
    (by rw [s3, n3]; show ¬ _ > ((arrV (gm 1) fs.length (fun j => .int (nI (fs.getD j 0 / 4)))).slots.size : Int); rw [arrV_size]; omega)
    (by rw [d3, n3]; show ¬ _ > ((arrV (gm 1) fd.length (fun j => .int (nI (fd.getD j 0 / 4)))).slots.size : Int); rw [arrV_size]; omega)
    (fun vm₁ _ i hi => by
      rw [n2] at hi
      have e : (vp_cell (gm 1) (fs.length, .inl (fun j => nI (fs.getD j 0 / 4)))).slots.getD ((nI (sp / 4)).toNatClampNeg + i) .null = .int (nI (fs.getD (sp / 4 + i) 0 / 4)) := by
        show (arrV (gm 1) fs.length (fun j => .int (nI (fs.getD j 0 / 4)))).slots.getD _ _ = _
        rw [s2, Array.getD_eq_getD_getElem?, arrV_read _ _ (by omega)]
        rfl
      refine ⟨?_, ?_⟩
      · rw [e]
        have hx : fs.getD (sp / 4 + i) 0 < 512 := by
          refine g3 _ ?_
          rw [List.mem_take_iff_getElem]
          refine ⟨i, ?_, ?_⟩
          · show i < min (Nat.div n 4) _
            rw [List.length_drop]
            show i < min (n / 4) (fs.length - sp / 4)
            omega
          · rw [List.getElem_drop, List.getD_eq_getElem?_getD, List.getElem?_eq_getElem (by omega)]
            rfl
        exact zfb _ (by omega)
      · rw [e]
        exact trivial)
    (g := F0 m pc LS (.int (nI (n / 4)) :: .int (nI (dp / 4)) :: .ref (al (v / 4)) :: .int (nI (sp / 4)) :: .ref (al (u / 4)) :: r.map (zv al tf))) rfl (by rw [hM.2.2.1]; exact hX.1.1.trans hX.2.2.2.2.2.2) (rest := r.map (zv al tf)) rfl (by rw [hM.2.1]; exact hd) (Nat.le_trans (by omega) hM.2.2.2.2.2.2.2.2.2.2.2.2.1) (by show 2 * 0 + _ + (7 + 11) ≤ _; omega)
  have e1 : copied (vp_cell (gm 1) (fs.length, .inl (fun j => nI (fs.getD j 0 / 4)))) (vp_cell (gm 1) (fd.length, .inl (fun j => nI (fd.getD j 0 / 4)))) (nI (sp / 4)) (nI (dp / 4)) (nI (n / 4)) = vp_cell (gm 1) ((fd.take (dp / 4) ++ ((fs.drop (sp / 4)).take (n / 4) ++ fd.drop (dp / 4 + n / 4))).length, .inl (fun j => nI ((fd.take (dp / 4) ++ ((fs.drop (sp / 4)).take (n / 4) ++ fd.drop (dp / 4 + n / 4))).getD j 0 / 4))) := by
    have e0 : copied (vp_cell (gm 1) (fs.length, .inl (fun j => nI (fs.getD j 0 / 4)))) (vp_cell (gm 1) (fd.length, .inl (fun j => nI (fd.getD j 0 / 4)))) (nI (sp / 4)) (nI (dp / 4)) (nI (n / 4)) = vp_cell (gm 1) (fd.length, .inl (va_cpy (fun j => nI (fs.getD j 0 / 4)) (fun j => nI (fd.getD j 0 / 4)) (nI (sp / 4)).toNatClampNeg (nI (dp / 4)).toNatClampNeg (nI (n / 4)).toNatClampNeg)) := va_copied (fun z => Value.int z) (gm 1) (gm 1) (fun j => nI (fs.getD j 0 / 4)) (fun j => nI (fd.getD j 0 / 4)) (by rw [s2, n2]; exact f1)
    rw [e0, s2, d2, n2, zlaid_len f1 f2]
    refine congrArg (fun g => vp_cell (gm 1) (fd.length, .inl g)) (funext fun j => ?_)
    rw [zlaid f1 f2]
    unfold va_cpy
    by_cases hj : dp / 4 ≤ j ∧ j < dp / 4 + n / 4
    · rw [if_pos hj, if_pos hj]
    · rw [if_neg hj, if_neg hj]
  rw [e1] at X' step
  have hl : al (v / 4) < H.size := (Array.getElem?_eq_some_iff.mp ed).1
  generalize hfd : fd.take (dp / 4) ++ ((fs.drop (sp / 4)).take (n / 4) ++ fd.drop (dp / 4 + n / 4)) = fd' at X' step h eW
  have oq : ∀ q : Nat, q ≠ al (v / 4) → (H.setIfInBounds (al (v / 4)) (vp_cell (gm 1) (fd'.length, .inl (fun j => nI (fd'.getD j 0 / 4)))))[q]? = H[q]? := fun q hq => by simp [Array.getElem?_setIfInBounds, Ne.symm hq]
  have hheap : ((T.setVm vm').setCell (al (v / 4)) (vp_cell (gm 1) (fd'.length, .inl (fun j => nI (fd'.getD j 0 / 4))))).heap = H.setIfInBounds (al (v / 4)) (vp_cell (gm 1) (fd'.length, .inl (fun j => nI (fd'.getD j 0 / 4)))) := by rw [← hTh]; rfl
  obtain ⟨x1, x2, x3, x4, x5, x6, x7⟩ := hX.down
  obtain ⟨t, a1, b1⟩ := hG (pc + 3) ls r B' F' top qq h hT _ _ cells slots LS ⟨x1, hI', by
      rw [eW]
      exact zH.set hM.2.2.2.2.2.2.2.2.2.2.2.1 x3 hcd (by rw [ze_n (by omega)]; show (H.setIfInBounds (al (v / 4)) _)[al (v / 4)]? = some _; simp [Array.getElem?_setIfInBounds, hl]) (by simp) oq, ⟨by simp; exact x4.1, fun q g1 g2 => by
      rw [oq q (fun e => g2 ⟨_, e⟩)]
      exact x4.2.1 q g1 g2, fun q hq => by
      rcases List.mem_append.mp hq with h | h
      · exact x4.2.2 q h
      · obtain ⟨z, -, hz⟩ := List.mem_map.mp h
        rw [← hz]
        exact ⟨_, rfl⟩⟩, x5, x6, x7⟩ _ hheap X'
  exact ⟨t, step t a1, b1⟩
theorem zo_cast {nx index : Nat} (hd : decode bytes pc = .ok (.checkcast index, 3)) (hn : nx = pc + 3) (hl : Cond.classLink y.cls index "[I" ∈ zTS) : zO zi al tf gm dC dI N d l y bytes maxL ret pc (eo_cast N nx 0) := by
  intro p e R s m args below meth cc Q rt hrt call go f hM hC hG ls st B F top qq h hT H locs cells slots LS hX
  subst hn
  replace h := ev_uc_some h
  obtain ⟨u, r, rfl, h⟩ := h
  replace h := ev_r_some h
  obtain ⟨hu, h⟩ := h
  replace h := ev_at_some hX.2.1 h
  obtain ⟨cell, hcell, h⟩ := h
  replace h := ev_uc_some h
  obtain ⟨kd, fs, rfl, h⟩ := h
  replace h := ev_b_some h
  obtain ⟨hkd, h⟩ := h
  have hkd : kd = 0 := zb_eq.mp hkd
  subst hkd
  have he := zw_get (al := al) (tf := tf) (gm := gm) hcell
  rw [ze_n (by omega)] at he
  have K := hG (pc + 3) ls _ B F top qq h hT H locs cells slots LS hX.down
  rw [List.map_cons, zv_r hu] at K ⊢
  exact va_castA hM.1 hM.2.1 hM.2.2.2.2.2.1 (hM.2.2.2.2.2.2.1 _ hl) hX.2.2.1.1 (u / 4) he ((hM.2.2.2.2.2.2.2.2.1.2 0 _ rfl).2) hd K
theorem zo_clone {nx index : Nat} (hd : decode bytes pc = .ok (.invokevirtual index, 3)) (hn : nx = pc + 3) (hw : ∀ w ∈ ([.methodLink y.cls index ⟨"[I", "clone", "()Ljava/lang/Object;"⟩, .sameMethod "[I" "java/lang/Object" "clone" "()Ljava/lang/Object;", .native ⟨"java/lang/Object", "clone", "()Ljava/lang/Object;"⟩, .instanceMethod ⟨"java/lang/Object", "clone", "()Ljava/lang/Object;"⟩, .selects "[I" ⟨"[I", "clone", "()Ljava/lang/Object;"⟩ ⟨"java/lang/Object", "clone", "()Ljava/lang/Object;"⟩] : List Cond), w ∈ zTS) : zO zi al tf gm dC dI N d l y bytes maxL ret pc (eo_clone N nx 0) := by
  intro p e R s m args below meth cc Q rt hrt call go f hM hC hG ls st B F top qq h hT H locs cells slots LS hX
  subst hn
  replace h := ev_uc_some h
  obtain ⟨u, r, rfl, h⟩ := h
  replace h := ev_upto_some 4 _ _ _ h
  obtain ⟨hr4, h⟩ := h
  replace h := ev_r_some h
  obtain ⟨hu, h⟩ := h
  replace h := ev_at_some hX.2.1 h
  obtain ⟨cell, hcell, h⟩ := h
  replace h := ev_uc_some h
  obtain ⟨kd, fs, rfl, h⟩ := h
  replace h := ev_b_some h
  obtain ⟨hkd, h⟩ := h
  have hkd : kd = 0 := zb_eq.mp hkd
  subst hkd
  rw [ev_len_eq, Nat.zero_add] at h
  replace h := ev_b_some h
  obtain ⟨hsz, h⟩ := h
  have hsz : fs.length ≤ 4000 := zb_le.mp hsz
  rw [ev_nf_eq, ev_nf_eq] at h
  have ht := hM.2.2.2.2.2.2.1
  have w1 := ht _ (hw (.methodLink y.cls index ⟨"[I", "clone", "()Ljava/lang/Object;"⟩) (by simp))
  have w2 := ht _ (hw (.sameMethod "[I" "java/lang/Object" "clone" "()Ljava/lang/Object;") (by simp))
  have w3 := ht _ (hw (.native ⟨"java/lang/Object", "clone", "()Ljava/lang/Object;"⟩) (by simp))
  have w4 := ht _ (hw (.instanceMethod ⟨"java/lang/Object", "clone", "()Ljava/lang/Object;"⟩) (by simp))
  have w5 := ht _ (hw (.selects "[I" ⟨"[I", "clone", "()Ljava/lang/Object;"⟩ ⟨"java/lang/Object", "clone", "()Ljava/lang/Object;"⟩) (by simp))
  have hK : zK gm dC dI s := hM.2.2.2.2.2.2.2.2.1
  have he := hX.2.2.1.1 (u / 4) _ (zw_get hcell)
  rw [ze_n (by omega)] at he
  have he : H[al (u / 4)]? = some (vp_cell (gm 0) (fs.length, .inl (fun j => nI (fs.getD j 0 / 4)))) := he
  have hnm : s.vm.findClass "[I" = some (gm 0) := (hK.2 0 _ rfl).2
  have hcl : va_Nw (.castable "[I" "java/lang/Cloneable") s := hM.2.2.2.2.2.2.2.2.2.1.2.2.2.2.2.2.2.1
  obtain ⟨c0, t0', f1, f2, f3⟩ := Cond.castable_spec (va_Nw.use (A := args) rfl hcl)
  cases hnm.symm.trans f1
  have hsl : (vp_cell (gm 0) (fs.length, .inl (fun j => nI (fs.getD j 0 / 4)))).slots.size = fs.length := arrV_size _ _ _
  have hcat := zcat_le (al := al) (tf := tf) r
  have hloc := hM.2.2.2.2.2.2.2.2.2.2.2.2.2
  obtain ⟨r1, r2⟩ := znew_room (n := fs.length) hX (by omega)
  rw [List.map_cons, zv_r hu]
  intro T hTh X
  obtain ⟨-, kA, hkA, comp, hkind⟩ := State.isArrayOf_alike X.warmed.alike ((hK.2 0 _ rfl).1 0 (fun _ => .null))
  obtain ⟨-, kS, hkS, compS, hkindS⟩ := (hK.2 0 _ rfl).1 0 (fun _ => .null)
  obtain ⟨vm', X', st⟩ := X.cloneArray hM.1 hM.2.2.2.2.2.1 w1 w2 w3 w4 w5 (a := al (u / 4)) (cell := vp_cell (gm 0) (fs.length, .inl (fun j => nI (fs.getD j 0 / 4)))) (by rw [hTh]; exact he) (fun k h => by cases h) (fun h => by cases h) hnm f2 f3
    (fun i v hv => by
      have hk' : T.vm.classes[gm 0]? = some kA := hkA
      have hi : i < fs.length := by
        have := (Array.getElem?_eq_some_iff.mp hv).1
        rw [hsl] at this
        exact this
      have hv' : (arrV (gm 0) fs.length (fun j => .int (nI (fs.getD j 0 / 4)))).slots[i]? = some v := hv
      rw [arrV_read _ _ hi] at hv'
      cases hv'
      show State.fitsSlot _ (gm 0) _ _ _ = _
      simp [State.fitsSlot, State.slotType?, vp_cell, arrV, hk', hkind, fits])
    (g := F0 m pc LS (.ref (al (u / 4)) :: r.map (zv al tf))) rfl (by rw [hM.2.2.1]; exact hX.1.1.trans hX.2.2.2.2.2.2) rfl (by rw [hM.2.1]; exact hd) (Nat.le_trans (by omega) hM.2.2.2.2.2.2.2.2.2.2.2.2.1) (by show 2 * 0 + _ + 14 ≤ _; omega) r1 (by rw [hsl]; exact r2) (hloader := Vm.clonesLoader_of_array hkS hkindS)
  have hcellE : ({ cls := (vp_cell (gm 0) (fs.length, .inl (fun j => nI (fs.getD j 0 / 4)))).cls, slots := (vp_cell (gm 0) (fs.length, .inl (fun j => nI (fs.getD j 0 / 4)))).slots } : Cell) = vp_cell (gm 0) (fs.length, .inl (fun j => nI (fs.getD j 0 / 4))) := rfl
  rw [hcellE, hsl] at X'
  rw [hcellE, hTh] at st
  have htop := hX.2.2.1.top
  have hlen := hX.2.1.len
  obtain ⟨t, a1, b1⟩ := hG (pc + 3) ls _ B _ (top + 1) qq h hT (H.push (vp_cell (gm 0) (fs.length, .inl (fun j => nI (fs.getD j 0 / 4))))) locs (cells + 1) (slots + fs.length) LS (znew_go hX (by
    rw [ze_n (by omega), htop]
    show (H.push _)[H.size]? = some _
    rw [Array.getElem?_push_size]) (by rw [Array.size_push]) (fun q hq => by rw [Array.getElem?_push, if_neg (Nat.ne_of_lt hq)]) (Nat.le_refl 1) (by omega)) ((T.setVm vm').pushCell (vp_cell (gm 0) (fs.length, .inl (fun j => nI (fs.getD j 0 / 4))))) (by rw [← hTh]; rfl) X'
  refine ⟨t, st t ?_, b1⟩
  rw [List.map_cons] at a1
  have ez : zv al tf (Nat.add (Nat.mul 4 top) 2) = .ref H.size := by
    rw [show Nat.add (Nat.mul 4 top) 2 = 4 * top + 2 from rfl, zv_kr, ← hlen, htop]
  rw [ez] at a1
  exact a1
end ZNAT
