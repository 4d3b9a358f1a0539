section ZSET
variable {zi : zMs} {al : Nat → Nat} {tf : Nat × Nat} {gm dC : Nat → ClassId} {dI : Nat → Nat → Nat} {N d : Nat} {l : Launch} {y : MethodName} {bytes : ByteArray} {maxL : Nat} {ret : Option FieldType} {pc : Nat}
theorem zo_anew {nx q index : Nat} {C : String} (hq : (q = 2 ∧ C = RX1) ∨ (q = 3 ∧ C = RX0)) (hd : decode bytes pc = .ok (.anewarray index, 3)) (hn : nx = pc + 3) (hl : Cond.classLink y.cls index C ∈ zTS) : zO zi al tf gm dC dI N d l y bytes maxL ret pc (eo_newa nx q 3) := by
  intro p e R s m args below meth cc Q rt hrt call go f hM hC hG ls st B F top qq h hT H locs cells slots LS hX
  subst hn
  replace h := ev_uc_some h
  obtain ⟨n, r, rfl, h⟩ := h
  replace h := ev_i_some h
  obtain ⟨hn4, h⟩ := h
  replace h := ev_b_some h
  obtain ⟨hnl, h⟩ := h
  have hnl := zb_le.mp hnl
  rw [ev_nf_eq, ev_rep_eq, ev_nf_eq, ev_nf_eq, List.append_nil] at h
  rw [List.map_cons, zv_i hn4]
  have hclm := nI_clamp (n := n / 4) (by omega)
  obtain ⟨r1, r2⟩ := znew_room (n := n / 4) hX (by omega)
  have hao : va_AO C s := hM.2.2.2.2.2.2.2.2.2.1.2.2.2.2.2.2.2.2 (.object C) (by unfold zao; rcases hq with ⟨-, rfl⟩ | ⟨-, rfl⟩ <;> simp)
  have hRA : va_RA s (gm q) (.object C) := (hM.2.2.2.2.2.2.2.2.1.2 q _ (show (ztys gm)[q]? = some (gm q, .object C) by rcases hq with ⟨rfl, rfl⟩ | ⟨rfl, rfl⟩ <;> rfl)).2
  refine W.anew hM.1 hM.2.1 hM.2.2.2.2.2.1 (hM.2.2.2.2.2.2.1 _ hl) (va_AO.use hao) rfl hd rfl (nI_pos (by omega)) (by rw [hclm]; omega) r1 (by rw [hclm]; exact r2) fun cA kA comp f1 f2 f3 f4 => ?_
  rw [hclm]
  have hcA : cA = gm q := by
    obtain ⟨_, _, _, _, _, h2⟩ := hRA
    exact Option.some.inj (f1.symm.trans h2)
  subst hcA
  have htop := hX.2.2.1.top
  have hlen := hX.2.1.len
  have hq2 : 2 ≤ q ∧ q < 16 := by rcases hq with ⟨rfl, -⟩ | ⟨rfl, -⟩ <;> omega
  have K := hG (pc + 3) ls _ B _ (top + 1) qq h hT (H.push { cls := gm q, slots := Array.replicate (n / 4) .null, vm := .none }) locs (cells + 1) (slots + n / 4) LS (znew_go hX (by
    rw [ze_q hq2.1 hq2.2, htop]
    show (H.push _)[H.size]? = some (vp_cell _ _)
    rw [Array.getElem?_push_size, vp_cell_q, List.length_replicate]
    refine congrArg some ?_
    rw [arrV_new]
    refine congrArg (arrV (gm q) (n / 4)) (funext fun j => ?_)
    have ez : (List.replicate (Nat.div n 4) 3).getD j 3 = 3 := by
      rw [List.getD_eq_getElem?_getD, List.getElem?_replicate]
      by_cases hj : j < Nat.div n 4
      · rw [if_pos hj]; rfl
      · rw [if_neg hj]; rfl
    rw [ez]
    rfl) (by rw [Array.size_push]) (fun q hq => by rw [Array.getElem?_push, if_neg (Nat.ne_of_lt hq)]) (Nat.le_refl 1) (by omega))
  rw [List.map_cons] at K
  have ez : zv al tf (Nat.add (Nat.mul 4 top) 2) = .ref H.size := by
    rw [show Nat.add (Nat.mul 4 top) 2 = 4 * top + 2 from rfl, zv_kr, ← hlen, htop]
  rw [ez] at K
  exact K
theorem zo_astr {nx q c k : Nat} {C : String} {T : u_T} (hc : zCl c C T k) (hq : (q = 2 ∧ C = RX1) ∨ (q = 3 ∧ C = RX0)) (hd : decode bytes pc = .ok (.aastore, 1)) (hn : nx = pc + 1) : zO zi al tf gm dC dI N d l y bytes maxL ret pc (eo_astr N nx q c) := by
  intro p e R s m args below meth cc Q rt hrt call go f hM hC hG ls st B F top qq h hT H locs cells slots LS hX
  subst hn
  replace h := ev_uc_some h
  obtain ⟨x, s0, rfl, h⟩ := h
  replace h := ev_uc_some h
  obtain ⟨v, s1, rfl, h⟩ := h
  replace h := ev_uc_some h
  obtain ⟨u, r, rfl, h⟩ := h
  replace h := ev_i_some h
  obtain ⟨hv, h⟩ := h
  replace h := ev_b_some h
  obtain ⟨hvl, h⟩ := h
  replace h := ev_r_some h
  obtain ⟨hx, h⟩ := h
  replace h := ev_at_some hX.2.1 h
  obtain ⟨cx, hcx, h⟩ := h
  replace h := ev_uc_some h
  obtain ⟨kx, fx, rfl, h⟩ := h
  replace h := ev_b_some h
  obtain ⟨hkx, h⟩ := h
  have hkx : kx = 16 + c := zb_eq.mp hkx
  subst hkx
  replace h := ev_r_some h
  obtain ⟨hu, h⟩ := h
  replace h := ev_at_some hX.2.1 h
  obtain ⟨cell, hcell, h⟩ := h
  replace h := ev_uc_some h
  obtain ⟨kd, fs, rfl, h⟩ := h
  replace h := ev_b_some h
  obtain ⟨hkd, h⟩ := h
  have hkd : q = kd := (zb_eq.mp hkd).symm
  subst hkd
  rw [ev_get_eq] at h
  replace h := ev_b_none h
  obtain ⟨h7, h⟩ := h
  have hlt : v / 4 < fs.length := zlt_of (zb_ne h7)
  rw [ev_set_eq] at h
  have hid : u / 4 < top := by
    have := (List.getElem?_eq_some_iff.mp hcell).1
    rw [hX.2.1.len] at this
    exact this
  replace h := ev_put_some hX.2.1 hid h
  obtain ⟨B1, F1, hI1, hB1, h⟩ := h
  have hvl : v < ev_H := zb_lt.mp hvl
  obtain ⟨hin, hcl⟩ := zv_in hvl hlt
  have hq2 : 2 ≤ q ∧ q < 16 := by rcases hq with ⟨rfl, -⟩ | ⟨rfl, -⟩ <;> omega
  have he := zw_get (al := al) (tf := tf) (gm := gm) hcell
  rw [ze_q hq2.1 hq2.2] at he
  have hex := zw_get (al := al) (tf := tf) (gm := gm) hcx
  rw [ze_o] at hex
  have hK : zK gm dC dI s := hM.2.2.2.2.2.2.2.2.1
  obtain ⟨r', hr', cellV, g1, g2, g3, -⟩ := hX.2.2.1.1 (x / 4) _ hex
  have hcls := (hK.1 c _ hc.1).2
  have hRA : va_RA s (gm q) (.object C) := (hK.2 q _ (show (ztys gm)[q]? = some (gm q, .object C) by rcases hq with ⟨rfl, rfl⟩ | ⟨rfl, rfl⟩ <;> rfl)).2
  obtain ⟨kA, comp, k1, k2, k3, -⟩ := hRA
  have hcomp : comp = dC c := Option.some.inj (k3.symm.trans hcls.1)
  subst hcomp
  obtain ⟨kC, hkC, -⟩ := hcls.2
  rw [List.map_cons, List.map_cons, List.map_cons, zv_r hx, zv_i hv, zv_r hu]
  refine W.aast hM.1 hM.2.1 (hX.2.2.1.1 (u / 4) _ he) (fun q h => by cases h) (fun h => by cases h) k1 k2 rfl hkC ⟨fun q => hin (Or.inl q), by show _ < (arrV _ _ _).slots.size; rw [arrV_size, hcl]; exact hlt⟩ g1 (fun q h => by rw [g3] at h; cases h) (by rw [g2]; exact hkC) (by rw [g2]; exact va_assign hcls) rfl rfl hd fun H1 e1 z oq => ?_
  rw [hcl] at e1
  obtain ⟨h1, h2, h3, h4, h5, h6, h7'⟩ := hX.down
  refine hG _ ls r B1 F1 top qq h hT H1 _ cells slots LS ⟨h1, hI1, ?_, h4.put z oq ⟨_, rfl⟩, h5, h6, h7'⟩
  rw [hB1]
  refine zH.set hM.2.2.2.2.2.2.2.2.2.2.2.1 h3 hcell ?_ z oq
  rw [ze_q hq2.1 hq2.2]
  show H1[al (u / 4)]? = some (vp_cell _ _)
  rw [e1, vp_cell_q, vp_cell_q, arrV_store, List.length_set]
  refine congrArg (fun f => some (arrV (gm q) fs.length f)) (funext fun j => ?_)
  show (if j = v / 4 then Value.ref (al (x / 4)) else va_rf (zr al (fs.getD j 3))) = va_rf (zr al ((fs.set (v / 4) x).getD j 3))
  rw [List.getD_eq_getElem?_getD, List.getD_eq_getElem?_getD, List.getElem?_set]
  by_cases hj : j = v / 4
  · subst hj
    rw [if_pos rfl, if_pos rfl, if_pos hlt]
    show _ = va_rf (zr al x)
    unfold zr
    rw [if_pos hx]
    rfl
  · rw [if_neg hj, if_neg (fun q => hj q.symm)]
theorem zH.pushes {w ws : List (List Nat)} {H H1 : Heap} (h : zH al tf gm dC dI w H) (he : ∀ i c, ws[i]? = some c → va_at (dC, dI) vwCl (al (w.length + i), ze al tf gm c) H1) (z : H1.size = H.size + ws.length) (o : ∀ q : Nat, q < H.size → H1[q]? = H[q]?) : zH al tf gm dC dI (w ++ ws) H1 := by
  refine ⟨?_, fun i => ?_⟩
  · have e : zw al tf gm (w ++ ws) = zw al tf gm w ++ ws.mapIdx (fun i c => (al (w.length + i), ze al tf gm c)) := by
      unfold zw
      rw [List.mapIdx_append]
      congr 1
      apply List.ext_getElem?
      intro i
      rw [List.getElem?_mapIdx, List.getElem?_mapIdx, Nat.add_comm]
    rw [e]
    refine va_P.app (h.1.kept (fun k x hx => o x.1 ((h.1 k x hx).lt))) (fun k x hx => ?_)
    rw [List.getElem?_mapIdx] at hx
    cases hc : ws[k]? with
    | none => rw [hc] at hx; cases hx
    | some c =>
      rw [hc] at hx
      cases hx
      exact he k c hc
  · rw [List.length_append, Nat.add_assoc, h.2 (ws.length + i), z]
    omega
end ZSET
section ZMNA
variable {zi : zMs} {al : Nat → Nat} {tf : Nat × Nat} {gm dC : Nat → ClassId} {dI : Nat → Nat → Nat} {N d : Nat} {l : Launch} {y : MethodName} {bytes : ByteArray} {maxL : Nat} {ret : Option FieldType} {pc : Nat}
theorem zouter (c : ClassId) (N h0 : Nat) : ∀ i : Nat, Jvm.Free.Multi.outerC c N h0 i = arrV c N (fun j => if j < i then .ref (h0 + 1 + j) else .null)
  | 0 => by
    show ({ cls := c, slots := Array.replicate N .null, vm := .none } : Cell) = _
    rw [arrV_new]
    refine congrArg (arrV c N) (funext fun j => ?_)
    simp
  | i + 1 => by
    show (Jvm.Free.Multi.outerC c N h0 i).setSlot i (.ref (h0 + 1 + i)) = _
    rw [zouter c N h0 i, arrV_store]
    refine congrArg (arrV c N) (funext fun j => ?_)
    by_cases e : j = i
    · subst e
      simp [updV]
    · by_cases h : j < i
      · simp [updV, e, h, Nat.lt_succ_of_lt h]
      · simp [updV, e, h, show ¬ j < i + 1 by omega]
theorem zarr_fun {cA : ClassId} {n : Nat} {f g : Nat → Value} (h : ∀ j, j < n → f j = g j) : arrV cA n f = arrV cA n g := by
  unfold arrV
  congr 1
  exact congrArg (fun k => Array.ofFn (n := n) k) (funext fun j => h j.val j.isLt)
theorem zo_mna {nx rk index : Nat} (hrk : rk ≤ 4000) (hd : decode bytes pc = .ok (.multianewarray index 2, 4)) (hn : nx = pc + 4) (hl : Cond.classLink y.cls index "[[I" ∈ zTS) (hac : Cond.arrayClass .int ∈ zTS) : zO zi al tf gm dC dI N d l y bytes maxL ret pc (eo_mna nx rk) := by
  intro p e R s m args below meth cc Q rt hrt call go f hM hC hG ls st B F top qq h hT H locs cells slots LS hX
  subst hn
  replace h := ev_uc_some h
  obtain ⟨k, s1, rfl, h⟩ := h
  replace h := ev_uc_some h
  obtain ⟨n, r, rfl, h⟩ := h
  replace h := ev_b_some h
  obtain ⟨hk, h⟩ := h
  have hk : k = 4 * rk := zb_eq.mp hk
  replace h := ev_b_some h
  obtain ⟨hn, h⟩ := h
  have hn : n = 4 * 4 := zb_eq.mp hn
  subst hk
  subst hn
  rw [ev_rep_eq, List.append_nil, ev_nf_eq, ev_nf_eq, ev_nf_eq, ev_nf_eq, ev_nf_eq, ev_nf_eq] at h
  replace h : go (pc + 4) ls ((4 * top + 2) :: r) B ((0 :: List.replicate rk 0) :: (0 :: List.replicate rk 0) :: (0 :: List.replicate rk 0) :: (0 :: List.replicate rk 0) :: [4, 4 * top + 2 + 4, 4 * top + 2 + 8, 4 * top + 2 + 12, 4 * top + 2 + 16] :: F) (top + 5) = some qq := h
  rw [List.map_cons, List.map_cons, zv_k, zv_k]
  have hao : va_Nw (.arrayOver (.array .int)) s := hM.2.2.2.2.2.2.2.2.2.1.2.2.2.2.2.2.2.2 (.array .int) (by unfold zao; simp)
  have hRA : s.vm.findClass ("[" ++ (FieldType.array .int).toString) = some (gm 4) := (hM.2.2.2.2.2.2.2.2.1.2 4 _ rfl).2
  have hRI : s.vm.findClass (FieldType.array .int).toString = some (gm 0) := (hM.2.2.2.2.2.2.2.2.1.2 0 _ rfl).2
  have c4 : (nI 4).toNatClampNeg = 4 := nI_clamp (n := 4) (by omega)
  have ck : (nI rk).toNatClampNeg = rk := nI_clamp (n := rk) (by omega)
  have hlen := hX.2.1.len
  have htop := hX.2.2.1.2
  rw [hlen] at htop
  obtain ⟨h1, hI, hH, hS, h5, h6, h7⟩ := hX
  rw [Nat.succ_mul] at h5 h6
  have z1 := zC_64 d
  have z2 := zS_pos d
  intro T hT0 X
  obtain ⟨vm₁, cA, comp, hW, hfA, hfC, -, -, X1, step⟩ := X.multianewarray2F hM.1 hM.2.2.2.2.2.1 (index := index) (ty := .int) (hM.2.2.2.2.2.2.1 _ hl) (by exact hao) (hM.2.2.2.2.2.2.1 _ hac) (g := F0 m pc LS (.int (nI rk) :: .int (nI 4) :: r.map (zv al tf))) rfl (by rw [hM.2.1]; exact hd) (n := nI 4) (k := nI rk) (rest := r.map (zv al tf)) rfl (nI_pos (by omega)) (nI_pos (by omega)) (by rw [c4]; omega) (by rw [ck]; show rk * 4 ≤ _; omega) (by rw [ck]; omega) rfl rfl (by rw [c4]; omega) (by rw [c4, ck]; omega)
  have eA : cA = gm 4 := Option.some.inj (hfA.symm.trans hRA)
  have eC : comp = gm 0 := Option.some.inj (hfC.symm.trans hRI)
  subst eA
  subst eC
  rw [c4, ck] at X1 step
  obtain ⟨f1, f2, -, -⟩ := Jvm.Free.Multi.fill_facts (T.setVm vm₁) (gm 4) (gm 0) 4 rk (defaultValue .int) 4
  have fo := fun (a : Addr) (ha : a < T.heap.size) => Jvm.Free.Multi.fill_old (T.setVm vm₁) (gm 4) (gm 0) 4 rk (defaultValue .int) (a := a) ha 4
  have fi := fun (j : Nat) (hj : j < 4) => Jvm.Free.Multi.fill_inner (T.setVm vm₁) (gm 4) (gm 0) 4 rk (defaultValue .int) 4 j hj
  generalize hU : Jvm.Free.Multi.fill (T.setVm vm₁) (gm 4) (gm 0) 4 rk (defaultValue .int) 4 = U at X1 step f1 f2 fo fi
  replace f1 : U.heap.size = H.size + 5 := by rw [f1]; show T.heap.size + 1 + 4 = _; rw [hT0]
  replace f2 : U.heap[H.size]? = some (Jvm.Free.Multi.outerC (gm 4) 4 T.heap.size 4) := by rw [← hT0]; exact f2
  replace fo : ∀ q : Nat, q < H.size → U.heap[q]? = H[q]? := fun q hq => by rw [fo q (by rw [hT0]; exact hq)]; show T.heap[q]? = _; rw [hT0]
  replace fi : ∀ j, j < 4 → U.heap[H.size + 1 + j]? = some (Jvm.Free.Multi.innerC (gm 0) rk (defaultValue .int)) := fun j hj => by rw [← hT0]; exact fi j hj
  rw [hT0] at f2
  have eo : Jvm.Free.Multi.outerC (gm 4) 4 H.size 4 = arrV (gm 4) 4 (fun j => va_rf (zr al ([4 * top + 2 + 4, 4 * top + 2 + 8, 4 * top + 2 + 12, 4 * top + 2 + 16].getD j 3))) := by
    rw [zouter]
    refine zarr_fun fun j hj => ?_
    rw [if_pos hj]
    have ea : ∀ i, al (top + 1 + i) = H.size + 1 + i := fun i => by rw [Nat.add_assoc, htop]; omega
    match j, hj with
    | 0, _ => show Value.ref (H.size + 1 + 0) = va_rf (zr al (4 * top + 2 + 4)); rw [← ea 0]; unfold zr; rw [if_pos (by omega), show (4 * top + 2 + 4) / 4 = top + 1 + 0 by omega]; rfl
    | 1, _ => show Value.ref (H.size + 1 + 1) = va_rf (zr al (4 * top + 2 + 8)); rw [← ea 1]; unfold zr; rw [if_pos (by omega), show (4 * top + 2 + 8) / 4 = top + 1 + 1 by omega]; rfl
    | 2, _ => show Value.ref (H.size + 1 + 2) = va_rf (zr al (4 * top + 2 + 12)); rw [← ea 2]; unfold zr; rw [if_pos (by omega), show (4 * top + 2 + 12) / 4 = top + 1 + 2 by omega]; rfl
    | 3, _ => show Value.ref (H.size + 1 + 3) = va_rf (zr al (4 * top + 2 + 16)); rw [← ea 3]; unfold zr; rw [if_pos (by omega), show (4 * top + 2 + 16) / 4 = top + 1 + 3 by omega]; rfl
  rw [eo] at f2
  have ei : Jvm.Free.Multi.innerC (gm 0) rk (defaultValue .int) = arrV (gm 0) rk (fun j => .int (nI ((List.replicate rk 0).getD j 0 / 4))) := by
    show ({ cls := gm 0, slots := Array.replicate rk (.int 0), vm := .none } : Cell) = _
    rw [arrV_new]
    refine congrArg (arrV (gm 0) rk) (funext fun j => ?_)
    have ez : (List.replicate rk 0).getD j 0 = 0 := by
      rw [List.getD_eq_getElem?_getD, List.getElem?_replicate]
      by_cases hj : j < rk
      · rw [if_pos hj]; rfl
      · rw [if_neg hj]; rfl
    rw [ez]
    exact congrArg Value.int nI_0.symm
  rw [ei] at fi
  have hin : ∀ j, j < 4 → va_at (dC, dI) vwCl (al (top + 1 + j), ze al tf gm (0 :: List.replicate rk 0)) U.heap := fun j hj => by
    rw [ze_n (by omega)]
    show U.heap[al (top + 1 + j)]? = some (vp_cell _ _)
    rw [vp_cell_i, List.length_replicate, Nat.add_assoc, htop, ← Nat.add_assoc]
    exact fi j hj
  have K := hG (pc + 4) ls _ B _ (top + 5) qq h hT U.heap locs (cells + 1 + 4) (slots + 4 + 4 * rk) LS ⟨h1, ⟨hI.1, by rw [hI.2]; simp only [List.length_cons]; omega⟩, by
    have e : B ++ ((0 :: List.replicate rk 0) :: (0 :: List.replicate rk 0) :: (0 :: List.replicate rk 0) :: (0 :: List.replicate rk 0) :: [4, 4 * top + 2 + 4, 4 * top + 2 + 8, 4 * top + 2 + 12, 4 * top + 2 + 16] :: F).reverse = (B ++ F.reverse) ++ [[4, 4 * top + 2 + 4, 4 * top + 2 + 8, 4 * top + 2 + 12, 4 * top + 2 + 16], (0 :: List.replicate rk 0), (0 :: List.replicate rk 0), (0 :: List.replicate rk 0), (0 :: List.replicate rk 0)] := by simp
    rw [e]
    refine zH.pushes hH (fun i c hi => ?_) (by rw [f1]; rfl) fo
    rw [hlen]
    match i, hi with
    | 0, hi =>
      cases hi
      rw [ze_q (by omega) (by omega)]
      show U.heap[al (top + 0)]? = some (vp_cell _ _)
      rw [vp_cell_q, htop 0]
      exact f2
    | 1, hi => cases hi; exact hin 0 (by omega)
    | 2, hi => cases hi; exact hin 1 (by omega)
    | 3, hi => cases hi; exact hin 2 (by omega)
    | 4, hi => cases hi; exact hin 3 (by omega)
    | i + 5, hi => simp at hi, ⟨Nat.le_trans hS.1 (by rw [f1]; omega), fun q g1 g2 => by rw [fo q (Nat.lt_of_lt_of_le g1 hS.1)]; exact hS.2.1 q g1 g2, hS.2.2⟩, by omega, by omega, h7⟩
  obtain ⟨t, a1, b1⟩ := K U rfl X1
  refine ⟨t, step _ ?_, b1⟩
  rw [List.map_cons, zv_kr] at a1
  have e0 : al top = T.heap.size := by rw [hT0]; exact htop 0
  rw [e0] at a1
  exact a1
end ZMNA
