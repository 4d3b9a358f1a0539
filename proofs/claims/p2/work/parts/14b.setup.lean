section ZSET
variable {zi : zMs} {al : Nat → Nat} {tf : Nat × Nat} {gm dC : Nat → ClassId} {dI : Nat → Nat → Nat} {N d : Nat} {l : Launch} {y : MethodName} {bytes : ByteArray} {maxL : Nat} {ret : Option FieldType} {pc : Nat}
theorem zo_anew {nx q index : Nat} {C : String} (hq : (q = 2 ∧ C = RX1) ∨ (q = 3 ∧ C = RX0)) (hd : decode bytes pc = .ok (.anewarray index, 3)) (hn : nx = pc + 3) (hl : Cond.classLink y.cls index C ∈ zTS) : zO zi al tf gm dC dI N d l y bytes maxL ret pc (eo_newa nx q 3) := by
  intro p e R s m args below meth cc Q rt hrt call go f hM hC hG ls st B F top qq h hT H locs cells slots LS hX
  subst hn
  replace h := ev_uc_some h
  obtain ⟨n, r, rfl, h⟩ := h
  replace h := ev_i_some h
  obtain ⟨hn4, h⟩ := h
  replace h := ev_b_some h
  obtain ⟨hnl, h⟩ := h
  have hnl := zb_le.mp hnl
  rw [ev_nf_eq, ev_rep_eq, ev_nf_eq, ev_nf_eq, List.append_nil] at h
  rw [List.map_cons, zv_i hn4]
  have hclm := nI_clamp (n := n / 4) (by omega)
  obtain ⟨r1, r2⟩ := znew_room (n := n / 4) hX (by omega)
  have hao : va_AO C s := hM.2.2.2.2.2.2.2.2.2.1.2.2.2.2.2.2.2.2 (.object C) (by unfold zao; rcases hq with ⟨-, rfl⟩ | ⟨-, rfl⟩ <;> simp)
  have hRA : va_RA s (gm q) (.object C) := (hM.2.2.2.2.2.2.2.2.1.2 q _ (show (ztys gm)[q]? = some (gm q, .object C) by rcases hq with ⟨rfl, rfl⟩ | ⟨rfl, rfl⟩ <;> rfl)).2
  refine W.anew hM.1 hM.2.1 hM.2.2.2.2.2.1 (hM.2.2.2.2.2.2.1 _ hl) (va_AO.use hao) rfl hd rfl (nI_pos (by omega)) (by rw [hclm]; omega) r1 (by rw [hclm]; exact r2) fun cA kA comp f1 f2 f3 f4 => ?_
  rw [hclm]
  have hcA : cA = gm q := by
    obtain ⟨_, _, _, _, _, h2⟩ := hRA
    exact Option.some.inj (f1.symm.trans h2)
  subst hcA
  have htop := hX.2.2.1.top
  have hlen := hX.2.1.len
  have hq2 : 2 ≤ q ∧ q < 16 := by rcases hq with ⟨rfl, -⟩ | ⟨rfl, -⟩ <;> omega
  have K := hG (pc + 3) ls _ B _ (top + 1) qq h hT (H.push { cls := gm q, slots := Array.replicate (n / 4) .null, vm := .none }) locs (cells + 1) (slots + n / 4) LS (znew_go hX (by
    rw [ze_q hq2.1 hq2.2, htop]
    show (H.push _)[H.size]? = some (vp_cell _ _)
    rw [Array.getElem?_push_size, vp_cell_q, List.length_replicate]
    refine congrArg some ?_
    rw [arrV_new]
    refine congrArg (arrV (gm q) (n / 4)) (funext fun j => ?_)
    have ez : (List.replicate (Nat.div n 4) 3).getD j 3 = 3 := by
      rw [List.getD_eq_getElem?_getD, List.getElem?_replicate]
      by_cases hj : j < Nat.div n 4
      · rw [if_pos hj]; rfl
      · rw [if_neg hj]; rfl
    rw [ez]
    rfl) (by rw [Array.size_push]) (fun q hq => by rw [Array.getElem?_push, if_neg (Nat.ne_of_lt hq)]) (Nat.le_refl 1) (by omega))
  rw [List.map_cons] at K
  have ez : zv al tf (Nat.add (Nat.mul 4 top) 2) = .ref H.size := by
    rw [show Nat.add (Nat.mul 4 top) 2 = 4 * top + 2 from rfl, zv_kr, ← hlen, htop]
  rw [ez] at K
  exact K
theorem zo_astr {nx q c k : Nat} {C : String} {T : u_T} (hc : zCl c C T k) (hq : (q = 2 ∧ C = RX1) ∨ (q = 3 ∧ C = RX0)) (hd : decode bytes pc = .ok (.aastore, 1)) (hn : nx = pc + 1) : zO zi al tf gm dC dI N d l y bytes maxL ret pc (eo_astr N nx q c) := by
  intro p e R s m args below meth cc Q rt hrt call go f hM hC hG ls st B F top qq h hT H locs cells slots LS hX
  subst hn
  replace h := ev_uc_some h
  obtain ⟨x, s0, rfl, h⟩ := h
  replace h := ev_uc_some h
  obtain ⟨v, s1, rfl, h⟩ := h
  replace h := ev_uc_some h
  obtain ⟨u, r, rfl, h⟩ := h
  replace h := ev_i_some h
  obtain ⟨hv, h⟩ := h
  replace h := ev_b_some h
  obtain ⟨hvl, h⟩ := h
  replace h := ev_r_some h
  obtain ⟨hx, h⟩ := h
  replace h := ev_at_some hX.2.1 h
  obtain ⟨cx, hcx, h⟩ := h
  replace h := ev_uc_some h
  obtain ⟨kx, fx, rfl, h⟩ := h
  replace h := ev_b_some h
  obtain ⟨hkx, h⟩ := h
  have hkx : kx = 16 + c := zb_eq.mp hkx
  subst hkx
  replace h := ev_r_some h
  obtain ⟨hu, h⟩ := h
  replace h := ev_at_some hX.2.1 h
  obtain ⟨cell, hcell, h⟩ := h
  replace h := ev_uc_some h
  obtain ⟨kd, fs, rfl, h⟩ := h
  replace h := ev_b_some h
  obtain ⟨hkd, h⟩ := h
  have hkd : q = kd := (zb_eq.mp hkd).symm
  subst hkd
  rw [ev_get_eq] at h
  replace h := ev_b_none h
  obtain ⟨h7, h⟩ := h
  have hlt : v / 4 < fs.length := zlt_of (zb_ne h7)
  rw [ev_set_eq] at h
  have hid : u / 4 < top := by
    have := (List.getElem?_eq_some_iff.mp hcell).1
    rw [hX.2.1.len] at this
    exact this
  replace h := ev_put_some hX.2.1 hid h
  obtain ⟨B1, F1, hI1, hB1, h⟩ := h
  have hvl : v < ev_H := zb_lt.mp hvl
  obtain ⟨hin, hcl⟩ := zv_in hvl hlt
  have hq2 : 2 ≤ q ∧ q < 16 := by rcases hq with ⟨rfl, -⟩ | ⟨rfl, -⟩ <;> omega
  have he := zw_get (al := al) (tf := tf) (gm := gm) hcell
  rw [ze_q hq2.1 hq2.2] at he
  have hex := zw_get (al := al) (tf := tf) (gm := gm) hcx
  rw [ze_o] at hex
  have hK : zK gm dC dI s := hM.2.2.2.2.2.2.2.2.1
  obtain ⟨r', hr', cellV, g1, g2, g3, -⟩ := hX.2.2.1.1 (x / 4) _ hex
  have hcls := (hK.1 c _ hc.1).2
  have hRA : va_RA s (gm q) (.object C) := (hK.2 q _ (show (ztys gm)[q]? = some (gm q, .object C) by rcases hq with ⟨rfl, rfl⟩ | ⟨rfl, rfl⟩ <;> rfl)).2
  obtain ⟨kA, comp, k1, k2, k3, -⟩ := hRA
  have hcomp : comp = dC c := Option.some.inj (k3.symm.trans hcls.1)
  subst hcomp
  obtain ⟨kC, hkC, -⟩ := hcls.2
  rw [List.map_cons, List.map_cons, List.map_cons, zv_r hx, zv_i hv, zv_r hu]
  refine W.aast hM.1 hM.2.1 (hX.2.2.1.1 (u / 4) _ he) (fun q h => by cases h) (fun h => by cases h) k1 k2 rfl hkC ⟨fun q => hin (Or.inl q), by show _ < (arrV _ _ _).slots.size; rw [arrV_size, hcl]; exact hlt⟩ g1 (fun q h => by rw [g3] at h; cases h) (by rw [g2]; exact hkC) (by rw [g2]; exact va_assign hcls) rfl rfl hd fun H1 e1 z oq => ?_
  rw [hcl] at e1
  obtain ⟨h1, h2, h3, h4, h5, h6, h7'⟩ := hX.down
  refine hG _ ls r B1 F1 top qq h hT H1 _ cells slots LS ⟨h1, hI1, ?_, h4.put z oq ⟨_, rfl⟩, h5, h6, h7'⟩
  rw [hB1]
  refine zH.set hM.2.2.2.2.2.2.2.2.2.2.2.1 h3 hcell ?_ z oq
  rw [ze_q hq2.1 hq2.2]
  show H1[al (u / 4)]? = some (vp_cell _ _)
  rw [e1, vp_cell_q, vp_cell_q, arrV_store, List.length_set]
  refine congrArg (fun f => some (arrV (gm q) fs.length f)) (funext fun j => ?_)
  show (if j = v / 4 then Value.ref (al (x / 4)) else va_rf (zr al (fs.getD j 3))) = va_rf (zr al ((fs.set (v / 4) x).getD j 3))
  rw [List.getD_eq_getElem?_getD, List.getD_eq_getElem?_getD, List.getElem?_set]
  by_cases hj : j = v / 4
  · subst hj
    rw [if_pos rfl, if_pos rfl, if_pos hlt]
    show _ = va_rf (zr al x)
    unfold zr
    rw [if_pos hx]
    rfl
  · rw [if_neg hj, if_neg (fun q => hj q.symm)]
theorem zH.pushes {w ws : List (List Nat)} {H H1 : Heap} (h : zH al tf gm dC dI w H) (he : ∀ i c, ws[i]? = some c → va_at (dC, dI) vwCl (al (w.length + i), ze al tf gm c) H1) (z : H1.size = H.size + ws.length) (o : ∀ q : Nat, q < H.size → H1[q]? = H[q]?) : zH al tf gm dC dI (w ++ ws) H1 := by
  refine ⟨?_, fun i => ?_⟩
  · have e : zw al tf gm (w ++ ws) = zw al tf gm w ++ ws.mapIdx (fun i c => (al (w.length + i), ze al tf gm c)) := by
      unfold zw
      rw [List.mapIdx_append]
      congr 1
      apply List.ext_getElem?
      intro i
      rw [List.getElem?_mapIdx, List.getElem?_mapIdx, Nat.add_comm]
    rw [e]
    refine va_P.app (h.1.kept (fun k x hx => o x.1 ((h.1 k x hx).lt))) (fun k x hx => ?_)
    rw [List.getElem?_mapIdx] at hx
    cases hc : ws[k]? with
    | none => rw [hc] at hx; cases hx
    | some c =>
      rw [hc] at hx
      cases hx
      exact he k c hc
  · rw [List.length_append, Nat.add_assoc, h.2 (ws.length + i), z]
    omega
end ZSET
