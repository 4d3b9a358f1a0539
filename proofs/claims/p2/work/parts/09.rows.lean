section ZR
variable {zi : zMs} {al : Nat → Nat} {tf : Nat × Nat} {gm dC : Nat → ClassId} {dI : Nat → Nat → Nat} {N d : Nat} {l : Launch} {y : MethodName} {bytes : ByteArray} {maxL : Nat} {ret : Option FieldType} {pc : Nat}
theorem zv_in {v n : Nat} (h : v < ev_H) (hn : v / 4 < n) : vp_in (nI (v / 4)) n ∧ (nI (v / 4)).toNatClampNeg = v / 4 := by
  unfold ev_H at h
  have e := nI_clamp (n := v / 4) (by omega)
  refine ⟨?_, e⟩
  rintro (q | q)
  · exact nI_pos (by omega) q
  · rw [e] at q
    omega
theorem zlt_of {fs : List Nat} {k : Nat} (h : fs.getD k 7 ≠ 7) : k < fs.length := (List.getElem?_eq_some_iff.mp (zfs rfl h)).1
theorem zgd {fs : List Nat} {k : Nat} (h : k < fs.length) (a b : Nat) : fs.getD k a = fs.getD k b := by
  rw [List.getD_eq_getElem?_getD, List.getD_eq_getElem?_getD, List.getElem?_eq_getElem h]
  rfl
theorem zo_ald {nx q : Nat} (hd : (q = 0 ∧ decode bytes pc = .ok (.iaload, 1)) ∨ (q = 1 ∧ decode bytes pc = .ok (.baload, 1))) (hn : nx = pc + 1) : zO zi al tf gm dC dI N d l y bytes maxL ret pc (eo_ald N nx q) := by
  intro p e R s m args below meth cc Q rt hrt call go f hM hC hG ls st B F top qq h hT H locs cells slots LS hX
  subst hn
  replace h := ev_uc_some h
  obtain ⟨v, s1, rfl, h⟩ := h
  replace h := ev_uc_some h
  obtain ⟨u, r, rfl, h⟩ := h
  obtain ⟨hv, h⟩ := ev_i_some h
  obtain ⟨hvl, h⟩ := ev_b_some h
  obtain ⟨hu, h⟩ := ev_r_some h
  obtain ⟨cell, hcell, h⟩ := ev_at_some hX.2.1 h
  replace h := ev_uc_some h
  obtain ⟨kd, fs, rfl, h⟩ := h
  replace h := ev_b_some h
  obtain ⟨hkd, h⟩ := h
  have hkd : q = kd := (zb_eq.mp hkd).symm
  subst hkd
  rw [ev_get_eq] at h
  replace h := ev_i_some h
  obtain ⟨hx, h⟩ := h
  have hlt : v / 4 < fs.length := zlt_of (by show fs.getD (Nat.div v 4) 7 ≠ 7; omega)
  obtain ⟨hin, hcl⟩ := zv_in (zb_lt.mp hvl) hlt
  have he := zw_get (al := al) (tf := tf) (gm := gm) hcell
  have K := hG (pc + 1) ls _ B F top qq h hT H locs cells slots LS hX.down
  rw [List.map_cons, zv_i hx] at K
  rw [List.map_cons, List.map_cons, zv_i hv, zv_r hu]
  have e2 : fs.getD (Nat.div v 4) 7 = fs.getD (nI (v / 4)).toNatClampNeg 0 := by
    rw [hcl]
    exact zgd hlt 7 0
  rw [e2] at K
  rcases hd with ⟨rfl, hd⟩ | ⟨rfl, hd⟩
  · rw [ze_n (by omega)] at he
    exact va_iald hM.1 hM.2.1 hM.2.2.2.2.2.2.2.2.1 hX.2.2.1.1 (u / 4) 0 he rfl hin hd K
  · rw [ze_n (by omega)] at he
    exact va_bald hM.1 hM.2.1 hM.2.2.2.2.2.2.2.2.1 hX.2.2.1.1 (u / 4) 1 he rfl hin hd K
theorem zo_aldr {nx q : Nat} {ty : FieldType} (h2 : 2 ≤ q) (h16 : q < 16) (hty : (ztys gm)[q]? = some (gm q, ty)) (hrf : ty.isReference = true) (hd : decode bytes pc = .ok (.aaload, 1)) (hn : nx = pc + 1) : zO zi al tf gm dC dI N d l y bytes maxL ret pc (eo_aldr N nx q) := by
  intro p e R s m args below meth cc Q rt hrt call go f hM hC hG ls st B F top qq h hT H locs cells slots LS hX
  subst hn
  replace h := ev_uc_some h
  obtain ⟨v, s1, rfl, h⟩ := h
  replace h := ev_uc_some h
  obtain ⟨u, r, rfl, h⟩ := h
  obtain ⟨hv, h⟩ := ev_i_some h
  obtain ⟨hvl, h⟩ := ev_b_some h
  obtain ⟨hu, h⟩ := ev_r_some h
  obtain ⟨cell, hcell, h⟩ := ev_at_some hX.2.1 h
  replace h := ev_uc_some h
  obtain ⟨kd, fs, rfl, h⟩ := h
  replace h := ev_b_some h
  obtain ⟨hkd, h⟩ := h
  have hkd : q = kd := (zb_eq.mp hkd).symm
  subst hkd
  rw [ev_get_eq] at h
  have key : (fs.getD (Nat.div v 4) 7 % 4 = 2 ∨ fs.getD (Nat.div v 4) 7 = 3) ∧ go (pc + 1) ls (fs.getD (Nat.div v 4) 7 :: r) B F top = some qq := by
    rcases ev_if zb_eq h with ⟨h1, h⟩ | ⟨-, h⟩
    · exact ⟨Or.inl h1, h⟩
    · obtain ⟨h1, h⟩ := ev_b_some h
      exact ⟨Or.inr (zb_eq.mp h1), h⟩
  obtain ⟨hx, h⟩ := key
  have hlt : v / 4 < fs.length := zlt_of (by show fs.getD (Nat.div v 4) 7 ≠ 7; omega)
  obtain ⟨hin, hcl⟩ := zv_in (zb_lt.mp hvl) hlt
  have he := zw_get (al := al) (tf := tf) (gm := gm) hcell
  rw [ze_q h2 h16] at he
  have K := hG (pc + 1) ls _ B F top qq h hT H locs cells slots LS hX.down
  rw [List.map_cons] at K
  rw [List.map_cons, List.map_cons, zv_i hv, zv_r hu]
  have e2 : fs.getD (Nat.div v 4) 7 = fs.getD (nI (v / 4)).toNatClampNeg 3 := by
    rw [hcl]
    exact zgd hlt 7 3
  have hlt2 : (nI (v / 4)).toNatClampNeg < fs.length := by rw [hcl]; exact hlt
  have ev : zv al tf (fs.getD (Nat.div v 4) 7) = va_rf (zr al (fs.getD (nI (v / 4)).toNatClampNeg 3)) := by
    rw [← e2]
    rcases hx with hx | hx
    · rw [zv_r hx]
      unfold zr
      rw [if_pos hx]
      rfl
    · rw [hx]
      rfl
  rw [ev] at K
  exact W.aald (v := va_rf (zr al (fs.getD (nI (v / 4)).toNatClampNeg 3))) (ty := ty) hM.1 hM.2.1 (hX.2.2.1.1 (u / 4) _ he) ((hM.2.2.2.2.2.2.2.2.1.2 q _ hty).1 fs.length (fun j => va_rf (zr al (fs.getD j 3)))) hrf (fun q => by cases q) (by show ¬ ((nI (v / 4)) < 0 ∨ (arrV _ _ _).slots.size ≤ _); rw [arrV_size]; exact hin) (by show (arrV _ _ _).slots[_]? = _; rw [arrV_read _ _ hlt2]) rfl rfl hd K
theorem zast_ev {go : ev_G} {nx q : Nat} {call : ev_C} {ls st : List Nat} {B F : List (List Nat)} {top : Nat} {qq : ev_R} (hI : zI N B F top) (h : eo_ast N nx q call go pc ls st B F top = some qq) : ∃ x v u r fs B1 F1, st = x :: v :: u :: r ∧ x % 4 = 0 ∧ v % 4 = 0 ∧ v < ev_H ∧ u % 4 = 2 ∧ (B ++ F.reverse)[u / 4]? = some (q :: fs) ∧ v / 4 < fs.length ∧ zI N B1 F1 top ∧ B1 ++ F1.reverse = (B ++ F.reverse).set (u / 4) (q :: fs.set (v / 4) x) ∧ go nx ls r B1 F1 top = some qq := by
  replace h := ev_uc_some h
  obtain ⟨x, s0, rfl, h⟩ := h
  replace h := ev_uc_some h
  obtain ⟨v, s1, rfl, h⟩ := h
  replace h := ev_uc_some h
  obtain ⟨u, r, rfl, h⟩ := h
  obtain ⟨hx, h⟩ := ev_i_some h
  obtain ⟨hv, h⟩ := ev_i_some h
  obtain ⟨hvl, h⟩ := ev_b_some h
  obtain ⟨hu, h⟩ := ev_r_some h
  obtain ⟨cell, hcell, h⟩ := ev_at_some hI h
  replace h := ev_uc_some h
  obtain ⟨kd, fs, rfl, h⟩ := h
  replace h := ev_b_some h
  obtain ⟨hkd, h⟩ := h
  have hkd : q = kd := (zb_eq.mp hkd).symm
  subst hkd
  rw [ev_get_eq] at h
  obtain ⟨h7, h⟩ := ev_b_none h
  have hlt : v / 4 < fs.length := zlt_of (zb_ne h7)
  rw [ev_set_eq] at h
  have hid : u / 4 < top := by
    have := (List.getElem?_eq_some_iff.mp hcell).1
    rw [hI.len] at this
    exact this
  obtain ⟨B1, F1, hI1, hB1, h⟩ := ev_put_some hI hid h
  exact ⟨x, v, u, r, fs, B1, F1, rfl, hx, hv, zb_lt.mp hvl, hu, hcell, hlt, hI1, hB1, h⟩
theorem zast_cell {cA : ClassId} {fs : List Nat} {k x : Nat} (hk : k < fs.length) : (arrV cA fs.length (fun j => Value.int (nI (fs.getD j 0 / 4)))).setSlot k (.int (nI (x / 4))) = vp_cell cA ((fs.set k x).length, .inl (fun j => nI ((fs.set k x).getD j 0 / 4))) := by
  rw [vp_cell_i, arrV_store, List.length_set]
  congr 1
  funext j
  show (if j = k then Value.int (nI (x / 4)) else Value.int (nI (fs.getD j 0 / 4))) = Value.int (nI ((fs.set k x).getD j 0 / 4))
  rw [List.getD_eq_getElem?_getD, List.getD_eq_getElem?_getD, List.getElem?_set]
  by_cases h : j = k
  · subst h
    rw [if_pos rfl, if_pos rfl, if_pos hk]
    rfl
  · rw [if_neg h, if_neg (fun q => h q.symm)]
theorem zast_go {q x v u : Nat} {fs : List Nat} {R : Room} {f : Nat} {s : State} {ls : List Nat} {B F : List (List Nat)} {top : Nat} {H H1 : Heap} {locs : List Loc} {cells slots : Nat} {LS : Array Slot} {k : Nat} (hq : q < 2) (hinj : ∀ i j, al i = al j → i = j) (hX : zX al tf gm dC dI N d maxL f R s ls B F top H locs cells slots LS) (hcell : (B ++ F.reverse)[u]? = some (q :: fs)) (hlt : v < fs.length)
    (e1 : H1[al u]? = some ((arrV (gm q) fs.length (fun j => Value.int (nI (fs.getD j 0 / 4)))).setSlot v (.int (nI (x / 4))))) (z : H1.size = H.size) (oq : ∀ q : Nat, q ≠ al u → H1[q]? = H[q]?) {B1 F1 : List (List Nat)} (hI : zI N B1 F1 top) (hB : B1 ++ F1.reverse = (B ++ F.reverse).set u (q :: fs.set v x)) :
    zX al tf gm dC dI N d maxL f R s ls B1 F1 top H1 (locs ++ [⟨al u, k⟩]) cells slots LS := by
  obtain ⟨h1, h2, h3, h4, h5, h6, h7⟩ := hX
  refine ⟨h1, hI, ?_, h4.put z oq ⟨u, rfl⟩, h5, h6, h7⟩
  rw [hB]
  refine zH.set hinj h3 hcell ?_ z oq
  rw [ze_n hq]
  show H1[al u]? = some (vp_cell _ _)
  rw [e1, zast_cell hlt]
theorem zo_ast {nx : Nat} (hd : decode bytes pc = .ok (.iastore, 1)) (hn : nx = pc + 1) : zO zi al tf gm dC dI N d l y bytes maxL ret pc (eo_ast N nx 0) := by
  intro p e R s m args below meth cc Q rt hrt call go f hM hC hG ls st B F top qq h hT H locs cells slots LS hX
  subst hn
  obtain ⟨x, v, u, r, fs, B1, F1, rfl, hx, hv, hvl, hu, hcell, hlt, hI1, hB1, h⟩ := zast_ev hX.2.1 h
  obtain ⟨hin, hcl⟩ := zv_in hvl hlt
  have he := zw_get (al := al) (tf := tf) (gm := gm) hcell
  rw [ze_n (by omega)] at he
  rw [List.map_cons, List.map_cons, List.map_cons, zv_i hx, zv_i hv, zv_r hu]
  refine W.iast hM.1 hM.2.1 (hX.2.2.1.1 (u / 4) _ he) ((hM.2.2.2.2.2.2.2.2.1.2 0 _ rfl).1 fs.length (fun j => .int (nI (fs.getD j 0 / 4)))) (fun q => by cases q) (by show ¬ ((nI (v / 4)) < 0 ∨ (arrV _ _ _).slots.size ≤ _); rw [arrV_size]; exact hin) rfl rfl hd fun H1 e1 z oq => ?_
  rw [hcl] at e1
  exact hG _ ls r B1 F1 top qq h hT H1 _ cells slots LS (zast_go (by omega) hM.2.2.2.2.2.2.2.2.2.2.2.1 hX.down hcell hlt e1 z oq hI1 hB1)
theorem znb : ∀ k, k < 128 → narrow .byte (.int (nI k)) = .int (nI k) := by decide +kernel
theorem zo_astb {nx : Nat} (hd : decode bytes pc = .ok (.bastore, 1)) (hn : nx = pc + 1) : zO zi al tf gm dC dI N d l y bytes maxL ret pc (eo_astb N nx) := by
  intro p e R s m args below meth cc Q rt hrt call go f hM hC hG ls st B F top qq h hT H locs cells slots LS hX
  subst hn
  replace h := ev_uc_some h
  obtain ⟨x0, s0, e0, h⟩ := h
  replace h := ev_b_some h
  obtain ⟨hx0, h⟩ := h
  replace h := zast_ev hX.2.1 h
  obtain ⟨x, v, u, r, fs, B1, F1, rfl, hx, hv, hvl, hu, hcell, hlt, hI1, hB1, h⟩ := h
  cases e0
  have hx0 := zb_lt.mp hx0
  obtain ⟨hin, hcl⟩ := zv_in hvl hlt
  have he := zw_get (al := al) (tf := tf) (gm := gm) hcell
  rw [ze_n (by omega)] at he
  rw [List.map_cons, List.map_cons, List.map_cons, zv_i hx, zv_i hv, zv_r hu]
  refine W.bast hM.1 hM.2.1 (hX.2.2.1.1 (u / 4) _ he) ((hM.2.2.2.2.2.2.2.2.1.2 1 _ rfl).1 fs.length (fun j => .int (nI (fs.getD j 0 / 4)))) (fun q => by cases q) (by show ¬ ((nI (v / 4)) < 0 ∨ (arrV _ _ _).slots.size ≤ _); rw [arrV_size]; exact hin) rfl rfl hd fun H1 e1 z oq => ?_
  rw [hcl, znb _ (by omega)] at e1
  exact hG _ ls r B1 F1 top qq h hT H1 _ cells slots LS (zast_go (by omega) hM.2.2.2.2.2.2.2.2.2.2.2.1 hX.down hcell hlt e1 z oq hI1 hB1)
theorem zo_len {nx q : Nat} {ty : FieldType} (h16 : q < 16) (hty : (ztys gm)[q]? = some (gm q, ty)) (hd : decode bytes pc = .ok (.arraylength, 1)) (hn : nx = pc + 1) : zO zi al tf gm dC dI N d l y bytes maxL ret pc (eo_len N nx q) := by
  intro p e R s m args below meth cc Q rt hrt call go f hM hC hG ls st B F top qq h hT H locs cells slots LS hX
  subst hn
  replace h := ev_uc_some h
  obtain ⟨u, r, rfl, h⟩ := h
  obtain ⟨hu, h⟩ := ev_r_some h
  obtain ⟨cell, hcell, h⟩ := ev_at_some hX.2.1 h
  replace h := ev_uc_some h
  obtain ⟨kd, fs, rfl, h⟩ := h
  replace h := ev_b_some h
  obtain ⟨hkd, h⟩ := h
  have hkd : q = kd := (zb_eq.mp hkd).symm
  subst hkd
  rw [ev_len_eq, ev_nf_eq, Nat.zero_add] at h
  have K := hG (pc + 1) ls _ B F top qq h hT H locs cells slots LS hX.down
  rw [List.map_cons, show Nat.mul 4 fs.length = 4 * fs.length from rfl, zv_k] at K
  rw [List.map_cons, zv_r hu]
  have he := zw_get (al := al) (tf := tf) (gm := gm) hcell
  by_cases h2 : q < 2
  · rw [ze_n h2] at he
    exact va_alen hM.1 hM.2.1 hM.2.2.2.2.2.2.2.2.1 hX.2.2.1.1 (u / 4) q he hty rfl hd K
  · rw [ze_q (by omega) h16] at he
    exact va_alen hM.1 hM.2.1 hM.2.2.2.2.2.2.2.2.1 hX.2.2.1.1 (u / 4) q he hty rfl hd K
/-- a new cell goes on the world's end -/
theorem znew_go {cl : List Nat} {R : Room} {f k n : Nat} {s : State} {ls : List Nat} {B F : List (List Nat)} {top : Nat} {H H1 : Heap} {locs : List Loc} {cells slots : Nat} {LS : Array Slot} (hX : zX al tf gm dC dI N d maxL (f + 1) R s ls B F top H locs cells slots LS) (he : va_at (dC, dI) vwCl (al (B ++ F.reverse).length, ze al tf gm cl) H1) (z : H1.size = H.size + 1) (o : ∀ q : Nat, q < H.size → H1[q]? = H[q]?) (hk : k ≤ 1) (hn : n ≤ 65536) :
    zX al tf gm dC dI N d maxL f R s ls B (cl :: F) (top + 1) H1 locs (cells + k) (slots + n) LS := by
  obtain ⟨h1, h2, h3, h4, h5, h6, h7⟩ := hX
  obtain ⟨g1, g2⟩ := h2.push cl
  have c1 := zC_pos d
  have c2 := zS_pos d
  rw [Nat.succ_mul] at h5 h6
  exact ⟨h1, g1, by rw [g2]; exact h3.push he z o, zS.push h4 z o, by omega, by omega, h7⟩
theorem znew_room {R : Room} {f : Nat} {s : State} {ls : List Nat} {B F : List (List Nat)} {top : Nat} {H : Heap} {locs : List Loc} {cells slots n : Nat} {LS : Array Slot} (hX : zX al tf gm dC dI N d maxL (f + 1) R s ls B F top H locs cells slots LS) (hn : n ≤ 65536) : cells + 1 ≤ R.cells ∧ slots + n ≤ R.slots := by
  obtain ⟨-, -, -, -, h5, h6, -⟩ := hX
  have c1 := zC_pos d
  have c2 := zS_pos d
  rw [Nat.succ_mul] at h5 h6
  exact ⟨by omega, by omega⟩
theorem zo_newa {nx q : Nat} {atype : ArrayType} (hq : (q = 0 ∧ atype = .int) ∨ (q = 1 ∧ atype = .byte)) (harr : Cond.arrayClass (newarray.typeOf atype) ∈ zTS) (hd : decode bytes pc = .ok (.newarray atype, 2)) (hn : nx = pc + 2) : zO zi al tf gm dC dI N d l y bytes maxL ret pc (eo_newa nx q 0) := by
  intro p e R s m args below meth cc Q rt hrt call go f hM hC hG ls st B F top qq h hT H locs cells slots LS hX
  subst hn
  replace h := ev_uc_some h
  obtain ⟨n, r, rfl, h⟩ := h
  obtain ⟨hn4, h⟩ := ev_i_some h
  obtain ⟨hnl, h⟩ := ev_b_some h
  have hnl := zb_le.mp hnl
  rw [ev_nf_eq, ev_rep_eq, ev_nf_eq, ev_nf_eq, List.append_nil] at h
  rw [List.map_cons, zv_i hn4]
  have hclm := nI_clamp (n := n / 4) (by omega)
  obtain ⟨r1, r2⟩ := znew_room (n := n / 4) hX (by omega)
  have hbytes : n / 4 * componentBytes (newarray.typeOf atype) ≤ 536870912 := by
    rcases hq with ⟨-, rfl⟩ | ⟨-, rfl⟩
    · show n / 4 * 4 ≤ _
      omega
    · show n / 4 * 1 ≤ _
      omega
  refine va_newaK hM.1 hM.2.1 (hM.2.2.2.2.2.2.1 _ harr) rfl hd rfl (nI_pos (by omega)) hclm hbytes r1 r2 rfl fun H1 cA e1 z1 o1 hAr hNm => ?_
  have hRA := (hM.2.2.2.2.2.2.2.2.1.2 q _ (show (ztys gm)[q]? = some (gm q, newarray.typeOf atype) by rcases hq with ⟨rfl, rfl⟩ | ⟨rfl, rfl⟩ <;> rfl)).2
  have hcA : cA = gm q := by
    have h2 : s.vm.findClass ("[" ++ (newarray.typeOf atype).toString) = some (gm q) := by
      rcases hq with ⟨rfl, rfl⟩ | ⟨rfl, rfl⟩ <;> exact hRA
    exact Option.some.inj (hNm.symm.trans h2)
  subst hcA
  have htop := hX.2.2.1.top
  have hlen := hX.2.1.len
  have K := hG (pc + 2) ls _ B _ (top + 1) qq h hT H1 locs (cells + 1) (slots + n / 4) LS (znew_go hX (by
    rw [ze_n (by rcases hq with ⟨rfl, -⟩ | ⟨rfl, -⟩ <;> omega), htop]
    show H1[H.size]? = some (vp_cell _ _)
    rw [e1, vp_cell_i, List.length_replicate]
    congr 2
    funext j
    have ez : (List.replicate (Nat.div n 4) 0).getD j 0 = 0 := by
      rw [List.getD_eq_getElem?_getD, List.getElem?_replicate]
      by_cases hj : j < Nat.div n 4
      · rw [if_pos hj]; rfl
      · rw [if_neg hj]; rfl
    rw [ez]
    rcases hq with ⟨-, rfl⟩ | ⟨-, rfl⟩ <;> rfl) z1 o1 (Nat.le_refl 1) (by omega))
  rw [List.map_cons] at K
  have ev : zv al tf (Nat.add (Nat.mul 4 top) 2) = .ref H.size := by
    rw [← htop, hlen]
    exact zv_kr top
  rw [ev] at K
  exact K
theorem zo_new {nx c n index : Nat} {C : String} {T : u_T} {ty0 : Nat → FieldType} {fs : List Nat} (hc : zCl c C T n) (hty : ∀ k, k < n → parseFieldDescriptor (T k).2.2.1 = some (ty0 k)) (hfs : ∀ al tf j, j < n → defaultValue (ty0 j) = vp_V (fs.map (zv al tf)) j) (hd : decode bytes pc = .ok (.new index, 3)) (hn : nx = pc + 3) (hn6 : n ≤ 65536) (hl : Cond.classLink y.cls index C ∈ zTS) (hi : Cond.instantiable C n ∈ zTS) (hini : Cond.initialized C ∈ zTS) : zO zi al tf gm dC dI N d l y bytes maxL ret pc (eo_new nx c fs) := by
  intro p e R s m args below meth cc Q rt hrt call go f hM hC hG ls st B F top qq h hT H locs cells slots LS hX
  subst hn
  replace h : ev_nf (Nat.add (Nat.mul 4 top) 2) (fun w => ev_nf (Nat.succ top) fun top' => go (pc + 3) ls (w :: st) B (((Nat.add 16 c) :: fs) :: F) top') = some qq := h
  rw [ev_nf_eq, ev_nf_eq] at h
  obtain ⟨r1, r2⟩ := znew_room (n := n) hX hn6
  have hKn := hM.2.2.2.2.2.2.2.2.1.1 c _ hc.1
  have htop := hX.2.2.1.top
  have hlen := hX.2.1.len
  refine W.newcK hM.1 hM.2.1 hM.2.2.2.2.2.1 (hM.2.2.2.2.2.2.1 _ hl) (hM.2.2.2.2.2.2.1 _ hi) (hM.2.2.2.2.2.2.1 _ hini) rfl hd r1 r2 hKn.2.1 rfl fun H1 kC hkC e1 z1 o1 => ?_
  have K := hG (pc + 3) ls _ B _ (top + 1) qq h hT H1 locs (cells + 1) (slots + n) LS (znew_go hX (by
    rw [show (Nat.add 16 c) :: fs = (16 + c) :: fs from rfl, ze_o, htop]
    exact ⟨_, hc.1, (u_born ty0 hM.2.2.2.2.2.2.1 hc.2.1 hKn hkC e1 hty).to (hfs al tf)⟩) z1 o1 (Nat.le_refl 1) hn6)
  rw [List.map_cons] at K
  have ev : zv al tf (Nat.add (Nat.mul 4 top) 2) = .ref H.size := by
    rw [← htop, hlen]
    exact zv_kr top
  rw [ev] at K
  exact K
theorem zcat_le (r : List Nat) : ((r.map (zv al tf)).map fun v => v.category).sum ≤ 2 * r.length := by
  induction r with
  | nil => exact Nat.le_refl _
  | cons a t ih =>
    rw [List.map_cons, List.map_cons, List.sum_cons, List.length_cons]
    have := zv_c (al := al) (tf := tf) (v := a)
    omega
theorem zo_oinit {nx index : Nat} (hd : decode bytes pc = .ok (.invokespecial index, 3)) (hn : nx = pc + 3) (hl : Cond.methodLink y.cls index Lib.objectInit ∈ zTS) (hi : Cond.instanceMethod Lib.objectInit ∈ zTS) (hco : Cond.code Lib.objectInit ⟨#[0xb1]⟩ 1 none ∈ zTS) : zO zi al tf gm dC dI N d l y bytes maxL ret pc (eo_oinit nx) := by
  intro p e R s m args below meth cc Q rt hrt call go f hM hC hG ls st B F top qq h hT H locs cells slots LS hX
  subst hn
  replace h := ev_uc_some h
  obtain ⟨u, r, rfl, h⟩ := h
  obtain ⟨hu, h⟩ := ev_r_some h
  obtain ⟨hr, h⟩ := ev_upto_some 4 r _ _ h
  rw [List.map_cons, zv_r hu]
  have hlo := hM.2.2.2.2.2.2.2.2.2.2.2.2.2
  have hfr := hM.2.2.2.2.2.2.2.2.2.2.2.2.1
  have hc := zcat_le (al := al) (tf := tf) r
  refine W.objInit hM.1 hM.2.1 hM.2.2.2.2.2.1 (hM.2.2.2.2.2.2.1 _ hl) (hM.2.2.2.2.2.2.1 _ hi) (hM.2.2.2.2.2.2.1 _ hco) rfl (by rw [hM.2.2.1]; exact hX.1.1.trans hX.2.2.2.2.2.2) rfl hd (by omega) (by show 2 * 0 + _ + 12 ≤ _; omega) ?_
  exact hG (pc + 3) ls r B F top qq h hT H locs cells slots LS hX.down
theorem zo_ldcs {nx id index : Nat} {tx : String} (hd : decode bytes pc = .ok (.ldc index, 2)) (hn : nx = pc + 2) (hl : (y.cls, index, tx, id) ∈ zstrs) : zO zi al tf gm dC dI N d l y bytes maxL ret pc (eo_push nx (4 * (tf.2 + id) + 2)) :=
  zo_push fun p e R s m args below meth c Q H locs cells slots LS rest hM _ K => va_ldcS hM.1 hM.2.1 hM.2.2.2.2.2.1 (hM.2.2.2.2.2.2.2.2.2.1.2.2.2.2.1 _ hl) hd (by rw [zv_kr] at K; rw [← hn]; exact K)
theorem zo_gets {nx v index : Nat} {C n dd : String} (hZ : ∀ s, zQ al tf s → va_Z C n dd (zv al tf v) (zA al) s s.heap) (hd : decode bytes pc = .ok (.getstatic index, 3)) (hn : nx = pc + 3) (hl : Cond.fieldLink y.cls index C n dd ∈ zTS) : zO zi al tf gm dC dI N d l y bytes maxL ret pc (eo_push nx v) :=
  zo_push fun p e R s m args below meth c Q H locs cells slots LS rest hM hS K => va_gets hM.1 hM.2.1 (hZ s hM.2.2.2.2.2.2.2.2.2.1) hS hM.2.2.2.2.2.1 (hM.2.2.2.2.2.2.1 _ hl) (fun _ z => z) hd (by rw [← hn]; exact K)
end ZR
