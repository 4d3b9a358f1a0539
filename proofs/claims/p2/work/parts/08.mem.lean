section ZH
variable {al : Nat → Nat} {tf : Nat × Nat} {gm dC : Nat → ClassId} {dI : Nat → Nat → Nat}
theorem zH.set {w : List (List Nat)} {id : Nat} {c c' : List Nat} {H H1 : Heap} (hinj : ∀ i j, al i = al j → i = j) (h : zH al tf gm dC dI w H) (hc : w[id]? = some c) (he : va_at (dC, dI) vwCl (al id, ze al tf gm c') H1) (z : H1.size = H.size) (oq : ∀ q : Nat, q ≠ al id → H1[q]? = H[q]?) : zH al tf gm dC dI (w.set id c') H1 :=
  ⟨by rw [zw_set]; exact va_P.set h.1 (zw_D hinj w) (zw_get hc) he oq, fun i => by rw [List.length_set, z]; exact h.2 i⟩
theorem zH.push {w : List (List Nat)} {c : List Nat} {H H1 : Heap} (h : zH al tf gm dC dI w H) (he : va_at (dC, dI) vwCl (al w.length, ze al tf gm c) H1) (z : H1.size = H.size + 1) (o : ∀ q : Nat, q < H.size → H1[q]? = H[q]?) : zH al tf gm dC dI (w ++ [c]) H1 := by
  refine ⟨?_, fun i => ?_⟩
  · rw [zw_push]
    refine va_P.app (h.1.kept (fun k x hx => o x.1 ((h.1 k x hx).lt))) (fun k x hx => ?_)
    have hz : k < 1 := (List.getElem?_eq_some_iff.mp hx).1
    rw [show k = 0 by omega] at hx
    cases hx
    exact he
  · rw [List.length_append, List.length_singleton, Nat.add_assoc, h.2 (1 + i), z]
    omega
theorem zS.push {A : Nat → Prop} {H0 H H1 : Heap} {locs : List Loc} (hS : va_S A H0 H locs) (z : H1.size = H.size + 1) (o : ∀ q : Nat, q < H.size → H1[q]? = H[q]?) : va_S A H0 H1 locs :=
  ⟨Nat.le_trans hS.1 (by omega), fun x h1 h2 => (o x (Nat.lt_of_lt_of_le h1 hS.1)).trans (hS.2.1 x h1 h2), hS.2.2⟩
theorem zH.top {w : List (List Nat)} {H : Heap} (h : zH al tf gm dC dI w H) : al w.length = H.size := by
  have := h.2 0
  simpa using this
end ZH
section ZM
variable {zi : zMs} {al : Nat → Nat} {tf : Nat × Nat} {gm dC : Nat → ClassId} {dI : Nat → Nat → Nat} {N d : Nat} {l : Launch} {y : MethodName} {bytes : ByteArray} {maxL : Nat} {ret : Option FieldType} {pc : Nat}
/-- a class of the world: its number, name, fields, how many; its words stand -/
def zCl (c : Nat) (C : String) (T : u_T) (n : Nat) : Prop := vwCl[c]? = some (C, T, n) ∧ (∀ w ∈ u_ws C T n, w ∈ zTS) ∧ (∀ a, a < n → ∀ b, b < n → a ≠ b → (T a).2.1 ≠ (T b).2.1)
theorem zfs {fs : List Nat} {k v : Nat} (h : fs.getD k 7 = v) (h7 : v ≠ 7) : fs[k]? = some v := by
  rw [List.getD_eq_getElem?_getD] at h
  cases hk : fs[k]? with
  | none => rw [hk] at h; exact absurd h.symm h7
  | some x => rw [hk] at h; exact congrArg some h
theorem zo_getf {nx c k n index : Nat} {C : String} {T : u_T} (hc : zCl c C T n) (hk : k < n) (hd : decode bytes pc = .ok (.getfield index, 3)) (hn : nx = pc + 3) (hl : Cond.fieldLink y.cls index (T k).1 (T k).2.1 (T k).2.2.1 ∈ zTS) : zO zi al tf gm dC dI N d l y bytes maxL ret pc (eo_getf N nx c k) := by
  intro p e R s m args below meth cc Q rt hrt call go f hM hC hG ls st B F top q h hT H locs cells slots LS hX
  subst hn
  replace h := ev_uc_some h
  obtain ⟨u, r, rfl, h⟩ := h
  obtain ⟨hu, h⟩ := ev_r_some h
  obtain ⟨cell, hcell, h⟩ := ev_at_some hX.2.1 h
  replace h := ev_uc_some h
  obtain ⟨kd, fs, rfl, h⟩ := h
  replace h := ev_b_some h
  obtain ⟨hkd, h⟩ := h
  have hkd : kd = 16 + c := zb_eq.mp hkd
  subst hkd
  rw [ev_get_eq] at h
  obtain ⟨h7, h⟩ := ev_b_none h
  have hv := zfs rfl (zb_ne h7)
  generalize fs.getD k 7 = v at h h7 hv
  have he := zw_get (al := al) (tf := tf) (gm := gm) hcell
  rw [ze_o] at he
  rw [List.map_cons, zv_r hu]
  refine va_get hM.1 hM.2.1 hM.2.2.2.2.2.2.1 hc.2.1 hM.2.2.2.2.2.1 hM.2.2.2.2.2.2.2.2.1 hX.2.2.1.1 (u / 4) he hc.1 k hk (hM.2.2.2.2.2.2.1 _ hl) (fun _ z => z) (v := zv al tf v) (by rw [List.getElem?_map, hv]; rfl) hd ?_
  exact hG _ ls _ B F top q h hT H locs cells slots LS hX.down
theorem zo_getN {nx c k n index : Nat} {C host : String} {T : u_T} (hc : zCl c C T n) (hk : k < n) (hd : decode bytes pc = .ok (.getfield index, 3)) (hn : nx = pc + 3) (hl : (y.cls, index, (T k).1, (T k).2.1, (T k).2.2.1, host) ∈ znf) : zO zi al tf gm dC dI N d l y bytes maxL ret pc (eo_getf N nx c k) := by
  intro p e R s m args below meth cc Q rt hrt call go f hM hC hG ls st B F top q h hT H locs cells slots LS hX
  subst hn
  replace h := ev_uc_some h
  obtain ⟨u, r, rfl, h⟩ := h
  obtain ⟨hu, h⟩ := ev_r_some h
  obtain ⟨cell, hcell, h⟩ := ev_at_some hX.2.1 h
  replace h := ev_uc_some h
  obtain ⟨kd, fs, rfl, h⟩ := h
  replace h := ev_b_some h
  obtain ⟨hkd, h⟩ := h
  have hkd : kd = 16 + c := zb_eq.mp hkd
  subst hkd
  rw [ev_get_eq] at h
  obtain ⟨h7, h⟩ := ev_b_none h
  have hv := zfs rfl (zb_ne h7)
  generalize fs.getD k 7 = v at h h7 hv
  have he := zw_get (al := al) (tf := tf) (gm := gm) hcell
  rw [ze_o] at he
  rw [List.map_cons, zv_r hu]
  have hnw := hM.2.2.2.2.2.2.2.2.2.1.2.2.2.2.2.1 _ hl
  refine va_getN hM.1 hM.2.1 hM.2.2.2.2.2.2.1 hc.2.1 hM.2.2.2.2.2.1 hM.2.2.2.2.2.2.2.2.1 hX.2.2.1.1 (u / 4) he hc.1 k hk (va_Nw.use rfl hnw) (fun _ z => z) (v := zv al tf v) (by rw [List.getElem?_map, hv]; rfl) hd ?_
  exact hG _ ls _ B F top q h hT H locs cells slots LS hX.down
/-- what a put hands on -/
theorem zput_go {c k v u : Nat} {fs : List Nat} {R : Room} {f : Nat} {s : State} {ls : List Nat} {B F : List (List Nat)} {top : Nat} {H H1 : Heap} {locs : List Loc} {cells slots : Nat} {LS : Array Slot} {C : String} {T : u_T} {n sl : Nat} (hinj : ∀ i j, al i = al j → i = j) (hX : zX al tf gm dC dI N d maxL f R s ls B F top H locs cells slots LS) (hcell : (B ++ F.reverse)[u]? = some ((16 + c) :: fs)) (hc : vwCl[c]? = some (C, T, n)) {ce : Cell} (hkl : k < fs.length)
    (hap : ∀ a b, a < n → b < n → a ≠ b → (dI c) a ≠ (dI c) b) (hk : k < n) (q4 : ∀ j, j < n → ce.slots[(dI c) j]? = some (vp_V (fs.map (zv al tf)) j)) (q2 : ce.cls = dC c) (q3 : ce.vm = .none)
    (e1 : H1[al u]? = some (ce.setSlot ((dI c) k) (zv al tf v))) (z : H1.size = H.size) (oq : ∀ q : Nat, q ≠ al u → H1[q]? = H[q]?) {B1 F1 : List (List Nat)} (hI : zI N B1 F1 top) (hB : B1 ++ F1.reverse = (B ++ F.reverse).set u ((16 + c) :: fs.set k v)) :
    zX al tf gm dC dI N d maxL f R s ls B1 F1 top H1 (locs ++ [⟨al u, sl⟩]) cells slots LS := by
  obtain ⟨h1, h2, h3, h4, h5, h6, h7⟩ := hX
  refine ⟨h1, hI, ?_, h4.put z oq ⟨u, rfl⟩, h5, h6, h7⟩
  rw [hB]
  refine zH.set hinj h3 hcell ?_ z oq
  rw [ze_o]
  refine ⟨_, hc, t_OB.to (V := updV (vp_V (fs.map (zv al tf))) k (zv al tf v)) ⟨_, e1, q2, q3, t_set q4 hap hk _⟩ (fun j _ => ?_)⟩
  rw [List.map_set]
  exact vp_updV_set (by rw [List.length_map]; exact hkl) _ j
theorem zput_ev {go : ev_G} {nx c k j : Nat} {call : ev_C} {ls st : List Nat} {B F : List (List Nat)} {top : Nat} {q : ev_R} (hI : zI N B F top) (h : eo_putf N nx c k j call go pc ls st B F top = some q) : ∃ v u r fs B1 F1, st = v :: u :: r ∧ v % 4 = j ∧ u % 4 = 2 ∧ (B ++ F.reverse)[u / 4]? = some ((16 + c) :: fs) ∧ k < fs.length ∧ zI N B1 F1 top ∧ B1 ++ F1.reverse = (B ++ F.reverse).set (u / 4) ((16 + c) :: fs.set k v) ∧ go nx ls r B1 F1 top = some q := by
  replace h := ev_uc_some h
  obtain ⟨v, s1, rfl, h⟩ := h
  replace h := ev_uc_some h
  obtain ⟨u, r, rfl, h⟩ := h
  obtain ⟨hj, h⟩ := ev_b_some h
  obtain ⟨hu, h⟩ := ev_r_some h
  obtain ⟨cell, hcell, h⟩ := ev_at_some hI h
  replace h := ev_uc_some h
  obtain ⟨kd, fs, rfl, h⟩ := h
  replace h := ev_b_some h
  obtain ⟨hkd, h⟩ := h
  have hkd : kd = 16 + c := zb_eq.mp hkd
  subst hkd
  rw [ev_get_eq] at h
  obtain ⟨h7, h⟩ := ev_b_none h
  have hkl := (List.getElem?_eq_some_iff.mp (zfs rfl (zb_ne h7))).1
  rw [ev_set_eq] at h
  have hid : u / 4 < top := by
    have := (List.getElem?_eq_some_iff.mp hcell).1
    rw [hI.len] at this
    exact this
  obtain ⟨B1, F1, hI1, hB1, h⟩ := ev_put_some hI hid h
  exact ⟨v, u, r, fs, B1, F1, rfl, zb_eq.mp hj, hu, hcell, hkl, hI1, hB1, h⟩
theorem zo_put {nx c k n j : Nat} {C : String} {T : u_T} {ty0 : Nat → FieldType} {ins : ev_I} {P : Nat → Prop} (hc : zCl c C T n) (hty : ∀ k, k < n → parseFieldDescriptor (T k).2.2.1 = some (ty0 k)) (hk : k < n)
    (hins : ∀ call go ls st B F top q, ins call go pc ls st B F top = some q → eo_putf N nx c k j call go pc ls st B F top = some q ∧ ∀ v u r, st = v :: u :: r → P v)
    (hrow : ∀ p e R s m args below meth cc Q H locs cells slots LS (rest : List Value) (a : Nat) (ce : Cell) (v : Nat), zM al tf gm dC dI d y bytes maxL ret p R s m args meth cc → H[a]? = some ce → ce.cls = dC c → ce.vm = .none → (dI c) k < ce.slots.size → v % 4 = j → P v →
      (∀ H1 : Heap, H1[a]? = some (ce.setSlot ((dI c) k) (zv al tf v)) → H1.size = H.size → (∀ q : Nat, q ≠ a → H1[q]? = H[q]?) → W p l e R s m args below meth cc H1 (locs ++ [⟨a, (dI c) k⟩]) cells slots Q (F0 m nx LS rest)) → W p l e R s m args below meth cc H locs cells slots Q (F0 m pc LS (zv al tf v :: .ref a :: rest))) : zO zi al tf gm dC dI N d l y bytes maxL ret pc ins := by
  intro p e R s m args below meth cc Q rt hrt call go f hM hC hG ls st B F top q h hT H locs cells slots LS hX
  obtain ⟨h, hPv⟩ := hins call go ls st B F top q h
  obtain ⟨v, u, r, fs, B1, F1, rfl, hj, hu, hcell, hkl, hI1, hB1, h⟩ := zput_ev hX.2.1 h
  have he := zw_get (al := al) (tf := tf) (gm := gm) hcell
  rw [ze_o] at he
  obtain ⟨rr, h1, ce, q1, q2, q3, q4⟩ := hX.2.2.1.1 (u / 4) _ he
  have hr : rr = (C, T, n) := Option.some.inj (h1.symm.trans hc.1)
  subst hr
  rw [List.map_cons, List.map_cons, zv_r hu]
  have hap := va_apart (own := y.cls) hM.2.2.2.2.2.2.1 hc.2.1 ty0 hty hc.2.2 hM.2.2.2.2.2.2.2.2.1 hc.1
  refine hrow p e R s m args below meth cc Q H locs cells slots LS _ (al (u / 4)) ce v hM q1 q2 q3 (k2_hasslot (q4 k hk)) hj (hPv v u r rfl) (fun H1 e1 z oq => ?_)
  exact hG nx ls r B1 F1 top q h hT H1 _ cells slots LS (zput_go hM.2.2.2.2.2.2.2.2.2.2.2.1 hX.down hcell hc.1 hkl hap hk q4 q2 q3 e1 z oq hI1 hB1)
theorem zo_putf {nx c k n index j : Nat} {C : String} {T : u_T} {ty0 : Nat → FieldType} {ty : FieldType} (hc : zCl c C T n) (hty : ∀ k, k < n → parseFieldDescriptor (T k).2.2.1 = some (ty0 k)) (hk : k < n) (hd : decode bytes pc = .ok (.putfield index, 3)) (hn : nx = pc + 3) (hl : Cond.fieldLink y.cls index (T k).1 (T k).2.1 (T k).2.2.1 ∈ zTS) (hfin : (T k).2.2.2 = false) (hpd : parseFieldDescriptor (T k).2.2.1 = some ty) (hnf : ∀ v, v % 4 = j → narrow ty (zv al tf v) = zv al tf v ∧ fits ty (zv al tf v) = true) : zO zi al tf gm dC dI N d l y bytes maxL ret pc (eo_putf N nx c k j) := by
  refine zo_put (nx := nx) (P := fun _ => True) hc hty hk (fun call go ls st B F top q h => ⟨h, fun _ _ _ _ => trivial⟩) (fun p e R s m args below meth cc Q H locs cells slots LS rest a ce v hM q1 q2 q3 hlt hj _ kk => ?_)
  subst hn
  obtain ⟨hS, hfc, kC, hkC, hkind⟩ := hM.2.2.2.2.2.2.2.2.1.1 c _ hc.1
  obtain ⟨cf, kf, fi, fd, hi, hsl⟩ := hS k hk
  have hlay := hM.2.2.2.2.2.2.1 _ (hc.2.1 _ (u_in_lay hk))
  unfold u_lay at hlay
  rw [if_neg (by rw [hfin]; decide)] at hlay
  have hst := (u_facts hfc hkC (u_lays hM.2.2.2.2.2.2.1 hc.2.1 hk) hi).1
  have h6 := u_store hfc hkC hkind hlay hi hpd (hnf v hj).1 (hnf v hj).2
  refine W.putK hM.1 hM.2.1 (f := fd) ⟨hM.2.2.2.2.2.1, hM.2.2.2.2.2.2.1 _ hl, ⟨_, _, _, hi⟩, hst⟩ (by rw [q2]; exact h6) q1 q3 (by rw [hsl]; exact hlt) rfl rfl hd fun H' e1 e2 e3 => ?_
  rw [hsl] at e1 ⊢
  exact kk H' e1 e2 e3
theorem zo_putz {nx c k n index : Nat} {C : String} {T : u_T} {ty0 : Nat → FieldType} {ty : FieldType} (hc : zCl c C T n) (hty : ∀ k, k < n → parseFieldDescriptor (T k).2.2.1 = some (ty0 k)) (hk : k < n) (hd : decode bytes pc = .ok (.putfield index, 3)) (hn : nx = pc + 3) (hl : Cond.fieldLink y.cls index (T k).1 (T k).2.1 (T k).2.2.1 ∈ zTS) (hfin : (T k).2.2.2 = false) (hpd : parseFieldDescriptor (T k).2.2.1 = some ty) (hnf : ty = .byte ∨ ty = .boolean) : zO zi al tf gm dC dI N d l y bytes maxL ret pc (eo_putz N nx c k) := by
  refine zo_put (nx := nx) (j := 0) (P := fun v => v ≤ 4) hc hty hk (fun call go ls st B F top q h => ?_) (fun p e R s m args below meth cc Q H locs cells slots LS rest a ce v hM q1 q2 q3 hlt hj hP kk => ?_)
  · replace h := ev_uc_some h
    obtain ⟨v, r, rfl, h⟩ := h
    obtain ⟨hb, h⟩ := ev_b_some h
    exact ⟨h, fun v' u r' e => by cases e; exact zb_le.mp hb⟩
  · subst hn
    have hnf2 : narrow ty (zv al tf v) = zv al tf v ∧ fits ty (zv al tf v) = true := by
      have hv : v = 0 ∨ v = 4 := by omega
      rcases hnf with rfl | rfl <;> rcases hv with rfl | rfl <;> exact ⟨rfl, rfl⟩
    obtain ⟨hS, hfc, kC, hkC, hkind⟩ := hM.2.2.2.2.2.2.2.2.1.1 c _ hc.1
    obtain ⟨cf, kf, fi, fd, hi, hsl⟩ := hS k hk
    have hlay := hM.2.2.2.2.2.2.1 _ (hc.2.1 _ (u_in_lay hk))
    unfold u_lay at hlay
    rw [if_neg (by rw [hfin]; decide)] at hlay
    have hst := (u_facts hfc hkC (u_lays hM.2.2.2.2.2.2.1 hc.2.1 hk) hi).1
    have h6 := u_store hfc hkC hkind hlay hi hpd hnf2.1 hnf2.2
    refine W.putK hM.1 hM.2.1 (f := fd) ⟨hM.2.2.2.2.2.1, hM.2.2.2.2.2.2.1 _ hl, ⟨_, _, _, hi⟩, hst⟩ (by rw [q2]; exact h6) q1 q3 (by rw [hsl]; exact hlt) rfl rfl hd fun H' e1 e2 e3 => ?_
    rw [hsl] at e1 ⊢
    exact kk H' e1 e2 e3
theorem zo_putN {nx c k n index j : Nat} {C host : String} {T : u_T} {ty0 : Nat → FieldType} {ty : FieldType} (hc : zCl c C T n) (hty : ∀ k, k < n → parseFieldDescriptor (T k).2.2.1 = some (ty0 k)) (hk : k < n) (hd : decode bytes pc = .ok (.putfield index, 3)) (hn : nx = pc + 3) (hl : (y.cls, index, (T k).1, (T k).2.1, (T k).2.2.1, host) ∈ znf) (hfin : (T k).2.2.2 = false) (hpd : parseFieldDescriptor (T k).2.2.1 = some ty) (hnf : ∀ v, v % 4 = j → narrow ty (zv al tf v) = zv al tf v ∧ fits ty (zv al tf v) = true) : zO zi al tf gm dC dI N d l y bytes maxL ret pc (eo_putf N nx c k j) := by
  refine zo_put (nx := nx) (P := fun _ => True) hc hty hk (fun call go ls st B F top q h => ⟨h, fun _ _ _ _ => trivial⟩) (fun p e R s m args below meth cc Q H locs cells slots LS rest a ce v hM q1 q2 q3 hlt hj _ kk => ?_)
  subst hn
  obtain ⟨hS, hfc, kC, hkC, hkind⟩ := hM.2.2.2.2.2.2.2.2.1.1 c _ hc.1
  obtain ⟨cf, kf, fi, fd, hi, hsl⟩ := hS k hk
  have hlay := hM.2.2.2.2.2.2.1 _ (hc.2.1 _ (u_in_lay hk))
  unfold u_lay at hlay
  rw [if_neg (by rw [hfin]; decide)] at hlay
  have hst := (u_facts hfc hkC (u_lays hM.2.2.2.2.2.2.1 hc.2.1 hk) hi).1
  have h6 := u_store hfc hkC hkind hlay hi hpd (hnf v hj).1 (hnf v hj).2
  have hnw := hM.2.2.2.2.2.2.2.2.2.1.2.2.2.2.2.1 _ hl
  refine va_WputK hM.1 hM.2.1 (f := fd) hM.2.2.2.2.2.1 (va_Nw.use rfl hnw) hi hst (by rw [q2]; exact h6) q1 q3 (by rw [hsl]; exact hlt) rfl rfl hd fun H' e1 e2 e3 => ?_
  rw [hsl] at e1 ⊢
  exact kk H' e1 e2 e3
theorem zo_putF {nx c k n index j : Nat} {C : String} {T : u_T} {ty0 : Nat → FieldType} {ty : FieldType} (hc : zCl c C T n) (hty : ∀ k, k < n → parseFieldDescriptor (T k).2.2.1 = some (ty0 k)) (hk : k < n) (hd : decode bytes pc = .ok (.putfield index, 3)) (hn : nx = pc + 3) (hl : Cond.fieldLink y.cls index (T k).1 (T k).2.1 (T k).2.2.1 ∈ zTS) (hfin : (T k).2.2.2 = true) (hin : y.name = "<init>") (hdecl : (T k).1 = y.cls) (hpd : parseFieldDescriptor (T k).2.2.1 = some ty) (hnf : ∀ v, v % 4 = j → narrow ty (zv al tf v) = zv al tf v ∧ fits ty (zv al tf v) = true) : zO zi al tf gm dC dI N d l y bytes maxL ret pc (eo_putf N nx c k j) := by
  refine zo_put (nx := nx) (P := fun _ => True) hc hty hk (fun call go ls st B F top q h => ⟨h, fun _ _ _ _ => trivial⟩) (fun p e R s m args below meth cc Q H locs cells slots LS rest a ce v hM q1 q2 q3 hlt hj _ kk => ?_)
  subst hn
  obtain ⟨hS, hfc, kC, hkC, hkind⟩ := hM.2.2.2.2.2.2.2.2.1.1 c _ hc.1
  obtain ⟨cf, kf, fi, fd, hi, hsl⟩ := hS k hk
  have hlay := hM.2.2.2.2.2.2.1 _ (hc.2.1 _ (u_in_lay hk))
  unfold u_lay at hlay
  rw [if_pos hfin] at hlay
  have hst := (u_facts hfc hkC (u_lays hM.2.2.2.2.2.2.1 hc.2.1 hk) hi).1
  have hcf : m.cls = cf := by
    obtain ⟨_, _, c', _, _, _, -, -, hf', -, -, -, hown2, -⟩ := Cond.laysFinal_spec hlay
    have e1 : c' = cf := by have := hi.symm.trans hf'; simp at this; exact this.1.symm
    rw [hdecl] at hown2
    rw [← e1]
    exact Option.some.inj (hM.2.2.2.2.2.1.symm.trans hown2)
  have h6 := u_fits hfc hkC hkind (Or.inr hlay) hi hpd (hnf v hj).1 (hnf v hj).2
  refine W.putFinK hM.1 hM.2.1 hM.2.2.2.2.2.1 (hM.2.2.2.2.2.2.1 _ hl) hi hst hcf (hM.2.2.2.2.2.2.2.1 hin) (by rw [q2]; exact h6) q1 q3 (by rw [hsl]; exact hlt) rfl rfl hd fun H' e1 e2 e3 => ?_
  rw [hsl] at e1 ⊢
  exact kk H' e1 e2 e3
/-- references and null fit -/
theorem zfit_r {ty : FieldType} (h : (∃ n, ty = .object n) ∨ ∃ t, ty = .array t) (v : Nat) (hv : v % 4 = 2) : narrow ty (zv al tf v) = zv al tf v ∧ fits ty (zv al tf v) = true := by
  rw [zv_r hv]
  rcases h with ⟨n, rfl⟩ | ⟨t, rfl⟩ <;> exact ⟨rfl, rfl⟩
theorem zfit_n {ty : FieldType} (h : (∃ n, ty = .object n) ∨ ∃ t, ty = .array t) (v : Nat) (hv : v % 4 = 3) : narrow ty (zv al tf v) = zv al tf v ∧ fits ty (zv al tf v) = true := by
  have e : zv al tf v = .ref tf.1 ∨ zv al tf v = .null := by
    unfold zv
    rw [if_neg (by omega), if_neg (by omega), if_neg (by omega)]
    by_cases h : v = 11
    · rw [if_pos h]; exact Or.inl rfl
    · rw [if_neg h]; exact Or.inr rfl
  rcases e with e | e <;> rw [e] <;> rcases h with ⟨n, rfl⟩ | ⟨t, rfl⟩ <;> exact ⟨rfl, rfl⟩
theorem zfit_i (v : Nat) (hv : v % 4 = 0) : narrow .int (zv al tf v) = zv al tf v ∧ fits .int (zv al tf v) = true := by
  rw [zv_i hv]
  exact ⟨rfl, rfl⟩
theorem zfit_l (v : Nat) (hv : v % 4 = 1) : narrow .long (zv al tf v) = zv al tf v ∧ fits .long (zv al tf v) = true := by
  rw [zv_l hv]
  exact ⟨rfl, rfl⟩
end ZM
