section ZMORE
variable {zi : zMs} {al : Nat → Nat} {tf : Nat × Nat} {gm dC : Nat → ClassId} {dI : Nat → Nat → Nat} {N d : Nat} {l : Launch} {y : MethodName} {bytes : ByteArray} {maxL : Nat} {ret : Option FieldType} {pc : Nat}
theorem zsel {C : String} {x x2 : MethodName} {s : State} {args : Array Value} {n : Nat} (hx : x.cls ≠ "java/lang/invoke/MethodHandle" ∧ x.cls ≠ "java/lang/invoke/VarHandle") (hins : (Cond.instantiable C n).before args s = true) (hpriv : (Cond.privateMethod x).before args s = true) (hinst : (Cond.instanceMethod x).before args s = true) (h2 : (Cond.selects C x2 x2).before args s = true) (hi2 : (Cond.instanceMethod x2).before args s = true) (hc2 : x2.cls = x.cls) : (Cond.selects C x x).before args s = true := by
  obtain ⟨c, k, hc, hk, -, hniab, -, -⟩ := Cond.instantiable_spec hins
  obtain ⟨mk, methM, hnamed, hmethM, -, -⟩ := Cond.instanceMethod_spec hinst
  obtain ⟨mk2, methM2, hnamed2, -, -, -⟩ := Cond.instanceMethod_spec hi2
  have hfound : s.methodFound? x.cls x.name x.desc = some mk := State.methodFound?_of_named hnamed hx
  have hfound2 : s.methodFound? x2.cls x2.name x2.desc = some mk2 := State.methodFound?_of_named hnamed2 (by rw [hc2]; exact hx)
  obtain ⟨c2, r2, m2, q1, q2, q3, q4, kP, hkP, hkPi⟩ := Cond.selects_spec h2
  cases hfound2.symm.trans q2
  have he : mk2.cls = mk.cls := by
    have e1 := findClass_of_methodNamed hnamed
    have e2 := findClass_of_methodNamed hnamed2
    rw [hc2] at e2
    exact Option.some.inj (e2.symm.trans e1)
  cases hnamed2.symm.trans q3
  rw [he] at hkP
  have hsel : selectMethod {} s.vm c mk = .method mk := selectMethod_private hmethM (Cond.privateMethod_at hpriv mk methM hnamed hmethM)
  simp only [Cond.before, Cond.holds, Cond.value, hc, hfound, hnamed, hsel, hk, hkP]
  simp [hkPi]
theorem zr_O {n k index : Nat} {C owner : String} {x y2 : MethodName} {b2 b0 : ByteArray} {m2 m0 : Nat} {r2 r0 : Option FieldType} (hk : n = k + 1) (hd : decode bytes pc = .ok (.invokevirtual index, 3)) (hw : ∀ w ∈ ([.methodLink y.cls index x, .sameMethod x.cls owner x.name x.desc, .instanceMethod ⟨owner, x.name, x.desc⟩, .selects C x y2, .instanceMethod y2, .initialized y2.cls] : List Cond), w ∈ zTS) (h0 : Cond.code ⟨owner, x.name, x.desc⟩ b0 m0 r0 ∈ zTS) (hy : owner ≠ "java/lang/invoke/MethodHandle" ∧ owner ≠ "java/lang/invoke/VarHandle" ∧ (parseMethodDescriptor x.desc).map (fun d => d.parameters.length) = some k) : zRun al tf gm dC dI d l y bytes maxL ret pc n C y2 b2 m2 r2 := by
  intro p e R s m args below meth c H locs cells slots LS Pc Qc b As rest cC hM hco hm hMet hat hp hn hLS hcat hf
  exact va_runU (n := k) ⟨hM.1, hM.2.1, hM.2.2.1, hM.2.2.2.2.2.1, hM.2.2.2.2.2.2.1⟩ hMet (va_cwO k hM.2.2.2.2.2.2.1 (zGood fun w h => zmem_app hw hco h) rfl rfl rfl h0 hy ⟨hM.2.2.2.2.2.2.2.2.2.2.2.2.1, zlo hM.2.2.2.2.2.2.2.2.2.2.2.2.2 hm⟩) hp rfl (by omega) hLS rfl (by show 2 * 0 + _ ≤ 8; omega) hd hf
theorem zo_putzF {nx c k n index : Nat} {C : String} {T : u_T} {ty0 : Nat → FieldType} {ty : FieldType} (hc : zCl c C T n) (hty : ∀ k, k < n → parseFieldDescriptor (T k).2.2.1 = some (ty0 k)) (hk : k < n) (hd : decode bytes pc = .ok (.putfield index, 3)) (hn : nx = pc + 3) (hl : Cond.fieldLink y.cls index (T k).1 (T k).2.1 (T k).2.2.1 ∈ zTS) (hfin : (T k).2.2.2 = true) (hin : y.name = "<init>") (hdecl : (T k).1 = y.cls) (hpd : parseFieldDescriptor (T k).2.2.1 = some ty) (hnf : ty = .byte ∨ ty = .boolean) : zO zi al tf gm dC dI N d l y bytes maxL ret pc (eo_putz N nx c k) := by
  refine zo_put (nx := nx) (j := 0) (P := fun v => v ≤ 4) hc hty hk (fun call go ls st B F top q h => ?_) (fun p e R s m args below meth cc Q H locs cells slots LS rest a ce v hM q1 q2 q3 hlt hj hP kk => ?_)
  · replace h := ev_uc_some h
    obtain ⟨v, r, rfl, h⟩ := h
    obtain ⟨hb, h⟩ := ev_b_some h
    exact ⟨h, fun v' u r' e => by cases e; exact zb_le.mp hb⟩
  · subst hn
    have hnf2 : narrow ty (zv al tf v) = zv al tf v ∧ fits ty (zv al tf v) = true := by
      have hv : v = 0 ∨ v = 4 := by omega
      rcases hnf with rfl | rfl <;> rcases hv with rfl | rfl <;> exact ⟨rfl, rfl⟩
    obtain ⟨hS, hfc, kC, hkC, hkind⟩ := hM.2.2.2.2.2.2.2.2.1.1 c _ hc.1
    obtain ⟨cf, kf, fi, fd, hi, hsl⟩ := hS k hk
    have hlay := hM.2.2.2.2.2.2.1 _ (hc.2.1 _ (u_in_lay hk))
    unfold u_lay at hlay
    rw [if_pos hfin] at hlay
    have hst := (u_facts hfc hkC (u_lays hM.2.2.2.2.2.2.1 hc.2.1 hk) hi).1
    have hcf : m.cls = cf := by
      obtain ⟨_, _, c', _, _, _, -, -, hf', -, -, -, hown2, -⟩ := Cond.laysFinal_spec hlay
      have e1 : c' = cf := by have := hi.symm.trans hf'; simp at this; exact this.1.symm
      rw [hdecl] at hown2
      rw [← e1]
      exact Option.some.inj (hM.2.2.2.2.2.1.symm.trans hown2)
    have h6 := u_fits hfc hkC hkind (Or.inr hlay) hi hpd hnf2.1 hnf2.2
    refine W.putFinK hM.1 hM.2.1 hM.2.2.2.2.2.1 (hM.2.2.2.2.2.2.1 _ hl) hi hst hcf (hM.2.2.2.2.2.2.2.1 hin) (by rw [q2]; exact h6) q1 q3 (by rw [hsl]; exact hlt) rfl rfl hd fun H' e1 e2 e3 => ?_
    rw [hsl] at e1 ⊢
    exact kk H' e1 e2 e3
theorem zo_ane {nx tg : Nat} {off : Int} (hd : decode bytes pc = .ok (.if_acmp .ne off, 3)) (hn : nx = pc + 3) (ht : (pc : Int) + off = (tg : Int)) : zO zi al tf gm dC dI N d l y bytes maxL ret pc (eo_ane nx tg) := by
  intro p e R s m args below meth cc Q rt hrt call go f hM hC hG ls st B F top q h hT H locs cells slots LS hX
  subst hn
  replace h := ev_uc_some h
  obtain ⟨v, s1, rfl, h⟩ := h
  replace h := ev_uc_some h
  obtain ⟨u, r, rfl, h⟩ := h
  replace h := ev_r_some h
  obtain ⟨hv, h⟩ := h
  replace h := ev_r_some h
  obtain ⟨hu, h⟩ := h
  have K : W p l e R s m args below meth cc H locs cells slots Q (F0 m (if zv al tf u = zv al tf v then pc + 3 else tg) LS (r.map (zv al tf))) := by
    replace h := ev_if zb_eq h
    rcases h with ⟨h1, h⟩ | ⟨h1, h⟩
    · subst h1
      rw [if_pos rfl]
      exact hG (pc + 3) ls r B F top q h hT H locs cells slots LS hX.down
    · rw [if_neg (fun q => h1 ?_)]
      · exact hG tg ls r B F top q h hT H locs cells slots LS hX.down
      · rw [zv_r hu, zv_r hv] at q
        have q2 : u / 4 = v / 4 := hM.2.2.2.2.2.2.2.2.2.2.2.1 _ _ (by injection q)
        omega
  rw [List.map_cons, List.map_cons, zv_r hu, zv_r hv]
  rw [zv_r hu, zv_r hv] at K
  by_cases hq : al (u / 4) = al (v / 4)
  · rw [if_pos (by rw [hq])] at K
    exact lv_acmp_ne (rx := some (al (u / 4))) (ry := some (al (v / 4))) hM.1 hM.2.1 hd ht
      (fun h => absurd (congrArg some hq) h) (fun _ => K)
  · rw [if_neg (fun q => hq (by injection q))] at K
    exact lv_acmp_ne (rx := some (al (u / 4))) (ry := some (al (v / 4))) hM.1 hM.2.1 hd ht
      (fun _ => K) (fun h => absurd (Option.some.inj h) hq)
theorem zo_pop2 {nx : Nat} (hd : decode bytes pc = .ok (.pop2, 1)) (hn : nx = pc + 1) : zO zi al tf gm dC dI N d l y bytes maxL ret pc (eo_pop2 nx) := by
  intro p e R s m args below meth cc Q rt hrt call go f hM hC hG ls st B F top q h hT H locs cells slots LS hX
  subst hn
  replace h := ev_uc_some h
  obtain ⟨u, r, rfl, h⟩ := h
  replace h := ev_l_some h
  obtain ⟨hu, h⟩ := h
  rw [List.map_cons, zv_l hu]
  exact lv_pop2_2 hM.1 hM.2.1 hd rfl (hG (pc + 1) ls r B F top q h hT H locs cells slots LS hX.down)
theorem zo_ldcws {nx id index : Nat} {tx : String} (hd : decode bytes pc = .ok (.ldc_w index, 3)) (hn : nx = pc + 3) (hl : (y.cls, index, tx, id) ∈ zstrs) : zO zi al tf gm dC dI N d l y bytes maxL ret pc (eo_push nx (4 * (tf.2 + id) + 2)) :=
  zo_push fun p e R s m args below meth c Q H locs cells slots LS rest hM _ K => by
    have hZ := hM.2.2.2.2.2.2.2.2.2.1.2.2.2.2.1 _ hl
    rw [zv_kr, hn] at K
    intro T hT X
    obtain ⟨t, a1, b1⟩ := K T hT X
    exact ⟨t, X.ldcStringW hM.1 hM.2.2.2.2.2.1 (text := tx) (a := al (tf.2 + id)) hZ.1 hZ.2 (g := F0 m pc LS rest) rfl (by rw [hM.2.1]; exact hd) t a1, b1⟩
theorem zal_nil : ∀ w ∈ ([] : List Cond), w ∈ zTS := fun _ h => absurd h List.not_mem_nil
theorem zal_cons {a : Cond} {l : List Cond} (h : a ∈ zTS) (t : ∀ w ∈ l, w ∈ zTS) : ∀ w ∈ a :: l, w ∈ zTS := fun w hw => by
  rcases List.mem_cons.mp hw with rfl | hw
  · exact h
  · exact t w hw
theorem zo_no : zO zi al tf gm dC dI N d l y bytes maxL ret pc eo_no := by
  intro p e R s m args below meth cc Q rt hrt call go f hM hC hG ls st B F top q h
  cases h
/-- certificates, one by one -/
def zAllR (P : Nat → ev_I → Prop) : Nat → List ev_I → Prop
  | _, [] => True
  | b, f :: t => P b f ∧ zAllR P (b + 1) t
def zAllC (P : Nat → ev_I → Prop) : Nat → List (List ev_I) → Prop
  | _, [] => True
  | b, r :: t => zAllR P (16 * b) r ∧ zAllC P (b + 1) t
theorem zAllR_at {P : Nat → ev_I → Prop} : ∀ {l : List ev_I} {b j : Nat} {i : ev_I}, zAllR P b l → l[j]? = some i → P (b + j) i
  | [], _, _, _, _, h => by simp at h
  | _ :: _, _, 0, _, hA, h => by
    simp at h
    subst h
    exact hA.1
  | _ :: t, b, j + 1, i, hA, h => by
    have := zAllR_at (l := t) (b := b + 1) (j := j) hA.2 (by simpa using h)
    rw [show b + (j + 1) = b + 1 + j by omega]
    exact this
theorem zAllC_at {P : Nat → ev_I → Prop} : ∀ {l : List (List ev_I)} {b c : Nat} {r : List ev_I}, zAllC P b l → l[c]? = some r → zAllR P (16 * (b + c)) r
  | [], _, _, _, _, h => by simp at h
  | _ :: _, _, 0, _, hA, h => by
    simp at h
    subst h
    exact hA.1
  | _ :: t, b, c + 1, r, hA, h => by
    have := zAllC_at (l := t) (b := b + 1) (c := c) hA.2 (by simpa using h)
    rw [show b + (c + 1) = b + 1 + c by omega]
    exact this
theorem zAll {P : Nat → ev_I → Prop} {code : List (List ev_I)} (h : zAllC P 0 code) (pc : Nat) (i : ev_I) (hc : zcode code pc = some i) : P pc i := by
  unfold zcode at hc
  obtain ⟨r, h1, h2⟩ := Option.bind_eq_some_iff.mp hc
  have := zAllR_at (zAllC_at h h1) h2
  rw [show 16 * (0 + pc / 16) + pc % 16 = pc by omega] at this
  exact this
end ZMORE
