section ZR
variable {zi : zMs} {al : Nat → Nat} {tf : Nat × Nat} {gm dC : Nat → ClassId} {dI : Nat → Nat → Nat} {N d : Nat} {l : Launch} {y : MethodName} {bytes : ByteArray} {maxL : Nat} {ret : Option FieldType} {pc : Nat}
theorem zcallv_ev {go : ev_G} {nx mi n c : Nat} {call : ev_C} {ls st : List Nat} {B F : List (List Nat)} {top : Nat} {q : ev_R} (hI : zI N B F top) (h : eo_callv N nx mi n c call go pc ls st B F top = some q) : ∃ u as b fs k, st = (u :: as).reverse ++ b ∧ as.length + 1 = n ∧ (∀ x ∈ u :: as, x ≠ 7) ∧ u % 4 = 2 ∧ (B ++ F.reverse)[u / 4]? = some ((16 + c) :: fs) ∧ b.length ≤ 4 ∧ call mi ((u :: as).flatMap zl1) B F top = some k ∧ go nx ls (k.1 ++ b) k.2.1 k.2.2.1 k.2.2.2 = some q := by
  replace h := ev_take_some n st [] _ _ h
  obtain ⟨a, b, rfl, hl, h7, h⟩ := h
  rw [List.append_nil] at h
  replace h := ev_uc_some h
  obtain ⟨u', t, hu', h⟩ := h
  replace h := ev_r_some h
  obtain ⟨hu, h⟩ := h
  replace h := ev_at_some hI h
  obtain ⟨cell, hcell, h⟩ := h
  replace h := ev_uc_some h
  obtain ⟨kd, fs, rfl, h⟩ := h
  replace h := ev_b_some h
  obtain ⟨hkd, h⟩ := h
  have hkd : kd = 16 + c := zb_eq.mp hkd
  subst hkd
  replace h := ev_upto_some 4 b _ _ h
  obtain ⟨hb, h⟩ := h
  cases hr : a.reverse with
  | nil => rw [hr] at hu'; cases hu'
  | cons u as =>
    have e1 : a = (u :: as).reverse := by rw [← hr, List.reverse_reverse]
    have e2 : u = u' := by
      rw [hr, List.flatMap_cons] at hu'
      unfold zl1 at hu'
      split at hu' <;> exact (List.cons.inj hu').1
    subst e2
    cases hc : call mi (a.reverse.flatMap zl1) B F top with
    | none => rw [hc] at h; cases h
    | some k =>
      rw [hc] at h
      replace h : ev_app b k.1 (fun st' => go nx ls st' k.2.1 k.2.2.1 k.2.2.2) = some q := h
      rw [ev_app_eq] at h
      refine ⟨u, as, b, fs, k, by rw [e1], by rw [← hl, e1]; simp, fun x hx => h7 x (by rw [e1]; exact List.mem_reverse.mpr hx), hu, hcell, hb, by rw [← hr]; exact hc, h⟩
/-- what a call with a receiver must bring -/
def zRun (al : Nat → Nat) (tf : Nat × Nat) (gm dC : Nat → ClassId) (dI : Nat → Nat → Nat) (d : Nat) (l : Launch) (y : MethodName) (bytes : ByteArray) (maxL : Nat) (ret : Option FieldType) (pc n : Nat) (C : String) (y2 : MethodName) (b2 : ByteArray) (m2 : Nat) (r2 : Option FieldType) : Prop :=
  ∀ (p : Program) (e : Env) (R : Room) (s : State) (m : MethodId) (args : Array Value) (below : List Frame) (meth : Method) (c : Code) (H : Heap) (locs : List Loc) (cells slots : Nat) (LS : Array Slot) (Pc : Array Value → State → Prop) (Qc : Array Value → State → Outcome → State → Prop) (b : Addr) (As rest : List Value) (cC : ClassId),
    zM al tf gm dC dI d y bytes maxL ret p R s m args meth c → Cond.code y2 b2 m2 r2 ∈ zTS → m2 ≤ 21 → Met l y2 (Cond.code y2 b2 m2 r2 :: zTS) (zrm d) Pc Qc (zC d) (zS d) (zA al) → ClassAt s C cC → PreV s H C b Pc As → As.length + 1 = n → LS.size = maxL → (rest.map fun v => v.category).sum ≤ 8 → cells + zC d ≤ R.cells ∧ slots + zS d ≤ R.slots →
    va_Run p l e R s m args below meth c H locs cells slots (zC d) (zS d) (F0 m pc LS (As.reverse ++ .ref b :: rest)) rest (Qc (Value.ref b :: As).toArray) (zA al)
theorem zo_recv {nx mi n c k : Nat} {C : String} {T : u_T} {y2 : MethodName} {b2 : ByteArray} {m2 : Nat} {r2 : Option FieldType} (hcl : zCl c C T k) (hz : zi[mi]? = some (y2, b2, m2, r2)) (hn : nx = pc + 3) (hrun : zRun al tf gm dC dI d l y bytes maxL ret pc n C y2 b2 m2 r2) : zO zi al tf gm dC dI N d l y bytes maxL ret pc (eo_callv N nx mi n c) := by
  intro p e R s m args below meth cc Q rt hrt call go f hM hC hG ls st B F top qq h hT H locs cells slots LS hX
  subst hn
  obtain ⟨u, as, b, fs, q, rfl, hal, h7, hu, hcell, hb, hc, h⟩ := zcallv_ev hX.2.1 h
  obtain ⟨i, hi1, hr1, hm, hco, hMet⟩ := hC mi _ B F top q h7 hc hX.2.1
  have hi2 : i = (y2, b2, m2, r2) := Option.some.inj (hi1.symm.trans hz)
  subst hi2
  obtain ⟨-, -, -, -, h5, h6, -⟩ := id hX
  rw [Nat.succ_mul] at h5 h6
  have hcat := zcat_le (al := al) (tf := tf) b
  have hK : zK gm dC dI s := hM.2.2.2.2.2.2.2.2.1
  have he := zw_get (al := al) (tf := tf) (gm := gm) hcell
  rw [ze_o] at he
  have hrc := va_recv hK hX.2.2.1.1 hcl.1 he
  have eu : zv al tf u = .ref (al (u / 4)) := zv_r hu
  have key := hrun p e R s m args below meth cc H locs cells slots LS _ _ (al (u / 4)) (as.map (zv al tf)) (b.map (zv al tf)) (dC c) hM hco hm hMet (hK.1 c _ hcl.1).2 ⟨zPre.blind, hrc, fun U hU hW => ?_⟩ (by rw [List.length_map]; exact hal) (hX.1.1.trans hX.2.2.2.2.2.2) (by omega) ⟨by omega, by omega⟩
  · have es : ((u :: as).reverse ++ b).map (zv al tf) = (as.map (zv al tf)).reverse ++ .ref (al (u / 4)) :: b.map (zv al tf) := by
      rw [List.reverse_cons, List.append_assoc, List.map_append, List.map_append, List.map_reverse, List.map_cons, List.map_nil, eu]
      rfl
    rw [es]
    exact zcall_go key hr1 hG h hT hX
  · have hp := zpre_at (a := u :: as) hX hK hM.2.2.2.2.2.2.2.2.2.1 hU hW
    rw [List.map_cons, eu] at hp
    exact hp
theorem zlo {R : Room} {d m2 : Nat} (h : 40 * d + 40 ≤ R.locals) (hm : m2 ≤ 21) : 8 + (m2 + 11) + (zrm d).locals ≤ R.locals := by
  show 8 + (m2 + 11) + 40 * d ≤ R.locals
  omega
theorem zmem_app {ws : List Cond} {w0 : Cond} {w : Cond} (h1 : ∀ w ∈ ws, w ∈ zTS) (h0 : w0 ∈ zTS) (h : w ∈ ws ++ (w0 :: zTS)) : w ∈ zTS := by
  rcases List.mem_append.mp h with h | h
  · exact h1 w h
  · rcases List.mem_cons.mp h with rfl | h
    · exact h0
    · exact h
theorem zr_V {n k index : Nat} {C : String} {y2 : MethodName} {b2 : ByteArray} {m2 : Nat} {r2 : Option FieldType} (hk : n = k + 1) (hd : decode bytes pc = .ok (.invokevirtual index, 3)) (hw : ∀ w ∈ ([.methodLink y.cls index y2, .instanceMethod y2, .selects C y2 y2, .initialized C] : List Cond), w ∈ zTS) (hy : y2.cls = C ∧ y2.cls ≠ "java/lang/invoke/MethodHandle" ∧ y2.cls ≠ "java/lang/invoke/VarHandle" ∧ (parseMethodDescriptor y2.desc).map (fun d => d.parameters.length) = some k) : zRun al tf gm dC dI d l y bytes maxL ret pc n C y2 b2 m2 r2 := by
  intro p e R s m args below meth c H locs cells slots LS Pc Qc b As rest cC hM hco hm hMet hat hp hn hLS hcat hf
  exact va_runV (n := k) ⟨hM.1, hM.2.1, hM.2.2.1, hM.2.2.2.2.2.1, hM.2.2.2.2.2.2.1⟩ hMet (cwV k hM.2.2.2.2.2.2.1 (zGood fun w h => zmem_app hw hco h) rfl rfl rfl hy ⟨hM.2.2.2.2.2.2.2.2.2.2.2.2.1, zlo hM.2.2.2.2.2.2.2.2.2.2.2.2.2 hm⟩) hp rfl (by omega) hLS rfl (by show 2 * 0 + _ ≤ 8; omega) hd hf
theorem zr_U {n k index : Nat} {C owner : String} {x y2 : MethodName} {b2 : ByteArray} {m2 : Nat} {r2 : Option FieldType} (hk : n = k + 1) (hd : decode bytes pc = .ok (.invokevirtual index, 3)) (hw : ∀ w ∈ ([.methodLink y.cls index x, .sameMethod x.cls owner x.name x.desc, .selects C x y2, .instanceMethod y2, .initialized y2.cls] : List Cond), w ∈ zTS) (hyx : y2 = ⟨owner, x.name, x.desc⟩) (hy : owner ≠ "java/lang/invoke/MethodHandle" ∧ owner ≠ "java/lang/invoke/VarHandle" ∧ (parseMethodDescriptor x.desc).map (fun d => d.parameters.length) = some k) : zRun al tf gm dC dI d l y bytes maxL ret pc n C y2 b2 m2 r2 := by
  intro p e R s m args below meth c H locs cells slots LS Pc Qc b As rest cC hM hco hm hMet hat hp hn hLS hcat hf
  exact va_runU (n := k) ⟨hM.1, hM.2.1, hM.2.2.1, hM.2.2.2.2.2.1, hM.2.2.2.2.2.2.1⟩ hMet (va_cwU k hM.2.2.2.2.2.2.1 (zGood fun w h => zmem_app hw hco h) rfl rfl rfl hyx hy ⟨hM.2.2.2.2.2.2.2.2.2.2.2.2.1, zlo hM.2.2.2.2.2.2.2.2.2.2.2.2.2 hm⟩) hp rfl (by omega) hLS rfl (by show 2 * 0 + _ ≤ 8; omega) hd hf
theorem zr_SU {n k index : Nat} {C : String} {y2 : MethodName} {b2 : ByteArray} {m2 : Nat} {r2 : Option FieldType} (hk : n = k + 1) (hd : decode bytes pc = .ok (.invokespecial index, 3)) (hw : ∀ w ∈ ([.methodLink y.cls index y2, .sameMethod y2.cls y2.cls y2.name y2.desc, .superclass y.cls y2.cls, .instanceMethod y2, .initialized y2.cls] : List Cond), w ∈ zTS) (hy : y2.name ≠ "<init>" ∧ (parseMethodDescriptor y2.desc).map (fun d => d.parameters.length) = some k) : zRun al tf gm dC dI d l y bytes maxL ret pc n C y2 b2 m2 r2 := by
  intro p e R s m args below meth c H locs cells slots LS Pc Qc b As rest cC hM hco hm hMet hat hp hn hLS hcat hf
  exact va_runSU (n := k) hat ⟨hM.1, hM.2.1, hM.2.2.1, hM.2.2.2.2.2.1, hM.2.2.2.2.2.2.1⟩ hMet (va_cwSU k hM.2.2.2.2.2.2.1 (zGood fun w h => zmem_app hw hco h) rfl rfl rfl hy ⟨hM.2.2.2.2.2.2.2.2.2.2.2.2.1, zlo hM.2.2.2.2.2.2.2.2.2.2.2.2.2 hm⟩) hp rfl (by omega) hLS rfl (by show 2 * 0 + _ ≤ 8; omega) hd hf
theorem zr_I {n k index : Nat} {C : String} {y2 : MethodName} {b2 : ByteArray} {m2 : Nat} (hk : n = k + 1) (hd : decode bytes pc = .ok (.invokespecial index, 3)) (hw : ∀ w ∈ ([.methodLink y.cls index y2, .initialized y2.cls, .instanceMethod y2] : List Cond), w ∈ zTS) (hi : y2.name = "<init>") (hy : y2.cls ≠ "java/lang/invoke/MethodHandle" ∧ y2.cls ≠ "java/lang/invoke/VarHandle" ∧ (parseMethodDescriptor y2.desc).map (fun d => d.parameters.length) = some k) : zRun al tf gm dC dI d l y bytes maxL ret pc n C y2 b2 m2 none := by
  intro p e R s m args below meth c H locs cells slots LS Pc Qc b As rest cC hM hco hm hMet hat hp hn hLS hcat hf
  have ht := hM.2.2.2.2.2.2.1
  have w1 := ht _ (hw (.methodLink y.cls index y2) (by simp))
  have w2 := ht _ (hw (.initialized y2.cls) (by simp))
  have w3 := ht _ (hw (.instanceMethod y2) (by simp))
  exact va_runI (n := k) ⟨hM.1, hM.2.1, hM.2.2.1, hM.2.2.2.2.2.1, ht⟩ hMet ⟨callB_of k ht (zGood fun w h => zmem_app (ws := []) (fun _ q => absurd q List.not_mem_nil) hco h) rfl rfl rfl w2 w1 hy ⟨hM.2.2.2.2.2.2.2.2.2.2.2.2.1, zlo hM.2.2.2.2.2.2.2.2.2.2.2.2.2 hm⟩, hi, w3⟩ ⟨hp.1, hp.2.2⟩ rfl (by omega) hLS rfl (by show 2 * 0 + _ ≤ 8; omega) hd hf
theorem zr_VN {n k index j : Nat} {own C host : String} {y2 : MethodName} {b2 : ByteArray} {m2 : Nat} {r2 : Option FieldType} (hk : n = k + 1) (hd : decode bytes pc = .ok (.invokevirtual index, 3)) (ho : y.cls = own) (hj : znm[j]? = some (own, index, y2, host)) (hw : ∀ w ∈ ([.initialized y2.cls, .instanceMethod y2, .selects C y2 y2] : List Cond), w ∈ zTS) (hy : y2.cls ≠ "java/lang/invoke/MethodHandle" ∧ y2.cls ≠ "java/lang/invoke/VarHandle" ∧ (parseMethodDescriptor y2.desc).map (fun d => d.parameters.length) = some k) : zRun al tf gm dC dI d l y bytes maxL ret pc n C y2 b2 m2 r2 := by
  intro p e R s m args below meth c H locs cells slots LS Pc Qc b As rest cC hM hco hm hMet hat hp hn hLS hcat hf
  subst ho
  have ht := hM.2.2.2.2.2.2.1
  have w1 := ht _ (hw (.initialized y2.cls) (by simp))
  have w2 := ht _ (hw (.instanceMethod y2) (by simp))
  have w3 := ht _ (hw (.selects C y2 y2) (by simp))
  have hN := hM.2.2.2.2.2.2.2.2.2.1.2.2.2.2.2.2.1 _ (List.mem_of_getElem? hj)
  exact va_runVN (n := k) (host := host) ⟨hM.1, hM.2.1, hM.2.2.1, hM.2.2.2.2.2.1, ht⟩ hMet ⟨va_cnB k ht (zGood fun w h => zmem_app (ws := []) (fun _ q => absurd q List.not_mem_nil) hco h) rfl rfl rfl hN w1 hy ⟨hM.2.2.2.2.2.2.2.2.2.2.2.2.1, zlo hM.2.2.2.2.2.2.2.2.2.2.2.2.2 hm⟩, w2, w3⟩ hp rfl (by omega) hLS rfl (by show 2 * 0 + _ ≤ 8; omega) hd hf
theorem zr_IN {n k index j : Nat} {own C host : String} {y2 : MethodName} {b2 : ByteArray} {m2 : Nat} (hk : n = k + 1) (hd : decode bytes pc = .ok (.invokespecial index, 3)) (ho : y.cls = own) (hj : znm[j]? = some (own, index, y2, host)) (hw : ∀ w ∈ ([.initialized y2.cls, .instanceMethod y2] : List Cond), w ∈ zTS) (hi : y2.name = "<init>") (hy : y2.cls ≠ "java/lang/invoke/MethodHandle" ∧ y2.cls ≠ "java/lang/invoke/VarHandle" ∧ (parseMethodDescriptor y2.desc).map (fun d => d.parameters.length) = some k) : zRun al tf gm dC dI d l y bytes maxL ret pc n C y2 b2 m2 none := by
  intro p e R s m args below meth c H locs cells slots LS Pc Qc b As rest cC hM hco hm hMet hat hp hn hLS hcat hf
  subst ho
  have ht := hM.2.2.2.2.2.2.1
  have w1 := ht _ (hw (.initialized y2.cls) (by simp))
  have w2 := ht _ (hw (.instanceMethod y2) (by simp))
  have hN := hM.2.2.2.2.2.2.2.2.2.1.2.2.2.2.2.2.1 _ (List.mem_of_getElem? hj)
  exact va_runIN (n := k) (host := host) ⟨hM.1, hM.2.1, hM.2.2.1, hM.2.2.2.2.2.1, ht⟩ hMet ⟨va_cnB k ht (zGood fun w h => zmem_app (ws := []) (fun _ q => absurd q List.not_mem_nil) hco h) rfl rfl rfl hN w1 hy ⟨hM.2.2.2.2.2.2.2.2.2.2.2.2.1, zlo hM.2.2.2.2.2.2.2.2.2.2.2.2.2 hm⟩, hi, w2⟩ ⟨hp.1, hp.2.2⟩ rfl (by omega) hLS rfl (by show 2 * 0 + _ ≤ 8; omega) hd hf
/-- a static method of a nest mate -/
theorem zo_callSN {nx mi n index j : Nat} {own host : String} {y2 : MethodName} {b2 : ByteArray} {m2 : Nat} {r2 : Option FieldType} (hz : zi[mi]? = some (y2, b2, m2, r2)) (hd : decode bytes pc = .ok (.invokestatic index, 3)) (hn : nx = pc + 3) (ho : y.cls = own) (hj : znm[j]? = some (own, index, y2, host)) (hs : Cond.static y2 ∈ zTS) (hi : Cond.initialized y2.cls ∈ zTS) (hp : (parseMethodDescriptor y2.desc).map (fun d => d.parameters.length) = some n) (hmh : y2.cls ≠ "java/lang/invoke/MethodHandle" ∧ y2.cls ≠ "java/lang/invoke/VarHandle") : zO zi al tf gm dC dI N d l y bytes maxL ret pc (eo_call nx mi n) := by
  intro p e R s m args below meth cc Q rt hrt call go f hM hC hG ls st B F top qq h hT H locs cells slots LS hX
  subst hn
  subst ho
  obtain ⟨a, b, c, rfl, hal, h7, hb, hc, h⟩ := zcall_ev h
  have h7r : ∀ x ∈ a.reverse, x ≠ 7 := fun x hx => h7 x (List.mem_reverse.mp hx)
  obtain ⟨i, hi1, hr1, hm, hco, hMet⟩ := hC mi _ B F top c h7r hc hX.2.1
  have hi2 : i = (y2, b2, m2, r2) := Option.some.inj (hi1.symm.trans hz)
  subst hi2
  obtain ⟨-, -, -, -, h5, h6, -⟩ := id hX
  rw [Nat.succ_mul] at h5 h6
  have hcat := zcat_le (al := al) (tf := tf) b
  have ht := hM.2.2.2.2.2.2.1
  have hN := hM.2.2.2.2.2.2.2.2.2.1.2.2.2.2.2.2.1 _ (List.mem_of_getElem? hj)
  exact zcall_go (a := (a.reverse.map (zv al tf)).toArray) (va_runSN (As := a.reverse.map (zv al tf)) (n := n) (host := host) ⟨hM.1, hM.2.1, hM.2.2.1, hM.2.2.2.2.2.1, ht⟩ hMet ⟨va_cnB n ht (zGood fun w h => zmem_app (ws := []) (fun _ q => absurd q List.not_mem_nil) hco h) rfl rfl rfl hN (ht _ hi) ⟨hmh.1, hmh.2, hp⟩ ⟨hM.2.2.2.2.2.2.2.2.2.2.2.2.1, zlo hM.2.2.2.2.2.2.2.2.2.2.2.2.2 hm⟩, ht _ hs, trivial⟩ ⟨zPre.blind, fun U hU hW => zpre_at hX hM.2.2.2.2.2.2.2.2.1 hM.2.2.2.2.2.2.2.2.2.1 hU hW⟩ rfl (by rw [List.length_map, List.length_reverse]; exact hal) (hX.1.1.trans hX.2.2.2.2.2.2) (by show _ = (List.map _ a.reverse).reverse ++ List.map _ b; rw [List.map_append, List.map_reverse, List.reverse_reverse]) (by show 2 * 0 + _ ≤ 8; omega) hd ⟨by omega, by omega⟩) hr1 hG h hT hX
end ZR
