/-! a site is sound: what the evaluator does there, the machine does -/
/-- what holds in a method's body: d is how deep its calls may go -/
def zM (al : Nat → Nat) (tf : Nat × Nat) (gm dC : Nat → ClassId) (dI : Nat → Nat → Nat) (d : Nat) (y : MethodName) (bytes : ByteArray) (maxL : Nat) (ret : Option FieldType) (p : Program) (R : Room) (s : State) (m : MethodId) (args : Array Value) (meth : Method) (c : Code) : Prop :=
  p.tables.exec = Jvm.exec ∧ c.code = bytes ∧ c.maxLocals = maxL ∧ meth.sig.returnType = ret ∧ meth.locks = false ∧ s.vm.findClass y.cls = some m.cls ∧ (∀ w ∈ zTS, w.before args s = true) ∧ (y.name = "<init>" → meth.name = "<init>") ∧ zK gm dC dI s ∧ zQ al tf s ∧ True ∧ (∀ i j, al i = al j → i = j) ∧ d + 1 ≤ R.frames ∧ 40 * d + 40 ≤ R.locals
/-- a frame that stands, with fuel f left -/
def zX (al : Nat → Nat) (tf : Nat × Nat) (gm dC : Nat → ClassId) (dI : Nat → Nat → Nat) (N d maxL f : Nat) (R : Room) (s : State) (ls : List Nat) (B F : List (List Nat)) (top : Nat) (H : Heap) (locs : List Loc) (cells slots : Nat) (LS : Array Slot) : Prop :=
  zFr al tf ls LS ∧ zI N B F top ∧ zH al tf gm dC dI (B ++ F.reverse) H ∧ va_S (zA al) s.heap H locs ∧ cells + f * zC d ≤ R.cells ∧ slots + f * zS d ≤ R.slots ∧ ls.length = maxL
theorem zX.down {al : Nat → Nat} {tf : Nat × Nat} {gm dC : Nat → ClassId} {dI : Nat → Nat → Nat} {N d maxL f : Nat} {R : Room} {s : State} {ls : List Nat} {B F : List (List Nat)} {top : Nat} {H : Heap} {locs : List Loc} {cells slots : Nat} {LS : Array Slot} (h : zX al tf gm dC dI N d maxL (f + 1) R s ls B F top H locs cells slots LS) : zX al tf gm dC dI N d maxL f R s ls B F top H locs cells slots LS := by
  obtain ⟨h1, h2, h3, h4, h5, h6, h7⟩ := h
  rw [Nat.succ_mul] at h5 h6
  exact ⟨h1, h2, h3, h4, by omega, by omega, h7⟩
theorem zX.locals {al : Nat → Nat} {tf : Nat × Nat} {gm dC : Nat → ClassId} {dI : Nat → Nat → Nat} {N d maxL f : Nat} {R : Room} {s : State} {ls ls' : List Nat} {B F : List (List Nat)} {top : Nat} {H : Heap} {locs : List Loc} {cells slots : Nat} {LS LS' : Array Slot} (h : zX al tf gm dC dI N d maxL f R s ls B F top H locs cells slots LS) (hF : zFr al tf ls' LS') (hl : ls'.length = ls.length) : zX al tf gm dC dI N d maxL f R s ls' B F top H locs cells slots LS' := by
  obtain ⟨-, h2, h3, h4, h5, h6, h7⟩ := h
  exact ⟨hF, h2, h3, h4, h5, h6, hl.trans h7⟩
/-- where the evaluator stops, the goal is reached -/
def zT (al : Nat → Nat) (tf : Nat × Nat) (gm dC : Nat → ClassId) (dI : Nat → Nat → Nat) (N d maxL : Nat) (p : Program) (l : Launch) (e : Env) (R : Room) (s : State) (m : MethodId) (args : Array Value) (below : List Frame) (meth : Method) (c : Code) (Q : State → Prop) (rt : Nat → Prop) (q : ev_R) : Prop :=
  ∀ H locs cells slots LS, rt q.1 → zX al tf gm dC dI N d maxL 0 R s q.2.1 q.2.2.2.1 q.2.2.2.2.1 q.2.2.2.2.2 H locs cells slots LS → W p l e R s m args below meth c H locs cells slots Q (F0 m q.1 LS (q.2.2.1.map (zv al tf)))
/-- the rest of the way is sound -/
def zG (al : Nat → Nat) (tf : Nat × Nat) (gm dC : Nat → ClassId) (dI : Nat → Nat → Nat) (N d maxL f : Nat) (p : Program) (l : Launch) (e : Env) (R : Room) (s : State) (m : MethodId) (args : Array Value) (below : List Frame) (meth : Method) (c : Code) (Q : State → Prop) (rt : Nat → Prop) (go : ev_G) : Prop :=
  ∀ pc ls st B F top q, go pc ls st B F top = some q → zT al tf gm dC dI N d maxL p l e R s m args below meth c Q rt q → ∀ H locs cells slots LS, zX al tf gm dC dI N d maxL f R s ls B F top H locs cells slots LS → W p l e R s m args below meth c H locs cells slots Q (F0 m pc LS (st.map (zv al tf)))
def zPre (al : Nat → Nat) (tf : Nat × Nat) (gm dC : Nat → ClassId) (dI : Nat → Nat → Nat) (as : List Nat) (w : List (List Nat)) : Array Value → State → Prop := fun a U => a = (as.map (zv al tf)).toArray ∧ zH al tf gm dC dI w U.heap ∧ zK gm dC dI U ∧ zQ al tf U
def zPost (al : Nat → Nat) (tf : Nat × Nat) (gm dC : Nat → ClassId) (dI : Nat → Nat → Nat) (N : Nat) (r : List Nat) (B F : List (List Nat)) (top : Nat) : Array Value → State → Outcome → State → Prop := fun _ st oc t => oc = .returned (r.head?.map (zv al tf)) ∧ (zH al tf gm dC dI (B ++ F.reverse) t.heap ∧ zI N B F top) ∧ va_F (zA al) st t
/-- the methods by their numbers: name, bytes, locals, what comes back -/
abbrev zMs : Type := List (MethodName × ByteArray × Nat × Option FieldType)
/-- calls are sound -/
def zCs (zi : zMs) (al : Nat → Nat) (tf : Nat × Nat) (gm dC : Nat → ClassId) (dI : Nat → Nat → Nat) (N d : Nat) (l : Launch) (call : ev_C) : Prop :=
  ∀ mi as B F top q, (∀ x ∈ as, x ≠ 7) → call mi (as.flatMap zl1) B F top = some q → zI N B F top → ∃ i : MethodName × ByteArray × Nat × Option FieldType, zi[mi]? = some i ∧ q.1.length ≤ 1 ∧ i.2.2.1 ≤ 21 ∧ Cond.code i.1 i.2.1 i.2.2.1 i.2.2.2 ∈ zTS ∧
    Met l i.1 (Cond.code i.1 i.2.1 i.2.2.1 i.2.2.2 :: zTS) (zrm d) (zPre al tf gm dC dI as (B ++ F.reverse)) (zPost al tf gm dC dI N q.1 q.2.1 q.2.2.1 q.2.2.2) (zC d) (zS d) (zA al)
/-- a place where the method returns -/
def zRet (bytes : ByteArray) (ret : Option FieldType) (pc : Nat) : Prop := (ret = none ∧ decode bytes pc = .ok (.return_, 1)) ∨ (∃ ty, ret = some ty ∧ (ty = .int ∨ ty = .boolean ∨ ty = .byte ∨ ty = .char) ∧ decode bytes pc = .ok (.ireturn, 1)) ∨ (ret = some .long ∧ decode bytes pc = .ok (.lreturn, 1)) ∨ (∃ ty, ret = some ty ∧ ((∃ n, ty = .object n) ∨ ∃ t, ty = .array t) ∧ decode bytes pc = .ok (.areturn, 1))
def zO (zi : zMs) (al : Nat → Nat) (tf : Nat × Nat) (gm dC : Nat → ClassId) (dI : Nat → Nat → Nat) (N d : Nat) (l : Launch) (y : MethodName) (bytes : ByteArray) (maxL : Nat) (ret : Option FieldType) (pc : Nat) (ins : ev_I) : Prop :=
  ∀ p e R s m args below meth c Q (rt : Nat → Prop), (∀ k, zRet bytes ret k → rt k) → ∀ call go f, zM al tf gm dC dI d y bytes maxL ret p R s m args meth c → zCs zi al tf gm dC dI N d l call → zG al tf gm dC dI N d maxL f p l e R s m args below meth c Q rt go →
    ∀ ls st B F top q, ins call go pc ls st B F top = some q → zT al tf gm dC dI N d maxL p l e R s m args below meth c Q rt q → ∀ H locs cells slots LS, zX al tf gm dC dI N d maxL (f + 1) R s ls B F top H locs cells slots LS → W p l e R s m args below meth c H locs cells slots Q (F0 m pc LS (st.map (zv al tf)))
section ZO
variable {zi : zMs} {al : Nat → Nat} {tf : Nat × Nat} {gm dC : Nat → ClassId} {dI : Nat → Nat → Nat} {N d : Nat} {l : Launch} {y : MethodName} {bytes : ByteArray} {maxL : Nat} {ret : Option FieldType} {pc : Nat}
theorem zo_iload {nx i : Nat} (hd : (∃ k : Fin 4, decode bytes pc = .ok (.iload_n k, 1) ∧ (k : Nat) = i ∧ nx = pc + 1) ∨ (decode bytes pc = .ok (.iload i, 2) ∧ nx = pc + 2)) : zO zi al tf gm dC dI N d l y bytes maxL ret pc (eo_iload nx i) := by
  intro p e R s m args below meth c Q rt hrt call go f hM hC hG ls st B F top q h hT H locs cells slots LS hX
  have h : ev_get 7 ls i (fun v => ev_i v (go nx ls (v :: st) B F top)) = some q := h
  rw [ev_get_eq] at h
  obtain ⟨h4, h⟩ := ev_i_some h
  have hl := (hX.1.at (i := i) (by omega)).1
  rw [zv_i h4] at hl
  have K := hG nx ls _ B F top q h hT H locs cells slots LS hX.down
  rw [List.map_cons, zv_i h4] at K
  rcases hd with ⟨k, hd, hk, rfl⟩ | ⟨hd, rfl⟩
  · exact lv_iload_n hM.1 hM.2.1 hd hk hl K
  · exact lv_iload hM.1 hM.2.1 hd hl K
theorem zo_lload {nx i : Nat} (hd : (∃ k : Fin 4, decode bytes pc = .ok (.lload_n k, 1) ∧ (k : Nat) = i ∧ nx = pc + 1) ∨ (decode bytes pc = .ok (.lload i, 2) ∧ nx = pc + 2)) : zO zi al tf gm dC dI N d l y bytes maxL ret pc (eo_lload nx i) := by
  intro p e R s m args below meth c Q rt hrt call go f hM hC hG ls st B F top q h hT H locs cells slots LS hX
  have h : ev_get 7 ls i (fun v => ev_l v (go nx ls (v :: st) B F top)) = some q := h
  rw [ev_get_eq] at h
  obtain ⟨h4, h⟩ := ev_l_some h
  have hl := (hX.1.at (i := i) (by omega)).1
  rw [zv_l h4] at hl
  have K := hG nx ls _ B F top q h hT H locs cells slots LS hX.down
  rw [List.map_cons, zv_l h4] at K
  rcases hd with ⟨k, hd, hk, rfl⟩ | ⟨hd, rfl⟩
  · exact lv_lload_n hM.1 hM.2.1 hd hk hl K
  · exact lv_lload hM.1 hM.2.1 hd hl K
theorem zo_aload {nx i : Nat} (hd : (∃ k : Fin 4, decode bytes pc = .ok (.aload_n k, 1) ∧ (k : Nat) = i ∧ nx = pc + 1) ∨ (decode bytes pc = .ok (.aload i, 2) ∧ nx = pc + 2)) : zO zi al tf gm dC dI N d l y bytes maxL ret pc (eo_aload nx i) := by
  intro p e R s m args below meth c Q rt hrt call go f hM hC hG ls st B F top q h hT H locs cells slots LS hX
  have h : ev_get 7 ls i (fun v => ev_b (Nat.beq (Nat.mod v 4) 2) (go nx ls (v :: st) B F top) (ev_b (Nat.beq v 3) (go nx ls (v :: st) B F top) (ev_b (Nat.beq v 11) (go nx ls (v :: st) B F top) none))) = some q := h
  rw [ev_get_eq] at h
  have key : (ls.getD i 7 % 4 = 2 ∨ ls.getD i 7 = 3 ∨ ls.getD i 7 = 11) ∧ go nx ls (ls.getD i 7 :: st) B F top = some q := by
    rcases ev_if zb_eq h with ⟨h1, h2⟩ | ⟨-, h2⟩
    · exact ⟨Or.inl h1, h2⟩
    rcases ev_if zb_eq h2 with ⟨h1, h2⟩ | ⟨-, h2⟩
    · exact ⟨Or.inr (Or.inl h1), h2⟩
    obtain ⟨h1, h2⟩ := ev_b_some h2
    exact ⟨Or.inr (Or.inr (zb_eq.mp h1)), h2⟩
  obtain ⟨hk, h⟩ := key
  have hl := (hX.1.at (i := i) (by omega)).1
  have K := hG nx ls _ B F top q h hT H locs cells slots LS hX.down
  rw [List.map_cons] at K
  rcases hk with hk | hk | hk
  · rw [zv_r hk] at hl K
    rcases hd with ⟨k, hd, hk, rfl⟩ | ⟨hd, rfl⟩
    · exact lv_aload_n hM.1 hM.2.1 hd hk hl K
    · exact lv_aload hM.1 hM.2.1 hd hl K
  · rw [hk, zv_n] at hl K
    rcases hd with ⟨k, hd, hk, rfl⟩ | ⟨hd, rfl⟩
    · exact lv_aload_nN hM.1 hM.2.1 hd hk hl K
    · exact lv_aloadN hM.1 hM.2.1 hd hl K
  · rw [hk, zv_f] at hl K
    rcases hd with ⟨k, hd, hk, rfl⟩ | ⟨hd, rfl⟩
    · exact lv_aload_n hM.1 hM.2.1 hd hk hl K
    · exact lv_aload hM.1 hM.2.1 hd hl K
theorem zo_istore {nx i : Nat} (hi : i < maxL) (hd : (∃ k : Fin 4, decode bytes pc = .ok (.istore_n k, 1) ∧ (k : Nat) = i ∧ nx = pc + 1) ∨ (decode bytes pc = .ok (.istore i, 2) ∧ nx = pc + 2)) : zO zi al tf gm dC dI N d l y bytes maxL ret pc (eo_istore nx i) := by
  intro p e R s m args below meth c Q rt hrt call go f hM hC hG ls st B F top q h hT H locs cells slots LS hX
  replace h := ev_uc_some h
  obtain ⟨v, r, rfl, h⟩ := h
  obtain ⟨h4, h⟩ := ev_i_some h
  rw [ev_get_eq] at h
  obtain ⟨hp, h⟩ := ev_b_none h
  rw [ev_set_eq] at h
  have hp := zb_ne hp
  have hl : i < ls.length := by rw [hX.2.2.2.2.2.2]; exact hi
  rw [List.map_cons, zv_i h4]
  have KK : ∀ LS', lv_has LS' ls.length ((i, Value.int (nI (v / 4))) :: (zlf al tf 0 ls).filter (fun q => !(q.1 == i) && !(q.1 + 1 == i && q.2.category == 2))) → W p l e R s m args below meth c H locs cells slots Q (F0 m nx LS' (r.map (zv al tf))) := fun LS' hL =>
    hG nx _ _ B F top q h hT H locs cells slots LS' (hX.down.locals (zFr.st1 (fun _ h => h) hL (zv_i h4) hp) (by rw [List.length_set]))
  rcases hd with ⟨k, hd, hk, rfl⟩ | ⟨hd, rfl⟩
  · exact lv_istore_n hM.1 hM.2.1 hd hk hX.1 hl rfl KK
  · exact lv_istore hM.1 hM.2.1 hd hX.1 hl rfl KK
theorem zo_astore {nx i : Nat} (hi : i < maxL) (hd : (∃ k : Fin 4, decode bytes pc = .ok (.astore_n k, 1) ∧ (k : Nat) = i ∧ nx = pc + 1) ∨ (decode bytes pc = .ok (.astore i, 2) ∧ nx = pc + 2)) : zO zi al tf gm dC dI N d l y bytes maxL ret pc (eo_astore nx i) := by
  intro p e R s m args below meth c Q rt hrt call go f hM hC hG ls st B F top q h hT H locs cells slots LS hX
  replace h := ev_uc_some h
  obtain ⟨v, r, rfl, h⟩ := h
  have hl : i < ls.length := by rw [hX.2.2.2.2.2.2]; exact hi
  rw [List.map_cons]
  rcases ev_if zb_eq h with ⟨h4, h⟩ | ⟨-, h⟩
  · rw [ev_get_eq] at h
    obtain ⟨hp, h⟩ := ev_b_none h
    rw [ev_set_eq] at h
    have hp := zb_ne hp
    rw [zv_r h4]
    have KK : ∀ LS', lv_has LS' ls.length ((i, Value.ref (al (v / 4))) :: (zlf al tf 0 ls).filter (fun q => !(q.1 == i) && !(q.1 + 1 == i && q.2.category == 2))) → W p l e R s m args below meth c H locs cells slots Q (F0 m nx LS' (r.map (zv al tf))) := fun LS' hL =>
      hG nx _ _ B F top q h hT H locs cells slots LS' (hX.down.locals (zFr.st1 (fun _ h => h) hL (zv_r h4) hp) (by rw [List.length_set]))
    rcases hd with ⟨k, hd, hk, rfl⟩ | ⟨hd, rfl⟩
    · exact lv_astore_n hM.1 hM.2.1 hd hk hX.1 hl rfl KK
    · exact lv_astore hM.1 hM.2.1 hd hX.1 hl rfl KK
  · obtain ⟨h3, h⟩ := ev_b_some h
    have h3 := zb_eq.mp h3
    rw [ev_get_eq] at h
    obtain ⟨hp, h⟩ := ev_b_none h
    rw [ev_set_eq] at h
    have hp := zb_ne hp
    subst h3
    rw [zv_n]
    have KK : ∀ LS', lv_has LS' ls.length ((i, Value.null) :: (zlf al tf 0 ls).filter (fun q => !(q.1 == i) && !(q.1 + 1 == i && q.2.category == 2))) → W p l e R s m args below meth c H locs cells slots Q (F0 m nx LS' (r.map (zv al tf))) := fun LS' hL =>
      hG nx _ _ B F top q h hT H locs cells slots LS' (hX.down.locals (zFr.st1 (fun _ h => h) hL zv_n hp) (by rw [List.length_set]))
    rcases hd with ⟨k, hd, hk, rfl⟩ | ⟨hd, rfl⟩
    · exact lv_astore_nN hM.1 hM.2.1 hd hk hX.1 hl rfl KK
    · exact lv_astoreN hM.1 hM.2.1 hd hX.1 hl rfl KK
theorem zo_lstore {nx i : Nat} (hi : i + 1 < maxL) (hd : (∃ k : Fin 4, decode bytes pc = .ok (.lstore_n k, 1) ∧ (k : Nat) = i ∧ nx = pc + 1) ∨ (decode bytes pc = .ok (.lstore i, 2) ∧ nx = pc + 2)) : zO zi al tf gm dC dI N d l y bytes maxL ret pc (eo_lstore nx i) := by
  intro p e R s m args below meth c Q rt hrt call go f hM hC hG ls st B F top q h hT H locs cells slots LS hX
  replace h := ev_uc_some h
  obtain ⟨v, r, rfl, h⟩ := h
  obtain ⟨h4, h⟩ := ev_l_some h
  rw [ev_get_eq] at h
  obtain ⟨hp, h⟩ := ev_b_none h
  rw [ev_set_eq, ev_set_eq] at h
  have hp := zb_ne hp
  have hl : i + 1 < ls.length := by rw [hX.2.2.2.2.2.2]; exact hi
  rw [List.map_cons, zv_l h4]
  have KK : ∀ LS', lv_has LS' ls.length ((i, Value.long (lN (v / 4))) :: (zlf al tf 0 ls).filter (fun q => !(q.1 == i) && (!(q.1 == i + 1) && !(q.1 + 1 == i && q.2.category == 2)))) → W p l e R s m args below meth c H locs cells slots Q (F0 m nx LS' (r.map (zv al tf))) := fun LS' hL =>
    hG nx _ _ B F top q h hT H locs cells slots LS' (hX.down.locals (zFr.st2 (fun _ h => h) hL (zv_l h4) hp) (by rw [List.length_set, List.length_set]))
  rcases hd with ⟨k, hd, hk, rfl⟩ | ⟨hd, rfl⟩
  · exact lv_lstore_n hM.1 hM.2.1 hd hk hX.1 hl rfl KK
  · exact lv_lstore hM.1 hM.2.1 hd hX.1 hl rfl KK
theorem zo_goto {off : Int} {tg : Nat} (hd : decode bytes pc = .ok (.goto off, 3)) (ht : (pc : Int) + off = (tg : Int)) : zO zi al tf gm dC dI N d l y bytes maxL ret pc (eo_goto tg) := by
  intro p e R s m args below meth c Q rt hrt call go f hM hC hG ls st B F top q h hT H locs cells slots LS hX
  exact lv_goto hM.1 hM.2.1 hd ht (hG tg ls st B F top q h hT H locs cells slots LS hX.down)
theorem zo_ret (hret : zRet bytes ret pc) : zO zi al tf gm dC dI N d l y bytes maxL ret pc eo_ret := by
  intro p e R s m args below meth c Q rt hrt call go f hM hC hG ls st B F top q h hT H locs cells slots LS hX
  cases h
  obtain ⟨h1, h2, h3, h4, h5, h6, h7⟩ := hX
  exact hT H locs cells slots LS (hrt pc hret) ⟨h1, h2, h3, h4, by omega, by omega, h7⟩
/-- a constant is laid on the stack -/
theorem zo_push {nx v : Nat} (hw : ∀ p e R s m args below meth c Q H locs cells slots LS (rest : List Value), zM al tf gm dC dI d y bytes maxL ret p R s m args meth c → va_S (zA al) s.heap H locs → W p l e R s m args below meth c H locs cells slots Q (F0 m nx LS (zv al tf v :: rest)) → W p l e R s m args below meth c H locs cells slots Q (F0 m pc LS rest)) : zO zi al tf gm dC dI N d l y bytes maxL ret pc (eo_push nx v) := by
  intro p e R s m args below meth c Q rt hrt call go f hM hC hG ls st B F top q h hT H locs cells slots LS hX
  exact hw p e R s m args below meth c Q H locs cells slots LS _ hM hX.2.2.2.1 (hG nx ls (v :: st) B F top q h hT H locs cells slots LS hX.down)
theorem zo_iconst {nx v : Nat} {n : Int} (hd : decode bytes pc = .ok (.iconst n, 1)) (hn : nx = pc + 1) (hv : .int (Int32.ofInt n) = zv al tf v) : zO zi al tf gm dC dI N d l y bytes maxL ret pc (eo_push nx v) :=
  zo_push fun p e R s m args below meth c Q H locs cells slots LS rest hM _ K => lv_iconst hM.1 hM.2.1 hd rfl (by rw [hv, ← hn]; exact K)
theorem zo_bipush {nx v : Nat} {n : Int} (hd : decode bytes pc = .ok (.bipush n, 2)) (hn : nx = pc + 2) (hv : .int (Int8.ofInt n).toInt32 = zv al tf v) : zO zi al tf gm dC dI N d l y bytes maxL ret pc (eo_push nx v) :=
  zo_push fun p e R s m args below meth c Q H locs cells slots LS rest hM _ K => lv_bipush hM.1 hM.2.1 hd rfl (by rw [hv, ← hn]; exact K)
theorem zo_sipush {nx v : Nat} {n : Int} (hd : decode bytes pc = .ok (.sipush n, 3)) (hn : nx = pc + 3) (hv : .int (Int16.ofInt n).toInt32 = zv al tf v) : zO zi al tf gm dC dI N d l y bytes maxL ret pc (eo_push nx v) :=
  zo_push fun p e R s m args below meth c Q H locs cells slots LS rest hM _ K => lv_sipush hM.1 hM.2.1 hd rfl (by rw [hv, ← hn]; exact K)
theorem zo_lconst {nx v : Nat} {n : Fin 2} (hd : decode bytes pc = .ok (.lconst n, 1)) (hn : nx = pc + 1) (hv : .long (Int64.ofNat (n : Nat)) = zv al tf v) : zO zi al tf gm dC dI N d l y bytes maxL ret pc (eo_push nx v) :=
  zo_push fun p e R s m args below meth c Q H locs cells slots LS rest hM _ K => lv_lconst hM.1 hM.2.1 hd rfl (by rw [hv, ← hn]; exact K)
theorem zo_anull {nx : Nat} (hd : decode bytes pc = .ok (.aconst_null, 1)) (hn : nx = pc + 1) : zO zi al tf gm dC dI N d l y bytes maxL ret pc (eo_push nx 3) :=
  zo_push fun p e R s m args below meth c Q H locs cells slots LS rest hM _ K => lv_null hM.1 hM.2.1 hd (by rw [← hn]; exact K)
theorem zo_ldc {nx v i : Nat} {x : Int32} (hd : decode bytes pc = .ok (.ldc i, 2)) (hn : nx = pc + 2) (hv : .int x = zv al tf v) (hw : Cond.constant y.cls i x ∈ zTS) : zO zi al tf gm dC dI N d l y bytes maxL ret pc (eo_push nx v) :=
  zo_push fun p e R s m args below meth c Q H locs cells slots LS rest hM _ K => lv_ldc hM.1 hM.2.1 hM.2.2.2.2.2.1 (hM.2.2.2.2.2.2.1 _ hw) hd (by rw [hv, ← hn]; exact K)
theorem zo_ldcw {nx v i : Nat} {x : Int32} (hd : decode bytes pc = .ok (.ldc_w i, 3)) (hn : nx = pc + 3) (hv : .int x = zv al tf v) (hw : Cond.constant y.cls i x ∈ zTS) : zO zi al tf gm dC dI N d l y bytes maxL ret pc (eo_push nx v) :=
  zo_push fun p e R s m args below meth c Q H locs cells slots LS rest hM _ K => lv_ldcw hM.1 hM.2.1 hM.2.2.2.2.2.1 (hM.2.2.2.2.2.2.1 _ hw) hd (by rw [hv, ← hn]; exact K)
theorem zo_ldc2 {nx v i : Nat} {x : Int64} (hd : decode bytes pc = .ok (.ldc2_w i, 3)) (hn : nx = pc + 3) (hv : .long x = zv al tf v) (hw : Cond.constantLong y.cls i x ∈ zTS) : zO zi al tf gm dC dI N d l y bytes maxL ret pc (eo_push nx v) :=
  zo_push fun p e R s m args below meth c Q H locs cells slots LS rest hM _ K => lv_ldc2 hM.1 hM.2.1 hM.2.2.2.2.2.1 (hM.2.2.2.2.2.2.1 _ hw) hd (by rw [hv, ← hn]; exact K)
/-- two ints become one value -/
theorem zo_bin {nx : Nat} {g : Nat → Nat → Nat} {P : Nat → Nat → Prop} {ins : ev_I} (hins : ∀ call go pc ls st B F top q, ins call go pc ls st B F top = some q → ∃ v u r, st = v :: u :: r ∧ v % 4 = 0 ∧ u % 4 = 0 ∧ P u v ∧ go nx ls (g u v :: r) B F top = some q)
    (hw : ∀ p e R s m args below meth c Q H locs cells slots LS (rest : List Value) u v, zM al tf gm dC dI d y bytes maxL ret p R s m args meth c → v % 4 = 0 → u % 4 = 0 → P u v → W p l e R s m args below meth c H locs cells slots Q (F0 m nx LS (zv al tf (g u v) :: rest)) → W p l e R s m args below meth c H locs cells slots Q (F0 m pc LS (.int (nI (v / 4)) :: .int (nI (u / 4)) :: rest))) : zO zi al tf gm dC dI N d l y bytes maxL ret pc ins := by
  intro p e R s m args below meth c Q rt hrt call go f hM hC hG ls st B F top q h hT H locs cells slots LS hX
  obtain ⟨v, u, r, rfl, hv, hu, hP, h⟩ := hins call go pc ls st B F top q h
  rw [List.map_cons, List.map_cons, zv_i hv, zv_i hu]
  exact hw p e R s m args below meth c Q H locs cells slots LS _ u v hM hv hu hP (hG nx ls _ B F top q h hT H locs cells slots LS hX.down)
theorem zo_iadd {nx : Nat} (hd : decode bytes pc = .ok (.iadd, 1)) (hn : nx = pc + 1) : zO zi al tf gm dC dI N d l y bytes maxL ret pc (eo_iadd nx) := by
  refine zo_bin (nx := nx) (g := fun u v => (u + v) % ev_M) (P := fun _ _ => True) (fun call go pc ls st B F top q h => ?_) (fun p e R s m args below meth c Q H locs cells slots LS rest u v hM hv hu _ K => ?_)
  · replace h := ev_uc_some h
    obtain ⟨v, s1, rfl, h⟩ := h
    replace h := ev_uc_some h
    obtain ⟨u, r, rfl, h⟩ := h
    obtain ⟨hv, h⟩ := ev_i_some h
    obtain ⟨hu, h⟩ := ev_i_some h
    rw [ev_nf_eq] at h
    exact ⟨v, u, r, rfl, hv, hu, trivial, h⟩
  · subst hn
    refine lv_iadd hM.1 hM.2.1 hd ?_
    have e : zv al tf ((u + v) % ev_M) = .int (nI (u / 4) + nI (v / 4)) := by
      rw [zv_i (by unfold ev_M; omega), nI_add, ← zn_mod (u / 4 + v / 4)]
      congr 2
      unfold ev_M
      omega
    rw [← e]
    exact K
theorem zo_isub {nx : Nat} (hd : decode bytes pc = .ok (.isub, 1)) (hn : nx = pc + 1) : zO zi al tf gm dC dI N d l y bytes maxL ret pc (eo_isub nx) := by
  refine zo_bin (nx := nx) (g := fun u v => (u + ev_M - v) % ev_M) (P := fun _ v => v < ev_M) (fun call go pc ls st B F top q h => ?_) (fun p e R s m args below meth c Q H locs cells slots LS rest u v hM hv hu hP K => ?_)
  · replace h := ev_uc_some h
    obtain ⟨v, s1, rfl, h⟩ := h
    replace h := ev_uc_some h
    obtain ⟨u, r, rfl, h⟩ := h
    obtain ⟨hv, h⟩ := ev_i_some h
    obtain ⟨hu, h⟩ := ev_i_some h
    obtain ⟨hb, h⟩ := ev_b_some h
    rw [ev_nf_eq] at h
    exact ⟨v, u, r, rfl, hv, hu, zb_lt.mp hb, h⟩
  · subst hn
    refine lv_isub hM.1 hM.2.1 hd ?_
    have e : zv al tf ((u + ev_M - v) % ev_M) = .int (nI (u / 4) - nI (v / 4)) := by
      unfold ev_M at hP
      have h1 : nI (u / 4) - nI (v / 4) = nI (u / 4 + 4294967296 - v / 4) := by
        rw [← pk_sub (by omega), ← zn_mod (u / 4 + 4294967296), Nat.add_mod_right, zn_mod]
      rw [zv_i (by unfold ev_M; omega), h1, ← zn_mod (u / 4 + 4294967296 - v / 4)]
      congr 2
      unfold ev_M
      omega
    rw [← e]
    exact K
theorem zo_imul {nx : Nat} (hd : decode bytes pc = .ok (.imul, 1)) (hn : nx = pc + 1) : zO zi al tf gm dC dI N d l y bytes maxL ret pc (eo_imul nx) := by
  refine zo_bin (nx := nx) (g := fun u v => (u / 4 * v) % ev_M) (P := fun _ _ => True) (fun call go pc ls st B F top q h => ?_) (fun p e R s m args below meth c Q H locs cells slots LS rest u v hM hv hu _ K => ?_)
  · replace h := ev_uc_some h
    obtain ⟨v, s1, rfl, h⟩ := h
    replace h := ev_uc_some h
    obtain ⟨u, r, rfl, h⟩ := h
    obtain ⟨hv, h⟩ := ev_i_some h
    obtain ⟨hu, h⟩ := ev_i_some h
    rw [ev_nf_eq] at h
    exact ⟨v, u, r, rfl, hv, hu, trivial, h⟩
  · subst hn
    refine lv_imul hM.1 hM.2.1 hd ?_
    have e1 : u / 4 * v = 4 * (u / 4 * (v / 4)) := by
      have hv2 : v = 4 * (v / 4) := by omega
      calc u / 4 * v = u / 4 * (4 * (v / 4)) := by rw [← hv2]
        _ = 4 * (u / 4 * (v / 4)) := by rw [Nat.mul_left_comm]
    have e : zv al tf ((u / 4 * v) % ev_M) = .int (nI (u / 4) * nI (v / 4)) := by
      rw [pk_mul, e1]
      generalize u / 4 * (v / 4) = w
      rw [zv_i (by unfold ev_M; omega), ← zn_mod w]
      congr 2
      unfold ev_M
      omega
    rw [← e]
    exact K
theorem zo_idiv {nx : Nat} (hd : decode bytes pc = .ok (.idiv, 1)) (hn : nx = pc + 1) : zO zi al tf gm dC dI N d l y bytes maxL ret pc (eo_idiv nx) := by
  refine zo_bin (nx := nx) (g := fun u v => 4 * (u / v)) (P := fun u v => u < ev_H ∧ v < ev_H ∧ v ≠ 0) (fun call go pc ls st B F top q h => ?_) (fun p e R s m args below meth c Q H locs cells slots LS rest u v hM hv hu hP K => ?_)
  · replace h := ev_uc_some h
    obtain ⟨v, s1, rfl, h⟩ := h
    replace h := ev_uc_some h
    obtain ⟨u, r, rfl, h⟩ := h
    obtain ⟨hv, h⟩ := ev_i_some h
    obtain ⟨hu, h⟩ := ev_i_some h
    obtain ⟨hb1, h⟩ := ev_b_some h
    obtain ⟨hb2, h⟩ := ev_b_some h
    obtain ⟨hb3, h⟩ := ev_b_none h
    rw [ev_nf_eq] at h
    exact ⟨v, u, r, rfl, hv, hu, ⟨zb_lt.mp hb1, zb_lt.mp hb2, zb_ne hb3⟩, h⟩
  · subst hn
    obtain ⟨h1, h2, h3⟩ := hP
    unfold ev_H at h1 h2
    refine lv_idiv hM.1 hM.2.1 hd (nI_ne0 (by omega) (by omega)) ?_
    have e : zv al tf (4 * (u / v)) = .int (nI (u / 4) / nI (v / 4)) := by
      rw [zv_k, pk_div (by omega) (by omega) (by omega)]
      have hu2 : u = 4 * (u / 4) := by omega
      have hv2 : v = 4 * (v / 4) := by omega
      have e2 : u / v = u / 4 / (v / 4) := by
        calc u / v = 4 * (u / 4) / (4 * (v / 4)) := by rw [← hu2, ← hv2]
          _ = u / 4 / (v / 4) := Nat.mul_div_mul_left _ _ (by omega)
      rw [e2]
    rw [← e]
    exact K
theorem zn_neg {n : Nat} (h : n ≤ 4294967296) : nI (4294967296 - n) = - nI n := by
  have h1 : nI (4294967296 - n) = nI 4294967296 - nI n := (pk_sub h).symm
  rw [h1, show nI 4294967296 = 0 by decide, Int32.zero_sub]
theorem zn_irem {a b : Nat} (ha : a < 2147483648) (h0 : 0 < b) (hb : b < 2147483648) : (- nI a) - (- nI a) / nI b * nI b = - nI (a % b) := by
  have hq : (- nI a) / nI b = - nI (a / b) := by
    apply Int32.toInt_inj.mp
    have hlt : a / b ≤ a := Nat.div_le_self _ _
    have hc : ((a / b : Nat) : Int) = (a : Int) / (b : Int) := Int.natCast_ediv a b
    generalize a / b = k at hc hlt ⊢
    rw [Int32.toInt_div, sb_negT ha, nI_toInt hb, sb_negT (by omega), Int.neg_tdiv, Int.tdiv_eq_ediv_of_nonneg (by omega), ← hc, Int.bmod_eq_of_le (by omega) (by omega)]
  rw [hq, Int32.neg_mul, Int32.sub_neg, pk_mul]
  have hm : a = a / b * b + a % b := by rw [Nat.mul_comm]; exact (Nat.div_add_mod a b).symm
  have e : nI a = nI (a / b * b) + nI (a % b) := by rw [nI_add, ← hm]
  rw [e, Int32.neg_add, Int32.sub_eq_add_neg, Int32.add_assoc, Int32.add_comm (-nI (a % b)), ← Int32.add_assoc, Int32.add_left_neg, Int32.zero_add]
theorem zo_irem {nx : Nat} (hd : decode bytes pc = .ok (.irem, 1)) (hn : nx = pc + 1) : zO zi al tf gm dC dI N d l y bytes maxL ret pc (eo_irem nx) := by
  refine zo_bin (nx := nx) (g := fun u v => if u < ev_H then 4 * (u / 4 % (v / 4)) else (ev_M - 4 * ((ev_M - u) / 4 % (v / 4))) % ev_M) (P := fun u v => v < ev_H ∧ v ≠ 0 ∧ u < ev_M ∧ u ≠ ev_H) (fun call go pc ls st B F top q h => ?_) (fun p e R s m args below meth c Q H locs cells slots LS rest u v hM hv hu hP K => ?_)
  · replace h := ev_uc_some h
    obtain ⟨v, s1, rfl, h⟩ := h
    replace h := ev_uc_some h
    obtain ⟨u, r, rfl, h⟩ := h
    obtain ⟨hv, h⟩ := ev_i_some h
    obtain ⟨hu, h⟩ := ev_i_some h
    obtain ⟨hb1, h⟩ := ev_b_some h
    obtain ⟨hb2, h⟩ := ev_b_none h
    have hb1 := zb_lt.mp hb1
    have hb2 := zb_ne hb2
    rcases ev_if zb_lt h with ⟨h1, h⟩ | ⟨h1, h⟩
    · rw [ev_nf_eq] at h
      refine ⟨v, u, r, rfl, hv, hu, ⟨hb1, hb2, by unfold ev_H at h1; unfold ev_M; omega, by omega⟩, ?_⟩
      show go nx ls ((if u < ev_H then _ else _) :: r) B F top = some q
      rw [if_pos h1]
      exact h
    · obtain ⟨hb4, h⟩ := ev_b_some h
      obtain ⟨hb3, h⟩ := ev_b_some h
      have hb4 := zb_lt.mp hb4
      rw [ev_nf_eq, ev_nf_eq] at h
      refine ⟨v, u, r, rfl, hv, hu, ⟨hb1, hb2, zb_lt.mp hb3, by omega⟩, ?_⟩
      show go nx ls ((if u < ev_H then _ else _) :: r) B F top = some q
      rw [if_neg h1]
      exact h
  · subst hn
    obtain ⟨h1, h2, h3, h5⟩ := hP
    unfold ev_H at h1 h5
    unfold ev_M at h3
    refine lv_irem hM.1 hM.2.1 hd (nI_ne0 (by omega) (by omega)) ?_
    have e : zv al tf (if u < ev_H then 4 * (u / 4 % (v / 4)) else (ev_M - 4 * ((ev_M - u) / 4 % (v / 4))) % ev_M) = .int (nI (u / 4) - nI (u / 4) / nI (v / 4) * nI (v / 4)) := by
      by_cases hh : u < ev_H
      · rw [if_pos hh]
        unfold ev_H at hh
        rw [zv_k, pk_rem (by omega) (by omega) (by omega)]
      · rw [if_neg hh]
        unfold ev_H at hh
        have hz : nI (u / 4) = - nI ((ev_M - u) / 4) := by
          rw [← zn_neg (by unfold ev_M; omega)]
          congr 1
          unfold ev_M
          omega
        have ha : (ev_M - u) / 4 < 2147483648 := by unfold ev_M; omega
        rw [hz, zn_irem (by omega) (by omega) (by omega)]
        generalize hw : (ev_M - u) / 4 % (v / 4) = w
        have hwl : w < 2147483648 := by
          rw [← hw]
          exact Nat.lt_of_lt_of_le (Nat.mod_lt _ (by omega)) (by omega)
        rw [zv_i (by unfold ev_M; omega), ← zn_neg (by omega), ← zn_mod (4294967296 - w)]
        congr 2
        unfold ev_M
        omega
    rw [← e]
    exact K
end ZO
