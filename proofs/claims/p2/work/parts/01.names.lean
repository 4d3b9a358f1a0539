/-! ===== BEGIN words of one list among another's, by their places ===== -/
theorem goodIn_r {big : List Cond} (ws : List Cond) (ps : List Nat) (hp : ws = ps.filterMap (fun i => big[i]?)) (h : ws.all goodWord = true) : GoodIn big ws := by
  intro w hw
  have h1 := List.all_eq_true.mp h w hw
  rw [hp] at hw
  obtain ⟨i, -, hi⟩ := List.mem_filterMap.mp hw
  have hm : w ∈ big := by first | exact List.mem_of_getElem? hi | exact List.getElem?_mem hi
  exact ⟨hm, good_of_word h1⟩
theorem goodIn_app {big a b : List Cond} (ha : GoodIn big a) (hb : GoodIn big b) : GoodIn big (a ++ b) := fun w h => (List.mem_append.mp h).elim (ha w) (hb w)
theorem goodIn_ca {big a b : List Cond} {c : Cond} (ha : GoodIn big (c :: a)) (hb : GoodIn big b) : GoodIn big (c :: (a ++ b)) := fun w h => (List.mem_cons.mp h).elim (fun e => ha w (List.mem_cons.mpr (Or.inl e))) (fun h => (List.mem_append.mp h).elim (fun h => ha w (List.mem_cons.mpr (Or.inr h))) (hb w))
theorem goodIn_sub {big ws : List Cond} (hm : ∀ w ∈ ws, w ∈ big) (h : ws.all goodWord = true) : GoodIn big ws := fun w hw => ⟨hm w hw, good_of_word (List.all_eq_true.mp h w hw)⟩
/-! ===== END ===== -/

/-! ===== BEGIN exceptions that leave a method, and their catching by the caller (launches without stack traces) ===== -/
section VXA
/-! The laws vx_back, vx_callV, vx_callS, vx_callSW, vx_throw0, vx_throwS follow proofs of the library, with one case more: JvmDerived/Free/Laws.lean (Back.of_free), Shelf42/LK1.lean (callV, callS), Shelf/KitTraced.lean (throwNew0V, throwNewS). -/
/-- where a method has thrown q: the class by its name, the cell, what was written, the world -/
def vx_T (XC : String → State → State → Prop) (st : State) (q : Addr) (t : State) (mc ms : Nat) (free : Addr → Prop) : Prop :=
  ∃ (E : String) (ce : Cell) (L : List Loc), XC E st t ∧ t.heap[q]? = some ce ∧ ce.vm = .none ∧ st.vm.findClass E = some ce.cls ∧ st.WarmedH t.vm ∧ st.sameButNew ({ t with vm := st.vm } : State) L mc ms ∧ ∀ z ∈ L, free z.base
def vx_Q (Qc : Array Value → State → Outcome → State → Prop) (XC : String → State → State → Prop) (mc ms : Nat) (free : Addr → Prop) : Array Value → State → Outcome → State → Prop := fun a st o t =>
  (Qc a st o t ∧ ∃ L, FrameEnd st o t L mc ms ∧ ∀ q ∈ L, free q.base) ∨ ∃ q, o = .threw q ∧ vx_T XC st q t mc ms free
/-- a callee that returns or throws -/
def vx_Met (l : Launch) (y : MethodName) (ws : List Cond) (rm : Room) (Pc : Array Value → State → Prop) (Qc : Array Value → State → Outcome → State → Prop) (XC : String → State → State → Prop) (mc ms : Nat) (free : Addr → Prop) : Prop :=
  MetFree l y (headSpec ws rm) Pc (fun _ _ _ _ _ => True) (vx_Q Qc XC mc ms free)
def vx_Post (XC : String → State → State → Prop) (mc ms : Nat) (free : Addr → Prop) : Pt → Array Value → Addr → Pt → Prop := fun A a q B =>
  ∃ (g : JFrame) (mk : MethodId) (t : State) (L : List Loc) (E : String) (ce : Cell), B.U.heap = t.heap ∧ B.U.vm = t.vm ∧ XC E (A.U.calling g mk a) t ∧ t.heap[q]? = some ce ∧ ce.vm = .none ∧ A.U.vm.findClass E = some ce.cls ∧ B.locs = A.locs ++ L ∧ (∀ z ∈ L, free z.base) ∧ B.cells = A.cells + mc ∧ B.slots = A.slots + ms
def vx_Back (l : Launch) (R : Room) (p : Program) (e : Env) (below : List Frame) (s : State) (sargs : Array Value) (y : MethodName) (len W9 : Nat)
    (Pre : Pt → Array Value → Prop) (Post : Pt → Array Value → Option Value → Pt → Prop) (PostX : Pt → Array Value → Addr → Pt → Prop) : Prop :=
  ∀ (m : MethodId) (meth : Method) (c : Code) (A : Pt) (g : JFrame) (ig : Instr) (mk : MethodId) (a : Array Value),
    Stand p l e R s m sargs below meth c A.U A.locs A.cells A.slots → g.method = m → g.locals.size = c.maxLocals → decode c.code g.pc = .ok (ig, len) →
    2 * g.monitorRoom + (g.stack.map fun v => v.category).sum ≤ W9 → A.U.methodNamed? y = some mk → Pre A a →
    (∃ (v : Option Value) (B : Pt), Stand p l e R s m sargs below meth c B.U B.locs B.cells B.slots ∧ Post A a v B ∧
      Steps p.tables e below (doInvoke e (A.U.setTop g) [] mk a).1 (B.U.setTop { g with pc := g.pc + len, stack := v.toList ++ g.stack })) ∨
    (∃ (q : Addr) (B : Pt), Stand p l e R s m sargs below meth c B.U B.locs B.cells B.slots ∧ PostX A a q B ∧
      Steps p.tables e below (doInvoke e (A.U.setTop g) [] mk a).1 ((B.U.setTop g).pushFrame (.throwing q)))
section Payer
variable {l : Launch} {R : Room} {p : Program} {e : Env} {below : List Frame} {s : State} {sargs : Array Value} {y : MethodName} {len W9 : Nat}
theorem vx_back {ws : List Cond} {rm : Room} {Pc : Array Value → State → Prop} {Qc : Array Value → State → Outcome → State → Prop} {XC : String → State → State → Prop} {mc ms : Nat} {free : Addr → Prop} {bytes : ByteArray} {maxL : Nat} {ret : Option FieldType}
    (hM : vx_Met l y ws rm Pc Qc XC mc ms free) (hblind : FrameBlind Pc) (hrc : rm.cells = mc) (hrs : rm.slots = ms)
    (hframes : rm.frames + 1 ≤ R.frames) (hlocals : W9 + (maxL + 11) + rm.locals ≤ R.locals)
    (hws : ∀ w ∈ ws, ∀ a' U, s.WarmedH U.vm → w.before a' U = true) (hcode : Cond.code y bytes maxL ret ∈ ws) (hinit : ∀ a' U, s.WarmedH U.vm → (Cond.initialized y.cls).before a' U = true) :
    vx_Back l R p e below s sargs y len W9 (PreOf R mc ms Pc) (PostOf Qc mc ms free) (vx_Post XC mc ms free) := by
  intro m meth c A g ig mk a X hg hsize hdg hW hn hp
  have h1 : (headSpec ws rm).pre.before a A.U = true := atoms_intro fun w hw => hws w hw _ _ X.warmed
  have h2 : (Cond.code y bytes maxL ret).before a A.U = true := hws _ hcode _ _ X.warmed
  have h3 : (Cond.initialized y.cls).before a A.U = true := hinit _ _ X.warmed
  have h4 : A.cells + (headSpec ws rm).room.cells ≤ R.cells := by rw [show (headSpec ws rm).room.cells = mc from hrc]; exact hp.1
  have h5 : A.slots + (headSpec ws rm).room.slots ≤ R.slots := by rw [show (headSpec ws rm).room.slots = ms from hrs]; exact hp.2.1
  have hPc : Pc a (A.U.calling g mk a) := hblind _ _ _ _ hp.2.2
  obtain ⟨U, Ls, c0, s0⟩ := A
  dsimp only [Pt.U, Pt.locs, Pt.cells, Pt.slots] at h1 h2 h3 h4 h5 X hn hPc ⊢
  obtain ⟨methY, cY, hmY, hcY, -, hlY, -, -, -, -⟩ := Cond.code_spec hn h2
  obtain ⟨kY, hkY, -⟩ := className_of_methodNamed hn
  have hinitY : kY.init = .initialized := Cond.initialized_spec (findClass_of_methodNamed hn) hkY h3
  have h : At U g.method c below := by rw [hg]; exact X.here
  have hlocals9 : W9 + (maxL + 11) + (headSpec ws rm).room.locals ≤ R.locals := hlocals
  have happ : (headSpec ws rm).appliesLoose y e.platform (U.calling g mk a) = true :=
    Spec.appliesLoose_calling (g := g) h hdg hn hkY hinitY
      (X.room_calling (g := g) (R' := (headSpec ws rm).room) hsize hmY hcY hframes (by rw [hlY]; omega) h4 h5) h1
  obtain ⟨mid, hmid⟩ := h.above
  have hfr : (U.setTop g).frames = (.java g :: mid) ++ below := by rw [State.frames_setTop' g h.top, hmid]; rfl
  obtain ⟨o, s₂, hsteps, -, hend, hq⟩ := Steps.callFree hM p X.admits X.cas X.clock (acts := []) hfr happ hPc trivial
  have hq' : vx_Q Qc XC mc ms free a (U.calling g mk a) o s₂ := hq
  rw [State.frames_setTop' g h.top] at hend
  obtain ⟨g₀, hg0⟩ := Option.isSome_iff_exists.mp h.top
  obtain ⟨r, hr⟩ := State.topJava?_eq_some.mp hg0
  have hr' : (({ U with heap := s₂.heap, slotsUsed := s₂.slotsUsed } : State).setVm s₂.vm).frames = .java g₀ :: r := hr
  rcases hq' with ⟨hqc, L, hfe, hL⟩ | ⟨q, rfl, E, ce, L, hx, hce, hcv, hcl, hW₂, hsm, hL⟩
  · obtain ⟨⟨v, rfl⟩, hW₂, e2, q2, q3, q4, q5, q6⟩ := id hfe
    have e3 : s₂ = ({ (U.calling g mk a).setFrames s₂.frames with heap := s₂.heap, slotsUsed := s₂.slotsUsed } : State).setVm s₂.vm := by
      have : s₂ = ({ s₂ with vm := (U.calling g mk a).vm } : State).setVm s₂.vm := rfl
      rw [e2] at this
      exact this
    obtain ⟨c₂, i₂, len₂, hc₂, hd₂, hf₂⟩ := hend
    have hW' : U.WarmedH s₂.vm := hW₂
    have hcc : c₂ = c := by
      have h1 : s₂.code? g.method = U.code? g.method := by
        rw [State.code?_eq, State.code?_eq, hW'.alike.method?]
      exact Option.some.inj (hc₂.symm.trans (h1.trans h.code))
    subst hcc
    have hlen : len₂ = len := by rw [hdg] at hd₂; cases hd₂; rfl
    subst hlen
    have hs₂ : s₂ = (({ U with heap := s₂.heap, slotsUsed := s₂.slotsUsed } : State).setVm s₂.vm).setTop { g with pc := g.pc + len₂, stack := v.toList ++ g.stack } := by
      refine e3.trans ?_
      rw [hf₂, State.calling_eq h.top, State.setFrames_setFrames, State.setTop_of_frames _ hr', hr]
      rfl
    have hsame : U.sameButNew ({ U with heap := s₂.heap, slotsUsed := s₂.slotsUsed } : State) L mc ms := by
      refine ⟨?_, q2, q3, q4, q5, q6⟩
      obtain ⟨t, ht, -⟩ := State.frames_cons hr
      show ({ U with heap := s₂.heap, slotsUsed := s₂.slotsUsed } : State) = { U.setFrames U.frames with heap := s₂.heap, slotsUsed := s₂.slotsUsed }
      rw [State.setFrames_self ht]
    subst hg
    refine Or.inl ⟨v, ⟨(({ U with heap := s₂.heap, slotsUsed := s₂.slotsUsed } : State).setVm s₂.vm), Ls ++ L, c0 + mc, s0 + ms⟩,
      ⟨X.admits, X.cas, X.clock, X.frames, X.room, X.hears, X.method, X.code, (X.here.setHeapUsed s₂.heap s₂.slotsUsed).setVm hW'.alike, X.tail, State.WarmedH.trans X.warmed hW', X.limits, X.bytes, X.same.trans (hsame.setVm s.vm)⟩,
      ⟨g, mk, s₂, L, rfl, rfl, hqc, rfl, hL, rfl, rfl⟩, ?_⟩
    show Steps p.tables e below _ ((({ U with heap := s₂.heap, slotsUsed := s₂.slotsUsed } : State).setVm s₂.vm).setTop { g with pc := g.pc + len₂, stack := v.toList ++ g.stack })
    rw [← hs₂]
    exact hsteps
  · obtain ⟨e2, q2, q3, q4, q5, q6⟩ := id hsm
    have e3 : s₂ = ({ (U.calling g mk a).setFrames s₂.frames with heap := s₂.heap, slotsUsed := s₂.slotsUsed } : State).setVm s₂.vm := by
      have : s₂ = ({ s₂ with vm := (U.calling g mk a).vm } : State).setVm s₂.vm := rfl
      rw [e2] at this
      exact this
    have hf₂ : s₂.frames = .throwing q :: .java g :: U.frames.tail := hend
    have hW' : U.WarmedH s₂.vm := hW₂
    have hs₂ : s₂ = ((({ U with heap := s₂.heap, slotsUsed := s₂.slotsUsed } : State).setVm s₂.vm).setTop g).pushFrame (.throwing q) := by
      refine e3.trans ?_
      rw [hf₂, State.calling_eq h.top, State.setFrames_setFrames, State.pushFrame, State.frames_setTop _ hr', State.setTop_of_frames _ hr', State.setFrames_setFrames, hr]
      rfl
    have hsame : U.sameButNew ({ U with heap := s₂.heap, slotsUsed := s₂.slotsUsed } : State) L mc ms := by
      refine ⟨?_, q2, q3, q4, q5, q6⟩
      obtain ⟨t, ht, -⟩ := State.frames_cons hr
      show ({ U with heap := s₂.heap, slotsUsed := s₂.slotsUsed } : State) = { U.setFrames U.frames with heap := s₂.heap, slotsUsed := s₂.slotsUsed }
      rw [State.setFrames_self ht]
    subst hg
    refine Or.inr ⟨q, ⟨(({ U with heap := s₂.heap, slotsUsed := s₂.slotsUsed } : State).setVm s₂.vm), Ls ++ L, c0 + mc, s0 + ms⟩,
      ⟨X.admits, X.cas, X.clock, X.frames, X.room, X.hears, X.method, X.code, (X.here.setHeapUsed s₂.heap s₂.slotsUsed).setVm hW'.alike, X.tail, State.WarmedH.trans X.warmed hW', X.limits, X.bytes, X.same.trans (hsame.setVm s.vm)⟩,
      ⟨g, mk, s₂, L, E, ce, rfl, rfl, hx, hce, hcv, hcl, rfl, hL, rfl, rfl⟩, ?_⟩
    show Steps p.tables e below _ (((({ U with heap := s₂.heap, slotsUsed := s₂.slotsUsed } : State).setVm s₂.vm).setTop g).pushFrame (.throwing q))
    rw [← hs₂]
    exact hsteps
end Payer
section Calls
variable {p : Program} {l : Launch} {e : Env} {R : Room} {s : State} {m : MethodId} {args : Array Value} {below : List Frame} {meth : Method} {c : Code} {T : State} {locs : List Loc} {cells slots : Nat}
theorem vx_callV (X : Stand p l e R s m args below meth c T locs cells slots) (hexec : p.tables.exec = Jvm.exec) {own C : String} {index : Nat} {y : MethodName} {bytes : ByteArray} {maxL : Nat} {ret : Option FieldType}
    (hown : s.vm.findClass own = some m.cls) (hlink : (Cond.methodLink own index y).before args s = true) (hinst : (Cond.instanceMethod y).before args s = true) (hsel : (Cond.selects C y y).before args s = true)
    (hcode : (Cond.code y bytes maxL ret).before args s = true) (hy : y.cls ≠ "java/lang/invoke/MethodHandle" ∧ y.cls ≠ "java/lang/invoke/VarHandle")
    {W9 : Nat} {Pre : Pt → Array Value → Prop} {Post : Pt → Array Value → Option Value → Pt → Prop} {PostX : Pt → Array Value → Addr → Pt → Prop} (hK : vx_Back l R p e below s args y 3 W9 Pre Post PostX)
    {b : Addr} {cellB : Cell} (hcell : T.heap[b]? = some cellB) (hobj : cellB.vm.isStatics = false) (hcls : s.vm.findClass C = some cellB.cls)
    {g : JFrame} (hg : g.method = m) (hsize : g.locals.size = c.maxLocals) {argsL rest : List Value} (hlen : ∀ sig, parseMethodDescriptor y.desc = some sig → argsL.length = sig.parameters.length)
    (hstack : g.stack = argsL.reverse ++ .ref b :: rest) (hW : 2 * g.monitorRoom + (rest.map fun v => v.category).sum ≤ W9) (hdg : decode c.code g.pc = .ok (.invokevirtual index, 3))
    (hpre : ∀ vm₁, s.WarmedH vm₁ → Pre ⟨T.setVm vm₁, locs, cells, slots⟩ (Value.ref b :: argsL).toArray) :
    (∃ (v : Option Value) (vm₁ : Vm) (B : Pt), s.WarmedH vm₁ ∧ Stand p l e R s m args below meth c B.U B.locs B.cells B.slots ∧ Post ⟨T.setVm vm₁, locs, cells, slots⟩ (Value.ref b :: argsL).toArray v B ∧
      ∀ target, Steps p.tables e below (B.U.setTop { g with pc := g.pc + 3, stack := v.toList ++ rest }) target → Steps p.tables e below (T.setTop g) target) ∨
    (∃ (q : Addr) (vm₁ : Vm) (B : Pt), s.WarmedH vm₁ ∧ Stand p l e R s m args below meth c B.U B.locs B.cells B.slots ∧ PostX ⟨T.setVm vm₁, locs, cells, slots⟩ (Value.ref b :: argsL).toArray q B ∧
      Steps p.tables e below (T.setTop g) ((B.U.setTop { g with stack := rest }).pushFrame (.throwing q))) := by
  obtain ⟨mk, methM, hnamed, hmethM, hstM, habM⟩ := Cond.instanceMethod_spec hinst
  obtain ⟨methM', cM, hmethM', -, -, -, -, -, -, hsigM⟩ := Cond.code_spec hnamed hcode
  cases hmethM.symm.trans hmethM'
  obtain ⟨c2, r2, m2, q1, q2, q3, q4, kP, hkP, hkPi⟩ := Cond.selects_spec hsel
  cases hcls.symm.trans q1
  cases (State.methodFound?_of_named hnamed hy).symm.trans q2
  cases hnamed.symm.trans q3
  have hselP : selectMethod e.platform s.vm cellB.cls mk = .method mk := by rw [Launch.admits_selectMethod X.admits]; exact q4
  obtain ⟨vm₁, X₁, hstep₁⟩ := X.invokevirtual hexec hown hlink hnamed hmethM hstM hkP hkPi hy (a := b) (cell := cellB) hcell
    (fun z h => by rw [h] at hobj; cases hobj) hselP hmethM habM hkP hkPi (g := g) hg (argsL := argsL) (rest := rest) (hlen _ hsigM) hstack hdg
  rcases hK m meth c ⟨T.setVm vm₁, locs, cells, slots⟩ { g with stack := rest } (.invokevirtual index) mk (Value.ref b :: argsL).toArray X₁ hg hsize hdg hW (X₁.named hnamed) (hpre vm₁ X₁.warmed) with ⟨v, B, X', hpost, hsteps⟩ | ⟨q, B, X', hpost, hsteps⟩
  · exact Or.inl ⟨v, vm₁, B, X₁.warmed, X', hpost, fun target h => hstep₁ _ fun acts => by rw [doInvoke_state]; exact hsteps.trans h⟩
  · exact Or.inr ⟨q, vm₁, B, X₁.warmed, X', hpost, hstep₁ _ fun acts => by rw [doInvoke_state]; exact hsteps⟩
theorem vx_callS (X : Stand p l e R s m args below meth c T locs cells slots) (hexec : p.tables.exec = Jvm.exec) {own : String} {index : Nat} {y : MethodName} {bytes : ByteArray} {maxL : Nat} {ret : Option FieldType}
    (hown : s.vm.findClass own = some m.cls) (hlink : (Cond.methodLink own index y).before args s = true) (hstat : (Cond.static y).before args s = true) (hinit : (Cond.initialized y.cls).before args s = true)
    (hcode : (Cond.code y bytes maxL ret).before args s = true) (hy : y.cls ≠ "java/lang/invoke/MethodHandle" ∧ y.cls ≠ "java/lang/invoke/VarHandle")
    {W9 : Nat} {Pre : Pt → Array Value → Prop} {Post : Pt → Array Value → Option Value → Pt → Prop} {PostX : Pt → Array Value → Addr → Pt → Prop} (hK : vx_Back l R p e below s args y 3 W9 Pre Post PostX)
    {g : JFrame} (hg : g.method = m) (hsize : g.locals.size = c.maxLocals) {argsL rest : List Value} (hlen : ∀ sig, parseMethodDescriptor y.desc = some sig → argsL.length = sig.parameters.length)
    (hstack : g.stack = argsL.reverse ++ rest) (hW : 2 * g.monitorRoom + (rest.map fun v => v.category).sum ≤ W9) (hdg : decode c.code g.pc = .ok (.invokestatic index, 3))
    (hpre : ∀ vm₁, s.WarmedH vm₁ → Pre ⟨T.setVm vm₁, locs, cells, slots⟩ argsL.toArray) :
    (∃ (v : Option Value) (vm₁ : Vm) (B : Pt), s.WarmedH vm₁ ∧ Stand p l e R s m args below meth c B.U B.locs B.cells B.slots ∧ Post ⟨T.setVm vm₁, locs, cells, slots⟩ argsL.toArray v B ∧
      ∀ target, Steps p.tables e below (B.U.setTop { g with pc := g.pc + 3, stack := v.toList ++ rest }) target → Steps p.tables e below (T.setTop g) target) ∨
    (∃ (q : Addr) (vm₁ : Vm) (B : Pt), s.WarmedH vm₁ ∧ Stand p l e R s m args below meth c B.U B.locs B.cells B.slots ∧ PostX ⟨T.setVm vm₁, locs, cells, slots⟩ argsL.toArray q B ∧
      Steps p.tables e below (T.setTop g) ((B.U.setTop { g with stack := rest }).pushFrame (.throwing q))) := by
  obtain ⟨mk, hnamed⟩ := Cond.code_named hcode
  obtain ⟨methM, cM, hmethM, -, -, -, -, -, -, hsigM⟩ := Cond.code_spec hnamed hcode
  have hstatic : methM.isStatic = true := Cond.static_spec hnamed hmethM hstat
  obtain ⟨kP, hkP, -⟩ := className_of_methodNamed hnamed
  have hinitP : kP.init = .initialized := Cond.initialized_spec (findClass_of_methodNamed hnamed) hkP hinit
  obtain ⟨vm₁, X₁, hstep₁⟩ := X.invokestatic hexec hown hlink hnamed hmethM hstatic hkP hinitP hy (g := g) hg (argsL := argsL) (rest := rest) (hlen _ hsigM) hstack hdg
  rcases hK m meth c ⟨T.setVm vm₁, locs, cells, slots⟩ { g with stack := rest } (.invokestatic index) mk argsL.toArray X₁ hg hsize hdg hW (X₁.named hnamed) (hpre vm₁ X₁.warmed) with ⟨v, B, X', hpost, hsteps⟩ | ⟨q, B, X', hpost, hsteps⟩
  · exact Or.inl ⟨v, vm₁, B, X₁.warmed, X', hpost, fun target h => hstep₁ _ fun acts => by rw [doInvoke_state]; exact hsteps.trans h⟩
  · exact Or.inr ⟨q, vm₁, B, X₁.warmed, X', hpost, hstep₁ _ fun acts => by rw [doInvoke_state]; exact hsteps⟩
end Calls
theorem vx_cls {s : State} {T : State} {vm₁ : Vm} {E : String} {k : ClassId} (hW : s.WarmedH vm₁) (h : (T.setVm vm₁).vm.findClass E = some k) : s.vm.findClass E = some k := by
  have h1 : vm₁.findClass E = some k := h
  rw [hW.alike.findClass] at h1
  exact h1
/-- the method's frame g, with q thrown over it -/
def vx_W (p : Program) (l : Launch) (e : Env) (R : Room) (s : State) (m : MethodId) (args : Array Value) (below : List Frame) (meth : Method) (c : Code) (H : Heap) (locs : List Loc) (cells slots : Nat) (Q : State → Prop) (g : JFrame) (q : Addr) : Prop :=
  ∀ T : State, T.heap = H → Stand p l e R s m args below meth c T locs cells slots → ∃ t, Steps p.tables e below ((T.setTop g).pushFrame (.throwing q)) t ∧ Q t
def vx_Run (p : Program) (l : Launch) (e : Env) (R : Room) (s : State) (m : MethodId) (args : Array Value) (below : List Frame) (meth : Method) (c : Code) (H : Heap) (locs : List Loc) (cells slots mc ms : Nat) (g : JFrame) (rest : List Value) (Qa : State → Outcome → State → Prop) (XC : String → State → State → Prop) (free : Addr → Prop) : Prop :=
  ∀ T : State, T.heap = H → Stand p l e R s m args below meth c T locs cells slots →
    (∃ (v : Option Value) (st₀ t T' : State) (L : List Loc), st₀.heap = H ∧ Stand p l e R s m args below meth c T' (locs ++ L) (cells + mc) (slots + ms) ∧ (∀ q ∈ L, free q.base) ∧ T'.heap = t.heap ∧ T'.vm = t.vm ∧ Qa st₀ (.returned v) t ∧
      Goes p e below T g T' { g with pc := g.pc + 3, stack := v.toList ++ rest }) ∨
    (∃ (q : Addr) (st₀ t T' : State) (L : List Loc) (E : String) (ce : Cell), st₀.heap = H ∧ Stand p l e R s m args below meth c T' (locs ++ L) (cells + mc) (slots + ms) ∧ (∀ z ∈ L, free z.base) ∧ T'.heap = t.heap ∧ T'.vm = t.vm ∧ XC E st₀ t ∧ t.heap[q]? = some ce ∧ ce.vm = .none ∧ s.vm.findClass E = some ce.cls ∧
      Steps p.tables e below (T.setTop g) ((T'.setTop { g with stack := rest }).pushFrame (.throwing q)))
def vx_X {S : Type} (px : S → Prop) (B : String → S → State → Prop) (A : Nat → Prop) : String → State → State → Prop := fun E st t => ∃ u : S, px u ∧ B E u t ∧ va_F A st t
section Runs
variable {p : Program} {l : Launch} {e : Env} {R : Room} {s : State} {m : MethodId} {args : Array Value} {below : List Frame} {meth : Method} {c : Code} {H : Heap} {locs : List Loc} {cells slots : Nat}
variable {y : MethodName} {bytes cc : ByteArray} {maxL nL mc ms n index : Nat} {ret : Option FieldType} {ws : List Cond} {rm : Room} {Pc : Array Value → State → Prop} {Qc : Array Value → State → Outcome → State → Prop} {XC : String → State → State → Prop} {free : Addr → Prop} {Ts : List Cond} {own C : String} {b : Addr} {As rest : List Value} {g : JFrame}
theorem vx_callBack (cb : CallB R s args own index y bytes maxL ret ws rm mc ms n) (hM : vx_Met l y ws rm Pc Qc XC mc ms free) (hbl : FrameBlind Pc) : vx_Back l R p e below s args y 3 8 (PreOf R mc ms Pc) (PostOf Qc mc ms free) (vx_Post XC mc ms free) := by
  obtain ⟨hrc, hrs, hfr, hlo, hws, hcw, -, hini, -⟩ := cb
  exact vx_back (bytes := bytes) (maxL := maxL) (ret := ret) hM hbl hrc hrs hfr hlo hws hcw (fun a' U hW => word_at hW (Or.inl (by first | rfl | simp [Cond.onTables, Cond.keeps, Cond.steady])) hini)
theorem vx_runV (S : CallFix p m c cc nL s args Ts own) (hM : vx_Met l y ws rm Pc Qc XC mc ms free) (cw : CallW R s args own C index y bytes maxL ret ws rm mc ms n) (hp : PreV s H C b Pc As)
    (hg : g.method = m) (hn : As.length = n) (hsize : g.locals.size = nL) (hstack : g.stack = As.reverse ++ .ref b :: rest) (hW : 2 * g.monitorRoom + (rest.map fun v => v.category).sum ≤ 8) (hdg : decode cc g.pc = .ok (.invokevirtual index, 3)) (hf : cells + mc ≤ R.cells ∧ slots + ms ≤ R.slots) :
    vx_Run p l e R s m args below meth c H locs cells slots mc ms g rest (Qc (Value.ref b :: As).toArray) XC free := by
  have hK : vx_Back l R p e below s args y 3 8 (PreOf R mc ms Pc) (PostOf Qc mc ms free) (vx_Post XC mc ms free) := vx_callBack cw.1 hM hp.1
  obtain ⟨⟨-, -, -, -, -, -, hcode, -, hy, hlen, hl⟩, hin, hse⟩ := cw
  obtain ⟨hx, hb, hml, ho, -⟩ := S
  obtain ⟨-, ⟨cellB, hcB, hoB, hclB⟩, hPc⟩ := hp
  intro T hT X
  rcases vx_callV X hx (C := C) (bytes := bytes) (maxL := maxL) (ret := ret) ho hl hin hse hcode hy hK (by rw [hT]; exact hcB) hoB hclB hg (hsize.trans hml.symm) (argsL := As) (rest := rest) (fun sig h => hn.trans (hlen sig h)) hstack hW (by rw [hb]; exact hdg)
    (fun vm₁ hW₁ => ⟨hf.1, hf.2, hPc (T.setVm vm₁) hT hW₁⟩) with ⟨v, vm₁, ⟨U', l2, c2, s2⟩, hW₁, X', ⟨g', mk, t, L, e1, e2, hq, h1, hL, h2, h3⟩, st⟩ | ⟨q, vm₁, ⟨U', l2, c2, s2⟩, hW₁, X', ⟨g', mk, t, L, E, ce, e1, e2, hq, hce, hcv, hcl, h1, hL, h2, h3⟩, st⟩
  · dsimp only [Pt.U, Pt.locs, Pt.cells, Pt.slots] at X' e1 e2 h1 h2 h3 st
    subst h1; subst h2; subst h3
    exact Or.inl ⟨v, (T.setVm vm₁).calling g' mk (Value.ref b :: As).toArray, t, U', L, hT, X', hL, e1, e2, hq, st⟩
  · dsimp only [Pt.U, Pt.locs, Pt.cells, Pt.slots] at X' e1 e2 h1 h2 h3 st hcl
    subst h1; subst h2; subst h3
    exact Or.inr ⟨q, (T.setVm vm₁).calling g' mk (Value.ref b :: As).toArray, t, U', L, E, ce, hT, X', hL, e1, e2, hq, hce, hcv, vx_cls hW₁ hcl, st⟩
theorem vx_runS (S : CallFix p m c cc nL s args Ts own) (hM : vx_Met l y ws rm Pc Qc XC mc ms free) (cw : CallB R s args own index y bytes maxL ret ws rm mc ms n ∧ (Cond.static y).before args s = true) (hp : PreS s H Pc As)
    (hg : g.method = m) (hn : As.length = n) (hsize : g.locals.size = nL) (hstack : g.stack = As.reverse ++ rest) (hW : 2 * g.monitorRoom + (rest.map fun v => v.category).sum ≤ 8) (hdg : decode cc g.pc = .ok (.invokestatic index, 3)) (hf : cells + mc ≤ R.cells ∧ slots + ms ≤ R.slots) :
    vx_Run p l e R s m args below meth c H locs cells slots mc ms g rest (Qc As.toArray) XC free := by
  have hK : vx_Back l R p e below s args y 3 8 (PreOf R mc ms Pc) (PostOf Qc mc ms free) (vx_Post XC mc ms free) := vx_callBack cw.1 hM hp.1
  obtain ⟨⟨-, -, -, -, -, -, hcode, hini, hy, hlen, hl⟩, hstt⟩ := cw
  obtain ⟨hx, hb, hml, ho, -⟩ := S
  intro T hT X
  rcases vx_callS X hx (bytes := bytes) (maxL := maxL) (ret := ret) ho hl hstt hini hcode hy hK hg (hsize.trans hml.symm) (argsL := As) (rest := rest) (fun sig h => hn.trans (hlen sig h)) hstack hW (by rw [hb]; exact hdg)
    (fun vm₁ hW₁ => ⟨hf.1, hf.2, hp.2 (T.setVm vm₁) hT hW₁⟩) with ⟨v, vm₁, ⟨U', l2, c2, s2⟩, hW₁, X', ⟨g', mk, t, L, e1, e2, hq, h1, hL, h2, h3⟩, st⟩ | ⟨q, vm₁, ⟨U', l2, c2, s2⟩, hW₁, X', ⟨g', mk, t, L, E, ce, e1, e2, hq, hce, hcv, hcl, h1, hL, h2, h3⟩, st⟩
  · dsimp only [Pt.U, Pt.locs, Pt.cells, Pt.slots] at X' e1 e2 h1 h2 h3 st
    subst h1; subst h2; subst h3
    exact Or.inl ⟨v, (T.setVm vm₁).calling g' mk As.toArray, t, U', L, hT, X', hL, e1, e2, hq, st⟩
  · dsimp only [Pt.U, Pt.locs, Pt.cells, Pt.slots] at X' e1 e2 h1 h2 h3 st hcl
    subst h1; subst h2; subst h3
    exact Or.inr ⟨q, (T.setVm vm₁).calling g' mk As.toArray, t, U', L, E, ce, hT, X', hL, e1, e2, hq, hce, hcv, vx_cls hW₁ hcl, st⟩
end Runs
section Rows
variable {p : Program} {l : Launch} {e : Env} {R : Room} {s : State} {m : MethodId} {args : Array Value} {below : List Frame} {meth : Method} {c : Code} {H : Heap} {locs : List Loc} {cells slots : Nat} {Q : State → Prop}
variable {mc ms : Nat} {free : Addr → Prop} {A0 A1 : Nat → Prop} {H0 : Heap} {a : Array Value} {pc : Nat} {ls : Array Slot} {st0 rest : List Value}
theorem vx_keep {st₀ t T' : State} {L : List Loc} (h0 : st₀.heap = H) (e1 : T'.heap = t.heap) (hS : va_S A0 H0 H locs) (hA : ∀ q, q < H.size → A1 q → A0 q) (hf : ∀ q, free q → A0 q) (hL : ∀ q ∈ L, free q.base) (hF : va_F A1 st₀ t) :
    H.size ≤ T'.heap.size ∧ (∀ q : Nat, q < H.size → ¬ A1 q → T'.heap[q]? = H[q]?) ∧ va_S A0 H0 T'.heap (locs ++ L) := by
  obtain ⟨hz, hk⟩ := hF
  rw [h0] at hz hk
  exact ⟨by rw [e1]; exact hz, fun q h1 h2 => by rw [e1]; exact hk q h1 h2,
    ⟨Nat.le_trans hS.1 (by rw [e1]; exact hz), fun q h1 h2 => by rw [e1, hk q (Nat.lt_of_lt_of_le h1 hS.1) (fun z => h2 (hA q (Nat.lt_of_lt_of_le h1 hS.1) z))]; exact hS.2.1 q h1 h2, fun q hq => by
      rcases List.mem_append.mp hq with h | h
      · exact hS.2.2 q h
      · exact hf _ (hL q h)⟩⟩
theorem vx_calli {S SX : Type} {post : Int32 → S → Prop} {px : SX → Prop} {B : S → State → Prop} {BX : String → SX → State → Prop} {AX : Nat → Prop} (hr : vx_Run p l e R s m args below meth c H locs cells slots mc ms (F0 m pc ls st0) rest (va_Qi post B A1 a) (vx_X px BX AX) free) (hS : va_S A0 H0 H locs) (hA : ∀ q, q < H.size → A1 q → A0 q) (hf : ∀ q, free q → A0 q) (hAX : ∀ q, q < H.size → AX q → A0 q)
    (kx : ∀ (E : String) (ce : Cell) (q9 : Addr) (u : SX) (t : State) (H1 : Heap) (locs1 : List Loc), t.heap = H1 → s.vm.Alike t.vm → px u → BX E u t → H.size ≤ H1.size → (∀ q : Nat, q < H.size → ¬ AX q → H1[q]? = H[q]?) → va_S A0 H0 H1 locs1 → H1[q9]? = some ce → ce.vm = .none → s.vm.findClass E = some ce.cls → vx_W p l e R s m args below meth c H1 locs1 (cells + mc) (slots + ms) Q (F0 m pc ls rest) q9)
    (kk : ∀ (r : Int32) (u : S) (t : State) (H1 : Heap) (locs1 : List Loc), t.heap = H1 → s.vm.Alike t.vm → post r u → B u t → H.size ≤ H1.size → (∀ q : Nat, q < H.size → ¬ A1 q → H1[q]? = H[q]?) → va_S A0 H0 H1 locs1 → W p l e R s m args below meth c H1 locs1 (cells + mc) (slots + ms) Q (F0 m (pc + 3) ls (.int r :: rest))) : W p l e R s m args below meth c H locs cells slots Q (F0 m pc ls st0) := by
  intro T hT X
  rcases hr T hT X with ⟨v, st₀, t, T', L, h0, X', hL, e1, e2, ⟨⟨r, u, hv, hp, hb⟩, hF⟩, st⟩ | ⟨q, st₀, t, T', L, E, ce, h0, X', hL, e1, e2, ⟨u, hp, hb, hF⟩, hce, hcv, hcl, st⟩
  · cases hv
    obtain ⟨k1, k2, k3⟩ := vx_keep h0 e1 hS hA hf hL hF
    obtain ⟨t2, a1, b1⟩ := kk r u t T'.heap (locs ++ L) e1.symm (by rw [← e2]; exact X'.warmed.alike) hp hb k1 k2 k3 T' rfl X'
    exact ⟨t2, st t2 a1, b1⟩
  · obtain ⟨k1, k2, k3⟩ := vx_keep h0 e1 hS hAX hf hL hF
    obtain ⟨t2, a1, b1⟩ := kx E ce q u t T'.heap (locs ++ L) e1.symm (by rw [← e2]; exact X'.warmed.alike) hp hb k1 k2 k3 (by rw [e1]; exact hce) hcv hcl T' rfl X'
    exact ⟨t2, st.trans a1, b1⟩
theorem vx_calll {S SX : Type} {post : Int64 → S → Prop} {px : SX → Prop} {B : S → State → Prop} {BX : String → SX → State → Prop} {AX : Nat → Prop} (hr : vx_Run p l e R s m args below meth c H locs cells slots mc ms (F0 m pc ls st0) rest (va_Ql post B A1 a) (vx_X px BX AX) free) (hS : va_S A0 H0 H locs) (hA : ∀ q, q < H.size → A1 q → A0 q) (hf : ∀ q, free q → A0 q) (hAX : ∀ q, q < H.size → AX q → A0 q)
    (kx : ∀ (E : String) (ce : Cell) (q9 : Addr) (u : SX) (t : State) (H1 : Heap) (locs1 : List Loc), t.heap = H1 → s.vm.Alike t.vm → px u → BX E u t → H.size ≤ H1.size → (∀ q : Nat, q < H.size → ¬ AX q → H1[q]? = H[q]?) → va_S A0 H0 H1 locs1 → H1[q9]? = some ce → ce.vm = .none → s.vm.findClass E = some ce.cls → vx_W p l e R s m args below meth c H1 locs1 (cells + mc) (slots + ms) Q (F0 m pc ls rest) q9)
    (kk : ∀ (r : Int64) (u : S) (t : State) (H1 : Heap) (locs1 : List Loc), t.heap = H1 → s.vm.Alike t.vm → post r u → B u t → H.size ≤ H1.size → (∀ q : Nat, q < H.size → ¬ A1 q → H1[q]? = H[q]?) → va_S A0 H0 H1 locs1 → W p l e R s m args below meth c H1 locs1 (cells + mc) (slots + ms) Q (F0 m (pc + 3) ls (.long r :: rest))) : W p l e R s m args below meth c H locs cells slots Q (F0 m pc ls st0) := by
  intro T hT X
  rcases hr T hT X with ⟨v, st₀, t, T', L, h0, X', hL, e1, e2, ⟨⟨r, u, hv, hp, hb⟩, hF⟩, st⟩ | ⟨q, st₀, t, T', L, E, ce, h0, X', hL, e1, e2, ⟨u, hp, hb, hF⟩, hce, hcv, hcl, st⟩
  · cases hv
    obtain ⟨k1, k2, k3⟩ := vx_keep h0 e1 hS hA hf hL hF
    obtain ⟨t2, a1, b1⟩ := kk r u t T'.heap (locs ++ L) e1.symm (by rw [← e2]; exact X'.warmed.alike) hp hb k1 k2 k3 T' rfl X'
    exact ⟨t2, st t2 a1, b1⟩
  · obtain ⟨k1, k2, k3⟩ := vx_keep h0 e1 hS hAX hf hL hF
    obtain ⟨t2, a1, b1⟩ := kx E ce q u t T'.heap (locs ++ L) e1.symm (by rw [← e2]; exact X'.warmed.alike) hp hb k1 k2 k3 (by rw [e1]; exact hce) hcv hcl T' rfl X'
    exact ⟨t2, st.trans a1, b1⟩
theorem vx_callf {S SX : Type} {post : UInt32 → S → Prop} {px : SX → Prop} {B : S → State → Prop} {BX : String → SX → State → Prop} {AX : Nat → Prop} (hr : vx_Run p l e R s m args below meth c H locs cells slots mc ms (F0 m pc ls st0) rest (va_Qf post B A1 a) (vx_X px BX AX) free) (hS : va_S A0 H0 H locs) (hA : ∀ q, q < H.size → A1 q → A0 q) (hf : ∀ q, free q → A0 q) (hAX : ∀ q, q < H.size → AX q → A0 q)
    (kx : ∀ (E : String) (ce : Cell) (q9 : Addr) (u : SX) (t : State) (H1 : Heap) (locs1 : List Loc), t.heap = H1 → s.vm.Alike t.vm → px u → BX E u t → H.size ≤ H1.size → (∀ q : Nat, q < H.size → ¬ AX q → H1[q]? = H[q]?) → va_S A0 H0 H1 locs1 → H1[q9]? = some ce → ce.vm = .none → s.vm.findClass E = some ce.cls → vx_W p l e R s m args below meth c H1 locs1 (cells + mc) (slots + ms) Q (F0 m pc ls rest) q9)
    (kk : ∀ (r : UInt32) (u : S) (t : State) (H1 : Heap) (locs1 : List Loc), t.heap = H1 → s.vm.Alike t.vm → post r u → B u t → H.size ≤ H1.size → (∀ q : Nat, q < H.size → ¬ A1 q → H1[q]? = H[q]?) → va_S A0 H0 H1 locs1 → W p l e R s m args below meth c H1 locs1 (cells + mc) (slots + ms) Q (F0 m (pc + 3) ls (.float r :: rest))) : W p l e R s m args below meth c H locs cells slots Q (F0 m pc ls st0) := by
  intro T hT X
  rcases hr T hT X with ⟨v, st₀, t, T', L, h0, X', hL, e1, e2, ⟨⟨r, u, hv, hp, hb⟩, hF⟩, st⟩ | ⟨q, st₀, t, T', L, E, ce, h0, X', hL, e1, e2, ⟨u, hp, hb, hF⟩, hce, hcv, hcl, st⟩
  · cases hv
    obtain ⟨k1, k2, k3⟩ := vx_keep h0 e1 hS hA hf hL hF
    obtain ⟨t2, a1, b1⟩ := kk r u t T'.heap (locs ++ L) e1.symm (by rw [← e2]; exact X'.warmed.alike) hp hb k1 k2 k3 T' rfl X'
    exact ⟨t2, st t2 a1, b1⟩
  · obtain ⟨k1, k2, k3⟩ := vx_keep h0 e1 hS hAX hf hL hF
    obtain ⟨t2, a1, b1⟩ := kx E ce q u t T'.heap (locs ++ L) e1.symm (by rw [← e2]; exact X'.warmed.alike) hp hb k1 k2 k3 (by rw [e1]; exact hce) hcv hcl T' rfl X'
    exact ⟨t2, st.trans a1, b1⟩
theorem vx_calld {S SX : Type} {post : UInt64 → S → Prop} {px : SX → Prop} {B : S → State → Prop} {BX : String → SX → State → Prop} {AX : Nat → Prop} (hr : vx_Run p l e R s m args below meth c H locs cells slots mc ms (F0 m pc ls st0) rest (va_Qd post B A1 a) (vx_X px BX AX) free) (hS : va_S A0 H0 H locs) (hA : ∀ q, q < H.size → A1 q → A0 q) (hf : ∀ q, free q → A0 q) (hAX : ∀ q, q < H.size → AX q → A0 q)
    (kx : ∀ (E : String) (ce : Cell) (q9 : Addr) (u : SX) (t : State) (H1 : Heap) (locs1 : List Loc), t.heap = H1 → s.vm.Alike t.vm → px u → BX E u t → H.size ≤ H1.size → (∀ q : Nat, q < H.size → ¬ AX q → H1[q]? = H[q]?) → va_S A0 H0 H1 locs1 → H1[q9]? = some ce → ce.vm = .none → s.vm.findClass E = some ce.cls → vx_W p l e R s m args below meth c H1 locs1 (cells + mc) (slots + ms) Q (F0 m pc ls rest) q9)
    (kk : ∀ (r : UInt64) (u : S) (t : State) (H1 : Heap) (locs1 : List Loc), t.heap = H1 → s.vm.Alike t.vm → post r u → B u t → H.size ≤ H1.size → (∀ q : Nat, q < H.size → ¬ A1 q → H1[q]? = H[q]?) → va_S A0 H0 H1 locs1 → W p l e R s m args below meth c H1 locs1 (cells + mc) (slots + ms) Q (F0 m (pc + 3) ls (.double r :: rest))) : W p l e R s m args below meth c H locs cells slots Q (F0 m pc ls st0) := by
  intro T hT X
  rcases hr T hT X with ⟨v, st₀, t, T', L, h0, X', hL, e1, e2, ⟨⟨r, u, hv, hp, hb⟩, hF⟩, st⟩ | ⟨q, st₀, t, T', L, E, ce, h0, X', hL, e1, e2, ⟨u, hp, hb, hF⟩, hce, hcv, hcl, st⟩
  · cases hv
    obtain ⟨k1, k2, k3⟩ := vx_keep h0 e1 hS hA hf hL hF
    obtain ⟨t2, a1, b1⟩ := kk r u t T'.heap (locs ++ L) e1.symm (by rw [← e2]; exact X'.warmed.alike) hp hb k1 k2 k3 T' rfl X'
    exact ⟨t2, st t2 a1, b1⟩
  · obtain ⟨k1, k2, k3⟩ := vx_keep h0 e1 hS hAX hf hL hF
    obtain ⟨t2, a1, b1⟩ := kx E ce q u t T'.heap (locs ++ L) e1.symm (by rw [← e2]; exact X'.warmed.alike) hp hb k1 k2 k3 (by rw [e1]; exact hce) hcv hcl T' rfl X'
    exact ⟨t2, st.trans a1, b1⟩
theorem vx_callv {S SX : Type} {post : S → Prop} {px : SX → Prop} {B : S → State → Prop} {BX : String → SX → State → Prop} {AX : Nat → Prop} (hr : vx_Run p l e R s m args below meth c H locs cells slots mc ms (F0 m pc ls st0) rest (va_Qv post B A1 a) (vx_X px BX AX) free) (hS : va_S A0 H0 H locs) (hA : ∀ q, q < H.size → A1 q → A0 q) (hf : ∀ q, free q → A0 q) (hAX : ∀ q, q < H.size → AX q → A0 q)
    (kx : ∀ (E : String) (ce : Cell) (q9 : Addr) (u : SX) (t : State) (H1 : Heap) (locs1 : List Loc), t.heap = H1 → s.vm.Alike t.vm → px u → BX E u t → H.size ≤ H1.size → (∀ q : Nat, q < H.size → ¬ AX q → H1[q]? = H[q]?) → va_S A0 H0 H1 locs1 → H1[q9]? = some ce → ce.vm = .none → s.vm.findClass E = some ce.cls → vx_W p l e R s m args below meth c H1 locs1 (cells + mc) (slots + ms) Q (F0 m pc ls rest) q9)
    (kk : ∀ (u : S) (t : State) (H1 : Heap) (locs1 : List Loc), t.heap = H1 → s.vm.Alike t.vm → post u → B u t → H.size ≤ H1.size → (∀ q : Nat, q < H.size → ¬ A1 q → H1[q]? = H[q]?) → va_S A0 H0 H1 locs1 → W p l e R s m args below meth c H1 locs1 (cells + mc) (slots + ms) Q (F0 m (pc + 3) ls (rest))) : W p l e R s m args below meth c H locs cells slots Q (F0 m pc ls st0) := by
  intro T hT X
  rcases hr T hT X with ⟨v, st₀, t, T', L, h0, X', hL, e1, e2, ⟨⟨u, hv, hp, hb⟩, hF⟩, st⟩ | ⟨q, st₀, t, T', L, E, ce, h0, X', hL, e1, e2, ⟨u, hp, hb, hF⟩, hce, hcv, hcl, st⟩
  · cases hv
    obtain ⟨k1, k2, k3⟩ := vx_keep h0 e1 hS hA hf hL hF
    obtain ⟨t2, a1, b1⟩ := kk u t T'.heap (locs ++ L) e1.symm (by rw [← e2]; exact X'.warmed.alike) hp hb k1 k2 k3 T' rfl X'
    exact ⟨t2, st t2 a1, b1⟩
  · obtain ⟨k1, k2, k3⟩ := vx_keep h0 e1 hS hAX hf hL hF
    obtain ⟨t2, a1, b1⟩ := kx E ce q u t T'.heap (locs ++ L) e1.symm (by rw [← e2]; exact X'.warmed.alike) hp hb k1 k2 k3 (by rw [e1]; exact hce) hcv hcl T' rfl X'
    exact ⟨t2, st.trans a1, b1⟩
/-- caught by the row x of this method's table; the rows ahead don't take it -/
theorem vx_catch {own name : String} {E : String} {ce : Cell} {q : Addr} (hown : s.vm.findClass own = some m.cls) (pre : List ExceptionTableEntry) (x : ExceptionTableEntry) (suf : List ExceptionTableEntry) (hsplit : c.exceptionTable.toList = pre ++ x :: suf)
    (hpass : ∀ z ∈ pre, covers z pc = false ∨ (z.catchType ≠ 0 ∧ ∃ nm : String, (Cond.classLink own z.catchType nm).before args s = true ∧ va_Nc E nm s)) (hx : covers x pc = true) (h0 : x.catchType ≠ 0)
    (hlink : (Cond.classLink own x.catchType name).before args s = true) (hcast : (Cond.castable E name).before args s = true) (hcell : H[q]? = some ce) (hv : ce.vm = .none) (hcl : s.vm.findClass E = some ce.cls)
    (kk : W p l e R s m args below meth c H locs cells slots Q (F0 m x.handlerPc ls [.ref q])) : vx_W p l e R s m args below meth c H locs cells slots Q (F0 m pc ls rest) q := by
  intro T hT X
  have hpl : e.platform.magicAccessors = ({} : Platform).magicAccessors := by rw [X.admits.platform]
  obtain ⟨c3, c4, hc3, hc4, hasg⟩ := Cond.castable_spec hcast
  cases Option.some.inj (hc3.symm.trans hcl)
  obtain ⟨c5, hc5, hcl5⟩ := Cond.classLink_spec hown hlink e.platform hpl
  cases Option.some.inj (hc4.symm.trans hc5)
  obtain ⟨vm', X', st⟩ := X.thenCaughtThrough q (g := F0 m pc ls rest) rfl (Steps.refl _) (by rw [hT]; exact hcell) (by rw [hv]; rfl) (by obtain ⟨k9, h9, -⟩ := Vm.findClass_spec hcl; exact ⟨k9, h9⟩) pre x suf hsplit
    (fun z hz => by
      rcases hpass z hz with h | ⟨hz0, nm, hl1, hn1⟩
      · exact Or.inl h
      · obtain ⟨c6, hc6, hcl6⟩ := Cond.classLink_spec hown hl1 e.platform hpl
        obtain ⟨a8, b8, h1, h2, h3⟩ := hn1
        cases Option.some.inj (h1.symm.trans hcl)
        cases Option.some.inj (h2.symm.trans hc6)
        exact Or.inr ⟨hz0, _, hcl6, h3⟩) hx (Or.inr ⟨h0, c4, hcl5, hasg⟩)
  obtain ⟨t, a1, b1⟩ := kk (T.setVm vm') hT X'
  exact ⟨t, st.trans a1, b1⟩
end Rows
section Ends
variable {p : Program} {l : Launch} {e : Env} {R : Room} {s : State} {m : MethodId} {args : Array Value} {below : List Frame} {meth : Method} {c : Code} {H : Heap} {locs : List Loc} {cells slots : Nat} {Q : State → Prop}
variable {mc ms : Nat} {free : Addr → Prop} {A0 A1 : Nat → Prop} {H0 : Heap} {a : Array Value} {ls : Array Slot} {st0 rest : List Value}
variable {Qc : Array Value → State → Outcome → State → Prop} {XC : String → State → State → Prop}
/-- what a body that may throw owes at its end -/
def vx_MQ (below : List Frame) (Qc : Array Value → State → Outcome → State → Prop) (XC : String → State → State → Prop) (a : Array Value) (s : State) (mc ms : Nat) (free : Addr → Prop) : State → Prop := fun t =>
  ∃ o, t.status = .running ∧ Ended t below o ∧ vx_Q Qc XC mc ms free a s o t
theorem vx_ret {g : JFrame} {mc ms : Nat} (k : W p l e R s m args below meth c H locs cells slots (MQ below Qc args s mc ms free) g) : W p l e R s m args below meth c H locs cells slots (vx_MQ below Qc XC args s mc ms free) g := by
  intro T hT X
  obtain ⟨t, a1, o, b1, b2, b3, b4⟩ := k T hT X
  exact ⟨t, a1, o, b1, b2, Or.inl ⟨b3, b4⟩⟩
/-- not caught here: it goes on to the caller -/
theorem vx_widen {g : JFrame} {q : Addr} {k n : Nat} (h1 : cells ≤ k) (h2 : slots ≤ n) (kk : vx_W p l e R s m args below meth c H locs k n Q g q) : vx_W p l e R s m args below meth c H locs cells slots Q g q := fun T hT X => kk T hT (stand_widen X h1 h2)
theorem vx_out {pc : Nat} {E : String} {ce : Cell} {q : Addr} {mc ms : Nat} (hout : ∀ x ∈ c.exceptionTable.toList, covers x pc = false) (hlocks : meth.locks = false) (hcell : H[q]? = some ce) (hv : ce.vm = .none) (hcl : s.vm.findClass E = some ce.cls)
    (hx : ∀ t : State, t.heap = H → s.vm.Alike t.vm → XC E s t) (hf : ∀ z ∈ locs, free z.base) (hc : cells ≤ mc) (hs : slots ≤ ms) :
    vx_W p l e R s m args below meth c H locs cells slots (vx_MQ below Qc XC args s mc ms free) (F0 m pc ls rest) q := by
  intro T hT X
  obtain ⟨st1, hrun, hend, hW, hsm⟩ := X.leaveThrown q (g := F0 m pc ls rest) rfl rfl rfl hout hlocks
  have hcell9 : (T.setFrames (.throwing q :: below)).heap[q]? = some ce := by
    show T.heap[q]? = some ce
    rw [hT]; exact hcell
  exact ⟨_, st1, .threw q, hrun, hend, Or.inr ⟨q, rfl, E, ce, locs, hx _ hT hW.alike, hcell9, hv, hcl, hW, hsm.mono hc hs, hf⟩⟩
theorem vx_frame {U : State} {k n : Nat} (h : s.sameButNew ({ U with vm := s.vm } : State) locs k n) : s.heap.size ≤ U.heap.size ∧ ∀ q : Nat, q < s.heap.size → (∀ z ∈ locs, z.base ≠ q) → U.heap[q]? = s.heap[q]? := by
  obtain ⟨-, h2, -, -, -, h6⟩ := h
  refine ⟨h2, fun q hq hz => ?_⟩
  obtain ⟨c9, e1, e2, e3, e4⟩ := h6 q _ (Array.getElem?_eq_getElem hq)
  have hs : c9.slots = (s.heap[q]).slots := Array.ext_getElem? fun i => e4 i fun hm => hz _ hm rfl
  have h9 : c9 = s.heap[q] := by
    rw [hs] at e2
    exact e2
  have e5 : U.heap[q]? = some c9 := e1
  rw [e5, h9, Array.getElem?_eq_getElem hq]
/-- the words of a throw but the four that speak of the heap -/
def vx_no (w : Cond) : Bool := decide (w ≠ .isRef (.static Bundle.tN "UNASSIGNED_STACK" Bundle.steD)) && decide (w ≠ .isRef (.static Bundle.tN "SUPPRESSED_SENTINEL" Bundle.listD)) && decide (w ≠ .laysStatic Bundle.tN "UNASSIGNED_STACK" Bundle.steD) && decide (w ≠ .laysStatic Bundle.tN "SUPPRESSED_SENTINEL" Bundle.listD)
def vx_at0 (own : String) (ic : Nat) (X : String) (names : List String) : List Cond := (Bundle.ownAtoms0 own ic X names).filter vx_no
def vx_atS (own : String) (ic : Nat) (X : String) (names : List String) : List Cond := (Bundle.ownAtoms own ic X names).filter vx_no
/-- a word that the tables alone decide, or a good one -/
def vx_ot (w : Cond) : Bool := w.onTables || goodWord w
theorem vx_ot_at {args a' : Array Value} {s U : State} {w : Cond} (hW : s.WarmedH U.vm) (hvm : s.vm = U.vm) (hg : vx_ot w = true) (h : w.before args s = true) : w.before a' U = true := by
  simp only [vx_ot, Bool.or_eq_true] at hg
  rcases hg with hg | hg
  · exact va_tabs hg hvm h
  · exact word_at hW (good_of_word hg) h
/-- a list's words: the good ones out of the method's own list, the others by premises of their own -/
theorem vx_hat {args : Array Value} {s : State} {L B : List Cond} (h1 : ∀ w ∈ L.filter goodWord, w.before args s = true) (h2 : ∀ w ∈ L.filter (fun w => !goodWord w), w ∈ B) (h3 : ∀ w ∈ B, w.before args s = true) : ∀ w ∈ L, w.before args s = true := by
  intro w hw
  by_cases g : goodWord w = true
  · exact h1 w (List.mem_filter.mpr ⟨hw, g⟩)
  · refine h3 w (h2 w (List.mem_filter.mpr ⟨hw, ?_⟩))
    show (!goodWord w) = true
    cases hgw : goodWord w
    · rfl
    · exact absurd hgw g
theorem vx_c {args : Array Value} {s : State} {w : Cond} {B : List Cond} (h : w.before args s = true) (t : ∀ w ∈ B, w.before args s = true) : ∀ w' ∈ w :: B, w'.before args s = true := fun w' h' => (List.mem_cons.mp h').elim (fun e => by rw [e]; exact h) (t w')
theorem vx_n {args : Array Value} {s : State} : ∀ w ∈ ([] : List Cond), w.before args s = true := fun _ h => nomatch h
theorem vx_own {args : Array Value} {s : State} {L : List Cond} (h1 : ∀ w ∈ L.filter vx_no, w.before args s = true)
    (hU : (Cond.isRef (.static Bundle.tN "UNASSIGNED_STACK" Bundle.steD)).before args s = true) (hN : (Cond.isRef (.static Bundle.tN "SUPPRESSED_SENTINEL" Bundle.listD)).before args s = true)
    (lU : (Cond.laysStatic Bundle.tN "UNASSIGNED_STACK" Bundle.steD).before args s = true) (lN : (Cond.laysStatic Bundle.tN "SUPPRESSED_SENTINEL" Bundle.listD).before args s = true) : ∀ w ∈ L, w.before args s = true := by
  intro w hw
  by_cases e1 : w = .isRef (.static Bundle.tN "UNASSIGNED_STACK" Bundle.steD)
  · rw [e1]; exact hU
  · by_cases e2 : w = .isRef (.static Bundle.tN "SUPPRESSED_SENTINEL" Bundle.listD)
    · rw [e2]; exact hN
    · by_cases e3 : w = .laysStatic Bundle.tN "UNASSIGNED_STACK" Bundle.steD
      · rw [e3]; exact lU
      · by_cases e4 : w = .laysStatic Bundle.tN "SUPPRESSED_SENTINEL" Bundle.listD
        · rw [e4]; exact lN
        · exact h1 w (List.mem_filter.mpr ⟨hw, by unfold vx_no; rw [decide_eq_true e1, decide_eq_true e2, decide_eq_true e3, decide_eq_true e4]; rfl⟩)
/-- where a static field lies, its class's statics cell in H -/
def vx_L (C n d : String) (A : Nat → Prop) (U : State) (H : Heap) : Prop := ∃ (c : ClassId) (k : Class) (i : Nat) (f : Field) (a : Nat) (cell : Cell), U.vm.findClass C = some c ∧ U.fieldFound? C n d = some (c, k, i, f) ∧ f.isStatic = true ∧ k.statics = some a ∧ H[a]? = some cell ∧ cell.vm.isStatics = true ∧ cell.cls = c ∧ f.slot < cell.slots.size ∧ k.staticTypes[f.slot]? = some f.type ∧ ¬ A a
theorem vx_L.moved {C n d : String} {A : Nat → Prop} {u U : State} {H : Heap} (hvm : u.vm.Alike U.vm) (h : vx_L C n d A u H) : vx_L C n d A U H := by
  obtain ⟨c, k, i, f, a, cell, h1, h2, h3, h4, h5, h6, h7, h8, h9, h10⟩ := h
  obtain ⟨k', hi', he⟩ := State.fieldFound?_setVm hvm h2
  exact ⟨c, k', i, f, a, cell, by rw [hvm.findClass]; exact h1, hi', h3, by rw [he]; exact h4, h5, h6, h7, h8, by rw [he]; exact h9, h10⟩
theorem vx_L.kept {C n d : String} {A : Nat → Prop} {U : State} {H H1 : Heap} (h : vx_L C n d A U H) (hq : ∀ a : Nat, a < H.size → ¬ A a → H1[a]? = H[a]?) : vx_L C n d A U H1 := by
  obtain ⟨c, k, i, f, a, cell, h1, h2, h3, h4, h5, h6, h7, h8, h9, h10⟩ := h
  exact ⟨c, k, i, f, a, cell, h1, h2, h3, h4, by rw [hq a (Array.getElem?_eq_some_iff.mp h5).1 h10]; exact h5, h6, h7, h8, h9, h10⟩
theorem vx_L.narrow {C n d : String} {A B : Nat → Prop} {U : State} {H : Heap} (h : vx_L C n d A U H) (hAB : ∀ q, B q → A q) : vx_L C n d B U H := by
  obtain ⟨c, k, i, f, a, cell, h1, h2, h3, h4, h5, h6, h7, h8, h9, h10⟩ := h
  exact ⟨c, k, i, f, a, cell, h1, h2, h3, h4, h5, h6, h7, h8, h9, fun z => h10 (hAB _ z)⟩
theorem vx_L.word {C n d : String} {A : Nat → Prop} {s : State} {args : Array Value} (h : vx_L C n d A s s.heap) : (Cond.laysStatic C n d).before args s = true := by
  obtain ⟨c, k, i, f, a, cell, h1, h2, h3, h4, h5, h6, h7, h8, h9, -⟩ := h
  show (Cond.laysStatic C n d).holds args s none s [] = true
  exact Cond.laysStatic_of h1 h2 h3 h4 h5 h6 h7 h8 h9
/-- .. and what it holds: null or some reference -/
def vx_Zq (C n d : String) (A : Nat → Prop) (U : State) (H : Heap) : Prop := va_Zq C n d A U H ∧ vx_L C n d A U H
theorem vx_Zq.moved {C n d : String} {A : Nat → Prop} {u U : State} {H : Heap} (hvm : u.vm.Alike U.vm) (h : vx_Zq C n d A u H) : vx_Zq C n d A U H := ⟨va_Zq.moved hvm h.1, vx_L.moved hvm h.2⟩
theorem vx_Zq.kept {C n d : String} {A : Nat → Prop} {U : State} {H H1 : Heap} (h : vx_Zq C n d A U H) (hq : ∀ a : Nat, a < H.size → ¬ A a → H1[a]? = H[a]?) : vx_Zq C n d A U H1 := ⟨va_Zq.kept h.1 hq, vx_L.kept h.2 hq⟩
theorem vx_Zq.narrow {C n d : String} {A B : Nat → Prop} {U : State} {H : Heap} (h : vx_Zq C n d A U H) (hAB : ∀ q, B q → A q) : vx_Zq C n d B U H := ⟨va_Zq.narrow h.1 hAB, vx_L.narrow h.2 hAB⟩
theorem vx_Zqof {args : Array Value} {s : State} {C n d : String} {A : Nat → Prop} (hl : (Cond.laysStatic C n d).before args s = true) (hini : (Cond.initialized C).before args s = true) (h : (Cond.isRef (.static C n d)).before args s = true) (hA : ∀ a : Nat, a < s.heap.size → ¬ A a) : vx_Zq C n d A s s.heap := by
  refine ⟨va_Zqof hl hini h hA, ?_⟩
  obtain ⟨c, k, i, f, a, cell, h1, h2, h3, h4, h5, h6, h7, h8, h9⟩ := Cond.laysStatic_spec hl
  exact ⟨c, k, i, f, a, cell, h1, h2, h3, h4, h5, h6, h7, h8, h9, hA a (Array.getElem?_eq_some_iff.mp h5).1⟩
theorem vx_isRef {C n d : String} {v : Value} {A : Nat → Prop} {s : State} {args : Array Value} (h : va_Z C n d v A s s.heap) (hv : v.isRef = true) : (Cond.isRef (.static C n d)).before args s = true := by
  obtain ⟨cf, kf, fi, f, a, cell, h1, h2, h3, h4, h5, h6, h7, -⟩ := h
  have he : (Term.static C n d).eval args s none [] s = some v := by
    simp [Term.eval, State.fieldNamed?, h1, h2, h4, h5, h6, h7]
  simp only [Cond.before, Cond.holds, Cond.value, he]
  cases v <;> simp_all [Value.isRef]
theorem vx_isRefq {C n d : String} {A : Nat → Prop} {s : State} {args : Array Value} (h : va_Zq C n d A s s.heap) : (Cond.isRef (.static C n d)).before args s = true := by
  rcases h with h | ⟨t, h⟩
  · exact vx_isRef h rfl
  · exact vx_isRef h rfl
/-- the same frame, seen from here: as if the method were called anew in this heap -/
theorem vx_rebase {T : State} (X : Stand p l e R s m args below meth c T locs cells slots) {R' : Room} (hf : R'.frames ≤ R.frames) (hl : R'.locals ≤ R.locals) (hc : cells + R'.cells ≤ R.cells) (hs : slots + R'.slots ≤ R.slots) :
    Stand p l e R' ((T.setVm s.vm).setFrames (.invoking m args :: below)) m args below meth c T [] 0 0 := by
  have htop : (T.setVm s.vm).topJava?.isSome := X.here.top
  have hF : ((T.setVm s.vm).setFrames (.invoking m args :: below)).frames = .invoking m args :: below := State.frames_setFrames _ (State.cur_lt_of_top htop)
  obtain ⟨g₀, hg0⟩ := Option.isSome_iff_exists.mp htop
  obtain ⟨r, hr⟩ := State.topJava?_eq_some.mp hg0
  have hl9 : e.platform.stackLimits (T.setVm s.vm).me = e.platform.stackLimits s.me := X.limits
  have hb9 : (T.setVm s.vm).me.stackBytes = s.me.stackBytes := X.bytes
  refine ⟨X.admits, X.cas, X.clock, hF, ?_, X.hears, X.method, X.code, X.here, X.tail, X.warmed, ?_, ?_, ?_⟩
  · have h := X.room
    have hU : ((T.setVm s.vm).setFrames (.invoking m args :: below)).localsInUse = s.localsInUse := by
      rw [State.localsInUse_invoking hF (meth := meth) (c := c) X.method X.code, State.localsInUse_invoking X.frames X.method X.code]
    simp only [State.hasRoom, Bool.and_eq_true, decide_eq_true_eq] at h ⊢
    obtain ⟨⟨⟨⟨h1, h2, h3, h4, h5, h6⟩, h7⟩, h8⟩, h9⟩ := h
    rw [X.frames, List.length_cons] at h2 h3
    have q1 := X.heapSize
    have q2 := X.used
    simp only [hF, hU, List.length_cons, State.stackLimits_setFrames, State.stackBytes_setFrames, hl9, hb9]
    refine ⟨⟨⟨⟨by omega, by omega, by omega, by omega, by omega, h6⟩, ?_⟩, ?_⟩, X.book⟩
    · show T.heap.size + R'.cells ≤ e.platform.maxCells
      omega
    · show T.slotsUsed + R'.slots ≤ e.platform.maxSlots
      omega
  · rw [State.stackLimits_setFrames]; rfl
  · rw [State.stackBytes_setFrames]; rfl
  · refine ⟨?_, Nat.le_refl _, Nat.le_refl _, ?_, ?_, fun a c9 h9 => ⟨c9, h9, rfl, rfl, fun _ _ => rfl⟩⟩
    · obtain ⟨t, ht, -⟩ := State.frames_cons hr
      show T.setVm s.vm = { ((T.setVm s.vm).setFrames (.invoking m args :: below)).setFrames (T.setVm s.vm).frames with heap := T.heap, slotsUsed := T.slotsUsed }
      rw [State.setFrames_setFrames, State.setFrames_self ht]
      rfl
    · show T.slotsUsed = T.slotsUsed + ((T.heap.toList.drop T.heap.size).map (·.slots.size)).sum
      rw [List.drop_eq_nil_of_le (Nat.le_of_eq Array.length_toList)]
      rfl
    · show ((T.heap.toList.drop T.heap.size).map (·.slots.size)).sum ≤ 0
      rw [List.drop_eq_nil_of_le (Nat.le_of_eq Array.length_toList)]
      exact Nat.le_refl _
/-- 'throw new E()': new; dup; invokespecial; athrow -/
theorem vx_throw0 {cc : ByteArray} {pc : Nat} (hexec : p.tables.exec = Jvm.exec) (hb : c.code = cc) (hl : l.stackTraces = false) {own cls : String} {names : List String} {ik ic mc ms : Nat} {A : Nat → Prop}
    (hown : s.vm.findClass own = some m.cls) (hcls : Bundle.fit cls = true) (hnames : ∀ n ∈ names, Bundle.fit n = true)
    (hk : (Cond.classLink own ik cls).before args s = true) (hini : (Cond.initialized cls).before args s = true) (hat : ∀ w ∈ vx_at0 own ic cls names, w.before args s = true)
    (hgood : ∀ w ∈ Cond.classLink own ik cls :: Cond.initialized cls :: vx_at0 own ic cls names, vx_ot w = true)
    (hU : vx_Zq Bundle.tN "UNASSIGNED_STACK" Bundle.steD A s s.heap) (hN : vx_Zq Bundle.tN "SUPPRESSED_SENTINEL" Bundle.listD A s s.heap) (hS : va_S A s.heap H locs) (hsize : ls.size = c.maxLocals)
    (d0 : decode cc pc = .ok (.new ik, 3)) (d3 : decode cc (pc + 3) = .ok (.dup, 1)) (d4 : decode cc (pc + 4) = .ok (.invokespecial ic, 3)) (d7 : decode cc (pc + 7) = .ok (.athrow, 1))
    (hout : ∀ x ∈ c.exceptionTable.toList, covers x (pc + 7) = false)
    (hRframes : names.length + 3 < R.frames) (hRlocals : (rest.map fun v => v.category).sum + (13 * (names.length + 1) + 42) ≤ R.locals) (hRcells : cells + 1 ≤ R.cells) (hRslots : slots + 6 ≤ R.slots) (hlocks : meth.locks = false)
    (hx : ∀ t : State, s.vm.Alike t.vm → H.size ≤ t.heap.size → (∀ q : Nat, q < H.size → t.heap[q]? = H[q]?) → XC cls s t)
    (hf : ∀ z ∈ locs, free z.base) (hc : cells + 1 ≤ mc) (hs : slots + 6 ≤ ms) :
    W p l e R s m args below meth c H locs cells slots (vx_MQ below Qc XC args s mc ms free) (F0 m pc ls rest) := by
  intro T hT X
  have htr : e.platform.stackTraces = false := (show e.platform.stackTraces = l.stackTraces by rw [X.admits.platform]).trans hl
  have Y := vx_rebase X (R' := { frames := R.frames, locals := R.locals, cells := 1, slots := 6 }) (Nat.le_refl _) (Nat.le_refl _) hRcells hRslots
  obtain ⟨s', hA⟩ : ∃ z, z = (T.setVm s.vm).setFrames (.invoking m args :: below) := ⟨_, rfl⟩
  rw [← hA] at Y
  have hvm : s'.vm = s.vm := by rw [hA]; rfl
  have hhp : s'.heap = H := by rw [hA]; exact hT
  have hW0 : s.WarmedH s'.vm := by rw [hvm]; exact State.WarmedH.refl s
  have hat' : ∀ w ∈ vx_at0 own ic cls names, w.before args s' = true := fun w hw => vx_ot_at hW0 hvm.symm (hgood w (List.mem_cons_of_mem _ (List.mem_cons_of_mem _ hw))) (hat w hw)
  have hk' : (Cond.classLink own ik cls).before args s' = true := vx_ot_at hW0 hvm.symm (hgood _ List.mem_cons_self) hk
  have hini' : (Cond.initialized cls).before args s' = true := vx_ot_at hW0 hvm.symm (hgood _ (List.mem_cons_of_mem _ List.mem_cons_self)) hini
  have hU' : vx_Zq Bundle.tN "UNASSIGNED_STACK" Bundle.steD A s' s'.heap := by rw [hhp]; exact vx_Zq.moved hW0.alike (hU.kept hS.2.1)
  have hN' : vx_Zq Bundle.tN "SUPPRESSED_SENTINEL" Bundle.listD A s' s'.heap := by rw [hhp]; exact vx_Zq.moved hW0.alike (hN.kept hS.2.1)
  have h : ∀ w ∈ Bundle.ownAtoms0 own ic cls names, w.before args s' = true := vx_own hat' (vx_isRefq hU'.1) (vx_isRefq hN'.1) hU'.2.word hN'.2.word
  have hown' : s'.vm.findClass own = some m.cls := by rw [hvm]; exact hown
  have hins : (Cond.instantiable cls 6).before args s' = true := h _ (by simp [Bundle.ownAtoms0])
  obtain ⟨vm₁, cX, kX, hfX, hkX, -, -, X₁, st1⟩ := Y.newCold hexec (own := own) (C := cls) (index := ik) (n := 6) hown' hk' hins hini'
    (g := F0 m pc ls rest) rfl (by rw [hb]; exact d0) (Nat.le_refl _) (Nat.le_refl _)
  generalize hT1 : (T.setVm vm₁).pushCell { cls := cX, slots := kX.instanceTypes.map defaultValue, vm := .none } = T1 at X₁ st1
  have hcat : (Value.ref T.heap.size).category = 1 := rfl
  have hcellA : T1.heap[T.heap.size]? = some (freshCell cX kX) := by rw [← hT1]; exact State.heap_pushCell_size _ _
  have d3' : decode c.code (pc + 3) = .ok (.dup, 1) := by rw [hb]; exact d3
  obtain ⟨U, hsteps, hrun, hend, hW, hsame, ce, hce, hO⟩ := X₁.ctorThrow0 hexec htr (own := own) (cls := cls) (names := names) (ic := ic) hown' hcls hnames h (fun x hx => nomatch hx) hfX hkX hcellA (by rw [hhp, hT]; exact Nat.le_refl _)
    (g := { method := m, pc := pc + 4, locals := ls, stack := .ref T.heap.size :: .ref T.heap.size :: rest, locked := none }) rfl hsize rfl rfl (rest := rest) rfl
    (by rw [hb]; exact d4) (by rw [hb]; exact d7) hout hRframes (by simp only [List.map_cons, List.sum_cons, hcat]; omega) hlocks
  obtain ⟨f1, f2⟩ := vx_frame hsame
  rw [hhp] at f1 f2
  have hWs : s.WarmedH U.vm := State.WarmedH.trans hW0 hW
  have hcl : s.vm.findClass cls = some ce.cls := by
    have h9 := hO.cls
    rw [hvm] at h9
    exact h9
  have hall : s.sameButNew ({ U with vm := s.vm } : State) locs mc ms := by
    subst hA
    obtain ⟨e1, e2⟩ := hsame
    rw [State.setFrames_setFrames] at e1
    have h2 : (T.setVm s.vm).sameButNew ({ U with vm := s.vm } : State) [] (0 + 1) (0 + 6) := ⟨e1, e2⟩
    have h3 := X.same.trans h2
    rw [List.append_nil] at h3
    exact h3.mono hc hs
  refine ⟨U, ?_, .threw T.heap.size, hrun, hend, Or.inr ⟨T.heap.size, rfl, cls, ce, locs, hx U hWs.alike f1 (fun q hq => f2 q hq (fun z hz => nomatch hz)), hce, hO.vm, hcl, hWs, hall, hf⟩⟩
  refine st1 _ ?_
  show Steps p.tables e below (T1.setTop { method := m, pc := pc + 3, locals := ls, stack := .ref T.heap.size :: rest, locked := none }) _
  jvm_step X₁.here [X₁.here.top, hexec, d3', Value.category]
  exact hsteps
/-- 'throw new E("text")': new; dup; ldc; invokespecial; athrow -/
theorem vx_throwS {cc : ByteArray} {pc : Nat} (hexec : p.tables.exec = Jvm.exec) (hb : c.code = cc) (hl : l.stackTraces = false) {own cls text : String} {names : List String} {ik is ic mc ms sa : Nat} {A : Nat → Prop}
    (hown : s.vm.findClass own = some m.cls) (hcls : Bundle.fit cls = true) (hnames : ∀ n ∈ names, Bundle.fit n = true)
    (hk : (Cond.classLink own ik cls).before args s = true) (hini : (Cond.initialized cls).before args s = true) (hstr : vk_R own is text sa s) (hat : ∀ w ∈ vx_atS own ic cls names, w.before args s = true)
    (hgood : ∀ w ∈ Cond.classLink own ik cls :: Cond.initialized cls :: vx_atS own ic cls names, vx_ot w = true)
    (hU : vx_Zq Bundle.tN "UNASSIGNED_STACK" Bundle.steD A s s.heap) (hN : vx_Zq Bundle.tN "SUPPRESSED_SENTINEL" Bundle.listD A s s.heap) (hS : va_S A s.heap H locs) (hsize : ls.size = c.maxLocals)
    (d0 : decode cc pc = .ok (.new ik, 3)) (d3 : decode cc (pc + 3) = .ok (.dup, 1)) (d4 : decode cc (pc + 4) = .ok (.ldc is, 2)) (d6 : decode cc (pc + 6) = .ok (.invokespecial ic, 3)) (d9 : decode cc (pc + 9) = .ok (.athrow, 1))
    (hout : ∀ x ∈ c.exceptionTable.toList, covers x (pc + 9) = false)
    (hRframes : names.length + 3 < R.frames) (hRlocals : (rest.map fun v => v.category).sum + (13 * (names.length + 1) + 43) ≤ R.locals) (hRcells : cells + 1 ≤ R.cells) (hRslots : slots + 6 ≤ R.slots) (hlocks : meth.locks = false)
    (hx : ∀ t : State, s.vm.Alike t.vm → H.size ≤ t.heap.size → (∀ q : Nat, q < H.size → t.heap[q]? = H[q]?) → XC cls s t)
    (hf : ∀ z ∈ locs, free z.base) (hc : cells + 1 ≤ mc) (hs : slots + 6 ≤ ms) :
    W p l e R s m args below meth c H locs cells slots (vx_MQ below Qc XC args s mc ms free) (F0 m pc ls rest) := by
  intro T hT X
  have htr : e.platform.stackTraces = false := (show e.platform.stackTraces = l.stackTraces by rw [X.admits.platform]).trans hl
  have Y := vx_rebase X (R' := { frames := R.frames, locals := R.locals, cells := 1, slots := 6 }) (Nat.le_refl _) (Nat.le_refl _) hRcells hRslots
  obtain ⟨s', hA⟩ : ∃ z, z = (T.setVm s.vm).setFrames (.invoking m args :: below) := ⟨_, rfl⟩
  rw [← hA] at Y
  have hvm : s'.vm = s.vm := by rw [hA]; rfl
  have hhp : s'.heap = H := by rw [hA]; exact hT
  have hW0 : s.WarmedH s'.vm := by rw [hvm]; exact State.WarmedH.refl s
  have hat' : ∀ w ∈ vx_atS own ic cls names, w.before args s' = true := fun w hw => vx_ot_at hW0 hvm.symm (hgood w (List.mem_cons_of_mem _ (List.mem_cons_of_mem _ hw))) (hat w hw)
  have hk' : (Cond.classLink own ik cls).before args s' = true := vx_ot_at hW0 hvm.symm (hgood _ List.mem_cons_self) hk
  have hini' : (Cond.initialized cls).before args s' = true := vx_ot_at hW0 hvm.symm (hgood _ (List.mem_cons_of_mem _ List.mem_cons_self)) hini
  have hU' : vx_Zq Bundle.tN "UNASSIGNED_STACK" Bundle.steD A s' s'.heap := by rw [hhp]; exact vx_Zq.moved hW0.alike (hU.kept hS.2.1)
  have hN' : vx_Zq Bundle.tN "SUPPRESSED_SENTINEL" Bundle.listD A s' s'.heap := by rw [hhp]; exact vx_Zq.moved hW0.alike (hN.kept hS.2.1)
  have h : ∀ w ∈ Bundle.ownAtoms own ic cls names, w.before args s' = true := vx_own hat' (vx_isRefq hU'.1) (vx_isRefq hN'.1) hU'.2.word hN'.2.word
  have hown' : s'.vm.findClass own = some m.cls := by rw [hvm]; exact hown
  have hins : (Cond.instantiable cls 6).before args s' = true := h _ (by simp [Bundle.ownAtoms])
  obtain ⟨vm₁, cX, kX, hfX, hkX, -, -, X₁, st1⟩ := Y.newCold hexec (own := own) (C := cls) (index := ik) (n := 6) hown' hk' hins hini'
    (g := F0 m pc ls rest) rfl (by rw [hb]; exact d0) (Nat.le_refl _) (Nat.le_refl _)
  generalize hT1 : (T.setVm vm₁).pushCell { cls := cX, slots := kX.instanceTypes.map defaultValue, vm := .none } = T1 at X₁ st1
  have hcat : (Value.ref T.heap.size).category = 1 := rfl
  have hcellA : T1.heap[T.heap.size]? = some (freshCell cX kX) := by rw [← hT1]; exact State.heap_pushCell_size _ _
  have d3' : decode c.code (pc + 3) = .ok (.dup, 1) := by rw [hb]; exact d3
  have d4' : decode c.code (pc + 4) = .ok (.ldc is, 2) := by rw [hb]; exact d4
  have hstr' : vk_R own is text sa s' := vk_R.warm hW0 hstr
  obtain ⟨U, hsteps, hrun, hend, hW, hsame, ce, hce, hO⟩ := X₁.ctorThrowS hexec htr (own := own) (cls := cls) (names := names) (ic := ic) hown' hcls hnames h (fun x hx => nomatch hx) hfX hkX hcellA (by rw [hhp, hT]; exact Nat.le_refl _) (msg := .ref sa) rfl
    (g := { method := m, pc := pc + 6, locals := ls, stack := .ref sa :: .ref T.heap.size :: .ref T.heap.size :: rest, locked := none }) rfl hsize rfl rfl (rest := rest) rfl
    (by rw [hb]; exact d6) (by rw [hb]; exact d9) hout hRframes (by simp only [List.map_cons, List.sum_cons, hcat]; omega) hlocks
  obtain ⟨f1, f2⟩ := vx_frame hsame
  rw [hhp] at f1 f2
  have hWs : s.WarmedH U.vm := State.WarmedH.trans hW0 hW
  have hcl : s.vm.findClass cls = some ce.cls := by
    have h9 := hO.cls
    rw [hvm] at h9
    exact h9
  have hall : s.sameButNew ({ U with vm := s.vm } : State) locs mc ms := by
    subst hA
    obtain ⟨e1, e2⟩ := hsame
    rw [State.setFrames_setFrames] at e1
    have h2 : (T.setVm s.vm).sameButNew ({ U with vm := s.vm } : State) [] (0 + 1) (0 + 6) := ⟨e1, e2⟩
    have h3 := X.same.trans h2
    rw [List.append_nil] at h3
    exact h3.mono hc hs
  refine ⟨U, ?_, .threw T.heap.size, hrun, hend, Or.inr ⟨T.heap.size, rfl, cls, ce, locs, hx U hWs.alike f1 (fun q hq => f2 q hq (fun z hz => nomatch hz)), hce, hO.vm, hcl, hWs, hall, hf⟩⟩
  refine st1 _ ?_
  show Steps p.tables e below (T1.setTop { method := m, pc := pc + 3, locals := ls, stack := .ref T.heap.size :: rest, locked := none }) _
  jvm_step X₁.here [X₁.here.top, hexec, d3', Value.category]
  exact X₁.ldcString hexec (own := own) (text := text) (index := is) (a := sa) hown' hstr'.1 hstr'.2
    (g := { method := m, pc := pc + 4, locals := ls, stack := .ref T.heap.size :: .ref T.heap.size :: rest, locked := none }) rfl d4' _ hsteps
/-- 'throw new E("text")', the text by a wide index -/
theorem vx_throwSW {cc : ByteArray} {pc : Nat} (hexec : p.tables.exec = Jvm.exec) (hb : c.code = cc) (hl : l.stackTraces = false) {own cls text : String} {names : List String} {ik is ic mc ms sa : Nat} {A : Nat → Prop}
    (hown : s.vm.findClass own = some m.cls) (hcls : Bundle.fit cls = true) (hnames : ∀ n ∈ names, Bundle.fit n = true)
    (hk : (Cond.classLink own ik cls).before args s = true) (hini : (Cond.initialized cls).before args s = true) (hstr : vk_R own is text sa s) (hat : ∀ w ∈ vx_atS own ic cls names, w.before args s = true)
    (hgood : ∀ w ∈ Cond.classLink own ik cls :: Cond.initialized cls :: vx_atS own ic cls names, vx_ot w = true)
    (hU : vx_Zq Bundle.tN "UNASSIGNED_STACK" Bundle.steD A s s.heap) (hN : vx_Zq Bundle.tN "SUPPRESSED_SENTINEL" Bundle.listD A s s.heap) (hS : va_S A s.heap H locs) (hsize : ls.size = c.maxLocals)
    (d0 : decode cc pc = .ok (.new ik, 3)) (d3 : decode cc (pc + 3) = .ok (.dup, 1)) (d4 : decode cc (pc + 4) = .ok (.ldc_w is, 3)) (d7 : decode cc (pc + 7) = .ok (.invokespecial ic, 3)) (d10 : decode cc (pc + 10) = .ok (.athrow, 1))
    (hout : ∀ x ∈ c.exceptionTable.toList, covers x (pc + 10) = false)
    (hRframes : names.length + 3 < R.frames) (hRlocals : (rest.map fun v => v.category).sum + (13 * (names.length + 1) + 43) ≤ R.locals) (hRcells : cells + 1 ≤ R.cells) (hRslots : slots + 6 ≤ R.slots) (hlocks : meth.locks = false)
    (hx : ∀ t : State, s.vm.Alike t.vm → H.size ≤ t.heap.size → (∀ q : Nat, q < H.size → t.heap[q]? = H[q]?) → XC cls s t)
    (hf : ∀ z ∈ locs, free z.base) (hc : cells + 1 ≤ mc) (hs : slots + 6 ≤ ms) :
    W p l e R s m args below meth c H locs cells slots (vx_MQ below Qc XC args s mc ms free) (F0 m pc ls rest) := by
  intro T hT X
  have htr : e.platform.stackTraces = false := (show e.platform.stackTraces = l.stackTraces by rw [X.admits.platform]).trans hl
  have Y := vx_rebase X (R' := { frames := R.frames, locals := R.locals, cells := 1, slots := 6 }) (Nat.le_refl _) (Nat.le_refl _) hRcells hRslots
  obtain ⟨s', hA⟩ : ∃ z, z = (T.setVm s.vm).setFrames (.invoking m args :: below) := ⟨_, rfl⟩
  rw [← hA] at Y
  have hvm : s'.vm = s.vm := by rw [hA]; rfl
  have hhp : s'.heap = H := by rw [hA]; exact hT
  have hW0 : s.WarmedH s'.vm := by rw [hvm]; exact State.WarmedH.refl s
  have hat' : ∀ w ∈ vx_atS own ic cls names, w.before args s' = true := fun w hw => vx_ot_at hW0 hvm.symm (hgood w (List.mem_cons_of_mem _ (List.mem_cons_of_mem _ hw))) (hat w hw)
  have hk' : (Cond.classLink own ik cls).before args s' = true := vx_ot_at hW0 hvm.symm (hgood _ List.mem_cons_self) hk
  have hini' : (Cond.initialized cls).before args s' = true := vx_ot_at hW0 hvm.symm (hgood _ (List.mem_cons_of_mem _ List.mem_cons_self)) hini
  have hU' : vx_Zq Bundle.tN "UNASSIGNED_STACK" Bundle.steD A s' s'.heap := by rw [hhp]; exact vx_Zq.moved hW0.alike (hU.kept hS.2.1)
  have hN' : vx_Zq Bundle.tN "SUPPRESSED_SENTINEL" Bundle.listD A s' s'.heap := by rw [hhp]; exact vx_Zq.moved hW0.alike (hN.kept hS.2.1)
  have h : ∀ w ∈ Bundle.ownAtoms own ic cls names, w.before args s' = true := vx_own hat' (vx_isRefq hU'.1) (vx_isRefq hN'.1) hU'.2.word hN'.2.word
  have hown' : s'.vm.findClass own = some m.cls := by rw [hvm]; exact hown
  have hins : (Cond.instantiable cls 6).before args s' = true := h _ (by simp [Bundle.ownAtoms])
  obtain ⟨vm₁, cX, kX, hfX, hkX, -, -, X₁, st1⟩ := Y.newCold hexec (own := own) (C := cls) (index := ik) (n := 6) hown' hk' hins hini'
    (g := F0 m pc ls rest) rfl (by rw [hb]; exact d0) (Nat.le_refl _) (Nat.le_refl _)
  generalize hT1 : (T.setVm vm₁).pushCell { cls := cX, slots := kX.instanceTypes.map defaultValue, vm := .none } = T1 at X₁ st1
  have hcat : (Value.ref T.heap.size).category = 1 := rfl
  have hcellA : T1.heap[T.heap.size]? = some (freshCell cX kX) := by rw [← hT1]; exact State.heap_pushCell_size _ _
  have d3' : decode c.code (pc + 3) = .ok (.dup, 1) := by rw [hb]; exact d3
  have d4' : decode c.code (pc + 4) = .ok (.ldc_w is, 3) := by rw [hb]; exact d4
  have hstr' : vk_R own is text sa s' := vk_R.warm hW0 hstr
  obtain ⟨U, hsteps, hrun, hend, hW, hsame, ce, hce, hO⟩ := X₁.ctorThrowS hexec htr (own := own) (cls := cls) (names := names) (ic := ic) hown' hcls hnames h (fun x hx => nomatch hx) hfX hkX hcellA (by rw [hhp, hT]; exact Nat.le_refl _) (msg := .ref sa) rfl
    (g := { method := m, pc := pc + 7, locals := ls, stack := .ref sa :: .ref T.heap.size :: .ref T.heap.size :: rest, locked := none }) rfl hsize rfl rfl (rest := rest) rfl
    (by rw [hb]; exact d7) (by rw [hb]; exact d10) hout hRframes (by simp only [List.map_cons, List.sum_cons, hcat]; omega) hlocks
  obtain ⟨f1, f2⟩ := vx_frame hsame
  rw [hhp] at f1 f2
  have hWs : s.WarmedH U.vm := State.WarmedH.trans hW0 hW
  have hcl : s.vm.findClass cls = some ce.cls := by
    have h9 := hO.cls
    rw [hvm] at h9
    exact h9
  have hall : s.sameButNew ({ U with vm := s.vm } : State) locs mc ms := by
    subst hA
    obtain ⟨e1, e2⟩ := hsame
    rw [State.setFrames_setFrames] at e1
    have h2 : (T.setVm s.vm).sameButNew ({ U with vm := s.vm } : State) [] (0 + 1) (0 + 6) := ⟨e1, e2⟩
    have h3 := X.same.trans h2
    rw [List.append_nil] at h3
    exact h3.mono hc hs
  refine ⟨U, ?_, .threw T.heap.size, hrun, hend, Or.inr ⟨T.heap.size, rfl, cls, ce, locs, hx U hWs.alike f1 (fun q hq => f2 q hq (fun z hz => nomatch hz)), hce, hO.vm, hcl, hWs, hall, hf⟩⟩
  refine st1 _ ?_
  show Steps p.tables e below (T1.setTop { method := m, pc := pc + 3, locals := ls, stack := .ref T.heap.size :: rest, locked := none }) _
  jvm_step X₁.here [X₁.here.top, hexec, d3', Value.category]
  exact X₁.ldcStringW hexec (own := own) (text := text) (index := is) (a := sa) hown' hstr'.1 hstr'.2
    (g := { method := m, pc := pc + 4, locals := ls, stack := .ref T.heap.size :: .ref T.heap.size :: rest, locked := none }) rfl d4' _ hsteps
end Ends
section Bodies
variable {l : Launch}
theorem vx_ofW {y : MethodName} {ws ws' : List Cond} {rm : Room} {Pc : Array Value → State → Prop} {Qc : Array Value → State → Outcome → State → Prop} {XC : String → State → State → Prop} {mc ms : Nat} {free : Addr → Prop} {cc : ByteArray} {maxL : Nat} {ret : Option FieldType}
    (hy : plainName y.cls = true) (hw : ws = Cond.code y cc maxL ret :: ws')
    (body : ∀ p e s m args below meth c s₁, BodyLoose p l y (headSpec ws rm) cc maxL ret e s m args below meth c s₁ → c.maxLocals = maxL → (∀ x ∈ c.exceptionTable.toList, False) → Pc args s →
      W p l e (headSpec ws rm).room s m args below meth c s.heap [] 0 0 (vx_MQ below Qc XC args s mc ms free) (entryFrame m args maxL)) : vx_Met l y ws rm Pc Qc XC mc ms free := by
  refine MetFree.of_bodyS (code := cc) (maxLocals := maxL) (ret := ret) hy ?_ ?_
  · intro args s m h hn
    obtain ⟨meth, c, h1, h2, h3, h4, h5, h6, -, -⟩ := Cond.code_spec hn (atoms_spec (ws := ws) h _ (by rw [hw]; exact List.mem_cons_self))
    exact ⟨meth, c, h1, h2, h3, h4, h5, h6⟩
  · intro p e s m args below meth c s₁ B hml hP _
    have hh0 : s₁.heap = s.heap := by rw [B.state]; rfl
    have ht : ∀ x ∈ c.exceptionTable.toList, False := by
      obtain ⟨meth9, c9, h1, h2, -, -, -, -, h7, -⟩ := Cond.code_spec B.named (atoms_spec (ws := ws) B.pre _ (by rw [hw]; exact List.mem_cons_self))
      cases Option.some.inj (h1.symm.trans B.method)
      cases Option.some.inj (h2.symm.trans (Stand.of_body B).code)
      intro x hx
      rw [Array.isEmpty_iff.mp h7] at hx
      cases hx
    obtain ⟨t, a1, o, b1, b2, b3⟩ := body p e s m args below meth c s₁ B hml ht hP s₁ hh0 (Stand.of_body B)
    exact ⟨t, o, a1, b1, b2, b3⟩
/-- the table of a body with handlers -/
theorem vx_table {p : Program} {x y : MethodName} {S : Spec} {cc bytes : ByteArray} {maxL maxL' : Nat} {ret ret' : Option FieldType} {e : Env} {s s₁ : State} {m : MethodId} {args : Array Value} {below : List Frame} {meth : Method} {c : Code} {hh : List (Nat × Nat × Nat × Nat)}
    (B : BodyLoose p l y S cc maxL ret e s m args below meth c s₁) (h : (Cond.codeWith y bytes maxL' ret' hh).before args s = true) : c.exceptionTable.toList = tableOf hh := by
  obtain ⟨m9, meth9, c9, hn9, h1, h2, -, -, h6, -⟩ := Cond.codeWith_spec h
  cases Option.some.inj (hn9.symm.trans B.named)
  cases Option.some.inj (h1.symm.trans B.method)
  cases Option.some.inj (h2.symm.trans (Stand.of_body B).code)
  rw [← h6, table_eq]
end Bodies
end VXA
/-! ===== END ===== -/
/-! ===== BEGIN a static call of a method with an exception table ===== -/
section VXS
variable {p : Program} {l : Launch} {e : Env} {R : Room} {s : State} {m : MethodId} {args : Array Value} {below : List Frame} {meth : Method} {c : Code} {T : State} {H : Heap} {locs : List Loc} {cells slots : Nat}
abbrev vx_CSW (R : Room) (s : State) (args : Array Value) (own : String) (index : Nat) (y : MethodName) (bytes : ByteArray) (maxL : Nat) (ret : Option FieldType) (hh : List (Nat × Nat × Nat × Nat)) (ws : List Cond) (rm : Room) (mc ms n : Nat) : Prop :=
  (rm.cells = mc ∧ rm.slots = ms ∧ rm.frames + 1 ≤ R.frames ∧ 8 + (maxL + 11) + rm.locals ≤ R.locals ∧ (∀ w ∈ ws, ∀ (a' : Array Value) (U : State), s.WarmedH U.vm → w.before a' U = true) ∧ Cond.codeWith y bytes maxL ret hh ∈ ws) ∧
  (Cond.codeWith y bytes maxL ret hh).before args s = true ∧ (Cond.initialized y.cls).before args s = true ∧ (y.cls ≠ "java/lang/invoke/MethodHandle" ∧ y.cls ≠ "java/lang/invoke/VarHandle") ∧
  (∀ sig, parseMethodDescriptor y.desc = some sig → n = sig.parameters.length) ∧ (Cond.methodLink own index y).before args s = true ∧ (Cond.static y).before args s = true
theorem vx_cwSW {own : String} {index maxL mc ms : Nat} {y : MethodName} {bytes : ByteArray} {ret : Option FieldType} {hh : List (Nat × Nat × Nat × Nat)} {Ts ws ws' : List Cond} {rm : Room} (n : Nat) (ht : ∀ w ∈ Ts, w.before args s = true) (hT : GoodIn Ts (va_wsS own index y ws)) (hw : ws = Cond.codeWith y bytes maxL ret hh :: ws') (hrc : rm.cells = mc) (hrs : rm.slots = ms)
    (hd : y.cls ≠ "java/lang/invoke/MethodHandle" ∧ y.cls ≠ "java/lang/invoke/VarHandle" ∧ (parseMethodDescriptor y.desc).map (fun d => d.parameters.length) = some n) (hR : rm.frames + 1 ≤ R.frames ∧ 8 + (maxL + 11) + rm.locals ≤ R.locals) :
    vx_CSW R s args own index y bytes maxL ret hh ws rm mc ms n := by
  have ok : ∀ w ∈ va_wsS own index y ws, w.before args s = true := fun w h => ht w (hT w h).1
  have hG : GoodIn Ts ws := fun w h => hT w (by unfold va_wsS; exact List.mem_append_right _ h)
  have hc : Cond.codeWith y bytes maxL ret hh ∈ ws := by rw [hw]; exact List.mem_cons_self
  refine ⟨⟨hrc, hrs, hR.1, hR.2, pay_in ht hG, hc⟩, ht _ (hG _ hc).1, ok _ (by simp [va_wsS]), ⟨hd.1, hd.2.1⟩, fun sig h => ?_, ok _ (by simp [va_wsS]), ok _ (by simp [va_wsS])⟩
  have h2 := hd.2.2
  rw [h] at h2
  exact (Option.some.inj h2).symm
theorem vx_callSW (X : Stand p l e R s m args below meth c T locs cells slots) (hexec : p.tables.exec = Jvm.exec) {own : String} {index : Nat} {y : MethodName} {bytes : ByteArray} {maxL : Nat} {ret : Option FieldType} {hh : List (Nat × Nat × Nat × Nat)}
    (hown : s.vm.findClass own = some m.cls) (hlink : (Cond.methodLink own index y).before args s = true) (hstat : (Cond.static y).before args s = true) (hinit : (Cond.initialized y.cls).before args s = true)
    (hcode : (Cond.codeWith y bytes maxL ret hh).before args s = true) (hy : y.cls ≠ "java/lang/invoke/MethodHandle" ∧ y.cls ≠ "java/lang/invoke/VarHandle")
    {W9 : Nat} {Pre : Pt → Array Value → Prop} {Post : Pt → Array Value → Option Value → Pt → Prop} (hK : Back l R p e below s args y 3 W9 Pre Post)
    {g : JFrame} (hg : g.method = m) (hsize : g.locals.size = c.maxLocals) {argsL rest : List Value} (hlen : ∀ sig, parseMethodDescriptor y.desc = some sig → argsL.length = sig.parameters.length)
    (hstack : g.stack = argsL.reverse ++ rest) (hW : 2 * g.monitorRoom + (rest.map fun v => v.category).sum ≤ W9) (hdg : decode c.code g.pc = .ok (.invokestatic index, 3))
    (hpre : ∀ vm₁, s.WarmedH vm₁ → Pre ⟨T.setVm vm₁, locs, cells, slots⟩ argsL.toArray) :
    ∃ (v : Option Value) (vm₁ : Vm) (B : Pt), s.WarmedH vm₁ ∧ Stand p l e R s m args below meth c B.U B.locs B.cells B.slots ∧ Post ⟨T.setVm vm₁, locs, cells, slots⟩ argsL.toArray v B ∧
      ∀ target, Steps p.tables e below (B.U.setTop { g with pc := g.pc + 3, stack := v.toList ++ rest }) target → Steps p.tables e below (T.setTop g) target := by
  obtain ⟨mk, methM, cM, hnamed, hmethM, -, -, -, -, -, -, hsigM⟩ := Cond.codeWith_spec hcode
  have hstatic : methM.isStatic = true := Cond.static_spec hnamed hmethM hstat
  obtain ⟨kP, hkP, -⟩ := className_of_methodNamed hnamed
  have hinitP : kP.init = .initialized := Cond.initialized_spec (findClass_of_methodNamed hnamed) hkP hinit
  obtain ⟨vm₁, X₁, hstep₁⟩ := X.invokestatic hexec hown hlink hnamed hmethM hstatic hkP hinitP hy (g := g) hg (argsL := argsL) (rest := rest) (hlen _ hsigM) hstack hdg
  obtain ⟨v, B, X', hpost, hsteps⟩ := hK m meth c ⟨T.setVm vm₁, locs, cells, slots⟩ { g with stack := rest } (.invokestatic index) mk argsL.toArray X₁ hg hsize hdg hW (X₁.named hnamed) (hpre vm₁ X₁.warmed)
  exact ⟨v, vm₁, B, X₁.warmed, X', hpost, fun target h => hstep₁ _ fun acts => by rw [doInvoke_state]; exact hsteps.trans h⟩
theorem vx_runSW {y : MethodName} {bytes cc : ByteArray} {maxL nL mc ms n index : Nat} {ret : Option FieldType} {hh : List (Nat × Nat × Nat × Nat)} {ws : List Cond} {rm : Room} {Pc : Array Value → State → Prop} {Qc : Array Value → State → Outcome → State → Prop} {free : Addr → Prop} {Ts : List Cond} {own : String} {As rest : List Value} {g : JFrame}
    (S : CallFix p m c cc nL s args Ts own) (hM : Met l y ws rm Pc Qc mc ms free) (cw : vx_CSW R s args own index y bytes maxL ret hh ws rm mc ms n) (hp : PreS s H Pc As)
    (hg : g.method = m) (hn : As.length = n) (hsize : g.locals.size = nL) (hstack : g.stack = As.reverse ++ rest) (hW : 2 * g.monitorRoom + (rest.map fun v => v.category).sum ≤ 8) (hdg : decode cc g.pc = .ok (.invokestatic index, 3)) (hf : cells + mc ≤ R.cells ∧ slots + ms ≤ R.slots) :
    va_Run p l e R s m args below meth c H locs cells slots mc ms g rest (Qc As.toArray) (free) := by
  obtain ⟨⟨hrc, hrs, hfr, hlo, hws, hcw⟩, hcode, hini, hy, hlen, hl, hstt⟩ := cw
  have hK : Back l R p e below s args y 3 8 (PreOf R mc ms Pc) (PostOf Qc mc ms free) := va_backW (hh := hh) (bytes := bytes) (maxL := maxL) (ret := ret) hM hp.1 hrc hrs hfr hlo hws hcw (fun a' U hW => word_at hW (Or.inl (by first | rfl | simp [Cond.onTables, Cond.keeps, Cond.steady])) hini)
  obtain ⟨hx, hb, hml, ho, -⟩ := S
  intro T hT X
  obtain ⟨v, vm₁, ⟨U', l2, c2, s2⟩, hW₁, X', ⟨g', mk, t, L, e1, e2, hq, h1, hL, h2, h3⟩, st⟩ := vx_callSW X hx (hh := hh) (bytes := bytes) (maxL := maxL) (ret := ret) ho hl hstt hini hcode hy hK hg (hsize.trans hml.symm) (argsL := As) (rest := rest) (fun sig h => hn.trans (hlen sig h)) hstack hW (by rw [hb]; exact hdg)
    (fun vm₁ hW₁ => ⟨hf.1, hf.2, hp.2 (T.setVm vm₁) hT hW₁⟩)
  dsimp only [Pt.U, Pt.locs, Pt.cells, Pt.slots] at X' e1 e2 h1 h2 h3 st
  subst h1; subst h2; subst h3
  exact ⟨v, (T.setVm vm₁).calling g' mk As.toArray, t, U', L, hT, X', hL, e1, e2, hq, st⟩
/-- not caught here, past rows that name other classes: it goes on to the caller -/
theorem vx_outP {p : Program} {l : Launch} {e : Env} {R : Room} {s : State} {m : MethodId} {args : Array Value} {below : List Frame} {meth : Method} {c : Code} {H : Heap} {locs : List Loc} {cells slots : Nat} {free : Addr → Prop} {ls : Array Slot} {rest : List Value} {Qc : Array Value → State → Outcome → State → Prop} {XC : String → State → State → Prop}
    {pc : Nat} {own E : String} {ce : Cell} {q : Addr} {mc ms : Nat} (hown : s.vm.findClass own = some m.cls) (hlocks : meth.locks = false)
    (hpass : ∀ z ∈ c.exceptionTable.toList, covers z pc = false ∨ (z.catchType ≠ 0 ∧ ∃ nm : String, (Cond.classLink own z.catchType nm).before args s = true ∧ va_Nc E nm s)) (hcell : H[q]? = some ce) (hv : ce.vm = .none) (hcl : s.vm.findClass E = some ce.cls)
    (hx : ∀ t : State, t.heap = H → s.vm.Alike t.vm → XC E s t) (hf : ∀ z ∈ locs, free z.base) (hc : cells ≤ mc) (hs : slots ≤ ms) :
    vx_W p l e R s m args below meth c H locs cells slots (vx_MQ below Qc XC args s mc ms free) (F0 m pc ls rest) q := by
  intro T hT X
  have hpl : e.platform.magicAccessors = ({} : Platform).magicAccessors := by rw [X.admits.platform]
  obtain ⟨vm', hW', X', st⟩ := X.outThrough hlocks q (g := F0 m pc ls rest) rfl rfl rfl (cell := ce) (by rw [hT]; exact hcell) (by rw [hv]; rfl)
    (by obtain ⟨k9, h9, -⟩ := Vm.findClass_spec hcl; exact ⟨k9, h9⟩) (fun z hz => by
      rcases hpass z hz with h | ⟨hz0, nm, hl1, hn1⟩
      · exact Or.inl h
      · obtain ⟨c6, hc6, hcl6⟩ := Cond.classLink_spec hown hl1 e.platform hpl
        obtain ⟨a8, b8, h1, h2, h3⟩ := hn1
        cases Option.some.inj (h1.symm.trans hcl)
        cases Option.some.inj (h2.symm.trans hc6)
        exact Or.inr ⟨hz0, _, hcl6, h3⟩)
  obtain ⟨g₀, hfr⟩ := X'.frames_eq
  have hcell9 : ((T.setVm vm').setFrames (.throwing q :: below)).heap[q]? = some ce := by
    show T.heap[q]? = some ce
    rw [hT]; exact hcell
  have hend : Ended ((T.setVm vm').setFrames (.throwing q :: below)) below (.threw q) := State.frames_setFrames _ (State.cur_lt_of_frames hfr)
  refine ⟨(T.setVm vm').setFrames (.throwing q :: below), ?_, .threw q, X'.here.running, hend, Or.inr ⟨q, rfl, E, ce, locs, hx _ hT (X'.ends _).1.alike, hcell9, hv, hcl, (X'.ends _).1, (X'.ends _).2.mono hc hs, hf⟩⟩
  rw [X.pushThrowing_eq]
  exact st
/-- a thing of a world lies in the heap -/
theorem vx_lt {D : va_G} {cl : List vw_C} {ws : va_W} {H1 : Heap} (h : va_P D cl ws H1) {k : Nat} {q : Nat × va_E} (hk : ws[k]? = some q) : q.1 < H1.size := (h k q hk).lt
end VXS
/-! ===== END ===== -/
/-! ===== BEGIN methods with a table of their own: called by a name, returning or throwing ===== -/
section VXH
/-! vx_backW, vx_callVX, vx_callSX, vx_callVW, vx_runVW, vx_runVX, vx_runSX, vx_ofWH follow the same proofs as their sisters above (Free/Laws.lean, Shelf42/LK1.lean); vx_outP calls Shelf42/NT130.lean (outThrough). -/
section
variable {l : Launch} {R : Room} {p : Program} {e : Env} {below : List Frame} {s : State} {sargs : Array Value} {y : MethodName} {len W9 : Nat}
theorem vx_backW {ws : List Cond} {rm : Room} {Pc : Array Value → State → Prop} {Qc : Array Value → State → Outcome → State → Prop} {XC : String → State → State → Prop} {mc ms : Nat} {free : Addr → Prop} {bytes : ByteArray} {maxL : Nat} {ret : Option FieldType} {hh : List (Nat × Nat × Nat × Nat)}
    (hM : vx_Met l y ws rm Pc Qc XC mc ms free) (hblind : FrameBlind Pc) (hrc : rm.cells = mc) (hrs : rm.slots = ms)
    (hframes : rm.frames + 1 ≤ R.frames) (hlocals : W9 + (maxL + 11) + rm.locals ≤ R.locals)
    (hws : ∀ w ∈ ws, ∀ a' U, s.WarmedH U.vm → w.before a' U = true) (hcode : Cond.codeWith y bytes maxL ret hh ∈ ws) (hinit : ∀ a' U, s.WarmedH U.vm → (Cond.initialized y.cls).before a' U = true) :
    vx_Back l R p e below s sargs y len W9 (PreOf R mc ms Pc) (PostOf Qc mc ms free) (vx_Post XC mc ms free) := by
  intro m meth c A g ig mk a X hg hsize hdg hW hn hp
  have h1 : (headSpec ws rm).pre.before a A.U = true := atoms_intro fun w hw => hws w hw _ _ X.warmed
  have h2 : (Cond.codeWith y bytes maxL ret hh).before a A.U = true := hws _ hcode _ _ X.warmed
  have h3 : (Cond.initialized y.cls).before a A.U = true := hinit _ _ X.warmed
  have h4 : A.cells + (headSpec ws rm).room.cells ≤ R.cells := by rw [show (headSpec ws rm).room.cells = mc from hrc]; exact hp.1
  have h5 : A.slots + (headSpec ws rm).room.slots ≤ R.slots := by rw [show (headSpec ws rm).room.slots = ms from hrs]; exact hp.2.1
  have hPc : Pc a (A.U.calling g mk a) := hblind _ _ _ _ hp.2.2
  obtain ⟨U, Ls, c0, s0⟩ := A
  dsimp only [Pt.U, Pt.locs, Pt.cells, Pt.slots] at h1 h2 h3 h4 h5 X hn hPc ⊢
  obtain ⟨m9, methY, cY, hn9, hmY, hcY, -, hlY, -⟩ := Cond.codeWith_spec h2
  cases Option.some.inj (hn9.symm.trans hn)
  obtain ⟨kY, hkY, -⟩ := className_of_methodNamed hn
  have hinitY : kY.init = .initialized := Cond.initialized_spec (findClass_of_methodNamed hn) hkY h3
  have h : At U g.method c below := by rw [hg]; exact X.here
  have hlocals9 : W9 + (maxL + 11) + (headSpec ws rm).room.locals ≤ R.locals := hlocals
  have happ : (headSpec ws rm).appliesLoose y e.platform (U.calling g mk a) = true :=
    Spec.appliesLoose_calling (g := g) h hdg hn hkY hinitY
      (X.room_calling (g := g) (R' := (headSpec ws rm).room) hsize hmY hcY hframes (by rw [hlY]; omega) h4 h5) h1
  obtain ⟨mid, hmid⟩ := h.above
  have hfr : (U.setTop g).frames = (.java g :: mid) ++ below := by rw [State.frames_setTop' g h.top, hmid]; rfl
  obtain ⟨o, s₂, hsteps, -, hend, hq⟩ := Steps.callFree hM p X.admits X.cas X.clock (acts := []) hfr happ hPc trivial
  have hq' : vx_Q Qc XC mc ms free a (U.calling g mk a) o s₂ := hq
  rw [State.frames_setTop' g h.top] at hend
  obtain ⟨g₀, hg0⟩ := Option.isSome_iff_exists.mp h.top
  obtain ⟨r, hr⟩ := State.topJava?_eq_some.mp hg0
  have hr' : (({ U with heap := s₂.heap, slotsUsed := s₂.slotsUsed } : State).setVm s₂.vm).frames = .java g₀ :: r := hr
  rcases hq' with ⟨hqc, L, hfe, hL⟩ | ⟨q, rfl, E, ce, L, hx, hce, hcv, hcl, hW₂, hsm, hL⟩
  · obtain ⟨⟨v, rfl⟩, hW₂, e2, q2, q3, q4, q5, q6⟩ := id hfe
    have e3 : s₂ = ({ (U.calling g mk a).setFrames s₂.frames with heap := s₂.heap, slotsUsed := s₂.slotsUsed } : State).setVm s₂.vm := by
      have : s₂ = ({ s₂ with vm := (U.calling g mk a).vm } : State).setVm s₂.vm := rfl
      rw [e2] at this
      exact this
    obtain ⟨c₂, i₂, len₂, hc₂, hd₂, hf₂⟩ := hend
    have hW' : U.WarmedH s₂.vm := hW₂
    have hcc : c₂ = c := by
      have h1 : s₂.code? g.method = U.code? g.method := by
        rw [State.code?_eq, State.code?_eq, hW'.alike.method?]
      exact Option.some.inj (hc₂.symm.trans (h1.trans h.code))
    subst hcc
    have hlen : len₂ = len := by rw [hdg] at hd₂; cases hd₂; rfl
    subst hlen
    have hs₂ : s₂ = (({ U with heap := s₂.heap, slotsUsed := s₂.slotsUsed } : State).setVm s₂.vm).setTop { g with pc := g.pc + len₂, stack := v.toList ++ g.stack } := by
      refine e3.trans ?_
      rw [hf₂, State.calling_eq h.top, State.setFrames_setFrames, State.setTop_of_frames _ hr', hr]
      rfl
    have hsame : U.sameButNew ({ U with heap := s₂.heap, slotsUsed := s₂.slotsUsed } : State) L mc ms := by
      refine ⟨?_, q2, q3, q4, q5, q6⟩
      obtain ⟨t, ht, -⟩ := State.frames_cons hr
      show ({ U with heap := s₂.heap, slotsUsed := s₂.slotsUsed } : State) = { U.setFrames U.frames with heap := s₂.heap, slotsUsed := s₂.slotsUsed }
      rw [State.setFrames_self ht]
    subst hg
    refine Or.inl ⟨v, ⟨(({ U with heap := s₂.heap, slotsUsed := s₂.slotsUsed } : State).setVm s₂.vm), Ls ++ L, c0 + mc, s0 + ms⟩,
      ⟨X.admits, X.cas, X.clock, X.frames, X.room, X.hears, X.method, X.code, (X.here.setHeapUsed s₂.heap s₂.slotsUsed).setVm hW'.alike, X.tail, State.WarmedH.trans X.warmed hW', X.limits, X.bytes, X.same.trans (hsame.setVm s.vm)⟩,
      ⟨g, mk, s₂, L, rfl, rfl, hqc, rfl, hL, rfl, rfl⟩, ?_⟩
    show Steps p.tables e below _ ((({ U with heap := s₂.heap, slotsUsed := s₂.slotsUsed } : State).setVm s₂.vm).setTop { g with pc := g.pc + len₂, stack := v.toList ++ g.stack })
    rw [← hs₂]
    exact hsteps
  · obtain ⟨e2, q2, q3, q4, q5, q6⟩ := id hsm
    have e3 : s₂ = ({ (U.calling g mk a).setFrames s₂.frames with heap := s₂.heap, slotsUsed := s₂.slotsUsed } : State).setVm s₂.vm := by
      have : s₂ = ({ s₂ with vm := (U.calling g mk a).vm } : State).setVm s₂.vm := rfl
      rw [e2] at this
      exact this
    have hf₂ : s₂.frames = .throwing q :: .java g :: U.frames.tail := hend
    have hW' : U.WarmedH s₂.vm := hW₂
    have hs₂ : s₂ = ((({ U with heap := s₂.heap, slotsUsed := s₂.slotsUsed } : State).setVm s₂.vm).setTop g).pushFrame (.throwing q) := by
      refine e3.trans ?_
      rw [hf₂, State.calling_eq h.top, State.setFrames_setFrames, State.pushFrame, State.frames_setTop _ hr', State.setTop_of_frames _ hr', State.setFrames_setFrames, hr]
      rfl
    have hsame : U.sameButNew ({ U with heap := s₂.heap, slotsUsed := s₂.slotsUsed } : State) L mc ms := by
      refine ⟨?_, q2, q3, q4, q5, q6⟩
      obtain ⟨t, ht, -⟩ := State.frames_cons hr
      show ({ U with heap := s₂.heap, slotsUsed := s₂.slotsUsed } : State) = { U.setFrames U.frames with heap := s₂.heap, slotsUsed := s₂.slotsUsed }
      rw [State.setFrames_self ht]
    subst hg
    refine Or.inr ⟨q, ⟨(({ U with heap := s₂.heap, slotsUsed := s₂.slotsUsed } : State).setVm s₂.vm), Ls ++ L, c0 + mc, s0 + ms⟩,
      ⟨X.admits, X.cas, X.clock, X.frames, X.room, X.hears, X.method, X.code, (X.here.setHeapUsed s₂.heap s₂.slotsUsed).setVm hW'.alike, X.tail, State.WarmedH.trans X.warmed hW', X.limits, X.bytes, X.same.trans (hsame.setVm s.vm)⟩,
      ⟨g, mk, s₂, L, E, ce, rfl, rfl, hx, hce, hcv, hcl, rfl, hL, rfl, rfl⟩, ?_⟩
    show Steps p.tables e below _ (((({ U with heap := s₂.heap, slotsUsed := s₂.slotsUsed } : State).setVm s₂.vm).setTop g).pushFrame (.throwing q))
    rw [← hs₂]
    exact hsteps
end
variable {p : Program} {l : Launch} {e : Env} {R : Room} {s : State} {m : MethodId} {args : Array Value} {below : List Frame} {meth : Method} {c : Code} {T : State} {H : Heap} {locs : List Loc} {cells slots : Nat}
theorem vx_callVX (X : Stand p l e R s m args below meth c T locs cells slots) (hexec : p.tables.exec = Jvm.exec) {own C : String} {index : Nat} {y : MethodName} {bytes : ByteArray} {maxL : Nat} {ret : Option FieldType} {hh : List (Nat × Nat × Nat × Nat)}
    (hown : s.vm.findClass own = some m.cls) (hlink : (Cond.methodLink own index y).before args s = true) (hinst : (Cond.instanceMethod y).before args s = true) (hsel : (Cond.selects C y y).before args s = true)
    (hcode : (Cond.codeWith y bytes maxL ret hh).before args s = true) (hy : y.cls ≠ "java/lang/invoke/MethodHandle" ∧ y.cls ≠ "java/lang/invoke/VarHandle")
    {W9 : Nat} {Pre : Pt → Array Value → Prop} {Post : Pt → Array Value → Option Value → Pt → Prop} {PostX : Pt → Array Value → Addr → Pt → Prop} (hK : vx_Back l R p e below s args y 3 W9 Pre Post PostX)
    {b : Addr} {cellB : Cell} (hcell : T.heap[b]? = some cellB) (hobj : cellB.vm.isStatics = false) (hcls : s.vm.findClass C = some cellB.cls)
    {g : JFrame} (hg : g.method = m) (hsize : g.locals.size = c.maxLocals) {argsL rest : List Value} (hlen : ∀ sig, parseMethodDescriptor y.desc = some sig → argsL.length = sig.parameters.length)
    (hstack : g.stack = argsL.reverse ++ .ref b :: rest) (hW : 2 * g.monitorRoom + (rest.map fun v => v.category).sum ≤ W9) (hdg : decode c.code g.pc = .ok (.invokevirtual index, 3))
    (hpre : ∀ vm₁, s.WarmedH vm₁ → Pre ⟨T.setVm vm₁, locs, cells, slots⟩ (Value.ref b :: argsL).toArray) :
    (∃ (v : Option Value) (vm₁ : Vm) (B : Pt), s.WarmedH vm₁ ∧ Stand p l e R s m args below meth c B.U B.locs B.cells B.slots ∧ Post ⟨T.setVm vm₁, locs, cells, slots⟩ (Value.ref b :: argsL).toArray v B ∧
      ∀ target, Steps p.tables e below (B.U.setTop { g with pc := g.pc + 3, stack := v.toList ++ rest }) target → Steps p.tables e below (T.setTop g) target) ∨
    (∃ (q : Addr) (vm₁ : Vm) (B : Pt), s.WarmedH vm₁ ∧ Stand p l e R s m args below meth c B.U B.locs B.cells B.slots ∧ PostX ⟨T.setVm vm₁, locs, cells, slots⟩ (Value.ref b :: argsL).toArray q B ∧
      Steps p.tables e below (T.setTop g) ((B.U.setTop { g with stack := rest }).pushFrame (.throwing q))) := by
  obtain ⟨mk, methM, hnamed, hmethM, hstM, habM⟩ := Cond.instanceMethod_spec hinst
  obtain ⟨m8, methM', cM, hn8, hmethM', -, -, -, -, -, -, hsigM⟩ := Cond.codeWith_spec hcode
  cases Option.some.inj (hn8.symm.trans hnamed)
  cases hmethM.symm.trans hmethM'
  obtain ⟨c2, r2, m2, q1, q2, q3, q4, kP, hkP, hkPi⟩ := Cond.selects_spec hsel
  cases hcls.symm.trans q1
  cases (State.methodFound?_of_named hnamed hy).symm.trans q2
  cases hnamed.symm.trans q3
  have hselP : selectMethod e.platform s.vm cellB.cls mk = .method mk := by rw [Launch.admits_selectMethod X.admits]; exact q4
  obtain ⟨vm₁, X₁, hstep₁⟩ := X.invokevirtual hexec hown hlink hnamed hmethM hstM hkP hkPi hy (a := b) (cell := cellB) hcell
    (fun z h => by rw [h] at hobj; cases hobj) hselP hmethM habM hkP hkPi (g := g) hg (argsL := argsL) (rest := rest) (hlen _ hsigM) hstack hdg
  rcases hK m meth c ⟨T.setVm vm₁, locs, cells, slots⟩ { g with stack := rest } (.invokevirtual index) mk (Value.ref b :: argsL).toArray X₁ hg hsize hdg hW (X₁.named hnamed) (hpre vm₁ X₁.warmed) with ⟨v, B, X', hpost, hsteps⟩ | ⟨q, B, X', hpost, hsteps⟩
  · exact Or.inl ⟨v, vm₁, B, X₁.warmed, X', hpost, fun target h => hstep₁ _ fun acts => by rw [doInvoke_state]; exact hsteps.trans h⟩
  · exact Or.inr ⟨q, vm₁, B, X₁.warmed, X', hpost, hstep₁ _ fun acts => by rw [doInvoke_state]; exact hsteps⟩
theorem vx_callSX (X : Stand p l e R s m args below meth c T locs cells slots) (hexec : p.tables.exec = Jvm.exec) {own : String} {index : Nat} {y : MethodName} {bytes : ByteArray} {maxL : Nat} {ret : Option FieldType} {hh : List (Nat × Nat × Nat × Nat)}
    (hown : s.vm.findClass own = some m.cls) (hlink : (Cond.methodLink own index y).before args s = true) (hstat : (Cond.static y).before args s = true) (hinit : (Cond.initialized y.cls).before args s = true)
    (hcode : (Cond.codeWith y bytes maxL ret hh).before args s = true) (hy : y.cls ≠ "java/lang/invoke/MethodHandle" ∧ y.cls ≠ "java/lang/invoke/VarHandle")
    {W9 : Nat} {Pre : Pt → Array Value → Prop} {Post : Pt → Array Value → Option Value → Pt → Prop} {PostX : Pt → Array Value → Addr → Pt → Prop} (hK : vx_Back l R p e below s args y 3 W9 Pre Post PostX)
    {g : JFrame} (hg : g.method = m) (hsize : g.locals.size = c.maxLocals) {argsL rest : List Value} (hlen : ∀ sig, parseMethodDescriptor y.desc = some sig → argsL.length = sig.parameters.length)
    (hstack : g.stack = argsL.reverse ++ rest) (hW : 2 * g.monitorRoom + (rest.map fun v => v.category).sum ≤ W9) (hdg : decode c.code g.pc = .ok (.invokestatic index, 3))
    (hpre : ∀ vm₁, s.WarmedH vm₁ → Pre ⟨T.setVm vm₁, locs, cells, slots⟩ argsL.toArray) :
    (∃ (v : Option Value) (vm₁ : Vm) (B : Pt), s.WarmedH vm₁ ∧ Stand p l e R s m args below meth c B.U B.locs B.cells B.slots ∧ Post ⟨T.setVm vm₁, locs, cells, slots⟩ argsL.toArray v B ∧
      ∀ target, Steps p.tables e below (B.U.setTop { g with pc := g.pc + 3, stack := v.toList ++ rest }) target → Steps p.tables e below (T.setTop g) target) ∨
    (∃ (q : Addr) (vm₁ : Vm) (B : Pt), s.WarmedH vm₁ ∧ Stand p l e R s m args below meth c B.U B.locs B.cells B.slots ∧ PostX ⟨T.setVm vm₁, locs, cells, slots⟩ argsL.toArray q B ∧
      Steps p.tables e below (T.setTop g) ((B.U.setTop { g with stack := rest }).pushFrame (.throwing q))) := by
  obtain ⟨mk, methM, cM, hnamed, hmethM, -, -, -, -, -, -, hsigM⟩ := Cond.codeWith_spec hcode
  have hstatic : methM.isStatic = true := Cond.static_spec hnamed hmethM hstat
  obtain ⟨kP, hkP, -⟩ := className_of_methodNamed hnamed
  have hinitP : kP.init = .initialized := Cond.initialized_spec (findClass_of_methodNamed hnamed) hkP hinit
  obtain ⟨vm₁, X₁, hstep₁⟩ := X.invokestatic hexec hown hlink hnamed hmethM hstatic hkP hinitP hy (g := g) hg (argsL := argsL) (rest := rest) (hlen _ hsigM) hstack hdg
  rcases hK m meth c ⟨T.setVm vm₁, locs, cells, slots⟩ { g with stack := rest } (.invokestatic index) mk argsL.toArray X₁ hg hsize hdg hW (X₁.named hnamed) (hpre vm₁ X₁.warmed) with ⟨v, B, X', hpost, hsteps⟩ | ⟨q, B, X', hpost, hsteps⟩
  · exact Or.inl ⟨v, vm₁, B, X₁.warmed, X', hpost, fun target h => hstep₁ _ fun acts => by rw [doInvoke_state]; exact hsteps.trans h⟩
  · exact Or.inr ⟨q, vm₁, B, X₁.warmed, X', hpost, hstep₁ _ fun acts => by rw [doInvoke_state]; exact hsteps⟩
theorem vx_callVW (X : Stand p l e R s m args below meth c T locs cells slots) (hexec : p.tables.exec = Jvm.exec) {own C : String} {index : Nat} {y : MethodName} {bytes : ByteArray} {maxL : Nat} {ret : Option FieldType} {hh : List (Nat × Nat × Nat × Nat)}
    (hown : s.vm.findClass own = some m.cls) (hlink : (Cond.methodLink own index y).before args s = true) (hinst : (Cond.instanceMethod y).before args s = true) (hsel : (Cond.selects C y y).before args s = true)
    (hcode : (Cond.codeWith y bytes maxL ret hh).before args s = true) (hy : y.cls ≠ "java/lang/invoke/MethodHandle" ∧ y.cls ≠ "java/lang/invoke/VarHandle")
    {W9 : Nat} {Pre : Pt → Array Value → Prop} {Post : Pt → Array Value → Option Value → Pt → Prop} (hK : Back l R p e below s args y 3 W9 Pre Post)
    {b : Addr} {cellB : Cell} (hcell : T.heap[b]? = some cellB) (hobj : cellB.vm.isStatics = false) (hcls : s.vm.findClass C = some cellB.cls)
    {g : JFrame} (hg : g.method = m) (hsize : g.locals.size = c.maxLocals) {argsL rest : List Value} (hlen : ∀ sig, parseMethodDescriptor y.desc = some sig → argsL.length = sig.parameters.length)
    (hstack : g.stack = argsL.reverse ++ .ref b :: rest) (hW : 2 * g.monitorRoom + (rest.map fun v => v.category).sum ≤ W9) (hdg : decode c.code g.pc = .ok (.invokevirtual index, 3))
    (hpre : ∀ vm₁, s.WarmedH vm₁ → Pre ⟨T.setVm vm₁, locs, cells, slots⟩ (Value.ref b :: argsL).toArray) :
    ∃ (v : Option Value) (vm₁ : Vm) (B : Pt), s.WarmedH vm₁ ∧ Stand p l e R s m args below meth c B.U B.locs B.cells B.slots ∧ Post ⟨T.setVm vm₁, locs, cells, slots⟩ (Value.ref b :: argsL).toArray v B ∧
      ∀ target, Steps p.tables e below (B.U.setTop { g with pc := g.pc + 3, stack := v.toList ++ rest }) target → Steps p.tables e below (T.setTop g) target := by
  obtain ⟨mk, methM, hnamed, hmethM, hstM, habM⟩ := Cond.instanceMethod_spec hinst
  obtain ⟨m8, methM', cM, hn8, hmethM', -, -, -, -, -, -, hsigM⟩ := Cond.codeWith_spec hcode
  cases Option.some.inj (hn8.symm.trans hnamed)
  cases hmethM.symm.trans hmethM'
  obtain ⟨c2, r2, m2, q1, q2, q3, q4, kP, hkP, hkPi⟩ := Cond.selects_spec hsel
  cases hcls.symm.trans q1
  cases (State.methodFound?_of_named hnamed hy).symm.trans q2
  cases hnamed.symm.trans q3
  have hselP : selectMethod e.platform s.vm cellB.cls mk = .method mk := by rw [Launch.admits_selectMethod X.admits]; exact q4
  obtain ⟨vm₁, X₁, hstep₁⟩ := X.invokevirtual hexec hown hlink hnamed hmethM hstM hkP hkPi hy (a := b) (cell := cellB) hcell
    (fun z h => by rw [h] at hobj; cases hobj) hselP hmethM habM hkP hkPi (g := g) hg (argsL := argsL) (rest := rest) (hlen _ hsigM) hstack hdg
  obtain ⟨v, B, X', hpost, hsteps⟩ := hK m meth c ⟨T.setVm vm₁, locs, cells, slots⟩ { g with stack := rest } (.invokevirtual index) mk (Value.ref b :: argsL).toArray X₁ hg hsize hdg hW (X₁.named hnamed) (hpre vm₁ X₁.warmed)
  exact ⟨v, vm₁, B, X₁.warmed, X', hpost, fun target h => hstep₁ _ fun acts => by rw [doInvoke_state]; exact hsteps.trans h⟩
abbrev vx_CVW (R : Room) (s : State) (args : Array Value) (own C : String) (index : Nat) (y : MethodName) (bytes : ByteArray) (maxL : Nat) (ret : Option FieldType) (hh : List (Nat × Nat × Nat × Nat)) (ws : List Cond) (rm : Room) (mc ms n : Nat) : Prop :=
  (rm.cells = mc ∧ rm.slots = ms ∧ rm.frames + 1 ≤ R.frames ∧ 8 + (maxL + 11) + rm.locals ≤ R.locals ∧ (∀ w ∈ ws, ∀ (a' : Array Value) (U : State), s.WarmedH U.vm → w.before a' U = true) ∧ Cond.codeWith y bytes maxL ret hh ∈ ws) ∧
  (Cond.codeWith y bytes maxL ret hh).before args s = true ∧ (Cond.initialized y.cls).before args s = true ∧ (y.cls ≠ "java/lang/invoke/MethodHandle" ∧ y.cls ≠ "java/lang/invoke/VarHandle") ∧
  (∀ sig, parseMethodDescriptor y.desc = some sig → n = sig.parameters.length) ∧ (Cond.methodLink own index y).before args s = true ∧ (Cond.instanceMethod y).before args s = true ∧ (Cond.selects C y y).before args s = true
theorem vx_cwVW {own C : String} {index maxL mc ms : Nat} {y : MethodName} {bytes : ByteArray} {ret : Option FieldType} {hh : List (Nat × Nat × Nat × Nat)} {Ts ws ws' : List Cond} {rm : Room} (n : Nat) (ht : ∀ w ∈ Ts, w.before args s = true) (hT : GoodIn Ts (wsV own index C y ws)) (hw : ws = Cond.codeWith y bytes maxL ret hh :: ws') (hrc : rm.cells = mc) (hrs : rm.slots = ms)
    (hd : y.cls = C ∧ y.cls ≠ "java/lang/invoke/MethodHandle" ∧ y.cls ≠ "java/lang/invoke/VarHandle" ∧ (parseMethodDescriptor y.desc).map (fun d => d.parameters.length) = some n) (hR : rm.frames + 1 ≤ R.frames ∧ 8 + (maxL + 11) + rm.locals ≤ R.locals) :
    vx_CVW R s args own C index y bytes maxL ret hh ws rm mc ms n := by
  obtain ⟨hC, hd⟩ := hd
  subst hC
  have ok : ∀ w ∈ wsV own index y.cls y ws, w.before args s = true := fun w h => ht w (hT w h).1
  have hG : GoodIn Ts ws := fun w h => hT w (by unfold wsV; exact List.mem_append_right _ h)
  have hc : Cond.codeWith y bytes maxL ret hh ∈ ws := by rw [hw]; exact List.mem_cons_self
  refine ⟨⟨hrc, hrs, hR.1, hR.2, pay_in ht hG, hc⟩, ht _ (hG _ hc).1, ok _ (by simp [wsV]), ⟨hd.1, hd.2.1⟩, fun sig h => ?_, ok _ (by simp [wsV]), ok _ (by simp [wsV]), ok _ (by simp [wsV])⟩
  have h2 := hd.2.2
  rw [h] at h2
  exact (Option.some.inj h2).symm
theorem vx_runVW {y : MethodName} {bytes cc : ByteArray} {maxL nL mc ms n index : Nat} {ret : Option FieldType} {hh : List (Nat × Nat × Nat × Nat)} {ws : List Cond} {rm : Room} {Pc : Array Value → State → Prop} {Qc : Array Value → State → Outcome → State → Prop} {free : Addr → Prop} {Ts : List Cond} {own C : String} {b : Addr} {As rest : List Value} {g : JFrame}
    (S : CallFix p m c cc nL s args Ts own) (hM : Met l y ws rm Pc Qc mc ms free) (cw : vx_CVW R s args own C index y bytes maxL ret hh ws rm mc ms n) (hp : PreV s H C b Pc As)
    (hg : g.method = m) (hn : As.length = n) (hsize : g.locals.size = nL) (hstack : g.stack = As.reverse ++ .ref b :: rest) (hW : 2 * g.monitorRoom + (rest.map fun v => v.category).sum ≤ 8) (hdg : decode cc g.pc = .ok (.invokevirtual index, 3)) (hf : cells + mc ≤ R.cells ∧ slots + ms ≤ R.slots) :
    va_Run p l e R s m args below meth c H locs cells slots mc ms g rest (Qc (Value.ref b :: As).toArray) free := by
  obtain ⟨⟨hrc, hrs, hfr, hlo, hws, hcw⟩, hcode, hini, hy, hlen, hl, hin, hse⟩ := cw
  have hK : Back l R p e below s args y 3 8 (PreOf R mc ms Pc) (PostOf Qc mc ms free) := va_backW (hh := hh) (bytes := bytes) (maxL := maxL) (ret := ret) hM hp.1 hrc hrs hfr hlo hws hcw (fun a' U hW => word_at hW (Or.inl (by first | rfl | simp [Cond.onTables, Cond.keeps, Cond.steady])) hini)
  obtain ⟨hx, hb, hml, ho, -⟩ := S
  obtain ⟨-, ⟨cellB, hcB, hoB, hclB⟩, hPc⟩ := hp
  intro T hT X
  obtain ⟨v, vm₁, ⟨U', l2, c2, s2⟩, hW₁, X', ⟨g', mk, t, L, e1, e2, hq, h1, hL, h2, h3⟩, st⟩ := vx_callVW X hx (C := C) (hh := hh) (bytes := bytes) (maxL := maxL) (ret := ret) ho hl hin hse hcode hy hK (by rw [hT]; exact hcB) hoB hclB hg (hsize.trans hml.symm) (argsL := As) (rest := rest) (fun sig h => hn.trans (hlen sig h)) hstack hW (by rw [hb]; exact hdg)
    (fun vm₁ hW₁ => ⟨hf.1, hf.2, hPc (T.setVm vm₁) hT hW₁⟩)
  dsimp only [Pt.U, Pt.locs, Pt.cells, Pt.slots] at X' e1 e2 h1 h2 h3 st
  subst h1; subst h2; subst h3
  exact ⟨v, (T.setVm vm₁).calling g' mk (Value.ref b :: As).toArray, t, U', L, hT, X', hL, e1, e2, hq, st⟩
section
variable {y : MethodName} {bytes cc : ByteArray} {maxL nL mc ms n index : Nat} {ret : Option FieldType} {ws : List Cond} {rm : Room} {Pc : Array Value → State → Prop} {Qc : Array Value → State → Outcome → State → Prop} {XC : String → State → State → Prop} {free : Addr → Prop} {Ts : List Cond} {own C : String} {b : Addr} {As rest : List Value} {g : JFrame}
theorem vx_runVX {hh : List (Nat × Nat × Nat × Nat)} (S : CallFix p m c cc nL s args Ts own) (hM : vx_Met l y ws rm Pc Qc XC mc ms free) (cw : vx_CVW R s args own C index y bytes maxL ret hh ws rm mc ms n) (hp : PreV s H C b Pc As)
    (hg : g.method = m) (hn : As.length = n) (hsize : g.locals.size = nL) (hstack : g.stack = As.reverse ++ .ref b :: rest) (hW : 2 * g.monitorRoom + (rest.map fun v => v.category).sum ≤ 8) (hdg : decode cc g.pc = .ok (.invokevirtual index, 3)) (hf : cells + mc ≤ R.cells ∧ slots + ms ≤ R.slots) :
    vx_Run p l e R s m args below meth c H locs cells slots mc ms g rest (Qc (Value.ref b :: As).toArray) XC free := by
  obtain ⟨⟨hrc, hrs, hfr, hlo, hws, hcw⟩, hcode, hini, hy, hlen, hl, hin, hse⟩ := cw
  have hK : vx_Back l R p e below s args y 3 8 (PreOf R mc ms Pc) (PostOf Qc mc ms free) (vx_Post XC mc ms free) := vx_backW (hh := hh) (bytes := bytes) (maxL := maxL) (ret := ret) hM hp.1 hrc hrs hfr hlo hws hcw (fun a' U hW => word_at hW (Or.inl (by first | rfl | simp [Cond.onTables, Cond.keeps, Cond.steady])) hini)
  obtain ⟨hx, hb, hml, ho, -⟩ := S
  obtain ⟨-, ⟨cellB, hcB, hoB, hclB⟩, hPc⟩ := hp
  intro T hT X
  rcases vx_callVX X hx (C := C) (hh := hh) (bytes := bytes) (maxL := maxL) (ret := ret) ho hl hin hse hcode hy hK (by rw [hT]; exact hcB) hoB hclB hg (hsize.trans hml.symm) (argsL := As) (rest := rest) (fun sig h => hn.trans (hlen sig h)) hstack hW (by rw [hb]; exact hdg)
    (fun vm₁ hW₁ => ⟨hf.1, hf.2, hPc (T.setVm vm₁) hT hW₁⟩) with ⟨v, vm₁, ⟨U', l2, c2, s2⟩, hW₁, X', ⟨g', mk, t, L, e1, e2, hq, h1, hL, h2, h3⟩, st⟩ | ⟨q, vm₁, ⟨U', l2, c2, s2⟩, hW₁, X', ⟨g', mk, t, L, E, ce, e1, e2, hq, hce, hcv, hcl, h1, hL, h2, h3⟩, st⟩
  · dsimp only [Pt.U, Pt.locs, Pt.cells, Pt.slots] at X' e1 e2 h1 h2 h3 st
    subst h1; subst h2; subst h3
    exact Or.inl ⟨v, (T.setVm vm₁).calling g' mk (Value.ref b :: As).toArray, t, U', L, hT, X', hL, e1, e2, hq, st⟩
  · dsimp only [Pt.U, Pt.locs, Pt.cells, Pt.slots] at X' e1 e2 h1 h2 h3 st hcl
    subst h1; subst h2; subst h3
    exact Or.inr ⟨q, (T.setVm vm₁).calling g' mk (Value.ref b :: As).toArray, t, U', L, E, ce, hT, X', hL, e1, e2, hq, hce, hcv, vx_cls hW₁ hcl, st⟩
theorem vx_runSX {hh : List (Nat × Nat × Nat × Nat)} (S : CallFix p m c cc nL s args Ts own) (hM : vx_Met l y ws rm Pc Qc XC mc ms free) (cw : vx_CSW R s args own index y bytes maxL ret hh ws rm mc ms n) (hp : PreS s H Pc As)
    (hg : g.method = m) (hn : As.length = n) (hsize : g.locals.size = nL) (hstack : g.stack = As.reverse ++ rest) (hW : 2 * g.monitorRoom + (rest.map fun v => v.category).sum ≤ 8) (hdg : decode cc g.pc = .ok (.invokestatic index, 3)) (hf : cells + mc ≤ R.cells ∧ slots + ms ≤ R.slots) :
    vx_Run p l e R s m args below meth c H locs cells slots mc ms g rest (Qc As.toArray) XC free := by
  obtain ⟨⟨hrc, hrs, hfr, hlo, hws, hcw⟩, hcode, hini, hy, hlen, hl, hstt⟩ := cw
  have hK : vx_Back l R p e below s args y 3 8 (PreOf R mc ms Pc) (PostOf Qc mc ms free) (vx_Post XC mc ms free) := vx_backW (hh := hh) (bytes := bytes) (maxL := maxL) (ret := ret) hM hp.1 hrc hrs hfr hlo hws hcw (fun a' U hW => word_at hW (Or.inl (by first | rfl | simp [Cond.onTables, Cond.keeps, Cond.steady])) hini)
  obtain ⟨hx, hb, hml, ho, -⟩ := S
  intro T hT X
  rcases vx_callSX X hx (hh := hh) (bytes := bytes) (maxL := maxL) (ret := ret) ho hl hstt hini hcode hy hK hg (hsize.trans hml.symm) (argsL := As) (rest := rest) (fun sig h => hn.trans (hlen sig h)) hstack hW (by rw [hb]; exact hdg)
    (fun vm₁ hW₁ => ⟨hf.1, hf.2, hp.2 (T.setVm vm₁) hT hW₁⟩) with ⟨v, vm₁, ⟨U', l2, c2, s2⟩, hW₁, X', ⟨g', mk, t, L, e1, e2, hq, h1, hL, h2, h3⟩, st⟩ | ⟨q, vm₁, ⟨U', l2, c2, s2⟩, hW₁, X', ⟨g', mk, t, L, E, ce, e1, e2, hq, hce, hcv, hcl, h1, hL, h2, h3⟩, st⟩
  · dsimp only [Pt.U, Pt.locs, Pt.cells, Pt.slots] at X' e1 e2 h1 h2 h3 st
    subst h1; subst h2; subst h3
    exact Or.inl ⟨v, (T.setVm vm₁).calling g' mk As.toArray, t, U', L, hT, X', hL, e1, e2, hq, st⟩
  · dsimp only [Pt.U, Pt.locs, Pt.cells, Pt.slots] at X' e1 e2 h1 h2 h3 st hcl
    subst h1; subst h2; subst h3
    exact Or.inr ⟨q, (T.setVm vm₁).calling g' mk As.toArray, t, U', L, E, ce, hT, X', hL, e1, e2, hq, hce, hcv, vx_cls hW₁ hcl, st⟩
end
end VXH
theorem vx_ofWH {l : Launch} {y : MethodName} {ws ws' : List Cond} {rm : Room} {Pc : Array Value → State → Prop} {Qc : Array Value → State → Outcome → State → Prop} {XC : String → State → State → Prop} {mc ms : Nat} {free : Addr → Prop} {cc : ByteArray} {maxL : Nat} {ret : Option FieldType} {hh : List (Nat × Nat × Nat × Nat)}
    (hy : plainName y.cls = true) (hw : ws = Cond.codeWith y cc maxL ret hh :: ws')
    (body : ∀ p e s m args below meth c s₁, BodyLoose p l y (headSpec ws rm) cc maxL ret e s m args below meth c s₁ → c.maxLocals = maxL → Pc args s →
      W p l e (headSpec ws rm).room s m args below meth c s.heap [] 0 0 (vx_MQ below Qc XC args s mc ms free) (entryFrame m args maxL)) : vx_Met l y ws rm Pc Qc XC mc ms free := by
  refine MetFree.of_bodyS (code := cc) (maxLocals := maxL) (ret := ret) hy ?_ ?_
  · intro args s m h hn
    obtain ⟨m9, meth, c, hn9, h1, h2, h3, h4, -, h5, h6, -⟩ := Cond.codeWith_spec (atoms_spec (ws := ws) h _ (by rw [hw]; exact List.mem_cons_self))
    cases hn.symm.trans hn9
    exact ⟨meth, c, h1, h2, h3, h4, h5, h6⟩
  · intro p e s m args below meth c s₁ B hml hP _
    have hh0 : s₁.heap = s.heap := by rw [B.state]; rfl
    obtain ⟨t, a1, o, b1, b2, b3⟩ := body p e s m args below meth c s₁ B hml hP s₁ hh0 (Stand.of_body B)
    exact ⟨t, o, a1, b1, b2, b3⟩
/-! ===== END ===== -/

/-! ===== BEGIN what the machine throws by itself, no traces kept ===== -/
section VXM
set_option maxHeartbeats 1000000 in
/-- the machine throws cls with the message text, no traces kept: from its note over the frame g to 'throwing' over the same frame (follows the proofs of Stand.vmThrowsMessage, Shelf/KitTracedVmS.lean, and Stand.throwsMessageColdBareV, StandMessageColdV.lean, without the step out of the frame) -/
theorem vx_vmAt {p : Program} {l : Launch} {e : Env} {R : Room} {s : State} {m₀ : MethodId} {args : Array Value} {below : List Frame} {meth : Method} {c : Code} {W : State} {locs : List Loc} {cells slots : Nat}
    (X : Stand p l e R s m₀ args below meth c W locs cells slots) (hexec : p.tables.exec = Jvm.exec) (htr : e.platform.stackTraces = false) {cls : String} {names : List String} {text : String}
    (hcls : Bundle.fit cls = true) (hnames : ∀ n ∈ names, Bundle.fit n = true) (hsoe : (cls == "java/lang/StackOverflowError") = false) (hoom : (cls == "java/lang/OutOfMemoryError") = false)
    (h : ∀ a ∈ Bundle.messageArmAtoms cls names, a.before args s = true)
    (hlocs : ∀ x ∈ locs, ∀ cell, s.heap[x.base]? = some cell → cell.vm.isStatics = false)
    (htext : (text == notModelled) = false) (hlimit : ¬ (stringBytes (stringToUtf16 text)).size > e.platform.arrayLengthLimit) (hheap : ¬ (stringBytes (stringToUtf16 text)).size * componentBytes .byte > e.platform.maxHeapBytes)
    {g : JFrame} (hg : g.method = m₀) (hsize : g.locals.size = c.maxLocals)
    (hRframes : names.length + 4 < R.frames) (hRlocals : 2 * g.monitorRoom + (g.stack.map fun v => v.category).sum + 10240 ≤ R.locals) (hshort : 13 * names.length + 55 ≤ 10240)
    (hRcells : cells + 3 ≤ R.cells) (hRslots : slots + ((stringBytes (stringToUtf16 text)).size + 4 + 6) ≤ R.slots) (hlocks : meth.locks = false) :
    ∃ (S : State) (q : Addr) (ce : Cell), (∀ target, Steps p.tables e below ((S.setTop g).pushFrame (.throwing q)) target → Steps p.tables e below ((W.setTop g).pushFrame (.throwNew cls (some text) none)) target) ∧
      Stand p l e R s m₀ args below meth c S locs (cells + 3) (slots + ((stringBytes (stringToUtf16 text)).size + 4 + 6)) ∧ S.heap[q]? = some ce ∧ s.vm.findClass cls = some ce.cls ∧ ce.vm = .none := by
  have howns : e.platform.frameOwnsMonitors = true := by rw [X.admits.platform]
  have hfin : e.platform.finalization = false := by rw [X.admits.platform]
  have hpl : e.platform.magicAccessors = ({} : Platform).magicAccessors := by rw [X.admits.platform]
  have a : ∀ x, x ∈ Bundle.messageArmAtoms cls names → x.holds args s none s [] = true := fun x hx => h x hx
  obtain ⟨T, Z0, L, -, Y⟩ := ThrowableC.of_atoms (args := args) howns hfin hpl (fun x hx => h x (by simp [Bundle.messageArmAtoms, hx]))
  obtain ⟨Z, M, LZ, LM, hnZ⟩ := Init0T.ofS_atoms (args := args) hpl L Y (fun x hx => h x (by simp [Bundle.messageArmAtoms, hx]))
  obtain ⟨P1, Ps, hlen, L1, hL, hP1m, hlink1, hlink⟩ := Bundle.chainS (args := args) hpl hnZ names cls hcls hnames (fun x hx => h x (by simp [Bundle.messageArmAtoms, hx]))
  obtain ⟨Zs, LZs, hn4, hfitv, hfitc⟩ := StringT.of_atoms (args := args) (fun x hx => h x (by simp [Bundle.messageArmAtoms, hx]))
  have hfound : s.vm.findClass cls = some P1.m.cls := findClass_of_methodNamed hP1m
  obtain ⟨c1, kX, hc1, hk, hord, -, -, hn6⟩ := Cond.instantiable_spec (a (.instantiable cls 6) (by simp [Bundle.messageArmAtoms]))
  cases Option.some.inj (hc1.symm.trans hfound)
  have hinit := Cond.initialized_spec hfound hk (a (.initialized cls) (by simp [Bundle.messageArmAtoms]))
  have hctor : kX.findMethod "<init>" "(Ljava/lang/String;)V" = some P1.m.idx := findMethod_of_methodNamed hP1m hk
  have hsel0 : selectMethod e.platform s.vm P1.m.cls T.fill0 = .method T.fill0 := by
    obtain ⟨c2, r2, m2, q1, q2, q3, q4, -⟩ := Cond.selects_spec (a (.selects cls Bundle.tFill0 Bundle.tFill0) (by simp [Bundle.messageArmAtoms]))
    cases Option.some.inj (q1.symm.trans hfound)
    cases Option.some.inj (q2.symm.trans (State.methodFound?_of_named Y.fill0 (by decide)))
    cases Option.some.inj (q3.symm.trans Y.fill0)
    rw [Launch.admits_selectMethod X.admits]; exact q4
  have hselF : selectMethod e.platform s.vm P1.m.cls T.fill = .method T.fill := by
    obtain ⟨c2, r2, m2, q1, q2, q3, q4, -⟩ := Cond.selects_spec (a (.selects cls Bundle.tFill Bundle.tFill) (by simp [Bundle.messageArmAtoms]))
    cases Option.some.inj (q1.symm.trans hfound)
    cases Option.some.inj (q2.symm.trans (State.methodFound?_of_named Y.fill (by decide)))
    cases Option.some.inj (q3.symm.trans Y.fill)
    rw [Launch.admits_selectMethod X.admits]; exact q4
  obtain ⟨cellS0, hcS0, hiss⟩ := Y.statics
  obtain ⟨u0, hu0⟩ := Cond.staticRefV Y.unassigned L.unassignedStatic L.statics hcS0 hiss (a (.isRef (.static Bundle.tN "UNASSIGNED_STACK" Bundle.steD)) (by simp [Bundle.messageArmAtoms]))
  obtain ⟨sen, hsen⟩ := Cond.staticRefV Y.sentinel L.sentinelStatic L.statics hcS0 hiss (a (.isRef (.static Bundle.tN "SUPPRESSED_SENTINEL" Bundle.listD)) (by simp [Bundle.messageArmAtoms]))
  obtain ⟨ci198, i198, fB, hk198, hg198, ha198, hsB, -, hnB, htB, hffB⟩ := Cond.ownField (t := .object "java/lang/Object") Y.found L.cls (by decide +kernel) (a (.fieldLink Bundle.tN 198 Bundle.tN "backtrace" "Ljava/lang/Object;") (by simp [Bundle.messageArmAtoms])) (a (.lays Bundle.tN Bundle.tN "backtrace" "Ljava/lang/Object;") (by simp [Bundle.messageArmAtoms])) e.platform hpl
  obtain ⟨cellS, hcS', heS, -, hkeep⟩ := X.same.2.2.2.2.2 T.aS cellS0 hcS0
  have hcellS : W.heap[T.aS]? = some cellS := hcS'
  have hout' : ∀ i, (⟨T.aS, i⟩ : Loc) ∉ locs := fun i hmem => by
    have := hlocs _ hmem cellS0 hcS0
    rw [hiss] at this; cases this
  have hknownS : cellS.vm ≠ .unknown := by
    rw [heS]; intro hu
    rw [show cellS0.vm = .unknown from hu] at hiss
    cases hiss
  have hvU : cellS.slots[T.fUnassigned.slot]? = some u0.v := by rw [hkeep _ (hout' _)]; exact hu0
  have hvSen : cellS.slots[T.fSentinel.slot]? = some sen.v := by rw [hkeep _ (hout' _)]; exact hsen
  obtain ⟨iM, hffM⟩ := Y.msg
  obtain ⟨tyC, dC, hdC, hdnC⟩ := Cond.laysAt hfound hk Y.cause (a (.lays cls Bundle.tN "cause" "Ljava/lang/Throwable;") (by simp [Bundle.messageArmAtoms]))
  obtain ⟨tyS, dS, hdS, hdnS⟩ := Cond.laysAt hfound hk Y.stack (a (.lays cls Bundle.tN "stackTrace" Bundle.steD) (by simp [Bundle.messageArmAtoms]))
  obtain ⟨tyP, dP, hdP, hdnP⟩ := Cond.laysAt hfound hk Y.supp (a (.lays cls Bundle.tN "suppressedExceptions" Bundle.listD) (by simp [Bundle.messageArmAtoms]))
  obtain ⟨tyM, dM, hdM, hdnM⟩ := Cond.laysAt hfound hk hffM (a (.lays cls Bundle.tN "detailMessage" "Ljava/lang/String;") (by simp [Bundle.messageArmAtoms]))
  obtain ⟨tyB, dB, hdB, hdnB⟩ := Cond.laysAt hfound hk hffB (a (.lays cls Bundle.tN "backtrace" "Ljava/lang/Object;") (by simp [Bundle.messageArmAtoms]))
  have bC := Cond.laysApart hdB hdC hdnB hdnC (by rw [hnB, Y.causeName]; decide)
  have bS := Cond.laysApart hdB hdS hdnB hdnS (by rw [hnB, Y.stackName]; decide)
  have bP := Cond.laysApart hdB hdP hdnB hdnP (by rw [hnB, Y.suppName]; decide)
  have hbk : ((preparedCellV T.toThrowableT (freshCell P1.m.cls kX) (W.heap.size + 2) u0 sen).withEntry W.cur).slots[fB.slot]? = some .null := by
    have := fresh_default (c := P1.m.cls) tyB
    rw [htB] at this
    simpa [preparedCellV, Cell.setSlot, Cell.withEntry, Array.getElem?_setIfInBounds, bC, bS, bP, bC.symm, bS.symm, bP.symm, defaultValue] using this
  have tkC := Takes.of_laid (v := .ref (W.heap.size + 2)) hk hord tyC (by rw [Y.causeType]; rfl)
  have tkS := Takes.of_laid (v := u0.v) hk hord tyS (by rw [Y.stackType]; exact fits_refV_array _ u0)
  have tkP := Takes.of_laid (v := sen.v) hk hord tyP (by rw [Y.suppType]; exact fits_refV_object _ sen)
  have tkM := Takes.of_laid (v := .ref (W.heap.size + 1)) hk hord tyM (by rw [Y.msgType]; rfl)
  have hskip : SkipFacts T e.platform s (fun u => u) u0 ((preparedCellV T.toThrowableT (freshCell P1.m.cls kX) (W.heap.size + 2) u0 sen).withEntry W.cur) := ⟨{ ci198 := ci198, i198 := i198, fBack := fB }, ⟨hk198, hg198, ha198, hsB⟩, hbk, fun _ _ => rfl⟩
  have h0 : At W g.method c below := by rw [hg]; exact X.here
  obtain ⟨hbeyond, hfreeW⟩ := X.vmMayThrow hsize (.throwNew cls (some text) none) (fun f hf => by cases hf) rfl hRlocals
  have hfr' : W.frames.length + Ps.length + 4 < (e.platform.stackLimits W.me).1 := by have := X.framesAbove hRframes; omega
  have hwd' : (stackUse (.java g :: W.frames.tail)).2 + 13 * Ps.length + 55 ≤ (e.platform.stackLimits W.me).2 := by have := X.stackAbove hsize (K := 13 * Ps.length + 55) (by omega); omega
  have hslots : W.slotsUsed + (stringBytes (stringToUtf16 text)).size + Zs.kS.instanceTypes.size + kX.instanceTypes.size ≤ e.platform.maxSlots := by
    have := X.slotsAbove hRslots
    rw [hn4, hn6]
    omega
  obtain ⟨vm', hW', st⟩ := Steps.vmThrowsMessageColdByV p (s₀ := s) (S := W) (g := g) h0 hexec T L Z LZ M LM X.warmed (t := W.cur) rfl Zs LZs P1 L1 Ps hL hlink1 hlink hsoe hoom hfound hk hinit hord hctor
    (Launch.admits_hotImplicitExceptions X.admits) hbeyond hfreeW htext hlimit hheap (X.cellsAbove hRcells) hslots (hfitv _) (hfitc _)
    (Nn := fun u => u) heapOnly_id (fun _ _ => rfl) (fun _ => rfl) (fun u x y => setCell_twice _ _ _ _) (fun _ => Nat.le_refl _) (cN := ((preparedCellV T.toThrowableT (freshCell P1.m.cls kX) (W.heap.size + 2) u0 sen).withEntry W.cur))
    hsel0 hcellS hknownS hvU tkS (fun _ hu => hu) (fun _ hu => hu) rfl rfl rfl (by simp [preparedCellV, Cell.setSlot, Cell.withEntry]) hskip (fun _ _ hA hW _ hroom _ hrest => L.nativeOff p htr hA hW hroom hrest) hselF hvSen tkC tkP tkM Y.objLocals rfl hfr' hwd'
  rw [plainBareV_eq T.toThrowableT (W.heap.size + 2) u0 sen (.ref (W.heap.size + 1)) W.cur rfl rfl] at st
  obtain ⟨-, -, w3, w4, -, -, -⟩ := withThrown_facts e.platform W Zs text P1.m.cls kX
  have X3 := ((X.pushed (bytesOf Zs.cB (stringToUtf16 text))).pushed (stringAt Zs.cS Zs.kS Zs.fv Zs.fc (stringToUtf16 text) W.heap.size)).pushed (freshCell P1.m.cls kX)
  rw [← withString_eq] at X3
  have X4 := X3.noted hW'
  have ha : (W.heap.size + 2) < ((withThrown W Zs text P1.m.cls kX).setVm vm').heap.size := by show _ < (withThrown W Zs text P1.m.cls kX).heap.size; rw [w3]; omega
  have hcell : ((withThrown W Zs text P1.m.cls kX).setVm vm').heap[(W.heap.size + 2)]? = some (freshCell P1.m.cls kX) := w4
  have X5 := ((((X4.stored hcell T.fCause.slot (.ref (W.heap.size + 2))).storedAgain ha T.fStack.slot u0.v).storedAgain ha T.fSupp.slot sen.v).storedAgain ha T.fStack.slot u0.v).storedAgain ha T.fMsg.slot (.ref (W.heap.size + 1))
  obtain ⟨g₁, hfrM⟩ := X5.frames_eq
  have hU : ((((withThrown W Zs text P1.m.cls kX).setVm vm').setCell (W.heap.size + 2) (plainBareV T.toThrowableT (freshCell P1.m.cls kX) (W.heap.size + 2) u0 sen (.ref (W.heap.size + 1)))).setTop g).pushFrame (.throwing (W.heap.size + 2)) = (((withThrown W Zs text P1.m.cls kX).setVm vm').setCell (W.heap.size + 2) (plainBareV T.toThrowableT (freshCell P1.m.cls kX) (W.heap.size + 2) u0 sen (.ref (W.heap.size + 1)))).setFrames (.throwing (W.heap.size + 2) :: .java g :: below) := by
    rw [State.pushFrame, State.frames_setTop _ hfrM, State.setTop_of_frames _ hfrM, State.setFrames_setFrames]
  have b1 : (bytesOf Zs.cB (stringToUtf16 text)).slots.size = (stringBytes (stringToUtf16 text)).size := by
    rw [(Cell.writeAll_facts _ _).2.2]; simp [bytes0]
  have b2 : (stringAt Zs.cS Zs.kS Zs.fv Zs.fc (stringToUtf16 text) W.heap.size).slots.size = 4 := by simp [string0, Cell.setSlot, hn4]
  have b3 : (freshCell P1.m.cls kX).slots.size = 6 := by simp [hn6]
  rw [b1, b2, b3] at X5
  have e9 : slots + (stringBytes (stringToUtf16 text)).size + 4 + 6 = slots + ((stringBytes (stringToUtf16 text)).size + 4 + 6) := by omega
  rw [e9] at X5
  simp only [List.append_assoc, List.cons_append, List.nil_append] at X5
  refine ⟨((withThrown W Zs text P1.m.cls kX).setVm vm').setCell (W.heap.size + 2) (plainBareV T.toThrowableT (freshCell P1.m.cls kX) (W.heap.size + 2) u0 sen (.ref (W.heap.size + 1))), W.heap.size + 2, _, fun target ht => st _ (by rw [X.tail, ← hU]; exact ht),
    X5.forget (fun y hy => ?_), heapAt_setCell_self _ ha, hfound, rfl⟩
  simp only [List.mem_cons, List.not_mem_nil, or_false] at hy
  have hge : s.heap.size ≤ W.heap.size := X.same.2.1
  rcases hy with rfl | rfl | rfl | rfl | rfl <;> exact Nat.le_trans hge (Nat.le_add_right _ 2)
set_option maxHeartbeats 1000000 in
/-- the machine throws NullPointerException, no traces kept: from its note over the frame g to 'throwing' over the same frame (follows the proof of Stand.vmThrowsNpe, Shelf42/KT2.lean; throwsNpeColdBareVAt, Shelf42/NT91.lean, called) -/
theorem vx_npeAt {p : Program} {l : Launch} {e : Env} {R : Room} {s : State} {m₀ : MethodId} {args : Array Value} {below : List Frame} {meth : Method} {c : Code} {W : State} {locs : List Loc} {cells slots : Nat}
    (X : Stand p l e R s m₀ args below meth c W locs cells slots) (hexec : p.tables.exec = Jvm.exec) (htr : e.platform.stackTraces = false) {n : Nat}
    (h : ∀ a ∈ Bundle.npeArmAtoms n, a.before args s = true)
    (hlocs : ∀ x ∈ locs, ∀ cell, s.heap[x.base]? = some cell → cell.vm.isStatics = false)
    {g : JFrame} (hg : g.method = m₀) (hsize : g.locals.size = c.maxLocals)
    (hRframes : 7 < R.frames) (hRlocals : 2 * g.monitorRoom + (g.stack.map fun v => v.category).sum + 10240 ≤ R.locals)
    (hRcells : cells + 1 ≤ R.cells) (hRslots : slots + n ≤ R.slots) (hlocks : meth.locks = false) :
    ∃ (S : State) (q : Addr) (ce : Cell), (∀ target, Steps p.tables e below ((S.setTop g).pushFrame (.throwing q)) target → Steps p.tables e below ((W.setTop g).pushFrame (.throwNew "java/lang/NullPointerException" none none)) target) ∧
      Stand p l e R s m₀ args below meth c S locs (cells + 1) (slots + n) ∧ S.heap[q]? = some ce ∧ s.vm.findClass "java/lang/NullPointerException" = some ce.cls ∧ ce.vm = .none := by
  have howns : e.platform.frameOwnsMonitors = true := by rw [X.admits.platform]
  have hfin : e.platform.finalization = false := by rw [X.admits.platform]
  have hpl : e.platform.magicAccessors = ({} : Platform).magicAccessors := by rw [X.admits.platform]
  have hpl2 : e.platform.arrayCloneIsPublic = true := by rw [X.admits.platform]
  have a' : ∀ x, x ∈ Bundle.npeArmAtoms n → x.holds args s none s [] = true := fun x hx => h x hx
  obtain ⟨T, Z, L, LZ, Y⟩ := ThrowableC.of_atoms (args := args) howns hfin hpl (fun x hx => h x (by simp [Bundle.npeArmAtoms, hx]))
  obtain ⟨N, LN, hcN, hnNF, hordN, hffS⟩ := NpeC.of_atoms (args := args) hpl hpl2 L Y (fun x hx => h x (by simp [Bundle.npeArmAtoms, hx]))
  obtain ⟨P1, L1, hP1m, hP1s⟩ := PassC.of_atoms (args := args) (s := s) hpl (X := Bundle.nN) (Y := Bundle.rN) (by decide) (by decide) LibCode.NullPointerException.Init0.at_0 LibCode.NullPointerException.Init0.at_1 LibCode.NullPointerException.Init0.at_4 (fun x hx => h x (by simp [Bundle.npeArmAtoms, hx]))
  obtain ⟨PR, LR, hPRm, hPRs⟩ := PassC.of_atoms (args := args) (s := s) hpl (X := Bundle.rN) (Y := Bundle.eN) (by decide) (by decide) LibCode.RuntimeException.Init0.at_0 LibCode.RuntimeException.Init0.at_1 LibCode.RuntimeException.Init0.at_4 (fun x hx => h x (by simp [Bundle.npeArmAtoms, hx]))
  obtain ⟨PE, LEx, hPEm, hPEs⟩ := PassC.of_atoms (args := args) (s := s) hpl (X := Bundle.eN) (Y := Bundle.tN) (by decide) (by decide) LibCode.Exception.Init0.at_0 LibCode.Exception.Init0.at_1 LibCode.Exception.Init0.at_4 (fun x hx => h x (by simp [Bundle.npeArmAtoms, hx]))
  have hfound : s.vm.findClass Bundle.nN = some P1.m.cls := findClass_of_methodNamed hP1m
  have ecls : N.cN = P1.m.cls := Option.some.inj (hcN.symm.trans hfound)
  have hk : s.vm.classes[P1.m.cls]? = some N.kN := by rw [← ecls]; exact LN.cls
  have hinit := Cond.initialized_spec hfound hk (a' (.initialized Bundle.nN) (by simp [Bundle.npeArmAtoms]))
  have hctor : N.kN.findMethod "<init>" "()V" = some P1.m.idx := findMethod_of_methodNamed hP1m hk
  obtain ⟨c1, k1, hc1, hk1, -, -, -, hn⟩ := Cond.instantiable_spec (a' (.instantiable Bundle.nN n) (by simp [Bundle.npeArmAtoms]))
  cases Option.some.inj (hc1.symm.trans hfound)
  cases Option.some.inj (hk1.symm.trans hk)
  have hfsz : (freshCell P1.m.cls N.kN).slots.size = n := by simp [hn]
  have hlink1 : P1.sup = PR.m := Option.some.inj (hP1s.symm.trans hPRm)
  have hlinkR : PR.sup = PE.m := Option.some.inj (hPRs.symm.trans hPEm)
  have hlinkE : PE.sup = Z.m T.toThrowableT := Option.some.inj (hPEs.symm.trans Y.init0)
  have hLs : ∀ P, P ∈ [PR, PE] → P.Links0 e.platform s := fun P hP => by
    simp only [List.mem_cons, List.not_mem_nil, or_false] at hP
    rcases hP with rfl | rfl
    · exact LR
    · exact LEx
  have hsel0 : selectMethod e.platform s.vm P1.m.cls T.fill0 = .method T.fill0 := by
    obtain ⟨c2, r2, m2, q1, q2, q3, q4, -⟩ := Cond.selects_spec (a' (.selects Bundle.nN Bundle.tFill0 Bundle.tFill0) (by simp [Bundle.npeArmAtoms]))
    cases Option.some.inj (q1.symm.trans hfound)
    cases Option.some.inj (q2.symm.trans (State.methodFound?_of_named Y.fill0 (by decide)))
    cases Option.some.inj (q3.symm.trans Y.fill0)
    rw [Launch.admits_selectMethod X.admits]; exact q4
  have hselF : selectMethod e.platform s.vm P1.m.cls T.fill = .method N.fill := by
    obtain ⟨c2, r2, m2, q1, q2, q3, q4, -⟩ := Cond.selects_spec (a' (.selects Bundle.nN Bundle.tFill Bundle.nFill) (by simp [Bundle.npeArmAtoms]))
    cases Option.some.inj (q1.symm.trans hfound)
    cases Option.some.inj (q2.symm.trans (State.methodFound?_of_named Y.fill (by decide)))
    cases Option.some.inj (q3.symm.trans hnNF)
    rw [Launch.admits_selectMethod X.admits]; exact q4
  obtain ⟨cellS0, hcS0, hiss⟩ := Y.statics
  obtain ⟨u0, hu0⟩ := Cond.staticRefV Y.unassigned L.unassignedStatic L.statics hcS0 hiss (a' (.isRef (.static Bundle.tN "UNASSIGNED_STACK" Bundle.steD)) (by simp [Bundle.npeArmAtoms]))
  obtain ⟨sen, hsen⟩ := Cond.staticRefV Y.sentinel L.sentinelStatic L.statics hcS0 hiss (a' (.isRef (.static Bundle.tN "SUPPRESSED_SENTINEL" Bundle.listD)) (by simp [Bundle.npeArmAtoms]))
  obtain ⟨ci198, i198, fB, hk198, hg198, ha198, hsB, -, hnB, htB, hffB⟩ := Cond.ownField (t := .object "java/lang/Object") Y.found L.cls (by decide +kernel) (a' (.fieldLink Bundle.tN 198 Bundle.tN "backtrace" Bundle.objD) (by simp [Bundle.npeArmAtoms])) (a' (.lays Bundle.tN Bundle.tN "backtrace" Bundle.objD) (by simp [Bundle.npeArmAtoms])) e.platform hpl
  obtain ⟨cellS, hcS', heS, -, hkeep⟩ := X.same.2.2.2.2.2 T.aS cellS0 hcS0
  have hcellS : W.heap[T.aS]? = some cellS := hcS'
  have hout' : ∀ i, (⟨T.aS, i⟩ : Loc) ∉ locs := fun i hmem => by
    have := hlocs _ hmem cellS0 hcS0
    rw [hiss] at this; cases this
  have hknownS : cellS.vm ≠ .unknown := by
    rw [heS]; intro hu
    rw [show cellS0.vm = .unknown from hu] at hiss
    cases hiss
  have hvU : cellS.slots[T.fUnassigned.slot]? = some u0.v := by rw [hkeep _ (hout' _)]; exact hu0
  have hvSen : cellS.slots[T.fSentinel.slot]? = some sen.v := by rw [hkeep _ (hout' _)]; exact hsen
  obtain ⟨tyC, dC, hdC, hdnC⟩ := Cond.laysAt hfound hk Y.cause (a' (.lays Bundle.nN Bundle.tN "cause" "Ljava/lang/Throwable;") (by simp [Bundle.npeArmAtoms]))
  obtain ⟨tyS, dS, hdS, hdnS⟩ := Cond.laysAt hfound hk Y.stack (a' (.lays Bundle.nN Bundle.tN "stackTrace" Bundle.steD) (by simp [Bundle.npeArmAtoms]))
  obtain ⟨tyP, dP, hdP, hdnP⟩ := Cond.laysAt hfound hk Y.supp (a' (.lays Bundle.nN Bundle.tN "suppressedExceptions" Bundle.listD) (by simp [Bundle.npeArmAtoms]))
  obtain ⟨tyX, dX, hdX, hdnX⟩ := Cond.laysAt hfound hk hffS (a' (.lays Bundle.nN Bundle.nN "extendedMessageState" "I") (by simp [Bundle.npeArmAtoms, Bundle.npeAtoms]))
  obtain ⟨hnX, htX⟩ := State.fieldFound?_type hffS (t := .int) (by decide +kernel)
  have xC := Cond.laysApart hdC hdX hdnC hdnX (by rw [hnX, Y.causeName]; decide)
  have xS := Cond.laysApart hdS hdX hdnS hdnX (by rw [hnX, Y.stackName]; decide)
  have xP := Cond.laysApart hdP hdX hdnP hdnX (by rw [hnX, Y.suppName]; decide)
  have hv0 : (freshCell P1.m.cls N.kN).slots[N.fState.slot]? = some (.int 0) := by
    have := fresh_default (c := P1.m.cls) tyX
    rw [htX] at this; exact this
  obtain ⟨tyB, dB, hdB, hdnB⟩ := Cond.laysAt hfound hk hffB (a' (.lays Bundle.nN Bundle.tN "backtrace" Bundle.objD) (by simp [Bundle.npeArmAtoms]))
  have bC := Cond.laysApart hdB hdC hdnB hdnC (by rw [hnB, Y.causeName]; decide)
  have bS := Cond.laysApart hdB hdS hdnB hdnS (by rw [hnB, Y.stackName]; decide)
  have bP := Cond.laysApart hdB hdP hdnB hdnP (by rw [hnB, Y.suppName]; decide)
  have bX := Cond.laysApart hdB hdX hdnB hdnX (by rw [hnB, hnX]; decide)
  have hbk : ((npeCell N.toNpeT (preparedCellV T.toThrowableT (freshCell P1.m.cls N.kN) W.heap.size u0 sen) W.cur).withEntry W.cur).slots[fB.slot]? = some .null := by
    have := fresh_default (c := P1.m.cls) tyB
    rw [htB] at this
    simpa [npeCell, preparedCellV, Cell.setSlot, Cell.withEntry, Array.getElem?_setIfInBounds, bC, bS, bP, bX, bC.symm, bS.symm, bP.symm, bX.symm, defaultValue] using this
  have tkC := Takes.of_laid (v := .ref W.heap.size) hk hordN tyC (by rw [Y.causeType]; rfl)
  have tkS := Takes.of_laid (v := u0.v) hk hordN tyS (by rw [Y.stackType]; exact fits_refV_array _ u0)
  have tkP := Takes.of_laid (v := sen.v) hk hordN tyP (by rw [Y.suppType]; exact fits_refV_object _ sen)
  have tkX := Takes.of_laid (v := .int 1) hk hordN tyX (by rw [htX]; rfl)
  have hskip : SkipFacts T e.platform s (fun u => u) u0 ((npeCell N.toNpeT (preparedCellV T.toThrowableT (freshCell P1.m.cls N.kN) W.heap.size u0 sen) W.cur).withEntry W.cur) := ⟨{ ci198 := ci198, i198 := i198, fBack := fB }, ⟨hk198, hg198, ha198, hsB⟩, hbk, fun _ _ => rfl⟩
  obtain ⟨vm', X3, st, -⟩ := X.throwsNpeColdBareVAt hexec hg hsize T L Z LZ N LN P1 L1 [PR, PE] hLs hlink1 ⟨hlinkR, hlinkE, trivial⟩ hfound hk hinit hordN hctor hsel0 hselF hcellS hknownS hvU hvSen
    hv0 xC xS xP tkC tkS tkP tkX Y.objLocals hskip (fun _ _ hA hW _ hroom _ hrest => L.nativeOff p htr hA hW hroom hrest) (by simpa using hRframes) hRlocals (by simp) hRcells (by rw [hn]; exact hRslots)
  have hlt : W.heap.size < ((W.pushCell (freshCell P1.m.cls N.kN)).setVm vm').heap.size := by
    show W.heap.size < (W.pushCell (freshCell P1.m.cls N.kN)).heap.size
    rw [State.heap_size_pushCell]; omega
  rw [hfsz] at X3
  obtain ⟨g₁, hfrM⟩ := X3.frames_eq
  have hU : ((((W.pushCell (freshCell P1.m.cls N.kN)).setVm vm').setCell W.heap.size (npeBareV T.toThrowableT N.toNpeT (freshCell P1.m.cls N.kN) W.heap.size u0 sen)).setTop g).pushFrame (.throwing W.heap.size) = (((W.pushCell (freshCell P1.m.cls N.kN)).setVm vm').setCell W.heap.size (npeBareV T.toThrowableT N.toNpeT (freshCell P1.m.cls N.kN) W.heap.size u0 sen)).setFrames (.throwing W.heap.size :: .java g :: below) := by
    rw [State.pushFrame, State.frames_setTop _ hfrM, State.setTop_of_frames _ hfrM, State.setFrames_setFrames]
  refine ⟨_, W.heap.size, _, fun target ht => st.trans (by rw [← hU]; exact ht), X3.forget (fun y hy => ?_), heapAt_setCell_self _ hlt, hfound, rfl⟩
  simp only [List.mem_cons, List.not_mem_nil, or_false] at hy
  have hge : s.heap.size ≤ W.heap.size := X.same.2.1
  rcases hy with rfl | rfl | rfl | rfl | rfl <;> exact hge
/-- the words of a machine's NullPointerException, but the four that speak of the heap -/
def vx_atN (n : Nat) : List Cond := (Bundle.npeArmAtoms n).filter vx_no
/-- the words of a machine's throw with a message, but the four that speak of the heap -/
def vx_atM (X : String) (names : List String) : List Cond := (Bundle.messageArmAtoms X names).filter vx_no
section
variable {p : Program} {l : Launch} {e : Env} {R : Room} {s : State} {m : MethodId} {args : Array Value} {below : List Frame} {meth : Method} {c : Code} {H : Heap} {locs : List Loc} {cells slots : Nat}
/-- a frame seen from a rebased start, seen from the first start again -/
theorem vx_back9 {T S : State} {R' : Room} {k n : Nat} (X : Stand p l e R s m args below meth c T locs cells slots) (Y : Stand p l e R' ((T.setVm s.vm).setFrames (.invoking m args :: below)) m args below meth c T [] 0 0) (Z : Stand p l e R' ((T.setVm s.vm).setFrames (.invoking m args :: below)) m args below meth c S [] k n) :
    Stand p l e R s m args below meth c S locs (cells + k) (slots + n) := by
  have hW0 : s.WarmedH ((T.setVm s.vm).setFrames (.invoking m args :: below)).vm := State.WarmedH.refl s
  refine { admits := X.admits, cas := X.cas, clock := X.clock, frames := X.frames, room := X.room, hears := X.hears, method := X.method, code := X.code, here := Z.here, tail := Z.tail, warmed := State.WarmedH.trans hW0 Z.warmed, limits := Z.limits.trans (Y.limits.symm.trans X.limits), bytes := Z.bytes.trans (Y.bytes.symm.trans X.bytes), same := ?_ }
  obtain ⟨e1, e2⟩ := Z.same
  rw [State.setFrames_setFrames] at e1
  have h2 : (T.setVm s.vm).sameButNew (S.setVm s.vm) [] k n := ⟨e1, e2⟩
  have h3 := X.same.trans h2
  rw [List.append_nil] at h3
  exact h3
/-- from the machine's note that E is thrown here with this text -/
def vx_Note (p : Program) (l : Launch) (e : Env) (R : Room) (s : State) (m : MethodId) (args : Array Value) (below : List Frame) (meth : Method) (c : Code) (H : Heap) (locs : List Loc) (cells slots : Nat) (Q : State → Prop) (g : JFrame) (E text : String) : Prop :=
  ∀ T : State, T.heap = H → Stand p l e R s m args below meth c T locs cells slots → ∃ t, Steps p.tables e below ((T.setTop g).pushFrame (.throwNew E (some text) none)) t ∧ Q t
theorem vx_vm {pc : Nat} {ls : Array Slot} {rest : List Value} {Q : State → Prop} (hexec : p.tables.exec = Jvm.exec) (hl : l.stackTraces = false) {cls text : String} {names : List String} {nb : Nat} {A : Nat → Prop}
    (hcls : Bundle.fit cls = true) (hnames : ∀ n ∈ names, Bundle.fit n = true) (hsoe : (cls == "java/lang/StackOverflowError") = false) (hoom : (cls == "java/lang/OutOfMemoryError") = false)
    (hat : ∀ w ∈ vx_atM cls names, w.before args s = true) (hgood : ∀ w ∈ vx_atM cls names, vx_ot w = true)
    (hU : vx_Zq Bundle.tN "UNASSIGNED_STACK" Bundle.steD A s s.heap) (hN : vx_Zq Bundle.tN "SUPPRESSED_SENTINEL" Bundle.listD A s s.heap) (hS : va_S A s.heap H locs) (hsize : ls.size = c.maxLocals)
    (htext : (text == notModelled) = false) (hnb : (stringBytes (stringToUtf16 text)).size ≤ nb) (hnb1 : nb ≤ 1000)
    (hRframes : names.length + 4 < R.frames) (hRlocals : (rest.map fun v => v.category).sum + 10240 ≤ R.locals) (hshort : 13 * names.length + 55 ≤ 10240) (hRcells : cells + 3 ≤ R.cells) (hRslots : slots + (nb + 10) ≤ R.slots) (hlocks : meth.locks = false)
    (k : ∀ (H1 : Heap) (q9 : Addr) (ce : Cell), H.size ≤ H1.size → (∀ q : Nat, q < H.size → H1[q]? = H[q]?) → va_S A s.heap H1 locs → H1[q9]? = some ce → ce.vm = .none → s.vm.findClass cls = some ce.cls → vx_W p l e R s m args below meth c H1 locs (cells + 3) (slots + (nb + 10)) Q (F0 m pc ls rest) q9) :
    vx_Note p l e R s m args below meth c H locs cells slots Q (F0 m pc ls rest) cls text := by
  intro T hT X
  have htr : e.platform.stackTraces = false := (show e.platform.stackTraces = l.stackTraces by rw [X.admits.platform]).trans hl
  have Y := vx_rebase X (R' := { frames := R.frames, locals := R.locals, cells := 3, slots := nb + 10 }) (Nat.le_refl _) (Nat.le_refl _) hRcells hRslots
  have hhp : ((T.setVm s.vm).setFrames (.invoking m args :: below)).heap = H := hT
  have hW0 : s.WarmedH ((T.setVm s.vm).setFrames (.invoking m args :: below)).vm := State.WarmedH.refl s
  have hat' : ∀ w ∈ vx_atM cls names, w.before args ((T.setVm s.vm).setFrames (.invoking m args :: below)) = true := fun w hw => vx_ot_at hW0 rfl (hgood w hw) (hat w hw)
  have hU' : vx_Zq Bundle.tN "UNASSIGNED_STACK" Bundle.steD A ((T.setVm s.vm).setFrames (.invoking m args :: below)) ((T.setVm s.vm).setFrames (.invoking m args :: below)).heap := by rw [hhp]; exact vx_Zq.moved hW0.alike (hU.kept hS.2.1)
  have hN' : vx_Zq Bundle.tN "SUPPRESSED_SENTINEL" Bundle.listD A ((T.setVm s.vm).setFrames (.invoking m args :: below)) ((T.setVm s.vm).setFrames (.invoking m args :: below)).heap := by rw [hhp]; exact vx_Zq.moved hW0.alike (hN.kept hS.2.1)
  obtain ⟨S, q, ce, st, Z, hce, hcl', hv⟩ := vx_vmAt Y hexec htr (cls := cls) (names := names) (text := text) hcls hnames hsoe hoom (vx_own hat' (vx_isRefq hU'.1) (vx_isRefq hN'.1) hU'.2.word hN'.2.word) (fun x hx => nomatch hx) htext
    (by rw [Launch.admits_arrayLengthLimit X.admits]; omega) (by rw [Launch.admits_maxHeapBytes X.admits]; simp only [componentBytes]; omega)
    (g := F0 m pc ls rest) rfl hsize hRframes (by show 2 * 0 + (rest.map fun v => v.category).sum + 10240 ≤ R.locals; omega) hshort (by show 0 + 3 ≤ 3; omega) (by show 0 + (_ + 4 + 6) ≤ nb + 10; omega) hlocks
  obtain ⟨f1, f2⟩ := vx_frame Z.same
  have f1' : H.size ≤ S.heap.size := by rw [← hT]; exact f1
  have f2' : ∀ q : Nat, q < H.size → S.heap[q]? = H[q]? := fun q hq => by
    rw [← hT]
    exact f2 q (by rw [← hT] at hq; exact hq) (fun z hz => nomatch hz)
  have X5 := vx_back9 X Y Z
  have X6 : Stand p l e R s m args below meth c S locs (cells + 3) (slots + (nb + 10)) := { X5 with same := X5.same.mono (by omega) (by omega) }
  obtain ⟨t, a1, b1⟩ := k S.heap q ce f1' f2' ⟨Nat.le_trans hS.1 f1', fun q h1 h2 => (f2' q (Nat.lt_of_lt_of_le h1 hS.1)).trans (hS.2.1 q h1 h2), hS.2.2⟩ hce hv hcl' S rfl X6
  exact ⟨t, st t a1, b1⟩
/-- from the machine's note that NullPointerException is thrown here -/
def vx_NoteN (p : Program) (l : Launch) (e : Env) (R : Room) (s : State) (m : MethodId) (args : Array Value) (below : List Frame) (meth : Method) (c : Code) (H : Heap) (locs : List Loc) (cells slots : Nat) (Q : State → Prop) (g : JFrame) : Prop :=
  ∀ T : State, T.heap = H → Stand p l e R s m args below meth c T locs cells slots → ∃ t, Steps p.tables e below ((T.setTop g).pushFrame (.throwNew "java/lang/NullPointerException" none none)) t ∧ Q t
theorem vx_npe {pc : Nat} {ls : Array Slot} {rest : List Value} {Q : State → Prop} (hexec : p.tables.exec = Jvm.exec) (hl : l.stackTraces = false) {nb : Nat} {A : Nat → Prop}
    (hat : ∀ w ∈ vx_atN nb, w.before args s = true) (hgood : ∀ w ∈ vx_atN nb, vx_ot w = true)
    (hU : vx_Zq Bundle.tN "UNASSIGNED_STACK" Bundle.steD A s s.heap) (hN : vx_Zq Bundle.tN "SUPPRESSED_SENTINEL" Bundle.listD A s s.heap) (hS : va_S A s.heap H locs) (hsize : ls.size = c.maxLocals)
    (hRframes : 7 < R.frames) (hRlocals : (rest.map fun v => v.category).sum + 10240 ≤ R.locals) (hRcells : cells + 1 ≤ R.cells) (hRslots : slots + nb ≤ R.slots) (hlocks : meth.locks = false)
    (k : ∀ (H1 : Heap) (q9 : Addr) (ce : Cell), H.size ≤ H1.size → (∀ q : Nat, q < H.size → H1[q]? = H[q]?) → va_S A s.heap H1 locs → H1[q9]? = some ce → ce.vm = .none → s.vm.findClass "java/lang/NullPointerException" = some ce.cls → vx_W p l e R s m args below meth c H1 locs (cells + 1) (slots + nb) Q (F0 m pc ls rest) q9) :
    vx_NoteN p l e R s m args below meth c H locs cells slots Q (F0 m pc ls rest) := by
  intro T hT X
  have htr : e.platform.stackTraces = false := (show e.platform.stackTraces = l.stackTraces by rw [X.admits.platform]).trans hl
  have Y := vx_rebase X (R' := { frames := R.frames, locals := R.locals, cells := 1, slots := nb }) (Nat.le_refl _) (Nat.le_refl _) hRcells hRslots
  have hhp : ((T.setVm s.vm).setFrames (.invoking m args :: below)).heap = H := hT
  have hW0 : s.WarmedH ((T.setVm s.vm).setFrames (.invoking m args :: below)).vm := State.WarmedH.refl s
  have hat' : ∀ w ∈ vx_atN nb, w.before args ((T.setVm s.vm).setFrames (.invoking m args :: below)) = true := fun w hw => vx_ot_at hW0 rfl (hgood w hw) (hat w hw)
  have hU' : vx_Zq Bundle.tN "UNASSIGNED_STACK" Bundle.steD A ((T.setVm s.vm).setFrames (.invoking m args :: below)) ((T.setVm s.vm).setFrames (.invoking m args :: below)).heap := by rw [hhp]; exact vx_Zq.moved hW0.alike (hU.kept hS.2.1)
  have hN' : vx_Zq Bundle.tN "SUPPRESSED_SENTINEL" Bundle.listD A ((T.setVm s.vm).setFrames (.invoking m args :: below)) ((T.setVm s.vm).setFrames (.invoking m args :: below)).heap := by rw [hhp]; exact vx_Zq.moved hW0.alike (hN.kept hS.2.1)
  obtain ⟨S, q, ce, st, Z, hce, hcl', hv⟩ := vx_npeAt Y hexec htr (n := nb) (vx_own hat' (vx_isRefq hU'.1) (vx_isRefq hN'.1) hU'.2.word hN'.2.word) (fun x hx => nomatch hx)
    (g := F0 m pc ls rest) rfl hsize hRframes (by show 2 * 0 + (rest.map fun v => v.category).sum + 10240 ≤ R.locals; omega) (by show 0 + 1 ≤ 1; omega) (by show 0 + nb ≤ nb; omega) hlocks
  obtain ⟨f1, f2⟩ := vx_frame Z.same
  have f1' : H.size ≤ S.heap.size := by rw [← hT]; exact f1
  have f2' : ∀ q : Nat, q < H.size → S.heap[q]? = H[q]? := fun q hq => by
    rw [← hT]
    exact f2 q (by rw [← hT] at hq; exact hq) (fun z hz => nomatch hz)
  have X5 := vx_back9 X Y Z
  have X6 : Stand p l e R s m args below meth c S locs (cells + 1) (slots + nb) := { X5 with same := X5.same.mono (by omega) (by omega) }
  obtain ⟨t, a1, b1⟩ := k S.heap q ce f1' f2' ⟨Nat.le_trans hS.1 f1', fun q h1 h2 => (f2' q (Nat.lt_of_lt_of_le h1 hS.1)).trans (hS.2.1 q h1 h2), hS.2.2⟩ hce hv hcl' S rfl X6
  exact ⟨t, st t a1, b1⟩
variable {Q : State → Prop} {cc : ByteArray} {pc : Nat} {ls : Array Slot} {rest : List Value}
theorem vx_idivZ (hexec : p.tables.exec = Jvm.exec) (hb : c.code = cc) {a b : Int32} (h0 : b = 0) (d : decode cc pc = .ok (.idiv, 1)) (k : vx_Note p l e R s m args below meth c H locs cells slots Q (F0 m pc ls rest) "java/lang/ArithmeticException" "/ by zero") :
    W p l e R s m args below meth c H locs cells slots Q (F0 m pc ls (.int b :: .int a :: rest)) := by
  intro T hT X
  obtain ⟨t, st, q⟩ := k T hT X
  exact ⟨t, X.idivZero hexec (g := F0 m pc ls (.int b :: .int a :: rest)) rfl (a := a) (rest := rest) (by rw [h0]) (by rw [hb]; exact d) t st, q⟩
theorem vx_iremZ (hexec : p.tables.exec = Jvm.exec) (hb : c.code = cc) {a b : Int32} (h0 : b = 0) (d : decode cc pc = .ok (.irem, 1)) (k : vx_Note p l e R s m args below meth c H locs cells slots Q (F0 m pc ls rest) "java/lang/ArithmeticException" "/ by zero") :
    W p l e R s m args below meth c H locs cells slots Q (F0 m pc ls (.int b :: .int a :: rest)) := by
  intro T hT X
  obtain ⟨t, st, q⟩ := k T hT X
  exact ⟨t, X.iremZero hexec (g := F0 m pc ls (.int b :: .int a :: rest)) rfl (a := a) (rest := rest) (by rw [h0]) (by rw [hb]; exact d) t st, q⟩
theorem vx_ldivZ (hexec : p.tables.exec = Jvm.exec) (hb : c.code = cc) {a b : Int64} (h0 : b = 0) (d : decode cc pc = .ok (.ldiv, 1)) (k : vx_Note p l e R s m args below meth c H locs cells slots Q (F0 m pc ls rest) "java/lang/ArithmeticException" "/ by zero") :
    W p l e R s m args below meth c H locs cells slots Q (F0 m pc ls (.long b :: .long a :: rest)) := by
  intro T hT X
  obtain ⟨t, st, q⟩ := k T hT X
  exact ⟨t, X.ldivZero hexec (g := F0 m pc ls (.long b :: .long a :: rest)) rfl (a := a) (rest := rest) (by rw [h0]) (by rw [hb]; exact d) t st, q⟩
theorem vx_lremZ (hexec : p.tables.exec = Jvm.exec) (hb : c.code = cc) {a b : Int64} (h0 : b = 0) (d : decode cc pc = .ok (.lrem, 1)) (k : vx_Note p l e R s m args below meth c H locs cells slots Q (F0 m pc ls rest) "java/lang/ArithmeticException" "/ by zero") :
    W p l e R s m args below meth c H locs cells slots Q (F0 m pc ls (.long b :: .long a :: rest)) := by
  intro T hT X
  obtain ⟨t, st, q⟩ := k T hT X
  exact ⟨t, X.lremZero hexec (g := F0 m pc ls (.long b :: .long a :: rest)) rfl (a := a) (rest := rest) (by rw [h0]) (by rw [hb]; exact d) t st, q⟩
theorem vx_ialdZ {D : va_G} {cl : List vw_C} {ws : va_W} {tys : List (ClassId × FieldType)} {a : Nat} (hexec : p.tables.exec = Jvm.exec) (hb : c.code = cc) (hK : va_K D cl tys s) (hP : va_P D cl ws H) (q0 t0 : Nat) {cA : ClassId} {n : Nat} {f : Nat → Int32} (ha : ws[q0]? = some (a, .inl (cA, n, .inl f))) (ht : tys[t0]? = some (cA, .int)) {i : Int32} (hout : ¬ vp_in i n) (hdg : decode cc pc = .ok (.iaload, 1))
    (k : ∀ tx : String, tx = (toString "Index " ++ toString i ++ toString " out of bounds for length " ++ toString n : String) → vx_Note p l e R s m args below meth c H locs cells slots Q (F0 m pc ls rest) "java/lang/ArrayIndexOutOfBoundsException" tx) : W p l e R s m args below meth c H locs cells slots Q (F0 m pc ls (.int i :: .ref a :: rest)) := by
  intro T hT X
  obtain ⟨t, st, q⟩ := k _ rfl T hT X
  refine ⟨t, ?_, q⟩
  have h1 := X.ialoadOut hexec (by rw [hT]; exact hP q0 _ ha) ((hK.2 t0 _ ht).1 n (fun j => .int (f j))) (j := i) (by show (i < 0 ∨ (arrV _ _ _).slots.size ≤ _); rw [arrV_size]; exact Classical.byContradiction hout) (g := F0 m pc ls (.int i :: .ref a :: rest)) rfl (rest := rest) rfl (by rw [hb]; exact hdg) t
  simp only [arrV_size] at h1
  exact h1 st
theorem vx_iastZ {D : va_G} {cl : List vw_C} {ws : va_W} {tys : List (ClassId × FieldType)} {a : Nat} (hexec : p.tables.exec = Jvm.exec) (hb : c.code = cc) (hK : va_K D cl tys s) (hP : va_P D cl ws H) (q0 t0 : Nat) {cA : ClassId} {n : Nat} {f : Nat → Int32} (ha : ws[q0]? = some (a, .inl (cA, n, .inl f))) (ht : tys[t0]? = some (cA, .int)) {i : Int32} {x : Int32} (hout : ¬ vp_in i n) (hdg : decode cc pc = .ok (.iastore, 1))
    (k : ∀ tx : String, tx = (toString "Index " ++ toString i ++ toString " out of bounds for length " ++ toString n : String) → vx_Note p l e R s m args below meth c H locs cells slots Q (F0 m pc ls rest) "java/lang/ArrayIndexOutOfBoundsException" tx) : W p l e R s m args below meth c H locs cells slots Q (F0 m pc ls (.int x :: .int i :: .ref a :: rest)) := by
  intro T hT X
  obtain ⟨t, st, q⟩ := k _ rfl T hT X
  refine ⟨t, ?_, q⟩
  have h1 := X.iastoreOut hexec (by rw [hT]; exact hP q0 _ ha) ((hK.2 t0 _ ht).1 n (fun j => .int (f j))) (j := i) (by show (i < 0 ∨ (arrV _ _ _).slots.size ≤ _); rw [arrV_size]; exact Classical.byContradiction hout) (g := F0 m pc ls (.int x :: .int i :: .ref a :: rest)) rfl (rest := rest) rfl (by rw [hb]; exact hdg) t
  simp only [arrV_size] at h1
  exact h1 st
theorem vx_baldZ {D : va_G} {cl : List vw_C} {ws : va_W} {tys : List (ClassId × FieldType)} {a : Nat} (hexec : p.tables.exec = Jvm.exec) (hb : c.code = cc) (hK : va_K D cl tys s) (hP : va_P D cl ws H) (q0 t0 : Nat) {cA : ClassId} {n : Nat} {f : Nat → Int32} (ha : ws[q0]? = some (a, .inl (cA, n, .inl f))) (ht : tys[t0]? = some (cA, .byte)) {i : Int32} (hout : ¬ vp_in i n) (hdg : decode cc pc = .ok (.baload, 1))
    (k : ∀ tx : String, tx = (toString "Index " ++ toString i ++ toString " out of bounds for length " ++ toString n : String) → vx_Note p l e R s m args below meth c H locs cells slots Q (F0 m pc ls rest) "java/lang/ArrayIndexOutOfBoundsException" tx) : W p l e R s m args below meth c H locs cells slots Q (F0 m pc ls (.int i :: .ref a :: rest)) := by
  intro T hT X
  obtain ⟨t, st, q⟩ := k _ rfl T hT X
  refine ⟨t, ?_, q⟩
  have h1 := X.baloadOut hexec (by rw [hT]; exact hP q0 _ ha) ((hK.2 t0 _ ht).1 n (fun j => .int (f j))) (j := i) (by show (i < 0 ∨ (arrV _ _ _).slots.size ≤ _); rw [arrV_size]; exact Classical.byContradiction hout) (g := F0 m pc ls (.int i :: .ref a :: rest)) rfl (rest := rest) rfl (by rw [hb]; exact hdg) t
  simp only [arrV_size] at h1
  exact h1 st
theorem vx_bastZ {D : va_G} {cl : List vw_C} {ws : va_W} {tys : List (ClassId × FieldType)} {a : Nat} (hexec : p.tables.exec = Jvm.exec) (hb : c.code = cc) (hK : va_K D cl tys s) (hP : va_P D cl ws H) (q0 t0 : Nat) {cA : ClassId} {n : Nat} {f : Nat → Int32} (ha : ws[q0]? = some (a, .inl (cA, n, .inl f))) (ht : tys[t0]? = some (cA, .byte)) {i : Int32} {x : Int32} (hout : ¬ vp_in i n) (hdg : decode cc pc = .ok (.bastore, 1))
    (k : ∀ tx : String, tx = (toString "Index " ++ toString i ++ toString " out of bounds for length " ++ toString n : String) → vx_Note p l e R s m args below meth c H locs cells slots Q (F0 m pc ls rest) "java/lang/ArrayIndexOutOfBoundsException" tx) : W p l e R s m args below meth c H locs cells slots Q (F0 m pc ls (.int x :: .int i :: .ref a :: rest)) := by
  intro T hT X
  obtain ⟨t, st, q⟩ := k _ rfl T hT X
  refine ⟨t, ?_, q⟩
  have h1 := X.bastoreOut hexec (by rw [hT]; exact hP q0 _ ha) ((hK.2 t0 _ ht).1 n (fun j => .int (f j))) (j := i) (by show (i < 0 ∨ (arrV _ _ _).slots.size ≤ _); rw [arrV_size]; exact Classical.byContradiction hout) (g := F0 m pc ls (.int x :: .int i :: .ref a :: rest)) rfl (rest := rest) rfl (by rw [hb]; exact hdg) t
  simp only [arrV_size] at h1
  exact h1 st
theorem vx_zaldZ {D : va_G} {cl : List vw_C} {ws : va_W} {tys : List (ClassId × FieldType)} {a : Nat} (hexec : p.tables.exec = Jvm.exec) (hb : c.code = cc) (hK : va_K D cl tys s) (hP : va_P D cl ws H) (q0 t0 : Nat) {cA : ClassId} {n : Nat} {f : Nat → Int32} (ha : ws[q0]? = some (a, .inl (cA, n, .inl f))) (ht : tys[t0]? = some (cA, .boolean)) {i : Int32} (hout : ¬ vp_in i n) (hdg : decode cc pc = .ok (.baload, 1))
    (k : ∀ tx : String, tx = (toString "Index " ++ toString i ++ toString " out of bounds for length " ++ toString n : String) → vx_Note p l e R s m args below meth c H locs cells slots Q (F0 m pc ls rest) "java/lang/ArrayIndexOutOfBoundsException" tx) : W p l e R s m args below meth c H locs cells slots Q (F0 m pc ls (.int i :: .ref a :: rest)) := by
  intro T hT X
  obtain ⟨t, st, q⟩ := k _ rfl T hT X
  refine ⟨t, ?_, q⟩
  have h1 := X.baloadOut hexec (by rw [hT]; exact hP q0 _ ha) ((hK.2 t0 _ ht).1 n (fun j => .int (f j))) (j := i) (by show (i < 0 ∨ (arrV _ _ _).slots.size ≤ _); rw [arrV_size]; exact Classical.byContradiction hout) (g := F0 m pc ls (.int i :: .ref a :: rest)) rfl (rest := rest) rfl (by rw [hb]; exact hdg) t
  simp only [arrV_size] at h1
  exact h1 st
theorem vx_zastZ {D : va_G} {cl : List vw_C} {ws : va_W} {tys : List (ClassId × FieldType)} {a : Nat} (hexec : p.tables.exec = Jvm.exec) (hb : c.code = cc) (hK : va_K D cl tys s) (hP : va_P D cl ws H) (q0 t0 : Nat) {cA : ClassId} {n : Nat} {f : Nat → Int32} (ha : ws[q0]? = some (a, .inl (cA, n, .inl f))) (ht : tys[t0]? = some (cA, .boolean)) {i : Int32} {x : Int32} (hout : ¬ vp_in i n) (hdg : decode cc pc = .ok (.bastore, 1))
    (k : ∀ tx : String, tx = (toString "Index " ++ toString i ++ toString " out of bounds for length " ++ toString n : String) → vx_Note p l e R s m args below meth c H locs cells slots Q (F0 m pc ls rest) "java/lang/ArrayIndexOutOfBoundsException" tx) : W p l e R s m args below meth c H locs cells slots Q (F0 m pc ls (.int x :: .int i :: .ref a :: rest)) := by
  intro T hT X
  obtain ⟨t, st, q⟩ := k _ rfl T hT X
  refine ⟨t, ?_, q⟩
  have h1 := X.bastoreOut hexec (by rw [hT]; exact hP q0 _ ha) ((hK.2 t0 _ ht).1 n (fun j => .int (f j))) (j := i) (by show (i < 0 ∨ (arrV _ _ _).slots.size ≤ _); rw [arrV_size]; exact Classical.byContradiction hout) (g := F0 m pc ls (.int x :: .int i :: .ref a :: rest)) rfl (rest := rest) rfl (by rw [hb]; exact hdg) t
  simp only [arrV_size] at h1
  exact h1 st
theorem vx_caldZ {D : va_G} {cl : List vw_C} {ws : va_W} {tys : List (ClassId × FieldType)} {a : Nat} (hexec : p.tables.exec = Jvm.exec) (hb : c.code = cc) (hK : va_K D cl tys s) (hP : va_P D cl ws H) (q0 t0 : Nat) {cA : ClassId} {n : Nat} {f : Nat → Int32} (ha : ws[q0]? = some (a, .inl (cA, n, .inl f))) (ht : tys[t0]? = some (cA, .char)) {i : Int32} (hout : ¬ vp_in i n) (hdg : decode cc pc = .ok (.caload, 1))
    (k : ∀ tx : String, tx = (toString "Index " ++ toString i ++ toString " out of bounds for length " ++ toString n : String) → vx_Note p l e R s m args below meth c H locs cells slots Q (F0 m pc ls rest) "java/lang/ArrayIndexOutOfBoundsException" tx) : W p l e R s m args below meth c H locs cells slots Q (F0 m pc ls (.int i :: .ref a :: rest)) := by
  intro T hT X
  obtain ⟨t, st, q⟩ := k _ rfl T hT X
  refine ⟨t, ?_, q⟩
  have h1 := X.caloadOut hexec (by rw [hT]; exact hP q0 _ ha) ((hK.2 t0 _ ht).1 n (fun j => .int (f j))) (j := i) (by show (i < 0 ∨ (arrV _ _ _).slots.size ≤ _); rw [arrV_size]; exact Classical.byContradiction hout) (g := F0 m pc ls (.int i :: .ref a :: rest)) rfl (rest := rest) rfl (by rw [hb]; exact hdg) t
  simp only [arrV_size] at h1
  exact h1 st
theorem vx_castZ {D : va_G} {cl : List vw_C} {ws : va_W} {tys : List (ClassId × FieldType)} {a : Nat} (hexec : p.tables.exec = Jvm.exec) (hb : c.code = cc) (hK : va_K D cl tys s) (hP : va_P D cl ws H) (q0 t0 : Nat) {cA : ClassId} {n : Nat} {f : Nat → Int32} (ha : ws[q0]? = some (a, .inl (cA, n, .inl f))) (ht : tys[t0]? = some (cA, .char)) {i : Int32} {x : Int32} (hout : ¬ vp_in i n) (hdg : decode cc pc = .ok (.castore, 1))
    (k : ∀ tx : String, tx = (toString "Index " ++ toString i ++ toString " out of bounds for length " ++ toString n : String) → vx_Note p l e R s m args below meth c H locs cells slots Q (F0 m pc ls rest) "java/lang/ArrayIndexOutOfBoundsException" tx) : W p l e R s m args below meth c H locs cells slots Q (F0 m pc ls (.int x :: .int i :: .ref a :: rest)) := by
  intro T hT X
  obtain ⟨t, st, q⟩ := k _ rfl T hT X
  refine ⟨t, ?_, q⟩
  have h1 := X.castoreOut hexec (by rw [hT]; exact hP q0 _ ha) ((hK.2 t0 _ ht).1 n (fun j => .int (f j))) (j := i) (by show (i < 0 ∨ (arrV _ _ _).slots.size ≤ _); rw [arrV_size]; exact Classical.byContradiction hout) (g := F0 m pc ls (.int x :: .int i :: .ref a :: rest)) rfl (rest := rest) rfl (by rw [hb]; exact hdg) t
  simp only [arrV_size] at h1
  exact h1 st
theorem vx_saldZ {D : va_G} {cl : List vw_C} {ws : va_W} {tys : List (ClassId × FieldType)} {a : Nat} (hexec : p.tables.exec = Jvm.exec) (hb : c.code = cc) (hK : va_K D cl tys s) (hP : va_P D cl ws H) (q0 t0 : Nat) {cA : ClassId} {n : Nat} {f : Nat → Int32} (ha : ws[q0]? = some (a, .inl (cA, n, .inl f))) (ht : tys[t0]? = some (cA, .short)) {i : Int32} (hout : ¬ vp_in i n) (hdg : decode cc pc = .ok (.saload, 1))
    (k : ∀ tx : String, tx = (toString "Index " ++ toString i ++ toString " out of bounds for length " ++ toString n : String) → vx_Note p l e R s m args below meth c H locs cells slots Q (F0 m pc ls rest) "java/lang/ArrayIndexOutOfBoundsException" tx) : W p l e R s m args below meth c H locs cells slots Q (F0 m pc ls (.int i :: .ref a :: rest)) := by
  intro T hT X
  obtain ⟨t, st, q⟩ := k _ rfl T hT X
  refine ⟨t, ?_, q⟩
  have h1 := X.saloadOut hexec (by rw [hT]; exact hP q0 _ ha) ((hK.2 t0 _ ht).1 n (fun j => .int (f j))) (j := i) (by show (i < 0 ∨ (arrV _ _ _).slots.size ≤ _); rw [arrV_size]; exact Classical.byContradiction hout) (g := F0 m pc ls (.int i :: .ref a :: rest)) rfl (rest := rest) rfl (by rw [hb]; exact hdg) t
  simp only [arrV_size] at h1
  exact h1 st
theorem vx_sastZ {D : va_G} {cl : List vw_C} {ws : va_W} {tys : List (ClassId × FieldType)} {a : Nat} (hexec : p.tables.exec = Jvm.exec) (hb : c.code = cc) (hK : va_K D cl tys s) (hP : va_P D cl ws H) (q0 t0 : Nat) {cA : ClassId} {n : Nat} {f : Nat → Int32} (ha : ws[q0]? = some (a, .inl (cA, n, .inl f))) (ht : tys[t0]? = some (cA, .short)) {i : Int32} {x : Int32} (hout : ¬ vp_in i n) (hdg : decode cc pc = .ok (.sastore, 1))
    (k : ∀ tx : String, tx = (toString "Index " ++ toString i ++ toString " out of bounds for length " ++ toString n : String) → vx_Note p l e R s m args below meth c H locs cells slots Q (F0 m pc ls rest) "java/lang/ArrayIndexOutOfBoundsException" tx) : W p l e R s m args below meth c H locs cells slots Q (F0 m pc ls (.int x :: .int i :: .ref a :: rest)) := by
  intro T hT X
  obtain ⟨t, st, q⟩ := k _ rfl T hT X
  refine ⟨t, ?_, q⟩
  have h1 := X.sastoreOut hexec (by rw [hT]; exact hP q0 _ ha) ((hK.2 t0 _ ht).1 n (fun j => .int (f j))) (j := i) (by show (i < 0 ∨ (arrV _ _ _).slots.size ≤ _); rw [arrV_size]; exact Classical.byContradiction hout) (g := F0 m pc ls (.int x :: .int i :: .ref a :: rest)) rfl (rest := rest) rfl (by rw [hb]; exact hdg) t
  simp only [arrV_size] at h1
  exact h1 st
theorem vx_laldZ {D : va_G} {cl : List vw_C} {ws : va_W} {tys : List (ClassId × FieldType)} {a : Nat} (hexec : p.tables.exec = Jvm.exec) (hb : c.code = cc) (hK : va_K D cl tys s) (hP : va_P D cl ws H) (q0 t0 : Nat) {cA : ClassId} {n : Nat} {f : Nat → Int64} (ha : ws[q0]? = some (a, .inl (cA, n, .inr (.inl f)))) (ht : tys[t0]? = some (cA, .long)) {i : Int32} (hout : ¬ vp_in i n) (hdg : decode cc pc = .ok (.laload, 1))
    (k : ∀ tx : String, tx = (toString "Index " ++ toString i ++ toString " out of bounds for length " ++ toString n : String) → vx_Note p l e R s m args below meth c H locs cells slots Q (F0 m pc ls rest) "java/lang/ArrayIndexOutOfBoundsException" tx) : W p l e R s m args below meth c H locs cells slots Q (F0 m pc ls (.int i :: .ref a :: rest)) := by
  intro T hT X
  obtain ⟨t, st, q⟩ := k _ rfl T hT X
  refine ⟨t, ?_, q⟩
  have h1 := X.laloadOut hexec (by rw [hT]; exact hP q0 _ ha) ((hK.2 t0 _ ht).1 n (fun j => .long (f j))) (j := i) (by show (i < 0 ∨ (arrV _ _ _).slots.size ≤ _); rw [arrV_size]; exact Classical.byContradiction hout) (g := F0 m pc ls (.int i :: .ref a :: rest)) rfl (rest := rest) rfl (by rw [hb]; exact hdg) t
  simp only [arrV_size] at h1
  exact h1 st
theorem vx_lastZ {D : va_G} {cl : List vw_C} {ws : va_W} {tys : List (ClassId × FieldType)} {a : Nat} (hexec : p.tables.exec = Jvm.exec) (hb : c.code = cc) (hK : va_K D cl tys s) (hP : va_P D cl ws H) (q0 t0 : Nat) {cA : ClassId} {n : Nat} {f : Nat → Int64} (ha : ws[q0]? = some (a, .inl (cA, n, .inr (.inl f)))) (ht : tys[t0]? = some (cA, .long)) {i : Int32} {x : Int64} (hout : ¬ vp_in i n) (hdg : decode cc pc = .ok (.lastore, 1))
    (k : ∀ tx : String, tx = (toString "Index " ++ toString i ++ toString " out of bounds for length " ++ toString n : String) → vx_Note p l e R s m args below meth c H locs cells slots Q (F0 m pc ls rest) "java/lang/ArrayIndexOutOfBoundsException" tx) : W p l e R s m args below meth c H locs cells slots Q (F0 m pc ls (.long x :: .int i :: .ref a :: rest)) := by
  intro T hT X
  obtain ⟨t, st, q⟩ := k _ rfl T hT X
  refine ⟨t, ?_, q⟩
  have h1 := X.lastoreOut hexec (by rw [hT]; exact hP q0 _ ha) ((hK.2 t0 _ ht).1 n (fun j => .long (f j))) (j := i) (by show (i < 0 ∨ (arrV _ _ _).slots.size ≤ _); rw [arrV_size]; exact Classical.byContradiction hout) (g := F0 m pc ls (.long x :: .int i :: .ref a :: rest)) rfl (rest := rest) rfl (by rw [hb]; exact hdg) t
  simp only [arrV_size] at h1
  exact h1 st
theorem vx_faldZ {D : va_G} {cl : List vw_C} {ws : va_W} {tys : List (ClassId × FieldType)} {a : Nat} (hexec : p.tables.exec = Jvm.exec) (hb : c.code = cc) (hK : va_K D cl tys s) (hP : va_P D cl ws H) (q0 t0 : Nat) {cA : ClassId} {n : Nat} {f : Nat → UInt32} (ha : ws[q0]? = some (a, .inl (cA, n, .inr (.inr (.inl f))))) (ht : tys[t0]? = some (cA, .float)) {i : Int32} (hout : ¬ vp_in i n) (hdg : decode cc pc = .ok (.faload, 1))
    (k : ∀ tx : String, tx = (toString "Index " ++ toString i ++ toString " out of bounds for length " ++ toString n : String) → vx_Note p l e R s m args below meth c H locs cells slots Q (F0 m pc ls rest) "java/lang/ArrayIndexOutOfBoundsException" tx) : W p l e R s m args below meth c H locs cells slots Q (F0 m pc ls (.int i :: .ref a :: rest)) := by
  intro T hT X
  obtain ⟨t, st, q⟩ := k _ rfl T hT X
  refine ⟨t, ?_, q⟩
  have h1 := X.faloadOut hexec (by rw [hT]; exact hP q0 _ ha) ((hK.2 t0 _ ht).1 n (fun j => .float (f j))) (j := i) (by show (i < 0 ∨ (arrV _ _ _).slots.size ≤ _); rw [arrV_size]; exact Classical.byContradiction hout) (g := F0 m pc ls (.int i :: .ref a :: rest)) rfl (rest := rest) rfl (by rw [hb]; exact hdg) t
  simp only [arrV_size] at h1
  exact h1 st
theorem vx_fastZ {D : va_G} {cl : List vw_C} {ws : va_W} {tys : List (ClassId × FieldType)} {a : Nat} (hexec : p.tables.exec = Jvm.exec) (hb : c.code = cc) (hK : va_K D cl tys s) (hP : va_P D cl ws H) (q0 t0 : Nat) {cA : ClassId} {n : Nat} {f : Nat → UInt32} (ha : ws[q0]? = some (a, .inl (cA, n, .inr (.inr (.inl f))))) (ht : tys[t0]? = some (cA, .float)) {i : Int32} {x : UInt32} (hout : ¬ vp_in i n) (hdg : decode cc pc = .ok (.fastore, 1))
    (k : ∀ tx : String, tx = (toString "Index " ++ toString i ++ toString " out of bounds for length " ++ toString n : String) → vx_Note p l e R s m args below meth c H locs cells slots Q (F0 m pc ls rest) "java/lang/ArrayIndexOutOfBoundsException" tx) : W p l e R s m args below meth c H locs cells slots Q (F0 m pc ls (.float x :: .int i :: .ref a :: rest)) := by
  intro T hT X
  obtain ⟨t, st, q⟩ := k _ rfl T hT X
  refine ⟨t, ?_, q⟩
  have h1 := X.fastoreOut hexec (by rw [hT]; exact hP q0 _ ha) ((hK.2 t0 _ ht).1 n (fun j => .float (f j))) (j := i) (by show (i < 0 ∨ (arrV _ _ _).slots.size ≤ _); rw [arrV_size]; exact Classical.byContradiction hout) (g := F0 m pc ls (.float x :: .int i :: .ref a :: rest)) rfl (rest := rest) rfl (by rw [hb]; exact hdg) t
  simp only [arrV_size] at h1
  exact h1 st
theorem vx_daldZ {D : va_G} {cl : List vw_C} {ws : va_W} {tys : List (ClassId × FieldType)} {a : Nat} (hexec : p.tables.exec = Jvm.exec) (hb : c.code = cc) (hK : va_K D cl tys s) (hP : va_P D cl ws H) (q0 t0 : Nat) {cA : ClassId} {n : Nat} {f : Nat → UInt64} (ha : ws[q0]? = some (a, .inl (cA, n, .inr (.inr (.inr (.inl f)))))) (ht : tys[t0]? = some (cA, .double)) {i : Int32} (hout : ¬ vp_in i n) (hdg : decode cc pc = .ok (.daload, 1))
    (k : ∀ tx : String, tx = (toString "Index " ++ toString i ++ toString " out of bounds for length " ++ toString n : String) → vx_Note p l e R s m args below meth c H locs cells slots Q (F0 m pc ls rest) "java/lang/ArrayIndexOutOfBoundsException" tx) : W p l e R s m args below meth c H locs cells slots Q (F0 m pc ls (.int i :: .ref a :: rest)) := by
  intro T hT X
  obtain ⟨t, st, q⟩ := k _ rfl T hT X
  refine ⟨t, ?_, q⟩
  have h1 := X.daloadOut hexec (by rw [hT]; exact hP q0 _ ha) ((hK.2 t0 _ ht).1 n (fun j => .double (f j))) (j := i) (by show (i < 0 ∨ (arrV _ _ _).slots.size ≤ _); rw [arrV_size]; exact Classical.byContradiction hout) (g := F0 m pc ls (.int i :: .ref a :: rest)) rfl (rest := rest) rfl (by rw [hb]; exact hdg) t
  simp only [arrV_size] at h1
  exact h1 st
theorem vx_dastZ {D : va_G} {cl : List vw_C} {ws : va_W} {tys : List (ClassId × FieldType)} {a : Nat} (hexec : p.tables.exec = Jvm.exec) (hb : c.code = cc) (hK : va_K D cl tys s) (hP : va_P D cl ws H) (q0 t0 : Nat) {cA : ClassId} {n : Nat} {f : Nat → UInt64} (ha : ws[q0]? = some (a, .inl (cA, n, .inr (.inr (.inr (.inl f)))))) (ht : tys[t0]? = some (cA, .double)) {i : Int32} {x : UInt64} (hout : ¬ vp_in i n) (hdg : decode cc pc = .ok (.dastore, 1))
    (k : ∀ tx : String, tx = (toString "Index " ++ toString i ++ toString " out of bounds for length " ++ toString n : String) → vx_Note p l e R s m args below meth c H locs cells slots Q (F0 m pc ls rest) "java/lang/ArrayIndexOutOfBoundsException" tx) : W p l e R s m args below meth c H locs cells slots Q (F0 m pc ls (.double x :: .int i :: .ref a :: rest)) := by
  intro T hT X
  obtain ⟨t, st, q⟩ := k _ rfl T hT X
  refine ⟨t, ?_, q⟩
  have h1 := X.dastoreOut hexec (by rw [hT]; exact hP q0 _ ha) ((hK.2 t0 _ ht).1 n (fun j => .double (f j))) (j := i) (by show (i < 0 ∨ (arrV _ _ _).slots.size ≤ _); rw [arrV_size]; exact Classical.byContradiction hout) (g := F0 m pc ls (.double x :: .int i :: .ref a :: rest)) rfl (rest := rest) rfl (by rw [hb]; exact hdg) t
  simp only [arrV_size] at h1
  exact h1 st
theorem vx_arraylengthN (hexec : p.tables.exec = Jvm.exec) (hb : c.code = cc) (hdg : decode cc pc = .ok (.arraylength, 1)) (k : vx_NoteN p l e R s m args below meth c H locs cells slots Q (F0 m pc ls rest)) : W p l e R s m args below meth c H locs cells slots Q (F0 m pc ls (.null :: rest)) := by
  intro T hT X
  obtain ⟨t, st, q⟩ := k T hT X
  exact ⟨t, X.arraylengthNull hexec (g := F0 m pc ls (.null :: rest)) rfl (rest := rest) rfl (by rw [hb]; exact hdg) t st, q⟩
theorem vx_ialoadN (hexec : p.tables.exec = Jvm.exec) (hb : c.code = cc) {i : Int32} (hdg : decode cc pc = .ok (.iaload, 1)) (k : vx_NoteN p l e R s m args below meth c H locs cells slots Q (F0 m pc ls rest)) : W p l e R s m args below meth c H locs cells slots Q (F0 m pc ls (.int i :: .null :: rest)) := by
  intro T hT X
  obtain ⟨t, st, q⟩ := k T hT X
  exact ⟨t, X.ialoadNull hexec (g := F0 m pc ls (.int i :: .null :: rest)) rfl (rest := rest) rfl (by rw [hb]; exact hdg) t st, q⟩
theorem vx_laloadN (hexec : p.tables.exec = Jvm.exec) (hb : c.code = cc) {i : Int32} (hdg : decode cc pc = .ok (.laload, 1)) (k : vx_NoteN p l e R s m args below meth c H locs cells slots Q (F0 m pc ls rest)) : W p l e R s m args below meth c H locs cells slots Q (F0 m pc ls (.int i :: .null :: rest)) := by
  intro T hT X
  obtain ⟨t, st, q⟩ := k T hT X
  exact ⟨t, X.laloadNull hexec (g := F0 m pc ls (.int i :: .null :: rest)) rfl (rest := rest) rfl (by rw [hb]; exact hdg) t st, q⟩
theorem vx_faloadN (hexec : p.tables.exec = Jvm.exec) (hb : c.code = cc) {i : Int32} (hdg : decode cc pc = .ok (.faload, 1)) (k : vx_NoteN p l e R s m args below meth c H locs cells slots Q (F0 m pc ls rest)) : W p l e R s m args below meth c H locs cells slots Q (F0 m pc ls (.int i :: .null :: rest)) := by
  intro T hT X
  obtain ⟨t, st, q⟩ := k T hT X
  exact ⟨t, X.faloadNull hexec (g := F0 m pc ls (.int i :: .null :: rest)) rfl (rest := rest) rfl (by rw [hb]; exact hdg) t st, q⟩
theorem vx_daloadN (hexec : p.tables.exec = Jvm.exec) (hb : c.code = cc) {i : Int32} (hdg : decode cc pc = .ok (.daload, 1)) (k : vx_NoteN p l e R s m args below meth c H locs cells slots Q (F0 m pc ls rest)) : W p l e R s m args below meth c H locs cells slots Q (F0 m pc ls (.int i :: .null :: rest)) := by
  intro T hT X
  obtain ⟨t, st, q⟩ := k T hT X
  exact ⟨t, X.daloadNull hexec (g := F0 m pc ls (.int i :: .null :: rest)) rfl (rest := rest) rfl (by rw [hb]; exact hdg) t st, q⟩
theorem vx_aaloadN (hexec : p.tables.exec = Jvm.exec) (hb : c.code = cc) {i : Int32} (hdg : decode cc pc = .ok (.aaload, 1)) (k : vx_NoteN p l e R s m args below meth c H locs cells slots Q (F0 m pc ls rest)) : W p l e R s m args below meth c H locs cells slots Q (F0 m pc ls (.int i :: .null :: rest)) := by
  intro T hT X
  obtain ⟨t, st, q⟩ := k T hT X
  exact ⟨t, X.aaloadNull hexec (g := F0 m pc ls (.int i :: .null :: rest)) rfl (rest := rest) rfl (by rw [hb]; exact hdg) t st, q⟩
theorem vx_baloadN (hexec : p.tables.exec = Jvm.exec) (hb : c.code = cc) {i : Int32} (hdg : decode cc pc = .ok (.baload, 1)) (k : vx_NoteN p l e R s m args below meth c H locs cells slots Q (F0 m pc ls rest)) : W p l e R s m args below meth c H locs cells slots Q (F0 m pc ls (.int i :: .null :: rest)) := by
  intro T hT X
  obtain ⟨t, st, q⟩ := k T hT X
  exact ⟨t, X.baloadNull hexec (g := F0 m pc ls (.int i :: .null :: rest)) rfl (rest := rest) rfl (by rw [hb]; exact hdg) t st, q⟩
theorem vx_caloadN (hexec : p.tables.exec = Jvm.exec) (hb : c.code = cc) {i : Int32} (hdg : decode cc pc = .ok (.caload, 1)) (k : vx_NoteN p l e R s m args below meth c H locs cells slots Q (F0 m pc ls rest)) : W p l e R s m args below meth c H locs cells slots Q (F0 m pc ls (.int i :: .null :: rest)) := by
  intro T hT X
  obtain ⟨t, st, q⟩ := k T hT X
  exact ⟨t, X.caloadNull hexec (g := F0 m pc ls (.int i :: .null :: rest)) rfl (rest := rest) rfl (by rw [hb]; exact hdg) t st, q⟩
theorem vx_saloadN (hexec : p.tables.exec = Jvm.exec) (hb : c.code = cc) {i : Int32} (hdg : decode cc pc = .ok (.saload, 1)) (k : vx_NoteN p l e R s m args below meth c H locs cells slots Q (F0 m pc ls rest)) : W p l e R s m args below meth c H locs cells slots Q (F0 m pc ls (.int i :: .null :: rest)) := by
  intro T hT X
  obtain ⟨t, st, q⟩ := k T hT X
  exact ⟨t, X.saloadNull hexec (g := F0 m pc ls (.int i :: .null :: rest)) rfl (rest := rest) rfl (by rw [hb]; exact hdg) t st, q⟩
theorem vx_iastoreN (hexec : p.tables.exec = Jvm.exec) (hb : c.code = cc) {x : Int32} {i : Int32} (hdg : decode cc pc = .ok (.iastore, 1)) (k : vx_NoteN p l e R s m args below meth c H locs cells slots Q (F0 m pc ls rest)) : W p l e R s m args below meth c H locs cells slots Q (F0 m pc ls (.int x :: .int i :: .null :: rest)) := by
  intro T hT X
  obtain ⟨t, st, q⟩ := k T hT X
  exact ⟨t, X.iastoreNull hexec (g := F0 m pc ls (.int x :: .int i :: .null :: rest)) rfl (rest := rest) rfl (by rw [hb]; exact hdg) t st, q⟩
theorem vx_lastoreN (hexec : p.tables.exec = Jvm.exec) (hb : c.code = cc) {x : Int64} {i : Int32} (hdg : decode cc pc = .ok (.lastore, 1)) (k : vx_NoteN p l e R s m args below meth c H locs cells slots Q (F0 m pc ls rest)) : W p l e R s m args below meth c H locs cells slots Q (F0 m pc ls (.long x :: .int i :: .null :: rest)) := by
  intro T hT X
  obtain ⟨t, st, q⟩ := k T hT X
  exact ⟨t, X.lastoreNull hexec (g := F0 m pc ls (.long x :: .int i :: .null :: rest)) rfl (rest := rest) rfl (by rw [hb]; exact hdg) t st, q⟩
theorem vx_fastoreN (hexec : p.tables.exec = Jvm.exec) (hb : c.code = cc) {x : UInt32} {i : Int32} (hdg : decode cc pc = .ok (.fastore, 1)) (k : vx_NoteN p l e R s m args below meth c H locs cells slots Q (F0 m pc ls rest)) : W p l e R s m args below meth c H locs cells slots Q (F0 m pc ls (.float x :: .int i :: .null :: rest)) := by
  intro T hT X
  obtain ⟨t, st, q⟩ := k T hT X
  exact ⟨t, X.fastoreNull hexec (g := F0 m pc ls (.float x :: .int i :: .null :: rest)) rfl (rest := rest) rfl (by rw [hb]; exact hdg) t st, q⟩
theorem vx_dastoreN (hexec : p.tables.exec = Jvm.exec) (hb : c.code = cc) {x : UInt64} {i : Int32} (hdg : decode cc pc = .ok (.dastore, 1)) (k : vx_NoteN p l e R s m args below meth c H locs cells slots Q (F0 m pc ls rest)) : W p l e R s m args below meth c H locs cells slots Q (F0 m pc ls (.double x :: .int i :: .null :: rest)) := by
  intro T hT X
  obtain ⟨t, st, q⟩ := k T hT X
  exact ⟨t, X.dastoreNull hexec (g := F0 m pc ls (.double x :: .int i :: .null :: rest)) rfl (rest := rest) rfl (by rw [hb]; exact hdg) t st, q⟩
theorem vx_bastoreN (hexec : p.tables.exec = Jvm.exec) (hb : c.code = cc) {x : Int32} {i : Int32} (hdg : decode cc pc = .ok (.bastore, 1)) (k : vx_NoteN p l e R s m args below meth c H locs cells slots Q (F0 m pc ls rest)) : W p l e R s m args below meth c H locs cells slots Q (F0 m pc ls (.int x :: .int i :: .null :: rest)) := by
  intro T hT X
  obtain ⟨t, st, q⟩ := k T hT X
  exact ⟨t, X.bastoreNull hexec (g := F0 m pc ls (.int x :: .int i :: .null :: rest)) rfl (rest := rest) rfl (by rw [hb]; exact hdg) t st, q⟩
theorem vx_castoreN (hexec : p.tables.exec = Jvm.exec) (hb : c.code = cc) {x : Int32} {i : Int32} (hdg : decode cc pc = .ok (.castore, 1)) (k : vx_NoteN p l e R s m args below meth c H locs cells slots Q (F0 m pc ls rest)) : W p l e R s m args below meth c H locs cells slots Q (F0 m pc ls (.int x :: .int i :: .null :: rest)) := by
  intro T hT X
  obtain ⟨t, st, q⟩ := k T hT X
  exact ⟨t, X.castoreNull hexec (g := F0 m pc ls (.int x :: .int i :: .null :: rest)) rfl (rest := rest) rfl (by rw [hb]; exact hdg) t st, q⟩
theorem vx_sastoreN (hexec : p.tables.exec = Jvm.exec) (hb : c.code = cc) {x : Int32} {i : Int32} (hdg : decode cc pc = .ok (.sastore, 1)) (k : vx_NoteN p l e R s m args below meth c H locs cells slots Q (F0 m pc ls rest)) : W p l e R s m args below meth c H locs cells slots Q (F0 m pc ls (.int x :: .int i :: .null :: rest)) := by
  intro T hT X
  obtain ⟨t, st, q⟩ := k T hT X
  exact ⟨t, X.sastoreNull hexec (g := F0 m pc ls (.int x :: .int i :: .null :: rest)) rfl (rest := rest) rfl (by rw [hb]; exact hdg) t st, q⟩
theorem vx_invokeN {own C : String} {index maxL : Nat} {y : MethodName} {bytes : ByteArray} {ret : Option FieldType} (hexec : p.tables.exec = Jvm.exec) (hb : c.code = cc) (hown : s.vm.findClass own = some m.cls) (hlink : (Cond.methodLink own index y).before args s = true) (hinst : (Cond.instanceMethod y).before args s = true) (hcode : (Cond.code y bytes maxL ret).before args s = true) (hsel : (Cond.selects C y y).before args s = true)
    (hx : y.cls ≠ "java/lang/invoke/MethodHandle" ∧ y.cls ≠ "java/lang/invoke/VarHandle") {As : List Value} (hlen : (parseMethodDescriptor y.desc).map (fun d => d.parameters.length) = some As.length) (hdg : decode cc pc = .ok (.invokevirtual index, 3))
    (k : vx_NoteN p l e R s m args below meth c H locs cells slots Q (F0 m pc ls rest)) {st0 : List Value} (hst : st0 = As.reverse ++ .null :: rest) : W p l e R s m args below meth c H locs cells slots Q (F0 m pc ls st0) := by
  intro T hT X
  obtain ⟨r0, r, hn, hrm, hstR, hsigR⟩ := va_Decl.of hinst hcode
  obtain ⟨c2, r2, m2, q1, q2, q3, q4, kP, hkP, hkPi⟩ := Cond.selects_spec hsel
  cases hn.symm.trans q3
  have hl9 : As.length = r.sig.parameters.length := by
    rw [hsigR] at hlen
    exact (Option.some.inj hlen).symm
  obtain ⟨vm', X1, st1⟩ := X.invokevirtualNull hexec hown hlink hn hrm hstR hkP hkPi hx (g := F0 m pc ls st0) rfl (argsL := As) (rest := rest) hl9 hst (by rw [hb]; exact hdg)
  obtain ⟨t, st, q⟩ := k (T.setVm vm') hT X1
  exact ⟨t, st1 t st, q⟩
theorem vx_newarrayZ {atype : ArrayType} (hexec : p.tables.exec = Jvm.exec) (hb : c.code = cc) {n : Int32} (h0 : n < 0) (hdg : decode cc pc = .ok (.newarray atype, 2)) (k : ∀ tx : String, tx = toString n → vx_Note p l e R s m args below meth c H locs cells slots Q (F0 m pc ls rest) "java/lang/NegativeArraySizeException" tx) : W p l e R s m args below meth c H locs cells slots Q (F0 m pc ls (.int n :: rest)) := by
  intro T hT X
  obtain ⟨t, st, q⟩ := k _ rfl T hT X
  exact ⟨t, X.newarrayNegative hexec (g := F0 m pc ls (.int n :: rest)) rfl h0 (rest := rest) rfl (by rw [hb]; exact hdg) t st, q⟩
end
end VXM
/-! ===== END ===== -/

def RX0 : String := "Rowtricks$Part"
def TX0 : u_T := fun k => match k with
  | 0 => ("Rowtricks$Part", "row", "LRowtricks$Row;", false)
  | 1 => ("Rowtricks$Part", "whole", "LRowtricks$Part;", false)
  | 2 => ("Rowtricks$Part", "from", "I", false)
  | _ => ("Rowtricks$Part", "to", "I", false)
def tyX0 : Nat → FieldType := fun k => match k with
  | 0 => .object "Rowtricks$Row"
  | 1 => .object "Rowtricks$Part"
  | 2 => .int
  | _ => .int
abbrev wsX00 : List Cond := u_ws RX0 TX0 4
theorem nmX0 : ∀ a, a < 4 → ∀ b, b < 4 → a ≠ b → (TX0 a).2.1 ≠ (TX0 b).2.1 := by decide +kernel
theorem tyX0_ok : ∀ k, k < 4 → parseFieldDescriptor (TX0 k).2.2.1 = some (tyX0 k) := by decide +kernel
abbrev cX0_init : ByteArray := prog_2_method_1_code
def yX0_init : MethodName := ⟨RX0, "<init>", "()V"⟩
abbrev cX0_lay : ByteArray := prog_2_method_2_code
def yX0_lay : MethodName := ⟨RX0, "lay", "(LRowtricks$Row;LRowtricks$Part;II)V"⟩
abbrev cX0_isThere : ByteArray := prog_2_method_3_code
def yX0_isThere : MethodName := ⟨RX0, "isThere", "()Z"⟩
abbrev cX0_many : ByteArray := prog_2_method_4_code
def yX0_many : MethodName := ⟨RX0, "many", "()I"⟩
abbrev cX0_hasPlace : ByteArray := prog_2_method_5_code
def yX0_hasPlace : MethodName := ⟨RX0, "hasPlace", "(I)Z"⟩
abbrev cX0_isWithin : ByteArray := prog_2_method_6_code
def yX0_isWithin : MethodName := ⟨RX0, "isWithin", "(LRowtricks$Part;)Z"⟩
def RX1 : String := "Rowtricks$Row"
def TX1 : u_T := fun k => match k with
  | 0 => ("Rowtricks$Row", "cards", "[I", true)
  | 1 => ("Rowtricks$Row", "count", "I", false)
  | 2 => ("Rowtricks$Row", "state", "I", false)
  | _ => ("Rowtricks$Row", "next", "I", false)
def tyX1 : Nat → FieldType := fun k => match k with
  | 0 => .array .int
  | 1 => .int
  | 2 => .int
  | _ => .int
abbrev wsX10 : List Cond := u_ws RX1 TX1 4
theorem nmX1 : ∀ a, a < 4 → ∀ b, b < 4 → a ≠ b → (TX1 a).2.1 ≠ (TX1 b).2.1 := by decide +kernel
theorem tyX1_ok : ∀ k, k < 4 → parseFieldDescriptor (TX1 k).2.2.1 = some (tyX1 k) := by decide +kernel
abbrev cX1_init : ByteArray := prog_3_method_1_code
def yX1_init : MethodName := ⟨RX1, "<init>", "()V"⟩
abbrev cX1_hasPlace : ByteArray := prog_3_method_2_code
def yX1_hasPlace : MethodName := ⟨RX1, "hasPlace", "(I)Z"⟩
abbrev cX1_cardAt : ByteArray := prog_3_method_3_code
def yX1_cardAt : MethodName := ⟨RX1, "cardAt", "(I)I"⟩
abbrev cX1_valueAt : ByteArray := prog_3_method_4_code
def yX1_valueAt : MethodName := ⟨RX1, "valueAt", "(I)I"⟩
abbrev cX1_markAt : ByteArray := prog_3_method_5_code
def yX1_markAt : MethodName := ⟨RX1, "markAt", "(I)I"⟩
abbrev cX1_firstValue : ByteArray := prog_3_method_6_code
def yX1_firstValue : MethodName := ⟨RX1, "firstValue", "(II)I"⟩
abbrev cX1_put : ByteArray := prog_3_method_7_code
def yX1_put : MethodName := ⟨RX1, "put", "(II)V"⟩
abbrev cX1_putBehind : ByteArray := prog_3_method_8_code
def yX1_putBehind : MethodName := ⟨RX1, "putBehind", "(I)V"⟩
abbrev cX1_putBetween : ByteArray := prog_3_method_9_code
def yX1_putBetween : MethodName := ⟨RX1, "putBetween", "(II)V"⟩
abbrev cX1_putCopiesBehind : ByteArray := prog_3_method_10_code
def yX1_putCopiesBehind : MethodName := ⟨RX1, "putCopiesBehind", "(II)V"⟩
abbrev cX1_putAllBehind : ByteArray := prog_3_method_11_code
def yX1_putAllBehind : MethodName := ⟨RX1, "putAllBehind", "(LRowtricks$Row;)V"⟩
abbrev cX1_becomeLike : ByteArray := prog_3_method_12_code
def yX1_becomeLike : MethodName := ⟨RX1, "becomeLike", "(LRowtricks$Row;)V"⟩
abbrev cX1_takeOut : ByteArray := prog_3_method_13_code
def yX1_takeOut : MethodName := ⟨RX1, "takeOut", "(II)V"⟩
abbrev cX1_exchange : ByteArray := prog_3_method_14_code
def yX1_exchange : MethodName := ⟨RX1, "exchange", "(II)V"⟩
abbrev cX1_turn : ByteArray := prog_3_method_15_code
def yX1_turn : MethodName := ⟨RX1, "turn", "(II)V"⟩
abbrev cX1_push : ByteArray := prog_3_method_16_code
def yX1_push : MethodName := ⟨RX1, "push", "(III)V"⟩
abbrev cX1_arrange : ByteArray := prog_3_method_17_code
def yX1_arrange : MethodName := ⟨RX1, "arrange", "(IIZ)V"⟩
abbrev cX1_settle : ByteArray := prog_3_method_18_code
def yX1_settle : MethodName := ⟨RX1, "settle", "(IIZ)V"⟩
abbrev cX1_howOften : ByteArray := prog_3_method_19_code
def yX1_howOften : MethodName := ⟨RX1, "howOften", "(I)I"⟩
abbrev cX1_firstPlaceOf : ByteArray := prog_3_method_20_code
def yX1_firstPlaceOf : MethodName := ⟨RX1, "firstPlaceOf", "(I)I"⟩
abbrev cX1_lastPlaceOf : ByteArray := prog_3_method_21_code
def yX1_lastPlaceOf : MethodName := ⟨RX1, "lastPlaceOf", "(I)I"⟩
abbrev cX1_isLike : ByteArray := prog_3_method_22_code
def yX1_isLike : MethodName := ⟨RX1, "isLike", "(LRowtricks$Row;)Z"⟩
abbrev cX1_hasFrom : ByteArray := prog_3_method_23_code
def yX1_hasFrom : MethodName := ⟨RX1, "hasFrom", "(ILRowtricks$Row;II)Z"⟩
abbrev cX1_placeOf : ByteArray := prog_3_method_24_code
def yX1_placeOf : MethodName := ⟨RX1, "placeOf", "(IILRowtricks$Row;II)I"⟩
def RX2 : String := "Rowtricks"
def TX2 : u_T := fun k => match k with
  | 0 => ("Rowtricks", "rows", "[LRowtricks$Row;", true)
  | 1 => ("Rowtricks", "parts", "[LRowtricks$Part;", true)
  | 2 => ("Rowtricks", "spare", "LRowtricks$Row;", true)
  | _ => ("Rowtricks", "knocks", "I", false)
def tyX2 : Nat → FieldType := fun k => match k with
  | 0 => .array (.object "Rowtricks$Row")
  | 1 => .array (.object "Rowtricks$Part")
  | 2 => .object "Rowtricks$Row"
  | _ => .int
abbrev wsX20 : List Cond := u_ws RX2 TX2 4
theorem nmX2 : ∀ a, a < 4 → ∀ b, b < 4 → a ≠ b → (TX2 a).2.1 ≠ (TX2 b).2.1 := by decide +kernel
theorem tyX2_ok : ∀ k, k < 4 → parseFieldDescriptor (TX2 k).2.2.1 = some (tyX2 k) := by decide +kernel
abbrev cX2_init : ByteArray := prog_1_method_1_code
def yX2_init : MethodName := ⟨RX2, "<init>", "()V"⟩
abbrev cX2_add : ByteArray := prog_1_method_2_code
def yX2_add : MethodName := ⟨RX2, "add", "(III)I"⟩
abbrev cX2_insert : ByteArray := prog_1_method_3_code
def yX2_insert : MethodName := ⟨RX2, "insert", "(IIII)I"⟩
abbrev cX2_remove : ByteArray := prog_1_method_4_code
def yX2_remove : MethodName := ⟨RX2, "remove", "(II)I"⟩
abbrev cX2_set : ByteArray := prog_1_method_5_code
def yX2_set : MethodName := ⟨RX2, "set", "(IIII)I"⟩
abbrev cX2_clear : ByteArray := prog_1_method_6_code
def yX2_clear : MethodName := ⟨RX2, "clear", "(I)I"⟩
abbrev cX2_addTwo : ByteArray := prog_1_method_7_code
def yX2_addTwo : MethodName := ⟨RX2, "addTwo", "(IIIII)I"⟩
abbrev cX2_addCopies : ByteArray := prog_1_method_8_code
def yX2_addCopies : MethodName := ⟨RX2, "addCopies", "(IIII)I"⟩
abbrev cX2_append : ByteArray := prog_1_method_9_code
def yX2_append : MethodName := ⟨RX2, "append", "(II)I"⟩
abbrev cX2_copy : ByteArray := prog_1_method_10_code
def yX2_copy : MethodName := ⟨RX2, "copy", "(II)I"⟩
abbrev cX2_fill : ByteArray := prog_1_method_11_code
def yX2_fill : MethodName := ⟨RX2, "fill", "(III)I"⟩
abbrev cX2_replace : ByteArray := prog_1_method_12_code
def yX2_replace : MethodName := ⟨RX2, "replace", "(IIIII)Z"⟩
abbrev cX2_reverse : ByteArray := prog_1_method_13_code
def yX2_reverse : MethodName := ⟨RX2, "reverse", "(I)I"⟩
abbrev cX2_rotate : ByteArray := prog_1_method_14_code
def yX2_rotate : MethodName := ⟨RX2, "rotate", "(II)I"⟩
abbrev cX2_swap : ByteArray := prog_1_method_15_code
def yX2_swap : MethodName := ⟨RX2, "swap", "(III)I"⟩
abbrev cX2_sort : ByteArray := prog_1_method_16_code
def yX2_sort : MethodName := ⟨RX2, "sort", "(IZ)I"⟩
abbrev cX2_size : ByteArray := prog_1_method_17_code
def yX2_size : MethodName := ⟨RX2, "size", "(I)I"⟩
abbrev cX2_text : ByteArray := prog_1_method_18_code
def yX2_text : MethodName := ⟨RX2, "text", "(I)Ljava/lang/String;"⟩
abbrev cX2_at : ByteArray := prog_1_method_19_code
def yX2_at : MethodName := ⟨RX2, "at", "(IIZ)I"⟩
abbrev cX2_frequency : ByteArray := prog_1_method_20_code
def yX2_frequency : MethodName := ⟨RX2, "frequency", "(III)I"⟩
abbrev cX2_indexOf : ByteArray := prog_1_method_21_code
def yX2_indexOf : MethodName := ⟨RX2, "indexOf", "(IIIZ)I"⟩
abbrev cX2_disjoint : ByteArray := prog_1_method_22_code
def yX2_disjoint : MethodName := ⟨RX2, "disjoint", "(II)Z"⟩
abbrev cX2_isSame : ByteArray := prog_1_method_23_code
def yX2_isSame : MethodName := ⟨RX2, "isSame", "(II)Z"⟩
abbrev cX2_indexOfRow : ByteArray := prog_1_method_24_code
def yX2_indexOfRow : MethodName := ⟨RX2, "indexOfRow", "(II)I"⟩
abbrev cX2_most : ByteArray := prog_1_method_25_code
def yX2_most : MethodName := ⟨RX2, "most", "(IZ)I"⟩
abbrev cX2_mostTurned : ByteArray := prog_1_method_26_code
def yX2_mostTurned : MethodName := ⟨RX2, "mostTurned", "(IZ)I"⟩
abbrev cX2_search : ByteArray := prog_1_method_27_code
def yX2_search : MethodName := ⟨RX2, "search", "(II)I"⟩
abbrev cX2_state : ByteArray := prog_1_method_28_code
def yX2_state : MethodName := ⟨RX2, "state", "(I)I"⟩
abbrev cX2_compare : ByteArray := prog_1_method_29_code
def yX2_compare : MethodName := ⟨RX2, "compare", "(II)I"⟩
abbrev cX2_copiesIn : ByteArray := prog_1_method_30_code
def yX2_copiesIn : MethodName := ⟨RX2, "copiesIn", "(IIII)I"⟩
abbrev cX2_part : ByteArray := prog_1_method_31_code
def yX2_part : MethodName := ⟨RX2, "part", "(IIII)I"⟩
abbrev cX2_inner : ByteArray := prog_1_method_32_code
def yX2_inner : MethodName := ⟨RX2, "inner", "(IIII)I"⟩
abbrev cX2_drop : ByteArray := prog_1_method_33_code
def yX2_drop : MethodName := ⟨RX2, "drop", "(I)I"⟩
abbrev cX2_cut : ByteArray := prog_1_method_34_code
def yX2_cut : MethodName := ⟨RX2, "cut", "(I)I"⟩
abbrev cX2_setIn : ByteArray := prog_1_method_35_code
def yX2_setIn : MethodName := ⟨RX2, "setIn", "(IIII)I"⟩
abbrev cX2_reverseIn : ByteArray := prog_1_method_36_code
def yX2_reverseIn : MethodName := ⟨RX2, "reverseIn", "(I)I"⟩
abbrev cX2_rotateIn : ByteArray := prog_1_method_37_code
def yX2_rotateIn : MethodName := ⟨RX2, "rotateIn", "(II)I"⟩
abbrev cX2_swapIn : ByteArray := prog_1_method_38_code
def yX2_swapIn : MethodName := ⟨RX2, "swapIn", "(III)I"⟩
abbrev cX2_sortIn : ByteArray := prog_1_method_39_code
def yX2_sortIn : MethodName := ⟨RX2, "sortIn", "(I)I"⟩
abbrev cX2_textIn : ByteArray := prog_1_method_40_code
def yX2_textIn : MethodName := ⟨RX2, "textIn", "(I)Ljava/lang/String;"⟩
abbrev cX2_sizeIn : ByteArray := prog_1_method_41_code
def yX2_sizeIn : MethodName := ⟨RX2, "sizeIn", "(I)I"⟩
abbrev cX2_indexOfIn : ByteArray := prog_1_method_42_code
def yX2_indexOfIn : MethodName := ⟨RX2, "indexOfIn", "(IIZ)I"⟩
abbrev cX2_refuse : ByteArray := prog_1_method_43_code
def yX2_refuse : MethodName := ⟨RX2, "refuse", "(III)I"⟩
abbrev cX2_viewText : ByteArray := prog_1_method_44_code
def yX2_viewText : MethodName := ⟨RX2, "viewText", "(I)Ljava/lang/String;"⟩
abbrev cX2_viewFrequency : ByteArray := prog_1_method_45_code
def yX2_viewFrequency : MethodName := ⟨RX2, "viewFrequency", "(III)I"⟩
abbrev cX2_walk : ByteArray := prog_1_method_46_code
def yX2_walk : MethodName := ⟨RX2, "walk", "(I)I"⟩
abbrev cX2_step : ByteArray := prog_1_method_47_code
def yX2_step : MethodName := ⟨RX2, "step", "(I)I"⟩
abbrev cX2_hasStep : ByteArray := prog_1_method_48_code
def yX2_hasStep : MethodName := ⟨RX2, "hasStep", "(I)I"⟩
abbrev cX2_house : ByteArray := prog_1_method_49_code
def yX2_house : MethodName := ⟨RX2, "house", "(I)I"⟩
abbrev cX2_knock : ByteArray := prog_1_method_50_code
def yX2_knock : MethodName := ⟨RX2, "knock", "()I"⟩
abbrev cX2_isSound : ByteArray := prog_1_method_51_code
def yX2_isSound : MethodName := ⟨RX2, "isSound", "()Z"⟩
abbrev cX2_digest : ByteArray := prog_1_method_52_code
def yX2_digest : MethodName := ⟨RX2, "digest", "()J"⟩
abbrev cX2_rowOf : ByteArray := prog_1_method_53_code
def yX2_rowOf : MethodName := ⟨RX2, "rowOf", "(I)LRowtricks$Row;"⟩
abbrev cX2_partOf : ByteArray := prog_1_method_54_code
def yX2_partOf : MethodName := ⟨RX2, "partOf", "(I)LRowtricks$Part;"⟩
abbrev cX2_needThere : ByteArray := prog_1_method_55_code
def yX2_needThere : MethodName := ⟨RX2, "needThere", "(LRowtricks$Part;)LRowtricks$Row;"⟩
abbrev cX2_needPlace : ByteArray := prog_1_method_56_code
def yX2_needPlace : MethodName := ⟨RX2, "needPlace", "(LRowtricks$Row;I)V"⟩
abbrev cX2_needRoom : ByteArray := prog_1_method_57_code
def yX2_needRoom : MethodName := ⟨RX2, "needRoom", "(LRowtricks$Row;I)V"⟩
abbrev cX2_needDifferent : ByteArray := prog_1_method_58_code
def yX2_needDifferent : MethodName := ⟨RX2, "needDifferent", "(II)V"⟩
abbrev cX2_needCopies : ByteArray := prog_1_method_59_code
def yX2_needCopies : MethodName := ⟨RX2, "needCopies", "(I)V"⟩
abbrev cX2_needValue : ByteArray := prog_1_method_60_code
def yX2_needValue : MethodName := ⟨RX2, "needValue", "(I)V"⟩
abbrev cX2_cardOf : ByteArray := prog_1_method_61_code
def yX2_cardOf : MethodName := ⟨RX2, "cardOf", "(II)I"⟩
abbrev cX2_isSpan : ByteArray := prog_1_method_62_code
def yX2_isSpan : MethodName := ⟨RX2, "isSpan", "(III)Z"⟩
abbrev cX2_reshape : ByteArray := prog_1_method_63_code
def yX2_reshape : MethodName := ⟨RX2, "reshape", "(LRowtricks$Row;)V"⟩
abbrev cX2_changeBy : ByteArray := prog_1_method_64_code
def yX2_changeBy : MethodName := ⟨RX2, "changeBy", "(LRowtricks$Row;I)V"⟩
abbrev cX2_lose : ByteArray := prog_1_method_65_code
def yX2_lose : MethodName := ⟨RX2, "lose", "(LRowtricks$Part;)V"⟩
abbrev cX2_shrinkAround : ByteArray := prog_1_method_66_code
def yX2_shrinkAround : MethodName := ⟨RX2, "shrinkAround", "(LRowtricks$Part;LRowtricks$Row;I)V"⟩
abbrev cX2_exchangeCard : ByteArray := prog_1_method_67_code
def yX2_exchangeCard : MethodName := ⟨RX2, "exchangeCard", "(LRowtricks$Row;II)I"⟩
abbrev cX2_changePlaces : ByteArray := prog_1_method_68_code
def yX2_changePlaces : MethodName := ⟨RX2, "changePlaces", "(LRowtricks$Row;II)I"⟩
abbrev cX2_turnSpan : ByteArray := prog_1_method_69_code
def yX2_turnSpan : MethodName := ⟨RX2, "turnSpan", "(LRowtricks$Row;II)I"⟩
abbrev cX2_pushSpan : ByteArray := prog_1_method_70_code
def yX2_pushSpan : MethodName := ⟨RX2, "pushSpan", "(LRowtricks$Row;III)I"⟩
abbrev cX2_comesBefore : ByteArray := prog_1_method_71_code
def yX2_comesBefore : MethodName := ⟨RX2, "comesBefore", "(IIZ)Z"⟩
abbrev cX2_extremeOf : ByteArray := prog_1_method_72_code
def yX2_extremeOf : MethodName := ⟨RX2, "extremeOf", "(LRowtricks$Row;Z)I"⟩
abbrev cX2_haveNoneInCommon : ByteArray := prog_1_method_73_code
def yX2_haveNoneInCommon : MethodName := ⟨RX2, "haveNoneInCommon", "(LRowtricks$Row;LRowtricks$Row;)Z"⟩
abbrev cX2_placeOfRow : ByteArray := prog_1_method_74_code
def yX2_placeOfRow : MethodName := ⟨RX2, "placeOfRow", "(LRowtricks$Row;LRowtricks$Row;)I"⟩
abbrev cX2_stepsLeft : ByteArray := prog_1_method_75_code
def yX2_stepsLeft : MethodName := ⟨RX2, "stepsLeft", "(LRowtricks$Row;)I"⟩
abbrev cX2_allCards : ByteArray := prog_1_method_76_code
def yX2_allCards : MethodName := ⟨RX2, "allCards", "()I"⟩
abbrev cX2_allParts : ByteArray := prog_1_method_77_code
def yX2_allParts : MethodName := ⟨RX2, "allParts", "()I"⟩
abbrev cX2_allWalks : ByteArray := prog_1_method_78_code
def yX2_allWalks : MethodName := ⟨RX2, "allWalks", "()I"⟩
abbrev cX2_isRowSound : ByteArray := prog_1_method_79_code
def yX2_isRowSound : MethodName := ⟨RX2, "isRowSound", "(LRowtricks$Row;)Z"⟩
abbrev cX2_isPartSound : ByteArray := prog_1_method_80_code
def yX2_isPartSound : MethodName := ⟨RX2, "isPartSound", "(LRowtricks$Part;)Z"⟩
abbrev cX2_textOf : ByteArray := prog_1_method_81_code
def yX2_textOf : MethodName := ⟨RX2, "textOf", "(LRowtricks$Row;)Ljava/lang/String;"⟩
abbrev cX2_writePart : ByteArray := prog_1_method_82_code
def yX2_writePart : MethodName := ⟨RX2, "writePart", "(Ljava/lang/StringBuilder;LRowtricks$Part;)V"⟩
abbrev cX2_writeSpan : ByteArray := prog_1_method_83_code
def yX2_writeSpan : MethodName := ⟨RX2, "writeSpan", "(Ljava/lang/StringBuilder;LRowtricks$Row;II)V"⟩
abbrev cX2_mix : ByteArray := prog_1_method_84_code
def yX2_mix : MethodName := ⟨RX2, "mix", "(JJ)J"⟩
abbrev cX2_mixText : ByteArray := prog_1_method_85_code
def yX2_mixText : MethodName := ⟨RX2, "mixText", "(JLjava/lang/StringBuilder;)J"⟩
abbrev cX2_mixHouse : ByteArray := prog_1_method_86_code
def yX2_mixHouse : MethodName := ⟨RX2, "mixHouse", "(J)J"⟩
abbrev cX2_mixRow : ByteArray := prog_1_method_87_code
def yX2_mixRow : MethodName := ⟨RX2, "mixRow", "(JLRowtricks$Row;Ljava/lang/StringBuilder;)J"⟩
def RX3 : String := "RowtricksLaw$Out"
def TX3 : u_T := fun k => match k with
  | 0 => ("RowtricksLaw$Out", "n", "J", false)
  | _ => ("RowtricksLaw$Out", "s", "Ljava/lang/String;", false)
def tyX3 : Nat → FieldType := fun k => match k with
  | 0 => .long
  | _ => .object "java/lang/String"
abbrev wsX30 : List Cond := u_ws RX3 TX3 2
theorem nmX3 : ∀ a, a < 2 → ∀ b, b < 2 → a ≠ b → (TX3 a).2.1 ≠ (TX3 b).2.1 := by decide +kernel
theorem tyX3_ok : ∀ k, k < 2 → parseFieldDescriptor (TX3 k).2.2.1 = some (tyX3 k) := by decide +kernel
abbrev cX3_init : ByteArray := prog_5_method_1_code
def yX3_init : MethodName := ⟨RX3, "<init>", "()V"⟩
def RX4 : String := "RowtricksModel"
def TX4 : u_T := fun k => match k with
  | 0 => ("RowtricksModel", "thrown", "I", false)
  | 1 => ("RowtricksModel", "rows", "[[I", true)
  | 2 => ("RowtricksModel", "sizes", "[I", true)
  | 3 => ("RowtricksModel", "states", "[I", true)
  | 4 => ("RowtricksModel", "walks", "[I", true)
  | 5 => ("RowtricksModel", "partRows", "[I", true)
  | 6 => ("RowtricksModel", "froms", "[I", true)
  | 7 => ("RowtricksModel", "tos", "[I", true)
  | 8 => ("RowtricksModel", "wholes", "[I", true)
  | _ => ("RowtricksModel", "knocks", "I", false)
def tyX4 : Nat → FieldType := fun k => match k with
  | 0 => .int
  | 1 => .array (.array .int)
  | 2 => .array .int
  | 3 => .array .int
  | 4 => .array .int
  | 5 => .array .int
  | 6 => .array .int
  | 7 => .array .int
  | 8 => .array .int
  | _ => .int
abbrev wsX40 : List Cond := u_ws RX4 TX4 10
theorem nmX4 : ∀ a, a < 10 → ∀ b, b < 10 → a ≠ b → (TX4 a).2.1 ≠ (TX4 b).2.1 := by decide +kernel
theorem tyX4_ok : ∀ k, k < 10 → parseFieldDescriptor (TX4 k).2.2.1 = some (tyX4 k) := by decide +kernel
abbrev cX4_init : ByteArray := prog_6_method_1_code
def yX4_init : MethodName := ⟨RX4, "<init>", "()V"⟩
abbrev cX4_thrown : ByteArray := prog_6_method_2_code
def yX4_thrown : MethodName := ⟨RX4, "thrown", "()I"⟩
abbrev cX4_isIn : ByteArray := prog_6_method_3_code
def yX4_isIn : MethodName := ⟨RX4, "isIn", "(III)Z"⟩
abbrev cX4_one : ByteArray := prog_6_method_4_code
def yX4_one : MethodName := ⟨RX4, "one", "(Z)I"⟩
abbrev cX4_isNoRow : ByteArray := prog_6_method_5_code
def yX4_isNoRow : MethodName := ⟨RX4, "isNoRow", "(I)Z"⟩
abbrev cX4_isNoPart : ByteArray := prog_6_method_6_code
def yX4_isNoPart : MethodName := ⟨RX4, "isNoPart", "(I)Z"⟩
abbrev cX4_isNoCard : ByteArray := prog_6_method_7_code
def yX4_isNoCard : MethodName := ⟨RX4, "isNoCard", "(II)Z"⟩
abbrev cX4_isNoPlace : ByteArray := prog_6_method_8_code
def yX4_isNoPlace : MethodName := ⟨RX4, "isNoPlace", "(II)Z"⟩
abbrev cX4_start : ByteArray := prog_6_method_9_code
def yX4_start : MethodName := ⟨RX4, "start", "(ZZZ)Z"⟩
abbrev cX4_lose : ByteArray := prog_6_method_10_code
def yX4_lose : MethodName := ⟨RX4, "lose", "(I)V"⟩
abbrev cX4_reshape : ByteArray := prog_6_method_11_code
def yX4_reshape : MethodName := ⟨RX4, "reshape", "(I)V"⟩
abbrev cX4_isInside : ByteArray := prog_6_method_12_code
def yX4_isInside : MethodName := ⟨RX4, "isInside", "(II)Z"⟩
abbrev cX4_put : ByteArray := prog_6_method_13_code
def yX4_put : MethodName := ⟨RX4, "put", "(III)V"⟩
abbrev cX4_take : ByteArray := prog_6_method_14_code
def yX4_take : MethodName := ⟨RX4, "take", "(II)I"⟩
abbrev cX4_addMany : ByteArray := prog_6_method_15_code
def yX4_addMany : MethodName := ⟨RX4, "addMany", "(III)I"⟩
abbrev cX4_add : ByteArray := prog_6_method_16_code
def yX4_add : MethodName := ⟨RX4, "add", "(III)I"⟩
abbrev cX4_insert : ByteArray := prog_6_method_17_code
def yX4_insert : MethodName := ⟨RX4, "insert", "(IIII)I"⟩
abbrev cX4_lost : ByteArray := prog_6_method_18_code
def yX4_lost : MethodName := ⟨RX4, "lost", "(I)I"⟩
abbrev cX4_remove : ByteArray := prog_6_method_19_code
def yX4_remove : MethodName := ⟨RX4, "remove", "(II)I"⟩
abbrev cX4_set : ByteArray := prog_6_method_20_code
def yX4_set : MethodName := ⟨RX4, "set", "(IIII)I"⟩
abbrev cX4_clear : ByteArray := prog_6_method_21_code
def yX4_clear : MethodName := ⟨RX4, "clear", "(I)I"⟩
abbrev cX4_addTwo : ByteArray := prog_6_method_22_code
def yX4_addTwo : MethodName := ⟨RX4, "addTwo", "(IIIII)I"⟩
abbrev cX4_addCopies : ByteArray := prog_6_method_23_code
def yX4_addCopies : MethodName := ⟨RX4, "addCopies", "(IIII)I"⟩
abbrev cX4_append : ByteArray := prog_6_method_24_code
def yX4_append : MethodName := ⟨RX4, "append", "(II)I"⟩
abbrev cX4_copy : ByteArray := prog_6_method_25_code
def yX4_copy : MethodName := ⟨RX4, "copy", "(II)I"⟩
abbrev cX4_fill : ByteArray := prog_6_method_26_code
def yX4_fill : MethodName := ⟨RX4, "fill", "(III)I"⟩
abbrev cX4_replace : ByteArray := prog_6_method_27_code
def yX4_replace : MethodName := ⟨RX4, "replace", "(IIIII)Z"⟩
abbrev cX4_firstOf : ByteArray := prog_6_method_28_code
def yX4_firstOf : MethodName := ⟨RX4, "firstOf", "(III)I"⟩
abbrev cX4_push : ByteArray := prog_6_method_29_code
def yX4_push : MethodName := ⟨RX4, "push", "([IIII)V"⟩
abbrev cX4_turn : ByteArray := prog_6_method_30_code
def yX4_turn : MethodName := ⟨RX4, "turn", "([III)V"⟩
abbrev cX4_sort : ByteArray := prog_6_method_31_code
def yX4_sort : MethodName := ⟨RX4, "sort", "([IIIZ)V"⟩
abbrev cX4_reverse : ByteArray := prog_6_method_32_code
def yX4_reverse : MethodName := ⟨RX4, "reverse", "(I)I"⟩
abbrev cX4_rotate : ByteArray := prog_6_method_33_code
def yX4_rotate : MethodName := ⟨RX4, "rotate", "(II)I"⟩
abbrev cX4_swapped : ByteArray := prog_6_method_34_code
def yX4_swapped : MethodName := ⟨RX4, "swapped", "(III)I"⟩
abbrev cX4_swap : ByteArray := prog_6_method_35_code
def yX4_swap : MethodName := ⟨RX4, "swap", "(III)I"⟩
abbrev cX4_sort_ : ByteArray := prog_6_method_36_code
def yX4_sort_ : MethodName := ⟨RX4, "sort", "(IZ)I"⟩
abbrev cX4_textOf : ByteArray := prog_6_method_37_code
def yX4_textOf : MethodName := ⟨RX4, "textOf", "(III)Ljava/lang/String;"⟩
abbrev cX4_size : ByteArray := prog_6_method_38_code
def yX4_size : MethodName := ⟨RX4, "size", "(I)I"⟩
abbrev cX4_text : ByteArray := prog_6_method_39_code
def yX4_text : MethodName := ⟨RX4, "text", "(I)Ljava/lang/String;"⟩
abbrev cX4_at : ByteArray := prog_6_method_40_code
def yX4_at : MethodName := ⟨RX4, "at", "(IIZ)I"⟩
abbrev cX4_count : ByteArray := prog_6_method_41_code
def yX4_count : MethodName := ⟨RX4, "count", "(II)I"⟩
abbrev cX4_frequency : ByteArray := prog_6_method_42_code
def yX4_frequency : MethodName := ⟨RX4, "frequency", "(III)I"⟩
abbrev cX4_indexOf : ByteArray := prog_6_method_43_code
def yX4_indexOf : MethodName := ⟨RX4, "indexOf", "(IIIZ)I"⟩
abbrev cX4_areApart : ByteArray := prog_6_method_44_code
def yX4_areApart : MethodName := ⟨RX4, "areApart", "(II)Z"⟩
abbrev cX4_disjoint : ByteArray := prog_6_method_45_code
def yX4_disjoint : MethodName := ⟨RX4, "disjoint", "(II)Z"⟩
abbrev cX4_isLike : ByteArray := prog_6_method_46_code
def yX4_isLike : MethodName := ⟨RX4, "isLike", "(II)Z"⟩
abbrev cX4_isSame : ByteArray := prog_6_method_47_code
def yX4_isSame : MethodName := ⟨RX4, "isSame", "(II)Z"⟩
abbrev cX4_placeOf : ByteArray := prog_6_method_48_code
def yX4_placeOf : MethodName := ⟨RX4, "placeOf", "([III[III)I"⟩
abbrev cX4_rowIn : ByteArray := prog_6_method_49_code
def yX4_rowIn : MethodName := ⟨RX4, "rowIn", "(II)I"⟩
abbrev cX4_indexOfRow : ByteArray := prog_6_method_50_code
def yX4_indexOfRow : MethodName := ⟨RX4, "indexOfRow", "(II)I"⟩
abbrev cX4_mostOf : ByteArray := prog_6_method_51_code
def yX4_mostOf : MethodName := ⟨RX4, "mostOf", "(IZ)I"⟩
abbrev cX4_most : ByteArray := prog_6_method_52_code
def yX4_most : MethodName := ⟨RX4, "most", "(IZ)I"⟩
abbrev cX4_mostTurned : ByteArray := prog_6_method_53_code
def yX4_mostTurned : MethodName := ⟨RX4, "mostTurned", "(IZ)I"⟩
abbrev cX4_search : ByteArray := prog_6_method_54_code
def yX4_search : MethodName := ⟨RX4, "search", "(II)I"⟩
abbrev cX4_state : ByteArray := prog_6_method_55_code
def yX4_state : MethodName := ⟨RX4, "state", "(I)I"⟩
abbrev cX4_compare : ByteArray := prog_6_method_56_code
def yX4_compare : MethodName := ⟨RX4, "compare", "(II)I"⟩
abbrev cX4_copiesIn : ByteArray := prog_6_method_57_code
def yX4_copiesIn : MethodName := ⟨RX4, "copiesIn", "(IIII)I"⟩
abbrev cX4_lay : ByteArray := prog_6_method_58_code
def yX4_lay : MethodName := ⟨RX4, "lay", "(IIIII)I"⟩
abbrev cX4_part : ByteArray := prog_6_method_59_code
def yX4_part : MethodName := ⟨RX4, "part", "(IIII)I"⟩
abbrev cX4_inner : ByteArray := prog_6_method_60_code
def yX4_inner : MethodName := ⟨RX4, "inner", "(IIII)I"⟩
abbrev cX4_drop : ByteArray := prog_6_method_61_code
def yX4_drop : MethodName := ⟨RX4, "drop", "(I)I"⟩
abbrev cX4_isThere : ByteArray := prog_6_method_62_code
def yX4_isThere : MethodName := ⟨RX4, "isThere", "(I)Z"⟩
abbrev cX4_cut : ByteArray := prog_6_method_63_code
def yX4_cut : MethodName := ⟨RX4, "cut", "(I)I"⟩
abbrev cX4_isNoPlaceIn : ByteArray := prog_6_method_64_code
def yX4_isNoPlaceIn : MethodName := ⟨RX4, "isNoPlaceIn", "(II)Z"⟩
abbrev cX4_setIn : ByteArray := prog_6_method_65_code
def yX4_setIn : MethodName := ⟨RX4, "setIn", "(IIII)I"⟩
abbrev cX4_loosened : ByteArray := prog_6_method_66_code
def yX4_loosened : MethodName := ⟨RX4, "loosened", "(I)I"⟩
abbrev cX4_reverseIn : ByteArray := prog_6_method_67_code
def yX4_reverseIn : MethodName := ⟨RX4, "reverseIn", "(I)I"⟩
abbrev cX4_rotateIn : ByteArray := prog_6_method_68_code
def yX4_rotateIn : MethodName := ⟨RX4, "rotateIn", "(II)I"⟩
abbrev cX4_swapIn : ByteArray := prog_6_method_69_code
def yX4_swapIn : MethodName := ⟨RX4, "swapIn", "(III)I"⟩
abbrev cX4_sortIn : ByteArray := prog_6_method_70_code
def yX4_sortIn : MethodName := ⟨RX4, "sortIn", "(I)I"⟩
abbrev cX4_partText : ByteArray := prog_6_method_71_code
def yX4_partText : MethodName := ⟨RX4, "partText", "(I)Ljava/lang/String;"⟩
abbrev cX4_textIn : ByteArray := prog_6_method_72_code
def yX4_textIn : MethodName := ⟨RX4, "textIn", "(I)Ljava/lang/String;"⟩
abbrev cX4_sizeIn : ByteArray := prog_6_method_73_code
def yX4_sizeIn : MethodName := ⟨RX4, "sizeIn", "(I)I"⟩
abbrev cX4_indexOfIn : ByteArray := prog_6_method_74_code
def yX4_indexOfIn : MethodName := ⟨RX4, "indexOfIn", "(IIZ)I"⟩
abbrev cX4_refuse : ByteArray := prog_6_method_75_code
def yX4_refuse : MethodName := ⟨RX4, "refuse", "(III)I"⟩
abbrev cX4_viewText : ByteArray := prog_6_method_76_code
def yX4_viewText : MethodName := ⟨RX4, "viewText", "(I)Ljava/lang/String;"⟩
abbrev cX4_viewFrequency : ByteArray := prog_6_method_77_code
def yX4_viewFrequency : MethodName := ⟨RX4, "viewFrequency", "(III)I"⟩
abbrev cX4_walk : ByteArray := prog_6_method_78_code
def yX4_walk : MethodName := ⟨RX4, "walk", "(I)I"⟩
abbrev cX4_step : ByteArray := prog_6_method_79_code
def yX4_step : MethodName := ⟨RX4, "step", "(I)I"⟩
abbrev cX4_walkOf : ByteArray := prog_6_method_80_code
def yX4_walkOf : MethodName := ⟨RX4, "walkOf", "(I)I"⟩
abbrev cX4_hasStep : ByteArray := prog_6_method_81_code
def yX4_hasStep : MethodName := ⟨RX4, "hasStep", "(I)I"⟩
abbrev cX4_houseOf : ByteArray := prog_6_method_82_code
def yX4_houseOf : MethodName := ⟨RX4, "houseOf", "(I)I"⟩
abbrev cX4_house : ByteArray := prog_6_method_83_code
def yX4_house : MethodName := ⟨RX4, "house", "(I)I"⟩
abbrev cX4_knock : ByteArray := prog_6_method_84_code
def yX4_knock : MethodName := ⟨RX4, "knock", "()I"⟩
abbrev cX4_areSound : ByteArray := prog_6_method_85_code
def yX4_areSound : MethodName := ⟨RX4, "areSound", "()Z"⟩
abbrev cX4_isSound : ByteArray := prog_6_method_86_code
def yX4_isSound : MethodName := ⟨RX4, "isSound", "()Z"⟩
abbrev cX4_add_ : ByteArray := prog_6_method_87_code
def yX4_add_ : MethodName := ⟨RX4, "add", "(JJ)J"⟩
abbrev cX4_codes : ByteArray := prog_6_method_88_code
def yX4_codes : MethodName := ⟨RX4, "codes", "(JLjava/lang/String;)J"⟩
abbrev cX4_digest : ByteArray := prog_6_method_89_code
def yX4_digest : MethodName := ⟨RX4, "digest", "()J"⟩
def RJ5 : String := "java/lang/AbstractStringBuilder"
def TJ5 : u_T := fun k => match k with
  | _ => ("", "", "", false)
def tyJ5 : Nat → FieldType := fun k => match k with
  | _ => .int
abbrev wsJ50 : List Cond := u_ws RJ5 TJ5 0
theorem nmJ5 : ∀ a, a < 0 → ∀ b, b < 0 → a ≠ b → (TJ5 a).2.1 ≠ (TJ5 b).2.1 := by decide +kernel
theorem tyJ5_ok : ∀ k, k < 0 → parseFieldDescriptor (TJ5 k).2.2.1 = some (tyJ5 k) := by decide +kernel
abbrev cJ5_init_d00df : ByteArray := prog_7_method_2_code
def yJ5_init_d00df : MethodName := ⟨RJ5, "<init>", "(I)V"⟩
abbrev cJ5_length_8abf5 : ByteArray := prog_7_method_6_code
def yJ5_length_8abf5 : MethodName := ⟨RJ5, "length", "()I"⟩
abbrev cJ5_ensureCapacityInternal_d00df : ByteArray := prog_7_method_9_code
def yJ5_ensureCapacityInternal_d00df : MethodName := ⟨RJ5, "ensureCapacityInternal", "(I)V"⟩
abbrev cJ5_newCapacity_0f7a4 : ByteArray := prog_7_method_10_code
def yJ5_newCapacity_0f7a4 : MethodName := ⟨RJ5, "newCapacity", "(I)I"⟩
abbrev cJ5_inflate_da8c8 : ByteArray := prog_7_method_11_code
def yJ5_inflate_da8c8 : MethodName := ⟨RJ5, "inflate", "()V"⟩
abbrev cJ5_setLength_d00df : ByteArray := prog_7_method_13_code
def yJ5_setLength_d00df : MethodName := ⟨RJ5, "setLength", "(I)V"⟩
abbrev cJ5_charAt_5068e : ByteArray := prog_7_method_14_code
def yJ5_charAt_5068e : MethodName := ⟨RJ5, "charAt", "(I)C"⟩
abbrev cJ5_append_cf1ce : ByteArray := prog_7_method_22_code
def yJ5_append_cf1ce : MethodName := ⟨RJ5, "append", "(Ljava/lang/String;)Ljava/lang/AbstractStringBuilder;"⟩
abbrev cJ5_appendNull_278bc : ByteArray := prog_7_method_26_code
def yJ5_appendNull_278bc : MethodName := ⟨RJ5, "appendNull", "()Ljava/lang/AbstractStringBuilder;"⟩
abbrev cJ5_append_3fe6f : ByteArray := prog_7_method_31_code
def yJ5_append_3fe6f : MethodName := ⟨RJ5, "append", "(C)Ljava/lang/AbstractStringBuilder;"⟩
abbrev cJ5_append_c97b9 : ByteArray := prog_7_method_32_code
def yJ5_append_c97b9 : MethodName := ⟨RJ5, "append", "(I)Ljava/lang/AbstractStringBuilder;"⟩
abbrev cJ5_getValue_6d5f1 : ByteArray := prog_7_method_64_code
def yJ5_getValue_6d5f1 : MethodName := ⟨RJ5, "getValue", "()[B"⟩
abbrev cJ5_isLatin1_aae02 : ByteArray := prog_7_method_68_code
def yJ5_isLatin1_aae02 : MethodName := ⟨RJ5, "isLatin1", "()Z"⟩
abbrev cJ5_inflateIfNeededFor_a7421 : ByteArray := prog_7_method_71_code
def yJ5_inflateIfNeededFor_a7421 : MethodName := ⟨RJ5, "inflateIfNeededFor", "(Ljava/lang/String;)V"⟩
abbrev cJ5_putStringAt_47b60 : ByteArray := prog_7_method_73_code
def yJ5_putStringAt_47b60 : MethodName := ⟨RJ5, "putStringAt", "(ILjava/lang/String;)V"⟩
def RJx00060 : String := "java/lang/ArrayIndexOutOfBoundsException"
def TJx00060 : u_T := fun k => match k with
  | 0 => ("java/lang/Throwable", "cause", "Ljava/lang/Throwable;", false)
  | 1 => ("java/lang/Throwable", "stackTrace", "[Ljava/lang/StackTraceElement;", false)
  | 2 => ("java/lang/Throwable", "suppressedExceptions", "Ljava/util/List;", false)
  | 3 => ("java/lang/Throwable", "detailMessage", "Ljava/lang/String;", false)
  | 4 => ("java/lang/Throwable", "backtrace", "Ljava/lang/Object;", false)
  | _ => ("java/lang/Throwable", "depth", "I", false)
def tyJx00060 : Nat → FieldType := fun k => match k with
  | 0 => .object "java/lang/Throwable"
  | 1 => .array (.object "java/lang/StackTraceElement")
  | 2 => .object "java/util/List"
  | 3 => .object "java/lang/String"
  | 4 => .object "java/lang/Object"
  | _ => .int
abbrev wsJx000600 : List Cond := u_ws RJx00060 TJx00060 6
theorem nmJx00060 : ∀ a, a < 6 → ∀ b, b < 6 → a ≠ b → (TJx00060 a).2.1 ≠ (TJx00060 b).2.1 := by decide +kernel
theorem tyJx00060_ok : ∀ k, k < 6 → parseFieldDescriptor (TJx00060 k).2.2.1 = some (tyJx00060 k) := by decide +kernel
abbrev cJx00060_init_d00df : ByteArray := prog_8_method_3_code
def yJx00060_init_d00df : MethodName := ⟨RJx00060, "<init>", "(I)V"⟩
def RJx8e188 : String := "java/lang/Cloneable"
def TJx8e188 : u_T := fun k => match k with
  | _ => ("", "", "", false)
def tyJx8e188 : Nat → FieldType := fun k => match k with
  | _ => .int
abbrev wsJx8e1880 : List Cond := u_ws RJx8e188 TJx8e188 0
theorem nmJx8e188 : ∀ a, a < 0 → ∀ b, b < 0 → a ≠ b → (TJx8e188 a).2.1 ≠ (TJx8e188 b).2.1 := by decide +kernel
theorem tyJx8e188_ok : ∀ k, k < 0 → parseFieldDescriptor (TJx8e188 k).2.2.1 = some (tyJx8e188 k) := by decide +kernel
def RJ6 : String := "java/lang/Integer"
def TJ6 : u_T := fun k => match k with
  | _ => ("", "", "", false)
def tyJ6 : Nat → FieldType := fun k => match k with
  | _ => .int
abbrev wsJ60 : List Cond := u_ws RJ6 TJ6 0
theorem nmJ6 : ∀ a, a < 0 → ∀ b, b < 0 → a ≠ b → (TJ6 a).2.1 ≠ (TJ6 b).2.1 := by decide +kernel
theorem tyJ6_ok : ∀ k, k < 0 → parseFieldDescriptor (TJ6 k).2.2.1 = some (tyJ6 k) := by decide +kernel
abbrev cJ6_getChars_ba4f3 : ByteArray := prog_14_method_12_code
def yJ6_getChars_ba4f3 : MethodName := ⟨RJ6, "getChars", "(II[B)I"⟩
abbrev cJ6_stringSize_0f7a4 : ByteArray := prog_14_method_13_code
def yJ6_stringSize_0f7a4 : MethodName := ⟨RJ6, "stringSize", "(I)I"⟩
def RJ9 : String := "java/lang/Math"
def TJ9 : u_T := fun k => match k with
  | _ => ("", "", "", false)
def tyJ9 : Nat → FieldType := fun k => match k with
  | _ => .int
abbrev wsJ90 : List Cond := u_ws RJ9 TJ9 0
theorem nmJ9 : ∀ a, a < 0 → ∀ b, b < 0 → a ≠ b → (TJ9 a).2.1 ≠ (TJ9 b).2.1 := by decide +kernel
theorem tyJ9_ok : ∀ k, k < 0 → parseFieldDescriptor (TJ9 k).2.2.1 = some (tyJ9 k) := by decide +kernel
abbrev cJ9_floorMod_7cf53 : ByteArray := prog_15_method_50_code
def yJ9_floorMod_7cf53 : MethodName := ⟨RJ9, "floorMod", "(II)I"⟩
abbrev cJ9_max_7cf53 : ByteArray := prog_15_method_65_code
def yJ9_max_7cf53 : MethodName := ⟨RJ9, "max", "(II)I"⟩
abbrev cJ9_min_7cf53 : ByteArray := prog_15_method_69_code
def yJ9_min_7cf53 : MethodName := ⟨RJ9, "min", "(II)I"⟩
def RJ0 : String := "java/lang/String"
def TJ0 : u_T := fun k => match k with
  | 0 => ("java/lang/String", "value", "[B", true)
  | 1 => ("java/lang/String", "coder", "B", true)
  | 2 => ("java/lang/String", "hash", "I", false)
  | _ => ("java/lang/String", "hashIsZero", "Z", false)
def tyJ0 : Nat → FieldType := fun k => match k with
  | 0 => .array .byte
  | 1 => .byte
  | 2 => .int
  | _ => .boolean
abbrev wsJ00 : List Cond := u_ws RJ0 TJ0 4
theorem nmJ0 : ∀ a, a < 4 → ∀ b, b < 4 → a ≠ b → (TJ0 a).2.1 ≠ (TJ0 b).2.1 := by decide +kernel
theorem tyJ0_ok : ∀ k, k < 4 → parseFieldDescriptor (TJ0 k).2.2.1 = some (tyJ0 k) := by decide +kernel
abbrev cJ0_init_81219 : ByteArray := prog_17_method_53_code
def yJ0_init_81219 : MethodName := ⟨RJ0, "<init>", "(Ljava/lang/StringBuilder;)V"⟩
abbrev cJ0_length_8abf5 : ByteArray := prog_17_method_54_code
def yJ0_length_8abf5 : MethodName := ⟨RJ0, "length", "()I"⟩
abbrev cJ0_charAt_5068e : ByteArray := prog_17_method_56_code
def yJ0_charAt_5068e : MethodName := ⟨RJ0, "charAt", "(I)C"⟩
abbrev cJ0_getBytes_840e7 : ByteArray := prog_17_method_147_code
def yJ0_getBytes_840e7 : MethodName := ⟨RJ0, "getBytes", "([BIB)V"⟩
abbrev cJ0_init_db425 : ByteArray := prog_17_method_150_code
def yJ0_init_db425 : MethodName := ⟨RJ0, "<init>", "(Ljava/lang/AbstractStringBuilder;Ljava/lang/Void;)V"⟩
abbrev cJ0_coder_7d493 : ByteArray := prog_17_method_152_code
def yJ0_coder_7d493 : MethodName := ⟨RJ0, "coder", "()B"⟩
abbrev cJ0_isLatin1_aae02 : ByteArray := prog_17_method_154_code
def yJ0_isLatin1_aae02 : MethodName := ⟨RJ0, "isLatin1", "()Z"⟩
abbrev cJ0_checkIndex_df160 : ByteArray := prog_17_method_155_code
def yJ0_checkIndex_df160 : MethodName := ⟨RJ0, "checkIndex", "(II)V"⟩
abbrev cJ0_checkBoundsOffCount_cabcc : ByteArray := prog_17_method_157_code
def yJ0_checkBoundsOffCount_cabcc : MethodName := ⟨RJ0, "checkBoundsOffCount", "(III)I"⟩
abbrev cJ0_checkBoundsBeginEnd_23922 : ByteArray := prog_17_method_158_code
def yJ0_checkBoundsBeginEnd_23922 : MethodName := ⟨RJ0, "checkBoundsBeginEnd", "(III)V"⟩
def RJ4 : String := "java/lang/StringBuilder"
def TJ4 : u_T := fun k => match k with
  | 0 => ("java/lang/AbstractStringBuilder", "value", "[B", false)
  | 1 => ("java/lang/AbstractStringBuilder", "coder", "B", false)
  | 2 => ("java/lang/AbstractStringBuilder", "maybeLatin1", "Z", false)
  | _ => ("java/lang/AbstractStringBuilder", "count", "I", false)
def tyJ4 : Nat → FieldType := fun k => match k with
  | 0 => .array .byte
  | 1 => .byte
  | 2 => .boolean
  | _ => .int
abbrev wsJ40 : List Cond := u_ws RJ4 TJ4 4
theorem nmJ4 : ∀ a, a < 4 → ∀ b, b < 4 → a ≠ b → (TJ4 a).2.1 ≠ (TJ4 b).2.1 := by decide +kernel
theorem tyJ4_ok : ∀ k, k < 4 → parseFieldDescriptor (TJ4 k).2.2.1 = some (tyJ4 k) := by decide +kernel
abbrev cJ4_init_da8c8 : ByteArray := prog_18_method_1_code
def yJ4_init_da8c8 : MethodName := ⟨RJ4, "<init>", "()V"⟩
abbrev cJ4_append_15ec4 : ByteArray := prog_18_method_7_code
def yJ4_append_15ec4 : MethodName := ⟨RJ4, "append", "(Ljava/lang/String;)Ljava/lang/StringBuilder;"⟩
abbrev cJ4_append_cf468 : ByteArray := prog_18_method_14_code
def yJ4_append_cf468 : MethodName := ⟨RJ4, "append", "(C)Ljava/lang/StringBuilder;"⟩
abbrev cJ4_append_bf812 : ByteArray := prog_18_method_15_code
def yJ4_append_bf812 : MethodName := ⟨RJ4, "append", "(I)Ljava/lang/StringBuilder;"⟩
abbrev cJ4_toString_0e30d : ByteArray := prog_18_method_42_code
def yJ4_toString_0e30d : MethodName := ⟨RJ4, "toString", "()Ljava/lang/String;"⟩
abbrev cJ4_charAt_5068e : ByteArray := prog_18_method_88_code
def yJ4_charAt_5068e : MethodName := ⟨RJ4, "charAt", "(I)C"⟩
abbrev cJ4_setLength_d00df : ByteArray := prog_18_method_89_code
def yJ4_setLength_d00df : MethodName := ⟨RJ4, "setLength", "(I)V"⟩
abbrev cJ4_length_8abf5 : ByteArray := prog_18_method_93_code
def yJ4_length_8abf5 : MethodName := ⟨RJ4, "length", "()I"⟩
def RJx7c733 : String := "java/lang/StringIndexOutOfBoundsException"
def TJx7c733 : u_T := fun k => match k with
  | 0 => ("java/lang/Throwable", "backtrace", "Ljava/lang/Object;", false)
  | 1 => ("java/lang/Throwable", "detailMessage", "Ljava/lang/String;", false)
  | 2 => ("java/lang/Throwable", "cause", "Ljava/lang/Throwable;", false)
  | 3 => ("java/lang/Throwable", "stackTrace", "[Ljava/lang/StackTraceElement;", false)
  | 4 => ("java/lang/Throwable", "depth", "I", false)
  | _ => ("java/lang/Throwable", "suppressedExceptions", "Ljava/util/List;", false)
def tyJx7c733 : Nat → FieldType := fun k => match k with
  | 0 => .object "java/lang/Object"
  | 1 => .object "java/lang/String"
  | 2 => .object "java/lang/Throwable"
  | 3 => .array (.object "java/lang/StackTraceElement")
  | 4 => .int
  | _ => .object "java/util/List"
abbrev wsJx7c7330 : List Cond := u_ws RJx7c733 TJx7c733 6
theorem nmJx7c733 : ∀ a, a < 6 → ∀ b, b < 6 → a ≠ b → (TJx7c733 a).2.1 ≠ (TJx7c733 b).2.1 := by decide +kernel
theorem tyJx7c733_ok : ∀ k, k < 6 → parseFieldDescriptor (TJx7c733 k).2.2.1 = some (tyJx7c733 k) := by decide +kernel
abbrev cJx7c733_init_d00df : ByteArray := prog_19_method_3_code
def yJx7c733_init_d00df : MethodName := ⟨RJx7c733, "<init>", "(I)V"⟩
def RJ1 : String := "java/lang/StringLatin1"
def TJ1 : u_T := fun k => match k with
  | _ => ("", "", "", false)
def tyJ1 : Nat → FieldType := fun k => match k with
  | _ => .int
abbrev wsJ10 : List Cond := u_ws RJ1 TJ1 0
theorem nmJ1 : ∀ a, a < 0 → ∀ b, b < 0 → a ≠ b → (TJ1 a).2.1 ≠ (TJ1 b).2.1 := by decide +kernel
theorem tyJ1_ok : ∀ k, k < 0 → parseFieldDescriptor (TJ1 k).2.2.1 = some (tyJ1 k) := by decide +kernel
abbrev cJ1_charAt_3b067 : ByteArray := prog_20_method_2_code
def yJ1_charAt_3b067 : MethodName := ⟨RJ1, "charAt", "([BI)C"⟩
abbrev cJ1_canEncode_fc78d : ByteArray := prog_20_method_3_code
def yJ1_canEncode_fc78d : MethodName := ⟨RJ1, "canEncode", "(C)Z"⟩
abbrev cJ1_fillNull_b72d1 : ByteArray := prog_20_method_48_code
def yJ1_fillNull_b72d1 : MethodName := ⟨RJ1, "fillNull", "([BII)V"⟩
abbrev cJ1_inflate_0e8fd : ByteArray := prog_20_method_50_code
def yJ1_inflate_0e8fd : MethodName := ⟨RJ1, "inflate", "([BI[BII)V"⟩
def RJ2 : String := "java/lang/StringUTF16"
def TJ2 : u_T := fun k => match k with
  | _ => ("", "", "", false)
def tyJ2 : Nat → FieldType := fun k => match k with
  | _ => .int
abbrev wsJ20 : List Cond := u_ws RJ2 TJ2 0
theorem nmJ2 : ∀ a, a < 0 → ∀ b, b < 0 → a ≠ b → (TJ2 a).2.1 ≠ (TJ2 b).2.1 := by decide +kernel
theorem tyJ2_ok : ∀ k, k < 0 → parseFieldDescriptor (TJ2 k).2.2.1 = some (tyJ2 k) := by decide +kernel
abbrev cJ2_newBytesFor_77867 : ByteArray := prog_21_method_2_code
def yJ2_newBytesFor_77867 : MethodName := ⟨RJ2, "newBytesFor", "(I)[B"⟩
abbrev cJ2_newBytesLength_0f7a4 : ByteArray := prog_21_method_3_code
def yJ2_newBytesLength_0f7a4 : MethodName := ⟨RJ2, "newBytesLength", "(I)I"⟩
abbrev cJ2_putChar_b72d1 : ByteArray := prog_21_method_4_code
def yJ2_putChar_b72d1 : MethodName := ⟨RJ2, "putChar", "([BII)V"⟩
abbrev cJ2_getChar_3b067 : ByteArray := prog_21_method_5_code
def yJ2_getChar_3b067 : MethodName := ⟨RJ2, "getChar", "([BI)C"⟩
abbrev cJ2_length_9d52b : ByteArray := prog_21_method_6_code
def yJ2_length_9d52b : MethodName := ⟨RJ2, "length", "([B)I"⟩
abbrev cJ2_coderFromArrayLen_85cad : ByteArray := prog_21_method_15_code
def yJ2_coderFromArrayLen_85cad : MethodName := ⟨RJ2, "coderFromArrayLen", "([BI)B"⟩
abbrev cJ2_compress_39247 : ByteArray := prog_21_method_17_code
def yJ2_compress_39247 : MethodName := ⟨RJ2, "compress", "([BII)[B"⟩
abbrev cJ2_compress_5af95 : ByteArray := prog_21_method_22_code
def yJ2_compress_5af95 : MethodName := ⟨RJ2, "compress", "([BI[BII)I"⟩
abbrev cJ2_fillNull_b72d1 : ByteArray := prog_21_method_70_code
def yJ2_fillNull_b72d1 : MethodName := ⟨RJ2, "fillNull", "([BII)V"⟩
abbrev cJ2_putCharSB_b72d1 : ByteArray := prog_21_method_71_code
def yJ2_putCharSB_b72d1 : MethodName := ⟨RJ2, "putCharSB", "([BII)V"⟩
abbrev cJ2_getChars_46870 : ByteArray := prog_21_method_77_code
def yJ2_getChars_46870 : MethodName := ⟨RJ2, "getChars", "(III[B)I"⟩
abbrev cJ2_putCharsAt_cd4e5 : ByteArray := prog_21_method_81_code
def yJ2_putCharsAt_cd4e5 : MethodName := ⟨RJ2, "putCharsAt", "([BICCCC)I"⟩
abbrev cJ2_charAt_3b067 : ByteArray := prog_21_method_83_code
def yJ2_charAt_3b067 : MethodName := ⟨RJ2, "charAt", "([BI)C"⟩
abbrev cJ2_inflate_0e8fd : ByteArray := prog_21_method_86_code
def yJ2_inflate_0e8fd : MethodName := ⟨RJ2, "inflate", "([BI[BII)V"⟩
abbrev cJ2_getChars_ba4f3 : ByteArray := prog_21_method_89_code
def yJ2_getChars_ba4f3 : MethodName := ⟨RJ2, "getChars", "(II[B)I"⟩
abbrev cJ2_checkIndex_2214a : ByteArray := prog_21_method_91_code
def yJ2_checkIndex_2214a : MethodName := ⟨RJ2, "checkIndex", "(I[B)V"⟩
abbrev cJ2_checkBoundsBeginEnd_d044e : ByteArray := prog_21_method_93_code
def yJ2_checkBoundsBeginEnd_d044e : MethodName := ⟨RJ2, "checkBoundsBeginEnd", "(II[B)V"⟩
abbrev cJ2_checkBoundsOffCount_d044e : ByteArray := prog_21_method_94_code
def yJ2_checkBoundsOffCount_d044e : MethodName := ⟨RJ2, "checkBoundsOffCount", "(II[B)V"⟩
def RJ10 : String := "java/lang/System"
def TJ10 : u_T := fun k => match k with
  | _ => ("", "", "", false)
def tyJ10 : Nat → FieldType := fun k => match k with
  | _ => .int
abbrev wsJ100 : List Cond := u_ws RJ10 TJ10 0
theorem nmJ10 : ∀ a, a < 0 → ∀ b, b < 0 → a ≠ b → (TJ10 a).2.1 ≠ (TJ10 b).2.1 := by decide +kernel
theorem tyJ10_ok : ∀ k, k < 0 → parseFieldDescriptor (TJ10 k).2.2.1 = some (tyJ10 k) := by decide +kernel
def RJ7 : String := "java/util/Arrays"
def TJ7 : u_T := fun k => match k with
  | _ => ("", "", "", false)
def tyJ7 : Nat → FieldType := fun k => match k with
  | _ => .int
abbrev wsJ70 : List Cond := u_ws RJ7 TJ7 0
theorem nmJ7 : ∀ a, a < 0 → ∀ b, b < 0 → a ≠ b → (TJ7 a).2.1 ≠ (TJ7 b).2.1 := by decide +kernel
theorem tyJ7_ok : ∀ k, k < 0 → parseFieldDescriptor (TJ7 k).2.2.1 = some (tyJ7 k) := by decide +kernel
abbrev cJ7_rangeCheck_23922 : ByteArray := prog_24_method_30_code
def yJ7_rangeCheck_23922 : MethodName := ⟨RJ7, "rangeCheck", "(III)V"⟩
abbrev cJ7_fill_eb02e : ByteArray := prog_24_method_110_code
def yJ7_fill_eb02e : MethodName := ⟨RJ7, "fill", "([BIIB)V"⟩
abbrev cJ7_copyOf_9075b : ByteArray := prog_24_method_121_code
def yJ7_copyOf_9075b : MethodName := ⟨RJ7, "copyOf", "([BI)[B"⟩
abbrev cJ7_checkLength_df160 : ByteArray := prog_24_method_131_code
def yJ7_checkLength_df160 : MethodName := ⟨RJ7, "checkLength", "(II)V"⟩
abbrev cJ7_copyOfRange_39247 : ByteArray := prog_24_method_132_code
def yJ7_copyOfRange_39247 : MethodName := ⟨RJ7, "copyOfRange", "([BII)[B"⟩
abbrev cJ7_copyOfRangeByte_39247 : ByteArray := prog_24_method_133_code
def yJ7_copyOfRangeByte_39247 : MethodName := ⟨RJ7, "copyOfRangeByte", "([BII)[B"⟩
def RJ8 : String := "jdk/internal/util/ArraysSupport"
def TJ8 : u_T := fun k => match k with
  | _ => ("", "", "", false)
def tyJ8 : Nat → FieldType := fun k => match k with
  | _ => .int
abbrev wsJ80 : List Cond := u_ws RJ8 TJ8 0
theorem nmJ8 : ∀ a, a < 0 → ∀ b, b < 0 → a ≠ b → (TJ8 a).2.1 ≠ (TJ8 b).2.1 := by decide +kernel
theorem tyJ8_ok : ∀ k, k < 0 → parseFieldDescriptor (TJ8 k).2.2.1 = some (tyJ8 k) := by decide +kernel
abbrev cJ8_newLength_cabcc : ByteArray := prog_25_method_27_code
def yJ8_newLength_cabcc : MethodName := ⟨RJ8, "newLength", "(III)I"⟩
abbrev cJ8_hugeLength_7cf53 : ByteArray := prog_25_method_28_code
def yJ8_hugeLength_7cf53 : MethodName := ⟨RJ8, "hugeLength", "(II)I"⟩
def RJ3 : String := "jdk/internal/util/Preconditions"
def TJ3 : u_T := fun k => match k with
  | _ => ("", "", "", false)
def tyJ3 : Nat → FieldType := fun k => match k with
  | _ => .int
abbrev wsJ30 : List Cond := u_ws RJ3 TJ3 0
theorem nmJ3 : ∀ a, a < 0 → ∀ b, b < 0 → a ≠ b → (TJ3 a).2.1 ≠ (TJ3 b).2.1 := by decide +kernel
theorem tyJ3_ok : ∀ k, k < 0 → parseFieldDescriptor (TJ3 k).2.2.1 = some (tyJ3 k) := by decide +kernel
abbrev cJ3_checkIndex_8e157 : ByteArray := prog_26_method_11_code
def yJ3_checkIndex_8e157 : MethodName := ⟨RJ3, "checkIndex", "(IILjava/util/function/BiFunction;)I"⟩
abbrev cJ3_checkFromToIndex_8c36e : ByteArray := prog_26_method_12_code
def yJ3_checkFromToIndex_8c36e : MethodName := ⟨RJ3, "checkFromToIndex", "(IIILjava/util/function/BiFunction;)I"⟩
abbrev cJ3_checkFromIndexSize_8c36e : ByteArray := prog_26_method_13_code
def yJ3_checkFromIndexSize_8c36e : MethodName := ⟨RJ3, "checkFromIndexSize", "(IIILjava/util/function/BiFunction;)I"⟩
def RL : String := "RowtricksLaw"
abbrev cL_add : ByteArray := method_2_code
def yL_add : MethodName := ⟨RL, "add", "(LRowtricks;IIILRowtricksLaw$Out;)I"⟩
abbrev cL_insert : ByteArray := method_3_code
def yL_insert : MethodName := ⟨RL, "insert", "(LRowtricks;IIIILRowtricksLaw$Out;)I"⟩
abbrev cL_remove : ByteArray := method_4_code
def yL_remove : MethodName := ⟨RL, "remove", "(LRowtricks;IILRowtricksLaw$Out;)I"⟩
abbrev cL_set : ByteArray := method_5_code
def yL_set : MethodName := ⟨RL, "set", "(LRowtricks;IIIILRowtricksLaw$Out;)I"⟩
abbrev cL_clear : ByteArray := method_6_code
def yL_clear : MethodName := ⟨RL, "clear", "(LRowtricks;ILRowtricksLaw$Out;)I"⟩
abbrev cL_addTwo : ByteArray := method_7_code
def yL_addTwo : MethodName := ⟨RL, "addTwo", "(LRowtricks;IIIIILRowtricksLaw$Out;)I"⟩
abbrev cL_addCopies : ByteArray := method_8_code
def yL_addCopies : MethodName := ⟨RL, "addCopies", "(LRowtricks;IIIILRowtricksLaw$Out;)I"⟩
abbrev cL_append : ByteArray := method_9_code
def yL_append : MethodName := ⟨RL, "append", "(LRowtricks;IILRowtricksLaw$Out;)I"⟩
abbrev cL_copy : ByteArray := method_10_code
def yL_copy : MethodName := ⟨RL, "copy", "(LRowtricks;IILRowtricksLaw$Out;)I"⟩
abbrev cL_fill : ByteArray := method_11_code
def yL_fill : MethodName := ⟨RL, "fill", "(LRowtricks;IIILRowtricksLaw$Out;)I"⟩
abbrev cL_replace : ByteArray := method_12_code
def yL_replace : MethodName := ⟨RL, "replace", "(LRowtricks;IIIIILRowtricksLaw$Out;)I"⟩
abbrev cL_reverse : ByteArray := method_13_code
def yL_reverse : MethodName := ⟨RL, "reverse", "(LRowtricks;ILRowtricksLaw$Out;)I"⟩
abbrev cL_rotate : ByteArray := method_14_code
def yL_rotate : MethodName := ⟨RL, "rotate", "(LRowtricks;IILRowtricksLaw$Out;)I"⟩
abbrev cL_swap : ByteArray := method_15_code
def yL_swap : MethodName := ⟨RL, "swap", "(LRowtricks;IIILRowtricksLaw$Out;)I"⟩
abbrev cL_sort : ByteArray := method_16_code
def yL_sort : MethodName := ⟨RL, "sort", "(LRowtricks;IZLRowtricksLaw$Out;)I"⟩
abbrev cL_size : ByteArray := method_17_code
def yL_size : MethodName := ⟨RL, "size", "(LRowtricks;ILRowtricksLaw$Out;)I"⟩
abbrev cL_text : ByteArray := method_18_code
def yL_text : MethodName := ⟨RL, "text", "(LRowtricks;ILRowtricksLaw$Out;)I"⟩
abbrev cL_at : ByteArray := method_19_code
def yL_at : MethodName := ⟨RL, "at", "(LRowtricks;IIZLRowtricksLaw$Out;)I"⟩
abbrev cL_frequency : ByteArray := method_20_code
def yL_frequency : MethodName := ⟨RL, "frequency", "(LRowtricks;IIILRowtricksLaw$Out;)I"⟩
abbrev cL_indexOf : ByteArray := method_21_code
def yL_indexOf : MethodName := ⟨RL, "indexOf", "(LRowtricks;IIIZLRowtricksLaw$Out;)I"⟩
abbrev cL_disjoint : ByteArray := method_22_code
def yL_disjoint : MethodName := ⟨RL, "disjoint", "(LRowtricks;IILRowtricksLaw$Out;)I"⟩
abbrev cL_isSame : ByteArray := method_23_code
def yL_isSame : MethodName := ⟨RL, "isSame", "(LRowtricks;IILRowtricksLaw$Out;)I"⟩
abbrev cL_indexOfRow : ByteArray := method_24_code
def yL_indexOfRow : MethodName := ⟨RL, "indexOfRow", "(LRowtricks;IILRowtricksLaw$Out;)I"⟩
abbrev cL_most : ByteArray := method_25_code
def yL_most : MethodName := ⟨RL, "most", "(LRowtricks;IZLRowtricksLaw$Out;)I"⟩
abbrev cL_mostTurned : ByteArray := method_26_code
def yL_mostTurned : MethodName := ⟨RL, "mostTurned", "(LRowtricks;IZLRowtricksLaw$Out;)I"⟩
abbrev cL_search : ByteArray := method_27_code
def yL_search : MethodName := ⟨RL, "search", "(LRowtricks;IILRowtricksLaw$Out;)I"⟩
abbrev cL_state : ByteArray := method_28_code
def yL_state : MethodName := ⟨RL, "state", "(LRowtricks;ILRowtricksLaw$Out;)I"⟩
abbrev cL_compare : ByteArray := method_29_code
def yL_compare : MethodName := ⟨RL, "compare", "(LRowtricks;IILRowtricksLaw$Out;)I"⟩
abbrev cL_copiesIn : ByteArray := method_30_code
def yL_copiesIn : MethodName := ⟨RL, "copiesIn", "(LRowtricks;IIIILRowtricksLaw$Out;)I"⟩
abbrev cL_part : ByteArray := method_31_code
def yL_part : MethodName := ⟨RL, "part", "(LRowtricks;IIIILRowtricksLaw$Out;)I"⟩
abbrev cL_inner : ByteArray := method_32_code
def yL_inner : MethodName := ⟨RL, "inner", "(LRowtricks;IIIILRowtricksLaw$Out;)I"⟩
abbrev cL_drop : ByteArray := method_33_code
def yL_drop : MethodName := ⟨RL, "drop", "(LRowtricks;ILRowtricksLaw$Out;)I"⟩
abbrev cL_cut : ByteArray := method_34_code
def yL_cut : MethodName := ⟨RL, "cut", "(LRowtricks;ILRowtricksLaw$Out;)I"⟩
abbrev cL_setIn : ByteArray := method_35_code
def yL_setIn : MethodName := ⟨RL, "setIn", "(LRowtricks;IIIILRowtricksLaw$Out;)I"⟩
abbrev cL_reverseIn : ByteArray := method_36_code
def yL_reverseIn : MethodName := ⟨RL, "reverseIn", "(LRowtricks;ILRowtricksLaw$Out;)I"⟩
abbrev cL_rotateIn : ByteArray := method_37_code
def yL_rotateIn : MethodName := ⟨RL, "rotateIn", "(LRowtricks;IILRowtricksLaw$Out;)I"⟩
abbrev cL_swapIn : ByteArray := method_38_code
def yL_swapIn : MethodName := ⟨RL, "swapIn", "(LRowtricks;IIILRowtricksLaw$Out;)I"⟩
abbrev cL_sortIn : ByteArray := method_39_code
def yL_sortIn : MethodName := ⟨RL, "sortIn", "(LRowtricks;ILRowtricksLaw$Out;)I"⟩
abbrev cL_textIn : ByteArray := method_40_code
def yL_textIn : MethodName := ⟨RL, "textIn", "(LRowtricks;ILRowtricksLaw$Out;)I"⟩
abbrev cL_sizeIn : ByteArray := method_41_code
def yL_sizeIn : MethodName := ⟨RL, "sizeIn", "(LRowtricks;ILRowtricksLaw$Out;)I"⟩
abbrev cL_indexOfIn : ByteArray := method_42_code
def yL_indexOfIn : MethodName := ⟨RL, "indexOfIn", "(LRowtricks;IIZLRowtricksLaw$Out;)I"⟩
abbrev cL_refuse : ByteArray := method_43_code
def yL_refuse : MethodName := ⟨RL, "refuse", "(LRowtricks;IIILRowtricksLaw$Out;)I"⟩
abbrev cL_viewText : ByteArray := method_44_code
def yL_viewText : MethodName := ⟨RL, "viewText", "(LRowtricks;ILRowtricksLaw$Out;)I"⟩
abbrev cL_viewFrequency : ByteArray := method_45_code
def yL_viewFrequency : MethodName := ⟨RL, "viewFrequency", "(LRowtricks;IIILRowtricksLaw$Out;)I"⟩
abbrev cL_walk : ByteArray := method_46_code
def yL_walk : MethodName := ⟨RL, "walk", "(LRowtricks;ILRowtricksLaw$Out;)I"⟩
abbrev cL_step : ByteArray := method_47_code
def yL_step : MethodName := ⟨RL, "step", "(LRowtricks;ILRowtricksLaw$Out;)I"⟩
abbrev cL_hasStep : ByteArray := method_48_code
def yL_hasStep : MethodName := ⟨RL, "hasStep", "(LRowtricks;ILRowtricksLaw$Out;)I"⟩
abbrev cL_house : ByteArray := method_49_code
def yL_house : MethodName := ⟨RL, "house", "(LRowtricks;ILRowtricksLaw$Out;)I"⟩
abbrev cL_law : ByteArray := code
def yL_law : MethodName := ⟨RL, "law", "([I)Z"⟩
theorem dX0_init_0 : decode cX0_init 0 = .ok (.aload_n 0, 1) := by decide +kernel
theorem dX0_init_1 : decode cX0_init 1 = .ok (.invokespecial 1, 3) := by decide +kernel
theorem dX0_init_4 : decode cX0_init 4 = .ok (.aload_n 0, 1) := by decide +kernel
theorem dX0_init_5 : decode cX0_init 5 = .ok (.aconst_null, 1) := by decide +kernel
theorem dX0_init_6 : decode cX0_init 6 = .ok (.putfield 7, 3) := by decide +kernel
theorem dX0_init_9 : decode cX0_init 9 = .ok (.aload_n 0, 1) := by decide +kernel
theorem dX0_init_10 : decode cX0_init 10 = .ok (.aconst_null, 1) := by decide +kernel
theorem dX0_init_11 : decode cX0_init 11 = .ok (.putfield 13, 3) := by decide +kernel
theorem dX0_init_14 : decode cX0_init 14 = .ok (.aload_n 0, 1) := by decide +kernel
theorem dX0_init_15 : decode cX0_init 15 = .ok (.iconst 0, 1) := by decide +kernel
theorem dX0_init_16 : decode cX0_init 16 = .ok (.putfield 17, 3) := by decide +kernel
theorem dX0_init_19 : decode cX0_init 19 = .ok (.aload_n 0, 1) := by decide +kernel
theorem dX0_init_20 : decode cX0_init 20 = .ok (.iconst 0, 1) := by decide +kernel
theorem dX0_init_21 : decode cX0_init 21 = .ok (.putfield 21, 3) := by decide +kernel
theorem dX0_init_24 : decode cX0_init 24 = .ok (.return_, 1) := by decide +kernel
theorem dX0_lay_0 : decode cX0_lay 0 = .ok (.aload_n 0, 1) := by decide +kernel
theorem dX0_lay_1 : decode cX0_lay 1 = .ok (.aload_n 1, 1) := by decide +kernel
theorem dX0_lay_2 : decode cX0_lay 2 = .ok (.putfield 7, 3) := by decide +kernel
theorem dX0_lay_5 : decode cX0_lay 5 = .ok (.aload_n 0, 1) := by decide +kernel
theorem dX0_lay_6 : decode cX0_lay 6 = .ok (.aload_n 2, 1) := by decide +kernel
theorem dX0_lay_7 : decode cX0_lay 7 = .ok (.putfield 13, 3) := by decide +kernel
theorem dX0_lay_10 : decode cX0_lay 10 = .ok (.aload_n 0, 1) := by decide +kernel
theorem dX0_lay_11 : decode cX0_lay 11 = .ok (.iload_n 3, 1) := by decide +kernel
theorem dX0_lay_12 : decode cX0_lay 12 = .ok (.putfield 17, 3) := by decide +kernel
theorem dX0_lay_15 : decode cX0_lay 15 = .ok (.aload_n 0, 1) := by decide +kernel
theorem dX0_lay_16 : decode cX0_lay 16 = .ok (.iload 4, 2) := by decide +kernel
theorem dX0_lay_18 : decode cX0_lay 18 = .ok (.putfield 21, 3) := by decide +kernel
theorem dX0_lay_21 : decode cX0_lay 21 = .ok (.return_, 1) := by decide +kernel
theorem dX0_isThere_0 : decode cX0_isThere 0 = .ok (.aload_n 0, 1) := by decide +kernel
theorem dX0_isThere_1 : decode cX0_isThere 1 = .ok (.getfield 7, 3) := by decide +kernel
theorem dX0_isThere_4 : decode cX0_isThere 4 = .ok (.ifnull 7, 3) := by decide +kernel
theorem dX0_isThere_7 : decode cX0_isThere 7 = .ok (.iconst 1, 1) := by decide +kernel
theorem dX0_isThere_8 : decode cX0_isThere 8 = .ok (.goto 4, 3) := by decide +kernel
theorem dX0_isThere_12 : decode cX0_isThere 12 = .ok (.ireturn, 1) := by decide +kernel
theorem dX0_many_0 : decode cX0_many 0 = .ok (.aload_n 0, 1) := by decide +kernel
theorem dX0_many_1 : decode cX0_many 1 = .ok (.getfield 21, 3) := by decide +kernel
theorem dX0_many_4 : decode cX0_many 4 = .ok (.aload_n 0, 1) := by decide +kernel
theorem dX0_many_5 : decode cX0_many 5 = .ok (.getfield 17, 3) := by decide +kernel
theorem dX0_many_8 : decode cX0_many 8 = .ok (.isub, 1) := by decide +kernel
theorem dX0_many_9 : decode cX0_many 9 = .ok (.ireturn, 1) := by decide +kernel
theorem dX0_isWithin_0 : decode cX0_isWithin 0 = .ok (.aload_n 0, 1) := by decide +kernel
theorem dX0_isWithin_1 : decode cX0_isWithin 1 = .ok (.astore_n 2, 1) := by decide +kernel
theorem dX0_isWithin_2 : decode cX0_isWithin 2 = .ok (.aload_n 2, 1) := by decide +kernel
theorem dX0_isWithin_3 : decode cX0_isWithin 3 = .ok (.ifnull 18, 3) := by decide +kernel
theorem dX0_isWithin_6 : decode cX0_isWithin 6 = .ok (.aload_n 2, 1) := by decide +kernel
theorem dX0_isWithin_7 : decode cX0_isWithin 7 = .ok (.aload_n 1, 1) := by decide +kernel
theorem dX0_isWithin_8 : decode cX0_isWithin 8 = .ok (.if_acmp .ne 5, 3) := by decide +kernel
theorem dX0_isWithin_11 : decode cX0_isWithin 11 = .ok (.iconst 1, 1) := by decide +kernel
theorem dX0_isWithin_12 : decode cX0_isWithin 12 = .ok (.ireturn, 1) := by decide +kernel
theorem dX0_isWithin_13 : decode cX0_isWithin 13 = .ok (.aload_n 2, 1) := by decide +kernel
theorem dX0_isWithin_14 : decode cX0_isWithin 14 = .ok (.getfield 13, 3) := by decide +kernel
theorem dX0_isWithin_17 : decode cX0_isWithin 17 = .ok (.astore_n 2, 1) := by decide +kernel
theorem dX0_isWithin_18 : decode cX0_isWithin 18 = .ok (.goto (-16), 3) := by decide +kernel
theorem dX0_isWithin_21 : decode cX0_isWithin 21 = .ok (.iconst 0, 1) := by decide +kernel
theorem dX0_isWithin_22 : decode cX0_isWithin 22 = .ok (.ireturn, 1) := by decide +kernel
theorem dX1_init_0 : decode cX1_init 0 = .ok (.aload_n 0, 1) := by decide +kernel
theorem dX1_init_1 : decode cX1_init 1 = .ok (.invokespecial 3, 3) := by decide +kernel
theorem dX1_init_4 : decode cX1_init 4 = .ok (.aload_n 0, 1) := by decide +kernel
theorem dX1_init_5 : decode cX1_init 5 = .ok (.bipush 31, 2) := by decide +kernel
theorem dX1_init_7 : decode cX1_init 7 = .ok (.newarray .int, 2) := by decide +kernel
theorem dX1_init_9 : decode cX1_init 9 = .ok (.putfield 9, 3) := by decide +kernel
theorem dX1_init_12 : decode cX1_init 12 = .ok (.aload_n 0, 1) := by decide +kernel
theorem dX1_init_13 : decode cX1_init 13 = .ok (.iconst 0, 1) := by decide +kernel
theorem dX1_init_14 : decode cX1_init 14 = .ok (.putfield 15, 3) := by decide +kernel
theorem dX1_init_17 : decode cX1_init 17 = .ok (.aload_n 0, 1) := by decide +kernel
theorem dX1_init_18 : decode cX1_init 18 = .ok (.iconst 0, 1) := by decide +kernel
theorem dX1_init_19 : decode cX1_init 19 = .ok (.putfield 19, 3) := by decide +kernel
theorem dX1_init_22 : decode cX1_init 22 = .ok (.aload_n 0, 1) := by decide +kernel
theorem dX1_init_23 : decode cX1_init 23 = .ok (.iconst (-1), 1) := by decide +kernel
theorem dX1_init_24 : decode cX1_init 24 = .ok (.putfield 22, 3) := by decide +kernel
theorem dX1_init_27 : decode cX1_init 27 = .ok (.return_, 1) := by decide +kernel
theorem dX1_cardAt_0 : decode cX1_cardAt 0 = .ok (.iload_n 1, 1) := by decide +kernel
theorem dX1_cardAt_1 : decode cX1_cardAt 1 = .ok (.ifCond .lt 21, 3) := by decide +kernel
theorem dX1_cardAt_4 : decode cX1_cardAt 4 = .ok (.iload_n 1, 1) := by decide +kernel
theorem dX1_cardAt_5 : decode cX1_cardAt 5 = .ok (.aload_n 0, 1) := by decide +kernel
theorem dX1_cardAt_6 : decode cX1_cardAt 6 = .ok (.getfield 9, 3) := by decide +kernel
theorem dX1_cardAt_9 : decode cX1_cardAt 9 = .ok (.arraylength, 1) := by decide +kernel
theorem dX1_cardAt_10 : decode cX1_cardAt 10 = .ok (.if_icmp .ge 12, 3) := by decide +kernel
theorem dX1_cardAt_13 : decode cX1_cardAt 13 = .ok (.aload_n 0, 1) := by decide +kernel
theorem dX1_cardAt_14 : decode cX1_cardAt 14 = .ok (.getfield 9, 3) := by decide +kernel
theorem dX1_cardAt_17 : decode cX1_cardAt 17 = .ok (.iload_n 1, 1) := by decide +kernel
theorem dX1_cardAt_18 : decode cX1_cardAt 18 = .ok (.iaload, 1) := by decide +kernel
theorem dX1_cardAt_19 : decode cX1_cardAt 19 = .ok (.goto 4, 3) := by decide +kernel
theorem dX1_cardAt_23 : decode cX1_cardAt 23 = .ok (.ireturn, 1) := by decide +kernel
theorem dX1_valueAt_0 : decode cX1_valueAt 0 = .ok (.aload_n 0, 1) := by decide +kernel
theorem dX1_valueAt_1 : decode cX1_valueAt 1 = .ok (.iload_n 1, 1) := by decide +kernel
theorem dX1_valueAt_2 : decode cX1_valueAt 2 = .ok (.invokevirtual 25, 3) := by decide +kernel
theorem dX1_valueAt_5 : decode cX1_valueAt 5 = .ok (.bipush 10, 2) := by decide +kernel
theorem dX1_valueAt_7 : decode cX1_valueAt 7 = .ok (.idiv, 1) := by decide +kernel
theorem dX1_valueAt_8 : decode cX1_valueAt 8 = .ok (.ireturn, 1) := by decide +kernel
theorem dX1_markAt_0 : decode cX1_markAt 0 = .ok (.aload_n 0, 1) := by decide +kernel
theorem dX1_markAt_1 : decode cX1_markAt 1 = .ok (.iload_n 1, 1) := by decide +kernel
theorem dX1_markAt_2 : decode cX1_markAt 2 = .ok (.invokevirtual 25, 3) := by decide +kernel
theorem dX1_markAt_5 : decode cX1_markAt 5 = .ok (.bipush 10, 2) := by decide +kernel
theorem dX1_markAt_7 : decode cX1_markAt 7 = .ok (.irem, 1) := by decide +kernel
theorem dX1_markAt_8 : decode cX1_markAt 8 = .ok (.ireturn, 1) := by decide +kernel
theorem dX1_put_0 : decode cX1_put 0 = .ok (.iload_n 1, 1) := by decide +kernel
theorem dX1_put_1 : decode cX1_put 1 = .ok (.ifCond .lt 19, 3) := by decide +kernel
theorem dX1_put_4 : decode cX1_put 4 = .ok (.iload_n 1, 1) := by decide +kernel
theorem dX1_put_5 : decode cX1_put 5 = .ok (.aload_n 0, 1) := by decide +kernel
theorem dX1_put_6 : decode cX1_put 6 = .ok (.getfield 9, 3) := by decide +kernel
theorem dX1_put_9 : decode cX1_put 9 = .ok (.arraylength, 1) := by decide +kernel
theorem dX1_put_10 : decode cX1_put 10 = .ok (.if_icmp .ge 10, 3) := by decide +kernel
theorem dX1_put_13 : decode cX1_put 13 = .ok (.aload_n 0, 1) := by decide +kernel
theorem dX1_put_14 : decode cX1_put 14 = .ok (.getfield 9, 3) := by decide +kernel
theorem dX1_put_17 : decode cX1_put 17 = .ok (.iload_n 1, 1) := by decide +kernel
theorem dX1_put_18 : decode cX1_put 18 = .ok (.iload_n 2, 1) := by decide +kernel
theorem dX1_put_19 : decode cX1_put 19 = .ok (.iastore, 1) := by decide +kernel
theorem dX1_put_20 : decode cX1_put 20 = .ok (.return_, 1) := by decide +kernel
theorem dX1_putBehind_0 : decode cX1_putBehind 0 = .ok (.aload_n 0, 1) := by decide +kernel
theorem dX1_putBehind_1 : decode cX1_putBehind 1 = .ok (.aload_n 0, 1) := by decide +kernel
theorem dX1_putBehind_2 : decode cX1_putBehind 2 = .ok (.getfield 15, 3) := by decide +kernel
theorem dX1_putBehind_5 : decode cX1_putBehind 5 = .ok (.iload_n 1, 1) := by decide +kernel
theorem dX1_putBehind_6 : decode cX1_putBehind 6 = .ok (.invokevirtual 32, 3) := by decide +kernel
theorem dX1_putBehind_9 : decode cX1_putBehind 9 = .ok (.aload_n 0, 1) := by decide +kernel
theorem dX1_putBehind_10 : decode cX1_putBehind 10 = .ok (.dup, 1) := by decide +kernel
theorem dX1_putBehind_11 : decode cX1_putBehind 11 = .ok (.getfield 15, 3) := by decide +kernel
theorem dX1_putBehind_14 : decode cX1_putBehind 14 = .ok (.iconst 1, 1) := by decide +kernel
theorem dX1_putBehind_15 : decode cX1_putBehind 15 = .ok (.iadd, 1) := by decide +kernel
theorem dX1_putBehind_16 : decode cX1_putBehind 16 = .ok (.putfield 15, 3) := by decide +kernel
theorem dX1_putBehind_19 : decode cX1_putBehind 19 = .ok (.return_, 1) := by decide +kernel
theorem dX1_putCopiesBehind_0 : decode cX1_putCopiesBehind 0 = .ok (.iconst 0, 1) := by decide +kernel
theorem dX1_putCopiesBehind_1 : decode cX1_putCopiesBehind 1 = .ok (.istore_n 3, 1) := by decide +kernel
theorem dX1_putCopiesBehind_2 : decode cX1_putCopiesBehind 2 = .ok (.iload_n 3, 1) := by decide +kernel
theorem dX1_putCopiesBehind_3 : decode cX1_putCopiesBehind 3 = .ok (.iload_n 1, 1) := by decide +kernel
theorem dX1_putCopiesBehind_4 : decode cX1_putCopiesBehind 4 = .ok (.if_icmp .ge 14, 3) := by decide +kernel
theorem dX1_putCopiesBehind_7 : decode cX1_putCopiesBehind 7 = .ok (.aload_n 0, 1) := by decide +kernel
theorem dX1_putCopiesBehind_8 : decode cX1_putCopiesBehind 8 = .ok (.iload_n 2, 1) := by decide +kernel
theorem dX1_putCopiesBehind_9 : decode cX1_putCopiesBehind 9 = .ok (.invokevirtual 36, 3) := by decide +kernel
theorem dX1_putCopiesBehind_12 : decode cX1_putCopiesBehind 12 = .ok (.iinc 3 1, 3) := by decide +kernel
theorem dX1_putCopiesBehind_15 : decode cX1_putCopiesBehind 15 = .ok (.goto (-13), 3) := by decide +kernel
theorem dX1_putCopiesBehind_18 : decode cX1_putCopiesBehind 18 = .ok (.return_, 1) := by decide +kernel
theorem dX1_putAllBehind_0 : decode cX1_putAllBehind 0 = .ok (.aload_n 1, 1) := by decide +kernel
theorem dX1_putAllBehind_1 : decode cX1_putAllBehind 1 = .ok (.getfield 15, 3) := by decide +kernel
theorem dX1_putAllBehind_4 : decode cX1_putAllBehind 4 = .ok (.istore_n 2, 1) := by decide +kernel
theorem dX1_putAllBehind_5 : decode cX1_putAllBehind 5 = .ok (.iconst 0, 1) := by decide +kernel
theorem dX1_putAllBehind_6 : decode cX1_putAllBehind 6 = .ok (.istore_n 3, 1) := by decide +kernel
theorem dX1_putAllBehind_7 : decode cX1_putAllBehind 7 = .ok (.iload_n 3, 1) := by decide +kernel
theorem dX1_putAllBehind_8 : decode cX1_putAllBehind 8 = .ok (.iload_n 2, 1) := by decide +kernel
theorem dX1_putAllBehind_9 : decode cX1_putAllBehind 9 = .ok (.if_icmp .ge 18, 3) := by decide +kernel
theorem dX1_putAllBehind_12 : decode cX1_putAllBehind 12 = .ok (.aload_n 0, 1) := by decide +kernel
theorem dX1_putAllBehind_13 : decode cX1_putAllBehind 13 = .ok (.aload_n 1, 1) := by decide +kernel
theorem dX1_putAllBehind_14 : decode cX1_putAllBehind 14 = .ok (.iload_n 3, 1) := by decide +kernel
theorem dX1_putAllBehind_15 : decode cX1_putAllBehind 15 = .ok (.invokevirtual 25, 3) := by decide +kernel
theorem dX1_putAllBehind_18 : decode cX1_putAllBehind 18 = .ok (.invokevirtual 36, 3) := by decide +kernel
theorem dX1_putAllBehind_21 : decode cX1_putAllBehind 21 = .ok (.iinc 3 1, 3) := by decide +kernel
theorem dX1_putAllBehind_24 : decode cX1_putAllBehind 24 = .ok (.goto (-17), 3) := by decide +kernel
theorem dX1_putAllBehind_27 : decode cX1_putAllBehind 27 = .ok (.return_, 1) := by decide +kernel
theorem dX1_becomeLike_0 : decode cX1_becomeLike 0 = .ok (.aload_n 0, 1) := by decide +kernel
theorem dX1_becomeLike_1 : decode cX1_becomeLike 1 = .ok (.iconst 0, 1) := by decide +kernel
theorem dX1_becomeLike_2 : decode cX1_becomeLike 2 = .ok (.putfield 15, 3) := by decide +kernel
theorem dX1_becomeLike_5 : decode cX1_becomeLike 5 = .ok (.aload_n 0, 1) := by decide +kernel
theorem dX1_becomeLike_6 : decode cX1_becomeLike 6 = .ok (.aload_n 1, 1) := by decide +kernel
theorem dX1_becomeLike_7 : decode cX1_becomeLike 7 = .ok (.invokevirtual 40, 3) := by decide +kernel
theorem dX1_becomeLike_10 : decode cX1_becomeLike 10 = .ok (.return_, 1) := by decide +kernel
theorem dX1_exchange_0 : decode cX1_exchange 0 = .ok (.aload_n 0, 1) := by decide +kernel
theorem dX1_exchange_1 : decode cX1_exchange 1 = .ok (.iload_n 1, 1) := by decide +kernel
theorem dX1_exchange_2 : decode cX1_exchange 2 = .ok (.invokevirtual 25, 3) := by decide +kernel
theorem dX1_exchange_5 : decode cX1_exchange 5 = .ok (.istore_n 3, 1) := by decide +kernel
theorem dX1_exchange_6 : decode cX1_exchange 6 = .ok (.aload_n 0, 1) := by decide +kernel
theorem dX1_exchange_7 : decode cX1_exchange 7 = .ok (.iload_n 1, 1) := by decide +kernel
theorem dX1_exchange_8 : decode cX1_exchange 8 = .ok (.aload_n 0, 1) := by decide +kernel
theorem dX1_exchange_9 : decode cX1_exchange 9 = .ok (.iload_n 2, 1) := by decide +kernel
theorem dX1_exchange_10 : decode cX1_exchange 10 = .ok (.invokevirtual 25, 3) := by decide +kernel
theorem dX1_exchange_13 : decode cX1_exchange 13 = .ok (.invokevirtual 32, 3) := by decide +kernel
theorem dX1_exchange_16 : decode cX1_exchange 16 = .ok (.aload_n 0, 1) := by decide +kernel
theorem dX1_exchange_17 : decode cX1_exchange 17 = .ok (.iload_n 2, 1) := by decide +kernel
theorem dX1_exchange_18 : decode cX1_exchange 18 = .ok (.iload_n 3, 1) := by decide +kernel
theorem dX1_exchange_19 : decode cX1_exchange 19 = .ok (.invokevirtual 32, 3) := by decide +kernel
theorem dX1_exchange_22 : decode cX1_exchange 22 = .ok (.return_, 1) := by decide +kernel
theorem dX1_turn_0 : decode cX1_turn 0 = .ok (.iload_n 2, 1) := by decide +kernel
theorem dX1_turn_1 : decode cX1_turn 1 = .ok (.iconst 1, 1) := by decide +kernel
theorem dX1_turn_2 : decode cX1_turn 2 = .ok (.isub, 1) := by decide +kernel
theorem dX1_turn_3 : decode cX1_turn 3 = .ok (.istore_n 3, 1) := by decide +kernel
theorem dX1_turn_4 : decode cX1_turn 4 = .ok (.iload_n 1, 1) := by decide +kernel
theorem dX1_turn_5 : decode cX1_turn 5 = .ok (.istore 4, 2) := by decide +kernel
theorem dX1_turn_7 : decode cX1_turn 7 = .ok (.iload 4, 2) := by decide +kernel
theorem dX1_turn_9 : decode cX1_turn 9 = .ok (.iload_n 3, 1) := by decide +kernel
theorem dX1_turn_10 : decode cX1_turn 10 = .ok (.if_icmp .ge 19, 3) := by decide +kernel
theorem dX1_turn_13 : decode cX1_turn 13 = .ok (.aload_n 0, 1) := by decide +kernel
theorem dX1_turn_14 : decode cX1_turn 14 = .ok (.iload 4, 2) := by decide +kernel
theorem dX1_turn_16 : decode cX1_turn 16 = .ok (.iload_n 3, 1) := by decide +kernel
theorem dX1_turn_17 : decode cX1_turn 17 = .ok (.invokevirtual 44, 3) := by decide +kernel
theorem dX1_turn_20 : decode cX1_turn 20 = .ok (.iinc 3 (-1), 3) := by decide +kernel
theorem dX1_turn_23 : decode cX1_turn 23 = .ok (.iinc 4 1, 3) := by decide +kernel
theorem dX1_turn_26 : decode cX1_turn 26 = .ok (.goto (-19), 3) := by decide +kernel
theorem dX1_turn_29 : decode cX1_turn 29 = .ok (.return_, 1) := by decide +kernel
theorem dX1_push_0 : decode cX1_push 0 = .ok (.iload_n 2, 1) := by decide +kernel
theorem dX1_push_1 : decode cX1_push 1 = .ok (.iload_n 1, 1) := by decide +kernel
theorem dX1_push_2 : decode cX1_push 2 = .ok (.isub, 1) := by decide +kernel
theorem dX1_push_3 : decode cX1_push 3 = .ok (.istore 4, 2) := by decide +kernel
theorem dX1_push_5 : decode cX1_push 5 = .ok (.iload 4, 2) := by decide +kernel
theorem dX1_push_7 : decode cX1_push 7 = .ok (.ifCond .gt 4, 3) := by decide +kernel
theorem dX1_push_10 : decode cX1_push 10 = .ok (.return_, 1) := by decide +kernel
theorem dX1_push_11 : decode cX1_push 11 = .ok (.iload_n 1, 1) := by decide +kernel
theorem dX1_push_12 : decode cX1_push 12 = .ok (.iload_n 3, 1) := by decide +kernel
theorem dX1_push_13 : decode cX1_push 13 = .ok (.iload 4, 2) := by decide +kernel
theorem dX1_push_15 : decode cX1_push 15 = .ok (.invokestatic 47, 3) := by decide +kernel
theorem dX1_push_18 : decode cX1_push 18 = .ok (.iadd, 1) := by decide +kernel
theorem dX1_push_19 : decode cX1_push 19 = .ok (.istore 5, 2) := by decide +kernel
theorem dX1_push_21 : decode cX1_push 21 = .ok (.aload_n 0, 1) := by decide +kernel
theorem dX1_push_22 : decode cX1_push 22 = .ok (.iload_n 1, 1) := by decide +kernel
theorem dX1_push_23 : decode cX1_push 23 = .ok (.iload_n 2, 1) := by decide +kernel
theorem dX1_push_24 : decode cX1_push 24 = .ok (.invokevirtual 53, 3) := by decide +kernel
theorem dX1_push_27 : decode cX1_push 27 = .ok (.aload_n 0, 1) := by decide +kernel
theorem dX1_push_28 : decode cX1_push 28 = .ok (.iload_n 1, 1) := by decide +kernel
theorem dX1_push_29 : decode cX1_push 29 = .ok (.iload 5, 2) := by decide +kernel
theorem dX1_push_31 : decode cX1_push 31 = .ok (.invokevirtual 53, 3) := by decide +kernel
theorem dX1_push_34 : decode cX1_push 34 = .ok (.aload_n 0, 1) := by decide +kernel
theorem dX1_push_35 : decode cX1_push 35 = .ok (.iload 5, 2) := by decide +kernel
theorem dX1_push_37 : decode cX1_push 37 = .ok (.iload_n 2, 1) := by decide +kernel
theorem dX1_push_38 : decode cX1_push 38 = .ok (.invokevirtual 53, 3) := by decide +kernel
theorem dX1_push_41 : decode cX1_push 41 = .ok (.return_, 1) := by decide +kernel
theorem dX1_arrange_0 : decode cX1_arrange 0 = .ok (.iload_n 1, 1) := by decide +kernel
theorem dX1_arrange_1 : decode cX1_arrange 1 = .ok (.iconst 1, 1) := by decide +kernel
theorem dX1_arrange_2 : decode cX1_arrange 2 = .ok (.iadd, 1) := by decide +kernel
theorem dX1_arrange_3 : decode cX1_arrange 3 = .ok (.istore 4, 2) := by decide +kernel
theorem dX1_arrange_5 : decode cX1_arrange 5 = .ok (.iload 4, 2) := by decide +kernel
theorem dX1_arrange_7 : decode cX1_arrange 7 = .ok (.iload_n 2, 1) := by decide +kernel
theorem dX1_arrange_8 : decode cX1_arrange 8 = .ok (.if_icmp .ge 17, 3) := by decide +kernel
theorem dX1_arrange_11 : decode cX1_arrange 11 = .ok (.aload_n 0, 1) := by decide +kernel
theorem dX1_arrange_12 : decode cX1_arrange 12 = .ok (.iload_n 1, 1) := by decide +kernel
theorem dX1_arrange_13 : decode cX1_arrange 13 = .ok (.iload 4, 2) := by decide +kernel
theorem dX1_arrange_15 : decode cX1_arrange 15 = .ok (.iload_n 3, 1) := by decide +kernel
theorem dX1_arrange_16 : decode cX1_arrange 16 = .ok (.invokevirtual 56, 3) := by decide +kernel
theorem dX1_arrange_19 : decode cX1_arrange 19 = .ok (.iinc 4 1, 3) := by decide +kernel
theorem dX1_arrange_22 : decode cX1_arrange 22 = .ok (.goto (-17), 3) := by decide +kernel
theorem dX1_arrange_25 : decode cX1_arrange 25 = .ok (.return_, 1) := by decide +kernel
theorem dX1_settle_0 : decode cX1_settle 0 = .ok (.aload_n 0, 1) := by decide +kernel
theorem dX1_settle_1 : decode cX1_settle 1 = .ok (.iload_n 2, 1) := by decide +kernel
theorem dX1_settle_2 : decode cX1_settle 2 = .ok (.invokevirtual 29, 3) := by decide +kernel
theorem dX1_settle_5 : decode cX1_settle 5 = .ok (.istore 4, 2) := by decide +kernel
theorem dX1_settle_7 : decode cX1_settle 7 = .ok (.iload_n 2, 1) := by decide +kernel
theorem dX1_settle_8 : decode cX1_settle 8 = .ok (.istore 5, 2) := by decide +kernel
theorem dX1_settle_10 : decode cX1_settle 10 = .ok (.iload 5, 2) := by decide +kernel
theorem dX1_settle_12 : decode cX1_settle 12 = .ok (.iload_n 1, 1) := by decide +kernel
theorem dX1_settle_13 : decode cX1_settle 13 = .ok (.if_icmp .le 37, 3) := by decide +kernel
theorem dX1_settle_16 : decode cX1_settle 16 = .ok (.iload 4, 2) := by decide +kernel
theorem dX1_settle_18 : decode cX1_settle 18 = .ok (.aload_n 0, 1) := by decide +kernel
theorem dX1_settle_19 : decode cX1_settle 19 = .ok (.iload 5, 2) := by decide +kernel
theorem dX1_settle_21 : decode cX1_settle 21 = .ok (.iconst 1, 1) := by decide +kernel
theorem dX1_settle_22 : decode cX1_settle 22 = .ok (.isub, 1) := by decide +kernel
theorem dX1_settle_23 : decode cX1_settle 23 = .ok (.invokevirtual 29, 3) := by decide +kernel
theorem dX1_settle_26 : decode cX1_settle 26 = .ok (.iload_n 3, 1) := by decide +kernel
theorem dX1_settle_27 : decode cX1_settle 27 = .ok (.invokestatic 60, 3) := by decide +kernel
theorem dX1_settle_30 : decode cX1_settle 30 = .ok (.ifCond .ne 4, 3) := by decide +kernel
theorem dX1_settle_33 : decode cX1_settle 33 = .ok (.return_, 1) := by decide +kernel
theorem dX1_howOften_0 : decode cX1_howOften 0 = .ok (.iconst 0, 1) := by decide +kernel
theorem dX1_howOften_1 : decode cX1_howOften 1 = .ok (.istore_n 2, 1) := by decide +kernel
theorem dX1_howOften_2 : decode cX1_howOften 2 = .ok (.iconst 0, 1) := by decide +kernel
theorem dX1_howOften_3 : decode cX1_howOften 3 = .ok (.istore_n 3, 1) := by decide +kernel
theorem dX1_howOften_4 : decode cX1_howOften 4 = .ok (.iload_n 3, 1) := by decide +kernel
theorem dX1_howOften_5 : decode cX1_howOften 5 = .ok (.aload_n 0, 1) := by decide +kernel
theorem dX1_howOften_6 : decode cX1_howOften 6 = .ok (.getfield 15, 3) := by decide +kernel
theorem dX1_howOften_9 : decode cX1_howOften 9 = .ok (.if_icmp .ge 21, 3) := by decide +kernel
theorem dX1_howOften_12 : decode cX1_howOften 12 = .ok (.aload_n 0, 1) := by decide +kernel
theorem dX1_howOften_13 : decode cX1_howOften 13 = .ok (.iload_n 3, 1) := by decide +kernel
theorem dX1_howOften_14 : decode cX1_howOften 14 = .ok (.invokevirtual 25, 3) := by decide +kernel
theorem dX1_howOften_17 : decode cX1_howOften 17 = .ok (.iload_n 1, 1) := by decide +kernel
theorem dX1_howOften_18 : decode cX1_howOften 18 = .ok (.if_icmp .ne 6, 3) := by decide +kernel
theorem dX1_howOften_21 : decode cX1_howOften 21 = .ok (.iinc 2 1, 3) := by decide +kernel
theorem dX1_howOften_24 : decode cX1_howOften 24 = .ok (.iinc 3 1, 3) := by decide +kernel
theorem dX1_howOften_27 : decode cX1_howOften 27 = .ok (.goto (-23), 3) := by decide +kernel
theorem dX1_howOften_30 : decode cX1_howOften 30 = .ok (.iload_n 2, 1) := by decide +kernel
theorem dX1_howOften_31 : decode cX1_howOften 31 = .ok (.ireturn, 1) := by decide +kernel
theorem dX1_firstPlaceOf_0 : decode cX1_firstPlaceOf 0 = .ok (.iconst 0, 1) := by decide +kernel
theorem dX1_firstPlaceOf_1 : decode cX1_firstPlaceOf 1 = .ok (.istore_n 2, 1) := by decide +kernel
theorem dX1_firstPlaceOf_2 : decode cX1_firstPlaceOf 2 = .ok (.iload_n 2, 1) := by decide +kernel
theorem dX1_firstPlaceOf_3 : decode cX1_firstPlaceOf 3 = .ok (.aload_n 0, 1) := by decide +kernel
theorem dX1_firstPlaceOf_4 : decode cX1_firstPlaceOf 4 = .ok (.getfield 15, 3) := by decide +kernel
theorem dX1_firstPlaceOf_7 : decode cX1_firstPlaceOf 7 = .ok (.if_icmp .ge 20, 3) := by decide +kernel
theorem dX1_firstPlaceOf_10 : decode cX1_firstPlaceOf 10 = .ok (.aload_n 0, 1) := by decide +kernel
theorem dX1_firstPlaceOf_11 : decode cX1_firstPlaceOf 11 = .ok (.iload_n 2, 1) := by decide +kernel
theorem dX1_firstPlaceOf_12 : decode cX1_firstPlaceOf 12 = .ok (.invokevirtual 25, 3) := by decide +kernel
theorem dX1_firstPlaceOf_15 : decode cX1_firstPlaceOf 15 = .ok (.iload_n 1, 1) := by decide +kernel
theorem dX1_firstPlaceOf_16 : decode cX1_firstPlaceOf 16 = .ok (.if_icmp .ne 5, 3) := by decide +kernel
theorem dX1_firstPlaceOf_19 : decode cX1_firstPlaceOf 19 = .ok (.iload_n 2, 1) := by decide +kernel
theorem dX1_firstPlaceOf_20 : decode cX1_firstPlaceOf 20 = .ok (.ireturn, 1) := by decide +kernel
theorem dX1_firstPlaceOf_27 : decode cX1_firstPlaceOf 27 = .ok (.iconst (-1), 1) := by decide +kernel
theorem dX1_firstPlaceOf_28 : decode cX1_firstPlaceOf 28 = .ok (.ireturn, 1) := by decide +kernel
theorem dX1_isLike_0 : decode cX1_isLike 0 = .ok (.aload_n 0, 1) := by decide +kernel
theorem dX1_isLike_1 : decode cX1_isLike 1 = .ok (.getfield 15, 3) := by decide +kernel
theorem dX1_isLike_4 : decode cX1_isLike 4 = .ok (.aload_n 1, 1) := by decide +kernel
theorem dX1_isLike_5 : decode cX1_isLike 5 = .ok (.getfield 15, 3) := by decide +kernel
theorem dX1_isLike_8 : decode cX1_isLike 8 = .ok (.if_icmp .ne 21, 3) := by decide +kernel
theorem dX1_isLike_11 : decode cX1_isLike 11 = .ok (.aload_n 0, 1) := by decide +kernel
theorem dX1_isLike_12 : decode cX1_isLike 12 = .ok (.iconst 0, 1) := by decide +kernel
theorem dX1_isLike_13 : decode cX1_isLike 13 = .ok (.aload_n 1, 1) := by decide +kernel
theorem dX1_isLike_14 : decode cX1_isLike 14 = .ok (.iconst 0, 1) := by decide +kernel
theorem dX1_isLike_15 : decode cX1_isLike 15 = .ok (.aload_n 1, 1) := by decide +kernel
theorem dX1_isLike_16 : decode cX1_isLike 16 = .ok (.getfield 15, 3) := by decide +kernel
theorem dX1_isLike_19 : decode cX1_isLike 19 = .ok (.invokevirtual 64, 3) := by decide +kernel
theorem dX1_isLike_22 : decode cX1_isLike 22 = .ok (.ifCond .eq 7, 3) := by decide +kernel
theorem dX1_isLike_25 : decode cX1_isLike 25 = .ok (.iconst 1, 1) := by decide +kernel
theorem dX1_isLike_26 : decode cX1_isLike 26 = .ok (.goto 4, 3) := by decide +kernel
theorem dX1_isLike_30 : decode cX1_isLike 30 = .ok (.ireturn, 1) := by decide +kernel
theorem dX1_hasFrom_0 : decode cX1_hasFrom 0 = .ok (.iconst 0, 1) := by decide +kernel
theorem dX1_hasFrom_1 : decode cX1_hasFrom 1 = .ok (.istore 5, 2) := by decide +kernel
theorem dX1_hasFrom_3 : decode cX1_hasFrom 3 = .ok (.iload 5, 2) := by decide +kernel
theorem dX1_hasFrom_5 : decode cX1_hasFrom 5 = .ok (.iload 4, 2) := by decide +kernel
theorem dX1_hasFrom_7 : decode cX1_hasFrom 7 = .ok (.if_icmp .ge 30, 3) := by decide +kernel
theorem dX1_hasFrom_10 : decode cX1_hasFrom 10 = .ok (.aload_n 0, 1) := by decide +kernel
theorem dX1_hasFrom_11 : decode cX1_hasFrom 11 = .ok (.iload_n 1, 1) := by decide +kernel
theorem dX1_hasFrom_12 : decode cX1_hasFrom 12 = .ok (.iload 5, 2) := by decide +kernel
theorem dX1_hasFrom_14 : decode cX1_hasFrom 14 = .ok (.iadd, 1) := by decide +kernel
theorem dX1_hasFrom_15 : decode cX1_hasFrom 15 = .ok (.invokevirtual 25, 3) := by decide +kernel
theorem dX1_hasFrom_18 : decode cX1_hasFrom 18 = .ok (.aload_n 2, 1) := by decide +kernel
theorem dX1_hasFrom_19 : decode cX1_hasFrom 19 = .ok (.iload_n 3, 1) := by decide +kernel
theorem dX1_hasFrom_20 : decode cX1_hasFrom 20 = .ok (.iload 5, 2) := by decide +kernel
theorem dX1_hasFrom_22 : decode cX1_hasFrom 22 = .ok (.iadd, 1) := by decide +kernel
theorem dX1_hasFrom_23 : decode cX1_hasFrom 23 = .ok (.invokevirtual 25, 3) := by decide +kernel
theorem dX1_hasFrom_26 : decode cX1_hasFrom 26 = .ok (.if_icmp .eq 5, 3) := by decide +kernel
theorem dX1_hasFrom_31 : decode cX1_hasFrom 31 = .ok (.iinc 5 1, 3) := by decide +kernel
theorem dX1_hasFrom_34 : decode cX1_hasFrom 34 = .ok (.goto (-31), 3) := by decide +kernel
theorem dX1_hasFrom_37 : decode cX1_hasFrom 37 = .ok (.iconst 1, 1) := by decide +kernel
theorem dX1_hasFrom_38 : decode cX1_hasFrom 38 = .ok (.ireturn, 1) := by decide +kernel
theorem dX1_placeOf_0 : decode cX1_placeOf 0 = .ok (.iload 5, 2) := by decide +kernel
theorem dX1_placeOf_2 : decode cX1_placeOf 2 = .ok (.iload 4, 2) := by decide +kernel
theorem dX1_placeOf_4 : decode cX1_placeOf 4 = .ok (.isub, 1) := by decide +kernel
theorem dX1_placeOf_5 : decode cX1_placeOf 5 = .ok (.istore 6, 2) := by decide +kernel
theorem dX1_placeOf_7 : decode cX1_placeOf 7 = .ok (.iload_n 1, 1) := by decide +kernel
theorem dX1_placeOf_8 : decode cX1_placeOf 8 = .ok (.istore 7, 2) := by decide +kernel
theorem dX1_placeOf_10 : decode cX1_placeOf 10 = .ok (.iload 7, 2) := by decide +kernel
theorem dX1_placeOf_12 : decode cX1_placeOf 12 = .ok (.iload 6, 2) := by decide +kernel
theorem dX1_placeOf_14 : decode cX1_placeOf 14 = .ok (.iadd, 1) := by decide +kernel
theorem dX1_placeOf_15 : decode cX1_placeOf 15 = .ok (.iload_n 2, 1) := by decide +kernel
theorem dX1_placeOf_16 : decode cX1_placeOf 16 = .ok (.if_icmp .gt 28, 3) := by decide +kernel
theorem dX1_placeOf_19 : decode cX1_placeOf 19 = .ok (.aload_n 0, 1) := by decide +kernel
theorem dX1_placeOf_20 : decode cX1_placeOf 20 = .ok (.iload 7, 2) := by decide +kernel
theorem dX1_placeOf_22 : decode cX1_placeOf 22 = .ok (.aload_n 3, 1) := by decide +kernel
theorem dX1_placeOf_23 : decode cX1_placeOf 23 = .ok (.iload 4, 2) := by decide +kernel
theorem dX1_placeOf_25 : decode cX1_placeOf 25 = .ok (.iload 6, 2) := by decide +kernel
theorem dX1_placeOf_27 : decode cX1_placeOf 27 = .ok (.invokevirtual 64, 3) := by decide +kernel
theorem dX1_placeOf_30 : decode cX1_placeOf 30 = .ok (.ifCond .eq 8, 3) := by decide +kernel
theorem dX1_placeOf_33 : decode cX1_placeOf 33 = .ok (.iload 7, 2) := by decide +kernel
theorem dX1_placeOf_35 : decode cX1_placeOf 35 = .ok (.iload_n 1, 1) := by decide +kernel
theorem dX1_placeOf_36 : decode cX1_placeOf 36 = .ok (.isub, 1) := by decide +kernel
theorem dX1_placeOf_37 : decode cX1_placeOf 37 = .ok (.ireturn, 1) := by decide +kernel
theorem dX1_placeOf_44 : decode cX1_placeOf 44 = .ok (.iconst (-1), 1) := by decide +kernel
theorem dX1_placeOf_45 : decode cX1_placeOf 45 = .ok (.ireturn, 1) := by decide +kernel
theorem dX2_init_0 : decode cX2_init 0 = .ok (.aload_n 0, 1) := by decide +kernel
theorem dX2_init_1 : decode cX2_init 1 = .ok (.invokespecial 1, 3) := by decide +kernel
theorem dX2_init_4 : decode cX2_init 4 = .ok (.aload_n 0, 1) := by decide +kernel
theorem dX2_init_5 : decode cX2_init 5 = .ok (.iconst 4, 1) := by decide +kernel
theorem dX2_init_6 : decode cX2_init 6 = .ok (.anewarray 9, 3) := by decide +kernel
theorem dX2_init_9 : decode cX2_init 9 = .ok (.putfield 11, 3) := by decide +kernel
theorem dX2_init_12 : decode cX2_init 12 = .ok (.iconst 0, 1) := by decide +kernel
theorem dX2_init_13 : decode cX2_init 13 = .ok (.istore_n 1, 1) := by decide +kernel
theorem dX2_init_14 : decode cX2_init 14 = .ok (.iload_n 1, 1) := by decide +kernel
theorem dX2_init_15 : decode cX2_init 15 = .ok (.aload_n 0, 1) := by decide +kernel
theorem dX2_init_16 : decode cX2_init 16 = .ok (.getfield 11, 3) := by decide +kernel
theorem dX2_init_19 : decode cX2_init 19 = .ok (.arraylength, 1) := by decide +kernel
theorem dX2_init_20 : decode cX2_init 20 = .ok (.if_icmp .ge 22, 3) := by decide +kernel
theorem dX2_init_23 : decode cX2_init 23 = .ok (.aload_n 0, 1) := by decide +kernel
theorem dX2_init_24 : decode cX2_init 24 = .ok (.getfield 11, 3) := by decide +kernel
theorem dX2_init_27 : decode cX2_init 27 = .ok (.iload_n 1, 1) := by decide +kernel
theorem dX2_init_28 : decode cX2_init 28 = .ok (.new 9, 3) := by decide +kernel
theorem dX2_init_31 : decode cX2_init 31 = .ok (.dup, 1) := by decide +kernel
theorem dX2_init_32 : decode cX2_init 32 = .ok (.invokespecial 15, 3) := by decide +kernel
theorem dX2_init_35 : decode cX2_init 35 = .ok (.aastore, 1) := by decide +kernel
theorem dX2_init_36 : decode cX2_init 36 = .ok (.iinc 1 1, 3) := by decide +kernel
theorem dX2_init_39 : decode cX2_init 39 = .ok (.goto (-25), 3) := by decide +kernel
theorem dX2_init_42 : decode cX2_init 42 = .ok (.aload_n 0, 1) := by decide +kernel
theorem dX2_init_43 : decode cX2_init 43 = .ok (.iconst 3, 1) := by decide +kernel
theorem dX2_init_44 : decode cX2_init 44 = .ok (.anewarray 16, 3) := by decide +kernel
theorem dX2_init_47 : decode cX2_init 47 = .ok (.putfield 18, 3) := by decide +kernel
theorem dX2_init_50 : decode cX2_init 50 = .ok (.iconst 0, 1) := by decide +kernel
theorem dX2_init_51 : decode cX2_init 51 = .ok (.istore_n 1, 1) := by decide +kernel
theorem dX2_init_52 : decode cX2_init 52 = .ok (.iload_n 1, 1) := by decide +kernel
theorem dX2_init_53 : decode cX2_init 53 = .ok (.aload_n 0, 1) := by decide +kernel
theorem dX2_init_54 : decode cX2_init 54 = .ok (.getfield 18, 3) := by decide +kernel
theorem dX2_init_57 : decode cX2_init 57 = .ok (.arraylength, 1) := by decide +kernel
theorem dX2_init_58 : decode cX2_init 58 = .ok (.if_icmp .ge 22, 3) := by decide +kernel
theorem dX2_init_61 : decode cX2_init 61 = .ok (.aload_n 0, 1) := by decide +kernel
theorem dX2_init_62 : decode cX2_init 62 = .ok (.getfield 18, 3) := by decide +kernel
theorem dX2_init_65 : decode cX2_init 65 = .ok (.iload_n 1, 1) := by decide +kernel
theorem dX2_init_66 : decode cX2_init 66 = .ok (.new 16, 3) := by decide +kernel
theorem dX2_init_69 : decode cX2_init 69 = .ok (.dup, 1) := by decide +kernel
theorem dX2_init_70 : decode cX2_init 70 = .ok (.invokespecial 22, 3) := by decide +kernel
theorem dX2_init_73 : decode cX2_init 73 = .ok (.aastore, 1) := by decide +kernel
theorem dX2_init_74 : decode cX2_init 74 = .ok (.iinc 1 1, 3) := by decide +kernel
theorem dX2_init_77 : decode cX2_init 77 = .ok (.goto (-25), 3) := by decide +kernel
theorem dX2_init_80 : decode cX2_init 80 = .ok (.aload_n 0, 1) := by decide +kernel
theorem dX2_init_81 : decode cX2_init 81 = .ok (.new 9, 3) := by decide +kernel
theorem dX2_init_84 : decode cX2_init 84 = .ok (.dup, 1) := by decide +kernel
theorem dX2_init_85 : decode cX2_init 85 = .ok (.invokespecial 15, 3) := by decide +kernel
theorem dX2_init_88 : decode cX2_init 88 = .ok (.putfield 23, 3) := by decide +kernel
theorem dX2_init_91 : decode cX2_init 91 = .ok (.aload_n 0, 1) := by decide +kernel
theorem dX2_init_92 : decode cX2_init 92 = .ok (.iconst 0, 1) := by decide +kernel
theorem dX2_init_93 : decode cX2_init 93 = .ok (.putfield 27, 3) := by decide +kernel
theorem dX2_init_96 : decode cX2_init 96 = .ok (.return_, 1) := by decide +kernel
theorem dX2_addCopies_0 : decode cX2_addCopies 0 = .ok (.aload_n 0, 1) := by decide +kernel
theorem dX2_addCopies_1 : decode cX2_addCopies 1 = .ok (.iload_n 1, 1) := by decide +kernel
theorem dX2_addCopies_2 : decode cX2_addCopies 2 = .ok (.invokevirtual 31, 3) := by decide +kernel
theorem dX2_addCopies_5 : decode cX2_addCopies 5 = .ok (.astore 5, 2) := by decide +kernel
theorem dX2_addCopies_7 : decode cX2_addCopies 7 = .ok (.iload_n 2, 1) := by decide +kernel
theorem dX2_addCopies_8 : decode cX2_addCopies 8 = .ok (.invokestatic 82, 3) := by decide +kernel
theorem dX2_addCopies_11 : decode cX2_addCopies 11 = .ok (.iload_n 3, 1) := by decide +kernel
theorem dX2_addCopies_12 : decode cX2_addCopies 12 = .ok (.iload 4, 2) := by decide +kernel
theorem dX2_addCopies_14 : decode cX2_addCopies 14 = .ok (.invokestatic 35, 3) := by decide +kernel
theorem dX2_addCopies_17 : decode cX2_addCopies 17 = .ok (.istore 6, 2) := by decide +kernel
theorem dX2_addCopies_19 : decode cX2_addCopies 19 = .ok (.aload 5, 2) := by decide +kernel
theorem dX2_addCopies_21 : decode cX2_addCopies 21 = .ok (.iload_n 2, 1) := by decide +kernel
theorem dX2_addCopies_22 : decode cX2_addCopies 22 = .ok (.invokestatic 39, 3) := by decide +kernel
theorem dX2_addCopies_25 : decode cX2_addCopies 25 = .ok (.aload 5, 2) := by decide +kernel
theorem dX2_addCopies_27 : decode cX2_addCopies 27 = .ok (.iload_n 2, 1) := by decide +kernel
theorem dX2_addCopies_28 : decode cX2_addCopies 28 = .ok (.iload 6, 2) := by decide +kernel
theorem dX2_addCopies_30 : decode cX2_addCopies 30 = .ok (.invokevirtual 85, 3) := by decide +kernel
theorem dX2_addCopies_33 : decode cX2_addCopies 33 = .ok (.aload_n 0, 1) := by decide +kernel
theorem dX2_addCopies_34 : decode cX2_addCopies 34 = .ok (.aload 5, 2) := by decide +kernel
theorem dX2_addCopies_36 : decode cX2_addCopies 36 = .ok (.iload_n 2, 1) := by decide +kernel
theorem dX2_addCopies_37 : decode cX2_addCopies 37 = .ok (.invokevirtual 79, 3) := by decide +kernel
theorem dX2_addCopies_40 : decode cX2_addCopies 40 = .ok (.aload 5, 2) := by decide +kernel
theorem dX2_addCopies_42 : decode cX2_addCopies 42 = .ok (.getfield 51, 3) := by decide +kernel
theorem dX2_addCopies_45 : decode cX2_addCopies 45 = .ok (.ireturn, 1) := by decide +kernel
theorem dX2_part_0 : decode cX2_part 0 = .ok (.aload_n 0, 1) := by decide +kernel
theorem dX2_part_1 : decode cX2_part 1 = .ok (.iload_n 1, 1) := by decide +kernel
theorem dX2_part_2 : decode cX2_part 2 = .ok (.invokevirtual 167, 3) := by decide +kernel
theorem dX2_part_5 : decode cX2_part 5 = .ok (.astore 5, 2) := by decide +kernel
theorem dX2_part_7 : decode cX2_part 7 = .ok (.aload_n 0, 1) := by decide +kernel
theorem dX2_part_8 : decode cX2_part 8 = .ok (.iload_n 2, 1) := by decide +kernel
theorem dX2_part_9 : decode cX2_part 9 = .ok (.invokevirtual 31, 3) := by decide +kernel
theorem dX2_part_12 : decode cX2_part 12 = .ok (.astore 6, 2) := by decide +kernel
theorem dX2_part_14 : decode cX2_part 14 = .ok (.iload_n 3, 1) := by decide +kernel
theorem dX2_part_15 : decode cX2_part 15 = .ok (.iload 4, 2) := by decide +kernel
theorem dX2_part_17 : decode cX2_part 17 = .ok (.aload 6, 2) := by decide +kernel
theorem dX2_part_19 : decode cX2_part 19 = .ok (.getfield 51, 3) := by decide +kernel
theorem dX2_part_22 : decode cX2_part 22 = .ok (.invokestatic 171, 3) := by decide +kernel
theorem dX2_part_25 : decode cX2_part 25 = .ok (.ifCond .ne 13, 3) := by decide +kernel
theorem dX2_part_38 : decode cX2_part 38 = .ok (.aload_n 0, 1) := by decide +kernel
theorem dX2_part_39 : decode cX2_part 39 = .ok (.aload 5, 2) := by decide +kernel
theorem dX2_part_41 : decode cX2_part 41 = .ok (.invokevirtual 177, 3) := by decide +kernel
theorem dX2_part_44 : decode cX2_part 44 = .ok (.aload 5, 2) := by decide +kernel
theorem dX2_part_46 : decode cX2_part 46 = .ok (.aload 6, 2) := by decide +kernel
theorem dX2_part_48 : decode cX2_part 48 = .ok (.aconst_null, 1) := by decide +kernel
theorem dX2_part_49 : decode cX2_part 49 = .ok (.iload_n 3, 1) := by decide +kernel
theorem dX2_part_50 : decode cX2_part 50 = .ok (.iload 4, 2) := by decide +kernel
theorem dX2_part_52 : decode cX2_part 52 = .ok (.invokevirtual 181, 3) := by decide +kernel
theorem dX2_part_55 : decode cX2_part 55 = .ok (.aload 5, 2) := by decide +kernel
theorem dX2_part_57 : decode cX2_part 57 = .ok (.invokevirtual 185, 3) := by decide +kernel
theorem dX2_part_60 : decode cX2_part 60 = .ok (.ireturn, 1) := by decide +kernel
theorem dX2_isSound_0 : decode cX2_isSound 0 = .ok (.aload_n 0, 1) := by decide +kernel
theorem dX2_isSound_1 : decode cX2_isSound 1 = .ok (.getfield 11, 3) := by decide +kernel
theorem dX2_isSound_4 : decode cX2_isSound 4 = .ok (.astore_n 1, 1) := by decide +kernel
theorem dX2_isSound_5 : decode cX2_isSound 5 = .ok (.aload_n 1, 1) := by decide +kernel
theorem dX2_isSound_6 : decode cX2_isSound 6 = .ok (.arraylength, 1) := by decide +kernel
theorem dX2_isSound_7 : decode cX2_isSound 7 = .ok (.istore_n 2, 1) := by decide +kernel
theorem dX2_isSound_8 : decode cX2_isSound 8 = .ok (.iconst 0, 1) := by decide +kernel
theorem dX2_isSound_9 : decode cX2_isSound 9 = .ok (.istore_n 3, 1) := by decide +kernel
theorem dX2_isSound_10 : decode cX2_isSound 10 = .ok (.iload_n 3, 1) := by decide +kernel
theorem dX2_isSound_11 : decode cX2_isSound 11 = .ok (.iload_n 2, 1) := by decide +kernel
theorem dX2_isSound_12 : decode cX2_isSound 12 = .ok (.if_icmp .ge 25, 3) := by decide +kernel
theorem dX2_isSound_15 : decode cX2_isSound 15 = .ok (.aload_n 1, 1) := by decide +kernel
theorem dX2_isSound_16 : decode cX2_isSound 16 = .ok (.iload_n 3, 1) := by decide +kernel
theorem dX2_isSound_17 : decode cX2_isSound 17 = .ok (.aaload, 1) := by decide +kernel
theorem dX2_isSound_18 : decode cX2_isSound 18 = .ok (.astore 4, 2) := by decide +kernel
theorem dX2_isSound_20 : decode cX2_isSound 20 = .ok (.aload_n 0, 1) := by decide +kernel
theorem dX2_isSound_21 : decode cX2_isSound 21 = .ok (.aload 4, 2) := by decide +kernel
theorem dX2_isSound_23 : decode cX2_isSound 23 = .ok (.invokevirtual 259, 3) := by decide +kernel
theorem dX2_isSound_26 : decode cX2_isSound 26 = .ok (.ifCond .ne 5, 3) := by decide +kernel
theorem dX2_isSound_31 : decode cX2_isSound 31 = .ok (.iinc 3 1, 3) := by decide +kernel
theorem dX2_isSound_34 : decode cX2_isSound 34 = .ok (.goto (-24), 3) := by decide +kernel
theorem dX2_isSound_37 : decode cX2_isSound 37 = .ok (.aload_n 0, 1) := by decide +kernel
theorem dX2_isSound_38 : decode cX2_isSound 38 = .ok (.getfield 18, 3) := by decide +kernel
theorem dX2_isSound_41 : decode cX2_isSound 41 = .ok (.astore_n 1, 1) := by decide +kernel
theorem dX2_isSound_42 : decode cX2_isSound 42 = .ok (.aload_n 1, 1) := by decide +kernel
theorem dX2_isSound_43 : decode cX2_isSound 43 = .ok (.arraylength, 1) := by decide +kernel
theorem dX2_isSound_44 : decode cX2_isSound 44 = .ok (.istore_n 2, 1) := by decide +kernel
theorem dX2_isSound_45 : decode cX2_isSound 45 = .ok (.iconst 0, 1) := by decide +kernel
theorem dX2_isSound_46 : decode cX2_isSound 46 = .ok (.istore_n 3, 1) := by decide +kernel
theorem dX2_isSound_47 : decode cX2_isSound 47 = .ok (.iload_n 3, 1) := by decide +kernel
theorem dX2_isSound_48 : decode cX2_isSound 48 = .ok (.iload_n 2, 1) := by decide +kernel
theorem dX2_isSound_49 : decode cX2_isSound 49 = .ok (.if_icmp .ge 24, 3) := by decide +kernel
theorem dX2_isSound_52 : decode cX2_isSound 52 = .ok (.aload_n 1, 1) := by decide +kernel
theorem dX2_isSound_53 : decode cX2_isSound 53 = .ok (.iload_n 3, 1) := by decide +kernel
theorem dX2_isSound_54 : decode cX2_isSound 54 = .ok (.aaload, 1) := by decide +kernel
theorem dX2_isSound_55 : decode cX2_isSound 55 = .ok (.astore 4, 2) := by decide +kernel
theorem dX2_isSound_57 : decode cX2_isSound 57 = .ok (.aload 4, 2) := by decide +kernel
theorem dX2_isSound_59 : decode cX2_isSound 59 = .ok (.invokestatic 262, 3) := by decide +kernel
theorem dX2_isSound_62 : decode cX2_isSound 62 = .ok (.ifCond .ne 5, 3) := by decide +kernel
theorem dX2_isSound_67 : decode cX2_isSound 67 = .ok (.iinc 3 1, 3) := by decide +kernel
theorem dX2_isSound_70 : decode cX2_isSound 70 = .ok (.goto (-23), 3) := by decide +kernel
theorem dX2_isSound_73 : decode cX2_isSound 73 = .ok (.iconst 1, 1) := by decide +kernel
theorem dX2_isSound_74 : decode cX2_isSound 74 = .ok (.ireturn, 1) := by decide +kernel
theorem dX2_digest_0 : decode cX2_digest 0 = .ok (.new 222, 3) := by decide +kernel
theorem dX2_digest_3 : decode cX2_digest 3 = .ok (.dup, 1) := by decide +kernel
theorem dX2_digest_4 : decode cX2_digest 4 = .ok (.invokespecial 224, 3) := by decide +kernel
theorem dX2_digest_7 : decode cX2_digest 7 = .ok (.astore_n 1, 1) := by decide +kernel
theorem dX2_digest_8 : decode cX2_digest 8 = .ok (.aload_n 0, 1) := by decide +kernel
theorem dX2_digest_9 : decode cX2_digest 9 = .ok (.ldc2_w 265, 3) := by decide +kernel
theorem dX2_digest_12 : decode cX2_digest 12 = .ok (.invokevirtual 267, 3) := by decide +kernel
theorem dX2_digest_15 : decode cX2_digest 15 = .ok (.lstore_n 2, 1) := by decide +kernel
theorem dX2_digest_16 : decode cX2_digest 16 = .ok (.aload_n 0, 1) := by decide +kernel
theorem dX2_digest_17 : decode cX2_digest 17 = .ok (.getfield 11, 3) := by decide +kernel
theorem dX2_digest_20 : decode cX2_digest 20 = .ok (.astore 4, 2) := by decide +kernel
theorem dX2_digest_22 : decode cX2_digest 22 = .ok (.aload 4, 2) := by decide +kernel
theorem dX2_digest_24 : decode cX2_digest 24 = .ok (.arraylength, 1) := by decide +kernel
theorem dX2_digest_25 : decode cX2_digest 25 = .ok (.istore 5, 2) := by decide +kernel
theorem dX2_digest_27 : decode cX2_digest 27 = .ok (.iconst 0, 1) := by decide +kernel
theorem dX2_digest_28 : decode cX2_digest 28 = .ok (.istore 6, 2) := by decide +kernel
theorem dX2_digest_30 : decode cX2_digest 30 = .ok (.iload 6, 2) := by decide +kernel
theorem dX2_digest_32 : decode cX2_digest 32 = .ok (.iload 5, 2) := by decide +kernel
theorem dX2_digest_34 : decode cX2_digest 34 = .ok (.if_icmp .ge 24, 3) := by decide +kernel
theorem dX2_digest_37 : decode cX2_digest 37 = .ok (.aload 4, 2) := by decide +kernel
theorem dX2_digest_39 : decode cX2_digest 39 = .ok (.iload 6, 2) := by decide +kernel
theorem dX2_digest_41 : decode cX2_digest 41 = .ok (.aaload, 1) := by decide +kernel
theorem dX2_digest_42 : decode cX2_digest 42 = .ok (.astore 7, 2) := by decide +kernel
theorem dX2_digest_44 : decode cX2_digest 44 = .ok (.lload_n 2, 1) := by decide +kernel
theorem dX2_digest_45 : decode cX2_digest 45 = .ok (.aload 7, 2) := by decide +kernel
theorem dX2_digest_47 : decode cX2_digest 47 = .ok (.aload_n 1, 1) := by decide +kernel
theorem dX2_digest_48 : decode cX2_digest 48 = .ok (.invokestatic 271, 3) := by decide +kernel
theorem dX2_digest_51 : decode cX2_digest 51 = .ok (.lstore_n 2, 1) := by decide +kernel
theorem dX2_digest_52 : decode cX2_digest 52 = .ok (.iinc 6 1, 3) := by decide +kernel
theorem dX2_digest_55 : decode cX2_digest 55 = .ok (.goto (-25), 3) := by decide +kernel
theorem dX2_digest_58 : decode cX2_digest 58 = .ok (.aload_n 0, 1) := by decide +kernel
theorem dX2_digest_59 : decode cX2_digest 59 = .ok (.getfield 11, 3) := by decide +kernel
theorem dX2_digest_62 : decode cX2_digest 62 = .ok (.astore 4, 2) := by decide +kernel
theorem dX2_digest_64 : decode cX2_digest 64 = .ok (.aload 4, 2) := by decide +kernel
theorem dX2_digest_66 : decode cX2_digest 66 = .ok (.arraylength, 1) := by decide +kernel
theorem dX2_digest_67 : decode cX2_digest 67 = .ok (.istore 5, 2) := by decide +kernel
theorem dX2_digest_69 : decode cX2_digest 69 = .ok (.iconst 0, 1) := by decide +kernel
theorem dX2_digest_70 : decode cX2_digest 70 = .ok (.istore 6, 2) := by decide +kernel
theorem dX2_digest_72 : decode cX2_digest 72 = .ok (.iload 6, 2) := by decide +kernel
theorem dX2_digest_74 : decode cX2_digest 74 = .ok (.iload 5, 2) := by decide +kernel
theorem dX2_digest_76 : decode cX2_digest 76 = .ok (.if_icmp .ge 83, 3) := by decide +kernel
theorem dX2_digest_79 : decode cX2_digest 79 = .ok (.aload 4, 2) := by decide +kernel
theorem dX2_digest_81 : decode cX2_digest 81 = .ok (.iload 6, 2) := by decide +kernel
theorem dX2_digest_83 : decode cX2_digest 83 = .ok (.aaload, 1) := by decide +kernel
theorem dX2_digest_84 : decode cX2_digest 84 = .ok (.astore 7, 2) := by decide +kernel
theorem dX2_digest_86 : decode cX2_digest 86 = .ok (.aload_n 0, 1) := by decide +kernel
theorem dX2_digest_87 : decode cX2_digest 87 = .ok (.getfield 11, 3) := by decide +kernel
theorem dX2_digest_90 : decode cX2_digest 90 = .ok (.astore 8, 2) := by decide +kernel
theorem dX2_digest_92 : decode cX2_digest 92 = .ok (.aload 8, 2) := by decide +kernel
theorem dX2_digest_94 : decode cX2_digest 94 = .ok (.arraylength, 1) := by decide +kernel
theorem dX2_digest_95 : decode cX2_digest 95 = .ok (.istore 9, 2) := by decide +kernel
theorem dX2_digest_97 : decode cX2_digest 97 = .ok (.iconst 0, 1) := by decide +kernel
theorem dX2_digest_98 : decode cX2_digest 98 = .ok (.istore 10, 2) := by decide +kernel
theorem dX2_digest_100 : decode cX2_digest 100 = .ok (.iload 10, 2) := by decide +kernel
theorem dX2_digest_102 : decode cX2_digest 102 = .ok (.iload 9, 2) := by decide +kernel
theorem dX2_digest_104 : decode cX2_digest 104 = .ok (.if_icmp .ge 49, 3) := by decide +kernel
theorem dX2_digest_107 : decode cX2_digest 107 = .ok (.aload 8, 2) := by decide +kernel
theorem dX2_digest_109 : decode cX2_digest 109 = .ok (.iload 10, 2) := by decide +kernel
theorem dX2_digest_111 : decode cX2_digest 111 = .ok (.aaload, 1) := by decide +kernel
theorem dX2_digest_112 : decode cX2_digest 112 = .ok (.astore 11, 2) := by decide +kernel
theorem dX2_digest_114 : decode cX2_digest 114 = .ok (.lload_n 2, 1) := by decide +kernel
theorem dX2_digest_115 : decode cX2_digest 115 = .ok (.aload 7, 2) := by decide +kernel
theorem dX2_digest_117 : decode cX2_digest 117 = .ok (.aload 11, 2) := by decide +kernel
theorem dX2_digest_119 : decode cX2_digest 119 = .ok (.invokestatic 139, 3) := by decide +kernel
theorem dX2_digest_122 : decode cX2_digest 122 = .ok (.ifCond .eq 7, 3) := by decide +kernel
theorem dX2_digest_125 : decode cX2_digest 125 = .ok (.lconst 1, 1) := by decide +kernel
theorem dX2_digest_126 : decode cX2_digest 126 = .ok (.goto 4, 3) := by decide +kernel
theorem dX2_digest_129 : decode cX2_digest 129 = .ok (.lconst 0, 1) := by decide +kernel
theorem dX2_digest_130 : decode cX2_digest 130 = .ok (.invokestatic 275, 3) := by decide +kernel
theorem dX2_digest_133 : decode cX2_digest 133 = .ok (.lstore_n 2, 1) := by decide +kernel
theorem dX2_digest_134 : decode cX2_digest 134 = .ok (.lload_n 2, 1) := by decide +kernel
theorem dX2_digest_135 : decode cX2_digest 135 = .ok (.aload 7, 2) := by decide +kernel
theorem dX2_digest_137 : decode cX2_digest 137 = .ok (.aload 11, 2) := by decide +kernel
theorem dX2_digest_139 : decode cX2_digest 139 = .ok (.invokestatic 147, 3) := by decide +kernel
theorem dX2_digest_142 : decode cX2_digest 142 = .ok (.i2l, 1) := by decide +kernel
theorem dX2_digest_143 : decode cX2_digest 143 = .ok (.invokestatic 275, 3) := by decide +kernel
theorem dX2_digest_146 : decode cX2_digest 146 = .ok (.lstore_n 2, 1) := by decide +kernel
theorem dX2_digest_147 : decode cX2_digest 147 = .ok (.iinc 10 1, 3) := by decide +kernel
theorem dX2_digest_150 : decode cX2_digest 150 = .ok (.goto (-50), 3) := by decide +kernel
theorem dX2_digest_153 : decode cX2_digest 153 = .ok (.iinc 6 1, 3) := by decide +kernel
theorem dX2_digest_156 : decode cX2_digest 156 = .ok (.goto (-84), 3) := by decide +kernel
theorem dX2_digest_159 : decode cX2_digest 159 = .ok (.aload_n 0, 1) := by decide +kernel
theorem dX2_digest_160 : decode cX2_digest 160 = .ok (.getfield 18, 3) := by decide +kernel
theorem dX2_digest_163 : decode cX2_digest 163 = .ok (.astore 4, 2) := by decide +kernel
theorem dX2_digest_165 : decode cX2_digest 165 = .ok (.aload 4, 2) := by decide +kernel
theorem dX2_digest_167 : decode cX2_digest 167 = .ok (.arraylength, 1) := by decide +kernel
theorem dX2_digest_168 : decode cX2_digest 168 = .ok (.istore 5, 2) := by decide +kernel
theorem dX2_digest_170 : decode cX2_digest 170 = .ok (.iconst 0, 1) := by decide +kernel
theorem dX2_digest_171 : decode cX2_digest 171 = .ok (.istore 6, 2) := by decide +kernel
theorem dX2_digest_173 : decode cX2_digest 173 = .ok (.iload 6, 2) := by decide +kernel
theorem dX2_digest_175 : decode cX2_digest 175 = .ok (.iload 5, 2) := by decide +kernel
theorem dX2_digest_177 : decode cX2_digest 177 = .ok (.if_icmp .ge 33, 3) := by decide +kernel
theorem dX2_digest_180 : decode cX2_digest 180 = .ok (.aload 4, 2) := by decide +kernel
theorem dX2_digest_182 : decode cX2_digest 182 = .ok (.iload 6, 2) := by decide +kernel
theorem dX2_digest_184 : decode cX2_digest 184 = .ok (.aaload, 1) := by decide +kernel
theorem dX2_digest_185 : decode cX2_digest 185 = .ok (.astore 7, 2) := by decide +kernel
theorem dX2_digest_187 : decode cX2_digest 187 = .ok (.aload_n 1, 1) := by decide +kernel
theorem dX2_digest_188 : decode cX2_digest 188 = .ok (.iconst 0, 1) := by decide +kernel
theorem dX2_digest_189 : decode cX2_digest 189 = .ok (.invokevirtual 279, 3) := by decide +kernel
theorem dX2_digest_192 : decode cX2_digest 192 = .ok (.aload_n 1, 1) := by decide +kernel
theorem dX2_digest_193 : decode cX2_digest 193 = .ok (.aload 7, 2) := by decide +kernel
theorem dX2_digest_195 : decode cX2_digest 195 = .ok (.invokestatic 225, 3) := by decide +kernel
theorem dX2_digest_198 : decode cX2_digest 198 = .ok (.lload_n 2, 1) := by decide +kernel
theorem dX2_digest_199 : decode cX2_digest 199 = .ok (.aload_n 1, 1) := by decide +kernel
theorem dX2_digest_200 : decode cX2_digest 200 = .ok (.invokestatic 282, 3) := by decide +kernel
theorem dX2_digest_203 : decode cX2_digest 203 = .ok (.lstore_n 2, 1) := by decide +kernel
theorem dX2_digest_204 : decode cX2_digest 204 = .ok (.iinc 6 1, 3) := by decide +kernel
theorem dX2_digest_207 : decode cX2_digest 207 = .ok (.goto (-34), 3) := by decide +kernel
theorem dX2_digest_210 : decode cX2_digest 210 = .ok (.lload_n 2, 1) := by decide +kernel
theorem dX2_digest_211 : decode cX2_digest 211 = .ok (.aload_n 0, 1) := by decide +kernel
theorem dX2_digest_212 : decode cX2_digest 212 = .ok (.invokevirtual 286, 3) := by decide +kernel
theorem dX2_digest_215 : decode cX2_digest 215 = .ok (.ifCond .eq 7, 3) := by decide +kernel
theorem dX2_digest_218 : decode cX2_digest 218 = .ok (.lconst 1, 1) := by decide +kernel
theorem dX2_digest_219 : decode cX2_digest 219 = .ok (.goto 4, 3) := by decide +kernel
theorem dX2_digest_223 : decode cX2_digest 223 = .ok (.invokestatic 275, 3) := by decide +kernel
theorem dX2_digest_226 : decode cX2_digest 226 = .ok (.lreturn, 1) := by decide +kernel
theorem dX2_rowOf_0 : decode cX2_rowOf 0 = .ok (.iload_n 1, 1) := by decide +kernel
theorem dX2_rowOf_1 : decode cX2_rowOf 1 = .ok (.ifCond .lt 12, 3) := by decide +kernel
theorem dX2_rowOf_4 : decode cX2_rowOf 4 = .ok (.iload_n 1, 1) := by decide +kernel
theorem dX2_rowOf_5 : decode cX2_rowOf 5 = .ok (.aload_n 0, 1) := by decide +kernel
theorem dX2_rowOf_6 : decode cX2_rowOf 6 = .ok (.getfield 11, 3) := by decide +kernel
theorem dX2_rowOf_9 : decode cX2_rowOf 9 = .ok (.arraylength, 1) := by decide +kernel
theorem dX2_rowOf_10 : decode cX2_rowOf 10 = .ok (.if_icmp .lt 14, 3) := by decide +kernel
theorem dX2_rowOf_24 : decode cX2_rowOf 24 = .ok (.aload_n 0, 1) := by decide +kernel
theorem dX2_rowOf_25 : decode cX2_rowOf 25 = .ok (.getfield 11, 3) := by decide +kernel
theorem dX2_rowOf_28 : decode cX2_rowOf 28 = .ok (.iload_n 1, 1) := by decide +kernel
theorem dX2_rowOf_29 : decode cX2_rowOf 29 = .ok (.aaload, 1) := by decide +kernel
theorem dX2_rowOf_30 : decode cX2_rowOf 30 = .ok (.areturn, 1) := by decide +kernel
theorem dX2_partOf_0 : decode cX2_partOf 0 = .ok (.iload_n 1, 1) := by decide +kernel
theorem dX2_partOf_1 : decode cX2_partOf 1 = .ok (.ifCond .lt 12, 3) := by decide +kernel
theorem dX2_partOf_4 : decode cX2_partOf 4 = .ok (.iload_n 1, 1) := by decide +kernel
theorem dX2_partOf_5 : decode cX2_partOf 5 = .ok (.aload_n 0, 1) := by decide +kernel
theorem dX2_partOf_6 : decode cX2_partOf 6 = .ok (.getfield 18, 3) := by decide +kernel
theorem dX2_partOf_9 : decode cX2_partOf 9 = .ok (.arraylength, 1) := by decide +kernel
theorem dX2_partOf_10 : decode cX2_partOf 10 = .ok (.if_icmp .lt 14, 3) := by decide +kernel
theorem dX2_partOf_24 : decode cX2_partOf 24 = .ok (.aload_n 0, 1) := by decide +kernel
theorem dX2_partOf_25 : decode cX2_partOf 25 = .ok (.getfield 18, 3) := by decide +kernel
theorem dX2_partOf_28 : decode cX2_partOf 28 = .ok (.iload_n 1, 1) := by decide +kernel
theorem dX2_partOf_29 : decode cX2_partOf 29 = .ok (.aaload, 1) := by decide +kernel
theorem dX2_partOf_30 : decode cX2_partOf 30 = .ok (.areturn, 1) := by decide +kernel
theorem dX2_needRoom_0 : decode cX2_needRoom 0 = .ok (.aload_n 0, 1) := by decide +kernel
theorem dX2_needRoom_1 : decode cX2_needRoom 1 = .ok (.getfield 51, 3) := by decide +kernel
theorem dX2_needRoom_4 : decode cX2_needRoom 4 = .ok (.iload_n 1, 1) := by decide +kernel
theorem dX2_needRoom_5 : decode cX2_needRoom 5 = .ok (.iadd, 1) := by decide +kernel
theorem dX2_needRoom_6 : decode cX2_needRoom 6 = .ok (.bipush 31, 2) := by decide +kernel
theorem dX2_needRoom_8 : decode cX2_needRoom 8 = .ok (.if_icmp .le 14, 3) := by decide +kernel
theorem dX2_needRoom_22 : decode cX2_needRoom 22 = .ok (.return_, 1) := by decide +kernel
theorem dX2_needCopies_0 : decode cX2_needCopies 0 = .ok (.iload_n 0, 1) := by decide +kernel
theorem dX2_needCopies_1 : decode cX2_needCopies 1 = .ok (.ifCond .lt 9, 3) := by decide +kernel
theorem dX2_needCopies_4 : decode cX2_needCopies 4 = .ok (.iload_n 0, 1) := by decide +kernel
theorem dX2_needCopies_5 : decode cX2_needCopies 5 = .ok (.bipush 31, 2) := by decide +kernel
theorem dX2_needCopies_7 : decode cX2_needCopies 7 = .ok (.if_icmp .le 14, 3) := by decide +kernel
theorem dX2_needCopies_21 : decode cX2_needCopies 21 = .ok (.return_, 1) := by decide +kernel
theorem dX2_needValue_0 : decode cX2_needValue 0 = .ok (.iload_n 0, 1) := by decide +kernel
theorem dX2_needValue_1 : decode cX2_needValue 1 = .ok (.ifCond .lt 9, 3) := by decide +kernel
theorem dX2_needValue_4 : decode cX2_needValue 4 = .ok (.iload_n 0, 1) := by decide +kernel
theorem dX2_needValue_5 : decode cX2_needValue 5 = .ok (.bipush 99, 2) := by decide +kernel
theorem dX2_needValue_7 : decode cX2_needValue 7 = .ok (.if_icmp .le 14, 3) := by decide +kernel
theorem dX2_needValue_21 : decode cX2_needValue 21 = .ok (.return_, 1) := by decide +kernel
theorem dX2_cardOf_0 : decode cX2_cardOf 0 = .ok (.iload_n 0, 1) := by decide +kernel
theorem dX2_cardOf_1 : decode cX2_cardOf 1 = .ok (.invokestatic 155, 3) := by decide +kernel
theorem dX2_cardOf_4 : decode cX2_cardOf 4 = .ok (.iload_n 1, 1) := by decide +kernel
theorem dX2_cardOf_5 : decode cX2_cardOf 5 = .ok (.ifCond .lt 9, 3) := by decide +kernel
theorem dX2_cardOf_8 : decode cX2_cardOf 8 = .ok (.iload_n 1, 1) := by decide +kernel
theorem dX2_cardOf_9 : decode cX2_cardOf 9 = .ok (.bipush 10, 2) := by decide +kernel
theorem dX2_cardOf_11 : decode cX2_cardOf 11 = .ok (.if_icmp .lt 14, 3) := by decide +kernel
theorem dX2_cardOf_25 : decode cX2_cardOf 25 = .ok (.iload_n 0, 1) := by decide +kernel
theorem dX2_cardOf_26 : decode cX2_cardOf 26 = .ok (.bipush 10, 2) := by decide +kernel
theorem dX2_cardOf_28 : decode cX2_cardOf 28 = .ok (.imul, 1) := by decide +kernel
theorem dX2_cardOf_29 : decode cX2_cardOf 29 = .ok (.iload_n 1, 1) := by decide +kernel
theorem dX2_cardOf_30 : decode cX2_cardOf 30 = .ok (.iadd, 1) := by decide +kernel
theorem dX2_cardOf_31 : decode cX2_cardOf 31 = .ok (.ireturn, 1) := by decide +kernel
theorem dX2_isSpan_0 : decode cX2_isSpan 0 = .ok (.iload_n 0, 1) := by decide +kernel
theorem dX2_isSpan_1 : decode cX2_isSpan 1 = .ok (.ifCond .lt 17, 3) := by decide +kernel
theorem dX2_isSpan_4 : decode cX2_isSpan 4 = .ok (.iload_n 1, 1) := by decide +kernel
theorem dX2_isSpan_5 : decode cX2_isSpan 5 = .ok (.iload_n 2, 1) := by decide +kernel
theorem dX2_isSpan_6 : decode cX2_isSpan 6 = .ok (.if_icmp .gt 12, 3) := by decide +kernel
theorem dX2_isSpan_9 : decode cX2_isSpan 9 = .ok (.iload_n 0, 1) := by decide +kernel
theorem dX2_isSpan_10 : decode cX2_isSpan 10 = .ok (.iload_n 1, 1) := by decide +kernel
theorem dX2_isSpan_11 : decode cX2_isSpan 11 = .ok (.if_icmp .gt 7, 3) := by decide +kernel
theorem dX2_isSpan_14 : decode cX2_isSpan 14 = .ok (.iconst 1, 1) := by decide +kernel
theorem dX2_isSpan_15 : decode cX2_isSpan 15 = .ok (.goto 4, 3) := by decide +kernel
theorem dX2_isSpan_19 : decode cX2_isSpan 19 = .ok (.ireturn, 1) := by decide +kernel
theorem dX2_reshape_0 : decode cX2_reshape 0 = .ok (.aload_n 1, 1) := by decide +kernel
theorem dX2_reshape_1 : decode cX2_reshape 1 = .ok (.iconst 0, 1) := by decide +kernel
theorem dX2_reshape_2 : decode cX2_reshape 2 = .ok (.putfield 100, 3) := by decide +kernel
theorem dX2_reshape_5 : decode cX2_reshape 5 = .ok (.aload_n 1, 1) := by decide +kernel
theorem dX2_reshape_6 : decode cX2_reshape 6 = .ok (.iconst (-1), 1) := by decide +kernel
theorem dX2_reshape_7 : decode cX2_reshape 7 = .ok (.putfield 211, 3) := by decide +kernel
theorem dX2_reshape_10 : decode cX2_reshape 10 = .ok (.aload_n 0, 1) := by decide +kernel
theorem dX2_reshape_11 : decode cX2_reshape 11 = .ok (.getfield 18, 3) := by decide +kernel
theorem dX2_reshape_14 : decode cX2_reshape 14 = .ok (.astore_n 2, 1) := by decide +kernel
theorem dX2_reshape_15 : decode cX2_reshape 15 = .ok (.aload_n 2, 1) := by decide +kernel
theorem dX2_reshape_16 : decode cX2_reshape 16 = .ok (.arraylength, 1) := by decide +kernel
theorem dX2_reshape_17 : decode cX2_reshape 17 = .ok (.istore_n 3, 1) := by decide +kernel
theorem dX2_reshape_18 : decode cX2_reshape 18 = .ok (.iconst 0, 1) := by decide +kernel
theorem dX2_reshape_19 : decode cX2_reshape 19 = .ok (.istore 4, 2) := by decide +kernel
theorem dX2_reshape_21 : decode cX2_reshape 21 = .ok (.iload 4, 2) := by decide +kernel
theorem dX2_reshape_23 : decode cX2_reshape 23 = .ok (.iload_n 3, 1) := by decide +kernel
theorem dX2_reshape_24 : decode cX2_reshape 24 = .ok (.if_icmp .ge 30, 3) := by decide +kernel
theorem dX2_reshape_27 : decode cX2_reshape 27 = .ok (.aload_n 2, 1) := by decide +kernel
theorem dX2_reshape_28 : decode cX2_reshape 28 = .ok (.iload 4, 2) := by decide +kernel
theorem dX2_reshape_30 : decode cX2_reshape 30 = .ok (.aaload, 1) := by decide +kernel
theorem dX2_reshape_31 : decode cX2_reshape 31 = .ok (.astore 5, 2) := by decide +kernel
theorem dX2_reshape_33 : decode cX2_reshape 33 = .ok (.aload 5, 2) := by decide +kernel
theorem dX2_reshape_35 : decode cX2_reshape 35 = .ok (.getfield 293, 3) := by decide +kernel
theorem dX2_reshape_38 : decode cX2_reshape 38 = .ok (.aload_n 1, 1) := by decide +kernel
theorem dX2_reshape_39 : decode cX2_reshape 39 = .ok (.if_acmp .ne 9, 3) := by decide +kernel
theorem dX2_reshape_48 : decode cX2_reshape 48 = .ok (.iinc 4 1, 3) := by decide +kernel
theorem dX2_reshape_51 : decode cX2_reshape 51 = .ok (.goto (-30), 3) := by decide +kernel
theorem dX2_reshape_54 : decode cX2_reshape 54 = .ok (.return_, 1) := by decide +kernel
theorem dX2_changeBy_0 : decode cX2_changeBy 0 = .ok (.aload_n 1, 1) := by decide +kernel
theorem dX2_changeBy_1 : decode cX2_changeBy 1 = .ok (.iconst 0, 1) := by decide +kernel
theorem dX2_changeBy_2 : decode cX2_changeBy 2 = .ok (.putfield 100, 3) := by decide +kernel
theorem dX2_changeBy_5 : decode cX2_changeBy 5 = .ok (.iload_n 2, 1) := by decide +kernel
theorem dX2_changeBy_6 : decode cX2_changeBy 6 = .ok (.ifCond .le 8, 3) := by decide +kernel
theorem dX2_changeBy_9 : decode cX2_changeBy 9 = .ok (.aload_n 0, 1) := by decide +kernel
theorem dX2_changeBy_10 : decode cX2_changeBy 10 = .ok (.aload_n 1, 1) := by decide +kernel
theorem dX2_changeBy_11 : decode cX2_changeBy 11 = .ok (.invokevirtual 47, 3) := by decide +kernel
theorem dX2_changeBy_14 : decode cX2_changeBy 14 = .ok (.return_, 1) := by decide +kernel
theorem dX2_lose_0 : decode cX2_lose 0 = .ok (.aload_n 0, 1) := by decide +kernel
theorem dX2_lose_1 : decode cX2_lose 1 = .ok (.getfield 18, 3) := by decide +kernel
theorem dX2_lose_4 : decode cX2_lose 4 = .ok (.astore_n 2, 1) := by decide +kernel
theorem dX2_lose_5 : decode cX2_lose 5 = .ok (.aload_n 2, 1) := by decide +kernel
theorem dX2_lose_6 : decode cX2_lose 6 = .ok (.arraylength, 1) := by decide +kernel
theorem dX2_lose_7 : decode cX2_lose 7 = .ok (.istore_n 3, 1) := by decide +kernel
theorem dX2_lose_8 : decode cX2_lose 8 = .ok (.iconst 0, 1) := by decide +kernel
theorem dX2_lose_9 : decode cX2_lose 9 = .ok (.istore 4, 2) := by decide +kernel
theorem dX2_lose_11 : decode cX2_lose 11 = .ok (.iload 4, 2) := by decide +kernel
theorem dX2_lose_13 : decode cX2_lose 13 = .ok (.iload_n 3, 1) := by decide +kernel
theorem dX2_lose_14 : decode cX2_lose 14 = .ok (.if_icmp .ge 30, 3) := by decide +kernel
theorem dX2_lose_17 : decode cX2_lose 17 = .ok (.aload_n 2, 1) := by decide +kernel
theorem dX2_lose_18 : decode cX2_lose 18 = .ok (.iload 4, 2) := by decide +kernel
theorem dX2_lose_20 : decode cX2_lose 20 = .ok (.aaload, 1) := by decide +kernel
theorem dX2_lose_21 : decode cX2_lose 21 = .ok (.astore 5, 2) := by decide +kernel
theorem dX2_lose_23 : decode cX2_lose 23 = .ok (.aload 5, 2) := by decide +kernel
theorem dX2_lose_25 : decode cX2_lose 25 = .ok (.aload_n 1, 1) := by decide +kernel
theorem dX2_lose_26 : decode cX2_lose 26 = .ok (.invokevirtual 193, 3) := by decide +kernel
theorem dX2_lose_29 : decode cX2_lose 29 = .ok (.ifCond .eq 9, 3) := by decide +kernel
theorem dX2_lose_32 : decode cX2_lose 32 = .ok (.aload 5, 2) := by decide +kernel
theorem dX2_lose_34 : decode cX2_lose 34 = .ok (.aconst_null, 1) := by decide +kernel
theorem dX2_lose_35 : decode cX2_lose 35 = .ok (.putfield 293, 3) := by decide +kernel
theorem dX2_lose_38 : decode cX2_lose 38 = .ok (.iinc 4 1, 3) := by decide +kernel
theorem dX2_lose_41 : decode cX2_lose 41 = .ok (.goto (-30), 3) := by decide +kernel
theorem dX2_lose_44 : decode cX2_lose 44 = .ok (.return_, 1) := by decide +kernel
theorem dX2_comesBefore_0 : decode cX2_comesBefore 0 = .ok (.iload_n 2, 1) := by decide +kernel
theorem dX2_comesBefore_1 : decode cX2_comesBefore 1 = .ok (.ifCond .eq 16, 3) := by decide +kernel
theorem dX2_comesBefore_17 : decode cX2_comesBefore 17 = .ok (.iload_n 0, 1) := by decide +kernel
theorem dX2_comesBefore_18 : decode cX2_comesBefore 18 = .ok (.iload_n 1, 1) := by decide +kernel
theorem dX2_comesBefore_19 : decode cX2_comesBefore 19 = .ok (.if_icmp .ge 7, 3) := by decide +kernel
theorem dX2_comesBefore_26 : decode cX2_comesBefore 26 = .ok (.iconst 0, 1) := by decide +kernel
theorem dX2_comesBefore_27 : decode cX2_comesBefore 27 = .ok (.ireturn, 1) := by decide +kernel
theorem dX2_extremeOf_0 : decode cX2_extremeOf 0 = .ok (.aload_n 0, 1) := by decide +kernel
theorem dX2_extremeOf_1 : decode cX2_extremeOf 1 = .ok (.getfield 51, 3) := by decide +kernel
theorem dX2_extremeOf_4 : decode cX2_extremeOf 4 = .ok (.ifCond .ne 6, 3) := by decide +kernel
theorem dX2_extremeOf_7 : decode cX2_extremeOf 7 = .ok (.bipush (-9), 2) := by decide +kernel
theorem dX2_extremeOf_9 : decode cX2_extremeOf 9 = .ok (.ireturn, 1) := by decide +kernel
theorem dX2_extremeOf_10 : decode cX2_extremeOf 10 = .ok (.aload_n 0, 1) := by decide +kernel
theorem dX2_extremeOf_11 : decode cX2_extremeOf 11 = .ok (.iconst 0, 1) := by decide +kernel
theorem dX2_extremeOf_12 : decode cX2_extremeOf 12 = .ok (.invokevirtual 68, 3) := by decide +kernel
theorem dX2_extremeOf_15 : decode cX2_extremeOf 15 = .ok (.istore_n 2, 1) := by decide +kernel
theorem dX2_extremeOf_16 : decode cX2_extremeOf 16 = .ok (.iconst 1, 1) := by decide +kernel
theorem dX2_extremeOf_17 : decode cX2_extremeOf 17 = .ok (.istore_n 3, 1) := by decide +kernel
theorem dX2_extremeOf_18 : decode cX2_extremeOf 18 = .ok (.iload_n 3, 1) := by decide +kernel
theorem dX2_extremeOf_19 : decode cX2_extremeOf 19 = .ok (.aload_n 0, 1) := by decide +kernel
theorem dX2_extremeOf_20 : decode cX2_extremeOf 20 = .ok (.getfield 51, 3) := by decide +kernel
theorem dX2_extremeOf_23 : decode cX2_extremeOf 23 = .ok (.if_icmp .ge 36, 3) := by decide +kernel
theorem dX2_extremeOf_26 : decode cX2_extremeOf 26 = .ok (.aload_n 0, 1) := by decide +kernel
theorem dX2_extremeOf_27 : decode cX2_extremeOf 27 = .ok (.iload_n 3, 1) := by decide +kernel
theorem dX2_extremeOf_28 : decode cX2_extremeOf 28 = .ok (.invokevirtual 68, 3) := by decide +kernel
theorem dX2_extremeOf_31 : decode cX2_extremeOf 31 = .ok (.istore 4, 2) := by decide +kernel
theorem dX2_extremeOf_33 : decode cX2_extremeOf 33 = .ok (.iload_n 1, 1) := by decide +kernel
theorem dX2_extremeOf_34 : decode cX2_extremeOf 34 = .ok (.ifCond .eq 12, 3) := by decide +kernel
theorem dX2_extremeOf_37 : decode cX2_extremeOf 37 = .ok (.iload_n 2, 1) := by decide +kernel
theorem dX2_extremeOf_38 : decode cX2_extremeOf 38 = .ok (.iload 4, 2) := by decide +kernel
theorem dX2_extremeOf_40 : decode cX2_extremeOf 40 = .ok (.invokestatic 321, 3) := by decide +kernel
theorem dX2_extremeOf_43 : decode cX2_extremeOf 43 = .ok (.goto 9, 3) := by decide +kernel
theorem dX2_extremeOf_46 : decode cX2_extremeOf 46 = .ok (.iload_n 2, 1) := by decide +kernel
theorem dX2_extremeOf_47 : decode cX2_extremeOf 47 = .ok (.iload 4, 2) := by decide +kernel
theorem dX2_extremeOf_49 : decode cX2_extremeOf 49 = .ok (.invokestatic 326, 3) := by decide +kernel
theorem dX2_extremeOf_52 : decode cX2_extremeOf 52 = .ok (.istore_n 2, 1) := by decide +kernel
theorem dX2_extremeOf_53 : decode cX2_extremeOf 53 = .ok (.iinc 3 1, 3) := by decide +kernel
theorem dX2_extremeOf_56 : decode cX2_extremeOf 56 = .ok (.goto (-38), 3) := by decide +kernel
theorem dX2_extremeOf_59 : decode cX2_extremeOf 59 = .ok (.iload_n 2, 1) := by decide +kernel
theorem dX2_extremeOf_60 : decode cX2_extremeOf 60 = .ok (.ireturn, 1) := by decide +kernel
theorem dX2_haveNoneInCommon_0 : decode cX2_haveNoneInCommon 0 = .ok (.iconst 0, 1) := by decide +kernel
theorem dX2_haveNoneInCommon_1 : decode cX2_haveNoneInCommon 1 = .ok (.istore_n 2, 1) := by decide +kernel
theorem dX2_haveNoneInCommon_2 : decode cX2_haveNoneInCommon 2 = .ok (.iload_n 2, 1) := by decide +kernel
theorem dX2_haveNoneInCommon_3 : decode cX2_haveNoneInCommon 3 = .ok (.aload_n 0, 1) := by decide +kernel
theorem dX2_haveNoneInCommon_4 : decode cX2_haveNoneInCommon 4 = .ok (.getfield 51, 3) := by decide +kernel
theorem dX2_haveNoneInCommon_7 : decode cX2_haveNoneInCommon 7 = .ok (.if_icmp .ge 24, 3) := by decide +kernel
theorem dX2_haveNoneInCommon_10 : decode cX2_haveNoneInCommon 10 = .ok (.aload_n 1, 1) := by decide +kernel
theorem dX2_haveNoneInCommon_11 : decode cX2_haveNoneInCommon 11 = .ok (.aload_n 0, 1) := by decide +kernel
theorem dX2_haveNoneInCommon_12 : decode cX2_haveNoneInCommon 12 = .ok (.iload_n 2, 1) := by decide +kernel
theorem dX2_haveNoneInCommon_13 : decode cX2_haveNoneInCommon 13 = .ok (.invokevirtual 103, 3) := by decide +kernel
theorem dX2_haveNoneInCommon_16 : decode cX2_haveNoneInCommon 16 = .ok (.invokevirtual 136, 3) := by decide +kernel
theorem dX2_haveNoneInCommon_19 : decode cX2_haveNoneInCommon 19 = .ok (.iconst (-1), 1) := by decide +kernel
theorem dX2_haveNoneInCommon_20 : decode cX2_haveNoneInCommon 20 = .ok (.if_icmp .eq 5, 3) := by decide +kernel
theorem dX2_haveNoneInCommon_23 : decode cX2_haveNoneInCommon 23 = .ok (.iconst 0, 1) := by decide +kernel
theorem dX2_haveNoneInCommon_24 : decode cX2_haveNoneInCommon 24 = .ok (.ireturn, 1) := by decide +kernel
theorem dX2_haveNoneInCommon_25 : decode cX2_haveNoneInCommon 25 = .ok (.iinc 2 1, 3) := by decide +kernel
theorem dX2_haveNoneInCommon_28 : decode cX2_haveNoneInCommon 28 = .ok (.goto (-26), 3) := by decide +kernel
theorem dX2_haveNoneInCommon_31 : decode cX2_haveNoneInCommon 31 = .ok (.iconst 1, 1) := by decide +kernel
theorem dX2_haveNoneInCommon_32 : decode cX2_haveNoneInCommon 32 = .ok (.ireturn, 1) := by decide +kernel
theorem dX2_placeOfRow_0 : decode cX2_placeOfRow 0 = .ok (.aload_n 0, 1) := by decide +kernel
theorem dX2_placeOfRow_1 : decode cX2_placeOfRow 1 = .ok (.iconst 0, 1) := by decide +kernel
theorem dX2_placeOfRow_2 : decode cX2_placeOfRow 2 = .ok (.aload_n 0, 1) := by decide +kernel
theorem dX2_placeOfRow_3 : decode cX2_placeOfRow 3 = .ok (.getfield 51, 3) := by decide +kernel
theorem dX2_placeOfRow_6 : decode cX2_placeOfRow 6 = .ok (.aload_n 1, 1) := by decide +kernel
theorem dX2_placeOfRow_7 : decode cX2_placeOfRow 7 = .ok (.iconst 0, 1) := by decide +kernel
theorem dX2_placeOfRow_8 : decode cX2_placeOfRow 8 = .ok (.aload_n 1, 1) := by decide +kernel
theorem dX2_placeOfRow_9 : decode cX2_placeOfRow 9 = .ok (.getfield 51, 3) := by decide +kernel
theorem dX2_placeOfRow_12 : decode cX2_placeOfRow 12 = .ok (.invokevirtual 233, 3) := by decide +kernel
theorem dX2_placeOfRow_15 : decode cX2_placeOfRow 15 = .ok (.ireturn, 1) := by decide +kernel
theorem dX2_stepsLeft_0 : decode cX2_stepsLeft 0 = .ok (.aload_n 0, 1) := by decide +kernel
theorem dX2_stepsLeft_1 : decode cX2_stepsLeft 1 = .ok (.getfield 211, 3) := by decide +kernel
theorem dX2_stepsLeft_4 : decode cX2_stepsLeft 4 = .ok (.iconst (-1), 1) := by decide +kernel
theorem dX2_stepsLeft_5 : decode cX2_stepsLeft 5 = .ok (.if_icmp .ne 5, 3) := by decide +kernel
theorem dX2_stepsLeft_8 : decode cX2_stepsLeft 8 = .ok (.iconst (-1), 1) := by decide +kernel
theorem dX2_stepsLeft_9 : decode cX2_stepsLeft 9 = .ok (.ireturn, 1) := by decide +kernel
theorem dX2_allCards_0 : decode cX2_allCards 0 = .ok (.iconst 0, 1) := by decide +kernel
theorem dX2_allCards_1 : decode cX2_allCards 1 = .ok (.istore_n 1, 1) := by decide +kernel
theorem dX2_allCards_2 : decode cX2_allCards 2 = .ok (.aload_n 0, 1) := by decide +kernel
theorem dX2_allCards_3 : decode cX2_allCards 3 = .ok (.getfield 11, 3) := by decide +kernel
theorem dX2_allCards_6 : decode cX2_allCards 6 = .ok (.astore_n 2, 1) := by decide +kernel
theorem dX2_allCards_7 : decode cX2_allCards 7 = .ok (.aload_n 2, 1) := by decide +kernel
theorem dX2_allCards_8 : decode cX2_allCards 8 = .ok (.arraylength, 1) := by decide +kernel
theorem dX2_allCards_9 : decode cX2_allCards 9 = .ok (.istore_n 3, 1) := by decide +kernel
theorem dX2_allCards_10 : decode cX2_allCards 10 = .ok (.iconst 0, 1) := by decide +kernel
theorem dX2_allCards_11 : decode cX2_allCards 11 = .ok (.istore 4, 2) := by decide +kernel
theorem dX2_allCards_13 : decode cX2_allCards 13 = .ok (.iload 4, 2) := by decide +kernel
theorem dX2_allCards_15 : decode cX2_allCards 15 = .ok (.iload_n 3, 1) := by decide +kernel
theorem dX2_allCards_16 : decode cX2_allCards 16 = .ok (.if_icmp .ge 23, 3) := by decide +kernel
theorem dX2_allCards_19 : decode cX2_allCards 19 = .ok (.aload_n 2, 1) := by decide +kernel
theorem dX2_allCards_20 : decode cX2_allCards 20 = .ok (.iload 4, 2) := by decide +kernel
theorem dX2_allCards_22 : decode cX2_allCards 22 = .ok (.aaload, 1) := by decide +kernel
theorem dX2_allCards_23 : decode cX2_allCards 23 = .ok (.astore 5, 2) := by decide +kernel
theorem dX2_allCards_25 : decode cX2_allCards 25 = .ok (.iload_n 1, 1) := by decide +kernel
theorem dX2_allCards_26 : decode cX2_allCards 26 = .ok (.aload 5, 2) := by decide +kernel
theorem dX2_allCards_28 : decode cX2_allCards 28 = .ok (.getfield 51, 3) := by decide +kernel
theorem dX2_allCards_31 : decode cX2_allCards 31 = .ok (.iadd, 1) := by decide +kernel
theorem dX2_allCards_32 : decode cX2_allCards 32 = .ok (.istore_n 1, 1) := by decide +kernel
theorem dX2_allCards_33 : decode cX2_allCards 33 = .ok (.iinc 4 1, 3) := by decide +kernel
theorem dX2_allCards_36 : decode cX2_allCards 36 = .ok (.goto (-23), 3) := by decide +kernel
theorem dX2_allCards_39 : decode cX2_allCards 39 = .ok (.iload_n 1, 1) := by decide +kernel
theorem dX2_allCards_40 : decode cX2_allCards 40 = .ok (.ireturn, 1) := by decide +kernel
theorem dX2_allParts_0 : decode cX2_allParts 0 = .ok (.iconst 0, 1) := by decide +kernel
theorem dX2_allParts_1 : decode cX2_allParts 1 = .ok (.istore_n 1, 1) := by decide +kernel
theorem dX2_allParts_2 : decode cX2_allParts 2 = .ok (.aload_n 0, 1) := by decide +kernel
theorem dX2_allParts_3 : decode cX2_allParts 3 = .ok (.getfield 18, 3) := by decide +kernel
theorem dX2_allParts_6 : decode cX2_allParts 6 = .ok (.astore_n 2, 1) := by decide +kernel
theorem dX2_allParts_7 : decode cX2_allParts 7 = .ok (.aload_n 2, 1) := by decide +kernel
theorem dX2_allParts_8 : decode cX2_allParts 8 = .ok (.arraylength, 1) := by decide +kernel
theorem dX2_allParts_9 : decode cX2_allParts 9 = .ok (.istore_n 3, 1) := by decide +kernel
theorem dX2_allParts_10 : decode cX2_allParts 10 = .ok (.iconst 0, 1) := by decide +kernel
theorem dX2_allParts_11 : decode cX2_allParts 11 = .ok (.istore 4, 2) := by decide +kernel
theorem dX2_allParts_13 : decode cX2_allParts 13 = .ok (.iload 4, 2) := by decide +kernel
theorem dX2_allParts_15 : decode cX2_allParts 15 = .ok (.iload_n 3, 1) := by decide +kernel
theorem dX2_allParts_16 : decode cX2_allParts 16 = .ok (.if_icmp .ge 26, 3) := by decide +kernel
theorem dX2_allParts_19 : decode cX2_allParts 19 = .ok (.aload_n 2, 1) := by decide +kernel
theorem dX2_allParts_20 : decode cX2_allParts 20 = .ok (.iload 4, 2) := by decide +kernel
theorem dX2_allParts_22 : decode cX2_allParts 22 = .ok (.aaload, 1) := by decide +kernel
theorem dX2_allParts_23 : decode cX2_allParts 23 = .ok (.astore 5, 2) := by decide +kernel
theorem dX2_allParts_25 : decode cX2_allParts 25 = .ok (.aload 5, 2) := by decide +kernel
theorem dX2_allParts_27 : decode cX2_allParts 27 = .ok (.invokevirtual 204, 3) := by decide +kernel
theorem dX2_allParts_30 : decode cX2_allParts 30 = .ok (.ifCond .eq 6, 3) := by decide +kernel
theorem dX2_allParts_33 : decode cX2_allParts 33 = .ok (.iinc 1 1, 3) := by decide +kernel
theorem dX2_allParts_36 : decode cX2_allParts 36 = .ok (.iinc 4 1, 3) := by decide +kernel
theorem dX2_allParts_39 : decode cX2_allParts 39 = .ok (.goto (-26), 3) := by decide +kernel
theorem dX2_allParts_42 : decode cX2_allParts 42 = .ok (.iload_n 1, 1) := by decide +kernel
theorem dX2_allParts_43 : decode cX2_allParts 43 = .ok (.ireturn, 1) := by decide +kernel
theorem dX2_allWalks_0 : decode cX2_allWalks 0 = .ok (.iconst 0, 1) := by decide +kernel
theorem dX2_allWalks_1 : decode cX2_allWalks 1 = .ok (.istore_n 1, 1) := by decide +kernel
theorem dX2_allWalks_2 : decode cX2_allWalks 2 = .ok (.aload_n 0, 1) := by decide +kernel
theorem dX2_allWalks_3 : decode cX2_allWalks 3 = .ok (.getfield 11, 3) := by decide +kernel
theorem dX2_allWalks_6 : decode cX2_allWalks 6 = .ok (.astore_n 2, 1) := by decide +kernel
theorem dX2_allWalks_7 : decode cX2_allWalks 7 = .ok (.aload_n 2, 1) := by decide +kernel
theorem dX2_allWalks_8 : decode cX2_allWalks 8 = .ok (.arraylength, 1) := by decide +kernel
theorem dX2_allWalks_9 : decode cX2_allWalks 9 = .ok (.istore_n 3, 1) := by decide +kernel
theorem dX2_allWalks_10 : decode cX2_allWalks 10 = .ok (.iconst 0, 1) := by decide +kernel
theorem dX2_allWalks_11 : decode cX2_allWalks 11 = .ok (.istore 4, 2) := by decide +kernel
theorem dX2_allWalks_13 : decode cX2_allWalks 13 = .ok (.iload 4, 2) := by decide +kernel
theorem dX2_allWalks_15 : decode cX2_allWalks 15 = .ok (.iload_n 3, 1) := by decide +kernel
theorem dX2_allWalks_16 : decode cX2_allWalks 16 = .ok (.if_icmp .ge 27, 3) := by decide +kernel
theorem dX2_allWalks_19 : decode cX2_allWalks 19 = .ok (.aload_n 2, 1) := by decide +kernel
theorem dX2_allWalks_20 : decode cX2_allWalks 20 = .ok (.iload 4, 2) := by decide +kernel
theorem dX2_allWalks_22 : decode cX2_allWalks 22 = .ok (.aaload, 1) := by decide +kernel
theorem dX2_allWalks_23 : decode cX2_allWalks 23 = .ok (.astore 5, 2) := by decide +kernel
theorem dX2_allWalks_25 : decode cX2_allWalks 25 = .ok (.aload 5, 2) := by decide +kernel
theorem dX2_allWalks_27 : decode cX2_allWalks 27 = .ok (.getfield 211, 3) := by decide +kernel
theorem dX2_allWalks_30 : decode cX2_allWalks 30 = .ok (.iconst (-1), 1) := by decide +kernel
theorem dX2_allWalks_31 : decode cX2_allWalks 31 = .ok (.if_icmp .eq 6, 3) := by decide +kernel
theorem dX2_allWalks_37 : decode cX2_allWalks 37 = .ok (.iinc 4 1, 3) := by decide +kernel
theorem dX2_allWalks_40 : decode cX2_allWalks 40 = .ok (.goto (-27), 3) := by decide +kernel
theorem dX2_allWalks_43 : decode cX2_allWalks 43 = .ok (.iload_n 1, 1) := by decide +kernel
theorem dX2_allWalks_44 : decode cX2_allWalks 44 = .ok (.ireturn, 1) := by decide +kernel
theorem dX2_isRowSound_0 : decode cX2_isRowSound 0 = .ok (.aload_n 0, 1) := by decide +kernel
theorem dX2_isRowSound_1 : decode cX2_isRowSound 1 = .ok (.getfield 23, 3) := by decide +kernel
theorem dX2_isRowSound_4 : decode cX2_isRowSound 4 = .ok (.aload_n 1, 1) := by decide +kernel
theorem dX2_isRowSound_5 : decode cX2_isRowSound 5 = .ok (.invokevirtual 94, 3) := by decide +kernel
theorem dX2_isRowSound_8 : decode cX2_isRowSound 8 = .ok (.aload_n 0, 1) := by decide +kernel
theorem dX2_isRowSound_9 : decode cX2_isRowSound 9 = .ok (.getfield 23, 3) := by decide +kernel
theorem dX2_isRowSound_12 : decode cX2_isRowSound 12 = .ok (.iconst 0, 1) := by decide +kernel
theorem dX2_isRowSound_13 : decode cX2_isRowSound 13 = .ok (.aload_n 0, 1) := by decide +kernel
theorem dX2_isRowSound_14 : decode cX2_isRowSound 14 = .ok (.getfield 23, 3) := by decide +kernel
theorem dX2_isRowSound_17 : decode cX2_isRowSound 17 = .ok (.getfield 51, 3) := by decide +kernel
theorem dX2_isRowSound_20 : decode cX2_isRowSound 20 = .ok (.invokevirtual 314, 3) := by decide +kernel
theorem dX2_isRowSound_23 : decode cX2_isRowSound 23 = .ok (.aload_n 0, 1) := by decide +kernel
theorem dX2_isRowSound_24 : decode cX2_isRowSound 24 = .ok (.getfield 23, 3) := by decide +kernel
theorem dX2_isRowSound_27 : decode cX2_isRowSound 27 = .ok (.iconst 0, 1) := by decide +kernel
theorem dX2_isRowSound_28 : decode cX2_isRowSound 28 = .ok (.aload_n 0, 1) := by decide +kernel
theorem dX2_isRowSound_29 : decode cX2_isRowSound 29 = .ok (.getfield 23, 3) := by decide +kernel
theorem dX2_isRowSound_32 : decode cX2_isRowSound 32 = .ok (.getfield 51, 3) := by decide +kernel
theorem dX2_isRowSound_35 : decode cX2_isRowSound 35 = .ok (.invokevirtual 314, 3) := by decide +kernel
theorem dX2_isRowSound_38 : decode cX2_isRowSound 38 = .ok (.aload_n 0, 1) := by decide +kernel
theorem dX2_isRowSound_39 : decode cX2_isRowSound 39 = .ok (.getfield 23, 3) := by decide +kernel
theorem dX2_isRowSound_42 : decode cX2_isRowSound 42 = .ok (.iconst 0, 1) := by decide +kernel
theorem dX2_isRowSound_43 : decode cX2_isRowSound 43 = .ok (.aload_n 0, 1) := by decide +kernel
theorem dX2_isRowSound_44 : decode cX2_isRowSound 44 = .ok (.getfield 23, 3) := by decide +kernel
theorem dX2_isRowSound_47 : decode cX2_isRowSound 47 = .ok (.getfield 51, 3) := by decide +kernel
theorem dX2_isRowSound_50 : decode cX2_isRowSound 50 = .ok (.iconst 5, 1) := by decide +kernel
theorem dX2_isRowSound_51 : decode cX2_isRowSound 51 = .ok (.invokevirtual 317, 3) := by decide +kernel
theorem dX2_isRowSound_54 : decode cX2_isRowSound 54 = .ok (.aload_n 0, 1) := by decide +kernel
theorem dX2_isRowSound_55 : decode cX2_isRowSound 55 = .ok (.getfield 23, 3) := by decide +kernel
theorem dX2_isRowSound_58 : decode cX2_isRowSound 58 = .ok (.iconst 0, 1) := by decide +kernel
theorem dX2_isRowSound_59 : decode cX2_isRowSound 59 = .ok (.aload_n 0, 1) := by decide +kernel
theorem dX2_isRowSound_60 : decode cX2_isRowSound 60 = .ok (.getfield 23, 3) := by decide +kernel
theorem dX2_isRowSound_63 : decode cX2_isRowSound 63 = .ok (.getfield 51, 3) := by decide +kernel
theorem dX2_isRowSound_66 : decode cX2_isRowSound 66 = .ok (.bipush (-5), 2) := by decide +kernel
theorem dX2_isRowSound_68 : decode cX2_isRowSound 68 = .ok (.invokevirtual 317, 3) := by decide +kernel
theorem dX2_isRowSound_71 : decode cX2_isRowSound 71 = .ok (.aload_n 0, 1) := by decide +kernel
theorem dX2_isRowSound_72 : decode cX2_isRowSound 72 = .ok (.getfield 23, 3) := by decide +kernel
theorem dX2_isRowSound_75 : decode cX2_isRowSound 75 = .ok (.aload_n 1, 1) := by decide +kernel
theorem dX2_isRowSound_76 : decode cX2_isRowSound 76 = .ok (.invokevirtual 143, 3) := by decide +kernel
theorem dX2_isRowSound_79 : decode cX2_isRowSound 79 = .ok (.ifCond .ne 5, 3) := by decide +kernel
theorem dX2_isRowSound_84 : decode cX2_isRowSound 84 = .ok (.aload_n 0, 1) := by decide +kernel
theorem dX2_isRowSound_85 : decode cX2_isRowSound 85 = .ok (.getfield 23, 3) := by decide +kernel
theorem dX2_isRowSound_88 : decode cX2_isRowSound 88 = .ok (.iconst 0, 1) := by decide +kernel
theorem dX2_isRowSound_89 : decode cX2_isRowSound 89 = .ok (.aload_n 0, 1) := by decide +kernel
theorem dX2_isRowSound_90 : decode cX2_isRowSound 90 = .ok (.getfield 23, 3) := by decide +kernel
theorem dX2_isRowSound_93 : decode cX2_isRowSound 93 = .ok (.getfield 51, 3) := by decide +kernel
theorem dX2_isRowSound_96 : decode cX2_isRowSound 96 = .ok (.iconst 0, 1) := by decide +kernel
theorem dX2_isRowSound_97 : decode cX2_isRowSound 97 = .ok (.invokevirtual 116, 3) := by decide +kernel
theorem dX2_isRowSound_100 : decode cX2_isRowSound 100 = .ok (.iconst 0, 1) := by decide +kernel
theorem dX2_isRowSound_101 : decode cX2_isRowSound 101 = .ok (.istore_n 2, 1) := by decide +kernel
theorem dX2_isRowSound_102 : decode cX2_isRowSound 102 = .ok (.iload_n 2, 1) := by decide +kernel
theorem dX2_isRowSound_103 : decode cX2_isRowSound 103 = .ok (.aload_n 1, 1) := by decide +kernel
theorem dX2_isRowSound_104 : decode cX2_isRowSound 104 = .ok (.getfield 51, 3) := by decide +kernel
theorem dX2_isRowSound_107 : decode cX2_isRowSound 107 = .ok (.if_icmp .ge 33, 3) := by decide +kernel
theorem dX2_isRowSound_110 : decode cX2_isRowSound 110 = .ok (.aload_n 1, 1) := by decide +kernel
theorem dX2_isRowSound_111 : decode cX2_isRowSound 111 = .ok (.iload_n 2, 1) := by decide +kernel
theorem dX2_isRowSound_112 : decode cX2_isRowSound 112 = .ok (.invokevirtual 103, 3) := by decide +kernel
theorem dX2_isRowSound_115 : decode cX2_isRowSound 115 = .ok (.istore_n 3, 1) := by decide +kernel
theorem dX2_isRowSound_116 : decode cX2_isRowSound 116 = .ok (.aload_n 0, 1) := by decide +kernel
theorem dX2_isRowSound_117 : decode cX2_isRowSound 117 = .ok (.getfield 23, 3) := by decide +kernel
theorem dX2_isRowSound_120 : decode cX2_isRowSound 120 = .ok (.iload_n 3, 1) := by decide +kernel
theorem dX2_isRowSound_121 : decode cX2_isRowSound 121 = .ok (.invokevirtual 130, 3) := by decide +kernel
theorem dX2_isRowSound_124 : decode cX2_isRowSound 124 = .ok (.aload_n 1, 1) := by decide +kernel
theorem dX2_isRowSound_125 : decode cX2_isRowSound 125 = .ok (.iload_n 3, 1) := by decide +kernel
theorem dX2_isRowSound_126 : decode cX2_isRowSound 126 = .ok (.invokevirtual 130, 3) := by decide +kernel
theorem dX2_isRowSound_129 : decode cX2_isRowSound 129 = .ok (.if_icmp .eq 5, 3) := by decide +kernel
theorem dX2_isRowSound_134 : decode cX2_isRowSound 134 = .ok (.iinc 2 1, 3) := by decide +kernel
theorem dX2_isRowSound_137 : decode cX2_isRowSound 137 = .ok (.goto (-35), 3) := by decide +kernel
theorem dX2_isRowSound_140 : decode cX2_isRowSound 140 = .ok (.aload_n 1, 1) := by decide +kernel
theorem dX2_isRowSound_141 : decode cX2_isRowSound 141 = .ok (.getfield 51, 3) := by decide +kernel
theorem dX2_isRowSound_144 : decode cX2_isRowSound 144 = .ok (.ifCond .eq 19, 3) := by decide +kernel
theorem dX2_isRowSound_147 : decode cX2_isRowSound 147 = .ok (.aload_n 0, 1) := by decide +kernel
theorem dX2_isRowSound_148 : decode cX2_isRowSound 148 = .ok (.getfield 23, 3) := by decide +kernel
theorem dX2_isRowSound_151 : decode cX2_isRowSound 151 = .ok (.iconst 0, 1) := by decide +kernel
theorem dX2_isRowSound_152 : decode cX2_isRowSound 152 = .ok (.invokevirtual 68, 3) := by decide +kernel
theorem dX2_isRowSound_155 : decode cX2_isRowSound 155 = .ok (.aload_n 1, 1) := by decide +kernel
theorem dX2_isRowSound_156 : decode cX2_isRowSound 156 = .ok (.iconst 1, 1) := by decide +kernel
theorem dX2_isRowSound_157 : decode cX2_isRowSound 157 = .ok (.invokestatic 151, 3) := by decide +kernel
theorem dX2_isRowSound_160 : decode cX2_isRowSound 160 = .ok (.if_icmp .ne 7, 3) := by decide +kernel
theorem dX2_isRowSound_163 : decode cX2_isRowSound 163 = .ok (.iconst 1, 1) := by decide +kernel
theorem dX2_isRowSound_164 : decode cX2_isRowSound 164 = .ok (.goto 4, 3) := by decide +kernel
theorem dX2_isRowSound_168 : decode cX2_isRowSound 168 = .ok (.ireturn, 1) := by decide +kernel
theorem dX2_isPartSound_0 : decode cX2_isPartSound 0 = .ok (.aload_n 0, 1) := by decide +kernel
theorem dX2_isPartSound_1 : decode cX2_isPartSound 1 = .ok (.getfield 293, 3) := by decide +kernel
theorem dX2_isPartSound_4 : decode cX2_isPartSound 4 = .ok (.astore_n 1, 1) := by decide +kernel
theorem dX2_isPartSound_5 : decode cX2_isPartSound 5 = .ok (.aload_n 1, 1) := by decide +kernel
theorem dX2_isPartSound_6 : decode cX2_isPartSound 6 = .ok (.ifnull 25, 3) := by decide +kernel
theorem dX2_isPartSound_9 : decode cX2_isPartSound 9 = .ok (.aload_n 1, 1) := by decide +kernel
theorem dX2_isPartSound_10 : decode cX2_isPartSound 10 = .ok (.iconst 0, 1) := by decide +kernel
theorem dX2_isPartSound_11 : decode cX2_isPartSound 11 = .ok (.aload_n 1, 1) := by decide +kernel
theorem dX2_isPartSound_12 : decode cX2_isPartSound 12 = .ok (.getfield 51, 3) := by decide +kernel
theorem dX2_isPartSound_15 : decode cX2_isPartSound 15 = .ok (.aload_n 1, 1) := by decide +kernel
theorem dX2_isPartSound_16 : decode cX2_isPartSound 16 = .ok (.aload_n 0, 1) := by decide +kernel
theorem dX2_isPartSound_17 : decode cX2_isPartSound 17 = .ok (.getfield 201, 3) := by decide +kernel
theorem dX2_isPartSound_20 : decode cX2_isPartSound 20 = .ok (.aload_n 0, 1) := by decide +kernel
theorem dX2_isPartSound_21 : decode cX2_isPartSound 21 = .ok (.getfield 208, 3) := by decide +kernel
theorem dX2_isPartSound_24 : decode cX2_isPartSound 24 = .ok (.invokevirtual 233, 3) := by decide +kernel
theorem dX2_isPartSound_27 : decode cX2_isPartSound 27 = .ok (.iconst (-1), 1) := by decide +kernel
theorem dX2_isPartSound_28 : decode cX2_isPartSound 28 = .ok (.if_icmp .eq 7, 3) := by decide +kernel
theorem dX2_isPartSound_31 : decode cX2_isPartSound 31 = .ok (.iconst 1, 1) := by decide +kernel
theorem dX2_isPartSound_32 : decode cX2_isPartSound 32 = .ok (.goto 4, 3) := by decide +kernel
theorem dX2_isPartSound_36 : decode cX2_isPartSound 36 = .ok (.ireturn, 1) := by decide +kernel
theorem dX2_writePart_0 : decode cX2_writePart 0 = .ok (.aload_n 1, 1) := by decide +kernel
theorem dX2_writePart_1 : decode cX2_writePart 1 = .ok (.getfield 293, 3) := by decide +kernel
theorem dX2_writePart_4 : decode cX2_writePart 4 = .ok (.astore_n 2, 1) := by decide +kernel
theorem dX2_writePart_5 : decode cX2_writePart 5 = .ok (.aload_n 2, 1) := by decide +kernel
theorem dX2_writePart_6 : decode cX2_writePart 6 = .ok (.ifnonnull 13, 3) := by decide +kernel
theorem dX2_writePart_19 : decode cX2_writePart 19 = .ok (.aload_n 0, 1) := by decide +kernel
theorem dX2_writePart_20 : decode cX2_writePart 20 = .ok (.aload_n 2, 1) := by decide +kernel
theorem dX2_writePart_21 : decode cX2_writePart 21 = .ok (.aload_n 1, 1) := by decide +kernel
theorem dX2_writePart_22 : decode cX2_writePart 22 = .ok (.getfield 201, 3) := by decide +kernel
theorem dX2_writePart_25 : decode cX2_writePart 25 = .ok (.aload_n 1, 1) := by decide +kernel
theorem dX2_writePart_26 : decode cX2_writePart 26 = .ok (.getfield 208, 3) := by decide +kernel
theorem dX2_writePart_29 : decode cX2_writePart 29 = .ok (.invokestatic 329, 3) := by decide +kernel
theorem dX2_writePart_32 : decode cX2_writePart 32 = .ok (.return_, 1) := by decide +kernel
theorem dX2_writeSpan_0 : decode cX2_writeSpan 0 = .ok (.aload_n 0, 1) := by decide +kernel
theorem dX2_writeSpan_1 : decode cX2_writeSpan 1 = .ok (.bipush 91, 2) := by decide +kernel
theorem dX2_writeSpan_3 : decode cX2_writeSpan 3 = .ok (.invokevirtual 333, 3) := by decide +kernel
theorem dX2_writeSpan_6 : decode cX2_writeSpan 6 = .ok (.pop, 1) := by decide +kernel
theorem dX2_writeSpan_7 : decode cX2_writeSpan 7 = .ok (.iload_n 2, 1) := by decide +kernel
theorem dX2_writeSpan_8 : decode cX2_writeSpan 8 = .ok (.istore 4, 2) := by decide +kernel
theorem dX2_writeSpan_10 : decode cX2_writeSpan 10 = .ok (.iload 4, 2) := by decide +kernel
theorem dX2_writeSpan_12 : decode cX2_writeSpan 12 = .ok (.iload_n 3, 1) := by decide +kernel
theorem dX2_writeSpan_13 : decode cX2_writeSpan 13 = .ok (.if_icmp .ge 52, 3) := by decide +kernel
theorem dX2_writeSpan_16 : decode cX2_writeSpan 16 = .ok (.iload 4, 2) := by decide +kernel
theorem dX2_writeSpan_18 : decode cX2_writeSpan 18 = .ok (.iload_n 2, 1) := by decide +kernel
theorem dX2_writeSpan_19 : decode cX2_writeSpan 19 = .ok (.if_icmp .le 11, 3) := by decide +kernel
theorem dX2_writeSpan_22 : decode cX2_writeSpan 22 = .ok (.aload_n 0, 1) := by decide +kernel
theorem dX2_writeSpan_23 : decode cX2_writeSpan 23 = .ok (.ldc_w 337, 3) := by decide +kernel
theorem dX2_writeSpan_26 : decode cX2_writeSpan 26 = .ok (.invokevirtual 339, 3) := by decide +kernel
theorem dX2_writeSpan_29 : decode cX2_writeSpan 29 = .ok (.pop, 1) := by decide +kernel
theorem dX2_writeSpan_30 : decode cX2_writeSpan 30 = .ok (.aload_n 0, 1) := by decide +kernel
theorem dX2_writeSpan_31 : decode cX2_writeSpan 31 = .ok (.aload_n 1, 1) := by decide +kernel
theorem dX2_writeSpan_32 : decode cX2_writeSpan 32 = .ok (.iload 4, 2) := by decide +kernel
theorem dX2_writeSpan_34 : decode cX2_writeSpan 34 = .ok (.invokevirtual 68, 3) := by decide +kernel
theorem dX2_writeSpan_37 : decode cX2_writeSpan 37 = .ok (.invokevirtual 342, 3) := by decide +kernel
theorem dX2_writeSpan_40 : decode cX2_writeSpan 40 = .ok (.pop, 1) := by decide +kernel
theorem dX2_writeSpan_41 : decode cX2_writeSpan 41 = .ok (.aload_n 0, 1) := by decide +kernel
theorem dX2_writeSpan_42 : decode cX2_writeSpan 42 = .ok (.bipush 46, 2) := by decide +kernel
theorem dX2_writeSpan_44 : decode cX2_writeSpan 44 = .ok (.invokevirtual 333, 3) := by decide +kernel
theorem dX2_writeSpan_47 : decode cX2_writeSpan 47 = .ok (.pop, 1) := by decide +kernel
theorem dX2_writeSpan_48 : decode cX2_writeSpan 48 = .ok (.aload_n 0, 1) := by decide +kernel
theorem dX2_writeSpan_49 : decode cX2_writeSpan 49 = .ok (.aload_n 1, 1) := by decide +kernel
theorem dX2_writeSpan_50 : decode cX2_writeSpan 50 = .ok (.iload 4, 2) := by decide +kernel
theorem dX2_writeSpan_52 : decode cX2_writeSpan 52 = .ok (.invokevirtual 127, 3) := by decide +kernel
theorem dX2_writeSpan_55 : decode cX2_writeSpan 55 = .ok (.invokevirtual 342, 3) := by decide +kernel
theorem dX2_writeSpan_58 : decode cX2_writeSpan 58 = .ok (.pop, 1) := by decide +kernel
theorem dX2_writeSpan_59 : decode cX2_writeSpan 59 = .ok (.iinc 4 1, 3) := by decide +kernel
theorem dX2_writeSpan_62 : decode cX2_writeSpan 62 = .ok (.goto (-52), 3) := by decide +kernel
theorem dX2_writeSpan_65 : decode cX2_writeSpan 65 = .ok (.aload_n 0, 1) := by decide +kernel
theorem dX2_writeSpan_66 : decode cX2_writeSpan 66 = .ok (.bipush 93, 2) := by decide +kernel
theorem dX2_writeSpan_68 : decode cX2_writeSpan 68 = .ok (.invokevirtual 333, 3) := by decide +kernel
theorem dX2_writeSpan_71 : decode cX2_writeSpan 71 = .ok (.pop, 1) := by decide +kernel
theorem dX2_writeSpan_72 : decode cX2_writeSpan 72 = .ok (.return_, 1) := by decide +kernel
theorem dX2_mix_0 : decode cX2_mix 0 = .ok (.lload_n 0, 1) := by decide +kernel
theorem dX2_mix_1 : decode cX2_mix 1 = .ok (.ldc2_w 345, 3) := by decide +kernel
theorem dX2_mix_4 : decode cX2_mix 4 = .ok (.lmul, 1) := by decide +kernel
theorem dX2_mix_5 : decode cX2_mix 5 = .ok (.lload_n 2, 1) := by decide +kernel
theorem dX2_mix_6 : decode cX2_mix 6 = .ok (.ladd, 1) := by decide +kernel
theorem dX2_mix_7 : decode cX2_mix 7 = .ok (.lreturn, 1) := by decide +kernel
theorem dX2_mixText_0 : decode cX2_mixText 0 = .ok (.lload_n 0, 1) := by decide +kernel
theorem dX2_mixText_1 : decode cX2_mixText 1 = .ok (.lstore_n 3, 1) := by decide +kernel
theorem dX2_mixText_2 : decode cX2_mixText 2 = .ok (.iconst 0, 1) := by decide +kernel
theorem dX2_mixText_3 : decode cX2_mixText 3 = .ok (.istore 5, 2) := by decide +kernel
theorem dX2_mixText_5 : decode cX2_mixText 5 = .ok (.iload 5, 2) := by decide +kernel
theorem dX2_mixText_7 : decode cX2_mixText 7 = .ok (.aload_n 2, 1) := by decide +kernel
theorem dX2_mixText_8 : decode cX2_mixText 8 = .ok (.invokevirtual 347, 3) := by decide +kernel
theorem dX2_mixText_11 : decode cX2_mixText 11 = .ok (.if_icmp .ge 21, 3) := by decide +kernel
theorem dX2_mixText_14 : decode cX2_mixText 14 = .ok (.lload_n 3, 1) := by decide +kernel
theorem dX2_mixText_15 : decode cX2_mixText 15 = .ok (.aload_n 2, 1) := by decide +kernel
theorem dX2_mixText_16 : decode cX2_mixText 16 = .ok (.iload 5, 2) := by decide +kernel
theorem dX2_mixText_18 : decode cX2_mixText 18 = .ok (.invokevirtual 350, 3) := by decide +kernel
theorem dX2_mixText_21 : decode cX2_mixText 21 = .ok (.i2l, 1) := by decide +kernel
theorem dX2_mixText_22 : decode cX2_mixText 22 = .ok (.invokestatic 275, 3) := by decide +kernel
theorem dX2_mixText_25 : decode cX2_mixText 25 = .ok (.lstore_n 3, 1) := by decide +kernel
theorem dX2_mixText_26 : decode cX2_mixText 26 = .ok (.iinc 5 1, 3) := by decide +kernel
theorem dX2_mixText_29 : decode cX2_mixText 29 = .ok (.goto (-24), 3) := by decide +kernel
theorem dX2_mixText_32 : decode cX2_mixText 32 = .ok (.lload_n 3, 1) := by decide +kernel
theorem dX2_mixText_33 : decode cX2_mixText 33 = .ok (.lreturn, 1) := by decide +kernel
theorem dX2_mixHouse_0 : decode cX2_mixHouse 0 = .ok (.lload_n 1, 1) := by decide +kernel
theorem dX2_mixHouse_1 : decode cX2_mixHouse 1 = .ok (.aload_n 0, 1) := by decide +kernel
theorem dX2_mixHouse_2 : decode cX2_mixHouse 2 = .ok (.invokevirtual 248, 3) := by decide +kernel
theorem dX2_mixHouse_5 : decode cX2_mixHouse 5 = .ok (.i2l, 1) := by decide +kernel
theorem dX2_mixHouse_6 : decode cX2_mixHouse 6 = .ok (.invokestatic 275, 3) := by decide +kernel
theorem dX2_mixHouse_9 : decode cX2_mixHouse 9 = .ok (.lstore_n 3, 1) := by decide +kernel
theorem dX2_mixHouse_10 : decode cX2_mixHouse 10 = .ok (.lload_n 3, 1) := by decide +kernel
theorem dX2_mixHouse_11 : decode cX2_mixHouse 11 = .ok (.aload_n 0, 1) := by decide +kernel
theorem dX2_mixHouse_12 : decode cX2_mixHouse 12 = .ok (.invokevirtual 251, 3) := by decide +kernel
theorem dX2_mixHouse_15 : decode cX2_mixHouse 15 = .ok (.i2l, 1) := by decide +kernel
theorem dX2_mixHouse_16 : decode cX2_mixHouse 16 = .ok (.invokestatic 275, 3) := by decide +kernel
theorem dX2_mixHouse_19 : decode cX2_mixHouse 19 = .ok (.lstore_n 3, 1) := by decide +kernel
theorem dX2_mixHouse_20 : decode cX2_mixHouse 20 = .ok (.lload_n 3, 1) := by decide +kernel
theorem dX2_mixHouse_21 : decode cX2_mixHouse 21 = .ok (.aload_n 0, 1) := by decide +kernel
theorem dX2_mixHouse_22 : decode cX2_mixHouse 22 = .ok (.invokevirtual 254, 3) := by decide +kernel
theorem dX2_mixHouse_25 : decode cX2_mixHouse 25 = .ok (.i2l, 1) := by decide +kernel
theorem dX2_mixHouse_26 : decode cX2_mixHouse 26 = .ok (.invokestatic 275, 3) := by decide +kernel
theorem dX2_mixHouse_29 : decode cX2_mixHouse 29 = .ok (.lstore_n 3, 1) := by decide +kernel
theorem dX2_mixHouse_30 : decode cX2_mixHouse 30 = .ok (.lload_n 3, 1) := by decide +kernel
theorem dX2_mixHouse_31 : decode cX2_mixHouse 31 = .ok (.aload_n 0, 1) := by decide +kernel
theorem dX2_mixHouse_32 : decode cX2_mixHouse 32 = .ok (.getfield 27, 3) := by decide +kernel
theorem dX2_mixHouse_35 : decode cX2_mixHouse 35 = .ok (.i2l, 1) := by decide +kernel
theorem dX2_mixHouse_36 : decode cX2_mixHouse 36 = .ok (.invokestatic 275, 3) := by decide +kernel
theorem dX2_mixHouse_39 : decode cX2_mixHouse 39 = .ok (.lreturn, 1) := by decide +kernel
theorem dX2_mixRow_0 : decode cX2_mixRow 0 = .ok (.aload_n 3, 1) := by decide +kernel
theorem dX2_mixRow_1 : decode cX2_mixRow 1 = .ok (.iconst 0, 1) := by decide +kernel
theorem dX2_mixRow_2 : decode cX2_mixRow 2 = .ok (.invokevirtual 279, 3) := by decide +kernel
theorem dX2_mixRow_5 : decode cX2_mixRow 5 = .ok (.aload_n 3, 1) := by decide +kernel
theorem dX2_mixRow_6 : decode cX2_mixRow 6 = .ok (.aload_n 2, 1) := by decide +kernel
theorem dX2_mixRow_7 : decode cX2_mixRow 7 = .ok (.iconst 0, 1) := by decide +kernel
theorem dX2_mixRow_8 : decode cX2_mixRow 8 = .ok (.aload_n 2, 1) := by decide +kernel
theorem dX2_mixRow_9 : decode cX2_mixRow 9 = .ok (.getfield 51, 3) := by decide +kernel
theorem dX2_mixRow_12 : decode cX2_mixRow 12 = .ok (.invokestatic 329, 3) := by decide +kernel
theorem dX2_mixRow_15 : decode cX2_mixRow 15 = .ok (.lload_n 0, 1) := by decide +kernel
theorem dX2_mixRow_16 : decode cX2_mixRow 16 = .ok (.aload_n 3, 1) := by decide +kernel
theorem dX2_mixRow_17 : decode cX2_mixRow 17 = .ok (.invokestatic 282, 3) := by decide +kernel
theorem dX2_mixRow_20 : decode cX2_mixRow 20 = .ok (.lstore 4, 2) := by decide +kernel
theorem dX2_mixRow_22 : decode cX2_mixRow 22 = .ok (.lload 4, 2) := by decide +kernel
theorem dX2_mixRow_24 : decode cX2_mixRow 24 = .ok (.aload_n 2, 1) := by decide +kernel
theorem dX2_mixRow_25 : decode cX2_mixRow 25 = .ok (.getfield 100, 3) := by decide +kernel
theorem dX2_mixRow_28 : decode cX2_mixRow 28 = .ok (.i2l, 1) := by decide +kernel
theorem dX2_mixRow_29 : decode cX2_mixRow 29 = .ok (.invokestatic 275, 3) := by decide +kernel
theorem dX2_mixRow_32 : decode cX2_mixRow 32 = .ok (.lstore 4, 2) := by decide +kernel
theorem dX2_mixRow_34 : decode cX2_mixRow 34 = .ok (.lload 4, 2) := by decide +kernel
theorem dX2_mixRow_36 : decode cX2_mixRow 36 = .ok (.aload_n 2, 1) := by decide +kernel
theorem dX2_mixRow_37 : decode cX2_mixRow 37 = .ok (.iconst 0, 1) := by decide +kernel
theorem dX2_mixRow_38 : decode cX2_mixRow 38 = .ok (.invokestatic 151, 3) := by decide +kernel
theorem dX2_mixRow_41 : decode cX2_mixRow 41 = .ok (.i2l, 1) := by decide +kernel
theorem dX2_mixRow_42 : decode cX2_mixRow 42 = .ok (.invokestatic 275, 3) := by decide +kernel
theorem dX2_mixRow_45 : decode cX2_mixRow 45 = .ok (.lstore 4, 2) := by decide +kernel
theorem dX2_mixRow_47 : decode cX2_mixRow 47 = .ok (.lload 4, 2) := by decide +kernel
theorem dX2_mixRow_49 : decode cX2_mixRow 49 = .ok (.aload_n 2, 1) := by decide +kernel
theorem dX2_mixRow_50 : decode cX2_mixRow 50 = .ok (.iconst 1, 1) := by decide +kernel
theorem dX2_mixRow_51 : decode cX2_mixRow 51 = .ok (.invokestatic 151, 3) := by decide +kernel
theorem dX2_mixRow_54 : decode cX2_mixRow 54 = .ok (.i2l, 1) := by decide +kernel
theorem dX2_mixRow_55 : decode cX2_mixRow 55 = .ok (.invokestatic 275, 3) := by decide +kernel
theorem dX2_mixRow_58 : decode cX2_mixRow 58 = .ok (.lstore 4, 2) := by decide +kernel
theorem dX2_mixRow_60 : decode cX2_mixRow 60 = .ok (.lload 4, 2) := by decide +kernel
theorem dX2_mixRow_62 : decode cX2_mixRow 62 = .ok (.aload_n 2, 1) := by decide +kernel
theorem dX2_mixRow_63 : decode cX2_mixRow 63 = .ok (.invokestatic 244, 3) := by decide +kernel
theorem dX2_mixRow_66 : decode cX2_mixRow 66 = .ok (.i2l, 1) := by decide +kernel
theorem dX2_mixRow_67 : decode cX2_mixRow 67 = .ok (.invokestatic 275, 3) := by decide +kernel
theorem dX2_mixRow_70 : decode cX2_mixRow 70 = .ok (.lreturn, 1) := by decide +kernel
theorem dX3_init_0 : decode cX3_init 0 = .ok (.aload_n 0, 1) := by decide +kernel
theorem dX3_init_1 : decode cX3_init 1 = .ok (.invokespecial 1, 3) := by decide +kernel
theorem dX3_init_4 : decode cX3_init 4 = .ok (.return_, 1) := by decide +kernel
theorem dX4_init_0 : decode cX4_init 0 = .ok (.aload_n 0, 1) := by decide +kernel
theorem dX4_init_1 : decode cX4_init 1 = .ok (.invokespecial 1, 3) := by decide +kernel
theorem dX4_init_4 : decode cX4_init 4 = .ok (.aload_n 0, 1) := by decide +kernel
theorem dX4_init_5 : decode cX4_init 5 = .ok (.iconst 4, 1) := by decide +kernel
theorem dX4_init_6 : decode cX4_init 6 = .ok (.bipush 31, 2) := by decide +kernel
theorem dX4_init_8 : decode cX4_init 8 = .ok (.multianewarray 9 2, 4) := by decide +kernel
theorem dX4_init_12 : decode cX4_init 12 = .ok (.putfield 11, 3) := by decide +kernel
theorem dX4_init_15 : decode cX4_init 15 = .ok (.aload_n 0, 1) := by decide +kernel
theorem dX4_init_16 : decode cX4_init 16 = .ok (.iconst 4, 1) := by decide +kernel
theorem dX4_init_17 : decode cX4_init 17 = .ok (.newarray .int, 2) := by decide +kernel
theorem dX4_init_19 : decode cX4_init 19 = .ok (.putfield 14, 3) := by decide +kernel
theorem dX4_init_22 : decode cX4_init 22 = .ok (.aload_n 0, 1) := by decide +kernel
theorem dX4_init_23 : decode cX4_init 23 = .ok (.iconst 4, 1) := by decide +kernel
theorem dX4_init_24 : decode cX4_init 24 = .ok (.newarray .int, 2) := by decide +kernel
theorem dX4_init_26 : decode cX4_init 26 = .ok (.putfield 18, 3) := by decide +kernel
theorem dX4_init_29 : decode cX4_init 29 = .ok (.aload_n 0, 1) := by decide +kernel
theorem dX4_init_30 : decode cX4_init 30 = .ok (.iconst 4, 1) := by decide +kernel
theorem dX4_init_31 : decode cX4_init 31 = .ok (.newarray .int, 2) := by decide +kernel
theorem dX4_init_33 : decode cX4_init 33 = .ok (.dup, 1) := by decide +kernel
theorem dX4_init_34 : decode cX4_init 34 = .ok (.iconst 0, 1) := by decide +kernel
theorem dX4_init_35 : decode cX4_init 35 = .ok (.iconst (-1), 1) := by decide +kernel
theorem dX4_init_36 : decode cX4_init 36 = .ok (.iastore, 1) := by decide +kernel
theorem dX4_init_37 : decode cX4_init 37 = .ok (.dup, 1) := by decide +kernel
theorem dX4_init_38 : decode cX4_init 38 = .ok (.iconst 1, 1) := by decide +kernel
theorem dX4_init_39 : decode cX4_init 39 = .ok (.iconst (-1), 1) := by decide +kernel
theorem dX4_init_40 : decode cX4_init 40 = .ok (.iastore, 1) := by decide +kernel
theorem dX4_init_41 : decode cX4_init 41 = .ok (.dup, 1) := by decide +kernel
theorem dX4_init_42 : decode cX4_init 42 = .ok (.iconst 2, 1) := by decide +kernel
theorem dX4_init_43 : decode cX4_init 43 = .ok (.iconst (-1), 1) := by decide +kernel
theorem dX4_init_44 : decode cX4_init 44 = .ok (.iastore, 1) := by decide +kernel
theorem dX4_init_45 : decode cX4_init 45 = .ok (.dup, 1) := by decide +kernel
theorem dX4_init_46 : decode cX4_init 46 = .ok (.iconst 3, 1) := by decide +kernel
theorem dX4_init_47 : decode cX4_init 47 = .ok (.iconst (-1), 1) := by decide +kernel
theorem dX4_init_48 : decode cX4_init 48 = .ok (.iastore, 1) := by decide +kernel
theorem dX4_init_49 : decode cX4_init 49 = .ok (.putfield 21, 3) := by decide +kernel
theorem dX4_init_52 : decode cX4_init 52 = .ok (.aload_n 0, 1) := by decide +kernel
theorem dX4_init_53 : decode cX4_init 53 = .ok (.iconst 3, 1) := by decide +kernel
theorem dX4_init_54 : decode cX4_init 54 = .ok (.newarray .int, 2) := by decide +kernel
theorem dX4_init_56 : decode cX4_init 56 = .ok (.dup, 1) := by decide +kernel
theorem dX4_init_57 : decode cX4_init 57 = .ok (.iconst 0, 1) := by decide +kernel
theorem dX4_init_58 : decode cX4_init 58 = .ok (.iconst (-1), 1) := by decide +kernel
theorem dX4_init_59 : decode cX4_init 59 = .ok (.iastore, 1) := by decide +kernel
theorem dX4_init_60 : decode cX4_init 60 = .ok (.dup, 1) := by decide +kernel
theorem dX4_init_61 : decode cX4_init 61 = .ok (.iconst 1, 1) := by decide +kernel
theorem dX4_init_62 : decode cX4_init 62 = .ok (.iconst (-1), 1) := by decide +kernel
theorem dX4_init_63 : decode cX4_init 63 = .ok (.iastore, 1) := by decide +kernel
theorem dX4_init_64 : decode cX4_init 64 = .ok (.dup, 1) := by decide +kernel
theorem dX4_init_65 : decode cX4_init 65 = .ok (.iconst 2, 1) := by decide +kernel
theorem dX4_init_66 : decode cX4_init 66 = .ok (.iconst (-1), 1) := by decide +kernel
theorem dX4_init_67 : decode cX4_init 67 = .ok (.iastore, 1) := by decide +kernel
theorem dX4_init_68 : decode cX4_init 68 = .ok (.putfield 24, 3) := by decide +kernel
theorem dX4_init_71 : decode cX4_init 71 = .ok (.aload_n 0, 1) := by decide +kernel
theorem dX4_init_72 : decode cX4_init 72 = .ok (.iconst 3, 1) := by decide +kernel
theorem dX4_init_73 : decode cX4_init 73 = .ok (.newarray .int, 2) := by decide +kernel
theorem dX4_init_75 : decode cX4_init 75 = .ok (.putfield 27, 3) := by decide +kernel
theorem dX4_init_78 : decode cX4_init 78 = .ok (.aload_n 0, 1) := by decide +kernel
theorem dX4_init_79 : decode cX4_init 79 = .ok (.iconst 3, 1) := by decide +kernel
theorem dX4_init_80 : decode cX4_init 80 = .ok (.newarray .int, 2) := by decide +kernel
theorem dX4_init_82 : decode cX4_init 82 = .ok (.putfield 30, 3) := by decide +kernel
theorem dX4_init_85 : decode cX4_init 85 = .ok (.aload_n 0, 1) := by decide +kernel
theorem dX4_init_86 : decode cX4_init 86 = .ok (.iconst 3, 1) := by decide +kernel
theorem dX4_init_87 : decode cX4_init 87 = .ok (.newarray .int, 2) := by decide +kernel
theorem dX4_init_89 : decode cX4_init 89 = .ok (.dup, 1) := by decide +kernel
theorem dX4_init_90 : decode cX4_init 90 = .ok (.iconst 0, 1) := by decide +kernel
theorem dX4_init_91 : decode cX4_init 91 = .ok (.iconst (-1), 1) := by decide +kernel
theorem dX4_init_92 : decode cX4_init 92 = .ok (.iastore, 1) := by decide +kernel
theorem dX4_init_93 : decode cX4_init 93 = .ok (.dup, 1) := by decide +kernel
theorem dX4_init_94 : decode cX4_init 94 = .ok (.iconst 1, 1) := by decide +kernel
theorem dX4_init_95 : decode cX4_init 95 = .ok (.iconst (-1), 1) := by decide +kernel
theorem dX4_init_96 : decode cX4_init 96 = .ok (.iastore, 1) := by decide +kernel
theorem dX4_init_97 : decode cX4_init 97 = .ok (.dup, 1) := by decide +kernel
theorem dX4_init_98 : decode cX4_init 98 = .ok (.iconst 2, 1) := by decide +kernel
theorem dX4_init_99 : decode cX4_init 99 = .ok (.iconst (-1), 1) := by decide +kernel
theorem dX4_init_100 : decode cX4_init 100 = .ok (.iastore, 1) := by decide +kernel
theorem dX4_init_101 : decode cX4_init 101 = .ok (.putfield 33, 3) := by decide +kernel
theorem dX4_init_104 : decode cX4_init 104 = .ok (.return_, 1) := by decide +kernel
theorem dX4_thrown_0 : decode cX4_thrown 0 = .ok (.aload_n 0, 1) := by decide +kernel
theorem dX4_thrown_1 : decode cX4_thrown 1 = .ok (.getfield 36, 3) := by decide +kernel
theorem dX4_thrown_4 : decode cX4_thrown 4 = .ok (.ireturn, 1) := by decide +kernel
theorem dX4_isIn_0 : decode cX4_isIn 0 = .ok (.iload_n 0, 1) := by decide +kernel
theorem dX4_isIn_1 : decode cX4_isIn 1 = .ok (.iload_n 1, 1) := by decide +kernel
theorem dX4_isIn_2 : decode cX4_isIn 2 = .ok (.if_icmp .lt 12, 3) := by decide +kernel
theorem dX4_isIn_5 : decode cX4_isIn 5 = .ok (.iload_n 0, 1) := by decide +kernel
theorem dX4_isIn_6 : decode cX4_isIn 6 = .ok (.iload_n 2, 1) := by decide +kernel
theorem dX4_isIn_7 : decode cX4_isIn 7 = .ok (.if_icmp .gt 7, 3) := by decide +kernel
theorem dX4_isIn_10 : decode cX4_isIn 10 = .ok (.iconst 1, 1) := by decide +kernel
theorem dX4_isIn_11 : decode cX4_isIn 11 = .ok (.goto 4, 3) := by decide +kernel
theorem dX4_isIn_15 : decode cX4_isIn 15 = .ok (.ireturn, 1) := by decide +kernel
theorem dX4_one_0 : decode cX4_one 0 = .ok (.iload_n 0, 1) := by decide +kernel
theorem dX4_one_1 : decode cX4_one 1 = .ok (.ifCond .eq 7, 3) := by decide +kernel
theorem dX4_one_4 : decode cX4_one 4 = .ok (.iconst 1, 1) := by decide +kernel
theorem dX4_one_5 : decode cX4_one 5 = .ok (.goto 4, 3) := by decide +kernel
theorem dX4_one_8 : decode cX4_one 8 = .ok (.iconst 0, 1) := by decide +kernel
theorem dX4_one_9 : decode cX4_one 9 = .ok (.ireturn, 1) := by decide +kernel
theorem dX4_isNoRow_0 : decode cX4_isNoRow 0 = .ok (.iload_n 0, 1) := by decide +kernel
theorem dX4_isNoRow_1 : decode cX4_isNoRow 1 = .ok (.iconst 0, 1) := by decide +kernel
theorem dX4_isNoRow_2 : decode cX4_isNoRow 2 = .ok (.iconst 3, 1) := by decide +kernel
theorem dX4_isNoRow_3 : decode cX4_isNoRow 3 = .ok (.invokestatic 40, 3) := by decide +kernel
theorem dX4_isNoRow_6 : decode cX4_isNoRow 6 = .ok (.ifCond .ne 7, 3) := by decide +kernel
theorem dX4_isNoRow_13 : decode cX4_isNoRow 13 = .ok (.iconst 0, 1) := by decide +kernel
theorem dX4_isNoRow_14 : decode cX4_isNoRow 14 = .ok (.ireturn, 1) := by decide +kernel
theorem dX4_isNoPart_0 : decode cX4_isNoPart 0 = .ok (.iload_n 0, 1) := by decide +kernel
theorem dX4_isNoPart_1 : decode cX4_isNoPart 1 = .ok (.iconst 0, 1) := by decide +kernel
theorem dX4_isNoPart_2 : decode cX4_isNoPart 2 = .ok (.iconst 2, 1) := by decide +kernel
theorem dX4_isNoPart_3 : decode cX4_isNoPart 3 = .ok (.invokestatic 40, 3) := by decide +kernel
theorem dX4_isNoPart_6 : decode cX4_isNoPart 6 = .ok (.ifCond .ne 7, 3) := by decide +kernel
theorem dX4_isNoPart_13 : decode cX4_isNoPart 13 = .ok (.iconst 0, 1) := by decide +kernel
theorem dX4_isNoPart_14 : decode cX4_isNoPart 14 = .ok (.ireturn, 1) := by decide +kernel
theorem dX4_isNoCard_0 : decode cX4_isNoCard 0 = .ok (.iload_n 0, 1) := by decide +kernel
theorem dX4_isNoCard_1 : decode cX4_isNoCard 1 = .ok (.iconst 0, 1) := by decide +kernel
theorem dX4_isNoCard_2 : decode cX4_isNoCard 2 = .ok (.bipush 99, 2) := by decide +kernel
theorem dX4_isNoCard_4 : decode cX4_isNoCard 4 = .ok (.invokestatic 40, 3) := by decide +kernel
theorem dX4_isNoCard_7 : decode cX4_isNoCard 7 = .ok (.ifCond .eq 13, 3) := by decide +kernel
theorem dX4_isNoCard_10 : decode cX4_isNoCard 10 = .ok (.iload_n 1, 1) := by decide +kernel
theorem dX4_isNoCard_11 : decode cX4_isNoCard 11 = .ok (.iconst 0, 1) := by decide +kernel
theorem dX4_isNoCard_12 : decode cX4_isNoCard 12 = .ok (.bipush 9, 2) := by decide +kernel
theorem dX4_isNoCard_14 : decode cX4_isNoCard 14 = .ok (.invokestatic 40, 3) := by decide +kernel
theorem dX4_isNoCard_17 : decode cX4_isNoCard 17 = .ok (.ifCond .ne 7, 3) := by decide +kernel
theorem dX4_isNoCard_24 : decode cX4_isNoCard 24 = .ok (.iconst 0, 1) := by decide +kernel
theorem dX4_isNoCard_25 : decode cX4_isNoCard 25 = .ok (.ireturn, 1) := by decide +kernel
theorem dX4_start_0 : decode cX4_start 0 = .ok (.aload_n 0, 1) := by decide +kernel
theorem dX4_start_1 : decode cX4_start 1 = .ok (.iload_n 1, 1) := by decide +kernel
theorem dX4_start_2 : decode cX4_start 2 = .ok (.ifCond .eq 7, 3) := by decide +kernel
theorem dX4_start_9 : decode cX4_start 9 = .ok (.iload_n 2, 1) := by decide +kernel
theorem dX4_start_10 : decode cX4_start 10 = .ok (.ifCond .eq 7, 3) := by decide +kernel
theorem dX4_start_17 : decode cX4_start 17 = .ok (.iload_n 3, 1) := by decide +kernel
theorem dX4_start_18 : decode cX4_start 18 = .ok (.ifCond .eq 7, 3) := by decide +kernel
theorem dX4_start_25 : decode cX4_start 25 = .ok (.iconst 0, 1) := by decide +kernel
theorem dX4_start_26 : decode cX4_start 26 = .ok (.putfield 36, 3) := by decide +kernel
theorem dX4_start_29 : decode cX4_start 29 = .ok (.aload_n 0, 1) := by decide +kernel
theorem dX4_start_30 : decode cX4_start 30 = .ok (.getfield 36, 3) := by decide +kernel
theorem dX4_start_33 : decode cX4_start 33 = .ok (.ifCond .ne 7, 3) := by decide +kernel
theorem dX4_start_36 : decode cX4_start 36 = .ok (.iconst 1, 1) := by decide +kernel
theorem dX4_start_37 : decode cX4_start 37 = .ok (.goto 4, 3) := by decide +kernel
theorem dX4_start_41 : decode cX4_start 41 = .ok (.ireturn, 1) := by decide +kernel
theorem dX4_lose_0 : decode cX4_lose 0 = .ok (.aload_n 0, 1) := by decide +kernel
theorem dX4_lose_1 : decode cX4_lose 1 = .ok (.getfield 24, 3) := by decide +kernel
theorem dX4_lose_4 : decode cX4_lose 4 = .ok (.iload_n 1, 1) := by decide +kernel
theorem dX4_lose_5 : decode cX4_lose 5 = .ok (.iconst (-1), 1) := by decide +kernel
theorem dX4_lose_6 : decode cX4_lose 6 = .ok (.iastore, 1) := by decide +kernel
theorem dX4_lose_7 : decode cX4_lose 7 = .ok (.iconst 0, 1) := by decide +kernel
theorem dX4_lose_8 : decode cX4_lose 8 = .ok (.istore_n 2, 1) := by decide +kernel
theorem dX4_lose_9 : decode cX4_lose 9 = .ok (.iload_n 2, 1) := by decide +kernel
theorem dX4_lose_10 : decode cX4_lose 10 = .ok (.iconst 3, 1) := by decide +kernel
theorem dX4_lose_11 : decode cX4_lose 11 = .ok (.if_icmp .ge 34, 3) := by decide +kernel
theorem dX4_lose_14 : decode cX4_lose 14 = .ok (.aload_n 0, 1) := by decide +kernel
theorem dX4_lose_15 : decode cX4_lose 15 = .ok (.getfield 24, 3) := by decide +kernel
theorem dX4_lose_18 : decode cX4_lose 18 = .ok (.iload_n 2, 1) := by decide +kernel
theorem dX4_lose_19 : decode cX4_lose 19 = .ok (.iaload, 1) := by decide +kernel
theorem dX4_lose_20 : decode cX4_lose 20 = .ok (.iconst (-1), 1) := by decide +kernel
theorem dX4_lose_21 : decode cX4_lose 21 = .ok (.if_icmp .eq 18, 3) := by decide +kernel
theorem dX4_lose_24 : decode cX4_lose 24 = .ok (.aload_n 0, 1) := by decide +kernel
theorem dX4_lose_25 : decode cX4_lose 25 = .ok (.getfield 33, 3) := by decide +kernel
theorem dX4_lose_28 : decode cX4_lose 28 = .ok (.iload_n 2, 1) := by decide +kernel
theorem dX4_lose_29 : decode cX4_lose 29 = .ok (.iaload, 1) := by decide +kernel
theorem dX4_lose_30 : decode cX4_lose 30 = .ok (.iload_n 1, 1) := by decide +kernel
theorem dX4_lose_31 : decode cX4_lose 31 = .ok (.if_icmp .ne 8, 3) := by decide +kernel
theorem dX4_lose_39 : decode cX4_lose 39 = .ok (.iinc 2 1, 3) := by decide +kernel
theorem dX4_lose_42 : decode cX4_lose 42 = .ok (.goto (-33), 3) := by decide +kernel
theorem dX4_lose_45 : decode cX4_lose 45 = .ok (.return_, 1) := by decide +kernel
theorem dX4_reshape_0 : decode cX4_reshape 0 = .ok (.aload_n 0, 1) := by decide +kernel
theorem dX4_reshape_1 : decode cX4_reshape 1 = .ok (.getfield 21, 3) := by decide +kernel
theorem dX4_reshape_4 : decode cX4_reshape 4 = .ok (.iload_n 1, 1) := by decide +kernel
theorem dX4_reshape_5 : decode cX4_reshape 5 = .ok (.iconst (-1), 1) := by decide +kernel
theorem dX4_reshape_6 : decode cX4_reshape 6 = .ok (.iastore, 1) := by decide +kernel
theorem dX4_reshape_7 : decode cX4_reshape 7 = .ok (.iconst 0, 1) := by decide +kernel
theorem dX4_reshape_8 : decode cX4_reshape 8 = .ok (.istore_n 2, 1) := by decide +kernel
theorem dX4_reshape_9 : decode cX4_reshape 9 = .ok (.iload_n 2, 1) := by decide +kernel
theorem dX4_reshape_10 : decode cX4_reshape 10 = .ok (.iconst 3, 1) := by decide +kernel
theorem dX4_reshape_11 : decode cX4_reshape 11 = .ok (.if_icmp .ge 26, 3) := by decide +kernel
theorem dX4_reshape_14 : decode cX4_reshape 14 = .ok (.aload_n 0, 1) := by decide +kernel
theorem dX4_reshape_15 : decode cX4_reshape 15 = .ok (.getfield 24, 3) := by decide +kernel
theorem dX4_reshape_18 : decode cX4_reshape 18 = .ok (.iload_n 2, 1) := by decide +kernel
theorem dX4_reshape_19 : decode cX4_reshape 19 = .ok (.iaload, 1) := by decide +kernel
theorem dX4_reshape_20 : decode cX4_reshape 20 = .ok (.iload_n 1, 1) := by decide +kernel
theorem dX4_reshape_21 : decode cX4_reshape 21 = .ok (.if_icmp .ne 10, 3) := by decide +kernel
theorem dX4_reshape_31 : decode cX4_reshape 31 = .ok (.iinc 2 1, 3) := by decide +kernel
theorem dX4_reshape_34 : decode cX4_reshape 34 = .ok (.goto (-25), 3) := by decide +kernel
theorem dX4_reshape_37 : decode cX4_reshape 37 = .ok (.return_, 1) := by decide +kernel
theorem dX4_put_0 : decode cX4_put 0 = .ok (.aload_n 0, 1) := by decide +kernel
theorem dX4_put_1 : decode cX4_put 1 = .ok (.getfield 14, 3) := by decide +kernel
theorem dX4_put_4 : decode cX4_put 4 = .ok (.iload_n 1, 1) := by decide +kernel
theorem dX4_put_5 : decode cX4_put 5 = .ok (.iaload, 1) := by decide +kernel
theorem dX4_put_6 : decode cX4_put 6 = .ok (.istore 4, 2) := by decide +kernel
theorem dX4_put_8 : decode cX4_put 8 = .ok (.iload 4, 2) := by decide +kernel
theorem dX4_put_10 : decode cX4_put 10 = .ok (.iload_n 2, 1) := by decide +kernel
theorem dX4_put_11 : decode cX4_put 11 = .ok (.if_icmp .le 29, 3) := by decide +kernel
theorem dX4_put_40 : decode cX4_put 40 = .ok (.aload_n 0, 1) := by decide +kernel
theorem dX4_put_41 : decode cX4_put 41 = .ok (.getfield 11, 3) := by decide +kernel
theorem dX4_put_44 : decode cX4_put 44 = .ok (.iload_n 1, 1) := by decide +kernel
theorem dX4_put_45 : decode cX4_put 45 = .ok (.aaload, 1) := by decide +kernel
theorem dX4_put_46 : decode cX4_put 46 = .ok (.iload_n 2, 1) := by decide +kernel
theorem dX4_put_47 : decode cX4_put 47 = .ok (.iload_n 3, 1) := by decide +kernel
theorem dX4_put_48 : decode cX4_put 48 = .ok (.iastore, 1) := by decide +kernel
theorem dX4_put_49 : decode cX4_put 49 = .ok (.aload_n 0, 1) := by decide +kernel
theorem dX4_put_50 : decode cX4_put 50 = .ok (.getfield 14, 3) := by decide +kernel
theorem dX4_put_53 : decode cX4_put 53 = .ok (.iload_n 1, 1) := by decide +kernel
theorem dX4_put_54 : decode cX4_put 54 = .ok (.dup2, 1) := by decide +kernel
theorem dX4_put_55 : decode cX4_put 55 = .ok (.iaload, 1) := by decide +kernel
theorem dX4_put_56 : decode cX4_put 56 = .ok (.iconst 1, 1) := by decide +kernel
theorem dX4_put_57 : decode cX4_put 57 = .ok (.iadd, 1) := by decide +kernel
theorem dX4_put_58 : decode cX4_put 58 = .ok (.iastore, 1) := by decide +kernel
theorem dX4_put_59 : decode cX4_put 59 = .ok (.return_, 1) := by decide +kernel
theorem dX4_addMany_0 : decode cX4_addMany 0 = .ok (.iconst 0, 1) := by decide +kernel
theorem dX4_addMany_1 : decode cX4_addMany 1 = .ok (.istore 4, 2) := by decide +kernel
theorem dX4_addMany_3 : decode cX4_addMany 3 = .ok (.iload 4, 2) := by decide +kernel
theorem dX4_addMany_5 : decode cX4_addMany 5 = .ok (.iload_n 2, 1) := by decide +kernel
theorem dX4_addMany_6 : decode cX4_addMany 6 = .ok (.if_icmp .ge 21, 3) := by decide +kernel
theorem dX4_addMany_9 : decode cX4_addMany 9 = .ok (.aload_n 0, 1) := by decide +kernel
theorem dX4_addMany_10 : decode cX4_addMany 10 = .ok (.iload_n 1, 1) := by decide +kernel
theorem dX4_addMany_11 : decode cX4_addMany 11 = .ok (.aload_n 0, 1) := by decide +kernel
theorem dX4_addMany_12 : decode cX4_addMany 12 = .ok (.getfield 14, 3) := by decide +kernel
theorem dX4_addMany_15 : decode cX4_addMany 15 = .ok (.iload_n 1, 1) := by decide +kernel
theorem dX4_addMany_16 : decode cX4_addMany 16 = .ok (.iaload, 1) := by decide +kernel
theorem dX4_addMany_17 : decode cX4_addMany 17 = .ok (.iload_n 3, 1) := by decide +kernel
theorem dX4_addMany_18 : decode cX4_addMany 18 = .ok (.invokevirtual 52, 3) := by decide +kernel
theorem dX4_addMany_21 : decode cX4_addMany 21 = .ok (.iinc 4 1, 3) := by decide +kernel
theorem dX4_addMany_24 : decode cX4_addMany 24 = .ok (.goto (-21), 3) := by decide +kernel
theorem dX4_addMany_27 : decode cX4_addMany 27 = .ok (.aload_n 0, 1) := by decide +kernel
theorem dX4_addMany_28 : decode cX4_addMany 28 = .ok (.getfield 18, 3) := by decide +kernel
theorem dX4_addMany_31 : decode cX4_addMany 31 = .ok (.iload_n 1, 1) := by decide +kernel
theorem dX4_addMany_32 : decode cX4_addMany 32 = .ok (.iconst 0, 1) := by decide +kernel
theorem dX4_addMany_33 : decode cX4_addMany 33 = .ok (.iastore, 1) := by decide +kernel
theorem dX4_addMany_34 : decode cX4_addMany 34 = .ok (.iload_n 2, 1) := by decide +kernel
theorem dX4_addMany_35 : decode cX4_addMany 35 = .ok (.ifCond .le 8, 3) := by decide +kernel
theorem dX4_addMany_38 : decode cX4_addMany 38 = .ok (.aload_n 0, 1) := by decide +kernel
theorem dX4_addMany_39 : decode cX4_addMany 39 = .ok (.iload_n 1, 1) := by decide +kernel
theorem dX4_addMany_40 : decode cX4_addMany 40 = .ok (.invokevirtual 56, 3) := by decide +kernel
theorem dX4_addMany_43 : decode cX4_addMany 43 = .ok (.aload_n 0, 1) := by decide +kernel
theorem dX4_addMany_44 : decode cX4_addMany 44 = .ok (.getfield 14, 3) := by decide +kernel
theorem dX4_addMany_47 : decode cX4_addMany 47 = .ok (.iload_n 1, 1) := by decide +kernel
theorem dX4_addMany_48 : decode cX4_addMany 48 = .ok (.iaload, 1) := by decide +kernel
theorem dX4_addMany_49 : decode cX4_addMany 49 = .ok (.ireturn, 1) := by decide +kernel
theorem dX4_addCopies_0 : decode cX4_addCopies 0 = .ok (.aload_n 0, 1) := by decide +kernel
theorem dX4_addCopies_1 : decode cX4_addCopies 1 = .ok (.iload_n 1, 1) := by decide +kernel
theorem dX4_addCopies_2 : decode cX4_addCopies 2 = .ok (.invokestatic 44, 3) := by decide +kernel
theorem dX4_addCopies_5 : decode cX4_addCopies 5 = .ok (.iload_n 2, 1) := by decide +kernel
theorem dX4_addCopies_6 : decode cX4_addCopies 6 = .ok (.iconst 0, 1) := by decide +kernel
theorem dX4_addCopies_7 : decode cX4_addCopies 7 = .ok (.bipush 31, 2) := by decide +kernel
theorem dX4_addCopies_9 : decode cX4_addCopies 9 = .ok (.invokestatic 40, 3) := by decide +kernel
theorem dX4_addCopies_12 : decode cX4_addCopies 12 = .ok (.ifCond .eq 12, 3) := by decide +kernel
theorem dX4_addCopies_15 : decode cX4_addCopies 15 = .ok (.iload_n 3, 1) := by decide +kernel
theorem dX4_addCopies_16 : decode cX4_addCopies 16 = .ok (.iload 4, 2) := by decide +kernel
theorem dX4_addCopies_18 : decode cX4_addCopies 18 = .ok (.invokestatic 59, 3) := by decide +kernel
theorem dX4_addCopies_21 : decode cX4_addCopies 21 = .ok (.ifCond .eq 7, 3) := by decide +kernel
theorem dX4_addCopies_28 : decode cX4_addCopies 28 = .ok (.iconst 0, 1) := by decide +kernel
theorem dX4_addCopies_29 : decode cX4_addCopies 29 = .ok (.iload_n 1, 1) := by decide +kernel
theorem dX4_addCopies_30 : decode cX4_addCopies 30 = .ok (.invokestatic 44, 3) := by decide +kernel
theorem dX4_addCopies_33 : decode cX4_addCopies 33 = .ok (.ifCond .ne 20, 3) := by decide +kernel
theorem dX4_addCopies_36 : decode cX4_addCopies 36 = .ok (.aload_n 0, 1) := by decide +kernel
theorem dX4_addCopies_37 : decode cX4_addCopies 37 = .ok (.getfield 14, 3) := by decide +kernel
theorem dX4_addCopies_40 : decode cX4_addCopies 40 = .ok (.iload_n 1, 1) := by decide +kernel
theorem dX4_addCopies_41 : decode cX4_addCopies 41 = .ok (.iaload, 1) := by decide +kernel
theorem dX4_addCopies_42 : decode cX4_addCopies 42 = .ok (.iload_n 2, 1) := by decide +kernel
theorem dX4_addCopies_43 : decode cX4_addCopies 43 = .ok (.iadd, 1) := by decide +kernel
theorem dX4_addCopies_44 : decode cX4_addCopies 44 = .ok (.bipush 31, 2) := by decide +kernel
theorem dX4_addCopies_46 : decode cX4_addCopies 46 = .ok (.if_icmp .le 7, 3) := by decide +kernel
theorem dX4_addCopies_53 : decode cX4_addCopies 53 = .ok (.iconst 0, 1) := by decide +kernel
theorem dX4_addCopies_54 : decode cX4_addCopies 54 = .ok (.invokevirtual 63, 3) := by decide +kernel
theorem dX4_addCopies_57 : decode cX4_addCopies 57 = .ok (.ifCond .eq 19, 3) := by decide +kernel
theorem dX4_addCopies_60 : decode cX4_addCopies 60 = .ok (.aload_n 0, 1) := by decide +kernel
theorem dX4_addCopies_61 : decode cX4_addCopies 61 = .ok (.iload_n 1, 1) := by decide +kernel
theorem dX4_addCopies_62 : decode cX4_addCopies 62 = .ok (.iload_n 2, 1) := by decide +kernel
theorem dX4_addCopies_63 : decode cX4_addCopies 63 = .ok (.bipush 10, 2) := by decide +kernel
theorem dX4_addCopies_65 : decode cX4_addCopies 65 = .ok (.iload_n 3, 1) := by decide +kernel
theorem dX4_addCopies_66 : decode cX4_addCopies 66 = .ok (.imul, 1) := by decide +kernel
theorem dX4_addCopies_67 : decode cX4_addCopies 67 = .ok (.iload 4, 2) := by decide +kernel
theorem dX4_addCopies_69 : decode cX4_addCopies 69 = .ok (.iadd, 1) := by decide +kernel
theorem dX4_addCopies_70 : decode cX4_addCopies 70 = .ok (.invokevirtual 67, 3) := by decide +kernel
theorem dX4_addCopies_73 : decode cX4_addCopies 73 = .ok (.goto 4, 3) := by decide +kernel
theorem dX4_addCopies_77 : decode cX4_addCopies 77 = .ok (.ireturn, 1) := by decide +kernel
theorem dX4_push_0 : decode cX4_push 0 = .ok (.bipush 31, 2) := by decide +kernel
theorem dX4_push_2 : decode cX4_push 2 = .ok (.newarray .int, 2) := by decide +kernel
theorem dX4_push_4 : decode cX4_push 4 = .ok (.astore 4, 2) := by decide +kernel
theorem dX4_push_6 : decode cX4_push 6 = .ok (.iload_n 1, 1) := by decide +kernel
theorem dX4_push_7 : decode cX4_push 7 = .ok (.istore 5, 2) := by decide +kernel
theorem dX4_push_9 : decode cX4_push 9 = .ok (.iload 5, 2) := by decide +kernel
theorem dX4_push_11 : decode cX4_push 11 = .ok (.iload_n 2, 1) := by decide +kernel
theorem dX4_push_12 : decode cX4_push 12 = .ok (.if_icmp .ge 18, 3) := by decide +kernel
theorem dX4_push_15 : decode cX4_push 15 = .ok (.aload 4, 2) := by decide +kernel
theorem dX4_push_17 : decode cX4_push 17 = .ok (.iload 5, 2) := by decide +kernel
theorem dX4_push_19 : decode cX4_push 19 = .ok (.aload_n 0, 1) := by decide +kernel
theorem dX4_push_20 : decode cX4_push 20 = .ok (.iload 5, 2) := by decide +kernel
theorem dX4_push_22 : decode cX4_push 22 = .ok (.iaload, 1) := by decide +kernel
theorem dX4_push_23 : decode cX4_push 23 = .ok (.iastore, 1) := by decide +kernel
theorem dX4_push_24 : decode cX4_push 24 = .ok (.iinc 5 1, 3) := by decide +kernel
theorem dX4_push_27 : decode cX4_push 27 = .ok (.goto (-18), 3) := by decide +kernel
theorem dX4_push_30 : decode cX4_push 30 = .ok (.iload_n 2, 1) := by decide +kernel
theorem dX4_push_31 : decode cX4_push 31 = .ok (.iload_n 1, 1) := by decide +kernel
theorem dX4_push_32 : decode cX4_push 32 = .ok (.isub, 1) := by decide +kernel
theorem dX4_push_33 : decode cX4_push 33 = .ok (.istore 5, 2) := by decide +kernel
theorem dX4_push_35 : decode cX4_push 35 = .ok (.iconst 0, 1) := by decide +kernel
theorem dX4_push_36 : decode cX4_push 36 = .ok (.istore 6, 2) := by decide +kernel
theorem dX4_push_38 : decode cX4_push 38 = .ok (.iload 6, 2) := by decide +kernel
theorem dX4_push_40 : decode cX4_push 40 = .ok (.iload 5, 2) := by decide +kernel
theorem dX4_push_42 : decode cX4_push 42 = .ok (.if_icmp .ge 48, 3) := by decide +kernel
theorem dX4_push_45 : decode cX4_push 45 = .ok (.iload 6, 2) := by decide +kernel
theorem dX4_push_47 : decode cX4_push 47 = .ok (.i2l, 1) := by decide +kernel
theorem dX4_push_48 : decode cX4_push 48 = .ok (.iload_n 3, 1) := by decide +kernel
theorem dX4_push_49 : decode cX4_push 49 = .ok (.i2l, 1) := by decide +kernel
theorem dX4_push_50 : decode cX4_push 50 = .ok (.ladd, 1) := by decide +kernel
theorem dX4_push_51 : decode cX4_push 51 = .ok (.iload 5, 2) := by decide +kernel
theorem dX4_push_53 : decode cX4_push 53 = .ok (.i2l, 1) := by decide +kernel
theorem dX4_push_54 : decode cX4_push 54 = .ok (.lrem, 1) := by decide +kernel
theorem dX4_push_55 : decode cX4_push 55 = .ok (.l2i, 1) := by decide +kernel
theorem dX4_push_56 : decode cX4_push 56 = .ok (.istore 7, 2) := by decide +kernel
theorem dX4_push_58 : decode cX4_push 58 = .ok (.aload_n 0, 1) := by decide +kernel
theorem dX4_push_59 : decode cX4_push 59 = .ok (.iload_n 1, 1) := by decide +kernel
theorem dX4_push_60 : decode cX4_push 60 = .ok (.iload 7, 2) := by decide +kernel
theorem dX4_push_62 : decode cX4_push 62 = .ok (.ifCond .ge 11, 3) := by decide +kernel
theorem dX4_push_65 : decode cX4_push 65 = .ok (.iload 7, 2) := by decide +kernel
theorem dX4_push_67 : decode cX4_push 67 = .ok (.iload 5, 2) := by decide +kernel
theorem dX4_push_69 : decode cX4_push 69 = .ok (.iadd, 1) := by decide +kernel
theorem dX4_push_70 : decode cX4_push 70 = .ok (.goto 5, 3) := by decide +kernel
theorem dX4_push_73 : decode cX4_push 73 = .ok (.iload 7, 2) := by decide +kernel
theorem dX4_push_75 : decode cX4_push 75 = .ok (.iadd, 1) := by decide +kernel
theorem dX4_push_76 : decode cX4_push 76 = .ok (.aload 4, 2) := by decide +kernel
theorem dX4_push_78 : decode cX4_push 78 = .ok (.iload_n 1, 1) := by decide +kernel
theorem dX4_push_79 : decode cX4_push 79 = .ok (.iload 6, 2) := by decide +kernel
theorem dX4_push_81 : decode cX4_push 81 = .ok (.iadd, 1) := by decide +kernel
theorem dX4_push_82 : decode cX4_push 82 = .ok (.iaload, 1) := by decide +kernel
theorem dX4_push_83 : decode cX4_push 83 = .ok (.iastore, 1) := by decide +kernel
theorem dX4_push_84 : decode cX4_push 84 = .ok (.iinc 6 1, 3) := by decide +kernel
theorem dX4_push_87 : decode cX4_push 87 = .ok (.goto (-49), 3) := by decide +kernel
theorem dX4_push_90 : decode cX4_push 90 = .ok (.return_, 1) := by decide +kernel
theorem dX4_turn_0 : decode cX4_turn 0 = .ok (.bipush 31, 2) := by decide +kernel
theorem dX4_turn_2 : decode cX4_turn 2 = .ok (.newarray .int, 2) := by decide +kernel
theorem dX4_turn_4 : decode cX4_turn 4 = .ok (.astore_n 3, 1) := by decide +kernel
theorem dX4_turn_5 : decode cX4_turn 5 = .ok (.iload_n 1, 1) := by decide +kernel
theorem dX4_turn_6 : decode cX4_turn 6 = .ok (.istore 4, 2) := by decide +kernel
theorem dX4_turn_8 : decode cX4_turn 8 = .ok (.iload 4, 2) := by decide +kernel
theorem dX4_turn_10 : decode cX4_turn 10 = .ok (.iload_n 2, 1) := by decide +kernel
theorem dX4_turn_11 : decode cX4_turn 11 = .ok (.if_icmp .ge 17, 3) := by decide +kernel
theorem dX4_turn_14 : decode cX4_turn 14 = .ok (.aload_n 3, 1) := by decide +kernel
theorem dX4_turn_15 : decode cX4_turn 15 = .ok (.iload 4, 2) := by decide +kernel
theorem dX4_turn_17 : decode cX4_turn 17 = .ok (.aload_n 0, 1) := by decide +kernel
theorem dX4_turn_18 : decode cX4_turn 18 = .ok (.iload 4, 2) := by decide +kernel
theorem dX4_turn_20 : decode cX4_turn 20 = .ok (.iaload, 1) := by decide +kernel
theorem dX4_turn_21 : decode cX4_turn 21 = .ok (.iastore, 1) := by decide +kernel
theorem dX4_turn_22 : decode cX4_turn 22 = .ok (.iinc 4 1, 3) := by decide +kernel
theorem dX4_turn_25 : decode cX4_turn 25 = .ok (.goto (-17), 3) := by decide +kernel
theorem dX4_turn_28 : decode cX4_turn 28 = .ok (.iload_n 1, 1) := by decide +kernel
theorem dX4_turn_29 : decode cX4_turn 29 = .ok (.istore 4, 2) := by decide +kernel
theorem dX4_turn_31 : decode cX4_turn 31 = .ok (.iload 4, 2) := by decide +kernel
theorem dX4_turn_33 : decode cX4_turn 33 = .ok (.iload_n 2, 1) := by decide +kernel
theorem dX4_turn_34 : decode cX4_turn 34 = .ok (.if_icmp .ge 23, 3) := by decide +kernel
theorem dX4_turn_37 : decode cX4_turn 37 = .ok (.aload_n 0, 1) := by decide +kernel
theorem dX4_turn_38 : decode cX4_turn 38 = .ok (.iload 4, 2) := by decide +kernel
theorem dX4_turn_40 : decode cX4_turn 40 = .ok (.aload_n 3, 1) := by decide +kernel
theorem dX4_turn_41 : decode cX4_turn 41 = .ok (.iload_n 2, 1) := by decide +kernel
theorem dX4_turn_42 : decode cX4_turn 42 = .ok (.iconst 1, 1) := by decide +kernel
theorem dX4_turn_43 : decode cX4_turn 43 = .ok (.isub, 1) := by decide +kernel
theorem dX4_turn_44 : decode cX4_turn 44 = .ok (.iload 4, 2) := by decide +kernel
theorem dX4_turn_46 : decode cX4_turn 46 = .ok (.iload_n 1, 1) := by decide +kernel
theorem dX4_turn_47 : decode cX4_turn 47 = .ok (.isub, 1) := by decide +kernel
theorem dX4_turn_48 : decode cX4_turn 48 = .ok (.isub, 1) := by decide +kernel
theorem dX4_turn_49 : decode cX4_turn 49 = .ok (.iaload, 1) := by decide +kernel
theorem dX4_turn_50 : decode cX4_turn 50 = .ok (.iastore, 1) := by decide +kernel
theorem dX4_turn_51 : decode cX4_turn 51 = .ok (.iinc 4 1, 3) := by decide +kernel
theorem dX4_turn_54 : decode cX4_turn 54 = .ok (.goto (-23), 3) := by decide +kernel
theorem dX4_turn_57 : decode cX4_turn 57 = .ok (.return_, 1) := by decide +kernel
theorem dX4_sort_0 : decode cX4_sort 0 = .ok (.iload_n 1, 1) := by decide +kernel
theorem dX4_sort_1 : decode cX4_sort 1 = .ok (.istore 4, 2) := by decide +kernel
theorem dX4_sort_3 : decode cX4_sort 3 = .ok (.iload 4, 2) := by decide +kernel
theorem dX4_sort_5 : decode cX4_sort 5 = .ok (.iload_n 2, 1) := by decide +kernel
theorem dX4_sort_6 : decode cX4_sort 6 = .ok (.if_icmp .ge 115, 3) := by decide +kernel
theorem dX4_sort_9 : decode cX4_sort 9 = .ok (.iload 4, 2) := by decide +kernel
theorem dX4_sort_11 : decode cX4_sort 11 = .ok (.istore 5, 2) := by decide +kernel
theorem dX4_sort_13 : decode cX4_sort 13 = .ok (.iload 4, 2) := by decide +kernel
theorem dX4_sort_15 : decode cX4_sort 15 = .ok (.iconst 1, 1) := by decide +kernel
theorem dX4_sort_16 : decode cX4_sort 16 = .ok (.iadd, 1) := by decide +kernel
theorem dX4_sort_17 : decode cX4_sort 17 = .ok (.istore 6, 2) := by decide +kernel
theorem dX4_sort_19 : decode cX4_sort 19 = .ok (.iload 6, 2) := by decide +kernel
theorem dX4_sort_21 : decode cX4_sort 21 = .ok (.iload_n 2, 1) := by decide +kernel
theorem dX4_sort_22 : decode cX4_sort 22 = .ok (.if_icmp .ge 54, 3) := by decide +kernel
theorem dX4_sort_25 : decode cX4_sort 25 = .ok (.iload_n 3, 1) := by decide +kernel
theorem dX4_sort_26 : decode cX4_sort 26 = .ok (.ifCond .eq 23, 3) := by decide +kernel
theorem dX4_sort_49 : decode cX4_sort 49 = .ok (.aload_n 0, 1) := by decide +kernel
theorem dX4_sort_50 : decode cX4_sort 50 = .ok (.iload 6, 2) := by decide +kernel
theorem dX4_sort_52 : decode cX4_sort 52 = .ok (.iaload, 1) := by decide +kernel
theorem dX4_sort_53 : decode cX4_sort 53 = .ok (.bipush 10, 2) := by decide +kernel
theorem dX4_sort_55 : decode cX4_sort 55 = .ok (.idiv, 1) := by decide +kernel
theorem dX4_sort_56 : decode cX4_sort 56 = .ok (.aload_n 0, 1) := by decide +kernel
theorem dX4_sort_57 : decode cX4_sort 57 = .ok (.iload 5, 2) := by decide +kernel
theorem dX4_sort_59 : decode cX4_sort 59 = .ok (.iaload, 1) := by decide +kernel
theorem dX4_sort_60 : decode cX4_sort 60 = .ok (.bipush 10, 2) := by decide +kernel
theorem dX4_sort_62 : decode cX4_sort 62 = .ok (.idiv, 1) := by decide +kernel
theorem dX4_sort_63 : decode cX4_sort 63 = .ok (.if_icmp .ge 7, 3) := by decide +kernel
theorem dX4_sort_70 : decode cX4_sort 70 = .ok (.iinc 6 1, 3) := by decide +kernel
theorem dX4_sort_73 : decode cX4_sort 73 = .ok (.goto (-54), 3) := by decide +kernel
theorem dX4_sort_76 : decode cX4_sort 76 = .ok (.aload_n 0, 1) := by decide +kernel
theorem dX4_sort_77 : decode cX4_sort 77 = .ok (.iload 5, 2) := by decide +kernel
theorem dX4_sort_79 : decode cX4_sort 79 = .ok (.iaload, 1) := by decide +kernel
theorem dX4_sort_80 : decode cX4_sort 80 = .ok (.istore 6, 2) := by decide +kernel
theorem dX4_sort_82 : decode cX4_sort 82 = .ok (.iload 5, 2) := by decide +kernel
theorem dX4_sort_84 : decode cX4_sort 84 = .ok (.istore 7, 2) := by decide +kernel
theorem dX4_sort_86 : decode cX4_sort 86 = .ok (.iload 7, 2) := by decide +kernel
theorem dX4_sort_88 : decode cX4_sort 88 = .ok (.iload 4, 2) := by decide +kernel
theorem dX4_sort_90 : decode cX4_sort 90 = .ok (.if_icmp .le 19, 3) := by decide +kernel
theorem dX4_sort_109 : decode cX4_sort 109 = .ok (.aload_n 0, 1) := by decide +kernel
theorem dX4_sort_110 : decode cX4_sort 110 = .ok (.iload 4, 2) := by decide +kernel
theorem dX4_sort_112 : decode cX4_sort 112 = .ok (.iload 6, 2) := by decide +kernel
theorem dX4_sort_114 : decode cX4_sort 114 = .ok (.iastore, 1) := by decide +kernel
theorem dX4_sort_115 : decode cX4_sort 115 = .ok (.iinc 4 1, 3) := by decide +kernel
theorem dX4_sort_118 : decode cX4_sort 118 = .ok (.goto (-115), 3) := by decide +kernel
theorem dX4_sort_121 : decode cX4_sort 121 = .ok (.return_, 1) := by decide +kernel
theorem dX4_textOf_0 : decode cX4_textOf 0 = .ok (.ldc 100, 2) := by decide +kernel
theorem dX4_textOf_2 : decode cX4_textOf 2 = .ok (.astore 4, 2) := by decide +kernel
theorem dX4_textOf_4 : decode cX4_textOf 4 = .ok (.iload_n 2, 1) := by decide +kernel
theorem dX4_textOf_5 : decode cX4_textOf 5 = .ok (.istore 5, 2) := by decide +kernel
theorem dX4_textOf_7 : decode cX4_textOf 7 = .ok (.iload 5, 2) := by decide +kernel
theorem dX4_textOf_9 : decode cX4_textOf 9 = .ok (.iload_n 3, 1) := by decide +kernel
theorem dX4_textOf_10 : decode cX4_textOf 10 = .ok (.if_icmp .ge 77, 3) := by decide +kernel
theorem dX4_textOf_13 : decode cX4_textOf 13 = .ok (.new 102, 3) := by decide +kernel
theorem dX4_textOf_16 : decode cX4_textOf 16 = .ok (.dup, 1) := by decide +kernel
theorem dX4_textOf_17 : decode cX4_textOf 17 = .ok (.invokespecial 104, 3) := by decide +kernel
theorem dX4_textOf_20 : decode cX4_textOf 20 = .ok (.aload 4, 2) := by decide +kernel
theorem dX4_textOf_22 : decode cX4_textOf 22 = .ok (.invokevirtual 105, 3) := by decide +kernel
theorem dX4_textOf_25 : decode cX4_textOf 25 = .ok (.iload 5, 2) := by decide +kernel
theorem dX4_textOf_27 : decode cX4_textOf 27 = .ok (.iload_n 2, 1) := by decide +kernel
theorem dX4_textOf_28 : decode cX4_textOf 28 = .ok (.if_icmp .le 8, 3) := by decide +kernel
theorem dX4_textOf_31 : decode cX4_textOf 31 = .ok (.ldc 109, 2) := by decide +kernel
theorem dX4_textOf_33 : decode cX4_textOf 33 = .ok (.goto 5, 3) := by decide +kernel
theorem dX4_textOf_36 : decode cX4_textOf 36 = .ok (.ldc 111, 2) := by decide +kernel
theorem dX4_textOf_38 : decode cX4_textOf 38 = .ok (.invokevirtual 105, 3) := by decide +kernel
theorem dX4_textOf_41 : decode cX4_textOf 41 = .ok (.aload_n 0, 1) := by decide +kernel
theorem dX4_textOf_42 : decode cX4_textOf 42 = .ok (.getfield 11, 3) := by decide +kernel
theorem dX4_textOf_45 : decode cX4_textOf 45 = .ok (.iload_n 1, 1) := by decide +kernel
theorem dX4_textOf_46 : decode cX4_textOf 46 = .ok (.aaload, 1) := by decide +kernel
theorem dX4_textOf_47 : decode cX4_textOf 47 = .ok (.iload 5, 2) := by decide +kernel
theorem dX4_textOf_49 : decode cX4_textOf 49 = .ok (.iaload, 1) := by decide +kernel
theorem dX4_textOf_50 : decode cX4_textOf 50 = .ok (.bipush 10, 2) := by decide +kernel
theorem dX4_textOf_52 : decode cX4_textOf 52 = .ok (.idiv, 1) := by decide +kernel
theorem dX4_textOf_53 : decode cX4_textOf 53 = .ok (.invokevirtual 113, 3) := by decide +kernel
theorem dX4_textOf_56 : decode cX4_textOf 56 = .ok (.ldc 116, 2) := by decide +kernel
theorem dX4_textOf_58 : decode cX4_textOf 58 = .ok (.invokevirtual 105, 3) := by decide +kernel
theorem dX4_textOf_61 : decode cX4_textOf 61 = .ok (.aload_n 0, 1) := by decide +kernel
theorem dX4_textOf_62 : decode cX4_textOf 62 = .ok (.getfield 11, 3) := by decide +kernel
theorem dX4_textOf_65 : decode cX4_textOf 65 = .ok (.iload_n 1, 1) := by decide +kernel
theorem dX4_textOf_66 : decode cX4_textOf 66 = .ok (.aaload, 1) := by decide +kernel
theorem dX4_textOf_67 : decode cX4_textOf 67 = .ok (.iload 5, 2) := by decide +kernel
theorem dX4_textOf_69 : decode cX4_textOf 69 = .ok (.iaload, 1) := by decide +kernel
theorem dX4_textOf_70 : decode cX4_textOf 70 = .ok (.bipush 10, 2) := by decide +kernel
theorem dX4_textOf_72 : decode cX4_textOf 72 = .ok (.irem, 1) := by decide +kernel
theorem dX4_textOf_73 : decode cX4_textOf 73 = .ok (.invokevirtual 113, 3) := by decide +kernel
theorem dX4_textOf_76 : decode cX4_textOf 76 = .ok (.invokevirtual 118, 3) := by decide +kernel
theorem dX4_textOf_79 : decode cX4_textOf 79 = .ok (.astore 4, 2) := by decide +kernel
theorem dX4_textOf_81 : decode cX4_textOf 81 = .ok (.iinc 5 1, 3) := by decide +kernel
theorem dX4_textOf_84 : decode cX4_textOf 84 = .ok (.goto (-77), 3) := by decide +kernel
theorem dX4_textOf_87 : decode cX4_textOf 87 = .ok (.new 102, 3) := by decide +kernel
theorem dX4_textOf_90 : decode cX4_textOf 90 = .ok (.dup, 1) := by decide +kernel
theorem dX4_textOf_91 : decode cX4_textOf 91 = .ok (.invokespecial 104, 3) := by decide +kernel
theorem dX4_textOf_94 : decode cX4_textOf 94 = .ok (.aload 4, 2) := by decide +kernel
theorem dX4_textOf_96 : decode cX4_textOf 96 = .ok (.invokevirtual 105, 3) := by decide +kernel
theorem dX4_textOf_99 : decode cX4_textOf 99 = .ok (.ldc 122, 2) := by decide +kernel
theorem dX4_textOf_101 : decode cX4_textOf 101 = .ok (.invokevirtual 105, 3) := by decide +kernel
theorem dX4_textOf_104 : decode cX4_textOf 104 = .ok (.invokevirtual 118, 3) := by decide +kernel
theorem dX4_textOf_107 : decode cX4_textOf 107 = .ok (.areturn, 1) := by decide +kernel
theorem dX4_count_0 : decode cX4_count 0 = .ok (.iconst 0, 1) := by decide +kernel
theorem dX4_count_1 : decode cX4_count 1 = .ok (.istore_n 3, 1) := by decide +kernel
theorem dX4_count_2 : decode cX4_count 2 = .ok (.iconst 0, 1) := by decide +kernel
theorem dX4_count_3 : decode cX4_count 3 = .ok (.istore 4, 2) := by decide +kernel
theorem dX4_count_5 : decode cX4_count 5 = .ok (.iload 4, 2) := by decide +kernel
theorem dX4_count_7 : decode cX4_count 7 = .ok (.aload_n 0, 1) := by decide +kernel
theorem dX4_count_8 : decode cX4_count 8 = .ok (.getfield 14, 3) := by decide +kernel
theorem dX4_count_11 : decode cX4_count 11 = .ok (.iload_n 1, 1) := by decide +kernel
theorem dX4_count_12 : decode cX4_count 12 = .ok (.iaload, 1) := by decide +kernel
theorem dX4_count_13 : decode cX4_count 13 = .ok (.if_icmp .ge 33, 3) := by decide +kernel
theorem dX4_count_16 : decode cX4_count 16 = .ok (.iload_n 3, 1) := by decide +kernel
theorem dX4_count_17 : decode cX4_count 17 = .ok (.aload_n 0, 1) := by decide +kernel
theorem dX4_count_18 : decode cX4_count 18 = .ok (.getfield 11, 3) := by decide +kernel
theorem dX4_count_21 : decode cX4_count 21 = .ok (.iload_n 1, 1) := by decide +kernel
theorem dX4_count_22 : decode cX4_count 22 = .ok (.aaload, 1) := by decide +kernel
theorem dX4_count_23 : decode cX4_count 23 = .ok (.iload 4, 2) := by decide +kernel
theorem dX4_count_25 : decode cX4_count 25 = .ok (.iaload, 1) := by decide +kernel
theorem dX4_count_26 : decode cX4_count 26 = .ok (.iload_n 2, 1) := by decide +kernel
theorem dX4_count_27 : decode cX4_count 27 = .ok (.if_icmp .ne 7, 3) := by decide +kernel
theorem dX4_count_30 : decode cX4_count 30 = .ok (.iconst 1, 1) := by decide +kernel
theorem dX4_count_31 : decode cX4_count 31 = .ok (.goto 4, 3) := by decide +kernel
theorem dX4_count_35 : decode cX4_count 35 = .ok (.invokestatic 128, 3) := by decide +kernel
theorem dX4_count_38 : decode cX4_count 38 = .ok (.iadd, 1) := by decide +kernel
theorem dX4_count_39 : decode cX4_count 39 = .ok (.istore_n 3, 1) := by decide +kernel
theorem dX4_count_40 : decode cX4_count 40 = .ok (.iinc 4 1, 3) := by decide +kernel
theorem dX4_count_43 : decode cX4_count 43 = .ok (.goto (-38), 3) := by decide +kernel
theorem dX4_count_46 : decode cX4_count 46 = .ok (.iload_n 3, 1) := by decide +kernel
theorem dX4_count_47 : decode cX4_count 47 = .ok (.ireturn, 1) := by decide +kernel
theorem dX4_areApart_0 : decode cX4_areApart 0 = .ok (.iconst 1, 1) := by decide +kernel
theorem dX4_areApart_1 : decode cX4_areApart 1 = .ok (.istore_n 3, 1) := by decide +kernel
theorem dX4_areApart_2 : decode cX4_areApart 2 = .ok (.iconst 0, 1) := by decide +kernel
theorem dX4_areApart_3 : decode cX4_areApart 3 = .ok (.istore 4, 2) := by decide +kernel
theorem dX4_areApart_5 : decode cX4_areApart 5 = .ok (.iload 4, 2) := by decide +kernel
theorem dX4_areApart_7 : decode cX4_areApart 7 = .ok (.aload_n 0, 1) := by decide +kernel
theorem dX4_areApart_8 : decode cX4_areApart 8 = .ok (.getfield 14, 3) := by decide +kernel
theorem dX4_areApart_11 : decode cX4_areApart 11 = .ok (.iload_n 1, 1) := by decide +kernel
theorem dX4_areApart_12 : decode cX4_areApart 12 = .ok (.iaload, 1) := by decide +kernel
theorem dX4_areApart_13 : decode cX4_areApart 13 = .ok (.if_icmp .ge 34, 3) := by decide +kernel
theorem dX4_areApart_16 : decode cX4_areApart 16 = .ok (.iload_n 3, 1) := by decide +kernel
theorem dX4_areApart_17 : decode cX4_areApart 17 = .ok (.aload_n 0, 1) := by decide +kernel
theorem dX4_areApart_18 : decode cX4_areApart 18 = .ok (.iload_n 2, 1) := by decide +kernel
theorem dX4_areApart_19 : decode cX4_areApart 19 = .ok (.aload_n 0, 1) := by decide +kernel
theorem dX4_areApart_20 : decode cX4_areApart 20 = .ok (.getfield 11, 3) := by decide +kernel
theorem dX4_areApart_23 : decode cX4_areApart 23 = .ok (.iload_n 1, 1) := by decide +kernel
theorem dX4_areApart_24 : decode cX4_areApart 24 = .ok (.aaload, 1) := by decide +kernel
theorem dX4_areApart_25 : decode cX4_areApart 25 = .ok (.iload 4, 2) := by decide +kernel
theorem dX4_areApart_27 : decode cX4_areApart 27 = .ok (.iaload, 1) := by decide +kernel
theorem dX4_areApart_28 : decode cX4_areApart 28 = .ok (.invokevirtual 132, 3) := by decide +kernel
theorem dX4_areApart_31 : decode cX4_areApart 31 = .ok (.ifCond .ne 7, 3) := by decide +kernel
theorem dX4_areApart_34 : decode cX4_areApart 34 = .ok (.iconst 1, 1) := by decide +kernel
theorem dX4_areApart_35 : decode cX4_areApart 35 = .ok (.goto 4, 3) := by decide +kernel
theorem dX4_areApart_38 : decode cX4_areApart 38 = .ok (.iconst 0, 1) := by decide +kernel
theorem dX4_areApart_39 : decode cX4_areApart 39 = .ok (.iand, 1) := by decide +kernel
theorem dX4_areApart_40 : decode cX4_areApart 40 = .ok (.istore_n 3, 1) := by decide +kernel
theorem dX4_areApart_41 : decode cX4_areApart 41 = .ok (.iinc 4 1, 3) := by decide +kernel
theorem dX4_areApart_44 : decode cX4_areApart 44 = .ok (.goto (-39), 3) := by decide +kernel
theorem dX4_areApart_47 : decode cX4_areApart 47 = .ok (.iload_n 3, 1) := by decide +kernel
theorem dX4_areApart_48 : decode cX4_areApart 48 = .ok (.ireturn, 1) := by decide +kernel
theorem dX4_placeOf_0 : decode cX4_placeOf 0 = .ok (.iload_n 1, 1) := by decide +kernel
theorem dX4_placeOf_1 : decode cX4_placeOf 1 = .ok (.istore 6, 2) := by decide +kernel
theorem dX4_placeOf_3 : decode cX4_placeOf 3 = .ok (.iload 6, 2) := by decide +kernel
theorem dX4_placeOf_5 : decode cX4_placeOf 5 = .ok (.iload 5, 2) := by decide +kernel
theorem dX4_placeOf_7 : decode cX4_placeOf 7 = .ok (.iadd, 1) := by decide +kernel
theorem dX4_placeOf_8 : decode cX4_placeOf 8 = .ok (.iload 4, 2) := by decide +kernel
theorem dX4_placeOf_10 : decode cX4_placeOf 10 = .ok (.isub, 1) := by decide +kernel
theorem dX4_placeOf_11 : decode cX4_placeOf 11 = .ok (.iload_n 2, 1) := by decide +kernel
theorem dX4_placeOf_12 : decode cX4_placeOf 12 = .ok (.if_icmp .gt 68, 3) := by decide +kernel
theorem dX4_placeOf_15 : decode cX4_placeOf 15 = .ok (.iconst 1, 1) := by decide +kernel
theorem dX4_placeOf_16 : decode cX4_placeOf 16 = .ok (.istore 7, 2) := by decide +kernel
theorem dX4_placeOf_18 : decode cX4_placeOf 18 = .ok (.iconst 0, 1) := by decide +kernel
theorem dX4_placeOf_19 : decode cX4_placeOf 19 = .ok (.istore 8, 2) := by decide +kernel
theorem dX4_placeOf_21 : decode cX4_placeOf 21 = .ok (.iload 8, 2) := by decide +kernel
theorem dX4_placeOf_23 : decode cX4_placeOf 23 = .ok (.iload 5, 2) := by decide +kernel
theorem dX4_placeOf_25 : decode cX4_placeOf 25 = .ok (.iload 4, 2) := by decide +kernel
theorem dX4_placeOf_27 : decode cX4_placeOf 27 = .ok (.isub, 1) := by decide +kernel
theorem dX4_placeOf_28 : decode cX4_placeOf 28 = .ok (.if_icmp .ge 36, 3) := by decide +kernel
theorem dX4_placeOf_31 : decode cX4_placeOf 31 = .ok (.iload 7, 2) := by decide +kernel
theorem dX4_placeOf_33 : decode cX4_placeOf 33 = .ok (.aload_n 0, 1) := by decide +kernel
theorem dX4_placeOf_34 : decode cX4_placeOf 34 = .ok (.iload 6, 2) := by decide +kernel
theorem dX4_placeOf_36 : decode cX4_placeOf 36 = .ok (.iload 8, 2) := by decide +kernel
theorem dX4_placeOf_38 : decode cX4_placeOf 38 = .ok (.iadd, 1) := by decide +kernel
theorem dX4_placeOf_39 : decode cX4_placeOf 39 = .ok (.iaload, 1) := by decide +kernel
theorem dX4_placeOf_40 : decode cX4_placeOf 40 = .ok (.aload_n 3, 1) := by decide +kernel
theorem dX4_placeOf_41 : decode cX4_placeOf 41 = .ok (.iload 4, 2) := by decide +kernel
theorem dX4_placeOf_43 : decode cX4_placeOf 43 = .ok (.iload 8, 2) := by decide +kernel
theorem dX4_placeOf_45 : decode cX4_placeOf 45 = .ok (.iadd, 1) := by decide +kernel
theorem dX4_placeOf_46 : decode cX4_placeOf 46 = .ok (.iaload, 1) := by decide +kernel
theorem dX4_placeOf_47 : decode cX4_placeOf 47 = .ok (.if_icmp .ne 7, 3) := by decide +kernel
theorem dX4_placeOf_50 : decode cX4_placeOf 50 = .ok (.iconst 1, 1) := by decide +kernel
theorem dX4_placeOf_51 : decode cX4_placeOf 51 = .ok (.goto 4, 3) := by decide +kernel
theorem dX4_placeOf_55 : decode cX4_placeOf 55 = .ok (.iand, 1) := by decide +kernel
theorem dX4_placeOf_56 : decode cX4_placeOf 56 = .ok (.istore 7, 2) := by decide +kernel
theorem dX4_placeOf_58 : decode cX4_placeOf 58 = .ok (.iinc 8 1, 3) := by decide +kernel
theorem dX4_placeOf_61 : decode cX4_placeOf 61 = .ok (.goto (-40), 3) := by decide +kernel
theorem dX4_placeOf_64 : decode cX4_placeOf 64 = .ok (.iload 7, 2) := by decide +kernel
theorem dX4_placeOf_66 : decode cX4_placeOf 66 = .ok (.ifCond .eq 8, 3) := by decide +kernel
theorem dX4_placeOf_69 : decode cX4_placeOf 69 = .ok (.iload 6, 2) := by decide +kernel
theorem dX4_placeOf_71 : decode cX4_placeOf 71 = .ok (.iload_n 1, 1) := by decide +kernel
theorem dX4_placeOf_72 : decode cX4_placeOf 72 = .ok (.isub, 1) := by decide +kernel
theorem dX4_placeOf_73 : decode cX4_placeOf 73 = .ok (.ireturn, 1) := by decide +kernel
theorem dX4_placeOf_80 : decode cX4_placeOf 80 = .ok (.iconst (-1), 1) := by decide +kernel
theorem dX4_placeOf_81 : decode cX4_placeOf 81 = .ok (.ireturn, 1) := by decide +kernel
theorem dX4_rowIn_0 : decode cX4_rowIn 0 = .ok (.aload_n 0, 1) := by decide +kernel
theorem dX4_rowIn_1 : decode cX4_rowIn 1 = .ok (.getfield 11, 3) := by decide +kernel
theorem dX4_rowIn_4 : decode cX4_rowIn 4 = .ok (.iload_n 1, 1) := by decide +kernel
theorem dX4_rowIn_5 : decode cX4_rowIn 5 = .ok (.aaload, 1) := by decide +kernel
theorem dX4_rowIn_6 : decode cX4_rowIn 6 = .ok (.iconst 0, 1) := by decide +kernel
theorem dX4_rowIn_7 : decode cX4_rowIn 7 = .ok (.aload_n 0, 1) := by decide +kernel
theorem dX4_rowIn_8 : decode cX4_rowIn 8 = .ok (.getfield 14, 3) := by decide +kernel
theorem dX4_rowIn_11 : decode cX4_rowIn 11 = .ok (.iload_n 1, 1) := by decide +kernel
theorem dX4_rowIn_12 : decode cX4_rowIn 12 = .ok (.iaload, 1) := by decide +kernel
theorem dX4_rowIn_13 : decode cX4_rowIn 13 = .ok (.aload_n 0, 1) := by decide +kernel
theorem dX4_rowIn_14 : decode cX4_rowIn 14 = .ok (.getfield 11, 3) := by decide +kernel
theorem dX4_rowIn_17 : decode cX4_rowIn 17 = .ok (.iload_n 2, 1) := by decide +kernel
theorem dX4_rowIn_18 : decode cX4_rowIn 18 = .ok (.aaload, 1) := by decide +kernel
theorem dX4_rowIn_19 : decode cX4_rowIn 19 = .ok (.iconst 0, 1) := by decide +kernel
theorem dX4_rowIn_20 : decode cX4_rowIn 20 = .ok (.aload_n 0, 1) := by decide +kernel
theorem dX4_rowIn_21 : decode cX4_rowIn 21 = .ok (.getfield 14, 3) := by decide +kernel
theorem dX4_rowIn_24 : decode cX4_rowIn 24 = .ok (.iload_n 2, 1) := by decide +kernel
theorem dX4_rowIn_25 : decode cX4_rowIn 25 = .ok (.iaload, 1) := by decide +kernel
theorem dX4_rowIn_26 : decode cX4_rowIn 26 = .ok (.invokestatic 138, 3) := by decide +kernel
theorem dX4_rowIn_29 : decode cX4_rowIn 29 = .ok (.ireturn, 1) := by decide +kernel
theorem dX4_mostOf_0 : decode cX4_mostOf 0 = .ok (.aload_n 0, 1) := by decide +kernel
theorem dX4_mostOf_1 : decode cX4_mostOf 1 = .ok (.getfield 14, 3) := by decide +kernel
theorem dX4_mostOf_4 : decode cX4_mostOf 4 = .ok (.iload_n 1, 1) := by decide +kernel
theorem dX4_mostOf_5 : decode cX4_mostOf 5 = .ok (.iaload, 1) := by decide +kernel
theorem dX4_mostOf_6 : decode cX4_mostOf 6 = .ok (.ifCond .ne 6, 3) := by decide +kernel
theorem dX4_mostOf_9 : decode cX4_mostOf 9 = .ok (.bipush (-9), 2) := by decide +kernel
theorem dX4_mostOf_11 : decode cX4_mostOf 11 = .ok (.ireturn, 1) := by decide +kernel
theorem dX4_mostOf_12 : decode cX4_mostOf 12 = .ok (.aload_n 0, 1) := by decide +kernel
theorem dX4_mostOf_13 : decode cX4_mostOf 13 = .ok (.getfield 11, 3) := by decide +kernel
theorem dX4_mostOf_16 : decode cX4_mostOf 16 = .ok (.iload_n 1, 1) := by decide +kernel
theorem dX4_mostOf_17 : decode cX4_mostOf 17 = .ok (.aaload, 1) := by decide +kernel
theorem dX4_mostOf_18 : decode cX4_mostOf 18 = .ok (.iconst 0, 1) := by decide +kernel
theorem dX4_mostOf_19 : decode cX4_mostOf 19 = .ok (.iaload, 1) := by decide +kernel
theorem dX4_mostOf_20 : decode cX4_mostOf 20 = .ok (.bipush 10, 2) := by decide +kernel
theorem dX4_mostOf_22 : decode cX4_mostOf 22 = .ok (.idiv, 1) := by decide +kernel
theorem dX4_mostOf_23 : decode cX4_mostOf 23 = .ok (.istore_n 3, 1) := by decide +kernel
theorem dX4_mostOf_24 : decode cX4_mostOf 24 = .ok (.iconst 1, 1) := by decide +kernel
theorem dX4_mostOf_25 : decode cX4_mostOf 25 = .ok (.istore 4, 2) := by decide +kernel
theorem dX4_mostOf_27 : decode cX4_mostOf 27 = .ok (.iload 4, 2) := by decide +kernel
theorem dX4_mostOf_29 : decode cX4_mostOf 29 = .ok (.aload_n 0, 1) := by decide +kernel
theorem dX4_mostOf_30 : decode cX4_mostOf 30 = .ok (.getfield 14, 3) := by decide +kernel
theorem dX4_mostOf_33 : decode cX4_mostOf 33 = .ok (.iload_n 1, 1) := by decide +kernel
theorem dX4_mostOf_34 : decode cX4_mostOf 34 = .ok (.iaload, 1) := by decide +kernel
theorem dX4_mostOf_35 : decode cX4_mostOf 35 = .ok (.if_icmp .ge 49, 3) := by decide +kernel
theorem dX4_mostOf_38 : decode cX4_mostOf 38 = .ok (.iload_n 2, 1) := by decide +kernel
theorem dX4_mostOf_39 : decode cX4_mostOf 39 = .ok (.ifCond .eq 22, 3) := by decide +kernel
theorem dX4_mostOf_42 : decode cX4_mostOf 42 = .ok (.iload_n 3, 1) := by decide +kernel
theorem dX4_mostOf_43 : decode cX4_mostOf 43 = .ok (.aload_n 0, 1) := by decide +kernel
theorem dX4_mostOf_44 : decode cX4_mostOf 44 = .ok (.getfield 11, 3) := by decide +kernel
theorem dX4_mostOf_47 : decode cX4_mostOf 47 = .ok (.iload_n 1, 1) := by decide +kernel
theorem dX4_mostOf_48 : decode cX4_mostOf 48 = .ok (.aaload, 1) := by decide +kernel
theorem dX4_mostOf_49 : decode cX4_mostOf 49 = .ok (.iload 4, 2) := by decide +kernel
theorem dX4_mostOf_51 : decode cX4_mostOf 51 = .ok (.iaload, 1) := by decide +kernel
theorem dX4_mostOf_52 : decode cX4_mostOf 52 = .ok (.bipush 10, 2) := by decide +kernel
theorem dX4_mostOf_54 : decode cX4_mostOf 54 = .ok (.idiv, 1) := by decide +kernel
theorem dX4_mostOf_55 : decode cX4_mostOf 55 = .ok (.invokestatic 148, 3) := by decide +kernel
theorem dX4_mostOf_58 : decode cX4_mostOf 58 = .ok (.goto 19, 3) := by decide +kernel
theorem dX4_mostOf_61 : decode cX4_mostOf 61 = .ok (.iload_n 3, 1) := by decide +kernel
theorem dX4_mostOf_62 : decode cX4_mostOf 62 = .ok (.aload_n 0, 1) := by decide +kernel
theorem dX4_mostOf_63 : decode cX4_mostOf 63 = .ok (.getfield 11, 3) := by decide +kernel
theorem dX4_mostOf_66 : decode cX4_mostOf 66 = .ok (.iload_n 1, 1) := by decide +kernel
theorem dX4_mostOf_67 : decode cX4_mostOf 67 = .ok (.aaload, 1) := by decide +kernel
theorem dX4_mostOf_68 : decode cX4_mostOf 68 = .ok (.iload 4, 2) := by decide +kernel
theorem dX4_mostOf_70 : decode cX4_mostOf 70 = .ok (.iaload, 1) := by decide +kernel
theorem dX4_mostOf_71 : decode cX4_mostOf 71 = .ok (.bipush 10, 2) := by decide +kernel
theorem dX4_mostOf_73 : decode cX4_mostOf 73 = .ok (.idiv, 1) := by decide +kernel
theorem dX4_mostOf_74 : decode cX4_mostOf 74 = .ok (.invokestatic 153, 3) := by decide +kernel
theorem dX4_mostOf_77 : decode cX4_mostOf 77 = .ok (.istore_n 3, 1) := by decide +kernel
theorem dX4_mostOf_78 : decode cX4_mostOf 78 = .ok (.iinc 4 1, 3) := by decide +kernel
theorem dX4_mostOf_81 : decode cX4_mostOf 81 = .ok (.goto (-54), 3) := by decide +kernel
theorem dX4_mostOf_84 : decode cX4_mostOf 84 = .ok (.iload_n 3, 1) := by decide +kernel
theorem dX4_mostOf_85 : decode cX4_mostOf 85 = .ok (.ireturn, 1) := by decide +kernel
theorem dX4_lay_0 : decode cX4_lay 0 = .ok (.aload_n 0, 1) := by decide +kernel
theorem dX4_lay_1 : decode cX4_lay 1 = .ok (.iload_n 1, 1) := by decide +kernel
theorem dX4_lay_2 : decode cX4_lay 2 = .ok (.invokevirtual 48, 3) := by decide +kernel
theorem dX4_lay_5 : decode cX4_lay 5 = .ok (.aload_n 0, 1) := by decide +kernel
theorem dX4_lay_6 : decode cX4_lay 6 = .ok (.getfield 24, 3) := by decide +kernel
theorem dX4_lay_9 : decode cX4_lay 9 = .ok (.iload_n 1, 1) := by decide +kernel
theorem dX4_lay_10 : decode cX4_lay 10 = .ok (.iload_n 2, 1) := by decide +kernel
theorem dX4_lay_11 : decode cX4_lay 11 = .ok (.iastore, 1) := by decide +kernel
theorem dX4_lay_12 : decode cX4_lay 12 = .ok (.aload_n 0, 1) := by decide +kernel
theorem dX4_lay_13 : decode cX4_lay 13 = .ok (.getfield 27, 3) := by decide +kernel
theorem dX4_lay_16 : decode cX4_lay 16 = .ok (.iload_n 1, 1) := by decide +kernel
theorem dX4_lay_17 : decode cX4_lay 17 = .ok (.iload_n 3, 1) := by decide +kernel
theorem dX4_lay_18 : decode cX4_lay 18 = .ok (.iastore, 1) := by decide +kernel
theorem dX4_lay_19 : decode cX4_lay 19 = .ok (.aload_n 0, 1) := by decide +kernel
theorem dX4_lay_20 : decode cX4_lay 20 = .ok (.getfield 30, 3) := by decide +kernel
theorem dX4_lay_23 : decode cX4_lay 23 = .ok (.iload_n 1, 1) := by decide +kernel
theorem dX4_lay_24 : decode cX4_lay 24 = .ok (.iload 4, 2) := by decide +kernel
theorem dX4_lay_26 : decode cX4_lay 26 = .ok (.iastore, 1) := by decide +kernel
theorem dX4_lay_27 : decode cX4_lay 27 = .ok (.aload_n 0, 1) := by decide +kernel
theorem dX4_lay_28 : decode cX4_lay 28 = .ok (.getfield 33, 3) := by decide +kernel
theorem dX4_lay_31 : decode cX4_lay 31 = .ok (.iload_n 1, 1) := by decide +kernel
theorem dX4_lay_32 : decode cX4_lay 32 = .ok (.iload 5, 2) := by decide +kernel
theorem dX4_lay_34 : decode cX4_lay 34 = .ok (.iastore, 1) := by decide +kernel
theorem dX4_lay_35 : decode cX4_lay 35 = .ok (.iload 4, 2) := by decide +kernel
theorem dX4_lay_37 : decode cX4_lay 37 = .ok (.iload_n 3, 1) := by decide +kernel
theorem dX4_lay_38 : decode cX4_lay 38 = .ok (.isub, 1) := by decide +kernel
theorem dX4_lay_39 : decode cX4_lay 39 = .ok (.ireturn, 1) := by decide +kernel
theorem dX4_part_0 : decode cX4_part 0 = .ok (.aload_n 0, 1) := by decide +kernel
theorem dX4_part_1 : decode cX4_part 1 = .ok (.iload_n 1, 1) := by decide +kernel
theorem dX4_part_2 : decode cX4_part 2 = .ok (.invokestatic 160, 3) := by decide +kernel
theorem dX4_part_5 : decode cX4_part 5 = .ok (.ifCond .ne 31, 3) := by decide +kernel
theorem dX4_part_8 : decode cX4_part 8 = .ok (.iload_n 2, 1) := by decide +kernel
theorem dX4_part_9 : decode cX4_part 9 = .ok (.invokestatic 44, 3) := by decide +kernel
theorem dX4_part_12 : decode cX4_part 12 = .ok (.ifCond .ne 24, 3) := by decide +kernel
theorem dX4_part_15 : decode cX4_part 15 = .ok (.iload_n 3, 1) := by decide +kernel
theorem dX4_part_16 : decode cX4_part 16 = .ok (.ifCond .lt 20, 3) := by decide +kernel
theorem dX4_part_19 : decode cX4_part 19 = .ok (.iload 4, 2) := by decide +kernel
theorem dX4_part_21 : decode cX4_part 21 = .ok (.aload_n 0, 1) := by decide +kernel
theorem dX4_part_22 : decode cX4_part 22 = .ok (.getfield 14, 3) := by decide +kernel
theorem dX4_part_25 : decode cX4_part 25 = .ok (.iload_n 2, 1) := by decide +kernel
theorem dX4_part_26 : decode cX4_part 26 = .ok (.iaload, 1) := by decide +kernel
theorem dX4_part_27 : decode cX4_part 27 = .ok (.if_icmp .gt 9, 3) := by decide +kernel
theorem dX4_part_30 : decode cX4_part 30 = .ok (.iload_n 3, 1) := by decide +kernel
theorem dX4_part_31 : decode cX4_part 31 = .ok (.iload 4, 2) := by decide +kernel
theorem dX4_part_33 : decode cX4_part 33 = .ok (.if_icmp .le 7, 3) := by decide +kernel
theorem dX4_part_40 : decode cX4_part 40 = .ok (.iconst 0, 1) := by decide +kernel
theorem dX4_part_41 : decode cX4_part 41 = .ok (.iconst 0, 1) := by decide +kernel
theorem dX4_part_42 : decode cX4_part 42 = .ok (.iconst 0, 1) := by decide +kernel
theorem dX4_part_43 : decode cX4_part 43 = .ok (.invokevirtual 63, 3) := by decide +kernel
theorem dX4_part_46 : decode cX4_part 46 = .ok (.ifCond .eq 16, 3) := by decide +kernel
theorem dX4_part_49 : decode cX4_part 49 = .ok (.aload_n 0, 1) := by decide +kernel
theorem dX4_part_50 : decode cX4_part 50 = .ok (.iload_n 1, 1) := by decide +kernel
theorem dX4_part_51 : decode cX4_part 51 = .ok (.iload_n 2, 1) := by decide +kernel
theorem dX4_part_52 : decode cX4_part 52 = .ok (.iload_n 3, 1) := by decide +kernel
theorem dX4_part_53 : decode cX4_part 53 = .ok (.iload 4, 2) := by decide +kernel
theorem dX4_part_55 : decode cX4_part 55 = .ok (.iconst (-1), 1) := by decide +kernel
theorem dX4_part_56 : decode cX4_part 56 = .ok (.invokevirtual 163, 3) := by decide +kernel
theorem dX4_part_59 : decode cX4_part 59 = .ok (.goto 4, 3) := by decide +kernel
theorem dX4_part_63 : decode cX4_part 63 = .ok (.ireturn, 1) := by decide +kernel
theorem dX4_partText_0 : decode cX4_partText 0 = .ok (.aload_n 0, 1) := by decide +kernel
theorem dX4_partText_1 : decode cX4_partText 1 = .ok (.getfield 24, 3) := by decide +kernel
theorem dX4_partText_4 : decode cX4_partText 4 = .ok (.iload_n 1, 1) := by decide +kernel
theorem dX4_partText_5 : decode cX4_partText 5 = .ok (.iaload, 1) := by decide +kernel
theorem dX4_partText_6 : decode cX4_partText 6 = .ok (.iconst (-1), 1) := by decide +kernel
theorem dX4_partText_7 : decode cX4_partText 7 = .ok (.if_icmp .ne 8, 3) := by decide +kernel
theorem dX4_partText_15 : decode cX4_partText 15 = .ok (.aload_n 0, 1) := by decide +kernel
theorem dX4_partText_16 : decode cX4_partText 16 = .ok (.aload_n 0, 1) := by decide +kernel
theorem dX4_partText_17 : decode cX4_partText 17 = .ok (.getfield 24, 3) := by decide +kernel
theorem dX4_partText_20 : decode cX4_partText 20 = .ok (.iload_n 1, 1) := by decide +kernel
theorem dX4_partText_21 : decode cX4_partText 21 = .ok (.iaload, 1) := by decide +kernel
theorem dX4_partText_22 : decode cX4_partText 22 = .ok (.aload_n 0, 1) := by decide +kernel
theorem dX4_partText_23 : decode cX4_partText 23 = .ok (.getfield 27, 3) := by decide +kernel
theorem dX4_partText_26 : decode cX4_partText 26 = .ok (.iload_n 1, 1) := by decide +kernel
theorem dX4_partText_27 : decode cX4_partText 27 = .ok (.iaload, 1) := by decide +kernel
theorem dX4_partText_28 : decode cX4_partText 28 = .ok (.aload_n 0, 1) := by decide +kernel
theorem dX4_partText_29 : decode cX4_partText 29 = .ok (.getfield 30, 3) := by decide +kernel
theorem dX4_partText_32 : decode cX4_partText 32 = .ok (.iload_n 1, 1) := by decide +kernel
theorem dX4_partText_33 : decode cX4_partText 33 = .ok (.iaload, 1) := by decide +kernel
theorem dX4_partText_34 : decode cX4_partText 34 = .ok (.invokevirtual 124, 3) := by decide +kernel
theorem dX4_partText_37 : decode cX4_partText 37 = .ok (.areturn, 1) := by decide +kernel
theorem dX4_walkOf_0 : decode cX4_walkOf 0 = .ok (.aload_n 0, 1) := by decide +kernel
theorem dX4_walkOf_1 : decode cX4_walkOf 1 = .ok (.getfield 21, 3) := by decide +kernel
theorem dX4_walkOf_4 : decode cX4_walkOf 4 = .ok (.iload_n 1, 1) := by decide +kernel
theorem dX4_walkOf_5 : decode cX4_walkOf 5 = .ok (.iaload, 1) := by decide +kernel
theorem dX4_walkOf_6 : decode cX4_walkOf 6 = .ok (.iconst (-1), 1) := by decide +kernel
theorem dX4_walkOf_7 : decode cX4_walkOf 7 = .ok (.if_icmp .ne 7, 3) := by decide +kernel
theorem dX4_walkOf_10 : decode cX4_walkOf 10 = .ok (.iconst (-1), 1) := by decide +kernel
theorem dX4_walkOf_11 : decode cX4_walkOf 11 = .ok (.goto 26, 3) := by decide +kernel
theorem dX4_walkOf_37 : decode cX4_walkOf 37 = .ok (.ireturn, 1) := by decide +kernel
theorem dX4_houseOf_0 : decode cX4_houseOf 0 = .ok (.iconst 4, 1) := by decide +kernel
theorem dX4_houseOf_1 : decode cX4_houseOf 1 = .ok (.newarray .int, 2) := by decide +kernel
theorem dX4_houseOf_3 : decode cX4_houseOf 3 = .ok (.dup, 1) := by decide +kernel
theorem dX4_houseOf_4 : decode cX4_houseOf 4 = .ok (.iconst 0, 1) := by decide +kernel
theorem dX4_houseOf_5 : decode cX4_houseOf 5 = .ok (.iconst 0, 1) := by decide +kernel
theorem dX4_houseOf_6 : decode cX4_houseOf 6 = .ok (.iastore, 1) := by decide +kernel
theorem dX4_houseOf_7 : decode cX4_houseOf 7 = .ok (.dup, 1) := by decide +kernel
theorem dX4_houseOf_8 : decode cX4_houseOf 8 = .ok (.iconst 1, 1) := by decide +kernel
theorem dX4_houseOf_9 : decode cX4_houseOf 9 = .ok (.iconst 0, 1) := by decide +kernel
theorem dX4_houseOf_10 : decode cX4_houseOf 10 = .ok (.iastore, 1) := by decide +kernel
theorem dX4_houseOf_11 : decode cX4_houseOf 11 = .ok (.dup, 1) := by decide +kernel
theorem dX4_houseOf_12 : decode cX4_houseOf 12 = .ok (.iconst 2, 1) := by decide +kernel
theorem dX4_houseOf_13 : decode cX4_houseOf 13 = .ok (.iconst 0, 1) := by decide +kernel
theorem dX4_houseOf_14 : decode cX4_houseOf 14 = .ok (.iastore, 1) := by decide +kernel
theorem dX4_houseOf_15 : decode cX4_houseOf 15 = .ok (.dup, 1) := by decide +kernel
theorem dX4_houseOf_16 : decode cX4_houseOf 16 = .ok (.iconst 3, 1) := by decide +kernel
theorem dX4_houseOf_17 : decode cX4_houseOf 17 = .ok (.aload_n 0, 1) := by decide +kernel
theorem dX4_houseOf_18 : decode cX4_houseOf 18 = .ok (.getfield 194, 3) := by decide +kernel
theorem dX4_houseOf_21 : decode cX4_houseOf 21 = .ok (.iastore, 1) := by decide +kernel
theorem dX4_houseOf_22 : decode cX4_houseOf 22 = .ok (.astore_n 2, 1) := by decide +kernel
theorem dX4_houseOf_23 : decode cX4_houseOf 23 = .ok (.iconst 0, 1) := by decide +kernel
theorem dX4_houseOf_24 : decode cX4_houseOf 24 = .ok (.istore_n 3, 1) := by decide +kernel
theorem dX4_houseOf_25 : decode cX4_houseOf 25 = .ok (.iload_n 3, 1) := by decide +kernel
theorem dX4_houseOf_26 : decode cX4_houseOf 26 = .ok (.iconst 4, 1) := by decide +kernel
theorem dX4_houseOf_27 : decode cX4_houseOf 27 = .ok (.if_icmp .ge 21, 3) := by decide +kernel
theorem dX4_houseOf_30 : decode cX4_houseOf 30 = .ok (.aload_n 2, 1) := by decide +kernel
theorem dX4_houseOf_31 : decode cX4_houseOf 31 = .ok (.iconst 0, 1) := by decide +kernel
theorem dX4_houseOf_32 : decode cX4_houseOf 32 = .ok (.dup2, 1) := by decide +kernel
theorem dX4_houseOf_33 : decode cX4_houseOf 33 = .ok (.iaload, 1) := by decide +kernel
theorem dX4_houseOf_34 : decode cX4_houseOf 34 = .ok (.aload_n 0, 1) := by decide +kernel
theorem dX4_houseOf_35 : decode cX4_houseOf 35 = .ok (.getfield 14, 3) := by decide +kernel
theorem dX4_houseOf_38 : decode cX4_houseOf 38 = .ok (.iload_n 3, 1) := by decide +kernel
theorem dX4_houseOf_39 : decode cX4_houseOf 39 = .ok (.iaload, 1) := by decide +kernel
theorem dX4_houseOf_40 : decode cX4_houseOf 40 = .ok (.iadd, 1) := by decide +kernel
theorem dX4_houseOf_41 : decode cX4_houseOf 41 = .ok (.iastore, 1) := by decide +kernel
theorem dX4_houseOf_42 : decode cX4_houseOf 42 = .ok (.iinc 3 1, 3) := by decide +kernel
theorem dX4_houseOf_45 : decode cX4_houseOf 45 = .ok (.goto (-20), 3) := by decide +kernel
theorem dX4_houseOf_48 : decode cX4_houseOf 48 = .ok (.iconst 0, 1) := by decide +kernel
theorem dX4_houseOf_49 : decode cX4_houseOf 49 = .ok (.istore_n 3, 1) := by decide +kernel
theorem dX4_houseOf_50 : decode cX4_houseOf 50 = .ok (.iload_n 3, 1) := by decide +kernel
theorem dX4_houseOf_51 : decode cX4_houseOf 51 = .ok (.iconst 3, 1) := by decide +kernel
theorem dX4_houseOf_52 : decode cX4_houseOf 52 = .ok (.if_icmp .ge 33, 3) := by decide +kernel
theorem dX4_houseOf_55 : decode cX4_houseOf 55 = .ok (.aload_n 2, 1) := by decide +kernel
theorem dX4_houseOf_56 : decode cX4_houseOf 56 = .ok (.iconst 1, 1) := by decide +kernel
theorem dX4_houseOf_57 : decode cX4_houseOf 57 = .ok (.dup2, 1) := by decide +kernel
theorem dX4_houseOf_58 : decode cX4_houseOf 58 = .ok (.iaload, 1) := by decide +kernel
theorem dX4_houseOf_59 : decode cX4_houseOf 59 = .ok (.aload_n 0, 1) := by decide +kernel
theorem dX4_houseOf_60 : decode cX4_houseOf 60 = .ok (.getfield 24, 3) := by decide +kernel
theorem dX4_houseOf_63 : decode cX4_houseOf 63 = .ok (.iload_n 3, 1) := by decide +kernel
theorem dX4_houseOf_64 : decode cX4_houseOf 64 = .ok (.iaload, 1) := by decide +kernel
theorem dX4_houseOf_65 : decode cX4_houseOf 65 = .ok (.iconst (-1), 1) := by decide +kernel
theorem dX4_houseOf_66 : decode cX4_houseOf 66 = .ok (.if_icmp .eq 7, 3) := by decide +kernel
theorem dX4_houseOf_69 : decode cX4_houseOf 69 = .ok (.iconst 1, 1) := by decide +kernel
theorem dX4_houseOf_70 : decode cX4_houseOf 70 = .ok (.goto 4, 3) := by decide +kernel
theorem dX4_houseOf_74 : decode cX4_houseOf 74 = .ok (.invokestatic 128, 3) := by decide +kernel
theorem dX4_houseOf_77 : decode cX4_houseOf 77 = .ok (.iadd, 1) := by decide +kernel
theorem dX4_houseOf_78 : decode cX4_houseOf 78 = .ok (.iastore, 1) := by decide +kernel
theorem dX4_houseOf_79 : decode cX4_houseOf 79 = .ok (.iinc 3 1, 3) := by decide +kernel
theorem dX4_houseOf_82 : decode cX4_houseOf 82 = .ok (.goto (-32), 3) := by decide +kernel
theorem dX4_houseOf_85 : decode cX4_houseOf 85 = .ok (.iconst 0, 1) := by decide +kernel
theorem dX4_houseOf_86 : decode cX4_houseOf 86 = .ok (.istore_n 3, 1) := by decide +kernel
theorem dX4_houseOf_87 : decode cX4_houseOf 87 = .ok (.iload_n 3, 1) := by decide +kernel
theorem dX4_houseOf_88 : decode cX4_houseOf 88 = .ok (.iconst 4, 1) := by decide +kernel
theorem dX4_houseOf_89 : decode cX4_houseOf 89 = .ok (.if_icmp .ge 33, 3) := by decide +kernel
theorem dX4_houseOf_92 : decode cX4_houseOf 92 = .ok (.aload_n 2, 1) := by decide +kernel
theorem dX4_houseOf_93 : decode cX4_houseOf 93 = .ok (.iconst 2, 1) := by decide +kernel
theorem dX4_houseOf_94 : decode cX4_houseOf 94 = .ok (.dup2, 1) := by decide +kernel
theorem dX4_houseOf_95 : decode cX4_houseOf 95 = .ok (.iaload, 1) := by decide +kernel
theorem dX4_houseOf_96 : decode cX4_houseOf 96 = .ok (.aload_n 0, 1) := by decide +kernel
theorem dX4_houseOf_97 : decode cX4_houseOf 97 = .ok (.getfield 21, 3) := by decide +kernel
theorem dX4_houseOf_100 : decode cX4_houseOf 100 = .ok (.iload_n 3, 1) := by decide +kernel
theorem dX4_houseOf_101 : decode cX4_houseOf 101 = .ok (.iaload, 1) := by decide +kernel
theorem dX4_houseOf_102 : decode cX4_houseOf 102 = .ok (.iconst (-1), 1) := by decide +kernel
theorem dX4_houseOf_103 : decode cX4_houseOf 103 = .ok (.if_icmp .eq 7, 3) := by decide +kernel
theorem dX4_houseOf_110 : decode cX4_houseOf 110 = .ok (.iconst 0, 1) := by decide +kernel
theorem dX4_houseOf_111 : decode cX4_houseOf 111 = .ok (.invokestatic 128, 3) := by decide +kernel
theorem dX4_houseOf_114 : decode cX4_houseOf 114 = .ok (.iadd, 1) := by decide +kernel
theorem dX4_houseOf_115 : decode cX4_houseOf 115 = .ok (.iastore, 1) := by decide +kernel
theorem dX4_houseOf_116 : decode cX4_houseOf 116 = .ok (.iinc 3 1, 3) := by decide +kernel
theorem dX4_houseOf_119 : decode cX4_houseOf 119 = .ok (.goto (-32), 3) := by decide +kernel
theorem dX4_houseOf_122 : decode cX4_houseOf 122 = .ok (.aload_n 2, 1) := by decide +kernel
theorem dX4_houseOf_123 : decode cX4_houseOf 123 = .ok (.iload_n 1, 1) := by decide +kernel
theorem dX4_houseOf_124 : decode cX4_houseOf 124 = .ok (.iaload, 1) := by decide +kernel
theorem dX4_houseOf_125 : decode cX4_houseOf 125 = .ok (.ireturn, 1) := by decide +kernel
theorem dX4_areSound_0 : decode cX4_areSound 0 = .ok (.iconst 1, 1) := by decide +kernel
theorem dX4_areSound_1 : decode cX4_areSound 1 = .ok (.istore_n 1, 1) := by decide +kernel
theorem dX4_areSound_2 : decode cX4_areSound 2 = .ok (.iconst 0, 1) := by decide +kernel
theorem dX4_areSound_3 : decode cX4_areSound 3 = .ok (.istore_n 2, 1) := by decide +kernel
theorem dX4_areSound_4 : decode cX4_areSound 4 = .ok (.iload_n 2, 1) := by decide +kernel
theorem dX4_areSound_5 : decode cX4_areSound 5 = .ok (.iconst 4, 1) := by decide +kernel
theorem dX4_areSound_6 : decode cX4_areSound 6 = .ok (.if_icmp .ge 247, 3) := by decide +kernel
theorem dX4_areSound_9 : decode cX4_areSound 9 = .ok (.aload_n 0, 1) := by decide +kernel
theorem dX4_areSound_10 : decode cX4_areSound 10 = .ok (.getfield 11, 3) := by decide +kernel
theorem dX4_areSound_13 : decode cX4_areSound 13 = .ok (.iload_n 2, 1) := by decide +kernel
theorem dX4_areSound_14 : decode cX4_areSound 14 = .ok (.aaload, 1) := by decide +kernel
theorem dX4_areSound_15 : decode cX4_areSound 15 = .ok (.invokevirtual 200, 3) := by decide +kernel
theorem dX4_areSound_18 : decode cX4_areSound 18 = .ok (.checkcast 201, 3) := by decide +kernel
theorem dX4_areSound_21 : decode cX4_areSound 21 = .ok (.astore_n 3, 1) := by decide +kernel
theorem dX4_areSound_22 : decode cX4_areSound 22 = .ok (.aload_n 3, 1) := by decide +kernel
theorem dX4_areSound_23 : decode cX4_areSound 23 = .ok (.iconst 0, 1) := by decide +kernel
theorem dX4_areSound_24 : decode cX4_areSound 24 = .ok (.aload_n 0, 1) := by decide +kernel
theorem dX4_areSound_25 : decode cX4_areSound 25 = .ok (.getfield 14, 3) := by decide +kernel
theorem dX4_areSound_28 : decode cX4_areSound 28 = .ok (.iload_n 2, 1) := by decide +kernel
theorem dX4_areSound_29 : decode cX4_areSound 29 = .ok (.iaload, 1) := by decide +kernel
theorem dX4_areSound_30 : decode cX4_areSound 30 = .ok (.invokestatic 82, 3) := by decide +kernel
theorem dX4_areSound_33 : decode cX4_areSound 33 = .ok (.aload_n 3, 1) := by decide +kernel
theorem dX4_areSound_34 : decode cX4_areSound 34 = .ok (.iconst 0, 1) := by decide +kernel
theorem dX4_areSound_35 : decode cX4_areSound 35 = .ok (.aload_n 0, 1) := by decide +kernel
theorem dX4_areSound_36 : decode cX4_areSound 36 = .ok (.getfield 14, 3) := by decide +kernel
theorem dX4_areSound_39 : decode cX4_areSound 39 = .ok (.iload_n 2, 1) := by decide +kernel
theorem dX4_areSound_40 : decode cX4_areSound 40 = .ok (.iaload, 1) := by decide +kernel
theorem dX4_areSound_41 : decode cX4_areSound 41 = .ok (.invokestatic 82, 3) := by decide +kernel
theorem dX4_areSound_44 : decode cX4_areSound 44 = .ok (.aload_n 3, 1) := by decide +kernel
theorem dX4_areSound_45 : decode cX4_areSound 45 = .ok (.iconst 0, 1) := by decide +kernel
theorem dX4_areSound_46 : decode cX4_areSound 46 = .ok (.aload_n 0, 1) := by decide +kernel
theorem dX4_areSound_47 : decode cX4_areSound 47 = .ok (.getfield 14, 3) := by decide +kernel
theorem dX4_areSound_50 : decode cX4_areSound 50 = .ok (.iload_n 2, 1) := by decide +kernel
theorem dX4_areSound_51 : decode cX4_areSound 51 = .ok (.iaload, 1) := by decide +kernel
theorem dX4_areSound_52 : decode cX4_areSound 52 = .ok (.iconst 5, 1) := by decide +kernel
theorem dX4_areSound_53 : decode cX4_areSound 53 = .ok (.invokestatic 89, 3) := by decide +kernel
theorem dX4_areSound_56 : decode cX4_areSound 56 = .ok (.aload_n 3, 1) := by decide +kernel
theorem dX4_areSound_57 : decode cX4_areSound 57 = .ok (.iconst 0, 1) := by decide +kernel
theorem dX4_areSound_58 : decode cX4_areSound 58 = .ok (.aload_n 0, 1) := by decide +kernel
theorem dX4_areSound_59 : decode cX4_areSound 59 = .ok (.getfield 14, 3) := by decide +kernel
theorem dX4_areSound_62 : decode cX4_areSound 62 = .ok (.iload_n 2, 1) := by decide +kernel
theorem dX4_areSound_63 : decode cX4_areSound 63 = .ok (.iaload, 1) := by decide +kernel
theorem dX4_areSound_64 : decode cX4_areSound 64 = .ok (.bipush (-5), 2) := by decide +kernel
theorem dX4_areSound_66 : decode cX4_areSound 66 = .ok (.invokestatic 89, 3) := by decide +kernel
theorem dX4_areSound_69 : decode cX4_areSound 69 = .ok (.iload_n 1, 1) := by decide +kernel
theorem dX4_areSound_70 : decode cX4_areSound 70 = .ok (.aload_n 0, 1) := by decide +kernel
theorem dX4_areSound_71 : decode cX4_areSound 71 = .ok (.getfield 11, 3) := by decide +kernel
theorem dX4_areSound_74 : decode cX4_areSound 74 = .ok (.iload_n 2, 1) := by decide +kernel
theorem dX4_areSound_75 : decode cX4_areSound 75 = .ok (.aaload, 1) := by decide +kernel
theorem dX4_areSound_76 : decode cX4_areSound 76 = .ok (.iconst 0, 1) := by decide +kernel
theorem dX4_areSound_77 : decode cX4_areSound 77 = .ok (.aload_n 0, 1) := by decide +kernel
theorem dX4_areSound_78 : decode cX4_areSound 78 = .ok (.getfield 14, 3) := by decide +kernel
theorem dX4_areSound_81 : decode cX4_areSound 81 = .ok (.iload_n 2, 1) := by decide +kernel
theorem dX4_areSound_82 : decode cX4_areSound 82 = .ok (.iaload, 1) := by decide +kernel
theorem dX4_areSound_83 : decode cX4_areSound 83 = .ok (.aload_n 3, 1) := by decide +kernel
theorem dX4_areSound_84 : decode cX4_areSound 84 = .ok (.iconst 0, 1) := by decide +kernel
theorem dX4_areSound_85 : decode cX4_areSound 85 = .ok (.aload_n 0, 1) := by decide +kernel
theorem dX4_areSound_86 : decode cX4_areSound 86 = .ok (.getfield 14, 3) := by decide +kernel
theorem dX4_areSound_89 : decode cX4_areSound 89 = .ok (.iload_n 2, 1) := by decide +kernel
theorem dX4_areSound_90 : decode cX4_areSound 90 = .ok (.iaload, 1) := by decide +kernel
theorem dX4_areSound_91 : decode cX4_areSound 91 = .ok (.invokestatic 138, 3) := by decide +kernel
theorem dX4_areSound_94 : decode cX4_areSound 94 = .ok (.ifCond .ne 7, 3) := by decide +kernel
theorem dX4_areSound_97 : decode cX4_areSound 97 = .ok (.iconst 1, 1) := by decide +kernel
theorem dX4_areSound_98 : decode cX4_areSound 98 = .ok (.goto 4, 3) := by decide +kernel
theorem dX4_areSound_102 : decode cX4_areSound 102 = .ok (.iand, 1) := by decide +kernel
theorem dX4_areSound_103 : decode cX4_areSound 103 = .ok (.istore_n 1, 1) := by decide +kernel
theorem dX4_areSound_104 : decode cX4_areSound 104 = .ok (.aload_n 3, 1) := by decide +kernel
theorem dX4_areSound_105 : decode cX4_areSound 105 = .ok (.iconst 0, 1) := by decide +kernel
theorem dX4_areSound_106 : decode cX4_areSound 106 = .ok (.aload_n 0, 1) := by decide +kernel
theorem dX4_areSound_107 : decode cX4_areSound 107 = .ok (.getfield 14, 3) := by decide +kernel
theorem dX4_areSound_110 : decode cX4_areSound 110 = .ok (.iload_n 2, 1) := by decide +kernel
theorem dX4_areSound_111 : decode cX4_areSound 111 = .ok (.iaload, 1) := by decide +kernel
theorem dX4_areSound_112 : decode cX4_areSound 112 = .ok (.iconst 0, 1) := by decide +kernel
theorem dX4_areSound_113 : decode cX4_areSound 113 = .ok (.invokestatic 96, 3) := by decide +kernel
theorem dX4_areSound_116 : decode cX4_areSound 116 = .ok (.iconst 0, 1) := by decide +kernel
theorem dX4_areSound_117 : decode cX4_areSound 117 = .ok (.istore 4, 2) := by decide +kernel
theorem dX4_areSound_119 : decode cX4_areSound 119 = .ok (.iload 4, 2) := by decide +kernel
theorem dX4_areSound_121 : decode cX4_areSound 121 = .ok (.aload_n 0, 1) := by decide +kernel
theorem dX4_areSound_122 : decode cX4_areSound 122 = .ok (.getfield 14, 3) := by decide +kernel
theorem dX4_areSound_125 : decode cX4_areSound 125 = .ok (.iload_n 2, 1) := by decide +kernel
theorem dX4_areSound_126 : decode cX4_areSound 126 = .ok (.iaload, 1) := by decide +kernel
theorem dX4_areSound_127 : decode cX4_areSound 127 = .ok (.if_icmp .ge 88, 3) := by decide +kernel
theorem dX4_areSound_130 : decode cX4_areSound 130 = .ok (.iconst 0, 1) := by decide +kernel
theorem dX4_areSound_131 : decode cX4_areSound 131 = .ok (.istore 5, 2) := by decide +kernel
theorem dX4_areSound_133 : decode cX4_areSound 133 = .ok (.iconst 0, 1) := by decide +kernel
theorem dX4_areSound_134 : decode cX4_areSound 134 = .ok (.istore 6, 2) := by decide +kernel
theorem dX4_areSound_136 : decode cX4_areSound 136 = .ok (.iload 6, 2) := by decide +kernel
theorem dX4_areSound_138 : decode cX4_areSound 138 = .ok (.aload_n 0, 1) := by decide +kernel
theorem dX4_areSound_139 : decode cX4_areSound 139 = .ok (.getfield 14, 3) := by decide +kernel
theorem dX4_areSound_142 : decode cX4_areSound 142 = .ok (.iload_n 2, 1) := by decide +kernel
theorem dX4_areSound_143 : decode cX4_areSound 143 = .ok (.iaload, 1) := by decide +kernel
theorem dX4_areSound_144 : decode cX4_areSound 144 = .ok (.if_icmp .ge 38, 3) := by decide +kernel
theorem dX4_areSound_147 : decode cX4_areSound 147 = .ok (.iload 5, 2) := by decide +kernel
theorem dX4_areSound_149 : decode cX4_areSound 149 = .ok (.aload_n 3, 1) := by decide +kernel
theorem dX4_areSound_150 : decode cX4_areSound 150 = .ok (.iload 6, 2) := by decide +kernel
theorem dX4_areSound_152 : decode cX4_areSound 152 = .ok (.iaload, 1) := by decide +kernel
theorem dX4_areSound_153 : decode cX4_areSound 153 = .ok (.aload_n 0, 1) := by decide +kernel
theorem dX4_areSound_154 : decode cX4_areSound 154 = .ok (.getfield 11, 3) := by decide +kernel
theorem dX4_areSound_157 : decode cX4_areSound 157 = .ok (.iload_n 2, 1) := by decide +kernel
theorem dX4_areSound_158 : decode cX4_areSound 158 = .ok (.aaload, 1) := by decide +kernel
theorem dX4_areSound_159 : decode cX4_areSound 159 = .ok (.iload 4, 2) := by decide +kernel
theorem dX4_areSound_161 : decode cX4_areSound 161 = .ok (.iaload, 1) := by decide +kernel
theorem dX4_areSound_162 : decode cX4_areSound 162 = .ok (.if_icmp .ne 7, 3) := by decide +kernel
theorem dX4_areSound_165 : decode cX4_areSound 165 = .ok (.iconst 1, 1) := by decide +kernel
theorem dX4_areSound_166 : decode cX4_areSound 166 = .ok (.goto 4, 3) := by decide +kernel
theorem dX4_areSound_170 : decode cX4_areSound 170 = .ok (.invokestatic 128, 3) := by decide +kernel
theorem dX4_areSound_173 : decode cX4_areSound 173 = .ok (.iadd, 1) := by decide +kernel
theorem dX4_areSound_174 : decode cX4_areSound 174 = .ok (.istore 5, 2) := by decide +kernel
theorem dX4_areSound_176 : decode cX4_areSound 176 = .ok (.iinc 6 1, 3) := by decide +kernel
theorem dX4_areSound_179 : decode cX4_areSound 179 = .ok (.goto (-43), 3) := by decide +kernel
theorem dX4_areSound_182 : decode cX4_areSound 182 = .ok (.iload_n 1, 1) := by decide +kernel
theorem dX4_areSound_183 : decode cX4_areSound 183 = .ok (.iload 5, 2) := by decide +kernel
theorem dX4_areSound_185 : decode cX4_areSound 185 = .ok (.aload_n 0, 1) := by decide +kernel
theorem dX4_areSound_186 : decode cX4_areSound 186 = .ok (.iload_n 2, 1) := by decide +kernel
theorem dX4_areSound_187 : decode cX4_areSound 187 = .ok (.aload_n 0, 1) := by decide +kernel
theorem dX4_areSound_188 : decode cX4_areSound 188 = .ok (.getfield 11, 3) := by decide +kernel
theorem dX4_areSound_191 : decode cX4_areSound 191 = .ok (.iload_n 2, 1) := by decide +kernel
theorem dX4_areSound_192 : decode cX4_areSound 192 = .ok (.aaload, 1) := by decide +kernel
theorem dX4_areSound_193 : decode cX4_areSound 193 = .ok (.iload 4, 2) := by decide +kernel
theorem dX4_areSound_195 : decode cX4_areSound 195 = .ok (.iaload, 1) := by decide +kernel
theorem dX4_areSound_196 : decode cX4_areSound 196 = .ok (.invokevirtual 132, 3) := by decide +kernel
theorem dX4_areSound_199 : decode cX4_areSound 199 = .ok (.if_icmp .ne 7, 3) := by decide +kernel
theorem dX4_areSound_202 : decode cX4_areSound 202 = .ok (.iconst 1, 1) := by decide +kernel
theorem dX4_areSound_203 : decode cX4_areSound 203 = .ok (.goto 4, 3) := by decide +kernel
theorem dX4_areSound_207 : decode cX4_areSound 207 = .ok (.iand, 1) := by decide +kernel
theorem dX4_areSound_208 : decode cX4_areSound 208 = .ok (.istore_n 1, 1) := by decide +kernel
theorem dX4_areSound_209 : decode cX4_areSound 209 = .ok (.iinc 4 1, 3) := by decide +kernel
theorem dX4_areSound_212 : decode cX4_areSound 212 = .ok (.goto (-93), 3) := by decide +kernel
theorem dX4_areSound_215 : decode cX4_areSound 215 = .ok (.iload_n 1, 1) := by decide +kernel
theorem dX4_areSound_216 : decode cX4_areSound 216 = .ok (.aload_n 0, 1) := by decide +kernel
theorem dX4_areSound_217 : decode cX4_areSound 217 = .ok (.getfield 14, 3) := by decide +kernel
theorem dX4_areSound_220 : decode cX4_areSound 220 = .ok (.iload_n 2, 1) := by decide +kernel
theorem dX4_areSound_221 : decode cX4_areSound 221 = .ok (.iaload, 1) := by decide +kernel
theorem dX4_areSound_222 : decode cX4_areSound 222 = .ok (.ifCond .eq 18, 3) := by decide +kernel
theorem dX4_areSound_225 : decode cX4_areSound 225 = .ok (.aload_n 3, 1) := by decide +kernel
theorem dX4_areSound_226 : decode cX4_areSound 226 = .ok (.iconst 0, 1) := by decide +kernel
theorem dX4_areSound_227 : decode cX4_areSound 227 = .ok (.iaload, 1) := by decide +kernel
theorem dX4_areSound_228 : decode cX4_areSound 228 = .ok (.bipush 10, 2) := by decide +kernel
theorem dX4_areSound_230 : decode cX4_areSound 230 = .ok (.idiv, 1) := by decide +kernel
theorem dX4_areSound_231 : decode cX4_areSound 231 = .ok (.aload_n 0, 1) := by decide +kernel
theorem dX4_areSound_232 : decode cX4_areSound 232 = .ok (.iload_n 2, 1) := by decide +kernel
theorem dX4_areSound_233 : decode cX4_areSound 233 = .ok (.iconst 1, 1) := by decide +kernel
theorem dX4_areSound_234 : decode cX4_areSound 234 = .ok (.invokevirtual 156, 3) := by decide +kernel
theorem dX4_areSound_237 : decode cX4_areSound 237 = .ok (.if_icmp .ne 7, 3) := by decide +kernel
theorem dX4_areSound_240 : decode cX4_areSound 240 = .ok (.iconst 1, 1) := by decide +kernel
theorem dX4_areSound_241 : decode cX4_areSound 241 = .ok (.goto 4, 3) := by decide +kernel
theorem dX4_areSound_245 : decode cX4_areSound 245 = .ok (.iand, 1) := by decide +kernel
theorem dX4_areSound_246 : decode cX4_areSound 246 = .ok (.istore_n 1, 1) := by decide +kernel
theorem dX4_areSound_247 : decode cX4_areSound 247 = .ok (.iinc 2 1, 3) := by decide +kernel
theorem dX4_areSound_250 : decode cX4_areSound 250 = .ok (.goto (-246), 3) := by decide +kernel
theorem dX4_areSound_253 : decode cX4_areSound 253 = .ok (.iconst 0, 1) := by decide +kernel
theorem dX4_areSound_254 : decode cX4_areSound 254 = .ok (.istore_n 2, 1) := by decide +kernel
theorem dX4_areSound_255 : decode cX4_areSound 255 = .ok (.iload_n 2, 1) := by decide +kernel
theorem dX4_areSound_256 : decode cX4_areSound 256 = .ok (.iconst 3, 1) := by decide +kernel
theorem dX4_areSound_257 : decode cX4_areSound 257 = .ok (.if_icmp .ge 79, 3) := by decide +kernel
theorem dX4_areSound_260 : decode cX4_areSound 260 = .ok (.aload_n 0, 1) := by decide +kernel
theorem dX4_areSound_261 : decode cX4_areSound 261 = .ok (.getfield 24, 3) := by decide +kernel
theorem dX4_areSound_264 : decode cX4_areSound 264 = .ok (.iload_n 2, 1) := by decide +kernel
theorem dX4_areSound_265 : decode cX4_areSound 265 = .ok (.iaload, 1) := by decide +kernel
theorem dX4_areSound_266 : decode cX4_areSound 266 = .ok (.iconst (-1), 1) := by decide +kernel
theorem dX4_areSound_267 : decode cX4_areSound 267 = .ok (.if_icmp .eq 63, 3) := by decide +kernel
theorem dX4_areSound_270 : decode cX4_areSound 270 = .ok (.iload_n 1, 1) := by decide +kernel
theorem dX4_areSound_271 : decode cX4_areSound 271 = .ok (.aload_n 0, 1) := by decide +kernel
theorem dX4_areSound_272 : decode cX4_areSound 272 = .ok (.getfield 11, 3) := by decide +kernel
theorem dX4_areSound_275 : decode cX4_areSound 275 = .ok (.aload_n 0, 1) := by decide +kernel
theorem dX4_areSound_276 : decode cX4_areSound 276 = .ok (.getfield 24, 3) := by decide +kernel
theorem dX4_areSound_279 : decode cX4_areSound 279 = .ok (.iload_n 2, 1) := by decide +kernel
theorem dX4_areSound_280 : decode cX4_areSound 280 = .ok (.iaload, 1) := by decide +kernel
theorem dX4_areSound_281 : decode cX4_areSound 281 = .ok (.aaload, 1) := by decide +kernel
theorem dX4_areSound_282 : decode cX4_areSound 282 = .ok (.iconst 0, 1) := by decide +kernel
theorem dX4_areSound_283 : decode cX4_areSound 283 = .ok (.aload_n 0, 1) := by decide +kernel
theorem dX4_areSound_284 : decode cX4_areSound 284 = .ok (.getfield 14, 3) := by decide +kernel
theorem dX4_areSound_287 : decode cX4_areSound 287 = .ok (.aload_n 0, 1) := by decide +kernel
theorem dX4_areSound_288 : decode cX4_areSound 288 = .ok (.getfield 24, 3) := by decide +kernel
theorem dX4_areSound_291 : decode cX4_areSound 291 = .ok (.iload_n 2, 1) := by decide +kernel
theorem dX4_areSound_292 : decode cX4_areSound 292 = .ok (.iaload, 1) := by decide +kernel
theorem dX4_areSound_293 : decode cX4_areSound 293 = .ok (.iaload, 1) := by decide +kernel
theorem dX4_areSound_294 : decode cX4_areSound 294 = .ok (.aload_n 0, 1) := by decide +kernel
theorem dX4_areSound_295 : decode cX4_areSound 295 = .ok (.getfield 11, 3) := by decide +kernel
theorem dX4_areSound_298 : decode cX4_areSound 298 = .ok (.aload_n 0, 1) := by decide +kernel
theorem dX4_areSound_299 : decode cX4_areSound 299 = .ok (.getfield 24, 3) := by decide +kernel
theorem dX4_areSound_302 : decode cX4_areSound 302 = .ok (.iload_n 2, 1) := by decide +kernel
theorem dX4_areSound_303 : decode cX4_areSound 303 = .ok (.iaload, 1) := by decide +kernel
theorem dX4_areSound_304 : decode cX4_areSound 304 = .ok (.aaload, 1) := by decide +kernel
theorem dX4_areSound_305 : decode cX4_areSound 305 = .ok (.aload_n 0, 1) := by decide +kernel
theorem dX4_areSound_306 : decode cX4_areSound 306 = .ok (.getfield 27, 3) := by decide +kernel
theorem dX4_areSound_309 : decode cX4_areSound 309 = .ok (.iload_n 2, 1) := by decide +kernel
theorem dX4_areSound_310 : decode cX4_areSound 310 = .ok (.iaload, 1) := by decide +kernel
theorem dX4_areSound_311 : decode cX4_areSound 311 = .ok (.aload_n 0, 1) := by decide +kernel
theorem dX4_areSound_312 : decode cX4_areSound 312 = .ok (.getfield 30, 3) := by decide +kernel
theorem dX4_areSound_315 : decode cX4_areSound 315 = .ok (.iload_n 2, 1) := by decide +kernel
theorem dX4_areSound_316 : decode cX4_areSound 316 = .ok (.iaload, 1) := by decide +kernel
theorem dX4_areSound_317 : decode cX4_areSound 317 = .ok (.invokestatic 138, 3) := by decide +kernel
theorem dX4_areSound_320 : decode cX4_areSound 320 = .ok (.ifCond .lt 7, 3) := by decide +kernel
theorem dX4_areSound_323 : decode cX4_areSound 323 = .ok (.iconst 1, 1) := by decide +kernel
theorem dX4_areSound_324 : decode cX4_areSound 324 = .ok (.goto 4, 3) := by decide +kernel
theorem dX4_areSound_328 : decode cX4_areSound 328 = .ok (.iand, 1) := by decide +kernel
theorem dX4_areSound_329 : decode cX4_areSound 329 = .ok (.istore_n 1, 1) := by decide +kernel
theorem dX4_areSound_330 : decode cX4_areSound 330 = .ok (.iinc 2 1, 3) := by decide +kernel
theorem dX4_areSound_333 : decode cX4_areSound 333 = .ok (.goto (-78), 3) := by decide +kernel
theorem dX4_areSound_336 : decode cX4_areSound 336 = .ok (.iload_n 1, 1) := by decide +kernel
theorem dX4_areSound_337 : decode cX4_areSound 337 = .ok (.ireturn, 1) := by decide +kernel
theorem dX4_add__0 : decode cX4_add_ 0 = .ok (.lload_n 0, 1) := by decide +kernel
theorem dX4_add__1 : decode cX4_add_ 1 = .ok (.ldc2_w 209, 3) := by decide +kernel
theorem dX4_add__4 : decode cX4_add_ 4 = .ok (.lmul, 1) := by decide +kernel
theorem dX4_add__5 : decode cX4_add_ 5 = .ok (.lload_n 2, 1) := by decide +kernel
theorem dX4_add__6 : decode cX4_add_ 6 = .ok (.ladd, 1) := by decide +kernel
theorem dX4_add__7 : decode cX4_add_ 7 = .ok (.lreturn, 1) := by decide +kernel
theorem dX4_codes_0 : decode cX4_codes 0 = .ok (.lload_n 0, 1) := by decide +kernel
theorem dX4_codes_1 : decode cX4_codes 1 = .ok (.lstore_n 3, 1) := by decide +kernel
theorem dX4_codes_2 : decode cX4_codes 2 = .ok (.iconst 0, 1) := by decide +kernel
theorem dX4_codes_3 : decode cX4_codes 3 = .ok (.istore 5, 2) := by decide +kernel
theorem dX4_codes_5 : decode cX4_codes 5 = .ok (.iload 5, 2) := by decide +kernel
theorem dX4_codes_7 : decode cX4_codes 7 = .ok (.aload_n 2, 1) := by decide +kernel
theorem dX4_codes_8 : decode cX4_codes 8 = .ok (.invokevirtual 211, 3) := by decide +kernel
theorem dX4_codes_11 : decode cX4_codes 11 = .ok (.if_icmp .ge 21, 3) := by decide +kernel
theorem dX4_codes_14 : decode cX4_codes 14 = .ok (.lload_n 3, 1) := by decide +kernel
theorem dX4_codes_15 : decode cX4_codes 15 = .ok (.aload_n 2, 1) := by decide +kernel
theorem dX4_codes_16 : decode cX4_codes 16 = .ok (.iload 5, 2) := by decide +kernel
theorem dX4_codes_18 : decode cX4_codes 18 = .ok (.invokevirtual 217, 3) := by decide +kernel
theorem dX4_codes_21 : decode cX4_codes 21 = .ok (.i2l, 1) := by decide +kernel
theorem dX4_codes_22 : decode cX4_codes 22 = .ok (.invokestatic 221, 3) := by decide +kernel
theorem dX4_codes_25 : decode cX4_codes 25 = .ok (.lstore_n 3, 1) := by decide +kernel
theorem dX4_codes_26 : decode cX4_codes 26 = .ok (.iinc 5 1, 3) := by decide +kernel
theorem dX4_codes_29 : decode cX4_codes 29 = .ok (.goto (-24), 3) := by decide +kernel
theorem dX4_codes_32 : decode cX4_codes 32 = .ok (.lload_n 3, 1) := by decide +kernel
theorem dX4_codes_33 : decode cX4_codes 33 = .ok (.lreturn, 1) := by decide +kernel
theorem dX4_digest_0 : decode cX4_digest 0 = .ok (.aload_n 0, 1) := by decide +kernel
theorem dX4_digest_1 : decode cX4_digest 1 = .ok (.iconst 0, 1) := by decide +kernel
theorem dX4_digest_2 : decode cX4_digest 2 = .ok (.putfield 36, 3) := by decide +kernel
theorem dX4_digest_5 : decode cX4_digest 5 = .ok (.ldc2_w 225, 3) := by decide +kernel
theorem dX4_digest_8 : decode cX4_digest 8 = .ok (.lstore_n 1, 1) := by decide +kernel
theorem dX4_digest_9 : decode cX4_digest 9 = .ok (.iconst 0, 1) := by decide +kernel
theorem dX4_digest_10 : decode cX4_digest 10 = .ok (.istore_n 3, 1) := by decide +kernel
theorem dX4_digest_11 : decode cX4_digest 11 = .ok (.iload_n 3, 1) := by decide +kernel
theorem dX4_digest_12 : decode cX4_digest 12 = .ok (.iconst 4, 1) := by decide +kernel
theorem dX4_digest_13 : decode cX4_digest 13 = .ok (.if_icmp .ge 20, 3) := by decide +kernel
theorem dX4_digest_16 : decode cX4_digest 16 = .ok (.lload_n 1, 1) := by decide +kernel
theorem dX4_digest_17 : decode cX4_digest 17 = .ok (.aload_n 0, 1) := by decide +kernel
theorem dX4_digest_18 : decode cX4_digest 18 = .ok (.iload_n 3, 1) := by decide +kernel
theorem dX4_digest_19 : decode cX4_digest 19 = .ok (.invokevirtual 197, 3) := by decide +kernel
theorem dX4_digest_22 : decode cX4_digest 22 = .ok (.i2l, 1) := by decide +kernel
theorem dX4_digest_23 : decode cX4_digest 23 = .ok (.invokestatic 221, 3) := by decide +kernel
theorem dX4_digest_26 : decode cX4_digest 26 = .ok (.lstore_n 1, 1) := by decide +kernel
theorem dX4_digest_27 : decode cX4_digest 27 = .ok (.iinc 3 1, 3) := by decide +kernel
theorem dX4_digest_30 : decode cX4_digest 30 = .ok (.goto (-19), 3) := by decide +kernel
theorem dX4_digest_33 : decode cX4_digest 33 = .ok (.iconst 0, 1) := by decide +kernel
theorem dX4_digest_34 : decode cX4_digest 34 = .ok (.istore_n 3, 1) := by decide +kernel
theorem dX4_digest_35 : decode cX4_digest 35 = .ok (.iload_n 3, 1) := by decide +kernel
theorem dX4_digest_36 : decode cX4_digest 36 = .ok (.iconst 4, 1) := by decide +kernel
theorem dX4_digest_37 : decode cX4_digest 37 = .ok (.if_icmp .ge 67, 3) := by decide +kernel
theorem dX4_digest_40 : decode cX4_digest 40 = .ok (.lload_n 1, 1) := by decide +kernel
theorem dX4_digest_41 : decode cX4_digest 41 = .ok (.aload_n 0, 1) := by decide +kernel
theorem dX4_digest_42 : decode cX4_digest 42 = .ok (.iload_n 3, 1) := by decide +kernel
theorem dX4_digest_43 : decode cX4_digest 43 = .ok (.iconst 0, 1) := by decide +kernel
theorem dX4_digest_44 : decode cX4_digest 44 = .ok (.aload_n 0, 1) := by decide +kernel
theorem dX4_digest_45 : decode cX4_digest 45 = .ok (.getfield 14, 3) := by decide +kernel
theorem dX4_digest_48 : decode cX4_digest 48 = .ok (.iload_n 3, 1) := by decide +kernel
theorem dX4_digest_49 : decode cX4_digest 49 = .ok (.iaload, 1) := by decide +kernel
theorem dX4_digest_50 : decode cX4_digest 50 = .ok (.invokevirtual 124, 3) := by decide +kernel
theorem dX4_digest_53 : decode cX4_digest 53 = .ok (.invokestatic 227, 3) := by decide +kernel
theorem dX4_digest_56 : decode cX4_digest 56 = .ok (.aload_n 0, 1) := by decide +kernel
theorem dX4_digest_57 : decode cX4_digest 57 = .ok (.getfield 18, 3) := by decide +kernel
theorem dX4_digest_60 : decode cX4_digest 60 = .ok (.iload_n 3, 1) := by decide +kernel
theorem dX4_digest_61 : decode cX4_digest 61 = .ok (.iaload, 1) := by decide +kernel
theorem dX4_digest_62 : decode cX4_digest 62 = .ok (.i2l, 1) := by decide +kernel
theorem dX4_digest_63 : decode cX4_digest 63 = .ok (.invokestatic 221, 3) := by decide +kernel
theorem dX4_digest_66 : decode cX4_digest 66 = .ok (.lstore_n 1, 1) := by decide +kernel
theorem dX4_digest_67 : decode cX4_digest 67 = .ok (.lload_n 1, 1) := by decide +kernel
theorem dX4_digest_68 : decode cX4_digest 68 = .ok (.aload_n 0, 1) := by decide +kernel
theorem dX4_digest_69 : decode cX4_digest 69 = .ok (.iload_n 3, 1) := by decide +kernel
theorem dX4_digest_70 : decode cX4_digest 70 = .ok (.iconst 0, 1) := by decide +kernel
theorem dX4_digest_71 : decode cX4_digest 71 = .ok (.invokevirtual 156, 3) := by decide +kernel
theorem dX4_digest_74 : decode cX4_digest 74 = .ok (.i2l, 1) := by decide +kernel
theorem dX4_digest_75 : decode cX4_digest 75 = .ok (.invokestatic 221, 3) := by decide +kernel
theorem dX4_digest_78 : decode cX4_digest 78 = .ok (.aload_n 0, 1) := by decide +kernel
theorem dX4_digest_79 : decode cX4_digest 79 = .ok (.iload_n 3, 1) := by decide +kernel
theorem dX4_digest_80 : decode cX4_digest 80 = .ok (.iconst 1, 1) := by decide +kernel
theorem dX4_digest_81 : decode cX4_digest 81 = .ok (.invokevirtual 156, 3) := by decide +kernel
theorem dX4_digest_84 : decode cX4_digest 84 = .ok (.i2l, 1) := by decide +kernel
theorem dX4_digest_85 : decode cX4_digest 85 = .ok (.invokestatic 221, 3) := by decide +kernel
theorem dX4_digest_88 : decode cX4_digest 88 = .ok (.aload_n 0, 1) := by decide +kernel
theorem dX4_digest_89 : decode cX4_digest 89 = .ok (.iload_n 3, 1) := by decide +kernel
theorem dX4_digest_90 : decode cX4_digest 90 = .ok (.invokevirtual 191, 3) := by decide +kernel
theorem dX4_digest_93 : decode cX4_digest 93 = .ok (.i2l, 1) := by decide +kernel
theorem dX4_digest_94 : decode cX4_digest 94 = .ok (.invokestatic 221, 3) := by decide +kernel
theorem dX4_digest_97 : decode cX4_digest 97 = .ok (.lstore_n 1, 1) := by decide +kernel
theorem dX4_digest_98 : decode cX4_digest 98 = .ok (.iinc 3 1, 3) := by decide +kernel
theorem dX4_digest_101 : decode cX4_digest 101 = .ok (.goto (-66), 3) := by decide +kernel
theorem dX4_digest_104 : decode cX4_digest 104 = .ok (.iconst 0, 1) := by decide +kernel
theorem dX4_digest_105 : decode cX4_digest 105 = .ok (.istore_n 3, 1) := by decide +kernel
theorem dX4_digest_106 : decode cX4_digest 106 = .ok (.iload_n 3, 1) := by decide +kernel
theorem dX4_digest_107 : decode cX4_digest 107 = .ok (.iconst 4, 1) := by decide +kernel
theorem dX4_digest_108 : decode cX4_digest 108 = .ok (.if_icmp .ge 51, 3) := by decide +kernel
theorem dX4_digest_111 : decode cX4_digest 111 = .ok (.iconst 0, 1) := by decide +kernel
theorem dX4_digest_112 : decode cX4_digest 112 = .ok (.istore 4, 2) := by decide +kernel
theorem dX4_digest_114 : decode cX4_digest 114 = .ok (.iload 4, 2) := by decide +kernel
theorem dX4_digest_116 : decode cX4_digest 116 = .ok (.iconst 4, 1) := by decide +kernel
theorem dX4_digest_117 : decode cX4_digest 117 = .ok (.if_icmp .ge 36, 3) := by decide +kernel
theorem dX4_digest_120 : decode cX4_digest 120 = .ok (.lload_n 1, 1) := by decide +kernel
theorem dX4_digest_121 : decode cX4_digest 121 = .ok (.aload_n 0, 1) := by decide +kernel
theorem dX4_digest_122 : decode cX4_digest 122 = .ok (.iload_n 3, 1) := by decide +kernel
theorem dX4_digest_123 : decode cX4_digest 123 = .ok (.iload 4, 2) := by decide +kernel
theorem dX4_digest_125 : decode cX4_digest 125 = .ok (.invokevirtual 135, 3) := by decide +kernel
theorem dX4_digest_128 : decode cX4_digest 128 = .ok (.invokestatic 128, 3) := by decide +kernel
theorem dX4_digest_131 : decode cX4_digest 131 = .ok (.i2l, 1) := by decide +kernel
theorem dX4_digest_132 : decode cX4_digest 132 = .ok (.invokestatic 221, 3) := by decide +kernel
theorem dX4_digest_135 : decode cX4_digest 135 = .ok (.aload_n 0, 1) := by decide +kernel
theorem dX4_digest_136 : decode cX4_digest 136 = .ok (.iload_n 3, 1) := by decide +kernel
theorem dX4_digest_137 : decode cX4_digest 137 = .ok (.iload 4, 2) := by decide +kernel
theorem dX4_digest_139 : decode cX4_digest 139 = .ok (.invokevirtual 145, 3) := by decide +kernel
theorem dX4_digest_142 : decode cX4_digest 142 = .ok (.i2l, 1) := by decide +kernel
theorem dX4_digest_143 : decode cX4_digest 143 = .ok (.invokestatic 221, 3) := by decide +kernel
theorem dX4_digest_146 : decode cX4_digest 146 = .ok (.lstore_n 1, 1) := by decide +kernel
theorem dX4_digest_147 : decode cX4_digest 147 = .ok (.iinc 4 1, 3) := by decide +kernel
theorem dX4_digest_150 : decode cX4_digest 150 = .ok (.goto (-36), 3) := by decide +kernel
theorem dX4_digest_153 : decode cX4_digest 153 = .ok (.iinc 3 1, 3) := by decide +kernel
theorem dX4_digest_156 : decode cX4_digest 156 = .ok (.goto (-50), 3) := by decide +kernel
theorem dX4_digest_159 : decode cX4_digest 159 = .ok (.iconst 0, 1) := by decide +kernel
theorem dX4_digest_160 : decode cX4_digest 160 = .ok (.istore_n 3, 1) := by decide +kernel
theorem dX4_digest_161 : decode cX4_digest 161 = .ok (.iload_n 3, 1) := by decide +kernel
theorem dX4_digest_162 : decode cX4_digest 162 = .ok (.iconst 3, 1) := by decide +kernel
theorem dX4_digest_163 : decode cX4_digest 163 = .ok (.if_icmp .ge 19, 3) := by decide +kernel
theorem dX4_digest_166 : decode cX4_digest 166 = .ok (.lload_n 1, 1) := by decide +kernel
theorem dX4_digest_167 : decode cX4_digest 167 = .ok (.aload_n 0, 1) := by decide +kernel
theorem dX4_digest_168 : decode cX4_digest 168 = .ok (.iload_n 3, 1) := by decide +kernel
theorem dX4_digest_169 : decode cX4_digest 169 = .ok (.invokevirtual 181, 3) := by decide +kernel
theorem dX4_digest_172 : decode cX4_digest 172 = .ok (.invokestatic 227, 3) := by decide +kernel
theorem dX4_digest_175 : decode cX4_digest 175 = .ok (.lstore_n 1, 1) := by decide +kernel
theorem dX4_digest_176 : decode cX4_digest 176 = .ok (.iinc 3 1, 3) := by decide +kernel
theorem dX4_digest_179 : decode cX4_digest 179 = .ok (.goto (-18), 3) := by decide +kernel
theorem dX4_digest_182 : decode cX4_digest 182 = .ok (.lload_n 1, 1) := by decide +kernel
theorem dX4_digest_183 : decode cX4_digest 183 = .ok (.aload_n 0, 1) := by decide +kernel
theorem dX4_digest_184 : decode cX4_digest 184 = .ok (.invokevirtual 205, 3) := by decide +kernel
theorem dX4_digest_187 : decode cX4_digest 187 = .ok (.invokestatic 128, 3) := by decide +kernel
theorem dX4_digest_190 : decode cX4_digest 190 = .ok (.i2l, 1) := by decide +kernel
theorem dX4_digest_191 : decode cX4_digest 191 = .ok (.invokestatic 221, 3) := by decide +kernel
theorem dX4_digest_194 : decode cX4_digest 194 = .ok (.lreturn, 1) := by decide +kernel
theorem dJ5_init_d00df_0 : decode cJ5_init_d00df 0 = .ok (.aload_n 0, 1) := by decide +kernel
theorem dJ5_init_d00df_1 : decode cJ5_init_d00df 1 = .ok (.invokespecial 3, 3) := by decide +kernel
theorem dJ5_init_d00df_4 : decode cJ5_init_d00df 4 = .ok (.getstatic 18, 3) := by decide +kernel
theorem dJ5_init_d00df_7 : decode cJ5_init_d00df 7 = .ok (.ifCond .eq 18, 3) := by decide +kernel
theorem dJ5_init_d00df_10 : decode cJ5_init_d00df 10 = .ok (.aload_n 0, 1) := by decide +kernel
theorem dJ5_init_d00df_11 : decode cJ5_init_d00df 11 = .ok (.iload_n 1, 1) := by decide +kernel
theorem dJ5_init_d00df_12 : decode cJ5_init_d00df 12 = .ok (.newarray .byte, 2) := by decide +kernel
theorem dJ5_init_d00df_14 : decode cJ5_init_d00df 14 = .ok (.putfield 15, 3) := by decide +kernel
theorem dJ5_init_d00df_17 : decode cJ5_init_d00df 17 = .ok (.aload_n 0, 1) := by decide +kernel
theorem dJ5_init_d00df_18 : decode cJ5_init_d00df 18 = .ok (.iconst 0, 1) := by decide +kernel
theorem dJ5_init_d00df_19 : decode cJ5_init_d00df 19 = .ok (.putfield 22, 3) := by decide +kernel
theorem dJ5_init_d00df_22 : decode cJ5_init_d00df 22 = .ok (.goto 16, 3) := by decide +kernel
theorem dJ5_init_d00df_38 : decode cJ5_init_d00df 38 = .ok (.return_, 1) := by decide +kernel
theorem dJ5_length_8abf5_0 : decode cJ5_length_8abf5 0 = .ok (.aload_n 0, 1) := by decide +kernel
theorem dJ5_length_8abf5_1 : decode cJ5_length_8abf5 1 = .ok (.getfield 79, 3) := by decide +kernel
theorem dJ5_length_8abf5_4 : decode cJ5_length_8abf5 4 = .ok (.ireturn, 1) := by decide +kernel
theorem dJ5_ensureCapacityInternal_d00df_0 : decode cJ5_ensureCapacityInternal_d00df 0 = .ok (.aload_n 0, 1) := by decide +kernel
theorem dJ5_ensureCapacityInternal_d00df_1 : decode cJ5_ensureCapacityInternal_d00df 1 = .ok (.getfield 15, 3) := by decide +kernel
theorem dJ5_ensureCapacityInternal_d00df_4 : decode cJ5_ensureCapacityInternal_d00df 4 = .ok (.arraylength, 1) := by decide +kernel
theorem dJ5_ensureCapacityInternal_d00df_5 : decode cJ5_ensureCapacityInternal_d00df 5 = .ok (.aload_n 0, 1) := by decide +kernel
theorem dJ5_ensureCapacityInternal_d00df_6 : decode cJ5_ensureCapacityInternal_d00df 6 = .ok (.getfield 22, 3) := by decide +kernel
theorem dJ5_ensureCapacityInternal_d00df_9 : decode cJ5_ensureCapacityInternal_d00df 9 = .ok (.ishr, 1) := by decide +kernel
theorem dJ5_ensureCapacityInternal_d00df_10 : decode cJ5_ensureCapacityInternal_d00df 10 = .ok (.istore_n 2, 1) := by decide +kernel
theorem dJ5_ensureCapacityInternal_d00df_11 : decode cJ5_ensureCapacityInternal_d00df 11 = .ok (.iload_n 1, 1) := by decide +kernel
theorem dJ5_ensureCapacityInternal_d00df_12 : decode cJ5_ensureCapacityInternal_d00df 12 = .ok (.iload_n 2, 1) := by decide +kernel
theorem dJ5_ensureCapacityInternal_d00df_13 : decode cJ5_ensureCapacityInternal_d00df 13 = .ok (.isub, 1) := by decide +kernel
theorem dJ5_ensureCapacityInternal_d00df_14 : decode cJ5_ensureCapacityInternal_d00df 14 = .ok (.ifCond .le 24, 3) := by decide +kernel
theorem dJ5_ensureCapacityInternal_d00df_17 : decode cJ5_ensureCapacityInternal_d00df 17 = .ok (.aload_n 0, 1) := by decide +kernel
theorem dJ5_ensureCapacityInternal_d00df_18 : decode cJ5_ensureCapacityInternal_d00df 18 = .ok (.aload_n 0, 1) := by decide +kernel
theorem dJ5_ensureCapacityInternal_d00df_19 : decode cJ5_ensureCapacityInternal_d00df 19 = .ok (.getfield 15, 3) := by decide +kernel
theorem dJ5_ensureCapacityInternal_d00df_22 : decode cJ5_ensureCapacityInternal_d00df 22 = .ok (.aload_n 0, 1) := by decide +kernel
theorem dJ5_ensureCapacityInternal_d00df_23 : decode cJ5_ensureCapacityInternal_d00df 23 = .ok (.iload_n 1, 1) := by decide +kernel
theorem dJ5_ensureCapacityInternal_d00df_24 : decode cJ5_ensureCapacityInternal_d00df 24 = .ok (.invokevirtual 104, 3) := by decide +kernel
theorem dJ5_ensureCapacityInternal_d00df_27 : decode cJ5_ensureCapacityInternal_d00df 27 = .ok (.aload_n 0, 1) := by decide +kernel
theorem dJ5_ensureCapacityInternal_d00df_28 : decode cJ5_ensureCapacityInternal_d00df 28 = .ok (.getfield 22, 3) := by decide +kernel
theorem dJ5_ensureCapacityInternal_d00df_31 : decode cJ5_ensureCapacityInternal_d00df 31 = .ok (.ishl, 1) := by decide +kernel
theorem dJ5_ensureCapacityInternal_d00df_32 : decode cJ5_ensureCapacityInternal_d00df 32 = .ok (.invokestatic 108, 3) := by decide +kernel
theorem dJ5_ensureCapacityInternal_d00df_35 : decode cJ5_ensureCapacityInternal_d00df 35 = .ok (.putfield 15, 3) := by decide +kernel
theorem dJ5_ensureCapacityInternal_d00df_38 : decode cJ5_ensureCapacityInternal_d00df 38 = .ok (.return_, 1) := by decide +kernel
theorem dJ5_newCapacity_0f7a4_0 : decode cJ5_newCapacity_0f7a4 0 = .ok (.aload_n 0, 1) := by decide +kernel
theorem dJ5_newCapacity_0f7a4_1 : decode cJ5_newCapacity_0f7a4 1 = .ok (.getfield 15, 3) := by decide +kernel
theorem dJ5_newCapacity_0f7a4_4 : decode cJ5_newCapacity_0f7a4 4 = .ok (.arraylength, 1) := by decide +kernel
theorem dJ5_newCapacity_0f7a4_5 : decode cJ5_newCapacity_0f7a4 5 = .ok (.istore_n 2, 1) := by decide +kernel
theorem dJ5_newCapacity_0f7a4_6 : decode cJ5_newCapacity_0f7a4 6 = .ok (.iload_n 1, 1) := by decide +kernel
theorem dJ5_newCapacity_0f7a4_7 : decode cJ5_newCapacity_0f7a4 7 = .ok (.aload_n 0, 1) := by decide +kernel
theorem dJ5_newCapacity_0f7a4_8 : decode cJ5_newCapacity_0f7a4 8 = .ok (.getfield 22, 3) := by decide +kernel
theorem dJ5_newCapacity_0f7a4_11 : decode cJ5_newCapacity_0f7a4 11 = .ok (.ishl, 1) := by decide +kernel
theorem dJ5_newCapacity_0f7a4_12 : decode cJ5_newCapacity_0f7a4 12 = .ok (.istore_n 3, 1) := by decide +kernel
theorem dJ5_newCapacity_0f7a4_13 : decode cJ5_newCapacity_0f7a4 13 = .ok (.iload_n 3, 1) := by decide +kernel
theorem dJ5_newCapacity_0f7a4_14 : decode cJ5_newCapacity_0f7a4 14 = .ok (.iload_n 2, 1) := by decide +kernel
theorem dJ5_newCapacity_0f7a4_15 : decode cJ5_newCapacity_0f7a4 15 = .ok (.isub, 1) := by decide +kernel
theorem dJ5_newCapacity_0f7a4_16 : decode cJ5_newCapacity_0f7a4 16 = .ok (.istore 4, 2) := by decide +kernel
theorem dJ5_newCapacity_0f7a4_18 : decode cJ5_newCapacity_0f7a4 18 = .ok (.iload_n 2, 1) := by decide +kernel
theorem dJ5_newCapacity_0f7a4_19 : decode cJ5_newCapacity_0f7a4 19 = .ok (.iload 4, 2) := by decide +kernel
theorem dJ5_newCapacity_0f7a4_21 : decode cJ5_newCapacity_0f7a4 21 = .ok (.iload_n 2, 1) := by decide +kernel
theorem dJ5_newCapacity_0f7a4_22 : decode cJ5_newCapacity_0f7a4 22 = .ok (.iconst 2, 1) := by decide +kernel
theorem dJ5_newCapacity_0f7a4_23 : decode cJ5_newCapacity_0f7a4 23 = .ok (.aload_n 0, 1) := by decide +kernel
theorem dJ5_newCapacity_0f7a4_24 : decode cJ5_newCapacity_0f7a4 24 = .ok (.getfield 22, 3) := by decide +kernel
theorem dJ5_newCapacity_0f7a4_27 : decode cJ5_newCapacity_0f7a4 27 = .ok (.ishl, 1) := by decide +kernel
theorem dJ5_newCapacity_0f7a4_28 : decode cJ5_newCapacity_0f7a4 28 = .ok (.iadd, 1) := by decide +kernel
theorem dJ5_newCapacity_0f7a4_29 : decode cJ5_newCapacity_0f7a4 29 = .ok (.invokestatic 114, 3) := by decide +kernel
theorem dJ5_newCapacity_0f7a4_32 : decode cJ5_newCapacity_0f7a4 32 = .ok (.istore 5, 2) := by decide +kernel
theorem dJ5_newCapacity_0f7a4_34 : decode cJ5_newCapacity_0f7a4 34 = .ok (.iload 5, 2) := by decide +kernel
theorem dJ5_newCapacity_0f7a4_36 : decode cJ5_newCapacity_0f7a4 36 = .ok (.ldc 39, 2) := by decide +kernel
theorem dJ5_newCapacity_0f7a4_38 : decode cJ5_newCapacity_0f7a4 38 = .ok (.if_icmp .ne 13, 3) := by decide +kernel
theorem dJ5_newCapacity_0f7a4_51 : decode cJ5_newCapacity_0f7a4 51 = .ok (.iload 5, 2) := by decide +kernel
theorem dJ5_newCapacity_0f7a4_53 : decode cJ5_newCapacity_0f7a4 53 = .ok (.aload_n 0, 1) := by decide +kernel
theorem dJ5_newCapacity_0f7a4_54 : decode cJ5_newCapacity_0f7a4 54 = .ok (.getfield 22, 3) := by decide +kernel
theorem dJ5_newCapacity_0f7a4_57 : decode cJ5_newCapacity_0f7a4 57 = .ok (.ishr, 1) := by decide +kernel
theorem dJ5_newCapacity_0f7a4_58 : decode cJ5_newCapacity_0f7a4 58 = .ok (.ireturn, 1) := by decide +kernel
theorem dJ5_setLength_d00df_0 : decode cJ5_setLength_d00df 0 = .ok (.iload_n 1, 1) := by decide +kernel
theorem dJ5_setLength_d00df_1 : decode cJ5_setLength_d00df 1 = .ok (.ifCond .ge 12, 3) := by decide +kernel
theorem dJ5_setLength_d00df_13 : decode cJ5_setLength_d00df 13 = .ok (.aload_n 0, 1) := by decide +kernel
theorem dJ5_setLength_d00df_14 : decode cJ5_setLength_d00df 14 = .ok (.iload_n 1, 1) := by decide +kernel
theorem dJ5_setLength_d00df_15 : decode cJ5_setLength_d00df 15 = .ok (.invokevirtual 100, 3) := by decide +kernel
theorem dJ5_setLength_d00df_18 : decode cJ5_setLength_d00df 18 = .ok (.aload_n 0, 1) := by decide +kernel
theorem dJ5_setLength_d00df_19 : decode cJ5_setLength_d00df 19 = .ok (.getfield 79, 3) := by decide +kernel
theorem dJ5_setLength_d00df_22 : decode cJ5_setLength_d00df 22 = .ok (.iload_n 1, 1) := by decide +kernel
theorem dJ5_setLength_d00df_23 : decode cJ5_setLength_d00df 23 = .ok (.if_icmp .ge 40, 3) := by decide +kernel
theorem dJ5_setLength_d00df_63 : decode cJ5_setLength_d00df 63 = .ok (.aload_n 0, 1) := by decide +kernel
theorem dJ5_setLength_d00df_64 : decode cJ5_setLength_d00df 64 = .ok (.getfield 79, 3) := by decide +kernel
theorem dJ5_setLength_d00df_67 : decode cJ5_setLength_d00df 67 = .ok (.iload_n 1, 1) := by decide +kernel
theorem dJ5_setLength_d00df_68 : decode cJ5_setLength_d00df 68 = .ok (.if_icmp .le 8, 3) := by decide +kernel
theorem dJ5_setLength_d00df_71 : decode cJ5_setLength_d00df 71 = .ok (.aload_n 0, 1) := by decide +kernel
theorem dJ5_setLength_d00df_72 : decode cJ5_setLength_d00df 72 = .ok (.iconst 1, 1) := by decide +kernel
theorem dJ5_setLength_d00df_73 : decode cJ5_setLength_d00df 73 = .ok (.putfield 73, 3) := by decide +kernel
theorem dJ5_setLength_d00df_76 : decode cJ5_setLength_d00df 76 = .ok (.aload_n 0, 1) := by decide +kernel
theorem dJ5_setLength_d00df_77 : decode cJ5_setLength_d00df 77 = .ok (.iload_n 1, 1) := by decide +kernel
theorem dJ5_setLength_d00df_78 : decode cJ5_setLength_d00df 78 = .ok (.putfield 79, 3) := by decide +kernel
theorem dJ5_setLength_d00df_81 : decode cJ5_setLength_d00df 81 = .ok (.return_, 1) := by decide +kernel
theorem dJ5_charAt_5068e_0 : decode cJ5_charAt_5068e 0 = .ok (.aload_n 0, 1) := by decide +kernel
theorem dJ5_charAt_5068e_1 : decode cJ5_charAt_5068e 1 = .ok (.getfield 22, 3) := by decide +kernel
theorem dJ5_charAt_5068e_4 : decode cJ5_charAt_5068e 4 = .ok (.istore_n 2, 1) := by decide +kernel
theorem dJ5_charAt_5068e_5 : decode cJ5_charAt_5068e 5 = .ok (.aload_n 0, 1) := by decide +kernel
theorem dJ5_charAt_5068e_6 : decode cJ5_charAt_5068e 6 = .ok (.getfield 15, 3) := by decide +kernel
theorem dJ5_charAt_5068e_9 : decode cJ5_charAt_5068e 9 = .ok (.astore_n 3, 1) := by decide +kernel
theorem dJ5_charAt_5068e_10 : decode cJ5_charAt_5068e 10 = .ok (.aload_n 0, 1) := by decide +kernel
theorem dJ5_charAt_5068e_11 : decode cJ5_charAt_5068e 11 = .ok (.getfield 79, 3) := by decide +kernel
theorem dJ5_charAt_5068e_14 : decode cJ5_charAt_5068e 14 = .ok (.aload_n 3, 1) := by decide +kernel
theorem dJ5_charAt_5068e_15 : decode cJ5_charAt_5068e 15 = .ok (.arraylength, 1) := by decide +kernel
theorem dJ5_charAt_5068e_16 : decode cJ5_charAt_5068e 16 = .ok (.iload_n 2, 1) := by decide +kernel
theorem dJ5_charAt_5068e_17 : decode cJ5_charAt_5068e 17 = .ok (.ishr, 1) := by decide +kernel
theorem dJ5_charAt_5068e_18 : decode cJ5_charAt_5068e 18 = .ok (.invokestatic 138, 3) := by decide +kernel
theorem dJ5_charAt_5068e_21 : decode cJ5_charAt_5068e 21 = .ok (.istore 4, 2) := by decide +kernel
theorem dJ5_charAt_5068e_23 : decode cJ5_charAt_5068e 23 = .ok (.iload_n 1, 1) := by decide +kernel
theorem dJ5_charAt_5068e_24 : decode cJ5_charAt_5068e 24 = .ok (.iload 4, 2) := by decide +kernel
theorem dJ5_charAt_5068e_26 : decode cJ5_charAt_5068e 26 = .ok (.invokestatic 144, 3) := by decide +kernel
theorem dJ5_charAt_5068e_29 : decode cJ5_charAt_5068e 29 = .ok (.iload_n 2, 1) := by decide +kernel
theorem dJ5_charAt_5068e_30 : decode cJ5_charAt_5068e 30 = .ok (.ifCond .ne 12, 3) := by decide +kernel
theorem dJ5_charAt_5068e_33 : decode cJ5_charAt_5068e 33 = .ok (.aload_n 3, 1) := by decide +kernel
theorem dJ5_charAt_5068e_34 : decode cJ5_charAt_5068e 34 = .ok (.iload_n 1, 1) := by decide +kernel
theorem dJ5_charAt_5068e_35 : decode cJ5_charAt_5068e 35 = .ok (.baload, 1) := by decide +kernel
theorem dJ5_charAt_5068e_36 : decode cJ5_charAt_5068e 36 = .ok (.sipush 255, 3) := by decide +kernel
theorem dJ5_charAt_5068e_39 : decode cJ5_charAt_5068e 39 = .ok (.iand, 1) := by decide +kernel
theorem dJ5_charAt_5068e_40 : decode cJ5_charAt_5068e 40 = .ok (.i2c, 1) := by decide +kernel
theorem dJ5_charAt_5068e_41 : decode cJ5_charAt_5068e 41 = .ok (.ireturn, 1) := by decide +kernel
theorem dJ5_append_cf1ce_0 : decode cJ5_append_cf1ce 0 = .ok (.aload_n 1, 1) := by decide +kernel
theorem dJ5_append_cf1ce_1 : decode cJ5_append_cf1ce 1 = .ok (.ifnonnull 8, 3) := by decide +kernel
theorem dJ5_append_cf1ce_9 : decode cJ5_append_cf1ce 9 = .ok (.aload_n 1, 1) := by decide +kernel
theorem dJ5_append_cf1ce_10 : decode cJ5_append_cf1ce 10 = .ok (.invokevirtual 32, 3) := by decide +kernel
theorem dJ5_append_cf1ce_13 : decode cJ5_append_cf1ce 13 = .ok (.istore_n 2, 1) := by decide +kernel
theorem dJ5_append_cf1ce_14 : decode cJ5_append_cf1ce 14 = .ok (.aload_n 0, 1) := by decide +kernel
theorem dJ5_append_cf1ce_15 : decode cJ5_append_cf1ce 15 = .ok (.aload_n 0, 1) := by decide +kernel
theorem dJ5_append_cf1ce_16 : decode cJ5_append_cf1ce 16 = .ok (.getfield 79, 3) := by decide +kernel
theorem dJ5_append_cf1ce_19 : decode cJ5_append_cf1ce 19 = .ok (.iload_n 2, 1) := by decide +kernel
theorem dJ5_append_cf1ce_20 : decode cJ5_append_cf1ce 20 = .ok (.iadd, 1) := by decide +kernel
theorem dJ5_append_cf1ce_21 : decode cJ5_append_cf1ce 21 = .ok (.invokevirtual 100, 3) := by decide +kernel
theorem dJ5_append_cf1ce_24 : decode cJ5_append_cf1ce 24 = .ok (.aload_n 0, 1) := by decide +kernel
theorem dJ5_append_cf1ce_25 : decode cJ5_append_cf1ce 25 = .ok (.aload_n 0, 1) := by decide +kernel
theorem dJ5_append_cf1ce_26 : decode cJ5_append_cf1ce 26 = .ok (.getfield 79, 3) := by decide +kernel
theorem dJ5_append_cf1ce_29 : decode cJ5_append_cf1ce 29 = .ok (.aload_n 1, 1) := by decide +kernel
theorem dJ5_append_cf1ce_30 : decode cJ5_append_cf1ce 30 = .ok (.invokevirtual 208, 3) := by decide +kernel
theorem dJ5_append_cf1ce_33 : decode cJ5_append_cf1ce 33 = .ok (.aload_n 0, 1) := by decide +kernel
theorem dJ5_append_cf1ce_34 : decode cJ5_append_cf1ce 34 = .ok (.dup, 1) := by decide +kernel
theorem dJ5_append_cf1ce_35 : decode cJ5_append_cf1ce 35 = .ok (.getfield 79, 3) := by decide +kernel
theorem dJ5_append_cf1ce_38 : decode cJ5_append_cf1ce 38 = .ok (.iload_n 2, 1) := by decide +kernel
theorem dJ5_append_cf1ce_39 : decode cJ5_append_cf1ce 39 = .ok (.iadd, 1) := by decide +kernel
theorem dJ5_append_cf1ce_40 : decode cJ5_append_cf1ce 40 = .ok (.putfield 79, 3) := by decide +kernel
theorem dJ5_append_cf1ce_43 : decode cJ5_append_cf1ce 43 = .ok (.aload_n 0, 1) := by decide +kernel
theorem dJ5_append_cf1ce_44 : decode cJ5_append_cf1ce 44 = .ok (.areturn, 1) := by decide +kernel
theorem dJ5_append_3fe6f_0 : decode cJ5_append_3fe6f 0 = .ok (.aload_n 0, 1) := by decide +kernel
theorem dJ5_append_3fe6f_1 : decode cJ5_append_3fe6f 1 = .ok (.aload_n 0, 1) := by decide +kernel
theorem dJ5_append_3fe6f_2 : decode cJ5_append_3fe6f 2 = .ok (.getfield 79, 3) := by decide +kernel
theorem dJ5_append_3fe6f_5 : decode cJ5_append_3fe6f 5 = .ok (.iconst 1, 1) := by decide +kernel
theorem dJ5_append_3fe6f_6 : decode cJ5_append_3fe6f 6 = .ok (.iadd, 1) := by decide +kernel
theorem dJ5_append_3fe6f_7 : decode cJ5_append_3fe6f 7 = .ok (.invokevirtual 100, 3) := by decide +kernel
theorem dJ5_append_3fe6f_10 : decode cJ5_append_3fe6f 10 = .ok (.aload_n 0, 1) := by decide +kernel
theorem dJ5_append_3fe6f_11 : decode cJ5_append_3fe6f 11 = .ok (.invokevirtual 83, 3) := by decide +kernel
theorem dJ5_append_3fe6f_14 : decode cJ5_append_3fe6f 14 = .ok (.ifCond .eq 31, 3) := by decide +kernel
theorem dJ5_append_3fe6f_17 : decode cJ5_append_3fe6f 17 = .ok (.iload_n 1, 1) := by decide +kernel
theorem dJ5_append_3fe6f_18 : decode cJ5_append_3fe6f 18 = .ok (.invokestatic 191, 3) := by decide +kernel
theorem dJ5_append_3fe6f_21 : decode cJ5_append_3fe6f 21 = .ok (.ifCond .eq 24, 3) := by decide +kernel
theorem dJ5_append_3fe6f_24 : decode cJ5_append_3fe6f 24 = .ok (.aload_n 0, 1) := by decide +kernel
theorem dJ5_append_3fe6f_25 : decode cJ5_append_3fe6f 25 = .ok (.getfield 15, 3) := by decide +kernel
theorem dJ5_append_3fe6f_28 : decode cJ5_append_3fe6f 28 = .ok (.aload_n 0, 1) := by decide +kernel
theorem dJ5_append_3fe6f_29 : decode cJ5_append_3fe6f 29 = .ok (.dup, 1) := by decide +kernel
theorem dJ5_append_3fe6f_30 : decode cJ5_append_3fe6f 30 = .ok (.getfield 79, 3) := by decide +kernel
theorem dJ5_append_3fe6f_33 : decode cJ5_append_3fe6f 33 = .ok (.dup_x1, 1) := by decide +kernel
theorem dJ5_append_3fe6f_34 : decode cJ5_append_3fe6f 34 = .ok (.iconst 1, 1) := by decide +kernel
theorem dJ5_append_3fe6f_35 : decode cJ5_append_3fe6f 35 = .ok (.iadd, 1) := by decide +kernel
theorem dJ5_append_3fe6f_36 : decode cJ5_append_3fe6f 36 = .ok (.putfield 79, 3) := by decide +kernel
theorem dJ5_append_3fe6f_39 : decode cJ5_append_3fe6f 39 = .ok (.iload_n 1, 1) := by decide +kernel
theorem dJ5_append_3fe6f_40 : decode cJ5_append_3fe6f 40 = .ok (.i2b, 1) := by decide +kernel
theorem dJ5_append_3fe6f_41 : decode cJ5_append_3fe6f 41 = .ok (.bastore, 1) := by decide +kernel
theorem dJ5_append_3fe6f_42 : decode cJ5_append_3fe6f 42 = .ok (.goto 33, 3) := by decide +kernel
theorem dJ5_append_3fe6f_75 : decode cJ5_append_3fe6f 75 = .ok (.aload_n 0, 1) := by decide +kernel
theorem dJ5_append_3fe6f_76 : decode cJ5_append_3fe6f 76 = .ok (.areturn, 1) := by decide +kernel
theorem dJ5_append_c97b9_0 : decode cJ5_append_c97b9 0 = .ok (.aload_n 0, 1) := by decide +kernel
theorem dJ5_append_c97b9_1 : decode cJ5_append_c97b9 1 = .ok (.getfield 79, 3) := by decide +kernel
theorem dJ5_append_c97b9_4 : decode cJ5_append_c97b9 4 = .ok (.istore_n 2, 1) := by decide +kernel
theorem dJ5_append_c97b9_5 : decode cJ5_append_c97b9 5 = .ok (.iload_n 2, 1) := by decide +kernel
theorem dJ5_append_c97b9_6 : decode cJ5_append_c97b9 6 = .ok (.iload_n 1, 1) := by decide +kernel
theorem dJ5_append_c97b9_7 : decode cJ5_append_c97b9 7 = .ok (.invokestatic 245, 3) := by decide +kernel
theorem dJ5_append_c97b9_10 : decode cJ5_append_c97b9 10 = .ok (.iadd, 1) := by decide +kernel
theorem dJ5_append_c97b9_11 : decode cJ5_append_c97b9 11 = .ok (.istore_n 3, 1) := by decide +kernel
theorem dJ5_append_c97b9_12 : decode cJ5_append_c97b9 12 = .ok (.aload_n 0, 1) := by decide +kernel
theorem dJ5_append_c97b9_13 : decode cJ5_append_c97b9 13 = .ok (.iload_n 3, 1) := by decide +kernel
theorem dJ5_append_c97b9_14 : decode cJ5_append_c97b9 14 = .ok (.invokevirtual 100, 3) := by decide +kernel
theorem dJ5_append_c97b9_17 : decode cJ5_append_c97b9 17 = .ok (.aload_n 0, 1) := by decide +kernel
theorem dJ5_append_c97b9_18 : decode cJ5_append_c97b9 18 = .ok (.invokevirtual 83, 3) := by decide +kernel
theorem dJ5_append_c97b9_21 : decode cJ5_append_c97b9 21 = .ok (.ifCond .eq 16, 3) := by decide +kernel
theorem dJ5_append_c97b9_24 : decode cJ5_append_c97b9 24 = .ok (.iload_n 1, 1) := by decide +kernel
theorem dJ5_append_c97b9_25 : decode cJ5_append_c97b9 25 = .ok (.iload_n 3, 1) := by decide +kernel
theorem dJ5_append_c97b9_26 : decode cJ5_append_c97b9 26 = .ok (.aload_n 0, 1) := by decide +kernel
theorem dJ5_append_c97b9_27 : decode cJ5_append_c97b9 27 = .ok (.getfield 15, 3) := by decide +kernel
theorem dJ5_append_c97b9_30 : decode cJ5_append_c97b9 30 = .ok (.invokestatic 248, 3) := by decide +kernel
theorem dJ5_append_c97b9_33 : decode cJ5_append_c97b9 33 = .ok (.pop, 1) := by decide +kernel
theorem dJ5_append_c97b9_34 : decode cJ5_append_c97b9 34 = .ok (.goto 14, 3) := by decide +kernel
theorem dJ5_append_c97b9_48 : decode cJ5_append_c97b9 48 = .ok (.aload_n 0, 1) := by decide +kernel
theorem dJ5_append_c97b9_49 : decode cJ5_append_c97b9 49 = .ok (.iload_n 3, 1) := by decide +kernel
theorem dJ5_append_c97b9_50 : decode cJ5_append_c97b9 50 = .ok (.putfield 79, 3) := by decide +kernel
theorem dJ5_append_c97b9_53 : decode cJ5_append_c97b9 53 = .ok (.aload_n 0, 1) := by decide +kernel
theorem dJ5_append_c97b9_54 : decode cJ5_append_c97b9 54 = .ok (.areturn, 1) := by decide +kernel
theorem dJ5_getValue_6d5f1_0 : decode cJ5_getValue_6d5f1 0 = .ok (.aload_n 0, 1) := by decide +kernel
theorem dJ5_getValue_6d5f1_1 : decode cJ5_getValue_6d5f1 1 = .ok (.getfield 15, 3) := by decide +kernel
theorem dJ5_getValue_6d5f1_4 : decode cJ5_getValue_6d5f1 4 = .ok (.areturn, 1) := by decide +kernel
theorem dJ5_isLatin1_aae02_0 : decode cJ5_isLatin1_aae02 0 = .ok (.getstatic 18, 3) := by decide +kernel
theorem dJ5_isLatin1_aae02_3 : decode cJ5_isLatin1_aae02 3 = .ok (.ifCond .eq 14, 3) := by decide +kernel
theorem dJ5_isLatin1_aae02_6 : decode cJ5_isLatin1_aae02 6 = .ok (.aload_n 0, 1) := by decide +kernel
theorem dJ5_isLatin1_aae02_7 : decode cJ5_isLatin1_aae02 7 = .ok (.getfield 22, 3) := by decide +kernel
theorem dJ5_isLatin1_aae02_10 : decode cJ5_isLatin1_aae02 10 = .ok (.ifCond .ne 7, 3) := by decide +kernel
theorem dJ5_isLatin1_aae02_13 : decode cJ5_isLatin1_aae02 13 = .ok (.iconst 1, 1) := by decide +kernel
theorem dJ5_isLatin1_aae02_14 : decode cJ5_isLatin1_aae02 14 = .ok (.goto 4, 3) := by decide +kernel
theorem dJ5_isLatin1_aae02_18 : decode cJ5_isLatin1_aae02 18 = .ok (.ireturn, 1) := by decide +kernel
theorem dJ5_inflateIfNeededFor_a7421_0 : decode cJ5_inflateIfNeededFor_a7421 0 = .ok (.getstatic 18, 3) := by decide +kernel
theorem dJ5_inflateIfNeededFor_a7421_3 : decode cJ5_inflateIfNeededFor_a7421 3 = .ok (.ifCond .eq 18, 3) := by decide +kernel
theorem dJ5_inflateIfNeededFor_a7421_6 : decode cJ5_inflateIfNeededFor_a7421 6 = .ok (.aload_n 0, 1) := by decide +kernel
theorem dJ5_inflateIfNeededFor_a7421_7 : decode cJ5_inflateIfNeededFor_a7421 7 = .ok (.getfield 22, 3) := by decide +kernel
theorem dJ5_inflateIfNeededFor_a7421_10 : decode cJ5_inflateIfNeededFor_a7421 10 = .ok (.aload_n 1, 1) := by decide +kernel
theorem dJ5_inflateIfNeededFor_a7421_11 : decode cJ5_inflateIfNeededFor_a7421 11 = .ok (.invokevirtual 40, 3) := by decide +kernel
theorem dJ5_inflateIfNeededFor_a7421_14 : decode cJ5_inflateIfNeededFor_a7421 14 = .ok (.if_icmp .eq 7, 3) := by decide +kernel
theorem dJ5_inflateIfNeededFor_a7421_21 : decode cJ5_inflateIfNeededFor_a7421 21 = .ok (.return_, 1) := by decide +kernel
theorem dJ5_putStringAt_47b60_0 : decode cJ5_putStringAt_47b60 0 = .ok (.aload_n 0, 1) := by decide +kernel
theorem dJ5_putStringAt_47b60_1 : decode cJ5_putStringAt_47b60 1 = .ok (.aload_n 2, 1) := by decide +kernel
theorem dJ5_putStringAt_47b60_2 : decode cJ5_putStringAt_47b60 2 = .ok (.invokevirtual 397, 3) := by decide +kernel
theorem dJ5_putStringAt_47b60_5 : decode cJ5_putStringAt_47b60 5 = .ok (.aload_n 2, 1) := by decide +kernel
theorem dJ5_putStringAt_47b60_6 : decode cJ5_putStringAt_47b60 6 = .ok (.aload_n 0, 1) := by decide +kernel
theorem dJ5_putStringAt_47b60_7 : decode cJ5_putStringAt_47b60 7 = .ok (.getfield 15, 3) := by decide +kernel
theorem dJ5_putStringAt_47b60_10 : decode cJ5_putStringAt_47b60 10 = .ok (.iload_n 1, 1) := by decide +kernel
theorem dJ5_putStringAt_47b60_11 : decode cJ5_putStringAt_47b60 11 = .ok (.aload_n 0, 1) := by decide +kernel
theorem dJ5_putStringAt_47b60_12 : decode cJ5_putStringAt_47b60 12 = .ok (.getfield 22, 3) := by decide +kernel
theorem dJ5_putStringAt_47b60_15 : decode cJ5_putStringAt_47b60 15 = .ok (.invokevirtual 399, 3) := by decide +kernel
theorem dJ5_putStringAt_47b60_18 : decode cJ5_putStringAt_47b60 18 = .ok (.return_, 1) := by decide +kernel
theorem dJ6_getChars_ba4f3_0 : decode cJ6_getChars_ba4f3 0 = .ok (.iload_n 1, 1) := by decide +kernel
theorem dJ6_getChars_ba4f3_1 : decode cJ6_getChars_ba4f3 1 = .ok (.istore 5, 2) := by decide +kernel
theorem dJ6_getChars_ba4f3_3 : decode cJ6_getChars_ba4f3 3 = .ok (.iload_n 0, 1) := by decide +kernel
theorem dJ6_getChars_ba4f3_4 : decode cJ6_getChars_ba4f3 4 = .ok (.ifCond .ge 7, 3) := by decide +kernel
theorem dJ6_getChars_ba4f3_11 : decode cJ6_getChars_ba4f3 11 = .ok (.iconst 0, 1) := by decide +kernel
theorem dJ6_getChars_ba4f3_12 : decode cJ6_getChars_ba4f3 12 = .ok (.istore 6, 2) := by decide +kernel
theorem dJ6_getChars_ba4f3_14 : decode cJ6_getChars_ba4f3 14 = .ok (.iload 6, 2) := by decide +kernel
theorem dJ6_getChars_ba4f3_16 : decode cJ6_getChars_ba4f3 16 = .ok (.ifCond .ne 6, 3) := by decide +kernel
theorem dJ6_getChars_ba4f3_19 : decode cJ6_getChars_ba4f3 19 = .ok (.iload_n 0, 1) := by decide +kernel
theorem dJ6_getChars_ba4f3_20 : decode cJ6_getChars_ba4f3 20 = .ok (.ineg, 1) := by decide +kernel
theorem dJ6_getChars_ba4f3_21 : decode cJ6_getChars_ba4f3 21 = .ok (.istore_n 0, 1) := by decide +kernel
theorem dJ6_getChars_ba4f3_22 : decode cJ6_getChars_ba4f3 22 = .ok (.iload_n 0, 1) := by decide +kernel
theorem dJ6_getChars_ba4f3_23 : decode cJ6_getChars_ba4f3 23 = .ok (.bipush (-100), 2) := by decide +kernel
theorem dJ6_getChars_ba4f3_25 : decode cJ6_getChars_ba4f3 25 = .ok (.if_icmp .gt 47, 3) := by decide +kernel
theorem dJ6_getChars_ba4f3_72 : decode cJ6_getChars_ba4f3 72 = .ok (.aload_n 2, 1) := by decide +kernel
theorem dJ6_getChars_ba4f3_73 : decode cJ6_getChars_ba4f3 73 = .ok (.iinc 5 (-1), 3) := by decide +kernel
theorem dJ6_getChars_ba4f3_76 : decode cJ6_getChars_ba4f3 76 = .ok (.iload 5, 2) := by decide +kernel
theorem dJ6_getChars_ba4f3_78 : decode cJ6_getChars_ba4f3 78 = .ok (.getstatic 83, 3) := by decide +kernel
theorem dJ6_getChars_ba4f3_81 : decode cJ6_getChars_ba4f3 81 = .ok (.iload_n 0, 1) := by decide +kernel
theorem dJ6_getChars_ba4f3_82 : decode cJ6_getChars_ba4f3 82 = .ok (.ineg, 1) := by decide +kernel
theorem dJ6_getChars_ba4f3_83 : decode cJ6_getChars_ba4f3 83 = .ok (.baload, 1) := by decide +kernel
theorem dJ6_getChars_ba4f3_84 : decode cJ6_getChars_ba4f3 84 = .ok (.bastore, 1) := by decide +kernel
theorem dJ6_getChars_ba4f3_85 : decode cJ6_getChars_ba4f3 85 = .ok (.iload_n 0, 1) := by decide +kernel
theorem dJ6_getChars_ba4f3_86 : decode cJ6_getChars_ba4f3 86 = .ok (.bipush (-9), 2) := by decide +kernel
theorem dJ6_getChars_ba4f3_88 : decode cJ6_getChars_ba4f3 88 = .ok (.if_icmp .ge 16, 3) := by decide +kernel
theorem dJ6_getChars_ba4f3_91 : decode cJ6_getChars_ba4f3 91 = .ok (.aload_n 2, 1) := by decide +kernel
theorem dJ6_getChars_ba4f3_92 : decode cJ6_getChars_ba4f3 92 = .ok (.iinc 5 (-1), 3) := by decide +kernel
theorem dJ6_getChars_ba4f3_95 : decode cJ6_getChars_ba4f3 95 = .ok (.iload 5, 2) := by decide +kernel
theorem dJ6_getChars_ba4f3_97 : decode cJ6_getChars_ba4f3 97 = .ok (.getstatic 87, 3) := by decide +kernel
theorem dJ6_getChars_ba4f3_100 : decode cJ6_getChars_ba4f3 100 = .ok (.iload_n 0, 1) := by decide +kernel
theorem dJ6_getChars_ba4f3_101 : decode cJ6_getChars_ba4f3 101 = .ok (.ineg, 1) := by decide +kernel
theorem dJ6_getChars_ba4f3_102 : decode cJ6_getChars_ba4f3 102 = .ok (.baload, 1) := by decide +kernel
theorem dJ6_getChars_ba4f3_103 : decode cJ6_getChars_ba4f3 103 = .ok (.bastore, 1) := by decide +kernel
theorem dJ6_getChars_ba4f3_104 : decode cJ6_getChars_ba4f3 104 = .ok (.iload 6, 2) := by decide +kernel
theorem dJ6_getChars_ba4f3_106 : decode cJ6_getChars_ba4f3 106 = .ok (.ifCond .eq 12, 3) := by decide +kernel
theorem dJ6_getChars_ba4f3_118 : decode cJ6_getChars_ba4f3 118 = .ok (.iload 5, 2) := by decide +kernel
theorem dJ6_getChars_ba4f3_120 : decode cJ6_getChars_ba4f3 120 = .ok (.ireturn, 1) := by decide +kernel
theorem dJ6_stringSize_0f7a4_0 : decode cJ6_stringSize_0f7a4 0 = .ok (.iconst 1, 1) := by decide +kernel
theorem dJ6_stringSize_0f7a4_1 : decode cJ6_stringSize_0f7a4 1 = .ok (.istore_n 1, 1) := by decide +kernel
theorem dJ6_stringSize_0f7a4_2 : decode cJ6_stringSize_0f7a4 2 = .ok (.iload_n 0, 1) := by decide +kernel
theorem dJ6_stringSize_0f7a4_3 : decode cJ6_stringSize_0f7a4 3 = .ok (.ifCond .lt 8, 3) := by decide +kernel
theorem dJ6_stringSize_0f7a4_6 : decode cJ6_stringSize_0f7a4 6 = .ok (.iconst 0, 1) := by decide +kernel
theorem dJ6_stringSize_0f7a4_7 : decode cJ6_stringSize_0f7a4 7 = .ok (.istore_n 1, 1) := by decide +kernel
theorem dJ6_stringSize_0f7a4_8 : decode cJ6_stringSize_0f7a4 8 = .ok (.iload_n 0, 1) := by decide +kernel
theorem dJ6_stringSize_0f7a4_9 : decode cJ6_stringSize_0f7a4 9 = .ok (.ineg, 1) := by decide +kernel
theorem dJ6_stringSize_0f7a4_10 : decode cJ6_stringSize_0f7a4 10 = .ok (.istore_n 0, 1) := by decide +kernel
theorem dJ6_stringSize_0f7a4_11 : decode cJ6_stringSize_0f7a4 11 = .ok (.bipush (-10), 2) := by decide +kernel
theorem dJ6_stringSize_0f7a4_13 : decode cJ6_stringSize_0f7a4 13 = .ok (.istore_n 2, 1) := by decide +kernel
theorem dJ6_stringSize_0f7a4_14 : decode cJ6_stringSize_0f7a4 14 = .ok (.iconst 1, 1) := by decide +kernel
theorem dJ6_stringSize_0f7a4_15 : decode cJ6_stringSize_0f7a4 15 = .ok (.istore_n 3, 1) := by decide +kernel
theorem dJ6_stringSize_0f7a4_16 : decode cJ6_stringSize_0f7a4 16 = .ok (.iload_n 3, 1) := by decide +kernel
theorem dJ6_stringSize_0f7a4_17 : decode cJ6_stringSize_0f7a4 17 = .ok (.bipush 10, 2) := by decide +kernel
theorem dJ6_stringSize_0f7a4_19 : decode cJ6_stringSize_0f7a4 19 = .ok (.if_icmp .ge 23, 3) := by decide +kernel
theorem dJ6_stringSize_0f7a4_22 : decode cJ6_stringSize_0f7a4 22 = .ok (.iload_n 0, 1) := by decide +kernel
theorem dJ6_stringSize_0f7a4_23 : decode cJ6_stringSize_0f7a4 23 = .ok (.iload_n 2, 1) := by decide +kernel
theorem dJ6_stringSize_0f7a4_24 : decode cJ6_stringSize_0f7a4 24 = .ok (.if_icmp .le 7, 3) := by decide +kernel
theorem dJ6_stringSize_0f7a4_27 : decode cJ6_stringSize_0f7a4 27 = .ok (.iload_n 3, 1) := by decide +kernel
theorem dJ6_stringSize_0f7a4_28 : decode cJ6_stringSize_0f7a4 28 = .ok (.iload_n 1, 1) := by decide +kernel
theorem dJ6_stringSize_0f7a4_29 : decode cJ6_stringSize_0f7a4 29 = .ok (.iadd, 1) := by decide +kernel
theorem dJ6_stringSize_0f7a4_30 : decode cJ6_stringSize_0f7a4 30 = .ok (.ireturn, 1) := by decide +kernel
theorem dJ6_stringSize_0f7a4_31 : decode cJ6_stringSize_0f7a4 31 = .ok (.bipush 10, 2) := by decide +kernel
theorem dJ6_stringSize_0f7a4_33 : decode cJ6_stringSize_0f7a4 33 = .ok (.iload_n 2, 1) := by decide +kernel
theorem dJ6_stringSize_0f7a4_34 : decode cJ6_stringSize_0f7a4 34 = .ok (.imul, 1) := by decide +kernel
theorem dJ6_stringSize_0f7a4_35 : decode cJ6_stringSize_0f7a4 35 = .ok (.istore_n 2, 1) := by decide +kernel
theorem dJ6_stringSize_0f7a4_36 : decode cJ6_stringSize_0f7a4 36 = .ok (.iinc 3 1, 3) := by decide +kernel
theorem dJ6_stringSize_0f7a4_39 : decode cJ6_stringSize_0f7a4 39 = .ok (.goto (-23), 3) := by decide +kernel
theorem dJ9_floorMod_7cf53_0 : decode cJ9_floorMod_7cf53 0 = .ok (.iload_n 0, 1) := by decide +kernel
theorem dJ9_floorMod_7cf53_1 : decode cJ9_floorMod_7cf53 1 = .ok (.iload_n 1, 1) := by decide +kernel
theorem dJ9_floorMod_7cf53_2 : decode cJ9_floorMod_7cf53 2 = .ok (.irem, 1) := by decide +kernel
theorem dJ9_floorMod_7cf53_3 : decode cJ9_floorMod_7cf53 3 = .ok (.istore_n 2, 1) := by decide +kernel
theorem dJ9_floorMod_7cf53_4 : decode cJ9_floorMod_7cf53 4 = .ok (.iload_n 0, 1) := by decide +kernel
theorem dJ9_floorMod_7cf53_5 : decode cJ9_floorMod_7cf53 5 = .ok (.iload_n 1, 1) := by decide +kernel
theorem dJ9_floorMod_7cf53_6 : decode cJ9_floorMod_7cf53 6 = .ok (.ixor, 1) := by decide +kernel
theorem dJ9_floorMod_7cf53_7 : decode cJ9_floorMod_7cf53 7 = .ok (.ifCond .ge 11, 3) := by decide +kernel
theorem dJ9_floorMod_7cf53_10 : decode cJ9_floorMod_7cf53 10 = .ok (.iload_n 2, 1) := by decide +kernel
theorem dJ9_floorMod_7cf53_11 : decode cJ9_floorMod_7cf53 11 = .ok (.ifCond .eq 7, 3) := by decide +kernel
theorem dJ9_floorMod_7cf53_14 : decode cJ9_floorMod_7cf53 14 = .ok (.iload_n 2, 1) := by decide +kernel
theorem dJ9_floorMod_7cf53_15 : decode cJ9_floorMod_7cf53 15 = .ok (.iload_n 1, 1) := by decide +kernel
theorem dJ9_floorMod_7cf53_16 : decode cJ9_floorMod_7cf53 16 = .ok (.iadd, 1) := by decide +kernel
theorem dJ9_floorMod_7cf53_17 : decode cJ9_floorMod_7cf53 17 = .ok (.ireturn, 1) := by decide +kernel
theorem dJ9_floorMod_7cf53_18 : decode cJ9_floorMod_7cf53 18 = .ok (.iload_n 2, 1) := by decide +kernel
theorem dJ9_floorMod_7cf53_19 : decode cJ9_floorMod_7cf53 19 = .ok (.ireturn, 1) := by decide +kernel
theorem dJ9_max_7cf53_0 : decode cJ9_max_7cf53 0 = .ok (.iload_n 0, 1) := by decide +kernel
theorem dJ9_max_7cf53_1 : decode cJ9_max_7cf53 1 = .ok (.iload_n 1, 1) := by decide +kernel
theorem dJ9_max_7cf53_2 : decode cJ9_max_7cf53 2 = .ok (.if_icmp .lt 7, 3) := by decide +kernel
theorem dJ9_max_7cf53_5 : decode cJ9_max_7cf53 5 = .ok (.iload_n 0, 1) := by decide +kernel
theorem dJ9_max_7cf53_6 : decode cJ9_max_7cf53 6 = .ok (.goto 4, 3) := by decide +kernel
theorem dJ9_max_7cf53_9 : decode cJ9_max_7cf53 9 = .ok (.iload_n 1, 1) := by decide +kernel
theorem dJ9_max_7cf53_10 : decode cJ9_max_7cf53 10 = .ok (.ireturn, 1) := by decide +kernel
theorem dJ9_min_7cf53_0 : decode cJ9_min_7cf53 0 = .ok (.iload_n 0, 1) := by decide +kernel
theorem dJ9_min_7cf53_1 : decode cJ9_min_7cf53 1 = .ok (.iload_n 1, 1) := by decide +kernel
theorem dJ9_min_7cf53_2 : decode cJ9_min_7cf53 2 = .ok (.if_icmp .gt 7, 3) := by decide +kernel
theorem dJ9_min_7cf53_5 : decode cJ9_min_7cf53 5 = .ok (.iload_n 0, 1) := by decide +kernel
theorem dJ9_min_7cf53_6 : decode cJ9_min_7cf53 6 = .ok (.goto 4, 3) := by decide +kernel
theorem dJ9_min_7cf53_9 : decode cJ9_min_7cf53 9 = .ok (.iload_n 1, 1) := by decide +kernel
theorem dJ9_min_7cf53_10 : decode cJ9_min_7cf53 10 = .ok (.ireturn, 1) := by decide +kernel
theorem dJ0_init_81219_0 : decode cJ0_init_81219 0 = .ok (.aload_n 0, 1) := by decide +kernel
theorem dJ0_init_81219_1 : decode cJ0_init_81219 1 = .ok (.aload_n 1, 1) := by decide +kernel
theorem dJ0_init_81219_2 : decode cJ0_init_81219 2 = .ok (.aconst_null, 1) := by decide +kernel
theorem dJ0_init_81219_3 : decode cJ0_init_81219 3 = .ok (.invokespecial 489, 3) := by decide +kernel
theorem dJ0_init_81219_6 : decode cJ0_init_81219 6 = .ok (.return_, 1) := by decide +kernel
theorem dJ0_length_8abf5_0 : decode cJ0_length_8abf5 0 = .ok (.aload_n 0, 1) := by decide +kernel
theorem dJ0_length_8abf5_1 : decode cJ0_length_8abf5 1 = .ok (.getfield 9, 3) := by decide +kernel
theorem dJ0_length_8abf5_4 : decode cJ0_length_8abf5 4 = .ok (.arraylength, 1) := by decide +kernel
theorem dJ0_length_8abf5_5 : decode cJ0_length_8abf5 5 = .ok (.aload_n 0, 1) := by decide +kernel
theorem dJ0_length_8abf5_6 : decode cJ0_length_8abf5 6 = .ok (.invokevirtual 335, 3) := by decide +kernel
theorem dJ0_length_8abf5_9 : decode cJ0_length_8abf5 9 = .ok (.ishr, 1) := by decide +kernel
theorem dJ0_length_8abf5_10 : decode cJ0_length_8abf5 10 = .ok (.ireturn, 1) := by decide +kernel
theorem dJ0_charAt_5068e_0 : decode cJ0_charAt_5068e 0 = .ok (.aload_n 0, 1) := by decide +kernel
theorem dJ0_charAt_5068e_1 : decode cJ0_charAt_5068e 1 = .ok (.invokevirtual 492, 3) := by decide +kernel
theorem dJ0_charAt_5068e_4 : decode cJ0_charAt_5068e 4 = .ok (.ifCond .eq 12, 3) := by decide +kernel
theorem dJ0_charAt_5068e_7 : decode cJ0_charAt_5068e 7 = .ok (.aload_n 0, 1) := by decide +kernel
theorem dJ0_charAt_5068e_8 : decode cJ0_charAt_5068e 8 = .ok (.getfield 9, 3) := by decide +kernel
theorem dJ0_charAt_5068e_11 : decode cJ0_charAt_5068e 11 = .ok (.iload_n 1, 1) := by decide +kernel
theorem dJ0_charAt_5068e_12 : decode cJ0_charAt_5068e 12 = .ok (.invokestatic 495, 3) := by decide +kernel
theorem dJ0_charAt_5068e_15 : decode cJ0_charAt_5068e 15 = .ok (.ireturn, 1) := by decide +kernel
theorem dJ0_getBytes_840e7_0 : decode cJ0_getBytes_840e7 0 = .ok (.aload_n 0, 1) := by decide +kernel
theorem dJ0_getBytes_840e7_1 : decode cJ0_getBytes_840e7 1 = .ok (.invokevirtual 335, 3) := by decide +kernel
theorem dJ0_getBytes_840e7_4 : decode cJ0_getBytes_840e7 4 = .ok (.iload_n 3, 1) := by decide +kernel
theorem dJ0_getBytes_840e7_5 : decode cJ0_getBytes_840e7 5 = .ok (.if_icmp .ne 23, 3) := by decide +kernel
theorem dJ0_getBytes_840e7_8 : decode cJ0_getBytes_840e7 8 = .ok (.aload_n 0, 1) := by decide +kernel
theorem dJ0_getBytes_840e7_9 : decode cJ0_getBytes_840e7 9 = .ok (.getfield 9, 3) := by decide +kernel
theorem dJ0_getBytes_840e7_12 : decode cJ0_getBytes_840e7 12 = .ok (.iconst 0, 1) := by decide +kernel
theorem dJ0_getBytes_840e7_13 : decode cJ0_getBytes_840e7 13 = .ok (.aload_n 1, 1) := by decide +kernel
theorem dJ0_getBytes_840e7_14 : decode cJ0_getBytes_840e7 14 = .ok (.iload_n 2, 1) := by decide +kernel
theorem dJ0_getBytes_840e7_15 : decode cJ0_getBytes_840e7 15 = .ok (.iload_n 3, 1) := by decide +kernel
theorem dJ0_getBytes_840e7_16 : decode cJ0_getBytes_840e7 16 = .ok (.ishl, 1) := by decide +kernel
theorem dJ0_getBytes_840e7_17 : decode cJ0_getBytes_840e7 17 = .ok (.aload_n 0, 1) := by decide +kernel
theorem dJ0_getBytes_840e7_18 : decode cJ0_getBytes_840e7 18 = .ok (.getfield 9, 3) := by decide +kernel
theorem dJ0_getBytes_840e7_21 : decode cJ0_getBytes_840e7 21 = .ok (.arraylength, 1) := by decide +kernel
theorem dJ0_getBytes_840e7_22 : decode cJ0_getBytes_840e7 22 = .ok (.invokestatic 212, 3) := by decide +kernel
theorem dJ0_getBytes_840e7_25 : decode cJ0_getBytes_840e7 25 = .ok (.goto 18, 3) := by decide +kernel
theorem dJ0_getBytes_840e7_43 : decode cJ0_getBytes_840e7 43 = .ok (.return_, 1) := by decide +kernel
theorem dJ0_init_db425_0 : decode cJ0_init_db425 0 = .ok (.aload_n 0, 1) := by decide +kernel
theorem dJ0_init_db425_1 : decode cJ0_init_db425 1 = .ok (.invokespecial 1, 3) := by decide +kernel
theorem dJ0_init_db425_4 : decode cJ0_init_db425 4 = .ok (.aload_n 1, 1) := by decide +kernel
theorem dJ0_init_db425_5 : decode cJ0_init_db425 5 = .ok (.invokevirtual 552, 3) := by decide +kernel
theorem dJ0_init_db425_8 : decode cJ0_init_db425 8 = .ok (.astore_n 3, 1) := by decide +kernel
theorem dJ0_init_db425_9 : decode cJ0_init_db425 9 = .ok (.aload_n 1, 1) := by decide +kernel
theorem dJ0_init_db425_10 : decode cJ0_init_db425 10 = .ok (.invokevirtual 549, 3) := by decide +kernel
theorem dJ0_init_db425_13 : decode cJ0_init_db425 13 = .ok (.istore 4, 2) := by decide +kernel
theorem dJ0_init_db425_15 : decode cJ0_init_db425 15 = .ok (.aload_n 1, 1) := by decide +kernel
theorem dJ0_init_db425_16 : decode cJ0_init_db425 16 = .ok (.invokevirtual 1047, 3) := by decide +kernel
theorem dJ0_init_db425_19 : decode cJ0_init_db425 19 = .ok (.ifCond .eq 22, 3) := by decide +kernel
theorem dJ0_init_db425_22 : decode cJ0_init_db425 22 = .ok (.aload_n 0, 1) := by decide +kernel
theorem dJ0_init_db425_23 : decode cJ0_init_db425 23 = .ok (.iconst 0, 1) := by decide +kernel
theorem dJ0_init_db425_24 : decode cJ0_init_db425 24 = .ok (.putfield 15, 3) := by decide +kernel
theorem dJ0_init_db425_27 : decode cJ0_init_db425 27 = .ok (.aload_n 0, 1) := by decide +kernel
theorem dJ0_init_db425_28 : decode cJ0_init_db425 28 = .ok (.aload_n 3, 1) := by decide +kernel
theorem dJ0_init_db425_29 : decode cJ0_init_db425 29 = .ok (.iconst 0, 1) := by decide +kernel
theorem dJ0_init_db425_30 : decode cJ0_init_db425 30 = .ok (.iload 4, 2) := by decide +kernel
theorem dJ0_init_db425_32 : decode cJ0_init_db425 32 = .ok (.invokestatic 54, 3) := by decide +kernel
theorem dJ0_init_db425_35 : decode cJ0_init_db425 35 = .ok (.putfield 9, 3) := by decide +kernel
theorem dJ0_init_db425_38 : decode cJ0_init_db425 38 = .ok (.goto 59, 3) := by decide +kernel
theorem dJ0_init_db425_97 : decode cJ0_init_db425 97 = .ok (.return_, 1) := by decide +kernel
theorem dJ0_coder_7d493_0 : decode cJ0_coder_7d493 0 = .ok (.getstatic 38, 3) := by decide +kernel
theorem dJ0_coder_7d493_3 : decode cJ0_coder_7d493 3 = .ok (.ifCond .eq 10, 3) := by decide +kernel
theorem dJ0_coder_7d493_6 : decode cJ0_coder_7d493 6 = .ok (.aload_n 0, 1) := by decide +kernel
theorem dJ0_coder_7d493_7 : decode cJ0_coder_7d493 7 = .ok (.getfield 15, 3) := by decide +kernel
theorem dJ0_coder_7d493_10 : decode cJ0_coder_7d493 10 = .ok (.goto 4, 3) := by decide +kernel
theorem dJ0_coder_7d493_14 : decode cJ0_coder_7d493 14 = .ok (.ireturn, 1) := by decide +kernel
theorem dJ0_isLatin1_aae02_0 : decode cJ0_isLatin1_aae02 0 = .ok (.getstatic 38, 3) := by decide +kernel
theorem dJ0_isLatin1_aae02_3 : decode cJ0_isLatin1_aae02 3 = .ok (.ifCond .eq 14, 3) := by decide +kernel
theorem dJ0_isLatin1_aae02_6 : decode cJ0_isLatin1_aae02 6 = .ok (.aload_n 0, 1) := by decide +kernel
theorem dJ0_isLatin1_aae02_7 : decode cJ0_isLatin1_aae02 7 = .ok (.getfield 15, 3) := by decide +kernel
theorem dJ0_isLatin1_aae02_10 : decode cJ0_isLatin1_aae02 10 = .ok (.ifCond .ne 7, 3) := by decide +kernel
theorem dJ0_isLatin1_aae02_13 : decode cJ0_isLatin1_aae02 13 = .ok (.iconst 1, 1) := by decide +kernel
theorem dJ0_isLatin1_aae02_14 : decode cJ0_isLatin1_aae02 14 = .ok (.goto 4, 3) := by decide +kernel
theorem dJ0_isLatin1_aae02_18 : decode cJ0_isLatin1_aae02 18 = .ok (.ireturn, 1) := by decide +kernel
theorem dJ0_checkIndex_df160_0 : decode cJ0_checkIndex_df160 0 = .ok (.iload_n 0, 1) := by decide +kernel
theorem dJ0_checkIndex_df160_1 : decode cJ0_checkIndex_df160 1 = .ok (.iload_n 1, 1) := by decide +kernel
theorem dJ0_checkIndex_df160_2 : decode cJ0_checkIndex_df160 2 = .ok (.getstatic 1053, 3) := by decide +kernel
theorem dJ0_checkIndex_df160_5 : decode cJ0_checkIndex_df160 5 = .ok (.invokestatic 1059, 3) := by decide +kernel
theorem dJ0_checkIndex_df160_8 : decode cJ0_checkIndex_df160 8 = .ok (.pop, 1) := by decide +kernel
theorem dJ0_checkIndex_df160_9 : decode cJ0_checkIndex_df160 9 = .ok (.return_, 1) := by decide +kernel
theorem dJ4_init_da8c8_0 : decode cJ4_init_da8c8 0 = .ok (.aload_n 0, 1) := by decide +kernel
theorem dJ4_init_da8c8_1 : decode cJ4_init_da8c8 1 = .ok (.bipush 16, 2) := by decide +kernel
theorem dJ4_init_da8c8_3 : decode cJ4_init_da8c8 3 = .ok (.invokespecial 1, 3) := by decide +kernel
theorem dJ4_init_da8c8_6 : decode cJ4_init_da8c8 6 = .ok (.return_, 1) := by decide +kernel
theorem dJ4_append_15ec4_0 : decode cJ4_append_15ec4 0 = .ok (.aload_n 0, 1) := by decide +kernel
theorem dJ4_append_15ec4_1 : decode cJ4_append_15ec4 1 = .ok (.aload_n 1, 1) := by decide +kernel
theorem dJ4_append_15ec4_2 : decode cJ4_append_15ec4 2 = .ok (.invokespecial 29, 3) := by decide +kernel
theorem dJ4_append_15ec4_5 : decode cJ4_append_15ec4 5 = .ok (.pop, 1) := by decide +kernel
theorem dJ4_append_15ec4_6 : decode cJ4_append_15ec4 6 = .ok (.aload_n 0, 1) := by decide +kernel
theorem dJ4_append_15ec4_7 : decode cJ4_append_15ec4 7 = .ok (.areturn, 1) := by decide +kernel
theorem dJ4_append_cf468_0 : decode cJ4_append_cf468 0 = .ok (.aload_n 0, 1) := by decide +kernel
theorem dJ4_append_cf468_1 : decode cJ4_append_cf468 1 = .ok (.iload_n 1, 1) := by decide +kernel
theorem dJ4_append_cf468_2 : decode cJ4_append_cf468 2 = .ok (.invokespecial 50, 3) := by decide +kernel
theorem dJ4_append_cf468_5 : decode cJ4_append_cf468 5 = .ok (.pop, 1) := by decide +kernel
theorem dJ4_append_cf468_6 : decode cJ4_append_cf468 6 = .ok (.aload_n 0, 1) := by decide +kernel
theorem dJ4_append_cf468_7 : decode cJ4_append_cf468 7 = .ok (.areturn, 1) := by decide +kernel
theorem dJ4_append_bf812_0 : decode cJ4_append_bf812 0 = .ok (.aload_n 0, 1) := by decide +kernel
theorem dJ4_append_bf812_1 : decode cJ4_append_bf812 1 = .ok (.iload_n 1, 1) := by decide +kernel
theorem dJ4_append_bf812_2 : decode cJ4_append_bf812 2 = .ok (.invokespecial 53, 3) := by decide +kernel
theorem dJ4_append_bf812_5 : decode cJ4_append_bf812 5 = .ok (.pop, 1) := by decide +kernel
theorem dJ4_append_bf812_6 : decode cJ4_append_bf812 6 = .ok (.aload_n 0, 1) := by decide +kernel
theorem dJ4_append_bf812_7 : decode cJ4_append_bf812 7 = .ok (.areturn, 1) := by decide +kernel
theorem dJ4_toString_0e30d_0 : decode cJ4_toString_0e30d 0 = .ok (.new 18, 3) := by decide +kernel
theorem dJ4_toString_0e30d_3 : decode cJ4_toString_0e30d 3 = .ok (.dup, 1) := by decide +kernel
theorem dJ4_toString_0e30d_4 : decode cJ4_toString_0e30d 4 = .ok (.aload_n 0, 1) := by decide +kernel
theorem dJ4_toString_0e30d_5 : decode cJ4_toString_0e30d 5 = .ok (.invokespecial 137, 3) := by decide +kernel
theorem dJ4_toString_0e30d_8 : decode cJ4_toString_0e30d 8 = .ok (.areturn, 1) := by decide +kernel
theorem dJ4_charAt_5068e_0 : decode cJ4_charAt_5068e 0 = .ok (.aload_n 0, 1) := by decide +kernel
theorem dJ4_charAt_5068e_1 : decode cJ4_charAt_5068e 1 = .ok (.iload_n 1, 1) := by decide +kernel
theorem dJ4_charAt_5068e_2 : decode cJ4_charAt_5068e 2 = .ok (.invokespecial 329, 3) := by decide +kernel
theorem dJ4_charAt_5068e_5 : decode cJ4_charAt_5068e 5 = .ok (.ireturn, 1) := by decide +kernel
theorem dJ4_setLength_d00df_0 : decode cJ4_setLength_d00df 0 = .ok (.aload_n 0, 1) := by decide +kernel
theorem dJ4_setLength_d00df_1 : decode cJ4_setLength_d00df 1 = .ok (.iload_n 1, 1) := by decide +kernel
theorem dJ4_setLength_d00df_2 : decode cJ4_setLength_d00df 2 = .ok (.invokespecial 333, 3) := by decide +kernel
theorem dJ4_setLength_d00df_5 : decode cJ4_setLength_d00df 5 = .ok (.return_, 1) := by decide +kernel
theorem dJ4_length_8abf5_0 : decode cJ4_length_8abf5 0 = .ok (.aload_n 0, 1) := by decide +kernel
theorem dJ4_length_8abf5_1 : decode cJ4_length_8abf5 1 = .ok (.invokespecial 343, 3) := by decide +kernel
theorem dJ4_length_8abf5_4 : decode cJ4_length_8abf5 4 = .ok (.ireturn, 1) := by decide +kernel
theorem dJ1_charAt_3b067_0 : decode cJ1_charAt_3b067 0 = .ok (.iload_n 1, 1) := by decide +kernel
theorem dJ1_charAt_3b067_1 : decode cJ1_charAt_3b067 1 = .ok (.aload_n 0, 1) := by decide +kernel
theorem dJ1_charAt_3b067_2 : decode cJ1_charAt_3b067 2 = .ok (.arraylength, 1) := by decide +kernel
theorem dJ1_charAt_3b067_3 : decode cJ1_charAt_3b067 3 = .ok (.invokestatic 9, 3) := by decide +kernel
theorem dJ1_charAt_3b067_6 : decode cJ1_charAt_3b067 6 = .ok (.aload_n 0, 1) := by decide +kernel
theorem dJ1_charAt_3b067_7 : decode cJ1_charAt_3b067 7 = .ok (.iload_n 1, 1) := by decide +kernel
theorem dJ1_charAt_3b067_8 : decode cJ1_charAt_3b067 8 = .ok (.baload, 1) := by decide +kernel
theorem dJ1_charAt_3b067_9 : decode cJ1_charAt_3b067 9 = .ok (.sipush 255, 3) := by decide +kernel
theorem dJ1_charAt_3b067_12 : decode cJ1_charAt_3b067 12 = .ok (.iand, 1) := by decide +kernel
theorem dJ1_charAt_3b067_13 : decode cJ1_charAt_3b067 13 = .ok (.i2c, 1) := by decide +kernel
theorem dJ1_charAt_3b067_14 : decode cJ1_charAt_3b067 14 = .ok (.ireturn, 1) := by decide +kernel
theorem dJ1_canEncode_fc78d_0 : decode cJ1_canEncode_fc78d 0 = .ok (.iload_n 0, 1) := by decide +kernel
theorem dJ1_canEncode_fc78d_1 : decode cJ1_canEncode_fc78d 1 = .ok (.sipush 255, 3) := by decide +kernel
theorem dJ1_canEncode_fc78d_4 : decode cJ1_canEncode_fc78d 4 = .ok (.if_icmp .gt 7, 3) := by decide +kernel
theorem dJ1_canEncode_fc78d_7 : decode cJ1_canEncode_fc78d 7 = .ok (.iconst 1, 1) := by decide +kernel
theorem dJ1_canEncode_fc78d_8 : decode cJ1_canEncode_fc78d 8 = .ok (.goto 4, 3) := by decide +kernel
theorem dJ1_canEncode_fc78d_12 : decode cJ1_canEncode_fc78d 12 = .ok (.ireturn, 1) := by decide +kernel
theorem dJ7_copyOf_9075b_0 : decode cJ7_copyOf_9075b 0 = .ok (.iload_n 1, 1) := by decide +kernel
theorem dJ7_copyOf_9075b_1 : decode cJ7_copyOf_9075b 1 = .ok (.aload_n 0, 1) := by decide +kernel
theorem dJ7_copyOf_9075b_2 : decode cJ7_copyOf_9075b 2 = .ok (.arraylength, 1) := by decide +kernel
theorem dJ7_copyOf_9075b_3 : decode cJ7_copyOf_9075b 3 = .ok (.if_icmp .ne 11, 3) := by decide +kernel
theorem dJ7_copyOf_9075b_14 : decode cJ7_copyOf_9075b 14 = .ok (.iload_n 1, 1) := by decide +kernel
theorem dJ7_copyOf_9075b_15 : decode cJ7_copyOf_9075b 15 = .ok (.newarray .byte, 2) := by decide +kernel
theorem dJ7_copyOf_9075b_17 : decode cJ7_copyOf_9075b 17 = .ok (.astore_n 2, 1) := by decide +kernel
theorem dJ7_copyOf_9075b_18 : decode cJ7_copyOf_9075b 18 = .ok (.aload_n 0, 1) := by decide +kernel
theorem dJ7_copyOf_9075b_19 : decode cJ7_copyOf_9075b 19 = .ok (.iconst 0, 1) := by decide +kernel
theorem dJ7_copyOf_9075b_20 : decode cJ7_copyOf_9075b 20 = .ok (.aload_n 2, 1) := by decide +kernel
theorem dJ7_copyOf_9075b_21 : decode cJ7_copyOf_9075b 21 = .ok (.iconst 0, 1) := by decide +kernel
theorem dJ7_copyOf_9075b_22 : decode cJ7_copyOf_9075b 22 = .ok (.aload_n 0, 1) := by decide +kernel
theorem dJ7_copyOf_9075b_23 : decode cJ7_copyOf_9075b 23 = .ok (.arraylength, 1) := by decide +kernel
theorem dJ7_copyOf_9075b_24 : decode cJ7_copyOf_9075b 24 = .ok (.iload_n 1, 1) := by decide +kernel
theorem dJ7_copyOf_9075b_25 : decode cJ7_copyOf_9075b 25 = .ok (.invokestatic 304, 3) := by decide +kernel
theorem dJ7_copyOf_9075b_28 : decode cJ7_copyOf_9075b 28 = .ok (.invokestatic 150, 3) := by decide +kernel
theorem dJ7_copyOf_9075b_31 : decode cJ7_copyOf_9075b 31 = .ok (.aload_n 2, 1) := by decide +kernel
theorem dJ7_copyOf_9075b_32 : decode cJ7_copyOf_9075b 32 = .ok (.areturn, 1) := by decide +kernel
theorem dJ7_checkLength_df160_0 : decode cJ7_checkLength_df160 0 = .ok (.iload_n 1, 1) := by decide +kernel
theorem dJ7_checkLength_df160_1 : decode cJ7_checkLength_df160 1 = .ok (.iload_n 0, 1) := by decide +kernel
theorem dJ7_checkLength_df160_2 : decode cJ7_checkLength_df160 2 = .ok (.if_icmp .ge 35, 3) := by decide +kernel
theorem dJ7_checkLength_df160_37 : decode cJ7_checkLength_df160 37 = .ok (.return_, 1) := by decide +kernel
theorem dJ7_copyOfRange_39247_0 : decode cJ7_copyOfRange_39247 0 = .ok (.iload_n 1, 1) := by decide +kernel
theorem dJ7_copyOfRange_39247_1 : decode cJ7_copyOfRange_39247 1 = .ok (.ifCond .ne 9, 3) := by decide +kernel
theorem dJ7_copyOfRange_39247_4 : decode cJ7_copyOfRange_39247 4 = .ok (.iload_n 2, 1) := by decide +kernel
theorem dJ7_copyOfRange_39247_5 : decode cJ7_copyOfRange_39247 5 = .ok (.aload_n 0, 1) := by decide +kernel
theorem dJ7_copyOfRange_39247_6 : decode cJ7_copyOfRange_39247 6 = .ok (.arraylength, 1) := by decide +kernel
theorem dJ7_copyOfRange_39247_7 : decode cJ7_copyOfRange_39247 7 = .ok (.if_icmp .eq 10, 3) := by decide +kernel
theorem dJ7_copyOfRange_39247_10 : decode cJ7_copyOfRange_39247 10 = .ok (.aload_n 0, 1) := by decide +kernel
theorem dJ7_copyOfRange_39247_11 : decode cJ7_copyOfRange_39247 11 = .ok (.iload_n 1, 1) := by decide +kernel
theorem dJ7_copyOfRange_39247_12 : decode cJ7_copyOfRange_39247 12 = .ok (.iload_n 2, 1) := by decide +kernel
theorem dJ7_copyOfRange_39247_13 : decode cJ7_copyOfRange_39247 13 = .ok (.invokestatic 339, 3) := by decide +kernel
theorem dJ7_copyOfRange_39247_16 : decode cJ7_copyOfRange_39247 16 = .ok (.areturn, 1) := by decide +kernel
theorem dJ7_copyOfRangeByte_39247_0 : decode cJ7_copyOfRangeByte_39247 0 = .ok (.iload_n 1, 1) := by decide +kernel
theorem dJ7_copyOfRangeByte_39247_1 : decode cJ7_copyOfRangeByte_39247 1 = .ok (.iload_n 2, 1) := by decide +kernel
theorem dJ7_copyOfRangeByte_39247_2 : decode cJ7_copyOfRangeByte_39247 2 = .ok (.invokestatic 343, 3) := by decide +kernel
theorem dJ7_copyOfRangeByte_39247_5 : decode cJ7_copyOfRangeByte_39247 5 = .ok (.iload_n 2, 1) := by decide +kernel
theorem dJ7_copyOfRangeByte_39247_6 : decode cJ7_copyOfRangeByte_39247 6 = .ok (.iload_n 1, 1) := by decide +kernel
theorem dJ7_copyOfRangeByte_39247_7 : decode cJ7_copyOfRangeByte_39247 7 = .ok (.isub, 1) := by decide +kernel
theorem dJ7_copyOfRangeByte_39247_8 : decode cJ7_copyOfRangeByte_39247 8 = .ok (.istore_n 3, 1) := by decide +kernel
theorem dJ7_copyOfRangeByte_39247_9 : decode cJ7_copyOfRangeByte_39247 9 = .ok (.iload_n 3, 1) := by decide +kernel
theorem dJ7_copyOfRangeByte_39247_10 : decode cJ7_copyOfRangeByte_39247 10 = .ok (.newarray .byte, 2) := by decide +kernel
theorem dJ7_copyOfRangeByte_39247_12 : decode cJ7_copyOfRangeByte_39247 12 = .ok (.astore 4, 2) := by decide +kernel
theorem dJ7_copyOfRangeByte_39247_14 : decode cJ7_copyOfRangeByte_39247 14 = .ok (.aload_n 0, 1) := by decide +kernel
theorem dJ7_copyOfRangeByte_39247_15 : decode cJ7_copyOfRangeByte_39247 15 = .ok (.iload_n 1, 1) := by decide +kernel
theorem dJ7_copyOfRangeByte_39247_16 : decode cJ7_copyOfRangeByte_39247 16 = .ok (.aload 4, 2) := by decide +kernel
theorem dJ7_copyOfRangeByte_39247_18 : decode cJ7_copyOfRangeByte_39247 18 = .ok (.iconst 0, 1) := by decide +kernel
theorem dJ7_copyOfRangeByte_39247_19 : decode cJ7_copyOfRangeByte_39247 19 = .ok (.aload_n 0, 1) := by decide +kernel
theorem dJ7_copyOfRangeByte_39247_20 : decode cJ7_copyOfRangeByte_39247 20 = .ok (.arraylength, 1) := by decide +kernel
theorem dJ7_copyOfRangeByte_39247_21 : decode cJ7_copyOfRangeByte_39247 21 = .ok (.iload_n 1, 1) := by decide +kernel
theorem dJ7_copyOfRangeByte_39247_22 : decode cJ7_copyOfRangeByte_39247 22 = .ok (.isub, 1) := by decide +kernel
theorem dJ7_copyOfRangeByte_39247_23 : decode cJ7_copyOfRangeByte_39247 23 = .ok (.iload_n 3, 1) := by decide +kernel
theorem dJ7_copyOfRangeByte_39247_24 : decode cJ7_copyOfRangeByte_39247 24 = .ok (.invokestatic 304, 3) := by decide +kernel
theorem dJ7_copyOfRangeByte_39247_27 : decode cJ7_copyOfRangeByte_39247 27 = .ok (.invokestatic 150, 3) := by decide +kernel
theorem dJ7_copyOfRangeByte_39247_30 : decode cJ7_copyOfRangeByte_39247 30 = .ok (.aload 4, 2) := by decide +kernel
theorem dJ7_copyOfRangeByte_39247_32 : decode cJ7_copyOfRangeByte_39247 32 = .ok (.areturn, 1) := by decide +kernel
theorem dJ8_newLength_cabcc_0 : decode cJ8_newLength_cabcc 0 = .ok (.iload_n 0, 1) := by decide +kernel
theorem dJ8_newLength_cabcc_1 : decode cJ8_newLength_cabcc 1 = .ok (.iload_n 1, 1) := by decide +kernel
theorem dJ8_newLength_cabcc_2 : decode cJ8_newLength_cabcc 2 = .ok (.iload_n 2, 1) := by decide +kernel
theorem dJ8_newLength_cabcc_3 : decode cJ8_newLength_cabcc 3 = .ok (.invokestatic 194, 3) := by decide +kernel
theorem dJ8_newLength_cabcc_6 : decode cJ8_newLength_cabcc 6 = .ok (.iadd, 1) := by decide +kernel
theorem dJ8_newLength_cabcc_7 : decode cJ8_newLength_cabcc 7 = .ok (.istore_n 3, 1) := by decide +kernel
theorem dJ8_newLength_cabcc_8 : decode cJ8_newLength_cabcc 8 = .ok (.iconst 0, 1) := by decide +kernel
theorem dJ8_newLength_cabcc_9 : decode cJ8_newLength_cabcc 9 = .ok (.iload_n 3, 1) := by decide +kernel
theorem dJ8_newLength_cabcc_10 : decode cJ8_newLength_cabcc 10 = .ok (.if_icmp .ge 11, 3) := by decide +kernel
theorem dJ8_newLength_cabcc_13 : decode cJ8_newLength_cabcc 13 = .ok (.iload_n 3, 1) := by decide +kernel
theorem dJ8_newLength_cabcc_14 : decode cJ8_newLength_cabcc 14 = .ok (.ldc 200, 2) := by decide +kernel
theorem dJ8_newLength_cabcc_16 : decode cJ8_newLength_cabcc 16 = .ok (.if_icmp .gt 5, 3) := by decide +kernel
theorem dJ8_newLength_cabcc_19 : decode cJ8_newLength_cabcc 19 = .ok (.iload_n 3, 1) := by decide +kernel
theorem dJ8_newLength_cabcc_20 : decode cJ8_newLength_cabcc 20 = .ok (.ireturn, 1) := by decide +kernel
theorem dJ3_checkIndex_8e157_0 : decode cJ3_checkIndex_8e157 0 = .ok (.iload_n 0, 1) := by decide +kernel
theorem dJ3_checkIndex_8e157_1 : decode cJ3_checkIndex_8e157 1 = .ok (.ifCond .lt 8, 3) := by decide +kernel
theorem dJ3_checkIndex_8e157_4 : decode cJ3_checkIndex_8e157 4 = .ok (.iload_n 0, 1) := by decide +kernel
theorem dJ3_checkIndex_8e157_5 : decode cJ3_checkIndex_8e157 5 = .ok (.iload_n 1, 1) := by decide +kernel
theorem dJ3_checkIndex_8e157_6 : decode cJ3_checkIndex_8e157 6 = .ok (.if_icmp .lt 10, 3) := by decide +kernel
theorem dJ3_checkIndex_8e157_16 : decode cJ3_checkIndex_8e157 16 = .ok (.iload_n 0, 1) := by decide +kernel
theorem dJ3_checkIndex_8e157_17 : decode cJ3_checkIndex_8e157 17 = .ok (.ireturn, 1) := by decide +kernel
theorem dL_addCopies_0 : decode cL_addCopies 0 = .ok (.aload 5, 2) := by decide +kernel
theorem dL_addCopies_2 : decode cL_addCopies 2 = .ok (.aload_n 0, 1) := by decide +kernel
theorem dL_addCopies_3 : decode cL_addCopies 3 = .ok (.iload_n 1, 1) := by decide +kernel
theorem dL_addCopies_4 : decode cL_addCopies 4 = .ok (.iload_n 2, 1) := by decide +kernel
theorem dL_addCopies_5 : decode cL_addCopies 5 = .ok (.iload_n 3, 1) := by decide +kernel
theorem dL_addCopies_6 : decode cL_addCopies 6 = .ok (.iload 4, 2) := by decide +kernel
theorem dL_addCopies_8 : decode cL_addCopies 8 = .ok (.invokevirtual 44, 3) := by decide +kernel
theorem dL_addCopies_11 : decode cL_addCopies 11 = .ok (.i2l, 1) := by decide +kernel
theorem dL_addCopies_12 : decode cL_addCopies 12 = .ok (.putfield 13, 3) := by decide +kernel
theorem dL_addCopies_15 : decode cL_addCopies 15 = .ok (.goto 15, 3) := by decide +kernel
theorem dL_addCopies_30 : decode cL_addCopies 30 = .ok (.iconst 0, 1) := by decide +kernel
theorem dL_addCopies_31 : decode cL_addCopies 31 = .ok (.ireturn, 1) := by decide +kernel
theorem dL_part_0 : decode cL_part 0 = .ok (.aload 5, 2) := by decide +kernel
theorem dL_part_2 : decode cL_part 2 = .ok (.aload_n 0, 1) := by decide +kernel
theorem dL_part_3 : decode cL_part 3 = .ok (.iload_n 1, 1) := by decide +kernel
theorem dL_part_4 : decode cL_part 4 = .ok (.iload_n 2, 1) := by decide +kernel
theorem dL_part_5 : decode cL_part 5 = .ok (.iload_n 3, 1) := by decide +kernel
theorem dL_part_6 : decode cL_part 6 = .ok (.iload 4, 2) := by decide +kernel
theorem dL_part_8 : decode cL_part 8 = .ok (.invokevirtual 123, 3) := by decide +kernel
theorem dL_part_11 : decode cL_part 11 = .ok (.i2l, 1) := by decide +kernel
theorem dL_part_12 : decode cL_part 12 = .ok (.putfield 13, 3) := by decide +kernel
theorem dL_part_15 : decode cL_part 15 = .ok (.goto 7, 3) := by decide +kernel
theorem dL_part_22 : decode cL_part 22 = .ok (.iconst 0, 1) := by decide +kernel
theorem dL_part_23 : decode cL_part 23 = .ok (.ireturn, 1) := by decide +kernel
theorem dL_law_0 : decode cL_law 0 = .ok (.new 8, 3) := by decide +kernel
theorem dL_law_3 : decode cL_law 3 = .ok (.dup, 1) := by decide +kernel
theorem dL_law_4 : decode cL_law 4 = .ok (.invokespecial 180, 3) := by decide +kernel
theorem dL_law_7 : decode cL_law 7 = .ok (.astore_n 1, 1) := by decide +kernel
theorem dL_law_8 : decode cL_law 8 = .ok (.new 181, 3) := by decide +kernel
theorem dL_law_11 : decode cL_law 11 = .ok (.dup, 1) := by decide +kernel
theorem dL_law_12 : decode cL_law 12 = .ok (.invokespecial 183, 3) := by decide +kernel
theorem dL_law_15 : decode cL_law 15 = .ok (.astore_n 2, 1) := by decide +kernel
theorem dL_law_16 : decode cL_law 16 = .ok (.new 14, 3) := by decide +kernel
theorem dL_law_19 : decode cL_law 19 = .ok (.dup, 1) := by decide +kernel
theorem dL_law_20 : decode cL_law 20 = .ok (.invokespecial 184, 3) := by decide +kernel
theorem dL_law_23 : decode cL_law 23 = .ok (.astore_n 3, 1) := by decide +kernel
theorem dL_law_24 : decode cL_law 24 = .ok (.iconst 0, 1) := by decide +kernel
theorem dL_law_25 : decode cL_law 25 = .ok (.istore 4, 2) := by decide +kernel
theorem dL_law_27 : decode cL_law 27 = .ok (.iload 4, 2) := by decide +kernel
theorem dL_law_29 : decode cL_law 29 = .ok (.aload_n 0, 1) := by decide +kernel
theorem dL_law_30 : decode cL_law 30 = .ok (.arraylength, 1) := by decide +kernel
theorem dL_law_31 : decode cL_law 31 = .ok (.bipush 6, 2) := by decide +kernel
theorem dL_law_33 : decode cL_law 33 = .ok (.isub, 1) := by decide +kernel
theorem dL_law_34 : decode cL_law 34 = .ok (.if_icmp .gt 2500, 3) := by decide +kernel
theorem dL_law_37 : decode cL_law 37 = .ok (.aload_n 0, 1) := by decide +kernel
theorem dL_law_38 : decode cL_law 38 = .ok (.iload 4, 2) := by decide +kernel
theorem dL_law_40 : decode cL_law 40 = .ok (.iaload, 1) := by decide +kernel
theorem dL_law_41 : decode cL_law 41 = .ok (.bipush 63, 2) := by decide +kernel
theorem dL_law_43 : decode cL_law 43 = .ok (.iand, 1) := by decide +kernel
theorem dL_law_44 : decode cL_law 44 = .ok (.tableswitch 2484 0 50 #[220, 301, 365, 405, 469, 497, 573, 637, 677, 717, 769, 845, 873, 913, 965, 1021, 1049, 1077, 1145, 1197, 1277, 1317, 1357, 1397, 1453, 1509, 1549, 1577, 1617, 1681, 1745, 1809, 1837, 1865, 1929, 1957, 1997, 2049, 2077, 2105, 2133, 2201, 2253, 2281, 2333, 2361, 2389, 2417, 2445, 2458, 2471], 220) := by decide +kernel
theorem dL_law_617 : decode cL_law 617 = .ok (.aload_n 1, 1) := by decide +kernel
theorem dL_law_618 : decode cL_law 618 = .ok (.aload_n 0, 1) := by decide +kernel
theorem dL_law_619 : decode cL_law 619 = .ok (.iload 4, 2) := by decide +kernel
theorem dL_law_621 : decode cL_law 621 = .ok (.iconst 1, 1) := by decide +kernel
theorem dL_law_622 : decode cL_law 622 = .ok (.iadd, 1) := by decide +kernel
theorem dL_law_623 : decode cL_law 623 = .ok (.iaload, 1) := by decide +kernel
theorem dL_law_624 : decode cL_law 624 = .ok (.aload_n 0, 1) := by decide +kernel
theorem dL_law_625 : decode cL_law 625 = .ok (.iload 4, 2) := by decide +kernel
theorem dL_law_627 : decode cL_law 627 = .ok (.iconst 2, 1) := by decide +kernel
theorem dL_law_628 : decode cL_law 628 = .ok (.iadd, 1) := by decide +kernel
theorem dL_law_629 : decode cL_law 629 = .ok (.iaload, 1) := by decide +kernel
theorem dL_law_630 : decode cL_law 630 = .ok (.aload_n 0, 1) := by decide +kernel
theorem dL_law_631 : decode cL_law 631 = .ok (.iload 4, 2) := by decide +kernel
theorem dL_law_633 : decode cL_law 633 = .ok (.iconst 3, 1) := by decide +kernel
theorem dL_law_634 : decode cL_law 634 = .ok (.iadd, 1) := by decide +kernel
theorem dL_law_635 : decode cL_law 635 = .ok (.iaload, 1) := by decide +kernel
theorem dL_law_636 : decode cL_law 636 = .ok (.aload_n 0, 1) := by decide +kernel
theorem dL_law_637 : decode cL_law 637 = .ok (.iload 4, 2) := by decide +kernel
theorem dL_law_639 : decode cL_law 639 = .ok (.iconst 4, 1) := by decide +kernel
theorem dL_law_640 : decode cL_law 640 = .ok (.iadd, 1) := by decide +kernel
theorem dL_law_641 : decode cL_law 641 = .ok (.iaload, 1) := by decide +kernel
theorem dL_law_642 : decode cL_law 642 = .ok (.aload_n 3, 1) := by decide +kernel
theorem dL_law_643 : decode cL_law 643 = .ok (.invokestatic 214, 3) := by decide +kernel
theorem dL_law_646 : decode cL_law 646 = .ok (.istore 5, 2) := by decide +kernel
theorem dL_law_648 : decode cL_law 648 = .ok (.aload_n 2, 1) := by decide +kernel
theorem dL_law_649 : decode cL_law 649 = .ok (.aload_n 0, 1) := by decide +kernel
theorem dL_law_650 : decode cL_law 650 = .ok (.iload 4, 2) := by decide +kernel
theorem dL_law_652 : decode cL_law 652 = .ok (.iconst 1, 1) := by decide +kernel
theorem dL_law_653 : decode cL_law 653 = .ok (.iadd, 1) := by decide +kernel
theorem dL_law_654 : decode cL_law 654 = .ok (.iaload, 1) := by decide +kernel
theorem dL_law_655 : decode cL_law 655 = .ok (.aload_n 0, 1) := by decide +kernel
theorem dL_law_656 : decode cL_law 656 = .ok (.iload 4, 2) := by decide +kernel
theorem dL_law_658 : decode cL_law 658 = .ok (.iconst 2, 1) := by decide +kernel
theorem dL_law_659 : decode cL_law 659 = .ok (.iadd, 1) := by decide +kernel
theorem dL_law_660 : decode cL_law 660 = .ok (.iaload, 1) := by decide +kernel
theorem dL_law_661 : decode cL_law 661 = .ok (.aload_n 0, 1) := by decide +kernel
theorem dL_law_662 : decode cL_law 662 = .ok (.iload 4, 2) := by decide +kernel
theorem dL_law_664 : decode cL_law 664 = .ok (.iconst 3, 1) := by decide +kernel
theorem dL_law_665 : decode cL_law 665 = .ok (.iadd, 1) := by decide +kernel
theorem dL_law_666 : decode cL_law 666 = .ok (.iaload, 1) := by decide +kernel
theorem dL_law_667 : decode cL_law 667 = .ok (.aload_n 0, 1) := by decide +kernel
theorem dL_law_668 : decode cL_law 668 = .ok (.iload 4, 2) := by decide +kernel
theorem dL_law_670 : decode cL_law 670 = .ok (.iconst 4, 1) := by decide +kernel
theorem dL_law_671 : decode cL_law 671 = .ok (.iadd, 1) := by decide +kernel
theorem dL_law_672 : decode cL_law 672 = .ok (.iaload, 1) := by decide +kernel
theorem dL_law_673 : decode cL_law 673 = .ok (.invokevirtual 216, 3) := by decide +kernel
theorem dL_law_676 : decode cL_law 676 = .ok (.istore 6, 2) := by decide +kernel
theorem dL_law_678 : decode cL_law 678 = .ok (.goto 1850, 3) := by decide +kernel
theorem dL_law_1730 : decode cL_law 1730 = .ok (.iadd, 1) := by decide +kernel
theorem dL_law_1731 : decode cL_law 1731 = .ok (.iaload, 1) := by decide +kernel
theorem dL_law_1732 : decode cL_law 1732 = .ok (.aload_n 0, 1) := by decide +kernel
theorem dL_law_1733 : decode cL_law 1733 = .ok (.iload 4, 2) := by decide +kernel
theorem dL_law_1735 : decode cL_law 1735 = .ok (.iconst 2, 1) := by decide +kernel
theorem dL_law_1736 : decode cL_law 1736 = .ok (.iadd, 1) := by decide +kernel
theorem dL_law_1737 : decode cL_law 1737 = .ok (.iaload, 1) := by decide +kernel
theorem dL_law_1738 : decode cL_law 1738 = .ok (.aload_n 0, 1) := by decide +kernel
theorem dL_law_1739 : decode cL_law 1739 = .ok (.iload 4, 2) := by decide +kernel
theorem dL_law_1741 : decode cL_law 1741 = .ok (.iconst 3, 1) := by decide +kernel
theorem dL_law_1742 : decode cL_law 1742 = .ok (.iadd, 1) := by decide +kernel
theorem dL_law_1743 : decode cL_law 1743 = .ok (.iaload, 1) := by decide +kernel
theorem dL_law_1744 : decode cL_law 1744 = .ok (.aload_n 0, 1) := by decide +kernel
theorem dL_law_1745 : decode cL_law 1745 = .ok (.iload 4, 2) := by decide +kernel
theorem dL_law_1747 : decode cL_law 1747 = .ok (.iconst 4, 1) := by decide +kernel
theorem dL_law_1748 : decode cL_law 1748 = .ok (.iadd, 1) := by decide +kernel
theorem dL_law_1749 : decode cL_law 1749 = .ok (.iaload, 1) := by decide +kernel
theorem dL_law_1750 : decode cL_law 1750 = .ok (.aload_n 3, 1) := by decide +kernel
theorem dL_law_1751 : decode cL_law 1751 = .ok (.invokestatic 286, 3) := by decide +kernel
theorem dL_law_1754 : decode cL_law 1754 = .ok (.istore 5, 2) := by decide +kernel
theorem dL_law_1756 : decode cL_law 1756 = .ok (.aload_n 2, 1) := by decide +kernel
theorem dL_law_1757 : decode cL_law 1757 = .ok (.aload_n 0, 1) := by decide +kernel
theorem dL_law_1758 : decode cL_law 1758 = .ok (.iload 4, 2) := by decide +kernel
theorem dL_law_1760 : decode cL_law 1760 = .ok (.iconst 1, 1) := by decide +kernel
theorem dL_law_1761 : decode cL_law 1761 = .ok (.iadd, 1) := by decide +kernel
theorem dL_law_1762 : decode cL_law 1762 = .ok (.iaload, 1) := by decide +kernel
theorem dL_law_1763 : decode cL_law 1763 = .ok (.aload_n 0, 1) := by decide +kernel
theorem dL_law_1764 : decode cL_law 1764 = .ok (.iload 4, 2) := by decide +kernel
theorem dL_law_1766 : decode cL_law 1766 = .ok (.iconst 2, 1) := by decide +kernel
theorem dL_law_1767 : decode cL_law 1767 = .ok (.iadd, 1) := by decide +kernel
theorem dL_law_1768 : decode cL_law 1768 = .ok (.iaload, 1) := by decide +kernel
theorem dL_law_1769 : decode cL_law 1769 = .ok (.aload_n 0, 1) := by decide +kernel
theorem dL_law_1770 : decode cL_law 1770 = .ok (.iload 4, 2) := by decide +kernel
theorem dL_law_1772 : decode cL_law 1772 = .ok (.iconst 3, 1) := by decide +kernel
theorem dL_law_1773 : decode cL_law 1773 = .ok (.iadd, 1) := by decide +kernel
theorem dL_law_1774 : decode cL_law 1774 = .ok (.iaload, 1) := by decide +kernel
theorem dL_law_1775 : decode cL_law 1775 = .ok (.aload_n 0, 1) := by decide +kernel
theorem dL_law_1776 : decode cL_law 1776 = .ok (.iload 4, 2) := by decide +kernel
theorem dL_law_1778 : decode cL_law 1778 = .ok (.iconst 4, 1) := by decide +kernel
theorem dL_law_1779 : decode cL_law 1779 = .ok (.iadd, 1) := by decide +kernel
theorem dL_law_1780 : decode cL_law 1780 = .ok (.iaload, 1) := by decide +kernel
theorem dL_law_1781 : decode cL_law 1781 = .ok (.invokevirtual 288, 3) := by decide +kernel
theorem dL_law_1784 : decode cL_law 1784 = .ok (.istore 6, 2) := by decide +kernel
theorem dL_law_1786 : decode cL_law 1786 = .ok (.goto 742, 3) := by decide +kernel
theorem dL_law_1789 : decode cL_law 1789 = .ok (.aload_n 1, 1) := by decide +kernel
theorem dL_law_1790 : decode cL_law 1790 = .ok (.aload_n 0, 1) := by decide +kernel
theorem dL_law_1791 : decode cL_law 1791 = .ok (.iload 4, 2) := by decide +kernel
theorem dL_law_1793 : decode cL_law 1793 = .ok (.iconst 1, 1) := by decide +kernel
theorem dL_law_1794 : decode cL_law 1794 = .ok (.iadd, 1) := by decide +kernel
theorem dL_law_1795 : decode cL_law 1795 = .ok (.iaload, 1) := by decide +kernel
theorem dL_law_1796 : decode cL_law 1796 = .ok (.aload_n 0, 1) := by decide +kernel
theorem dL_law_1797 : decode cL_law 1797 = .ok (.iload 4, 2) := by decide +kernel
theorem dL_law_1799 : decode cL_law 1799 = .ok (.iconst 2, 1) := by decide +kernel
theorem dL_law_1800 : decode cL_law 1800 = .ok (.iadd, 1) := by decide +kernel
theorem dL_law_1801 : decode cL_law 1801 = .ok (.iaload, 1) := by decide +kernel
theorem dL_law_1802 : decode cL_law 1802 = .ok (.aload_n 0, 1) := by decide +kernel
theorem dL_law_1803 : decode cL_law 1803 = .ok (.iload 4, 2) := by decide +kernel
theorem dL_law_1805 : decode cL_law 1805 = .ok (.iconst 3, 1) := by decide +kernel
theorem dL_law_1806 : decode cL_law 1806 = .ok (.iadd, 1) := by decide +kernel
theorem dL_law_1807 : decode cL_law 1807 = .ok (.iaload, 1) := by decide +kernel
theorem dL_law_1808 : decode cL_law 1808 = .ok (.aload_n 0, 1) := by decide +kernel
theorem dL_law_1809 : decode cL_law 1809 = .ok (.iload 4, 2) := by decide +kernel
theorem dL_law_1811 : decode cL_law 1811 = .ok (.iconst 4, 1) := by decide +kernel
theorem dL_law_1812 : decode cL_law 1812 = .ok (.iadd, 1) := by decide +kernel
theorem dL_law_1813 : decode cL_law 1813 = .ok (.iaload, 1) := by decide +kernel
theorem dL_law_1814 : decode cL_law 1814 = .ok (.aload_n 3, 1) := by decide +kernel
theorem dL_law_1815 : decode cL_law 1815 = .ok (.invokestatic 289, 3) := by decide +kernel
theorem dL_law_1818 : decode cL_law 1818 = .ok (.istore 5, 2) := by decide +kernel
theorem dL_law_1820 : decode cL_law 1820 = .ok (.aload_n 2, 1) := by decide +kernel
theorem dL_law_1821 : decode cL_law 1821 = .ok (.aload_n 0, 1) := by decide +kernel
theorem dL_law_1822 : decode cL_law 1822 = .ok (.iload 4, 2) := by decide +kernel
theorem dL_law_1824 : decode cL_law 1824 = .ok (.iconst 1, 1) := by decide +kernel
theorem dL_law_1825 : decode cL_law 1825 = .ok (.iadd, 1) := by decide +kernel
theorem dL_law_1826 : decode cL_law 1826 = .ok (.iaload, 1) := by decide +kernel
theorem dL_law_1827 : decode cL_law 1827 = .ok (.aload_n 0, 1) := by decide +kernel
theorem dL_law_1828 : decode cL_law 1828 = .ok (.iload 4, 2) := by decide +kernel
theorem dL_law_2502 : decode cL_law 2502 = .ok (.aload_n 1, 1) := by decide +kernel
theorem dL_law_2503 : decode cL_law 2503 = .ok (.invokevirtual 347, 3) := by decide +kernel
theorem dL_law_2506 : decode cL_law 2506 = .ok (.pop, 1) := by decide +kernel
theorem dL_law_2507 : decode cL_law 2507 = .ok (.aload_n 2, 1) := by decide +kernel
theorem dL_law_2508 : decode cL_law 2508 = .ok (.invokevirtual 351, 3) := by decide +kernel
theorem dL_law_2511 : decode cL_law 2511 = .ok (.pop, 1) := by decide +kernel
theorem dL_law_2512 : decode cL_law 2512 = .ok (.goto 16, 3) := by decide +kernel
theorem dL_law_2515 : decode cL_law 2515 = .ok (.aload_n 1, 1) := by decide +kernel
theorem dL_law_2516 : decode cL_law 2516 = .ok (.invokevirtual 352, 3) := by decide +kernel
theorem dL_law_2519 : decode cL_law 2519 = .ok (.pop2, 1) := by decide +kernel
theorem dL_law_2520 : decode cL_law 2520 = .ok (.aload_n 2, 1) := by decide +kernel
theorem dL_law_2521 : decode cL_law 2521 = .ok (.invokevirtual 356, 3) := by decide +kernel
theorem dL_law_2524 : decode cL_law 2524 = .ok (.pop2, 1) := by decide +kernel
theorem dL_law_2525 : decode cL_law 2525 = .ok (.goto 3, 3) := by decide +kernel
theorem dL_law_2528 : decode cL_law 2528 = .ok (.iinc 4 6, 3) := by decide +kernel
theorem dL_law_2531 : decode cL_law 2531 = .ok (.goto (-2504), 3) := by decide +kernel
theorem dL_law_2534 : decode cL_law 2534 = .ok (.iconst 1, 1) := by decide +kernel
theorem dL_law_2535 : decode cL_law 2535 = .ok (.ireturn, 1) := by decide +kernel
abbrev vwCl : List vw_C := [(RJ0, TJ0, 4), (RJ4, TJ4, 4), (RJx00060, TJx00060, 6), (RJx7c733, TJx7c733, 6), (RX0, TX0, 4), (RX1, TX1, 4), (RX2, TX2, 4), (RX3, TX3, 2), (RX4, TX4, 10)]
