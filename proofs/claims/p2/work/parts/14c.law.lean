/-! what the law wants beyond the methods: a switch, calls of methods with handlers, worlds renamed, the count of slots -/
noncomputable def eo_ts (tgs : List Nat) : ev_I := fun _ go _ ls st B F top => ev_uc st fun v r => ev_i v (ev_b (Nat.blt v 4000) (ev_get 0 tgs (Nat.div v 4) fun tg => ev_b (Nat.beq tg 0) none (go tg ls r B F top)) none)
/-- a call told by cw -/
noncomputable def eo_callw (cw : ev_C) (nx n : Nat) : ev_I := fun _ go pc ls st B F top => eo_call nx 0 n cw go pc ls st B F top
noncomputable def ev_wrap (q : ev_P) (call : ev_C) : ev_C := fun _ as B F top => ev_pad q.2.1 as fun ls => @Option.rec ev_R (fun _ => Option ev_V) none (fun r => ev_b (Nat.beq r.1 99999) none (ev_tell q.2.2 r.2.2.1 fun l => some (l, r.2.2.2.1, r.2.2.2.2.1, r.2.2.2.2.2))) (ev_loop q.1 99999 call ev_fuel 0 ls [] B F top)
section ZSW
variable {p : Program} {l : Launch} {e : Env} {R : Room} {s : State} {m : MethodId} {args : Array Value} {below : List Frame} {meth : Method} {c : Code} {T : State} {locs : List Loc} {cells slots : Nat}
theorem zcallSW (X : Stand p l e R s m args below meth c T locs cells slots) (hexec : p.tables.exec = Jvm.exec) {own : String} {index : Nat} {y : MethodName} {bytes : ByteArray} {maxL : Nat} {ret : Option FieldType} {hh : List (Nat × Nat × Nat × Nat)}
    (hown : s.vm.findClass own = some m.cls) (hlink : (Cond.methodLink own index y).before args s = true) (hstat : (Cond.static y).before args s = true) (hinit : (Cond.initialized y.cls).before args s = true)
    (hcode : (Cond.codeWith y bytes maxL ret hh).before args s = true) (hy : y.cls ≠ "java/lang/invoke/MethodHandle" ∧ y.cls ≠ "java/lang/invoke/VarHandle")
    {W : Nat} {Pre : Pt → Array Value → Prop} {Post : Pt → Array Value → Option Value → Pt → Prop} (hK : Back l R p e below s args y 3 W Pre Post)
    {g : JFrame} (hg : g.method = m) (hsize : g.locals.size = c.maxLocals) {argsL rest : List Value} (hlen : ∀ sig, parseMethodDescriptor y.desc = some sig → argsL.length = sig.parameters.length)
    (hstack : g.stack = argsL.reverse ++ rest) (hW : 2 * g.monitorRoom + (rest.map fun v => v.category).sum ≤ W) (hdg : decode c.code g.pc = .ok (.invokestatic index, 3))
    (hpre : ∀ vm₁, s.WarmedH vm₁ → Pre ⟨T.setVm vm₁, locs, cells, slots⟩ argsL.toArray) :
    ∃ (v : Option Value) (vm₁ : Vm) (B : Pt), s.WarmedH vm₁ ∧ Stand p l e R s m args below meth c B.U B.locs B.cells B.slots ∧ Post ⟨T.setVm vm₁, locs, cells, slots⟩ argsL.toArray v B ∧
      ∀ target, Steps p.tables e below (B.U.setTop { g with pc := g.pc + 3, stack := v.toList ++ rest }) target → Steps p.tables e below (T.setTop g) target := by
  obtain ⟨mk, methM, cM, hnamed, hmethM, -, -, -, -, -, -, hsigM⟩ := Cond.codeWith_spec hcode
  have hstatic : methM.isStatic = true := Cond.static_spec hnamed hmethM hstat
  obtain ⟨kP, hkP, -⟩ := className_of_methodNamed hnamed
  have hinitP : kP.init = .initialized := Cond.initialized_spec (findClass_of_methodNamed hnamed) hkP hinit
  obtain ⟨vm₁, X₁, hstep₁⟩ := X.invokestatic hexec hown hlink hnamed hmethM hstatic hkP hinitP hy (g := g) hg (argsL := argsL) (rest := rest) (hlen _ hsigM) hstack hdg
  obtain ⟨v, B, X', hpost, hsteps⟩ := hK m meth c ⟨T.setVm vm₁, locs, cells, slots⟩ { g with stack := rest } (.invokestatic index) mk argsL.toArray X₁ hg hsize hdg hW (X₁.named hnamed) (hpre vm₁ X₁.warmed)
  exact ⟨v, vm₁, B, X₁.warmed, X', hpost, fun target h => hstep₁ _ fun acts => by rw [doInvoke_state]; exact hsteps.trans h⟩
variable {H : Heap}
theorem zrunSW {y : MethodName} {bytes cc : ByteArray} {maxL nL mc ms n index : Nat} {ret : Option FieldType} {hh : List (Nat × Nat × Nat × Nat)} {ws : List Cond} {rm : Room} {Pc : Array Value → State → Prop} {Qc : Array Value → State → Outcome → State → Prop} {free : Addr → Prop} {Ts : List Cond} {own : String} {As rest : List Value} {g : JFrame}
    (S : CallFix p m c cc nL s args Ts own) (hM : Met l y ws rm Pc Qc mc ms free) (hrc : rm.cells = mc) (hrs : rm.slots = ms) (hfr : rm.frames + 1 ≤ R.frames) (hlo : 8 + (maxL + 11) + rm.locals ≤ R.locals) (hws : ∀ w ∈ ws, ∀ (a' : Array Value) (U : State), s.WarmedH U.vm → w.before a' U = true) (hcw : Cond.codeWith y bytes maxL ret hh ∈ ws)
    (hcode : (Cond.codeWith y bytes maxL ret hh).before args s = true) (hini : (Cond.initialized y.cls).before args s = true) (hy : y.cls ≠ "java/lang/invoke/MethodHandle" ∧ y.cls ≠ "java/lang/invoke/VarHandle") (hlen : ∀ sig, parseMethodDescriptor y.desc = some sig → n = sig.parameters.length) (hl : (Cond.methodLink own index y).before args s = true) (hstt : (Cond.static y).before args s = true) (hp : PreS s H Pc As)
    (hg : g.method = m) (hn : As.length = n) (hsize : g.locals.size = nL) (hstack : g.stack = As.reverse ++ rest) (hW : 2 * g.monitorRoom + (rest.map fun v => v.category).sum ≤ 8) (hdg : decode cc g.pc = .ok (.invokestatic index, 3)) (hf : cells + mc ≤ R.cells ∧ slots + ms ≤ R.slots) :
    va_Run p l e R s m args below meth c H locs cells slots mc ms g rest (Qc As.toArray) (free) := by
  have hK : Back l R p e below s args y 3 8 (PreOf R mc ms Pc) (PostOf Qc mc ms free) := va_backW (hh := hh) (bytes := bytes) (maxL := maxL) (ret := ret) hM hp.1 hrc hrs hfr hlo hws hcw (fun a' U hW => word_at hW (Or.inl (by first | rfl | simp [Cond.onTables, Cond.keeps, Cond.steady])) hini)
  obtain ⟨hx, hb, hml, ho, -⟩ := S
  intro T hT X
  obtain ⟨v, vm₁, ⟨U', l2, c2, s2⟩, hW₁, X', ⟨g', mk, t, L, e1, e2, hq, h1, hL, h2, h3⟩, st⟩ := zcallSW X hx (bytes := bytes) (maxL := maxL) (ret := ret) ho hl hstt hini hcode hy hK hg (hsize.trans hml.symm) (argsL := As) (rest := rest) (fun sig h => hn.trans (hlen sig h)) hstack hW (by rw [hb]; exact hdg)
    (fun vm₁ hW₁ => ⟨hf.1, hf.2, hp.2 (T.setVm vm₁) hT hW₁⟩)
  dsimp only [Pt.U, Pt.locs, Pt.cells, Pt.slots] at X' e1 e2 h1 h2 h3 st
  subst h1; subst h2; subst h3
  exact ⟨v, (T.setVm vm₁).calling g' mk As.toArray, t, U', L, hT, X', hL, e1, e2, hq, st⟩
end ZSW
section ZLAW
variable {zi : zMs} {al : Nat → Nat} {tf : Nat × Nat} {gm dC : Nat → ClassId} {dI : Nat → Nat → Nat} {N d : Nat} {l : Launch} {y : MethodName} {bytes : ByteArray} {maxL : Nat} {ret : Option FieldType} {pc : Nat}
theorem zo_ts {tgs : List Nat} {dflt hi : Int} {offs : Array Int} {len : Nat} (hd : decode bytes pc = .ok (.tableswitch dflt 0 hi offs, len)) (hall : ((List.range tgs.length).all fun k => decide ((k : Int) ≤ hi) && (match offs[k]? with | some off => decide ((pc : Int) + off = ((tgs.getD k 0 : Nat) : Int)) | none => false)) = true) : zO zi al tf gm dC dI N d l y bytes maxL ret pc (eo_ts tgs) := by
  intro p e R s m args below meth cc Q rt hrt call go f hM hC hG ls st B F top qq h hT H locs cells slots LS hX
  replace h := ev_uc_some h
  obtain ⟨v, r, rfl, h⟩ := h
  replace h := ev_i_some h
  obtain ⟨hv, h⟩ := h
  replace h := ev_b_some h
  obtain ⟨hvl, h⟩ := h
  have hvl := zb_lt.mp hvl
  rw [ev_get_eq] at h
  replace h := ev_b_none h
  obtain ⟨h0, h⟩ := h
  have h0 := zb_ne h0
  have hlt : v / 4 < tgs.length := by
    rcases Nat.lt_or_ge (v / 4) tgs.length with q | q
    · exact q
    · rw [List.getD_eq_getElem?_getD] at h0
      rw [List.getElem?_eq_none (by exact q)] at h0
      exact absurd rfl h0
  have hk := List.all_eq_true.mp hall (v / 4) (List.mem_range.mpr hlt)
  simp only [Bool.and_eq_true, decide_eq_true_eq] at hk
  obtain ⟨hk1, hk2⟩ := hk
  rw [List.map_cons, zv_i hv]
  have hti : (nI (v / 4)).toInt = ((v / 4 : Nat) : Int) := by rw [zn_toInt (by omega), if_pos (by omega)]
  have K := hG _ ls r B F top qq h hT H locs cells slots LS hX.down
  cases ho : offs[v / 4]? with
  | none => rw [ho] at hk2; cases hk2
  | some off =>
    rw [ho] at hk2
    exact lv_tableIn hM.1 hM.2.1 hd (by rw [hti]; omega) (by rw [hti]; omega) (by rw [hti, Int.sub_zero, Int.toNat_natCast]; exact ho) (of_decide_eq_true hk2) K
theorem zo_callw {cw : ev_C} {nx n index : Nat} {y2 : MethodName} {b2 : ByteArray} {m2 : Nat} {r2 : Option FieldType} {hh : List (Nat × Nat × Nat × Nat)}
    (hW : ∀ as B F top q, (∀ x ∈ as, x ≠ 7) → cw 0 (as.flatMap zl1) B F top = some q → zI N B F top → q.1.length ≤ 1 ∧ Met l y2 (Cond.codeWith y2 b2 m2 r2 hh :: zTS) (zrm d) (zPre al tf gm dC dI as (B ++ F.reverse)) (zPost al tf gm dC dI N q.1 q.2.1 q.2.2.1 q.2.2.2) (zC d) (zS d) (zA al))
    (hco : Cond.codeWith y2 b2 m2 r2 hh ∈ zTS) (hm : m2 ≤ 21) (hd : decode bytes pc = .ok (.invokestatic index, 3)) (hn : nx = pc + 3) (hl : Cond.methodLink y.cls index y2 ∈ zTS) (hs : Cond.static y2 ∈ zTS) (hi : Cond.initialized y2.cls ∈ zTS) (hp : (parseMethodDescriptor y2.desc).map (fun d => d.parameters.length) = some n) (hmh : y2.cls ≠ "java/lang/invoke/MethodHandle" ∧ y2.cls ≠ "java/lang/invoke/VarHandle") : zO zi al tf gm dC dI N d l y bytes maxL ret pc (eo_callw cw nx n) := by
  intro p e R s m args below meth cc Q rt hrt call go f hM hC hG ls st B F top qq h hT H locs cells slots LS hX
  subst hn
  obtain ⟨a, b, c, rfl, hal, h7, hb, hc, h⟩ := zcall_ev (call := cw) h
  have h7r : ∀ x ∈ a.reverse, x ≠ 7 := fun x hx => h7 x (List.mem_reverse.mp hx)
  obtain ⟨hr1, hMet⟩ := hW _ B F top c h7r hc hX.2.1
  obtain ⟨-, -, -, -, h5, h6, -⟩ := id hX
  rw [Nat.succ_mul] at h5 h6
  have hfr := hM.2.2.2.2.2.2.2.2.2.2.2.2.1
  have hcat := zcat_le (al := al) (tf := tf) b
  have ht := hM.2.2.2.2.2.2.1
  have hG2 : GoodIn zTS (Cond.codeWith y2 b2 m2 r2 hh :: zTS) := zGood fun w hw => by
    rcases List.mem_cons.mp hw with rfl | hw
    · exact hco
    · exact hw
  exact zcall_go (a := (a.reverse.map (zv al tf)).toArray) (zrunSW (As := a.reverse.map (zv al tf)) (n := n) (hh := hh) ⟨hM.1, hM.2.1, hM.2.2.1, hM.2.2.2.2.2.1, ht⟩ hMet rfl rfl hfr (zlo hM.2.2.2.2.2.2.2.2.2.2.2.2.2 hm) (pay_in ht hG2) List.mem_cons_self (ht _ hco) (ht _ hi) hmh (fun sig h => by rw [h] at hp; exact (Option.some.inj hp).symm) (ht _ hl) (ht _ hs) ⟨zPre.blind, fun U hU hW => zpre_at hX hM.2.2.2.2.2.2.2.2.1 hM.2.2.2.2.2.2.2.2.2.1 hU hW⟩ rfl (by rw [List.length_map, List.length_reverse]; exact hal) (hX.1.1.trans hX.2.2.2.2.2.2) (by show _ = (List.map _ a.reverse).reverse ++ List.map _ b; rw [List.map_append, List.map_reverse, List.reverse_reverse]) (by show 2 * 0 + _ ≤ 8; omega) hd ⟨by omega, by omega⟩) hr1 hG h hT hX
/-- a method with handlers of which none is taken -/
theorem zwrap {P : ev_P} {call : ev_C} {hh : List (Nat × Nat × Nat × Nat)} (hinj : ∀ i j, al i = al j → i = j) (hC : zCs zi al tf gm dC dI N d l call) (hm1 : P.2.1 = maxL) (hk : zkind P.2.2 ret) (hpl : plainName y.cls = true) (hO : ∀ pc ins, zcode P.1 pc = some ins → zO zi al tf gm dC dI N d l y bytes maxL ret pc ins) :
    ∀ as B F top q, (∀ x ∈ as, x ≠ 7) → ev_wrap P call 0 (as.flatMap zl1) B F top = some q → zI N B F top → q.1.length ≤ 1 ∧ Met l y (Cond.codeWith y bytes maxL ret hh :: zTS) (zrm (d + 1)) (zPre al tf gm dC dI as (B ++ F.reverse)) (zPost al tf gm dC dI N q.1 q.2.1 q.2.2.1 q.2.2.2) (zC (d + 1)) (zS (d + 1)) (zA al) := by
  intro as B F top q h7 h hI
  obtain ⟨hl, h⟩ := ev_pad_some _ _ _ _ h
  rw [hm1] at hl h
  cases hloop : ev_loop P.1 99999 call ev_fuel 0 (as.flatMap zl1 ++ List.replicate (maxL - (as.flatMap zl1).length) 7) [] B F top with
  | none => rw [hloop] at h; cases h
  | some r =>
    rw [hloop] at h
    replace h : ev_b (Nat.beq r.1 99999) none (ev_tell P.2.2 r.2.2.1 fun l => some (l, r.2.2.2.1, r.2.2.2.2.1, r.2.2.2.2.2)) = some q := h
    obtain ⟨hne, h⟩ := ev_b_none h
    have hne := zb_ne hne
    obtain ⟨rr, hrr, hrl⟩ := ev_tell_some h
    cases hrr
    refine ⟨hrl, ?_⟩
    refine va_MetW (cc := bytes) (maxL := maxL) (ret := ret) (hh := hh) hpl rfl ?_
    intro p e s m args below meth c s₁ Bd hml hv
    obtain ⟨rfl, hH, hK, hQ⟩ := hv
    have hts := atoms_spec (ws := Cond.codeWith y bytes maxL ret hh :: zTS) Bd.pre
    have hown : s.vm.findClass y.cls = some m.cls := findClass_of_methodNamed Bd.named
    have hM : zM al tf gm dC dI d y bytes maxL ret p (zrm (d + 1)) s m (as.map (zv al tf)).toArray meth c := ⟨Bd.exec, Bd.bytes, hml, Bd.returns, Bd.notSynchronized, hown, fun w hw => hts w (List.mem_cons_of_mem _ hw), fun h => by rw [(name_of_methodNamed Bd.named Bd.method).1]; exact h, hK, hQ, trivial, hinj, Nat.le_refl _, by show 40 * d + 40 ≤ 40 * (d + 1); omega⟩
    obtain ⟨LS, hLS, hFr⟩ := zentry (al := al) (tf := tf) h7 hl
    rw [hLS]
    have key := zloop (zi := zi) (stop := 99999) hO (p := p) (e := e) (R := zrm (d + 1)) (s := s) (m := m) (args := (as.map (zv al tf)).toArray) (below := below) (meth := meth) (c := c) (Q := MQ below (zPost al tf gm dC dI N rr r.2.2.2.1 r.2.2.2.2.1 r.2.2.2.2.2) (as.map (zv al tf)).toArray s (zC (d + 1)) (zS (d + 1)) (zA al)) (rt := fun k => zRet bytes ret k ∨ k = 99999) (fun k h => Or.inl h) (Or.inr rfl) hM hC ev_fuel
    refine key 0 _ [] B F top r hloop ?_ s.heap [] 0 0 LS ⟨hFr, hI, hH, va_S.rf, by show 0 + _ ≤ zC (d + 1); rw [Nat.zero_add]; exact Nat.le_refl _, by show 0 + _ ≤ zS (d + 1); rw [Nat.zero_add]; exact Nat.le_refl _, by rw [List.length_append, List.length_replicate]; omega⟩
    intro H locs cells slots LS2 hrt hX
    have hrt : zRet bytes ret r.1 := hrt.resolve_right hne
    obtain ⟨rr2, h1, h2, h3⟩ := zreturn (al := al) (tf := tf) (gm := gm) (dC := dC) (dI := dI) (d := d) (y := y) (maxL := maxL) hk hrt h
    cases h1
    obtain ⟨x1, x2, x3, x4, x5, x6, x7⟩ := hX
    refine W.widen (show cells ≤ zC (d + 1) by have h : cells + 0 * _ ≤ zC (d + 1) := x5; omega) (show slots ≤ zS (d + 1) by have h : slots + 0 * _ ≤ zS (d + 1) := x6; omega) (h3 p e (zrm (d + 1)) s m _ below meth c H locs _ _ LS2 _ _ hM (fun t h1 h2 => ?_) (fun q hq => x4.2.2 q hq))
    exact ⟨rfl, ⟨by rw [h1]; exact x3, x2⟩, x4.F h1⟩
end ZLAW
