/-! the loop and the calls are sound -/
theorem ev_nil_some {α β : Type} {l : List β} {x : Option α} {r : α} (h : ev_nil l x = some r) : l = [] ∧ x = some r := by
  cases l with
  | nil => exact ⟨rfl, h⟩
  | cons _ _ => cases h
theorem ev_tell_some {kind : Nat} {st : List Nat} {α : Type} {kk : List Nat → Option α} {r0 : α} (h : ev_tell kind st kk = some r0) : ∃ rr, kk rr = some r0 ∧ rr.length ≤ 1 := by
  rcases ev_b_or h with ⟨-, h⟩ | ⟨-, h⟩
  · exact ⟨[], (ev_nil_some h).2, Nat.zero_le _⟩
  replace h := ev_uc_some h
  obtain ⟨v, t, -, h⟩ := h
  replace h := (ev_nil_some h).2
  refine ⟨[v], ?_, Nat.le_refl _⟩
  rcases ev_b_or h with ⟨-, h⟩ | ⟨-, h⟩
  · exact (ev_i_some h).2
  rcases ev_b_or h with ⟨-, h⟩ | ⟨-, h⟩
  · exact (ev_b_some (ev_i_some h).2).2
  rcases ev_b_or h with ⟨-, h⟩ | ⟨-, h⟩
  · exact (ev_b_some (ev_i_some h).2).2
  rcases ev_b_or h with ⟨-, h⟩ | ⟨-, h⟩
  · exact (ev_l_some h).2
  rcases ev_b_or h with ⟨-, h⟩ | ⟨-, h⟩
  · exact h
  · exact (ev_b_some h).2
section ZRUN
variable {zi : zMs} {al : Nat → Nat} {tf : Nat × Nat} {gm dC : Nat → ClassId} {dI : Nat → Nat → Nat} {N d : Nat} {l : Launch} {y : MethodName} {bytes : ByteArray} {maxL : Nat} {ret : Option FieldType}
theorem zX.zero {f : Nat} {R : Room} {s : State} {ls : List Nat} {B F : List (List Nat)} {top : Nat} {H : Heap} {locs : List Loc} {cells slots : Nat} {LS : Array Slot} (h : zX al tf gm dC dI N d maxL f R s ls B F top H locs cells slots LS) : zX al tf gm dC dI N d maxL 0 R s ls B F top H locs cells slots LS := by
  obtain ⟨h1, h2, h3, h4, h5, h6, h7⟩ := h
  exact ⟨h1, h2, h3, h4, by omega, by omega, h7⟩
theorem zloop {code : List (List ev_I)} {stop : Nat} {call : ev_C} (hO : ∀ pc ins, zcode code pc = some ins → zO zi al tf gm dC dI N d l y bytes maxL ret pc ins) {p : Program} {e : Env} {R : Room} {s : State} {m : MethodId} {args : Array Value} {below : List Frame} {meth : Method} {c : Code} {Q : State → Prop} {rt : Nat → Prop} (hrt : ∀ k, zRet bytes ret k → rt k) (hstop : rt stop) (hM : zM al tf gm dC dI d y bytes maxL ret p R s m args meth c) (hC : zCs zi al tf gm dC dI N d l call) :
    ∀ f, zG al tf gm dC dI N d maxL f p l e R s m args below meth c Q rt (ev_loop code stop call f) := by
  intro f
  induction f with
  | zero => intro pc ls st B F top q h; cases h
  | succ f ih =>
    intro pc ls st B F top q h hT H locs cells slots LS hX
    replace h : ev_fetch code pc (fun ins => ins call (fun pc' ls' st' B' F' top' => ev_nf pc' fun q => ev_b (Nat.beq q stop) (some (q, ls', st', B', F', top')) (ev_loop code stop call f q ls' st' B' F' top')) pc ls st B F top) = some q := h
    obtain ⟨ins, h1, h2⟩ := ev_fetch_some h
    refine hO pc ins h1 p e R s m args below meth c Q rt hrt call _ f hM hC ?_ ls st B F top q h2 hT H locs cells slots LS hX
    intro pc' ls' st' B' F' top' q' h' hT' H' locs' cells' slots' LS' hX'
    replace h' : ev_nf pc' (fun q => ev_b (Nat.beq q stop) (some (q, ls', st', B', F', top')) (ev_loop code stop call f q ls' st' B' F' top')) = some q' := h'
    rw [ev_nf_eq] at h'
    rcases ev_if zb_eq h' with ⟨e1, e2⟩ | ⟨-, e2⟩
    · subst e1
      cases e2
      exact hT' H' locs' cells' slots' LS' hstop hX'.zero
    · exact ih pc' ls' st' B' F' top' q' e2 hT' H' locs' cells' slots' LS' hX'
def zkind (kind : Nat) (ret : Option FieldType) : Prop := (kind = 0 ∧ ret = none) ∨ (kind = 1 ∧ ret = some .int) ∨ (kind = 2 ∧ ret = some .boolean) ∨ (kind = 3 ∧ (ret = some .byte ∨ ret = some .char)) ∨ (kind = 4 ∧ ret = some .long) ∨ (5 ≤ kind ∧ ∃ ty, ret = some ty ∧ ((∃ n, ty = .object n) ∨ ∃ t, ty = .array t))
theorem znz : ∀ k, k ≤ 1 → narrow .boolean (.int (nI k)) = .int (nI k) := by decide +kernel
theorem znc : ∀ k, k < 128 → narrow .char (.int (nI k)) = .int (nI k) := by decide +kernel
theorem zreturn {kind k : Nat} {st : List Nat} {α : Type} {kk : List Nat → Option α} {r0 : α} (hk : zkind kind ret) (hr : zRet bytes ret k) (h : ev_tell kind st kk = some r0) : ∃ rr, kk rr = some r0 ∧ rr.length ≤ 1 ∧ ∀ (p : Program) (e : Env) (R : Room) (s : State) (m : MethodId) (args : Array Value) (below : List Frame) (meth : Method) (c : Code) (H : Heap) (locs : List Loc) (cells slots : Nat) (LS : Array Slot) (Qc : Array Value → State → Outcome → State → Prop) (free : Addr → Prop), zM al tf gm dC dI d y bytes maxL ret p R s m args meth c → (∀ t : State, t.heap = H → s.WarmedH t.vm → Qc args s (.returned (rr.head?.map (zv al tf))) t) → (∀ q ∈ locs, free q.base) → W p l e R s m args below meth c H locs cells slots (MQ below Qc args s cells slots free) (F0 m k LS (st.map (zv al tf))) := by
  have int : ∀ {ty : FieldType} {v : Nat}, ret = some ty → (ty = .int ∨ ty = .boolean ∨ ty = .byte ∨ ty = .char) → narrow ty (.int (nI (v / 4))) = .int (nI (v / 4)) → v % 4 = 0 → ∀ (p : Program) (e : Env) (R : Room) (s : State) (m : MethodId) (args : Array Value) (below : List Frame) (meth : Method) (c : Code) (H : Heap) (locs : List Loc) (cells slots : Nat) (LS : Array Slot) (Qc : Array Value → State → Outcome → State → Prop) (free : Addr → Prop), zM al tf gm dC dI d y bytes maxL ret p R s m args meth c → (∀ t : State, t.heap = H → s.WarmedH t.vm → Qc args s (.returned (([v] : List Nat).head?.map (zv al tf))) t) → (∀ q ∈ locs, free q.base) → W p l e R s m args below meth c H locs cells slots (MQ below Qc args s cells slots free) (F0 m k LS (([v] : List Nat).map (zv al tf))) := by
    intro ty v hret hty hnar hv p e R s m args below meth c H locs cells slots LS Qc free hM hq hf
    have hd : decode bytes k = .ok (.ireturn, 1) := by
      rcases hr with ⟨h1, -⟩ | ⟨_, -, -, h1⟩ | ⟨h1, -⟩ | ⟨ty', h1, h2, -⟩
      · rw [hret] at h1; cases h1
      · exact h1
      · rw [hret] at h1
        cases h1
        rcases hty with h | h | h | h <;> cases h
      · rw [hret] at h1
        cases h1
        rcases h2 with ⟨_, rfl⟩ | ⟨_, rfl⟩ <;> rcases hty with h | h | h | h <;> cases h
    have ev : zv al tf v = .int (nI (v / 4)) := zv_i hv
    show W p l e R s m args below meth c H locs cells slots _ (F0 m k LS [zv al tf v])
    rw [ev]
    refine W.zret hM.1 hM.2.1 (hM.2.2.2.1.trans hret) hnar (fun t h1 h2 => ?_) hf hd hM.2.2.2.2.1
    have := hq t h1 h2
    rw [List.head?_cons, Option.map_some, ev] at this
    exact this
  replace h := ev_if zb_eq h
  rcases h with ⟨h1, h⟩ | ⟨h1, h⟩
  · replace h := ev_nil_some h
    obtain ⟨rfl, h⟩ := h
    refine ⟨[], h, Nat.zero_le _, fun p e R s m args below meth c H locs cells slots LS Qc free hM hq hf => ?_⟩
    have hret : ret = none := by
      rcases hk with ⟨-, hk⟩ | ⟨h2, -⟩ | ⟨h2, -⟩ | ⟨h2, -⟩ | ⟨h2, -⟩ | ⟨h2, -⟩
      · exact hk
      all_goals omega
    have hd : decode bytes k = .ok (.return_, 1) := by
      rcases hr with ⟨-, h1⟩ | ⟨_, h1, -⟩ | ⟨h1, -⟩ | ⟨ty', h1, -⟩
      · exact h1
      all_goals (rw [hret] at h1; cases h1)
    exact W.vret hM.1 hM.2.1 (hM.2.2.2.1.trans hret) hq hf hd hM.2.2.2.2.1
  · replace h := ev_uc_some h
    obtain ⟨v, t, rfl, h⟩ := h
    replace h := ev_nil_some h
    obtain ⟨rfl, h⟩ := h
    replace h := ev_if zb_eq h
    rcases h with ⟨h2, h⟩ | ⟨h2, h⟩
    · replace h := ev_i_some h
      obtain ⟨hv, h⟩ := h
      have hret : ret = some .int := by
        rcases hk with ⟨h3, -⟩ | ⟨-, hk⟩ | ⟨h3, -⟩ | ⟨h3, -⟩ | ⟨h3, -⟩ | ⟨h3, -⟩
        · omega
        · exact hk
        all_goals omega
      exact ⟨[v], h, Nat.le_refl _, int hret (Or.inl rfl) rfl hv⟩
    replace h := ev_if zb_eq h
    rcases h with ⟨h3, h⟩ | ⟨h3, h⟩
    · replace h := ev_i_some h
      obtain ⟨hv, h⟩ := h
      replace h := ev_b_some h
      obtain ⟨hl, h⟩ := h
      have hl : v ≤ 4 := zb_le.mp hl
      have hret : ret = some .boolean := by
        rcases hk with ⟨h4, -⟩ | ⟨h4, -⟩ | ⟨-, hk⟩ | ⟨h4, -⟩ | ⟨h4, -⟩ | ⟨h4, -⟩
        · omega
        · omega
        · exact hk
        all_goals omega
      exact ⟨[v], h, Nat.le_refl _, int hret (Or.inr (Or.inl rfl)) (znz (v / 4) (by omega)) hv⟩
    replace h := ev_if zb_eq h
    rcases h with ⟨h4, h⟩ | ⟨h4, h⟩
    · replace h := ev_i_some h
      obtain ⟨hv, h⟩ := h
      replace h := ev_b_some h
      obtain ⟨hl, h⟩ := h
      have hl : v < 512 := zb_lt.mp hl
      have hret : ret = some .byte ∨ ret = some .char := by
        rcases hk with ⟨h5, -⟩ | ⟨h5, -⟩ | ⟨h5, -⟩ | ⟨-, hk⟩ | ⟨h5, -⟩ | ⟨h5, -⟩
        · omega
        · omega
        · omega
        · exact hk
        all_goals omega
      rcases hret with hret | hret
      · exact ⟨[v], h, Nat.le_refl _, int hret (Or.inr (Or.inr (Or.inl rfl))) (znb (v / 4) (by omega)) hv⟩
      · exact ⟨[v], h, Nat.le_refl _, int hret (Or.inr (Or.inr (Or.inr rfl))) (znc (v / 4) (by omega)) hv⟩
    replace h := ev_if zb_eq h
    rcases h with ⟨h5, h⟩ | ⟨h5, h⟩
    · replace h := ev_l_some h
      obtain ⟨hv, h⟩ := h
      have hret : ret = some .long := by
        rcases hk with ⟨h6, -⟩ | ⟨h6, -⟩ | ⟨h6, -⟩ | ⟨h6, -⟩ | ⟨-, hk⟩ | ⟨h6, -⟩
        · omega
        · omega
        · omega
        · omega
        · exact hk
        · omega
      refine ⟨[v], h, Nat.le_refl _, fun p e R s m args below meth c H locs cells slots LS Qc free hM hq hf => ?_⟩
      have hd : decode bytes k = .ok (.lreturn, 1) := by
        rcases hr with ⟨h1, -⟩ | ⟨ty', h1, h2, -⟩ | ⟨-, h1⟩ | ⟨ty', h1, h2, -⟩
        · rw [hret] at h1; cases h1
        · rw [hret] at h1
          cases h1
          rcases h2 with h | h | h | h <;> cases h
        · exact h1
        · rw [hret] at h1
          cases h1
          rcases h2 with ⟨_, h⟩ | ⟨_, h⟩ <;> cases h
      have ev : zv al tf v = .long (lN (v / 4)) := zv_l hv
      show W p l e R s m args below meth c H locs cells slots _ (F0 m k LS [zv al tf v])
      rw [ev]
      refine W.lret hM.1 hM.2.1 (hM.2.2.2.1.trans hret) (fun t h1 h2 => ?_) hf hd hM.2.2.2.2.1
      have := hq t h1 h2
      rw [List.head?_cons, Option.map_some, ev] at this
      exact this
    · have hret : ∃ ty, ret = some ty ∧ ((∃ n, ty = .object n) ∨ ∃ t, ty = .array t) := by
        rcases hk with ⟨h6, -⟩ | ⟨h6, -⟩ | ⟨h6, -⟩ | ⟨h6, -⟩ | ⟨h6, -⟩ | ⟨-, hk⟩
        · omega
        · omega
        · omega
        · omega
        · omega
        · exact hk
      obtain ⟨ty, hret, hty⟩ := hret
      have key : (v % 4 = 2 ∨ v = 3) ∧ kk [v] = some r0 := by
        replace h := ev_if zb_eq h
        rcases h with ⟨h6, h⟩ | ⟨h6, h⟩
        · exact ⟨Or.inl h6, h⟩
        · replace h := ev_b_some h
          exact ⟨Or.inr (zb_eq.mp h.1), h.2⟩
      obtain ⟨hv, h⟩ := key
      refine ⟨[v], h, Nat.le_refl _, fun p e R s m args below meth c H locs cells slots LS Qc free hM hq hf => ?_⟩
      have hd : decode bytes k = .ok (.areturn, 1) := by
        rcases hr with ⟨h1, -⟩ | ⟨ty', h1, h2, -⟩ | ⟨h1, -⟩ | ⟨ty', h1, h2, h3⟩
        · rw [hret] at h1; cases h1
        · rw [hret] at h1
          cases h1
          rcases h2 with h | h | h | h <;> rcases hty with ⟨_, g⟩ | ⟨_, g⟩ <;> rw [h] at g <;> cases g
        · rw [hret] at h1
          cases h1
          rcases hty with ⟨_, h⟩ | ⟨_, h⟩ <;> cases h
        · exact h3
      have ev : zv al tf v = .null ∨ ∃ a, zv al tf v = .ref a := by
        rcases hv with hv | rfl
        · exact Or.inr ⟨_, zv_r hv⟩
        · exact Or.inl rfl
      exact W.aret hM.1 hM.2.1 (hM.2.2.2.1.trans hret) hty ev hq hf hd hM.2.2.2.2.1
theorem zsl {as : List Nat} (h7 : ∀ x ∈ as, x ≠ 7) : (lg_sl (as.map (zv al tf))).length = (as.flatMap zl1).length ∧ ∀ i q, q ∈ zlf al tf i (as.flatMap zl1) → q ∈ lv_args i (as.map (zv al tf)) := by
  induction as with
  | nil => exact ⟨rfl, fun i q h => by cases h⟩
  | cons x t ih =>
    obtain ⟨ih1, ih2⟩ := ih (fun z hz => h7 z (List.mem_cons_of_mem _ hz))
    have hx := h7 x List.mem_cons_self
    by_cases hc : x % 4 = 1
    · have ec : (zv al tf x).category = 2 := by rw [zv_l hc]; rfl
      have e1 : zl1 x = [x, 7] := if_pos hc
      refine ⟨?_, fun i q h => ?_⟩
      · rw [List.flatMap_cons, List.length_append, ← ih1, e1]
        show (List.flatMap _ (zv al tf x :: _)).length = _
        rw [List.flatMap_cons, List.length_append, if_pos ec]
        rfl
      · rw [List.flatMap_cons, e1] at h
        replace h : q ∈ (if x = 7 then _ else (i, zv al tf x) :: (if (7 : Nat) = 7 then zlf al tf (i + 1 + 1) (t.flatMap zl1) else _)) := h
        rw [if_neg hx, if_pos rfl] at h
        show q ∈ (i, zv al tf x) :: lv_args (if (zv al tf x).category = 2 then i + 2 else i + 1) _
        rw [if_pos ec]
        rcases List.mem_cons.mp h with rfl | h
        · exact List.mem_cons_self
        · exact List.mem_cons_of_mem _ (ih2 (i + 2) q h)
    · have ec : (zv al tf x).category ≠ 2 := by rw [zv_c1 hc]; decide
      have e1 : zl1 x = [x] := if_neg hc
      refine ⟨?_, fun i q h => ?_⟩
      · rw [List.flatMap_cons, List.length_append, ← ih1, e1]
        show (List.flatMap _ (zv al tf x :: _)).length = _
        rw [List.flatMap_cons, List.length_append, if_neg ec]
        rfl
      · rw [List.flatMap_cons, e1] at h
        replace h : q ∈ (if x = 7 then _ else (i, zv al tf x) :: zlf al tf (i + 1) (t.flatMap zl1)) := h
        rw [if_neg hx] at h
        show q ∈ (i, zv al tf x) :: lv_args (if (zv al tf x).category = 2 then i + 2 else i + 1) _
        rw [if_neg ec]
        rcases List.mem_cons.mp h with rfl | h
        · exact List.mem_cons_self
        · exact List.mem_cons_of_mem _ (ih2 (i + 1) q h)
theorem zlf_rep (n : Nat) : ∀ i q, q ∉ zlf al tf i (List.replicate n 7) := by
  induction n with
  | zero => intro i q h; cases h
  | succ n ih =>
    intro i q h
    rw [List.replicate_succ] at h
    replace h : q ∈ (if (7 : Nat) = 7 then zlf al tf (i + 1) (List.replicate n 7) else _) := h
    rw [if_pos rfl] at h
    exact ih _ _ h
theorem zlf_pad (n : Nat) : ∀ (ls : List Nat) i q, q ∈ zlf al tf i (ls ++ List.replicate n 7) → q ∈ zlf al tf i ls
  | [], i, q, h => absurd h (zlf_rep n i q)
  | v :: t, i, q, h => by
    replace h : q ∈ (if v = 7 then zlf al tf (i + 1) (t ++ List.replicate n 7) else (i, zv al tf v) :: zlf al tf (i + 1) (t ++ List.replicate n 7)) := h
    show q ∈ (if v = 7 then zlf al tf (i + 1) t else (i, zv al tf v) :: zlf al tf (i + 1) t)
    by_cases h7 : v = 7
    · rw [if_pos h7] at h ⊢
      exact zlf_pad n t _ _ h
    · rw [if_neg h7] at h ⊢
      rcases List.mem_cons.mp h with rfl | h
      · exact List.mem_cons_self
      · exact List.mem_cons_of_mem _ (zlf_pad n t _ _ h)
/-- the frame at the start -/
theorem zentry {as : List Nat} (h7 : ∀ x ∈ as, x ≠ 7) (hl : (as.flatMap zl1).length ≤ maxL) : ∃ LS, (∀ m, entryFrame m (as.map (zv al tf)).toArray maxL = F0 m 0 LS []) ∧ zFr al tf (as.flatMap zl1 ++ List.replicate (maxL - (as.flatMap zl1).length) 7) LS := by
  obtain ⟨h1, h2⟩ := zsl (al := al) (tf := tf) h7
  have hh := lv_entry (as.map (zv al tf)) (n := maxL) (by rw [h1]; exact hl)
  refine ⟨_, fun m => lg_entry_eq m _ _, ?_⟩
  unfold zFr
  have el : (as.flatMap zl1 ++ List.replicate (maxL - (as.flatMap zl1).length) 7).length = maxL := by
    rw [List.length_append, List.length_replicate]
    omega
  rw [el]
  exact ⟨hh.1, hh.2.1, fun q hq => hh.2.2 q (h2 0 q (zlf_pad _ _ 0 q hq))⟩
/-- what a method of the table must bring -/
def zTab (zi : zMs) (al : Nat → Nat) (tf : Nat × Nat) (gm dC : Nat → ClassId) (dI : Nat → Nat → Nat) (N : Nat) (l : Launch) (mi : Nat) (q : ev_P) : Prop :=
  ∃ y bytes maxL ret, zi[mi]? = some (y, bytes, maxL, ret) ∧ q.2.1 = maxL ∧ maxL ≤ 21 ∧ zkind q.2.2 ret ∧ plainFor y = true ∧ Cond.code y bytes maxL ret ∈ zTS ∧ ∀ d pc ins, zcode q.1 pc = some ins → zO zi al tf gm dC dI N d l y bytes maxL ret pc ins
theorem zrun {tab : List ev_P} (hinj : ∀ i j, al i = al j → i = j) (hT : ∀ mi q, tab[mi]? = some q → zTab zi al tf gm dC dI N l mi q) : ∀ d, zCs zi al tf gm dC dI N d l (ev_run tab d) := by
  intro d
  induction d with
  | zero => intro mi as B F top q h7 h; cases h
  | succ d ih =>
    intro mi as B F top q h7 h hI
    replace h : ev_meth tab mi (fun q => ev_pad q.2.1 (as.flatMap zl1) fun ls => @Option.rec ev_R (fun _ => Option ev_V) none (fun r => ev_b (Nat.beq r.1 99999) none (ev_tell q.2.2 r.2.2.1 fun l => some (l, r.2.2.2.1, r.2.2.2.2.1, r.2.2.2.2.2))) (ev_loop q.1 99999 (ev_run tab d) ev_fuel 0 ls [] B F top)) = some q := h
    obtain ⟨P, hP, h⟩ := ev_meth_some h
    obtain ⟨hl, h⟩ := ev_pad_some _ _ _ _ h
    obtain ⟨y, bytes, maxL, ret, hz, hm1, hm2, hk, hpl, hco, hO⟩ := hT mi P hP
    rw [hm1] at hl h
    cases hloop : ev_loop P.1 99999 (ev_run tab d) ev_fuel 0 (as.flatMap zl1 ++ List.replicate (maxL - (as.flatMap zl1).length) 7) [] B F top with
    | none => rw [hloop] at h; cases h
    | some r =>
      rw [hloop] at h
      replace h : ev_b (Nat.beq r.1 99999) none (ev_tell P.2.2 r.2.2.1 fun l => some (l, r.2.2.2.1, r.2.2.2.2.1, r.2.2.2.2.2)) = some q := h
      obtain ⟨hne, h⟩ := ev_b_none h
      have hne := zb_ne hne
      obtain ⟨rr, hrr, hrl⟩ := ev_tell_some h
      cases hrr
      refine ⟨_, hz, hrl, hm2, hco, ?_⟩
      refine va_MetF (cc := bytes) (maxL := maxL) (ret := ret) hpl rfl ?_
      intro p e s m args below meth c s₁ Bd hml hv
      obtain ⟨rfl, hH, hK, hQ⟩ := hv
      have hts := atoms_spec (ws := Cond.code y bytes maxL ret :: zTS) Bd.pre
      have hown : s.vm.findClass y.cls = some m.cls := findClass_of_methodNamed Bd.named
      have hM : zM al tf gm dC dI d y bytes maxL ret p (zrm (d + 1)) s m (as.map (zv al tf)).toArray meth c := ⟨Bd.exec, Bd.bytes, hml, Bd.returns, Bd.notSynchronized, hown, fun w hw => hts w (List.mem_cons_of_mem _ hw), fun h => by rw [(name_of_methodNamed Bd.named Bd.method).1]; exact h, hK, hQ, trivial, hinj, Nat.le_refl _, by show 40 * d + 40 ≤ 40 * (d + 1); omega⟩
      obtain ⟨LS, hLS, hFr⟩ := zentry (al := al) (tf := tf) h7 hl
      rw [hLS]
      have key := zloop (zi := zi) (stop := 99999) (hO d) (p := p) (e := e) (R := zrm (d + 1)) (s := s) (m := m) (args := (as.map (zv al tf)).toArray) (below := below) (meth := meth) (c := c) (Q := MQ below (zPost al tf gm dC dI N rr r.2.2.2.1 r.2.2.2.2.1 r.2.2.2.2.2) (as.map (zv al tf)).toArray s (zC (d + 1)) (zS (d + 1)) (zA al)) (rt := fun k => zRet bytes ret k ∨ k = 99999) (fun k h => Or.inl h) (Or.inr rfl) hM ih ev_fuel
      refine key 0 _ [] B F top r hloop ?_ s.heap [] 0 0 LS ⟨hFr, hI, hH, va_S.rf, by show 0 + _ ≤ zC (d + 1); rw [Nat.zero_add]; exact Nat.le_refl _, by show 0 + _ ≤ zS (d + 1); rw [Nat.zero_add]; exact Nat.le_refl _, by rw [List.length_append, List.length_replicate]; omega⟩
      intro H locs cells slots LS2 hrt hX
      have hrt : zRet bytes ret r.1 := hrt.resolve_right hne
      obtain ⟨rr2, h1, h2, h3⟩ := zreturn (al := al) (tf := tf) (gm := gm) (dC := dC) (dI := dI) (d := d) (y := y) (maxL := maxL) hk hrt h
      cases h1
      obtain ⟨x1, x2, x3, x4, x5, x6, x7⟩ := hX
      refine W.widen (show cells ≤ zC (d + 1) by have h : cells + 0 * _ ≤ zC (d + 1) := x5; omega) (show slots ≤ zS (d + 1) by have h : slots + 0 * _ ≤ zS (d + 1) := x6; omega) (h3 p e (zrm (d + 1)) s m _ below meth c H locs _ _ LS2 _ _ hM (fun t h1 h2 => ?_) (fun q hq => x4.2.2 q hq))
      exact ⟨rfl, ⟨by rw [h1]; exact x3, x2⟩, x4.F h1⟩
end ZRUN
