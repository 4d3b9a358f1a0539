section ZK
variable {zi : zMs} {al : Nat → Nat} {tf : Nat × Nat} {gm dC : Nat → ClassId} {dI : Nat → Nat → Nat} {N d : Nat} {l : Launch} {y : MethodName} {bytes : ByteArray} {maxL : Nat} {ret : Option FieldType} {pc : Nat}
/-- two longs become one value -/
theorem zo_lbin {nx : Nat} {g : Nat → Nat → Nat} {P : Nat → Nat → Prop} {ins : ev_I} (hins : ∀ call go pc ls st B F top q, ins call go pc ls st B F top = some q → ∃ v u r, st = v :: u :: r ∧ v % 4 = 1 ∧ u % 4 = 1 ∧ P u v ∧ go nx ls (g u v :: r) B F top = some q)
    (hw : ∀ p e R s m args below meth c Q H locs cells slots LS (rest : List Value) u v, zM al tf gm dC dI d y bytes maxL ret p R s m args meth c → v % 4 = 1 → u % 4 = 1 → P u v → W p l e R s m args below meth c H locs cells slots Q (F0 m nx LS (zv al tf (g u v) :: rest)) → W p l e R s m args below meth c H locs cells slots Q (F0 m pc LS (.long (lN (v / 4)) :: .long (lN (u / 4)) :: rest))) : zO zi al tf gm dC dI N d l y bytes maxL ret pc ins := by
  intro p e R s m args below meth c Q rt hrt call go f hM hC hG ls st B F top q h hT H locs cells slots LS hX
  obtain ⟨v, u, r, rfl, hv, hu, hP, h⟩ := hins call go pc ls st B F top q h
  rw [List.map_cons, List.map_cons, zv_l hv, zv_l hu]
  exact hw p e R s m args below meth c Q H locs cells slots LS _ u v hM hv hu hP (hG nx ls _ B F top q h hT H locs cells slots LS hX.down)
theorem zo_ladd {nx : Nat} (hd : decode bytes pc = .ok (.ladd, 1)) (hn : nx = pc + 1) : zO zi al tf gm dC dI N d l y bytes maxL ret pc (eo_ladd nx) := by
  refine zo_lbin (nx := nx) (g := fun u v => 4 * ((u / 4 + v / 4) % ev_ML) + 1) (P := fun _ _ => True) (fun call go pc ls st B F top q h => ?_) (fun p e R s m args below meth c Q H locs cells slots LS rest u v hM hv hu _ K => ?_)
  · replace h := ev_uc_some h
    obtain ⟨v, s1, rfl, h⟩ := h
    replace h := ev_uc_some h
    obtain ⟨u, r, rfl, h⟩ := h
    obtain ⟨hv, h⟩ := ev_l_some h
    obtain ⟨hu, h⟩ := ev_l_some h
    rw [ev_nf_eq] at h
    exact ⟨v, u, r, rfl, hv, hu, trivial, h⟩
  · subst hn
    refine lv_ladd hM.1 hM.2.1 hd ?_
    have e : zv al tf (4 * ((u / 4 + v / 4) % ev_ML) + 1) = .long (lN (u / 4) + lN (v / 4)) := by
      rw [zv_kl, lN_add]
      exact congrArg Value.long (zl_mod _)
    rw [← e]
    exact K
theorem zo_lmul {nx : Nat} (hd : decode bytes pc = .ok (.lmul, 1)) (hn : nx = pc + 1) : zO zi al tf gm dC dI N d l y bytes maxL ret pc (eo_lmul nx) := by
  refine zo_lbin (nx := nx) (g := fun u v => 4 * ((u / 4 * (v / 4)) % ev_ML) + 1) (P := fun _ _ => True) (fun call go pc ls st B F top q h => ?_) (fun p e R s m args below meth c Q H locs cells slots LS rest u v hM hv hu _ K => ?_)
  · replace h := ev_uc_some h
    obtain ⟨v, s1, rfl, h⟩ := h
    replace h := ev_uc_some h
    obtain ⟨u, r, rfl, h⟩ := h
    obtain ⟨hv, h⟩ := ev_l_some h
    obtain ⟨hu, h⟩ := ev_l_some h
    rw [ev_nf_eq] at h
    exact ⟨v, u, r, rfl, hv, hu, trivial, h⟩
  · subst hn
    refine lv_lmul hM.1 hM.2.1 hd ?_
    have e : zv al tf (4 * ((u / 4 * (v / 4)) % ev_ML) + 1) = .long (lN (u / 4) * lN (v / 4)) := by
      rw [zv_kl, lN_mul]
      exact congrArg Value.long (zl_mod _)
    rw [← e]
    exact K
theorem zl_lrem {a b : Nat} (ha : a < 9223372036854775808) (h0 : 0 < b) (hb : b < 9223372036854775808) : (- lN a) - (- lN a) / lN b * lN b = - lN (a % b) := by
  have hq : (- lN a) / lN b = - lN (a / b) := by
    apply Int64.toInt_inj.mp
    have hlt : a / b ≤ a := Nat.div_le_self _ _
    have hc : ((a / b : Nat) : Int) = (a : Int) / (b : Int) := Int.natCast_ediv a b
    have t : ∀ n : Nat, n < 9223372036854775808 → (lN n).toInt = (n : Int) := fun n hn => pk_lT (by omega)
    generalize a / b = k at hc hlt ⊢
    rw [Int64.toInt_div, Int64.toInt_neg, t a ha, t b hb, Int64.toInt_neg, t k (by omega), Int.bmod_eq_of_le (n := (-(a : Int))) (by omega) (by omega), Int.neg_tdiv, Int.tdiv_eq_ediv_of_nonneg (by omega), ← hc]
  rw [hq, Int64.neg_mul, Int64.sub_neg, lN_mul]
  have hm : a = a / b * b + a % b := by rw [Nat.mul_comm]; exact (Nat.div_add_mod a b).symm
  have e : lN a = lN (a / b * b) + lN (a % b) := by rw [lN_add, ← hm]
  rw [e, Int64.neg_add, Int64.sub_eq_add_neg, Int64.add_assoc, Int64.add_comm (-lN (a % b)), ← Int64.add_assoc, Int64.add_left_neg, Int64.zero_add]
theorem zo_lrem {nx : Nat} (hd : decode bytes pc = .ok (.lrem, 1)) (hn : nx = pc + 1) : zO zi al tf gm dC dI N d l y bytes maxL ret pc (eo_lrem nx) := by
  refine zo_lbin (nx := nx) (g := fun u v => if u < ev_M then 4 * (u / 4 % (v / 4)) + 1 else 4 * ((ev_ML - (ev_ML - u / 4) % (v / 4)) % ev_ML) + 1) (P := fun u v => v < ev_M ∧ v ≠ 1 ∧ (u < ev_M ∨ (73786976277658337280 < u ∧ u < 73786976294838206464))) (fun call go pc ls st B F top q h => ?_) (fun p e R s m args below meth c Q H locs cells slots LS rest u v hM hv hu hP K => ?_)
  · replace h := ev_uc_some h
    obtain ⟨v, s1, rfl, h⟩ := h
    replace h := ev_uc_some h
    obtain ⟨u, r, rfl, h⟩ := h
    obtain ⟨hv, h⟩ := ev_l_some h
    obtain ⟨hu, h⟩ := ev_l_some h
    obtain ⟨hb1, h⟩ := ev_b_some h
    obtain ⟨hb2, h⟩ := ev_b_none h
    have hb1 := zb_lt.mp hb1
    have hb2 := zb_ne hb2
    rcases ev_if zb_lt h with ⟨h1, h⟩ | ⟨h1, h⟩
    · rw [ev_nf_eq] at h
      refine ⟨v, u, r, rfl, hv, hu, ⟨hb1, hb2, Or.inl h1⟩, ?_⟩
      show go nx ls ((if u < ev_M then _ else _) :: r) B F top = some q
      rw [if_pos h1]
      exact h
    · obtain ⟨hb3, h⟩ := ev_b_some h
      obtain ⟨hb4, h⟩ := ev_b_some h
      rw [ev_nf_eq, ev_nf_eq] at h
      refine ⟨v, u, r, rfl, hv, hu, ⟨hb1, hb2, Or.inr ⟨zb_lt.mp hb3, zb_lt.mp hb4⟩⟩, ?_⟩
      show go nx ls ((if u < ev_M then _ else _) :: r) B F top = some q
      rw [if_neg h1]
      exact h
  · subst hn
    obtain ⟨h1, h2, h3⟩ := hP
    unfold ev_M at h1 h3
    have hv1 : 0 < v / 4 := by omega
    have hv2 : v / 4 < 4294967296 := by omega
    have hne : ¬ lN (v / 4) = 0 := fun q => by
      have := (pk_lEQ (a := v / 4) (b := 0) (by omega) (by omega)).mp q
      omega
    refine lv_lrem hM.1 hM.2.1 hd hne ?_
    have e : zv al tf (if u < ev_M then 4 * (u / 4 % (v / 4)) + 1 else 4 * ((ev_ML - (ev_ML - u / 4) % (v / 4)) % ev_ML) + 1) = .long (lN (u / 4) - lN (u / 4) / lN (v / 4) * lN (v / 4)) := by
      by_cases hh : u < ev_M
      · rw [if_pos hh]
        unfold ev_M at hh
        rw [zv_kl, pk_lRem (by omega) (by omega) (by omega)]
      · rw [if_neg hh]
        unfold ev_M at hh
        have h4 : 73786976277658337280 < u ∧ u < 73786976294838206464 := by omega
        have hz : lN (u / 4) = - lN (ev_ML - u / 4) := by
          rw [← zl_neg (by unfold ev_ML; omega)]
          refine congrArg lN ?_
          unfold ev_ML
          omega
        rw [hz, zl_lrem (by unfold ev_ML; omega) (by omega) (by omega), zv_kl]
        refine congrArg Value.long ?_
        generalize hw : (ev_ML - u / 4) % (v / 4) = w
        have hwl : w ≤ 4294967296 := by
          rw [← hw]
          exact Nat.le_trans (Nat.le_of_lt (Nat.mod_lt _ (by omega))) (by omega)
        rw [← zl_neg (by omega)]
        exact zl_mod _
    rw [← e]
    exact K
/-! calls -/
theorem zQ.moved {s U : State} {H : Heap} {locs : List Loc} (hQ : zQ al tf s) (hS : va_S (zA al) s.heap H locs) (hU : U.heap = H) (hW : s.WarmedH U.vm) : zQ al tf U := by
  obtain ⟨h1, h2, h3, h4, h5, h6, h7, h8, h9⟩ := hQ
  have hk : ∀ a : Nat, a < s.heap.size → ¬ zA al a → U.heap[a]? = s.heap[a]? := fun a ha hb => by rw [hU]; exact hS.2.1 a ha hb
  refine ⟨(h1.kept hk).moved hW.alike, (h2.kept hk).moved hW.alike, (h3.kept hk).moved hW.alike, (h4.kept hk).moved hW.alike, fun q hq => vk_R.warm hW (h5 q hq), fun q hq => va_Nw.warmF hW (h6 q hq), fun q hq => va_Nw.warmM hW (h7 q hq), va_Nw.warmC hW h8, zao_moved hW.alike h9⟩
theorem zvals {a : List Nat} (h : ∀ x ∈ a, x ≠ 7) : (a.flatMap zl1).filter (fun v => v != 7) = a := by
  induction a with
  | nil => rfl
  | cons x t ih =>
    rw [List.flatMap_cons, List.filter_append, ih (fun z hz => h z (List.mem_cons_of_mem _ hz))]
    have hx := h x List.mem_cons_self
    have e : (zl1 x).filter (fun v => v != 7) = [x] := by
      unfold zl1
      by_cases q : x % 4 = 1
      · rw [if_pos q]
        simp [hx]
      · rw [if_neg q]
        simp [hx]
    rw [e]
    rfl
theorem zPre.blind {as : List Nat} {w : List (List Nat)} : FrameBlind (zPre al tf gm dC dI as w) := by
  intro a U g mk h
  obtain ⟨h1, h2, h3, h4⟩ := h
  refine ⟨h1, h2, va_K.moved (u := U) (U := U.calling g mk a) (Vm.Alike.refl U.vm) h3, ?_⟩
  obtain ⟨g1, g2, g3, g4, g5, g6, g7, g8, g9⟩ := h4
  exact ⟨g1.moved (Vm.Alike.refl U.vm), g2.moved (Vm.Alike.refl U.vm), g3.moved (Vm.Alike.refl U.vm), g4.moved (Vm.Alike.refl U.vm), fun q hq => vk_R.same rfl (g5 q hq), fun q hq => va_Nw.same rfl rfl (g6 q hq), fun q hq => va_Nw.same rfl rfl (g7 q hq), va_Nw.same rfl rfl g8, zao_moved (Vm.Alike.refl U.vm) g9⟩
/-- behind a call -/
theorem zcall_go {p : Program} {e : Env} {R : Room} {s : State} {m : MethodId} {args : Array Value} {below : List Frame} {meth : Method} {c : Code} {Q : State → Prop} {rt : Nat → Prop} {go : ev_G} {f : Nat} {ls r rr : List Nat} {B F B1 F1 : List (List Nat)} {top top1 : Nat} {H : Heap} {locs : List Loc} {cells slots : Nat} {LS : Array Slot} {st0 : List Value} {a : Array Value} {q : ev_R}
    (hr : va_Run p l e R s m args below meth c H locs cells slots (zC d) (zS d) (F0 m pc LS st0) (r.map (zv al tf)) (zPost al tf gm dC dI N rr B1 F1 top1 a) (zA al)) (hrr : rr.length ≤ 1) (hG : zG al tf gm dC dI N d maxL f p l e R s m args below meth c Q rt go)
    (h : go (pc + 3) ls (rr ++ r) B1 F1 top1 = some q) (hT : zT al tf gm dC dI N d maxL p l e R s m args below meth c Q rt q) (hX : zX al tf gm dC dI N d maxL (f + 1) R s ls B F top H locs cells slots LS) : W p l e R s m args below meth c H locs cells slots Q (F0 m pc LS st0) := by
  obtain ⟨h1, h2, h3, h4, h5, h6, h7⟩ := hX
  intro T hTT X
  obtain ⟨v, st₀, t, T', L, h0, X', hL, e1, e2, ⟨hoc, ⟨hH', hI1⟩, hF1, hF2⟩, st⟩ := hr T hTT X
  have hv : v = rr.head?.map (zv al tf) := by injection hoc
  rw [Nat.succ_mul] at h5 h6
  have K := hG (pc + 3) ls (rr ++ r) B1 F1 top1 q h hT T'.heap (locs ++ L) (cells + zC d) (slots + zS d) LS ⟨h1, hI1, by rw [e1]; exact hH', ⟨Nat.le_trans h4.1 (by rw [e1, ← h0]; exact hF1), fun x g1 g2 => by
      rw [e1, hF2 x (by rw [h0]; exact Nat.lt_of_lt_of_le g1 h4.1) g2, h0]
      exact h4.2.1 x g1 g2, fun x hx => by
      rcases List.mem_append.mp hx with hx | hx
      · exact h4.2.2 x hx
      · exact hL x hx⟩, by omega, by omega, h7⟩
  have es : (rr ++ r).map (zv al tf) = v.toList ++ r.map (zv al tf) := by
    rw [hv, List.map_append]
    match rr, hrr with
    | [], _ => rfl
    | [x], _ => rfl
  rw [es] at K
  obtain ⟨t2, a1, b1⟩ := K T' rfl X'
  exact ⟨t2, st t2 a1, b1⟩
theorem zGood {ws : List Cond} (h : ∀ w ∈ ws, w ∈ zTS) : GoodIn zTS ws := fun w hw => ⟨h w hw, good_of_word (zTS_good (h w hw))⟩
theorem zcall_ev {go : ev_G} {nx mi n : Nat} {call : ev_C} {ls st : List Nat} {B F : List (List Nat)} {top : Nat} {q : ev_R} (h : eo_call nx mi n call go pc ls st B F top = some q) : ∃ a b c, st = a ++ b ∧ a.length = n ∧ (∀ x ∈ a, x ≠ 7) ∧ b.length ≤ 4 ∧ call mi (a.reverse.flatMap zl1) B F top = some c ∧ go nx ls (c.1 ++ b) c.2.1 c.2.2.1 c.2.2.2 = some q := by
  obtain ⟨a, b, e, hl, h7, h⟩ := ev_take_some n st [] _ _ h
  obtain ⟨hb, h⟩ := ev_upto_some 4 b _ _ h
  rw [List.append_nil] at h
  cases hc : call mi (a.reverse.flatMap zl1) B F top with
  | none => rw [hc] at h; cases h
  | some c =>
    rw [hc] at h
    replace h : ev_app b c.1 (fun st' => go nx ls st' c.2.1 c.2.2.1 c.2.2.2) = some q := h
    rw [ev_app_eq] at h
    exact ⟨a, b, c, e, hl, h7, hb, hc, h⟩
/-- the start of a call, at the callee's words -/
theorem zpre_at {R : Room} {f : Nat} {s U : State} {ls : List Nat} {B F : List (List Nat)} {top : Nat} {H : Heap} {locs : List Loc} {cells slots : Nat} {LS : Array Slot} {a : List Nat} (hX : zX al tf gm dC dI N d maxL f R s ls B F top H locs cells slots LS) (hK : zK gm dC dI s) (hQ : zQ al tf s) (hU : U.heap = H) (hW : s.WarmedH U.vm) : zPre al tf gm dC dI a (B ++ F.reverse) (a.map (zv al tf)).toArray U :=
  ⟨rfl, by rw [hU]; exact hX.2.2.1, va_K.moved hW.alike hK, hQ.moved hX.2.2.2.1 hU hW⟩
theorem zo_callS {nx mi n index : Nat} {y2 : MethodName} {b2 : ByteArray} {m2 : Nat} {r2 : Option FieldType} (hz : zi[mi]? = some (y2, b2, m2, r2)) (hd : decode bytes pc = .ok (.invokestatic index, 3)) (hn : nx = pc + 3) (hl : Cond.methodLink y.cls index y2 ∈ zTS) (hs : Cond.static y2 ∈ zTS) (hi : Cond.initialized y2.cls ∈ zTS) (hp : (parseMethodDescriptor y2.desc).map (fun d => d.parameters.length) = some n) (hmh : y2.cls ≠ "java/lang/invoke/MethodHandle" ∧ y2.cls ≠ "java/lang/invoke/VarHandle") : zO zi al tf gm dC dI N d l y bytes maxL ret pc (eo_call nx mi n) := by
  intro p e R s m args below meth cc Q rt hrt call go f hM hC hG ls st B F top qq h hT H locs cells slots LS hX
  subst hn
  obtain ⟨a, b, c, rfl, hal, h7, hb, hc, h⟩ := zcall_ev h
  have h7r : ∀ x ∈ a.reverse, x ≠ 7 := fun x hx => h7 x (List.mem_reverse.mp hx)
  obtain ⟨i, hi1, hr1, hm, hco, hMet⟩ := hC mi _ B F top c h7r hc hX.2.1
  have hi2 : i = (y2, b2, m2, r2) := Option.some.inj (hi1.symm.trans hz)
  subst hi2
  obtain ⟨-, -, -, -, h5, h6, -⟩ := id hX
  rw [Nat.succ_mul] at h5 h6
  have hfr := hM.2.2.2.2.2.2.2.2.2.2.2.2.1
  have hlo := hM.2.2.2.2.2.2.2.2.2.2.2.2.2
  have hcat := zcat_le (al := al) (tf := tf) b
  refine zcall_go (a := (a.reverse.map (zv al tf)).toArray) (va_runS (As := a.reverse.map (zv al tf)) (n := n) ⟨hM.1, hM.2.1, hM.2.2.1, hM.2.2.2.2.2.1, hM.2.2.2.2.2.2.1⟩ hMet (va_cwS n hM.2.2.2.2.2.2.1 (zGood fun w hw => ?_) rfl rfl rfl ⟨hmh.1, hmh.2, hp⟩ ⟨hfr, ?_⟩) ⟨zPre.blind, fun U hU hW => zpre_at hX hM.2.2.2.2.2.2.2.2.1 hM.2.2.2.2.2.2.2.2.2.1 hU hW⟩ rfl (by rw [List.length_map, List.length_reverse]; exact hal) (hX.1.1.trans hX.2.2.2.2.2.2) (by show _ = (List.map _ a.reverse).reverse ++ List.map _ b; rw [List.map_append, List.map_reverse, List.reverse_reverse]) (by show 2 * 0 + _ ≤ 8; omega) hd ⟨by omega, by omega⟩) hr1 hG h hT hX
  · unfold va_wsS at hw
    rcases List.mem_append.mp hw with hw | hw
    · simp only [List.mem_cons, List.not_mem_nil, or_false] at hw
      rcases hw with rfl | rfl | rfl
      · exact hl
      · exact hs
      · exact hi
    · rcases List.mem_cons.mp hw with rfl | hw
      · exact hco
      · exact hw
  · show 8 + (m2 + 11) + 40 * d ≤ R.locals
    have hm : m2 ≤ 21 := hm
    omega
end ZK
