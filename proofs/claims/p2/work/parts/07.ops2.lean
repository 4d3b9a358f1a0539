section ZO2
variable {zi : zMs} {al : Nat → Nat} {tf : Nat × Nat} {gm dC : Nat → ClassId} {dI : Nat → Nat → Nat} {N d : Nat} {l : Launch} {y : MethodName} {bytes : ByteArray} {maxL : Nat} {ret : Option FieldType} {pc : Nat}
theorem zn_land (a b : Nat) : nI a &&& nI b = nI (a &&& b) := by
  apply Int32.toBitVec_inj.mp
  show BitVec.ofNat 32 a &&& BitVec.ofNat 32 b = BitVec.ofNat 32 (a &&& b)
  rw [BitVec.ofNat_and]
theorem zn_lxor (a b : Nat) : nI a ^^^ nI b = nI (a ^^^ b) := by
  apply Int32.toBitVec_inj.mp
  show BitVec.ofNat 32 a ^^^ BitVec.ofNat 32 b = BitVec.ofNat 32 (a ^^^ b)
  rw [BitVec.ofNat_xor]
theorem zland4 (a b : Nat) : (4 * a) &&& (4 * b) = 4 * (a &&& b) := by
  apply Nat.eq_of_testBit_eq
  intro i
  rw [Nat.testBit_and, show (4 : Nat) = 2 ^ 2 by rfl, Nat.testBit_two_pow_mul, Nat.testBit_two_pow_mul, Nat.testBit_two_pow_mul, Nat.testBit_and]
  cases decide (i ≥ 2) <;> simp
theorem zlxor4 (a b : Nat) : (4 * a) ^^^ (4 * b) = 4 * (a ^^^ b) := by
  apply Nat.eq_of_testBit_eq
  intro i
  rw [Nat.testBit_xor, show (4 : Nat) = 2 ^ 2 by rfl, Nat.testBit_two_pow_mul, Nat.testBit_two_pow_mul, Nat.testBit_two_pow_mul, Nat.testBit_xor]
  cases decide (i ≥ 2) <;> simp
theorem zo_iand {nx : Nat} (hd : decode bytes pc = .ok (.iand, 1)) (hn : nx = pc + 1) : zO zi al tf gm dC dI N d l y bytes maxL ret pc (eo_iand nx) := by
  refine zo_bin (nx := nx) (g := fun u v => u &&& v) (P := fun _ _ => True) (fun call go pc ls st B F top q h => ?_) (fun p e R s m args below meth c Q H locs cells slots LS rest u v hM hv hu _ K => ?_)
  · replace h := ev_uc_some h
    obtain ⟨v, s1, rfl, h⟩ := h
    replace h := ev_uc_some h
    obtain ⟨u, r, rfl, h⟩ := h
    obtain ⟨hv, h⟩ := ev_i_some h
    obtain ⟨hu, h⟩ := ev_i_some h
    rw [ev_nf_eq] at h
    exact ⟨v, u, r, rfl, hv, hu, trivial, h⟩
  · subst hn
    refine lv_iand hM.1 hM.2.1 hd ?_
    have e : zv al tf (u &&& v) = .int (nI (u / 4) &&& nI (v / 4)) := by
      have e1 : u &&& v = 4 * (u / 4 &&& v / 4) := by
        rw [← zland4]
        congr 1 <;> omega
      rw [e1, zv_k, zn_land]
    rw [← e]
    exact K
theorem zo_ixor {nx : Nat} (hd : decode bytes pc = .ok (.ixor, 1)) (hn : nx = pc + 1) : zO zi al tf gm dC dI N d l y bytes maxL ret pc (eo_ixor nx) := by
  refine zo_bin (nx := nx) (g := fun u v => u ^^^ v) (P := fun _ _ => True) (fun call go pc ls st B F top q h => ?_) (fun p e R s m args below meth c Q H locs cells slots LS rest u v hM hv hu _ K => ?_)
  · replace h := ev_uc_some h
    obtain ⟨v, s1, rfl, h⟩ := h
    replace h := ev_uc_some h
    obtain ⟨u, r, rfl, h⟩ := h
    obtain ⟨hv, h⟩ := ev_i_some h
    obtain ⟨hu, h⟩ := ev_i_some h
    rw [ev_nf_eq] at h
    exact ⟨v, u, r, rfl, hv, hu, trivial, h⟩
  · subst hn
    refine lv_ixor hM.1 hM.2.1 hd ?_
    have e : zv al tf (u ^^^ v) = .int (nI (u / 4) ^^^ nI (v / 4)) := by
      have e1 : u ^^^ v = 4 * (u / 4 ^^^ v / 4) := by
        rw [← zlxor4]
        congr 1 <;> omega
      rw [e1, zv_k, zn_lxor]
    rw [← e]
    exact K
theorem zo_ish0 {nx : Nat} (hd : decode bytes pc = .ok (.ishl, 1) ∨ decode bytes pc = .ok (.ishr, 1)) (hn : nx = pc + 1) : zO zi al tf gm dC dI N d l y bytes maxL ret pc (eo_ish0 nx) := by
  refine zo_bin (nx := nx) (g := fun u _ => u) (P := fun _ v => v = 0) (fun call go pc ls st B F top q h => ?_) (fun p e R s m args below meth c Q H locs cells slots LS rest u v hM hv hu hP K => ?_)
  · replace h := ev_uc_some h
    obtain ⟨v, s1, rfl, h⟩ := h
    replace h := ev_uc_some h
    obtain ⟨u, r, rfl, h⟩ := h
    obtain ⟨hu, h⟩ := ev_i_some h
    obtain ⟨hb, h⟩ := ev_b_some h
    have hb := zb_eq.mp hb
    exact ⟨v, u, r, rfl, by rw [hb], hu, hb, h⟩
  · subst hn
    subst hP
    rw [zv_i hu] at K
    rcases hd with hd | hd
    · refine lv_ishl hM.1 hM.2.1 hd ?_
      have e := sb_shl0 (nI (u / 4))
      rw [show nI (0 / 4) = 0 by decide]
      first | (rw [e]; exact K) | (simpa [e] using K)
    · refine lv_ishr hM.1 hM.2.1 hd ?_
      have e := sb_shr0 (nI (u / 4))
      rw [show nI (0 / 4) = 0 by decide]
      first | (rw [e]; exact K) | (simpa [e] using K)
/-- one int becomes one value -/
theorem zo_un {nx : Nat} {g : Nat → Nat} {P : Nat → Prop} {ins : ev_I} (hins : ∀ call go pc ls st B F top q, ins call go pc ls st B F top = some q → ∃ u r, st = u :: r ∧ P u ∧ go nx ls (g u :: r) B F top = some q)
    (hw : ∀ p e R s m args below meth c Q H locs cells slots LS (rest : List Value) u, zM al tf gm dC dI d y bytes maxL ret p R s m args meth c → P u → W p l e R s m args below meth c H locs cells slots Q (F0 m nx LS (zv al tf (g u) :: rest)) → W p l e R s m args below meth c H locs cells slots Q (F0 m pc LS (zv al tf u :: rest))) : zO zi al tf gm dC dI N d l y bytes maxL ret pc ins := by
  intro p e R s m args below meth c Q rt hrt call go f hM hC hG ls st B F top q h hT H locs cells slots LS hX
  obtain ⟨u, r, rfl, hP, h⟩ := hins call go pc ls st B F top q h
  rw [List.map_cons]
  exact hw p e R s m args below meth c Q H locs cells slots LS _ u hM hP (hG nx ls _ B F top q h hT H locs cells slots LS hX.down)
theorem zo_ineg {nx : Nat} (hd : decode bytes pc = .ok (.ineg, 1)) (hn : nx = pc + 1) : zO zi al tf gm dC dI N d l y bytes maxL ret pc (eo_ineg nx) := by
  refine zo_un (nx := nx) (g := fun u => (ev_M - u) % ev_M) (P := fun u => u % 4 = 0 ∧ u ≤ ev_M) (fun call go pc ls st B F top q h => ?_) (fun p e R s m args below meth c Q H locs cells slots LS rest u hM hP K => ?_)
  · replace h := ev_uc_some h
    obtain ⟨u, r, rfl, h⟩ := h
    obtain ⟨hu, h⟩ := ev_i_some h
    obtain ⟨hb, h⟩ := ev_b_some h
    rw [ev_nf_eq] at h
    exact ⟨u, r, rfl, ⟨hu, zb_le.mp hb⟩, h⟩
  · subst hn
    obtain ⟨hu, hm⟩ := hP
    unfold ev_M at hm
    rw [zv_i hu]
    refine lv_ineg hM.1 hM.2.1 hd ?_
    have e : zv al tf ((ev_M - u) % ev_M) = .int (- nI (u / 4)) := by
      rw [zv_i (by unfold ev_M; omega), ← zn_neg (by omega), ← zn_mod (4294967296 - u / 4)]
      congr 2
      unfold ev_M
      omega
    rw [← e]
    exact K
theorem zo_small {nx : Nat} (hd : decode bytes pc = .ok (.i2b, 1) ∨ decode bytes pc = .ok (.i2c, 1)) (hn : nx = pc + 1) : zO zi al tf gm dC dI N d l y bytes maxL ret pc (eo_small nx) := by
  refine zo_un (nx := nx) (g := fun u => u) (P := fun u => u % 4 = 0 ∧ u < 512) (fun call go pc ls st B F top q h => ?_) (fun p e R s m args below meth c Q H locs cells slots LS rest u hM hP K => ?_)
  · replace h := ev_uc_some h
    obtain ⟨u, r, rfl, h⟩ := h
    obtain ⟨hu, h⟩ := ev_i_some h
    obtain ⟨hb, h⟩ := ev_b_some h
    exact ⟨u, r, rfl, ⟨hu, zb_lt.mp hb⟩, h⟩
  · subst hn
    obtain ⟨hu, hm⟩ := hP
    rw [zv_i hu] at K ⊢
    have hk : u / 4 < 128 := by omega
    generalize u / 4 = k at hk K ⊢
    have e1 : ∀ k, k < 128 → (nI k).toInt8.toInt32 = nI k := by decide +kernel
    have e2 : ∀ k, k < 128 → ((nI k).toUInt32 % 65536).toInt32 = nI k := by decide +kernel
    rcases hd with hd | hd
    · exact lv_i2b hM.1 hM.2.1 hd (e1 k hk) K
    · exact lv_i2c hM.1 hM.2.1 hd (e2 k hk) K
theorem zl_neg {n : Nat} (h : n ≤ 18446744073709551616) : lN (18446744073709551616 - n) = - lN n := by
  have h1 : lN (18446744073709551616 - n) = lN 18446744073709551616 - lN n := (lN_sub h).symm
  rw [h1, show lN 18446744073709551616 = 0 by decide +kernel, Int64.zero_sub]
theorem zo_i2l {nx : Nat} (hd : decode bytes pc = .ok (.i2l, 1)) (hn : nx = pc + 1) : zO zi al tf gm dC dI N d l y bytes maxL ret pc (eo_i2l nx) := by
  refine zo_un (nx := nx) (g := fun u => if u < ev_H then u + 1 else 4 * (u / 4 + ev_ML - 4294967296) + 1) (P := fun u => u % 4 = 0 ∧ u < ev_M) (fun call go pc ls st B F top q h => ?_) (fun p e R s m args below meth c Q H locs cells slots LS rest u hM hP K => ?_)
  · replace h := ev_uc_some h
    obtain ⟨u, r, rfl, h⟩ := h
    obtain ⟨hu, h⟩ := ev_i_some h
    rcases ev_if zb_lt h with ⟨h1, h⟩ | ⟨h1, h⟩
    · rw [ev_nf_eq] at h
      refine ⟨u, r, rfl, ⟨hu, by unfold ev_H at h1; unfold ev_M; omega⟩, ?_⟩
      show go nx ls ((if u < ev_H then _ else _) :: r) B F top = some q
      rw [if_pos h1]
      exact h
    · obtain ⟨hb, h⟩ := ev_b_some h
      rw [ev_nf_eq] at h
      refine ⟨u, r, rfl, ⟨hu, zb_lt.mp hb⟩, ?_⟩
      show go nx ls ((if u < ev_H then _ else _) :: r) B F top = some q
      rw [if_neg h1]
      exact h
  · subst hn
    obtain ⟨hu, hm⟩ := hP
    unfold ev_M at hm
    rw [zv_i hu]
    refine lv_i2l (v := (nI (u / 4)).toInt64) hM.1 hM.2.1 hd rfl ?_
    have e : zv al tf (if u < ev_H then u + 1 else 4 * (u / 4 + ev_ML - 4294967296) + 1) = .long (nI (u / 4)).toInt64 := by
      by_cases h : u < ev_H
      · rw [if_pos h]
        unfold ev_H at h
        rw [zv_l (by omega), nI_l (by omega)]
        congr 2
        omega
      · rw [if_neg h]
        unfold ev_H at h
        rw [zv_kl]
        refine congrArg Value.long ?_
        apply Int64.toInt_inj.mp
        rw [Int32.toInt_toInt64, zn_toInt (by omega), if_neg (by omega)]
        show (BitVec.ofNat 64 (u / 4 + ev_ML - 4294967296)).toInt = _
        rw [BitVec.toInt_eq_toNat_cond, BitVec.toNat_ofNat]
        have e2 : (u / 4 + ev_ML - 4294967296) % 2 ^ 64 = u / 4 + ev_ML - 4294967296 := Nat.mod_eq_of_lt (by unfold ev_ML; omega)
        rw [e2, if_neg (by unfold ev_ML; omega)]
        unfold ev_ML
        omega
    rw [← e]
    exact K
theorem zo_l2i {nx : Nat} (hd : decode bytes pc = .ok (.l2i, 1)) (hn : nx = pc + 1) : zO zi al tf gm dC dI N d l y bytes maxL ret pc (eo_l2i nx) := by
  refine zo_un (nx := nx) (g := fun u => (4 * (u / 4)) % ev_M) (P := fun u => u % 4 = 1) (fun call go pc ls st B F top q h => ?_) (fun p e R s m args below meth c Q H locs cells slots LS rest u hM hP K => ?_)
  · replace h := ev_uc_some h
    obtain ⟨u, r, rfl, h⟩ := h
    obtain ⟨hu, h⟩ := ev_l_some h
    rw [ev_nf_eq] at h
    exact ⟨u, r, rfl, hu, h⟩
  · subst hn
    rw [zv_l hP]
    refine lv_l2i (v := nI (u / 4)) hM.1 hM.2.1 hd (lN_i _) ?_
    have e : zv al tf ((4 * (u / 4)) % ev_M) = .int (nI (u / 4)) := by
      rw [zv_i (by unfold ev_M; omega), ← zn_mod (u / 4)]
      congr 2
      unfold ev_M
      omega
    rw [← e]
    exact K
theorem zo_pop {nx : Nat} (hd : decode bytes pc = .ok (.pop, 1)) (hn : nx = pc + 1) : zO zi al tf gm dC dI N d l y bytes maxL ret pc (eo_pop nx) := by
  intro p e R s m args below meth c Q rt hrt call go f hM hC hG ls st B F top q h hT H locs cells slots LS hX
  subst hn
  replace h := ev_uc_some h
  obtain ⟨u, r, rfl, h⟩ := h
  obtain ⟨hu, h⟩ := ev_b_none h
  exact lv_pop hM.1 hM.2.1 hd (zv_c1 (zb_ne hu)) (hG _ ls _ B F top q h hT H locs cells slots LS hX.down)
theorem zo_dup {nx : Nat} (hd : decode bytes pc = .ok (.dup, 1)) (hn : nx = pc + 1) : zO zi al tf gm dC dI N d l y bytes maxL ret pc (eo_dup nx) := by
  intro p e R s m args below meth c Q rt hrt call go f hM hC hG ls st B F top q h hT H locs cells slots LS hX
  subst hn
  replace h := ev_uc_some h
  obtain ⟨u, r, rfl, h⟩ := h
  obtain ⟨hu, h⟩ := ev_b_none h
  exact lv_dup hM.1 hM.2.1 hd (zv_c1 (zb_ne hu)) (hG _ ls _ B F top q h hT H locs cells slots LS hX.down)
theorem zo_dupx1 {nx : Nat} (hd : decode bytes pc = .ok (.dup_x1, 1)) (hn : nx = pc + 1) : zO zi al tf gm dC dI N d l y bytes maxL ret pc (eo_dupx1 nx) := by
  intro p e R s m args below meth c Q rt hrt call go f hM hC hG ls st B F top q h hT H locs cells slots LS hX
  subst hn
  replace h := ev_uc_some h
  obtain ⟨v, s1, rfl, h⟩ := h
  replace h := ev_uc_some h
  obtain ⟨u, r, rfl, h⟩ := h
  obtain ⟨hu, h⟩ := ev_b_none h
  obtain ⟨hv, h⟩ := ev_b_none h
  exact lv_dup_x1 hM.1 hM.2.1 hd (zv_c1 (zb_ne hv)) (zv_c1 (zb_ne hu)) (hG _ ls _ B F top q h hT H locs cells slots LS hX.down)
theorem zo_dup2 {nx : Nat} (hd : decode bytes pc = .ok (.dup2, 1)) (hn : nx = pc + 1) : zO zi al tf gm dC dI N d l y bytes maxL ret pc (eo_dup2 nx) := by
  intro p e R s m args below meth c Q rt hrt call go f hM hC hG ls st B F top q h hT H locs cells slots LS hX
  subst hn
  replace h := ev_uc_some h
  obtain ⟨v, s1, rfl, h⟩ := h
  replace h := ev_uc_some h
  obtain ⟨u, r, rfl, h⟩ := h
  obtain ⟨hu, h⟩ := ev_b_none h
  obtain ⟨hv, h⟩ := ev_b_none h
  exact lv_dup2_11 hM.1 hM.2.1 hd (zv_c1 (zb_ne hv)) (zv_c1 (zb_ne hu)) (hG _ ls _ B F top q h hT H locs cells slots LS hX.down)
theorem zo_iinc {nx i dd : Nat} {n : Int} (hi : i < maxL) (hd : decode bytes pc = .ok (.iinc i n, 3)) (hn : nx = pc + 3) (hz : Int32.ofInt n = nI (dd / 4)) (hd4 : dd % 4 = 0) : zO zi al tf gm dC dI N d l y bytes maxL ret pc (eo_iinc nx i dd) := by
  intro p e R s m args below meth c Q rt hrt call go f hM hC hG ls st B F top q h hT H locs cells slots LS hX
  subst hn
  have h : ev_get 7 ls i (fun v => ev_i v (ev_nf (Nat.mod (Nat.add v dd) ev_M) fun w => ev_set w ls i fun ls' => go (pc + 3) ls' st B F top)) = some q := h
  rw [ev_get_eq] at h
  obtain ⟨h4, h⟩ := ev_i_some h
  rw [ev_nf_eq, ev_set_eq] at h
  obtain ⟨hl, hlen⟩ := hX.1.at (i := i) (by omega)
  generalize hv : ls.getD i 7 = v at h4 h hl
  rw [zv_i h4] at hl
  have e : zv al tf ((v + dd) % ev_M) = .int (nI (v / 4) + nI (dd / 4)) := by
    rw [zv_i (by unfold ev_M; omega), nI_add, ← zn_mod (v / 4 + dd / 4)]
    congr 2
    unfold ev_M
    omega
  have hp : ls.getD (i - 1) 7 % 4 ≠ 1 := by
    intro hc
    by_cases h0 : i = 0
    · subst h0
      rw [show (0 - 1 : Nat) = 0 from rfl, hv] at hc
      omega
    · obtain ⟨g1, g2⟩ := hX.1.at (i := i - 1) (by omega)
      rw [zv_l hc] at g1
      have g3 := hX.1.2.1.1 (i - 1) _ g1 rfl
      rw [show i - 1 + 1 = i by omega, hl] at g3
      cases g3
  have hh : lv_has LS ls.length ((i, Value.int (nI (v / 4))) :: zlf al tf 0 ls) := ⟨hX.1.1, hX.1.2.1, fun q hq => by
    rcases List.mem_cons.mp hq with rfl | hq
    · exact hl
    · exact hX.1.2.2 q hq⟩
  exact lv_iinc (k := 0) hM.1 hM.2.1 hd hh rfl (by rw [hz]) hlen rfl (fun LS' hL => hG _ _ _ B F top q h hT H locs cells slots LS' (hX.down.locals (zFr.st1 (fun _ h => List.mem_cons_of_mem _ h) hL e hp) (by rw [List.length_set])))
/-- one int decides where it goes on -/
theorem zo_if {nx tg : Nat} {P : Nat → Prop} {ins : ev_I} (hins : ∀ call go pc ls st B F top q, ins call go pc ls st B F top = some q → ∃ u r, st = u :: r ∧ u % 4 = 0 ∧ ((P u ∧ go tg ls r B F top = some q) ∨ (¬ P u ∧ go nx ls r B F top = some q)))
    (hw : ∀ p e R s m args below meth c Q H locs cells slots LS (rest : List Value) u, zM al tf gm dC dI d y bytes maxL ret p R s m args meth c → (P u → W p l e R s m args below meth c H locs cells slots Q (F0 m tg LS rest)) → (¬ P u → W p l e R s m args below meth c H locs cells slots Q (F0 m nx LS rest)) → W p l e R s m args below meth c H locs cells slots Q (F0 m pc LS (.int (nI (u / 4)) :: rest))) : zO zi al tf gm dC dI N d l y bytes maxL ret pc ins := by
  intro p e R s m args below meth c Q rt hrt call go f hM hC hG ls st B F top q h hT H locs cells slots LS hX
  obtain ⟨u, r, rfl, hu, h⟩ := hins call go pc ls st B F top q h
  rw [List.map_cons, zv_i hu]
  refine hw p e R s m args below meth c Q H locs cells slots LS _ u hM (fun hP => ?_) (fun hP => ?_)
  · rcases h with ⟨-, h⟩ | ⟨hn, -⟩
    · exact hG _ ls _ B F top q h hT H locs cells slots LS hX.down
    · exact absurd hP hn
  · rcases h with ⟨hn, -⟩ | ⟨-, h⟩
    · exact absurd hn hP
    · exact hG _ ls _ B F top q h hT H locs cells slots LS hX.down
theorem zu_mod (u : Nat) (hu : u % 4 = 0) : nI (u / 4) = nI (u % ev_M / 4) := by
  rw [← zn_mod (u / 4)]
  congr 1
  unfold ev_M
  omega
theorem zu_lt {u : Nat} (hu : u % 4 = 0) : nI (u / 4) < 0 ↔ ¬ u % ev_M < ev_H := by
  rw [zu_mod u hu, zn_lt0 (by unfold ev_M; omega)]
  unfold ev_H
  unfold ev_M
  omega
theorem zu_le {u : Nat} (hu : u % 4 = 0) : nI (u / 4) ≤ 0 ↔ u % ev_M = 0 ∨ ¬ u % ev_M < ev_H := by
  rw [zu_mod u hu, zn_le0 (by unfold ev_M; omega)]
  unfold ev_H
  unfold ev_M
  omega
theorem zu_eq {u : Nat} (hu : u % 4 = 0) : nI (u / 4) = 0 ↔ u % ev_M = 0 := by
  rw [zu_mod u hu, zn_eq0 (by unfold ev_M; omega)]
  unfold ev_M
  omega
theorem zo_eq {nx tg : Nat} {off : Int} (hd : decode bytes pc = .ok (.ifCond .eq off, 3)) (hn : nx = pc + 3) (ht : (pc : Int) + off = (tg : Int)) : zO zi al tf gm dC dI N d l y bytes maxL ret pc (eo_eq nx tg) := by
  refine zo_if (nx := nx) (tg := tg) (P := fun u => nI (u / 4) = 0) (fun call go pc ls st B F top q h => ?_) (fun p e R s m args below meth c Q H locs cells slots LS rest u hM kt kf => ?_)
  · replace h := ev_uc_some h
    obtain ⟨u, r, rfl, h⟩ := h
    obtain ⟨hu, h⟩ := ev_i_some h
    refine ⟨u, r, rfl, hu, ?_⟩
    show (nI (u / 4) = 0 ∧ _) ∨ (¬ nI (u / 4) = 0 ∧ _)
    rw [zu_eq hu]
    exact ev_if zb_eq h
  · subst hn
    exact lv_if_eq hM.1 hM.2.1 hd ht kt kf
theorem zo_ne {nx tg : Nat} {off : Int} (hd : decode bytes pc = .ok (.ifCond .ne off, 3)) (hn : nx = pc + 3) (ht : (pc : Int) + off = (tg : Int)) : zO zi al tf gm dC dI N d l y bytes maxL ret pc (eo_ne nx tg) := by
  refine zo_if (nx := nx) (tg := tg) (P := fun u => ¬ nI (u / 4) = 0) (fun call go pc ls st B F top q h => ?_) (fun p e R s m args below meth c Q H locs cells slots LS rest u hM kt kf => ?_)
  · replace h := ev_uc_some h
    obtain ⟨u, r, rfl, h⟩ := h
    obtain ⟨hu, h⟩ := ev_i_some h
    refine ⟨u, r, rfl, hu, ?_⟩
    show (¬ nI (u / 4) = 0 ∧ _) ∨ (¬ ¬ nI (u / 4) = 0 ∧ _)
    rw [zu_eq hu]
    rcases ev_if zb_eq h with ⟨h1, h⟩ | ⟨h1, h⟩
    · exact Or.inr ⟨fun z => z h1, h⟩
    · exact Or.inl ⟨h1, h⟩
  · subst hn
    exact lv_if_ne hM.1 hM.2.1 hd ht kt (fun z => kf (fun q => q z))
theorem zo_lt {nx tg : Nat} {off : Int} (hd : decode bytes pc = .ok (.ifCond .lt off, 3)) (hn : nx = pc + 3) (ht : (pc : Int) + off = (tg : Int)) : zO zi al tf gm dC dI N d l y bytes maxL ret pc (eo_lt nx tg) := by
  refine zo_if (nx := nx) (tg := tg) (P := fun u => nI (u / 4) < 0) (fun call go pc ls st B F top q h => ?_) (fun p e R s m args below meth c Q H locs cells slots LS rest u hM kt kf => ?_)
  · replace h := ev_uc_some h
    obtain ⟨u, r, rfl, h⟩ := h
    obtain ⟨hu, h⟩ := ev_i_some h
    refine ⟨u, r, rfl, hu, ?_⟩
    show (nI (u / 4) < 0 ∧ _) ∨ (¬ nI (u / 4) < 0 ∧ _)
    rw [zu_lt hu]
    rcases ev_if zb_lt h with ⟨h1, h⟩ | ⟨h1, h⟩
    · exact Or.inr ⟨fun z => z h1, h⟩
    · exact Or.inl ⟨h1, h⟩
  · subst hn
    exact lv_if_lt hM.1 hM.2.1 hd ht kt kf
theorem z_nle {x y : Int32} : ¬ x ≤ y ↔ y < x := Int32.not_le
theorem z_nlt {x y : Int32} : ¬ x < y ↔ y ≤ x := Int32.not_lt
theorem zo_ge {nx tg : Nat} {off : Int} (hd : decode bytes pc = .ok (.ifCond .ge off, 3)) (hn : nx = pc + 3) (ht : (pc : Int) + off = (tg : Int)) : zO zi al tf gm dC dI N d l y bytes maxL ret pc (eo_ge nx tg) := by
  refine zo_if (nx := nx) (tg := tg) (P := fun u => ¬ nI (u / 4) < 0) (fun call go pc ls st B F top q h => ?_) (fun p e R s m args below meth c Q H locs cells slots LS rest u hM kt kf => ?_)
  · replace h := ev_uc_some h
    obtain ⟨u, r, rfl, h⟩ := h
    obtain ⟨hu, h⟩ := ev_i_some h
    refine ⟨u, r, rfl, hu, ?_⟩
    show (¬ nI (u / 4) < 0 ∧ _) ∨ (¬ ¬ nI (u / 4) < 0 ∧ _)
    rw [zu_lt hu]
    rcases ev_if zb_lt h with ⟨h1, h⟩ | ⟨h1, h⟩
    · exact Or.inl ⟨fun z => z h1, h⟩
    · exact Or.inr ⟨fun z => z h1, h⟩
  · subst hn
    exact lv_if_ge hM.1 hM.2.1 hd ht (fun z => kt (z_nlt.mpr z)) (fun z => kf (fun q => z (z_nlt.mp q)))
theorem zo_gt {nx tg : Nat} {off : Int} (hd : decode bytes pc = .ok (.ifCond .gt off, 3)) (hn : nx = pc + 3) (ht : (pc : Int) + off = (tg : Int)) : zO zi al tf gm dC dI N d l y bytes maxL ret pc (eo_gt nx tg) := by
  refine zo_if (nx := nx) (tg := tg) (P := fun u => ¬ nI (u / 4) ≤ 0) (fun call go pc ls st B F top q h => ?_) (fun p e R s m args below meth c Q H locs cells slots LS rest u hM kt kf => ?_)
  · replace h := ev_uc_some h
    obtain ⟨u, r, rfl, h⟩ := h
    obtain ⟨hu, h⟩ := ev_i_some h
    refine ⟨u, r, rfl, hu, ?_⟩
    show (¬ nI (u / 4) ≤ 0 ∧ _) ∨ (¬ ¬ nI (u / 4) ≤ 0 ∧ _)
    rw [zu_le hu]
    rcases ev_if zb_lt h with ⟨h1, h⟩ | ⟨h1, h⟩
    · rcases ev_if zb_eq h with ⟨h2, h⟩ | ⟨h2, h⟩
      · exact Or.inr ⟨fun z => z (Or.inl h2), h⟩
      · exact Or.inl ⟨fun z => z.elim h2 (fun q => q h1), h⟩
    · exact Or.inr ⟨fun z => z (Or.inr h1), h⟩
  · subst hn
    exact lv_if_gt hM.1 hM.2.1 hd ht (fun z => kt (z_nle.mpr z)) (fun z => kf (fun q => z (z_nle.mp q)))
theorem zo_le {nx tg : Nat} {off : Int} (hd : decode bytes pc = .ok (.ifCond .le off, 3)) (hn : nx = pc + 3) (ht : (pc : Int) + off = (tg : Int)) : zO zi al tf gm dC dI N d l y bytes maxL ret pc (eo_le nx tg) := by
  refine zo_if (nx := nx) (tg := tg) (P := fun u => nI (u / 4) ≤ 0) (fun call go pc ls st B F top q h => ?_) (fun p e R s m args below meth c Q H locs cells slots LS rest u hM kt kf => ?_)
  · replace h := ev_uc_some h
    obtain ⟨u, r, rfl, h⟩ := h
    obtain ⟨hu, h⟩ := ev_i_some h
    refine ⟨u, r, rfl, hu, ?_⟩
    show (nI (u / 4) ≤ 0 ∧ _) ∨ (¬ nI (u / 4) ≤ 0 ∧ _)
    rw [zu_le hu]
    rcases ev_if zb_lt h with ⟨h1, h⟩ | ⟨h1, h⟩
    · rcases ev_if zb_eq h with ⟨h2, h⟩ | ⟨h2, h⟩
      · exact Or.inl ⟨Or.inl h2, h⟩
      · exact Or.inr ⟨fun z => z.elim h2 (fun q => q h1), h⟩
    · exact Or.inl ⟨Or.inr h1, h⟩
  · subst hn
    exact lv_if_le hM.1 hM.2.1 hd ht kt kf
/-- two ints decide where it goes on -/
theorem zo_cmp {nx tg : Nat} {P : Nat → Nat → Prop} {ins : ev_I} (hins : ∀ call go pc ls st B F top q, ins call go pc ls st B F top = some q → ∃ v u r, st = v :: u :: r ∧ v % 4 = 0 ∧ u % 4 = 0 ∧ ((P u v ∧ go tg ls r B F top = some q) ∨ (¬ P u v ∧ go nx ls r B F top = some q)))
    (hw : ∀ p e R s m args below meth c Q H locs cells slots LS (rest : List Value) u v, zM al tf gm dC dI d y bytes maxL ret p R s m args meth c → (P u v → W p l e R s m args below meth c H locs cells slots Q (F0 m tg LS rest)) → (¬ P u v → W p l e R s m args below meth c H locs cells slots Q (F0 m nx LS rest)) → W p l e R s m args below meth c H locs cells slots Q (F0 m pc LS (.int (nI (v / 4)) :: .int (nI (u / 4)) :: rest))) : zO zi al tf gm dC dI N d l y bytes maxL ret pc ins := by
  intro p e R s m args below meth c Q rt hrt call go f hM hC hG ls st B F top q h hT H locs cells slots LS hX
  obtain ⟨v, u, r, rfl, hv, hu, h⟩ := hins call go pc ls st B F top q h
  rw [List.map_cons, List.map_cons, zv_i hu, zv_i hv]
  refine hw p e R s m args below meth c Q H locs cells slots LS _ u v hM (fun hP => ?_) (fun hP => ?_)
  · rcases h with ⟨-, h⟩ | ⟨hn, -⟩
    · exact hG _ ls _ B F top q h hT H locs cells slots LS hX.down
    · exact absurd hP hn
  · rcases h with ⟨hn, -⟩ | ⟨-, h⟩
    · exact absurd hn hP
    · exact hG _ ls _ B F top q h hT H locs cells slots LS hX.down
theorem zc_eq {u v : Nat} (hu : u % 4 = 0) (hv : v % 4 = 0) : nI (u / 4) = nI (v / 4) ↔ u % ev_M = v % ev_M := by
  rw [zu_mod u hu, zu_mod v hv]
  constructor
  · intro h
    have h2 := zn_inj (by unfold ev_M; omega) (by unfold ev_M; omega) h
    unfold ev_M at h2 ⊢
    omega
  · intro h
    rw [h]
theorem zc_lt {u v : Nat} (hu : u % 4 = 0) (hv : v % 4 = 0) : nI (u / 4) < nI (v / 4) ↔ ev_lt u v = true := by
  rw [zu_mod u hu, zu_mod v hv, zn_lt (by unfold ev_M; omega) (by unfold ev_M; omega)]
  show _ ↔ Nat.blt ((u + ev_H) % ev_M) ((v + ev_H) % ev_M) = true
  rw [zb_lt]
  unfold ev_H
  unfold ev_M
  omega
theorem zc_iff {b : Bool} : b = true ↔ b = true := Iff.rfl
theorem zo_ceq {nx tg : Nat} {off : Int} (hd : decode bytes pc = .ok (.if_icmp .eq off, 3)) (hn : nx = pc + 3) (ht : (pc : Int) + off = (tg : Int)) : zO zi al tf gm dC dI N d l y bytes maxL ret pc (eo_ceq nx tg) := by
  refine zo_cmp (nx := nx) (tg := tg) (P := fun u v => nI (u / 4) = nI (v / 4)) (fun call go pc ls st B F top q h => ?_) (fun p e R s m args below meth c Q H locs cells slots LS rest u v hM kt kf => ?_)
  · replace h := ev_uc_some h
    obtain ⟨v, s1, rfl, h⟩ := h
    replace h := ev_uc_some h
    obtain ⟨u, r, rfl, h⟩ := h
    obtain ⟨hv, h⟩ := ev_i_some h
    obtain ⟨hu, h⟩ := ev_i_some h
    refine ⟨v, u, r, rfl, hv, hu, ?_⟩
    show (nI (u / 4) = nI (v / 4) ∧ _) ∨ (¬ nI (u / 4) = nI (v / 4) ∧ _)
    rw [zc_eq hu hv]
    exact ev_if zb_eq h
  · subst hn
    exact lv_icmp_eq hM.1 hM.2.1 hd ht kt kf
theorem zo_cne {nx tg : Nat} {off : Int} (hd : decode bytes pc = .ok (.if_icmp .ne off, 3)) (hn : nx = pc + 3) (ht : (pc : Int) + off = (tg : Int)) : zO zi al tf gm dC dI N d l y bytes maxL ret pc (eo_cne nx tg) := by
  refine zo_cmp (nx := nx) (tg := tg) (P := fun u v => ¬ nI (u / 4) = nI (v / 4)) (fun call go pc ls st B F top q h => ?_) (fun p e R s m args below meth c Q H locs cells slots LS rest u v hM kt kf => ?_)
  · replace h := ev_uc_some h
    obtain ⟨v, s1, rfl, h⟩ := h
    replace h := ev_uc_some h
    obtain ⟨u, r, rfl, h⟩ := h
    obtain ⟨hv, h⟩ := ev_i_some h
    obtain ⟨hu, h⟩ := ev_i_some h
    refine ⟨v, u, r, rfl, hv, hu, ?_⟩
    show (¬ nI (u / 4) = nI (v / 4) ∧ _) ∨ (¬ ¬ nI (u / 4) = nI (v / 4) ∧ _)
    rw [zc_eq hu hv]
    rcases ev_if zb_eq h with ⟨h1, h⟩ | ⟨h1, h⟩
    · exact Or.inr ⟨fun z => z h1, h⟩
    · exact Or.inl ⟨h1, h⟩
  · subst hn
    exact lv_icmp_ne hM.1 hM.2.1 hd ht kt (fun z => kf (fun q => q z))
theorem zo_clt {nx tg : Nat} {off : Int} (hd : decode bytes pc = .ok (.if_icmp .lt off, 3)) (hn : nx = pc + 3) (ht : (pc : Int) + off = (tg : Int)) : zO zi al tf gm dC dI N d l y bytes maxL ret pc (eo_clt nx tg) := by
  refine zo_cmp (nx := nx) (tg := tg) (P := fun u v => nI (u / 4) < nI (v / 4)) (fun call go pc ls st B F top q h => ?_) (fun p e R s m args below meth c Q H locs cells slots LS rest u v hM kt kf => ?_)
  · replace h := ev_uc_some h
    obtain ⟨v, s1, rfl, h⟩ := h
    replace h := ev_uc_some h
    obtain ⟨u, r, rfl, h⟩ := h
    obtain ⟨hv, h⟩ := ev_i_some h
    obtain ⟨hu, h⟩ := ev_i_some h
    refine ⟨v, u, r, rfl, hv, hu, ?_⟩
    show (nI (u / 4) < nI (v / 4) ∧ _) ∨ (¬ nI (u / 4) < nI (v / 4) ∧ _)
    rw [zc_lt hu hv]
    exact ev_if zc_iff h
  · subst hn
    exact lv_icmp_lt hM.1 hM.2.1 hd ht kt kf
theorem zo_cge {nx tg : Nat} {off : Int} (hd : decode bytes pc = .ok (.if_icmp .ge off, 3)) (hn : nx = pc + 3) (ht : (pc : Int) + off = (tg : Int)) : zO zi al tf gm dC dI N d l y bytes maxL ret pc (eo_cge nx tg) := by
  refine zo_cmp (nx := nx) (tg := tg) (P := fun u v => ¬ nI (u / 4) < nI (v / 4)) (fun call go pc ls st B F top q h => ?_) (fun p e R s m args below meth c Q H locs cells slots LS rest u v hM kt kf => ?_)
  · replace h := ev_uc_some h
    obtain ⟨v, s1, rfl, h⟩ := h
    replace h := ev_uc_some h
    obtain ⟨u, r, rfl, h⟩ := h
    obtain ⟨hv, h⟩ := ev_i_some h
    obtain ⟨hu, h⟩ := ev_i_some h
    refine ⟨v, u, r, rfl, hv, hu, ?_⟩
    show (¬ nI (u / 4) < nI (v / 4) ∧ _) ∨ (¬ ¬ nI (u / 4) < nI (v / 4) ∧ _)
    rw [zc_lt hu hv]
    rcases ev_if zc_iff h with ⟨h1, h⟩ | ⟨h1, h⟩
    · exact Or.inr ⟨fun z => z h1, h⟩
    · exact Or.inl ⟨h1, h⟩
  · subst hn
    exact lv_icmp_ge hM.1 hM.2.1 hd ht (fun z => kt (z_nlt.mpr z)) (fun z => kf (fun q => z (z_nlt.mp q)))
theorem zo_cgt {nx tg : Nat} {off : Int} (hd : decode bytes pc = .ok (.if_icmp .gt off, 3)) (hn : nx = pc + 3) (ht : (pc : Int) + off = (tg : Int)) : zO zi al tf gm dC dI N d l y bytes maxL ret pc (eo_cgt nx tg) := by
  refine zo_cmp (nx := nx) (tg := tg) (P := fun u v => nI (v / 4) < nI (u / 4)) (fun call go pc ls st B F top q h => ?_) (fun p e R s m args below meth c Q H locs cells slots LS rest u v hM kt kf => ?_)
  · replace h := ev_uc_some h
    obtain ⟨v, s1, rfl, h⟩ := h
    replace h := ev_uc_some h
    obtain ⟨u, r, rfl, h⟩ := h
    obtain ⟨hv, h⟩ := ev_i_some h
    obtain ⟨hu, h⟩ := ev_i_some h
    refine ⟨v, u, r, rfl, hv, hu, ?_⟩
    show (nI (v / 4) < nI (u / 4) ∧ _) ∨ (¬ nI (v / 4) < nI (u / 4) ∧ _)
    rw [zc_lt hv hu]
    exact ev_if zc_iff h
  · subst hn
    exact lv_icmp_gt hM.1 hM.2.1 hd ht kt kf
theorem zo_cle {nx tg : Nat} {off : Int} (hd : decode bytes pc = .ok (.if_icmp .le off, 3)) (hn : nx = pc + 3) (ht : (pc : Int) + off = (tg : Int)) : zO zi al tf gm dC dI N d l y bytes maxL ret pc (eo_cle nx tg) := by
  refine zo_cmp (nx := nx) (tg := tg) (P := fun u v => ¬ nI (v / 4) < nI (u / 4)) (fun call go pc ls st B F top q h => ?_) (fun p e R s m args below meth c Q H locs cells slots LS rest u v hM kt kf => ?_)
  · replace h := ev_uc_some h
    obtain ⟨v, s1, rfl, h⟩ := h
    replace h := ev_uc_some h
    obtain ⟨u, r, rfl, h⟩ := h
    obtain ⟨hv, h⟩ := ev_i_some h
    obtain ⟨hu, h⟩ := ev_i_some h
    refine ⟨v, u, r, rfl, hv, hu, ?_⟩
    show (¬ nI (v / 4) < nI (u / 4) ∧ _) ∨ (¬ ¬ nI (v / 4) < nI (u / 4) ∧ _)
    rw [zc_lt hv hu]
    rcases ev_if zc_iff h with ⟨h1, h⟩ | ⟨h1, h⟩
    · exact Or.inr ⟨fun z => z h1, h⟩
    · exact Or.inl ⟨h1, h⟩
  · subst hn
    exact lv_icmp_le hM.1 hM.2.1 hd ht (fun z => kt (z_nlt.mpr z)) (fun z => kf (fun q => z (z_nlt.mp q)))
theorem zo_null {nx tg : Nat} {off : Int} (hd : decode bytes pc = .ok (.ifnull off, 3)) (hn : nx = pc + 3) (ht : (pc : Int) + off = (tg : Int)) : zO zi al tf gm dC dI N d l y bytes maxL ret pc (eo_null nx tg) := by
  intro p e R s m args below meth c Q rt hrt call go f hM hC hG ls st B F top q h hT H locs cells slots LS hX
  subst hn
  replace h := ev_uc_some h
  obtain ⟨u, r, rfl, h⟩ := h
  rw [List.map_cons]
  rcases ev_if zb_eq h with ⟨h1, h⟩ | ⟨h1, h⟩
  · rw [zv_r h1]
    exact lv_ifnull hM.1 hM.2.1 hd (hG _ ls _ B F top q h hT H locs cells slots LS hX.down)
  · obtain ⟨h3, h⟩ := ev_b_some h
    rw [zb_eq.mp h3, zv_n]
    exact lv_ifnullN hM.1 hM.2.1 hd ht (hG _ ls _ B F top q h hT H locs cells slots LS hX.down)
theorem zo_nonnull {nx tg : Nat} {off : Int} (hd : decode bytes pc = .ok (.ifnonnull off, 3)) (hn : nx = pc + 3) (ht : (pc : Int) + off = (tg : Int)) : zO zi al tf gm dC dI N d l y bytes maxL ret pc (eo_nonnull nx tg) := by
  intro p e R s m args below meth c Q rt hrt call go f hM hC hG ls st B F top q h hT H locs cells slots LS hX
  subst hn
  replace h := ev_uc_some h
  obtain ⟨u, r, rfl, h⟩ := h
  rw [List.map_cons]
  rcases ev_if zb_eq h with ⟨h1, h⟩ | ⟨h1, h⟩
  · rw [zv_r h1]
    exact lv_ifnonnull hM.1 hM.2.1 hd ht (hG _ ls _ B F top q h hT H locs cells slots LS hX.down)
  · obtain ⟨h3, h⟩ := ev_b_some h
    rw [zb_eq.mp h3, zv_n]
    exact lv_ifnonnullN hM.1 hM.2.1 hd (hG _ ls _ B F top q h hT H locs cells slots LS hX.down)
end ZO2
