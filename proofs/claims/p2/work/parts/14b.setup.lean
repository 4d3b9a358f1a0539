section ZSET
variable {zi : zMs} {al : Nat → Nat} {tf : Nat × Nat} {gm dC : Nat → ClassId} {dI : Nat → Nat → Nat} {N d : Nat} {l : Launch} {y : MethodName} {bytes : ByteArray} {maxL : Nat} {ret : Option FieldType} {pc : Nat}
theorem zo_anew {nx q index : Nat} {C : String} (hq : (q = 2 ∧ C = RX1) ∨ (q = 3 ∧ C = RX0)) (hd : decode bytes pc = .ok (.anewarray index, 3)) (hn : nx = pc + 3) (hl : Cond.classLink y.cls index C ∈ zTS) : zO zi al tf gm dC dI N d l y bytes maxL ret pc (eo_newa nx q 3) := by
  intro p e R s m args below meth cc Q rt hrt call go f hM hC hG ls st B F top qq h hT H locs cells slots LS hX
  subst hn
  replace h := ev_uc_some h
  obtain ⟨n, r, rfl, h⟩ := h
  replace h := ev_i_some h
  obtain ⟨hn4, h⟩ := h
  replace h := ev_b_some h
  obtain ⟨hnl, h⟩ := h
  have hnl := zb_le.mp hnl
  rw [ev_nf_eq, ev_rep_eq, ev_nf_eq, ev_nf_eq, List.append_nil] at h
  rw [List.map_cons, zv_i hn4]
  have hclm := nI_clamp (n := n / 4) (by omega)
  obtain ⟨r1, r2⟩ := znew_room (n := n / 4) hX (by omega)
  have hao : va_AO C s := hM.2.2.2.2.2.2.2.2.2.1.2.2.2.2.2.2.2.2 (.object C) (by unfold zao; rcases hq with ⟨-, rfl⟩ | ⟨-, rfl⟩ <;> simp)
  have hRA : va_RA s (gm q) (.object C) := (hM.2.2.2.2.2.2.2.2.1.2 q _ (show (ztys gm)[q]? = some (gm q, .object C) by rcases hq with ⟨rfl, rfl⟩ | ⟨rfl, rfl⟩ <;> rfl)).2
  refine W.anew hM.1 hM.2.1 hM.2.2.2.2.2.1 (hM.2.2.2.2.2.2.1 _ hl) (va_AO.use hao) rfl hd rfl (nI_pos (by omega)) (by rw [hclm]; omega) r1 (by rw [hclm]; exact r2) fun cA kA comp f1 f2 f3 f4 => ?_
  rw [hclm]
  have hcA : cA = gm q := by
    obtain ⟨_, _, _, _, _, h2⟩ := hRA
    exact Option.some.inj (f1.symm.trans h2)
  subst hcA
  have htop := hX.2.2.1.top
  have hlen := hX.2.1.len
  have hq2 : 2 ≤ q ∧ q < 16 := by rcases hq with ⟨rfl, -⟩ | ⟨rfl, -⟩ <;> omega
  have K := hG (pc + 3) ls _ B _ (top + 1) qq h hT (H.push { cls := gm q, slots := Array.replicate (n / 4) .null, vm := .none }) locs (cells + 1) (slots + n / 4) LS (znew_go hX (by
    rw [ze_q hq2.1 hq2.2, htop]
    show (H.push _)[H.size]? = some (vp_cell _ _)
    rw [Array.getElem?_push_size, vp_cell_q, List.length_replicate]
    refine congrArg some ?_
    rw [arrV_new]
    refine congrArg (arrV (gm q) (n / 4)) (funext fun j => ?_)
    have ez : (List.replicate (Nat.div n 4) 3).getD j 3 = 3 := by
      rw [List.getD_eq_getElem?_getD, List.getElem?_replicate]
      by_cases hj : j < Nat.div n 4
      · rw [if_pos hj]; rfl
      · rw [if_neg hj]; rfl
    rw [ez]
    rfl) (by rw [Array.size_push]) (fun q hq => by rw [Array.getElem?_push, if_neg (Nat.ne_of_lt hq)]) (Nat.le_refl 1) (by omega))
  rw [List.map_cons] at K
  have ez : zv al tf (Nat.add (Nat.mul 4 top) 2) = .ref H.size := by
    rw [show Nat.add (Nat.mul 4 top) 2 = 4 * top + 2 from rfl, zv_kr, ← hlen, htop]
  rw [ez] at K
  exact K
end ZSET
