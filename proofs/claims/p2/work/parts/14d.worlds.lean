/-! a world renamed: n cells, σ where the new one's cell stood, ρ the new name of an old one -/
def zrel1 (n : Nat) (ρ : Nat → Nat) : List Nat → List Nat → Bool
  | [], [] => true
  | v :: t, v' :: t' => (if v % 4 = 2 then decide (v / 4 < n) && decide (v' = 4 * ρ (v / 4) + 2) else decide (v' = v)) && zrel1 n ρ t t'
  | _, _ => false
def zrelc (n : Nat) (ρ : Nat → Nat) (c c' : List Nat) : Bool := match c, c' with
  | k :: fs, k' :: fs' => decide (k = k') && (if k < 2 then decide (fs = fs') else zrel1 n ρ fs fs')
  | _, _ => false
def zrela (n : Nat) (ρ σ : Nat → Nat) (w w' : List (List Nat)) : Bool := decide (w'.length = n) && (List.range n).all fun i => zrelc n ρ (w.getD (σ i) []) (w'.getD i []) && (decide (ρ (σ i) = i) && decide (σ i < n))
section ZRE
variable {al al' : Nat → Nat} {tf tf' : Nat × Nat} {gm dC : Nat → ClassId} {dI : Nat → Nat → Nat} {n : Nat} {ρ σ : Nat → Nat}
theorem zrel1_some : ∀ {fs fs' : List Nat}, zrel1 n ρ fs fs' = true → fs'.length = fs.length ∧ ∀ (j v : Nat), fs[j]? = some v → ∃ v', fs'[j]? = some v' ∧ ((v % 4 = 2 ∧ v / 4 < n ∧ v' = 4 * ρ (v / 4) + 2) ∨ (v % 4 ≠ 2 ∧ v' = v))
  | [], [], _ => ⟨rfl, fun j v h => by simp at h⟩
  | [], _ :: _, h => by simp [zrel1] at h
  | _ :: _, [], h => by simp [zrel1] at h
  | v :: t, v' :: t', h => by
    simp only [zrel1, Bool.and_eq_true] at h
    obtain ⟨h1, h2⟩ := h
    obtain ⟨g1, g2⟩ := zrel1_some h2
    refine ⟨by simp [g1], fun j u hu => ?_⟩
    cases j with
    | zero =>
      simp at hu
      subst hu
      refine ⟨v', rfl, ?_⟩
      by_cases q : v % 4 = 2
      · rw [if_pos q] at h1
        simp only [Bool.and_eq_true, decide_eq_true_eq] at h1
        exact Or.inl ⟨q, h1.1, h1.2⟩
      · rw [if_neg q] at h1
        exact Or.inr ⟨q, of_decide_eq_true h1⟩
    | succ j => exact g2 j u (by simpa using hu)
theorem zrel_v (hal : ∀ j, j < n → al' (ρ j) = al j) (htf : tf'.1 = tf.1) {v v' : Nat} (h : (v % 4 = 2 ∧ v / 4 < n ∧ v' = 4 * ρ (v / 4) + 2) ∨ (v % 4 ≠ 2 ∧ v' = v)) : zv al' tf' v' = zv al tf v ∧ zr al' v' = zr al v := by
  rcases h with ⟨h1, h2, rfl⟩ | ⟨h1, rfl⟩
  · refine ⟨by rw [zv_kr, zv_r h1, hal _ h2], ?_⟩
    unfold zr
    rw [if_pos (by omega), if_pos h1, show (4 * ρ (v / 4) + 2) / 4 = ρ (v / 4) by omega, hal _ h2]
  · refine ⟨?_, ?_⟩
    · unfold zv
      rw [if_neg h1, if_neg h1, htf]
    · unfold zr
      rw [if_neg h1, if_neg h1]
theorem zrelc_some {c c' : List Nat} (hal : ∀ j, j < n → al' (ρ j) = al j) (htf : tf'.1 = tf.1) (h : zrelc n ρ c c' = true) : c ≠ [] ∧ ze al' tf' gm c' = ze al tf gm c := by
  match c, c', h with
  | k :: fs, k' :: fs', h =>
    simp only [zrelc, Bool.and_eq_true, decide_eq_true_eq] at h
    obtain ⟨rfl, h⟩ := h
    refine ⟨by simp, ?_⟩
    by_cases q : k < 2
    · rw [if_pos q] at h
      have h := of_decide_eq_true h
      subst h
      rw [ze_n q, ze_n q]
    · rw [if_neg q] at h
      obtain ⟨g1, g2⟩ := zrel1_some h
      by_cases q2 : 16 ≤ k
      · obtain ⟨c, rfl⟩ : ∃ c, k = 16 + c := ⟨k - 16, by omega⟩
        rw [ze_o, ze_o]
        refine congrArg (fun z => Sum.inr (c, z)) ?_
        apply List.ext_getElem?
        intro j
        rw [List.getElem?_map, List.getElem?_map]
        cases hv : fs[j]? with
        | none => rw [List.getElem?_eq_none (by rw [g1]; exact List.getElem?_eq_none_iff.mp hv)]; rfl
        | some v =>
          obtain ⟨v', e1, e2⟩ := g2 j v hv
          rw [e1]
          exact congrArg some (zrel_v hal htf e2).1
      · rw [ze_q (by omega) (by omega), ze_q (by omega) (by omega), g1]
        have e : (fun j => zr al' (fs'.getD j 3)) = fun j => zr al (fs.getD j 3) := funext fun j => by
          rw [List.getD_eq_getElem?_getD, List.getD_eq_getElem?_getD]
          cases hv : fs[j]? with
          | none => rw [List.getElem?_eq_none (by rw [g1]; exact List.getElem?_eq_none_iff.mp hv)]; rfl
          | some v =>
            obtain ⟨v', e1, e2⟩ := g2 j v hv
            rw [e1]
            exact (zrel_v (tf := tf) (tf' := tf') hal htf e2).2
        rw [e]
theorem zH.re {w w' : List (List Nat)} {H : Heap} (h : zH al tf gm dC dI w H) (hr : zrela n ρ σ w w' = true) (hal : ∀ j, j < n → al' (ρ j) = al j) (htf : tf'.1 = tf.1) (hnew : ∀ i, al' (n + i) = H.size + i) : zH al' tf' gm dC dI w' H := by
  simp only [zrela, Bool.and_eq_true, decide_eq_true_eq] at hr
  obtain ⟨hl, hr⟩ := hr
  refine ⟨fun k q hq => ?_, fun i => by rw [hl]; exact hnew i⟩
  obtain ⟨c', hc', rfl⟩ := zw_of hq
  have hk : k < n := by
    have := (List.getElem?_eq_some_iff.mp hc').1
    omega
  have h1 := List.all_eq_true.mp hr k (List.mem_range.mpr hk)
  simp only [Bool.and_eq_true, decide_eq_true_eq] at h1
  obtain ⟨h1, h2, h3⟩ := h1
  have e1 : w'.getD k [] = c' := by rw [List.getD_eq_getElem?_getD, hc']; rfl
  rw [e1] at h1
  obtain ⟨g1, g2⟩ := zrelc_some (gm := gm) (tf := tf) (tf' := tf') hal htf h1
  have hc : w[σ k]? = some (w.getD (σ k) []) := by
    rw [List.getD_eq_getElem?_getD]
    cases hv : w[σ k]? with
    | none =>
      rw [List.getD_eq_getElem?_getD, hv] at g1
      exact absurd rfl g1
    | some c => rfl
  have h4 := h.1 (σ k) _ (zw_get hc)
  rw [← g2] at h4
  have e2 : al' k = al (σ k) := by rw [← hal (σ k) h3, h2]
  rw [e2]
  exact h4
theorem zQ.re {s : State} (h : zQ al tf s) (htf : tf'.1 = tf.1) (hk : ∀ k, k < 16 → al' (tf'.2 + k) = al (tf.2 + k)) (hA : ∀ q, q < s.heap.size → zA al' q → zA al q) : zQ al' tf' s := by
  obtain ⟨h1, h2, h3, h4, h5, h6⟩ := h
  have z : ∀ {C n d : String} {v : Value}, va_Z C n d v (zA al) s s.heap → va_Z C n d v (zA al') s s.heap := by
    intro C n d v h
    obtain ⟨cf, kf, fi, f, a, cell, g1, g2, g3, g4, g5, g6, g7, g8⟩ := h
    exact ⟨cf, kf, fi, f, a, cell, g1, g2, g3, g4, g5, g6, g7, fun q => g8 (hA a (Array.getElem?_eq_some_iff.mp g5).1 q)⟩
  refine ⟨z h1, by rw [hk 14 (by omega)]; exact z h2, by rw [hk 15 (by omega)]; exact z h3, by rw [htf]; exact z h4, fun q hq => ?_, h6⟩
  have h7 := h5 q hq
  have h8 : q.2.2.2 < 16 := by
    unfold zstrs at hq
    simp only [List.mem_cons, List.not_mem_nil, or_false] at hq
    rcases hq with rfl | rfl | rfl | rfl | rfl | rfl | rfl <;> decide
  rw [hk _ h8]
  exact h7
/-! the count of slots -/
def zgs (H : Heap) (a : Nat) : Nat := ((H.toList.drop a).map (·.slots.size)).sum
def zcn : List Nat → Nat
  | [] => 0
  | k :: t => if k < 2 then t.length else 0
def zarr (F : List (List Nat)) : Nat := (F.map zcn).sum
theorem zsum_le : ∀ {G : List (List Nat)} {L : List Cell}, L.length = G.length → (∀ (i : Nat) (c : Cell) (g : List Nat), L[i]? = some c → G[i]? = some g → zcn g ≤ c.slots.size) → (G.map zcn).sum ≤ (L.map (·.slots.size)).sum
  | [], [], _, _ => Nat.le_refl _
  | [], _ :: _, h, _ => by simp at h
  | _ :: _, [], h, _ => by simp at h
  | g :: G, c :: L, h, hg => by
    have h1 := zsum_le (G := G) (L := L) (by simpa using h) (fun i c' g' h1 h2 => hg (i + 1) c' g' (by simpa using h1) (by simpa using h2))
    have h2 := hg 0 c g rfl rfl
    simp only [List.map_cons, List.sum_cons]
    omega
theorem zcount {B F : List (List Nat)} {H0 H1 : Heap} (h0 : ∀ i, al (B.length + i) = H0.size + i) (h : zH al tf gm dC dI (B ++ F.reverse) H1) : H1.size = H0.size + F.length ∧ zarr F ≤ zgs H1 H0.size := by
  have hs : H1.size = H0.size + F.length := by
    have e := h.2 0
    rw [List.length_append, List.length_reverse, Nat.add_zero, h0 F.length] at e
    omega
  refine ⟨hs, ?_⟩
  have e : zarr F = (F.reverse.map zcn).sum := by
    unfold zarr
    rw [List.map_reverse, List.sum_reverse]
  rw [e]
  refine zsum_le (by simp [hs]) fun i c g hc hg => ?_
  have hi : i < F.reverse.length := (List.getElem?_eq_some_iff.mp hg).1
  have hw : (B ++ F.reverse)[B.length + i]? = some g := by
    rw [List.getElem?_append_right (by omega), Nat.add_sub_cancel_left]
    exact hg
  have hv := h.1 _ _ (zw_get (al := al) (tf := tf) (gm := gm) hw)
  rw [h0 i] at hv
  rw [List.getElem?_drop] at hc
  cases g with
  | nil => exact Nat.zero_le _
  | cons k fs =>
    show (if k < 2 then fs.length else 0) ≤ _
    by_cases q : k < 2
    · rw [if_pos q]
      rw [ze_n q] at hv
      have hv2 : H1[H0.size + i]? = some (vp_cell (gm k) (fs.length, .inl (fun j => nI (fs.getD j 0 / 4)))) := hv
      rw [← Array.getElem?_toList, hc] at hv2
      have e3 := Option.some.inj hv2
      rw [e3, vp_cell_i, arrV_size]
      exact Nat.le_refl _
    · rw [if_neg q]
      exact Nat.zero_le _
theorem zgs_step {H H1 : Heap} {g0 : Nat} (hg : g0 ≤ H.size) (hs : H.size ≤ H1.size) (hk : ∀ q : Nat, g0 ≤ q → q < H.size → H1[q]? = H[q]?) : zgs H1 g0 = zgs H g0 + zgs H1 H.size := by
  have e : H1.toList.drop g0 = H.toList.drop g0 ++ H1.toList.drop H.size := by
    apply List.ext_getElem?
    intro i
    rw [List.getElem?_drop]
    by_cases q : i < (H.toList.drop g0).length
    · rw [List.getElem?_append_left q, List.getElem?_drop, Array.getElem?_toList, Array.getElem?_toList]
      simp at q
      exact hk _ (by omega) (by omega)
    · rw [List.getElem?_append_right (by omega), List.getElem?_drop]
      simp at q ⊢
      congr 1
      omega
  unfold zgs
  rw [e, List.map_append, List.sum_append]
theorem zgs_mono {H : Heap} {a b : Nat} (h : a ≤ b) : zgs H b ≤ zgs H a := by
  have e : H.toList.drop b = (H.toList.drop a).drop (b - a) := by rw [List.drop_drop]; congr 1; omega
  unfold zgs
  rw [e]
  generalize H.toList.drop a = L
  have e2 : (L.map (·.slots.size)).sum = ((L.take (b - a)).map (·.slots.size)).sum + ((L.drop (b - a)).map (·.slots.size)).sum := by
    rw [← List.sum_append, ← List.map_append, List.take_append_drop]
  omega
end ZRE
