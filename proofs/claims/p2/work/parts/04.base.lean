/-! what the evaluator's pieces are -/
theorem ev_nf_eq {α : Type} (n : Nat) (k : Nat → α) : ev_nf n k = k n := by cases n <;> rfl
theorem ev_b_eq {α : Type} (b : Bool) (x y : α) : ev_b b x y = if b = true then x else y := by cases b <;> rfl
theorem ev_get_eq {α : Type} (d : Nat) : ∀ (l : List Nat) (i : Nat) (k : Nat → α), ev_get d l i k = k (l.getD i d)
  | [], _, _ => rfl
  | _ :: _, 0, _ => rfl
  | _ :: t, i + 1, k => ev_get_eq d t i k
theorem ev_set_eq {α : Type} (v : Nat) : ∀ (l : List Nat) (i : Nat) (k : List Nat → α), ev_set v l i k = k (l.set i v)
  | [], _, _ => rfl
  | _ :: _, 0, _ => rfl
  | a :: t, i + 1, k => ev_set_eq v t i (fun t' => k (a :: t'))
theorem ev_cell_eq {α : Type} : ∀ (l : List (List Nat)) (i : Nat) (k : List Nat → α), ev_cell l i k = k (l.getD i [])
  | [], _, _ => rfl
  | _ :: _, 0, _ => rfl
  | _ :: t, i + 1, k => ev_cell_eq t i k
theorem ev_cset_eq {α : Type} (v : List Nat) : ∀ (l : List (List Nat)) (i : Nat) (k : List (List Nat) → α), ev_cset v l i k = k (l.set i v)
  | [], _, _ => rfl
  | _ :: _, 0, _ => rfl
  | a :: t, i + 1, k => ev_cset_eq v t i (fun t' => k (a :: t'))
theorem ev_len_eq {α : Type} : ∀ (l : List Nat) (n : Nat) (k : Nat → α), ev_len l n k = k (n + l.length)
  | [], n, k => ev_nf_eq n k
  | a :: t, n, k => by
    show ev_nf (Nat.succ n) (fun m => ev_len t m k) = _
    rw [ev_nf_eq, ev_len_eq t (Nat.succ n) k]
    exact congrArg k (by simp only [List.length_cons]; omega)
theorem ev_uc_some {α β : Type} {l : List β} {k : β → List β → Option α} {r : α} (h : ev_uc l k = some r) : ∃ a t, l = a :: t ∧ k a t = some r := by
  cases l with
  | nil => cases h
  | cons a t => exact ⟨a, t, rfl, h⟩
theorem ev_rep_eq {α : Type} (v : Nat) : ∀ (n : Nat) (t : List Nat) (k : List Nat → α), ev_rep v n t k = k (List.replicate n v ++ t)
  | 0, _, _ => rfl
  | n + 1, t, k => by
    show ev_rep v n (v :: t) k = _
    rw [ev_rep_eq v n (v :: t) k, List.replicate_succ']
    exact congrArg k (by simp)
theorem ev_b_some {α : Type} {b : Bool} {x : Option α} {r : α} (h : ev_b b x none = some r) : b = true ∧ x = some r := by
  cases b with
  | false => cases h
  | true => exact ⟨rfl, h⟩
theorem ev_b_none {α : Type} {b : Bool} {x : Option α} {r : α} (h : ev_b b none x = some r) : b = false ∧ x = some r := by
  cases b with
  | true => cases h
  | false => exact ⟨rfl, h⟩
theorem ev_b_or {α : Type} {b : Bool} {x y : Option α} {r : α} (h : ev_b b x y = some r) : (b = true ∧ x = some r) ∨ (b = false ∧ y = some r) := by
  cases b with
  | true => exact Or.inl ⟨rfl, h⟩
  | false => exact Or.inr ⟨rfl, h⟩
theorem ev_i_some {α : Type} {v : Nat} {x : Option α} {r : α} (h : ev_i v x = some r) : v % 4 = 0 ∧ x = some r := by
  obtain ⟨h1, h2⟩ := ev_b_some h
  exact ⟨Nat.eq_of_beq_eq_true h1, h2⟩
theorem ev_l_some {α : Type} {v : Nat} {x : Option α} {r : α} (h : ev_l v x = some r) : v % 4 = 1 ∧ x = some r := by
  obtain ⟨h1, h2⟩ := ev_b_some h
  exact ⟨Nat.eq_of_beq_eq_true h1, h2⟩
theorem ev_r_some {α : Type} {v : Nat} {k : Nat → Option α} {r : α} (h : ev_r v k = some r) : v % 4 = 2 ∧ k (v / 4) = some r := by
  obtain ⟨h1, h2⟩ := ev_b_some h
  exact ⟨Nat.eq_of_beq_eq_true h1, by rw [ev_nf_eq] at h2; exact h2⟩
theorem ev_if {α : Type} {c : Bool} {P : Prop} (hc : c = true ↔ P) {x y : Option α} {r : α} (h : ev_b c x y = some r) : (P ∧ x = some r) ∨ (¬ P ∧ y = some r) := by
  cases c with
  | true => exact Or.inl ⟨hc.mp rfl, h⟩
  | false => exact Or.inr ⟨fun q => absurd (hc.mpr q) (by decide), h⟩
theorem zb_eq {a b : Nat} : Nat.beq a b = true ↔ a = b := ⟨Nat.eq_of_beq_eq_true, fun h => by subst h; exact Nat.beq_refl a⟩
theorem zb_lt {a b : Nat} : Nat.blt a b = true ↔ a < b := by
  show Nat.ble (a + 1) b = true ↔ a < b
  exact ⟨fun h => Nat.le_of_ble_eq_true h, fun h => Nat.ble_eq_true_of_le h⟩
theorem zb_le {a b : Nat} : Nat.ble a b = true ↔ a ≤ b := ⟨Nat.le_of_ble_eq_true, Nat.ble_eq_true_of_le⟩
theorem zb_ne {a b : Nat} (h : Nat.beq a b = false) : a ≠ b := fun q => by subst q; rw [Nat.beq_refl] at h; cases h
/-- a long takes two places among the locals -/
def zl1 (v : Nat) : List Nat := if v % 4 = 1 then [v, 7] else [v]
theorem ev_take_some {α : Type} : ∀ (n : Nat) (st as : List Nat) (k : List Nat → List Nat → Option α) (r : α), ev_take n st as k = some r → ∃ a b, st = a ++ b ∧ a.length = n ∧ (∀ x ∈ a, x ≠ 7) ∧ k (a.reverse.flatMap zl1 ++ as) b = some r
  | 0, st, as, k, r, h => ⟨[], st, rfl, rfl, fun _ z => absurd z List.not_mem_nil, h⟩
  | n + 1, st, as, k, r, h => by
    replace h : ev_uc st (fun a t => ev_b (Nat.beq a 7) none (ev_take n t (ev_b (Nat.beq (Nat.mod a 4) 1) (a :: 7 :: as) (a :: as)) k)) = some r := h
    replace h := ev_uc_some h
    obtain ⟨a, t, rfl, h2⟩ := h
    obtain ⟨h7, h2⟩ := ev_b_none h2
    have h7 := zb_ne h7
    obtain ⟨a', b, rfl, hl, hx, h3⟩ := ev_take_some n t _ k r h2
    refine ⟨a :: a', b, rfl, by simp [hl], fun x hm => ?_, ?_⟩
    · rcases List.mem_cons.mp hm with rfl | hm
      · exact h7
      · exact hx x hm
    rw [← h3]
    congr 1
    rw [List.reverse_cons, List.flatMap_append, List.append_assoc]
    congr 1
    rw [ev_b_eq]
    by_cases q : a % 4 = 1
    · rw [if_pos (show Nat.beq (Nat.mod a 4) 1 = true from zb_eq.mpr q)]
      simp [zl1, q]
    · rw [if_neg (show ¬ Nat.beq (Nat.mod a 4) 1 = true from fun z => q (zb_eq.mp z))]
      simp [zl1, q]
theorem ev_app_eq {α : Type} (t : List Nat) : ∀ (l : List Nat) (k : List Nat → α), ev_app t l k = k (l ++ t)
  | [], _ => rfl
  | a :: l, k => ev_app_eq t l (fun r => k (a :: r))
theorem ev_upto_some {α : Type} : ∀ (n : Nat) (st : List Nat) (x : Option α) (r : α), ev_upto n st x = some r → st.length ≤ n ∧ x = some r
  | 0, [], _, _, h => ⟨Nat.le_refl _, h⟩
  | 0, _ :: _, _, _, h => by cases h
  | _ + 1, [], _, _, h => ⟨Nat.zero_le _, h⟩
  | n + 1, _ :: t, x, r, h => by
    obtain ⟨h1, h2⟩ := ev_upto_some n t x r h
    exact ⟨by simp only [List.length_cons]; omega, h2⟩
theorem ev_drop_eq {α : Type} : ∀ (l : List Nat) (i : Nat) (k : List Nat → α), ev_drop l i k = k (l.drop i)
  | [], i, k => by cases i <;> rfl
  | _ :: _, 0, _ => rfl
  | _ :: t, i + 1, k => ev_drop_eq t i k
theorem ev_lay_some {α : Type} : ∀ (n : Nat) (src dst : List Nat) (k : List Nat → Option α) (r : α), ev_lay n src dst k = some r → n ≤ src.length ∧ n ≤ dst.length ∧ (∀ x ∈ src.take n, x < 512) ∧ k (src.take n ++ dst.drop n) = some r
  | 0, _, _, _, _, h => ⟨Nat.zero_le _, Nat.zero_le _, (fun x hx => by rw [List.take_zero] at hx; cases hx), h⟩
  | n + 1, src, dst, k, r, h => by
    replace h : ev_uc src (fun a s' => ev_b (Nat.blt a 512) (ev_uc dst fun _ d' => ev_lay n s' d' (fun t => k (a :: t))) none) = some r := h
    replace h := ev_uc_some h
    obtain ⟨a, s', rfl, h⟩ := h
    replace h := ev_b_some h
    obtain ⟨ha, h⟩ := h
    replace h := ev_uc_some h
    obtain ⟨b, d', rfl, h⟩ := h
    obtain ⟨h1, h2, hx, h3⟩ := ev_lay_some n s' d' _ r h
    refine ⟨by simp only [List.length_cons]; omega, by simp only [List.length_cons]; omega, fun x h4 => ?_, h3⟩
    rw [List.take_succ_cons] at h4
    rcases List.mem_cons.mp h4 with rfl | h4
    · exact zb_lt.mp ha
    · exact hx x h4
theorem ev_over_some {α : Type} (n : Nat) (src : List Nat) : ∀ (dst : List Nat) (i : Nat) (k : List Nat → Option α) (r : α), ev_over n src dst i k = some r → n ≤ src.length ∧ i + n ≤ dst.length ∧ (∀ x ∈ src.take n, x < 512) ∧ k (dst.take i ++ (src.take n ++ dst.drop (i + n))) = some r
  | [], 0, k, r, h => by
    obtain ⟨h1, h2, hx, h3⟩ := ev_lay_some n src [] k r h
    exact ⟨h1, by omega, hx, by simpa using h3⟩
  | [], _ + 1, _, _, h => by cases h
  | a :: t, 0, k, r, h => by
    obtain ⟨h1, h2, hx, h3⟩ := ev_lay_some n src (a :: t) k r h
    exact ⟨h1, by omega, hx, by simpa using h3⟩
  | a :: t, i + 1, k, r, h => by
    obtain ⟨h1, h2, hx, h3⟩ := ev_over_some n src t i (fun t' => k (a :: t')) r h
    refine ⟨h1, by simp only [List.length_cons]; omega, hx, ?_⟩
    have e : i + 1 + n = (i + n) + 1 := by omega
    rw [e, List.drop_succ_cons, List.take_succ_cons]
    exact h3
theorem ev_pad_some {α : Type} : ∀ (n : Nat) (l : List Nat) (k : List Nat → Option α) (r : α), ev_pad n l k = some r → l.length ≤ n ∧ k (l ++ List.replicate (n - l.length) 7) = some r
  | 0, [], _, _, h => ⟨Nat.le_refl _, h⟩
  | 0, _ :: _, _, _, h => by cases h
  | n + 1, [], k, r, h => by
    obtain ⟨-, h2⟩ := ev_pad_some n [] (fun t => k (7 :: t)) r h
    exact ⟨Nat.zero_le _, h2⟩
  | n + 1, a :: t, k, r, h => by
    obtain ⟨h1, h2⟩ := ev_pad_some n t (fun t' => k (a :: t')) r h
    refine ⟨by simp only [List.length_cons]; omega, ?_⟩
    rw [List.length_cons, Nat.add_sub_add_right]
    exact h2
/-- where an instruction is found -/
def zcode (code : List (List ev_I)) (pc : Nat) : Option ev_I := (code[pc / 16]?).bind fun r => r[pc % 16]?
theorem ev_look_eq (code : List (List ev_I)) (pc : Nat) : ev_look code pc = zcode code pc := by
  have key2 : ∀ (a : List ev_I) (j : Nat), @List.rec ev_I (fun _ => Nat → Option ev_I) (fun _ => none) (fun f _ ih2 j => @Nat.rec (fun _ => Option ev_I) (some f) (fun j' _ => ih2 j') j) a j = a[j]? := by
    intro a
    induction a with
    | nil => intro j; rfl
    | cons f t ih =>
      intro j
      cases j with
      | zero => rfl
      | succ j => exact (ih j).trans (by simp)
  have key : ∀ (c : List (List ev_I)) (i j : Nat), @List.rec (List ev_I) (fun _ => Nat → Option ev_I) (fun _ => none) (fun a _ ih i => @Nat.rec (fun _ => Option ev_I) (@List.rec ev_I (fun _ => Nat → Option ev_I) (fun _ => none) (fun f _ ih2 j => @Nat.rec (fun _ => Option ev_I) (some f) (fun j' _ => ih2 j') j) a j) (fun j' _ => ih j') i) c i = (c[i]?).bind (fun q => q[j]?) := by
    intro c
    induction c with
    | nil => intro i j; rfl
    | cons a t ih =>
      intro i j
      cases i with
      | zero => exact key2 a j
      | succ i => exact (ih i j).trans (by simp)
  exact key code (pc / 16) (pc % 16)
theorem ev_fetch_some {code : List (List ev_I)} {pc : Nat} {k : ev_I → Option ev_R} {r : ev_R} (h : ev_fetch code pc k = some r) : ∃ ins, zcode code pc = some ins ∧ k ins = some r := by
  unfold ev_fetch at h
  rw [ev_look_eq] at h
  cases hc : zcode code pc with
  | none => rw [hc] at h; cases h
  | some ins => rw [hc] at h; exact ⟨ins, rfl, h⟩
theorem ev_mlook_eq : ∀ (tab : List ev_P) (i : Nat), ev_mlook tab i = tab[i]?
  | [], _ => rfl
  | _ :: _, 0 => rfl
  | _ :: t, i + 1 => (ev_mlook_eq t i).trans (by simp)
theorem ev_meth_some {α : Type} {k : ev_P → Option α} {r : α} {tab : List ev_P} {i : Nat} (h : ev_meth tab i k = some r) : ∃ q, tab[i]? = some q ∧ k q = some r := by
  unfold ev_meth at h
  rw [ev_mlook_eq] at h
  cases hc : tab[i]? with
  | none => rw [hc] at h; cases h
  | some q => rw [hc] at h; exact ⟨q, rfl, h⟩
/-! the cells -/
def zI (N : Nat) (B F : List (List Nat)) (top : Nat) : Prop := B.length = N ∧ top = N + F.length
theorem ev_at_some {α : Type} {N top id : Nat} {B F : List (List Nat)} {k : List Nat → Option α} {r : α} (hI : zI N B F top) (h : ev_at N B F top id k = some r) : ∃ c, (B ++ F.reverse)[id]? = some c ∧ k c = some r := by
  obtain ⟨hB, ht⟩ := hI
  rcases ev_if zb_lt h with ⟨h1, h2⟩ | ⟨h1, h2⟩
  · rw [ev_cell_eq] at h2
    refine ⟨_, ?_, h2⟩
    rw [List.getElem?_append_left (by omega), List.getD_eq_getElem?_getD]
    rw [List.getElem?_eq_getElem (by omega)]
    rfl
  · obtain ⟨h3, h4⟩ := ev_b_some h2
    have h3 := zb_lt.mp h3
    rw [ev_cell_eq] at h4
    refine ⟨_, ?_, h4⟩
    rw [List.getElem?_append_right (by omega), List.getElem?_reverse (by omega), List.getD_eq_getElem?_getD]
    have e : F.length - 1 - (id - B.length) = Nat.sub (Nat.pred top) id := by
      show _ = top - 1 - id
      omega
    rw [e, List.getElem?_eq_getElem (by show top - 1 - id < _; omega)]
    rfl
theorem ev_put_some {α : Type} {N top id : Nat} {B F : List (List Nat)} {v : List Nat} {k : List (List Nat) → List (List Nat) → Option α} {r : α} (hI : zI N B F top) (hid : id < top) (h : ev_put N B F top id v k = some r) :
    ∃ B' F', zI N B' F' top ∧ B' ++ F'.reverse = (B ++ F.reverse).set id v ∧ k B' F' = some r := by
  obtain ⟨hB, ht⟩ := hI
  rcases ev_if zb_lt h with ⟨h1, h2⟩ | ⟨h1, h2⟩
  · rw [ev_cset_eq] at h2
    refine ⟨_, _, ⟨by simp [hB], ht⟩, ?_, h2⟩
    rw [List.set_append_left _ _ (by omega)]
  · rw [ev_cset_eq] at h2
    refine ⟨_, _, ⟨hB, by simp [ht]⟩, ?_, h2⟩
    rw [List.set_append_right _ _ (by omega)]
    congr 1
    apply List.ext_getElem?
    intro i
    by_cases hi : i < F.length
    · rw [List.getElem?_reverse (by simpa using hi), List.getElem?_set, List.getElem?_set, List.length_set]
      have e2 : Nat.sub (Nat.pred top) id = top - 1 - id := rfl
      rw [e2, List.getElem?_reverse hi, List.length_reverse]
      by_cases q : id - B.length = i
      · rw [if_pos (by omega), if_pos q, if_pos (by omega), if_pos (by omega)]
      · rw [if_neg (by omega), if_neg q]
    · rw [List.getElem?_eq_none (by simp; omega), List.getElem?_eq_none (by simp; omega)]
theorem zI.len {N top : Nat} {B F : List (List Nat)} (h : zI N B F top) : (B ++ F.reverse).length = top := by
  simp [h.1, h.2]
theorem zI.push {N top : Nat} {B F : List (List Nat)} (h : zI N B F top) (c : List Nat) : zI N B (c :: F) (top + 1) ∧ B ++ (c :: F).reverse = (B ++ F.reverse) ++ [c] := ⟨⟨h.1, by simp [h.2]; omega⟩, by simp⟩
