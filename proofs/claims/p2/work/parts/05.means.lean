/-! what the numbers stand for: al gives a cell's address, tf the one reference of which nothing is known, gm the classes of arrays -/
def zv (al : Nat → Nat) (tf : Nat × Nat) (v : Nat) : Value := if v % 4 = 0 then .int (nI (v / 4)) else if v % 4 = 1 then .long (lN (v / 4)) else if v % 4 = 2 then .ref (al (v / 4)) else if v = 11 then .ref tf.1 else .null
def zr (al : Nat → Nat) (v : Nat) : Option Nat := if v % 4 = 2 then some (al (v / 4)) else none
theorem zv_i {al : Nat → Nat} {tf : Nat × Nat} {v : Nat} (h : v % 4 = 0) : zv al tf v = .int (nI (v / 4)) := if_pos h
theorem zv_l {al : Nat → Nat} {tf : Nat × Nat} {v : Nat} (h : v % 4 = 1) : zv al tf v = .long (lN (v / 4)) := by
  unfold zv
  rw [if_neg (by omega), if_pos h]
theorem zv_r {al : Nat → Nat} {tf : Nat × Nat} {v : Nat} (h : v % 4 = 2) : zv al tf v = .ref (al (v / 4)) := by
  unfold zv
  rw [if_neg (by omega), if_neg (by omega), if_pos h]
theorem zv_f {al : Nat → Nat} {tf : Nat × Nat} : zv al tf 11 = .ref tf.1 := rfl
theorem zv_n {al : Nat → Nat} {tf : Nat × Nat} : zv al tf 3 = .null := rfl
theorem zv_c1 {al : Nat → Nat} {tf : Nat × Nat} {v : Nat} (h : v % 4 ≠ 1) : (zv al tf v).category = 1 := by
  unfold zv
  by_cases h0 : v % 4 = 0
  · rw [if_pos h0]; rfl
  rw [if_neg h0, if_neg h]
  by_cases h2 : v % 4 = 2
  · rw [if_pos h2]; rfl
  rw [if_neg h2]
  by_cases h3 : v = 11
  · rw [if_pos h3]; rfl
  · rw [if_neg h3]; rfl
theorem zv_c {al : Nat → Nat} {tf : Nat × Nat} {v : Nat} : (zv al tf v).category ≤ 2 := by
  rcases lv_cat (zv al tf v) with h | h <;> omega
theorem zv_k {al : Nat → Nat} {tf : Nat × Nat} (n : Nat) : zv al tf (4 * n) = .int (nI n) := by
  rw [zv_i (by omega)]
  congr 2
  omega
theorem zv_kl {al : Nat → Nat} {tf : Nat × Nat} (n : Nat) : zv al tf (4 * n + 1) = .long (lN n) := by
  rw [zv_l (by omega)]
  congr 2
  omega
theorem zv_kr {al : Nat → Nat} {tf : Nat × Nat} (n : Nat) : zv al tf (4 * n + 2) = .ref (al n) := by
  rw [zv_r (by omega)]
  congr 2
  omega
/-! numbers -/
theorem zn_mod (n : Nat) : nI (n % 4294967296) = nI n := by
  apply Int32.toBitVec_inj.mp
  show BitVec.ofNat 32 (n % 4294967296) = BitVec.ofNat 32 n
  apply BitVec.eq_of_toNat_eq
  simp only [BitVec.toNat_ofNat]
  omega
theorem zl_mod (n : Nat) : lN (n % 18446744073709551616) = lN n := by
  apply Int64.toBitVec_inj.mp
  show BitVec.ofNat 64 (n % 18446744073709551616) = BitVec.ofNat 64 n
  apply BitVec.eq_of_toNat_eq
  simp only [BitVec.toNat_ofNat]
  omega
theorem zn_inj {a b : Nat} (ha : a < 4294967296) (hb : b < 4294967296) (h : nI a = nI b) : a = b := by
  have h1 := congrArg (fun x : Int32 => x.toBitVec.toNat) h
  have e : ∀ n, n < 4294967296 → (nI n).toBitVec.toNat = n := fun n hn => by
    show (BitVec.ofNat 32 n).toNat = n
    rw [BitVec.toNat_ofNat]
    omega
  simp only [e a ha, e b hb] at h1
  exact h1
theorem zn_toInt {n : Nat} (h : n < 4294967296) : (nI n).toInt = if n < 2147483648 then (n : Int) else (n : Int) - 4294967296 := by
  show (BitVec.ofNat 32 n).toInt = _
  rw [BitVec.toInt_eq_toNat_cond, BitVec.toNat_ofNat]
  have e : n % 2 ^ 32 = n := Nat.mod_eq_of_lt (by omega)
  rw [e]
  by_cases q : n < 2147483648
  · rw [if_pos (by omega), if_pos q]
  · rw [if_neg (by omega), if_neg q]
    rfl
theorem zn_lt {a b : Nat} (ha : a < 4294967296) (hb : b < 4294967296) : nI a < nI b ↔ (a + 2147483648) % 4294967296 < (b + 2147483648) % 4294967296 := by
  rw [Int32.lt_iff_toInt_lt, zn_toInt ha, zn_toInt hb]
  split <;> split <;> omega
theorem zn_le {a b : Nat} (ha : a < 4294967296) (hb : b < 4294967296) : nI a ≤ nI b ↔ ¬ (b + 2147483648) % 4294967296 < (a + 2147483648) % 4294967296 := by
  rw [Int32.le_iff_toInt_le, zn_toInt ha, zn_toInt hb]
  split <;> split <;> omega
theorem zn_lt0 {a : Nat} (ha : a < 4294967296) : nI a < 0 ↔ ¬ a < 2147483648 := by
  have h := zn_lt ha (show 0 < 4294967296 by omega)
  rw [nI_0] at h
  rw [h]
  omega
theorem zn_le0 {a : Nat} (ha : a < 4294967296) : nI a ≤ 0 ↔ a = 0 ∨ ¬ a < 2147483648 := by
  have h := zn_le ha (show 0 < 4294967296 by omega)
  rw [nI_0] at h
  rw [h]
  omega
theorem zn_eq0 {a : Nat} (ha : a < 4294967296) : nI a = 0 ↔ a = 0 := by
  constructor
  · intro h
    exact zn_inj ha (by omega) (by rw [h, nI_0])
  · rintro rfl
    exact nI_0
/-! the locals -/
def zlf (al : Nat → Nat) (tf : Nat × Nat) : Nat → List Nat → List (Nat × Value)
  | _, [] => []
  | i, v :: t => if v = 7 then zlf al tf (i + 1) t else (i, zv al tf v) :: zlf al tf (i + 1) t
theorem zlf_mem {al : Nat → Nat} {tf : Nat × Nat} {q : Nat × Value} : ∀ {ls : List Nat} {i : Nat}, q ∈ zlf al tf i ls ↔ ∃ j v, q.1 = i + j ∧ ls[j]? = some v ∧ v ≠ 7 ∧ q.2 = zv al tf v
  | [], i => by
    constructor
    · intro h; cases h
    · rintro ⟨j, v, -, h, -⟩
      simp at h
  | a :: t, i => by
    have ih := @zlf_mem al tf q t (i + 1)
    have key : (∃ j v, q.1 = i + j ∧ (a :: t)[j]? = some v ∧ v ≠ 7 ∧ q.2 = zv al tf v) ↔ (q.1 = i ∧ a ≠ 7 ∧ q.2 = zv al tf a) ∨ ∃ j v, q.1 = i + 1 + j ∧ t[j]? = some v ∧ v ≠ 7 ∧ q.2 = zv al tf v := by
      constructor
      · rintro ⟨j, v, h1, h2, h3, h4⟩
        cases j with
        | zero =>
          simp at h2
          subst h2
          exact Or.inl ⟨h1, h3, h4⟩
        | succ j => exact Or.inr ⟨j, v, by omega, by simpa using h2, h3, h4⟩
      · rintro (⟨h1, h2, h3⟩ | ⟨j, v, h1, h2, h3, h4⟩)
        · exact ⟨0, a, h1, rfl, h2, h3⟩
        · exact ⟨j + 1, v, by omega, by simpa using h2, h3, h4⟩
    rw [key, ← ih]
    show q ∈ (if a = 7 then zlf al tf (i + 1) t else (i, zv al tf a) :: zlf al tf (i + 1) t) ↔ _
    by_cases h7 : a = 7
    · rw [if_pos h7]
      constructor
      · exact Or.inr
      · rintro (⟨-, h, -⟩ | h)
        · exact absurd h7 h
        · exact h
    · rw [if_neg h7, List.mem_cons]
      constructor
      · rintro (rfl | h)
        · exact Or.inl ⟨rfl, h7, rfl⟩
        · exact Or.inr h
      · rintro (⟨h1, -, h3⟩ | h)
        · exact Or.inl (Prod.ext h1 h3)
        · exact Or.inr h
def zFr (al : Nat → Nat) (tf : Nat × Nat) (ls : List Nat) (LS : Array Slot) : Prop := lv_has LS ls.length (zlf al tf 0 ls)
theorem zFr.at {al : Nat → Nat} {tf : Nat × Nat} {ls : List Nat} {LS : Array Slot} (h : zFr al tf ls LS) {i : Nat} (h7 : ls.getD i 7 ≠ 7) : LS[i]? = some (.val (zv al tf (ls.getD i 7))) ∧ i < ls.length := by
  rw [List.getD_eq_getElem?_getD] at h7 ⊢
  cases hv : ls[i]? with
  | none => rw [hv] at h7; exact absurd rfl h7
  | some v =>
    rw [hv] at h7
    exact ⟨h.2.2 (i, zv al tf v) (zlf_mem.mpr ⟨i, v, (Nat.zero_add i).symm, hv, h7, rfl⟩), (List.getElem?_eq_some_iff.mp hv).1⟩
theorem zFr.st1 {al : Nat → Nat} {tf : Nat × Nat} {ls : List Nat} {LS : Array Slot} {i v : Nat} {x : Value} {lv : List (Nat × Value)} (hlv : ∀ q ∈ zlf al tf 0 ls, q ∈ lv) (h : lv_has LS ls.length ((i, x) :: lv.filter (fun q => !(q.1 == i) && !(q.1 + 1 == i && q.2.category == 2)))) (hv : zv al tf v = x) (hp : ls.getD (i - 1) 7 % 4 ≠ 1) : zFr al tf (ls.set i v) LS := by
  refine ⟨by rw [List.length_set]; exact h.1, h.2.1, fun q hq => ?_⟩
  obtain ⟨j, w, h1, h2, h3, h4⟩ := zlf_mem.mp hq
  rw [Nat.zero_add] at h1
  rw [List.getElem?_set] at h2
  by_cases hj : i = j
  · rw [if_pos hj] at h2
    by_cases hl : i < ls.length
    · rw [if_pos (by omega)] at h2
      cases h2
      refine h.2.2 q ?_
      rw [List.mem_cons]
      exact Or.inl (Prod.ext (by rw [h1]; exact hj.symm) (h4.trans hv))
    · rw [if_neg (by omega)] at h2
      cases h2
  · rw [if_neg hj] at h2
    refine h.2.2 q (List.mem_cons_of_mem _ (List.mem_filter.mpr ⟨hlv q (zlf_mem.mpr ⟨j, w, by omega, h2, h3, h4⟩), ?_⟩))
    have hne : q.1 ≠ i := by omega
    simp only [Bool.and_eq_true, Bool.not_eq_true', beq_eq_false_iff_ne, Bool.and_eq_false_iff]
    refine ⟨hne, ?_⟩
    by_cases hi : q.1 + 1 = i
    · right
      have hw : ls.getD (i - 1) 7 = w := by
        rw [List.getD_eq_getElem?_getD, show i - 1 = j by omega, h2]
        rfl
      rw [h4, zv_c1 (by rw [← hw]; exact hp)]
      decide
    · exact Or.inl hi
theorem zFr.st2 {al : Nat → Nat} {tf : Nat × Nat} {ls : List Nat} {LS : Array Slot} {i v : Nat} {x : Value} {lv : List (Nat × Value)} (hlv : ∀ q ∈ zlf al tf 0 ls, q ∈ lv) (h : lv_has LS ls.length ((i, x) :: lv.filter (fun q => !(q.1 == i) && (!(q.1 == i + 1) && !(q.1 + 1 == i && q.2.category == 2))))) (hv : zv al tf v = x) (hp : ls.getD (i - 1) 7 % 4 ≠ 1) : zFr al tf ((ls.set i v).set (i + 1) 7) LS := by
  refine ⟨by rw [List.length_set, List.length_set]; exact h.1, h.2.1, fun q hq => ?_⟩
  obtain ⟨j, w, h1, h2, h3, h4⟩ := zlf_mem.mp hq
  rw [Nat.zero_add] at h1
  rw [List.getElem?_set, List.getElem?_set, List.length_set] at h2
  by_cases hk : i + 1 = j
  · rw [if_pos hk] at h2
    by_cases hl : j < ls.length
    · rw [if_pos (by omega)] at h2
      cases h2
      exact absurd rfl h3
    · rw [if_neg (by omega)] at h2
      cases h2
  rw [if_neg hk] at h2
  by_cases hj : i = j
  · rw [if_pos hj] at h2
    by_cases hl : i < ls.length
    · rw [if_pos (by omega)] at h2
      cases h2
      refine h.2.2 q ?_
      rw [List.mem_cons]
      exact Or.inl (Prod.ext (by rw [h1]; exact hj.symm) (h4.trans hv))
    · rw [if_neg (by omega)] at h2
      cases h2
  · rw [if_neg hj] at h2
    refine h.2.2 q (List.mem_cons_of_mem _ (List.mem_filter.mpr ⟨hlv q (zlf_mem.mpr ⟨j, w, by omega, h2, h3, h4⟩), ?_⟩))
    have hne : q.1 ≠ i := by omega
    have hne2 : q.1 ≠ i + 1 := by omega
    simp only [Bool.and_eq_true, Bool.not_eq_true', beq_eq_false_iff_ne, Bool.and_eq_false_iff]
    refine ⟨hne, hne2, ?_⟩
    by_cases hi : q.1 + 1 = i
    · right
      have hw : ls.getD (i - 1) 7 = w := by
        rw [List.getD_eq_getElem?_getD, show i - 1 = j by omega, h2]
        rfl
      rw [h4, zv_c1 (by rw [← hw]; exact hp)]
      decide
    · exact Or.inl hi
/-! the cells -/
def ze (al : Nat → Nat) (tf : Nat × Nat) (gm : Nat → ClassId) : List Nat → va_E
  | [] => .inr (0, [])
  | kd :: fs => if 16 ≤ kd then .inr (kd - 16, fs.map (zv al tf)) else if kd < 2 then .inl (gm kd, fs.length, .inl (fun j => nI (fs.getD j 0 / 4))) else .inl (gm kd, fs.length, .inr (.inr (.inr (.inr (fun j => zr al (fs.getD j 3))))))
theorem ze_o {al : Nat → Nat} {tf : Nat × Nat} {gm : Nat → ClassId} (c : Nat) (fs : List Nat) : ze al tf gm ((16 + c) :: fs) = .inr (c, fs.map (zv al tf)) := by
  show (if 16 ≤ 16 + c then _ else _) = _
  rw [if_pos (by omega), Nat.add_sub_cancel_left]
theorem ze_n {al : Nat → Nat} {tf : Nat × Nat} {gm : Nat → ClassId} {q : Nat} (h : q < 2) (fs : List Nat) : ze al tf gm (q :: fs) = .inl (gm q, fs.length, .inl (fun j => nI (fs.getD j 0 / 4))) := by
  show (if 16 ≤ q then _ else _) = _
  rw [if_neg (by omega), if_pos h]
theorem ze_q {al : Nat → Nat} {tf : Nat × Nat} {gm : Nat → ClassId} {q : Nat} (h : 2 ≤ q) (h2 : q < 16) (fs : List Nat) : ze al tf gm (q :: fs) = .inl (gm q, fs.length, .inr (.inr (.inr (.inr (fun j => zr al (fs.getD j 3)))))) := by
  show (if 16 ≤ q then _ else _) = _
  rw [if_neg (by omega), if_neg (by omega)]
def zw (al : Nat → Nat) (tf : Nat × Nat) (gm : Nat → ClassId) (w : List (List Nat)) : va_W := w.mapIdx fun i c => (al i, ze al tf gm c)
theorem zw_get {al : Nat → Nat} {tf : Nat × Nat} {gm : Nat → ClassId} {w : List (List Nat)} {i : Nat} {c : List Nat} (h : w[i]? = some c) : (zw al tf gm w)[i]? = some (al i, ze al tf gm c) := by
  unfold zw
  rw [List.getElem?_mapIdx, h]
  rfl
theorem zw_of {al : Nat → Nat} {tf : Nat × Nat} {gm : Nat → ClassId} {w : List (List Nat)} {i : Nat} {x : Nat × va_E} (h : (zw al tf gm w)[i]? = some x) : ∃ c, w[i]? = some c ∧ x = (al i, ze al tf gm c) := by
  unfold zw at h
  rw [List.getElem?_mapIdx] at h
  cases hc : w[i]? with
  | none => rw [hc] at h; cases h
  | some c => rw [hc] at h; exact ⟨c, rfl, (Option.some.inj h).symm⟩
theorem zw_len {al : Nat → Nat} {tf : Nat × Nat} {gm : Nat → ClassId} {w : List (List Nat)} : (zw al tf gm w).length = w.length := by unfold zw; exact List.length_mapIdx
theorem zw_set {al : Nat → Nat} {tf : Nat × Nat} {gm : Nat → ClassId} {w : List (List Nat)} {i : Nat} {c : List Nat} : zw al tf gm (w.set i c) = (zw al tf gm w).set i (al i, ze al tf gm c) := by
  apply List.ext_getElem?
  intro j
  unfold zw
  rw [List.getElem?_mapIdx, List.getElem?_set, List.getElem?_set, List.getElem?_mapIdx, List.length_mapIdx]
  by_cases h : i = j
  · subst h
    rw [if_pos rfl, if_pos rfl]
    by_cases hl : i < w.length
    · rw [if_pos hl, if_pos hl]; rfl
    · rw [if_neg hl, if_neg hl]; rfl
  · rw [if_neg h, if_neg h]
theorem zw_push {al : Nat → Nat} {tf : Nat × Nat} {gm : Nat → ClassId} {w : List (List Nat)} {c : List Nat} : zw al tf gm (w ++ [c]) = zw al tf gm w ++ [(al w.length, ze al tf gm c)] := by
  unfold zw
  rw [List.mapIdx_append]
  simp [List.mapIdx_cons]
def zA (al : Nat → Nat) : Nat → Prop := fun q => ∃ i, q = al i
theorem zw_D {al : Nat → Nat} {tf : Nat × Nat} {gm : Nat → ClassId} (hinj : ∀ i j, al i = al j → i = j) (w : List (List Nat)) : va_D (zA al) (zw al tf gm w) := by
  refine ⟨fun i j p q h1 h2 h3 => ?_, fun k q h => ?_⟩
  · obtain ⟨_, -, rfl⟩ := zw_of h1
    obtain ⟨_, -, rfl⟩ := zw_of h2
    exact hinj i j h3
  · obtain ⟨_, -, rfl⟩ := zw_of h
    exact ⟨k, rfl⟩
def zH (al : Nat → Nat) (tf : Nat × Nat) (gm : Nat → ClassId) (dC : Nat → ClassId) (dI : Nat → Nat → Nat) (w : List (List Nat)) (H : Heap) : Prop := va_P (dC, dI) vwCl (zw al tf gm w) H ∧ ∀ i, al (w.length + i) = H.size + i
abbrev ztys (gm : Nat → ClassId) : List (ClassId × FieldType) := [(gm 0, .int), (gm 1, .byte), (gm 2, .object RX1), (gm 3, .object RX0), (gm 4, .array .int)]
abbrev zK (gm : Nat → ClassId) (dC : Nat → ClassId) (dI : Nat → Nat → Nat) (U : State) : Prop := va_K (dC, dI) vwCl (ztys gm) U
def zstrs : List (String × Nat × String × Nat) := [("Rowtricks", 337, ", ", 1), ("RowtricksModel", 100, "[", 3), ("RowtricksModel", 109, ", ", 1), ("RowtricksModel", 111, "", 7), ("RowtricksModel", 116, ".", 9), ("RowtricksModel", 122, "]", 11), ("RowtricksModel", 179, "-", 13)]
def znf : List (String × Nat × String × String × String × String) := [("Rowtricks", 100, "Rowtricks$Row", "state", "I", "Rowtricks"), ("Rowtricks", 201, "Rowtricks$Part", "from", "I", "Rowtricks"), ("Rowtricks", 208, "Rowtricks$Part", "to", "I", "Rowtricks"), ("Rowtricks", 211, "Rowtricks$Row", "next", "I", "Rowtricks"), ("Rowtricks", 293, "Rowtricks$Part", "row", "LRowtricks$Row;", "Rowtricks"), ("Rowtricks", 51, "Rowtricks$Row", "count", "I", "Rowtricks"), ("RowtricksLaw", 13, "RowtricksLaw$Out", "n", "J", "RowtricksLaw"), ("RowtricksLaw", 80, "RowtricksLaw$Out", "s", "Ljava/lang/String;", "RowtricksLaw")]
def znm : List (String × Nat × MethodName × String) := [("Rowtricks", 103, ⟨"Rowtricks$Row", "cardAt", "(I)I"⟩, "Rowtricks"), ("Rowtricks", 116, ⟨"Rowtricks$Row", "arrange", "(IIZ)V"⟩, "Rowtricks"), ("Rowtricks", 120, ⟨"Rowtricks$Row", "firstValue", "(II)I"⟩, "Rowtricks"), ("Rowtricks", 127, ⟨"Rowtricks$Row", "markAt", "(I)I"⟩, "Rowtricks"), ("Rowtricks", 130, ⟨"Rowtricks$Row", "howOften", "(I)I"⟩, "Rowtricks"), ("Rowtricks", 133, ⟨"Rowtricks$Row", "lastPlaceOf", "(I)I"⟩, "Rowtricks"), ("Rowtricks", 136, ⟨"Rowtricks$Row", "firstPlaceOf", "(I)I"⟩, "Rowtricks"), ("Rowtricks", 143, ⟨"Rowtricks$Row", "isLike", "(LRowtricks$Row;)Z"⟩, "Rowtricks"), ("Rowtricks", 15, ⟨"Rowtricks$Row", "<init>", "()V"⟩, "Rowtricks"), ("Rowtricks", 181, ⟨"Rowtricks$Part", "lay", "(LRowtricks$Row;LRowtricks$Part;II)V"⟩, "Rowtricks"), ("Rowtricks", 185, ⟨"Rowtricks$Part", "many", "()I"⟩, "Rowtricks"), ("Rowtricks", 193, ⟨"Rowtricks$Part", "isWithin", "(LRowtricks$Part;)Z"⟩, "Rowtricks"), ("Rowtricks", 204, ⟨"Rowtricks$Part", "isThere", "()Z"⟩, "Rowtricks"), ("Rowtricks", 218, ⟨"Rowtricks$Part", "hasPlace", "(I)Z"⟩, "Rowtricks"), ("Rowtricks", 22, ⟨"Rowtricks$Part", "<init>", "()V"⟩, "Rowtricks"), ("Rowtricks", 233, ⟨"Rowtricks$Row", "placeOf", "(IILRowtricks$Row;II)I"⟩, "Rowtricks"), ("Rowtricks", 298, ⟨"Rowtricks$Row", "hasPlace", "(I)Z"⟩, "Rowtricks"), ("Rowtricks", 311, ⟨"Rowtricks$Row", "exchange", "(II)V"⟩, "Rowtricks"), ("Rowtricks", 314, ⟨"Rowtricks$Row", "turn", "(II)V"⟩, "Rowtricks"), ("Rowtricks", 317, ⟨"Rowtricks$Row", "push", "(III)V"⟩, "Rowtricks"), ("Rowtricks", 43, ⟨"Rowtricks$Row", "putBehind", "(I)V"⟩, "Rowtricks"), ("Rowtricks", 61, ⟨"Rowtricks$Row", "putBetween", "(II)V"⟩, "Rowtricks"), ("Rowtricks", 68, ⟨"Rowtricks$Row", "valueAt", "(I)I"⟩, "Rowtricks"), ("Rowtricks", 72, ⟨"Rowtricks$Row", "takeOut", "(II)V"⟩, "Rowtricks"), ("Rowtricks", 85, ⟨"Rowtricks$Row", "putCopiesBehind", "(II)V"⟩, "Rowtricks"), ("Rowtricks", 91, ⟨"Rowtricks$Row", "putAllBehind", "(LRowtricks$Row;)V"⟩, "Rowtricks"), ("Rowtricks", 94, ⟨"Rowtricks$Row", "becomeLike", "(LRowtricks$Row;)V"⟩, "Rowtricks"), ("Rowtricks", 97, ⟨"Rowtricks$Row", "put", "(II)V"⟩, "Rowtricks"), ("Rowtricks$Row", 60, ⟨"Rowtricks", "comesBefore", "(IIZ)Z"⟩, "Rowtricks"), ("RowtricksLaw", 184, ⟨"RowtricksLaw$Out", "<init>", "()V"⟩, "RowtricksLaw")]
/-- arrays of arrays stay -/
theorem zaoA_moved {t : FieldType} {u U : State} (hvm : u.vm.Alike U.vm) (h : va_Nw (.arrayOver (.array t)) u) : va_Nw (.arrayOver (.array t)) U := by
  obtain ⟨comp, c, k, h1, h2, h3, h4, h5⟩ := arrayOverA_spec h
  obtain ⟨k', hk', he⟩ := hvm.2.2 _ _ h3
  have hi : (U.vm.classes.findIdx? fun (x : Class) => match x.kind with | .array component _ => component == comp | _ => false) = some c := by
    rw [hvm.findIdx?_eq _ (fun _ => rfl)]
    exact h2
  have hkind : k'.kind = .array comp (.array t) := by rw [he]; exact h4
  have f1 : U.vm.findClass (FieldType.array t).toString = some comp := by rw [hvm.findClass]; exact h1
  have f2 : U.vm.findClass ("[" ++ (FieldType.array t).toString) = some c := by rw [hvm.findClass]; exact h5
  unfold va_Nw Cond.before Cond.holds
  simp only [Cond.value]
  rw [f1, Option.bind_some]
  refine (congrArg (fun o : Option Nat => (o.bind (fun c => (U.vm.classes[c]?).map fun (k : Class) => match k.kind with | .array _ ty => decide (ty = FieldType.array t) && decide (U.vm.findClass ("[" ++ (FieldType.array t).toString) = some c) | _ => false) == some true)) hi).trans ?_
  simp [hk', hkind, f2]
def zao : List FieldType := [.object RX1, .object RX0, .array .int]
theorem zao_moved {u U : State} (hvm : u.vm.Alike U.vm) (h : ∀ t ∈ zao, va_Nw (.arrayOver t) u) : ∀ t ∈ zao, va_Nw (.arrayOver t) U := by
  intro t ht
  have h1 := h t ht
  unfold zao at ht
  simp only [List.mem_cons, List.not_mem_nil, or_false] at ht
  rcases ht with rfl | rfl | rfl
  · exact va_AO.moved hvm h1
  · exact va_AO.moved hvm h1
  · exact zaoA_moved hvm h1
/-- the statics that digest() reads, and its texts -/
def zQ (al : Nat → Nat) (tf : Nat × Nat) (U : State) : Prop :=
  va_Z RJ0 "COMPACT_STRINGS" "Z" (.int 1) (zA al) U U.heap ∧ va_Z RJ6 "DigitOnes" "[B" (.ref (al (tf.2 + 14))) (zA al) U U.heap ∧ va_Z RJ6 "DigitTens" "[B" (.ref (al (tf.2 + 15))) (zA al) U U.heap ∧
  va_Z RJ3 "SIOOBE_FORMATTER" "Ljava/util/function/BiFunction;" (.ref tf.1) (zA al) U U.heap ∧ (∀ q ∈ zstrs, vk_R q.1 q.2.1 q.2.2.1 (al (tf.2 + q.2.2.2)) U) ∧ (∀ q ∈ znf, va_Nw (.fieldLinkNest q.1 q.2.1 q.2.2.1 q.2.2.2.1 q.2.2.2.2.1 q.2.2.2.2.2) U) ∧ (∀ q ∈ znm, va_Nw (.methodLinkNest q.1 q.2.1 q.2.2.1 q.2.2.2) U) ∧ va_Nw (.castable "[I" "java/lang/Cloneable") U ∧ ∀ t ∈ zao, va_Nw (.arrayOver t) U
/-- the private methods of StringBuilder's superclass, on a StringBuilder -/
def zsn : List MethodName := [⟨"java/lang/AbstractStringBuilder", "ensureCapacityInternal", "(I)V"⟩, ⟨"java/lang/AbstractStringBuilder", "newCapacity", "(I)I"⟩, ⟨"java/lang/AbstractStringBuilder", "putStringAt", "(ILjava/lang/String;)V"⟩, ⟨"java/lang/AbstractStringBuilder", "inflateIfNeededFor", "(Ljava/lang/String;)V"⟩]
def zsup : List Cond := zsn.map fun x => Cond.selects "java/lang/StringBuilder" x x
def zTS : List Cond := lw_tbl.filter goodWord ++ zsup
theorem zTS_su {w : Cond} (i : Nat) (h : zsup[i]? = some w) : w ∈ zTS := List.mem_append_right _ (List.mem_of_getElem? h)
theorem zTS_good {w : Cond} (h : w ∈ zTS) : goodWord w = true := by
  rcases List.mem_append.mp h with h | h
  · exact (List.mem_filter.mp h).2
  · obtain ⟨x, -, rfl⟩ := List.mem_map.mp h
    rfl
theorem zTS_in {w : Cond} (i : Nat) (h : lw_tbl[i]? = some w) (hg : goodWord w = true) : w ∈ zTS := List.mem_append_left _ (List.mem_filter.mpr ⟨List.mem_of_getElem? h, hg⟩)
def zC : Nat → Nat
  | 0 => 64
  | d + 1 => ev_fuel * zC d
def zS : Nat → Nat
  | 0 => 65536
  | d + 1 => ev_fuel * zS d
theorem zC_64 : ∀ d, 64 ≤ zC d
  | 0 => Nat.le_refl _
  | d + 1 => by
    have h := zC_64 d
    show 64 ≤ 100000 * zC d
    omega
theorem zC_pos (d : Nat) : 1 ≤ zC d := Nat.le_trans (by omega) (zC_64 d)
theorem zS_pos : ∀ d, 65536 ≤ zS d
  | 0 => Nat.le_refl _
  | d + 1 => by
    have h := zS_pos d
    show 65536 ≤ 100000 * zS d
    omega
def zrm (d : Nat) : Room := { frames := d, cells := zC d, slots := zS d, locals := 40 * d }
