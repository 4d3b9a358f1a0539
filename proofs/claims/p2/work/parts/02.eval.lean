/-! A SMALL EVALUATOR of bytecode over numbered cells, for the kernel: every piece forces its numbers before it goes on.
A value is a number: 4 n an int (n of 32 bits), 4 n + 1 a long (n of 64 bits), 4 i + 2 the cell i, 3 null, 11 one reference of which nothing more is known, 7 nothing (an unset local, a long's second half).
A cell is a list: its kind, then its slots: 0 ints, 1 bytes, 2 + t an array of references (type t), 16 + c an object of the class c. -/
abbrev ev_R : Type := Nat × List Nat × List Nat × List (List Nat) × List (List Nat) × Nat
abbrev ev_G : Type := Nat → List Nat → List Nat → List (List Nat) → List (List Nat) → Nat → Option ev_R
abbrev ev_V : Type := List Nat × List (List Nat) × List (List Nat) × Nat
abbrev ev_C : Type := Nat → List Nat → List (List Nat) → List (List Nat) → Nat → Option ev_V
abbrev ev_I : Type := ev_C → ev_G → ev_G
noncomputable def ev_nf {α : Type} (n : Nat) (k : Nat → α) : α := @Nat.rec (fun _ => α) (k 0) (fun m _ => k (Nat.succ m)) n
noncomputable def ev_b {α : Type} (b : Bool) (x y : α) : α := @Bool.rec (fun _ => α) y x b
noncomputable def ev_get {α : Type} (d : Nat) (l : List Nat) : Nat → (Nat → α) → α := @List.rec Nat (fun _ => Nat → (Nat → α) → α) (fun _ k => k d) (fun a _ ih i k => @Nat.rec (fun _ => α) (k a) (fun j _ => ih j k) i) l
noncomputable def ev_set {α : Type} (v : Nat) (l : List Nat) : Nat → (List Nat → α) → α := @List.rec Nat (fun _ => Nat → (List Nat → α) → α) (fun _ k => k []) (fun a t ih i k => @Nat.rec (fun _ => α) (k (v :: t)) (fun j _ => ih j (fun t' => k (a :: t'))) i) l
noncomputable def ev_cell {α : Type} (l : List (List Nat)) : Nat → (List Nat → α) → α := @List.rec (List Nat) (fun _ => Nat → (List Nat → α) → α) (fun _ k => k []) (fun a _ ih i k => @Nat.rec (fun _ => α) (k a) (fun j _ => ih j k) i) l
noncomputable def ev_cset {α : Type} (v : List Nat) (l : List (List Nat)) : Nat → (List (List Nat) → α) → α := @List.rec (List Nat) (fun _ => Nat → (List (List Nat) → α) → α) (fun _ k => k []) (fun a t ih i k => @Nat.rec (fun _ => α) (k (v :: t)) (fun j _ => ih j (fun t' => k (a :: t'))) i) l
noncomputable def ev_len {α : Type} (l : List Nat) : Nat → (Nat → α) → α := @List.rec Nat (fun _ => Nat → (Nat → α) → α) (fun n k => ev_nf n k) (fun _ _ ih n k => ev_nf (Nat.succ n) (fun m => ih m k)) l
/-- N cells lie in the first list -/
noncomputable def ev_at {α : Type} (N : Nat) (B F : List (List Nat)) (top id : Nat) (k : List Nat → Option α) : Option α := ev_b (Nat.blt id N) (ev_cell B id k) (ev_b (Nat.blt id top) (ev_cell F (Nat.sub (Nat.pred top) id) k) none)
noncomputable def ev_put {α : Type} (N : Nat) (B F : List (List Nat)) (top id : Nat) (v : List Nat) (k : List (List Nat) → List (List Nat) → α) : α := ev_b (Nat.blt id N) (ev_cset v B id fun B' => k B' F) (ev_cset v F (Nat.sub (Nat.pred top) id) fun F' => k B F')
/-- the head, the tail -/
noncomputable def ev_uc {α β : Type} (l : List β) (k : β → List β → Option α) : Option α := @List.rec β (fun _ => Option α) none (fun a t _ => k a t) l
noncomputable def ev_rep {α : Type} (v : Nat) (n : Nat) : List Nat → (List Nat → α) → α := @Nat.rec (fun _ => List Nat → (List Nat → α) → α) (fun t k => k t) (fun _ ih t k => ih (v :: t) k) n
/-- an int, a cell -/
noncomputable def ev_i {α : Type} (v : Nat) (x : Option α) : Option α := ev_b (Nat.beq (Nat.mod v 4) 0) x none
noncomputable def ev_l {α : Type} (v : Nat) (x : Option α) : Option α := ev_b (Nat.beq (Nat.mod v 4) 1) x none
noncomputable def ev_r {α : Type} (v : Nat) (k : Nat → Option α) : Option α := ev_b (Nat.beq (Nat.mod v 4) 2) (ev_nf (Nat.div v 4) k) none
def ev_M : Nat := 17179869184
def ev_H : Nat := 8589934592
def ev_ML : Nat := 18446744073709551616
noncomputable def ev_lt (u v : Nat) : Bool := Nat.blt (Nat.mod (Nat.add u ev_H) ev_M) (Nat.mod (Nat.add v ev_H) ev_M)
-- ===== the instructions: nx is where the next one stands =====
noncomputable def eo_iload (nx i : Nat) : ev_I := fun _ go _ ls st B F top => ev_get 7 ls i fun v => ev_i v (go nx ls (v :: st) B F top)
noncomputable def eo_lload (nx i : Nat) : ev_I := fun _ go _ ls st B F top => ev_get 7 ls i fun v => ev_l v (go nx ls (v :: st) B F top)
noncomputable def eo_aload (nx i : Nat) : ev_I := fun _ go _ ls st B F top => ev_get 7 ls i fun v => ev_b (Nat.beq (Nat.mod v 4) 2) (go nx ls (v :: st) B F top) (ev_b (Nat.beq v 3) (go nx ls (v :: st) B F top) (ev_b (Nat.beq v 11) (go nx ls (v :: st) B F top) none))
noncomputable def eo_istore (nx i : Nat) : ev_I := fun _ go _ ls st B F top => ev_uc st fun v r => ev_i v (ev_get 7 ls (Nat.pred i) fun u => ev_b (Nat.beq (Nat.mod u 4) 1) none (ev_set v ls i fun ls' => go nx ls' r B F top))
noncomputable def eo_astore (nx i : Nat) : ev_I := fun _ go _ ls st B F top => ev_uc st fun v r => ev_b (Nat.beq (Nat.mod v 4) 2) (ev_get 7 ls (Nat.pred i) fun u => ev_b (Nat.beq (Nat.mod u 4) 1) none (ev_set v ls i fun ls' => go nx ls' r B F top)) (ev_b (Nat.beq v 3) (ev_get 7 ls (Nat.pred i) fun u => ev_b (Nat.beq (Nat.mod u 4) 1) none (ev_set v ls i fun ls' => go nx ls' r B F top)) none)
noncomputable def eo_lstore (nx i : Nat) : ev_I := fun _ go _ ls st B F top => ev_uc st fun v r => ev_l v (ev_get 7 ls (Nat.pred i) fun u => ev_b (Nat.beq (Nat.mod u 4) 1) none (ev_set v ls i fun l1 => ev_set 7 l1 (Nat.succ i) fun l2 => go nx l2 r B F top))
noncomputable def eo_push (nx v : Nat) : ev_I := fun _ go _ ls st B F top => go nx ls (v :: st) B F top
noncomputable def eo_iadd (nx : Nat) : ev_I := fun _ go _ ls st B F top => ev_uc st fun v s1 => ev_uc s1 fun u r => ev_i v (ev_i u (ev_nf (Nat.mod (Nat.add u v) ev_M) fun w => go nx ls (w :: r) B F top))
noncomputable def eo_isub (nx : Nat) : ev_I := fun _ go _ ls st B F top => ev_uc st fun v s1 => ev_uc s1 fun u r => ev_i v (ev_i u (ev_b (Nat.blt v ev_M) (ev_nf (Nat.mod (Nat.sub (Nat.add u ev_M) v) ev_M) fun w => go nx ls (w :: r) B F top) none))
noncomputable def eo_imul (nx : Nat) : ev_I := fun _ go _ ls st B F top => ev_uc st fun v s1 => ev_uc s1 fun u r => ev_i v (ev_i u (ev_nf (Nat.mod (Nat.mul (Nat.div u 4) v) ev_M) fun w => go nx ls (w :: r) B F top))
noncomputable def eo_idiv (nx : Nat) : ev_I := fun _ go _ ls st B F top => ev_uc st fun v s1 => ev_uc s1 fun u r => ev_i v (ev_i u (ev_b (Nat.blt u ev_H) (ev_b (Nat.blt v ev_H) (ev_b (Nat.beq v 0) none (ev_nf (Nat.mul 4 (Nat.div u v)) fun w => go nx ls (w :: r) B F top)) none) none))
noncomputable def eo_irem (nx : Nat) : ev_I := fun _ go _ ls st B F top => ev_uc st fun v s1 => ev_uc s1 fun u r => ev_i v (ev_i u (ev_b (Nat.blt v ev_H) (ev_b (Nat.beq v 0) none (ev_b (Nat.blt u ev_H) (ev_nf (Nat.mul 4 (Nat.mod (Nat.div u 4) (Nat.div v 4))) fun w => go nx ls (w :: r) B F top) (ev_b (Nat.blt ev_H u) (ev_b (Nat.blt u ev_M) (ev_nf (Nat.mod (Nat.div (Nat.sub ev_M u) 4) (Nat.div v 4)) fun q => ev_nf (Nat.mod (Nat.sub ev_M (Nat.mul 4 q)) ev_M) fun w => go nx ls (w :: r) B F top) none) none))) none))
noncomputable def eo_iand (nx : Nat) : ev_I := fun _ go _ ls st B F top => ev_uc st fun v s1 => ev_uc s1 fun u r => ev_i v (ev_i u (ev_nf (Nat.land u v) fun w => go nx ls (w :: r) B F top))
noncomputable def eo_ixor (nx : Nat) : ev_I := fun _ go _ ls st B F top => ev_uc st fun v s1 => ev_uc s1 fun u r => ev_i v (ev_i u (ev_nf (Nat.xor u v) fun w => go nx ls (w :: r) B F top))
/-- a shift by 0 alone -/
noncomputable def eo_ish0 (nx : Nat) : ev_I := fun _ go _ ls st B F top => ev_uc st fun v s1 => ev_uc s1 fun u r => ev_i u (ev_b (Nat.beq v 0) (go nx ls (u :: r) B F top) none)
noncomputable def eo_ineg (nx : Nat) : ev_I := fun _ go _ ls st B F top => ev_uc st fun u r => ev_i u (ev_b (Nat.ble u ev_M) (ev_nf (Nat.mod (Nat.sub ev_M u) ev_M) fun w => go nx ls (w :: r) B F top) none)
noncomputable def eo_ladd (nx : Nat) : ev_I := fun _ go _ ls st B F top => ev_uc st fun v s1 => ev_uc s1 fun u r => ev_l v (ev_l u (ev_nf (Nat.succ (Nat.mul 4 (Nat.mod (Nat.add (Nat.div u 4) (Nat.div v 4)) ev_ML))) fun w => go nx ls (w :: r) B F top))
noncomputable def eo_lmul (nx : Nat) : ev_I := fun _ go _ ls st B F top => ev_uc st fun v s1 => ev_uc s1 fun u r => ev_l v (ev_l u (ev_nf (Nat.succ (Nat.mul 4 (Nat.mod (Nat.mul (Nat.div u 4) (Nat.div v 4)) ev_ML))) fun w => go nx ls (w :: r) B F top))
/-- what is not negative stays as it is; an int below 0 is wanted too -/
noncomputable def eo_i2l (nx : Nat) : ev_I := fun _ go _ ls st B F top => ev_uc st fun u r => ev_i u (ev_b (Nat.blt u ev_H) (ev_nf (Nat.succ u) fun w => go nx ls (w :: r) B F top) (ev_b (Nat.blt u ev_M) (ev_nf (Nat.succ (Nat.mul 4 (Nat.sub (Nat.add (Nat.div u 4) ev_ML) 4294967296))) fun w => go nx ls (w :: r) B F top) none))
noncomputable def eo_lrem (nx : Nat) : ev_I := fun _ go _ ls st B F top => ev_uc st fun v s1 => ev_uc s1 fun u r => ev_l v (ev_l u (ev_b (Nat.blt v ev_M) (ev_b (Nat.beq v 1) none (ev_b (Nat.blt u ev_M) (ev_nf (Nat.succ (Nat.mul 4 (Nat.mod (Nat.div u 4) (Nat.div v 4)))) fun w => go nx ls (w :: r) B F top)
  (ev_b (Nat.blt 73786976277658337280 u) (ev_b (Nat.blt u 73786976294838206464) (ev_nf (Nat.mod (Nat.sub ev_ML (Nat.div u 4)) (Nat.div v 4)) fun q => ev_nf (Nat.succ (Nat.mul 4 (Nat.mod (Nat.sub ev_ML q) ev_ML))) fun w => go nx ls (w :: r) B F top) none) none))) none))
noncomputable def eo_l2i (nx : Nat) : ev_I := fun _ go _ ls st B F top => ev_uc st fun u r => ev_l u (ev_nf (Nat.mod (Nat.mul 4 (Nat.div u 4)) ev_M) fun w => go nx ls (w :: r) B F top)
/-- to a byte, to a char: what is below 128 stays -/
noncomputable def eo_small (nx : Nat) : ev_I := fun _ go _ ls st B F top => ev_uc st fun u r => ev_i u (ev_b (Nat.blt u 512) (go nx ls (u :: r) B F top) none)
noncomputable def eo_iinc (nx i d : Nat) : ev_I := fun _ go _ ls st B F top => ev_get 7 ls i fun v => ev_i v (ev_nf (Nat.mod (Nat.add v d) ev_M) fun w => ev_set w ls i fun ls' => go nx ls' st B F top)
noncomputable def eo_goto (tg : Nat) : ev_I := fun _ go _ ls st B F top => go tg ls st B F top
noncomputable def eo_eq (nx tg : Nat) : ev_I := fun _ go _ ls st B F top => ev_uc st fun u r => ev_i u (ev_b (Nat.beq (Nat.mod u ev_M) 0) (go tg ls r B F top) (go nx ls r B F top))
noncomputable def eo_ne (nx tg : Nat) : ev_I := fun _ go _ ls st B F top => ev_uc st fun u r => ev_i u (ev_b (Nat.beq (Nat.mod u ev_M) 0) (go nx ls r B F top) (go tg ls r B F top))
noncomputable def eo_lt (nx tg : Nat) : ev_I := fun _ go _ ls st B F top => ev_uc st fun u r => ev_i u (ev_b (Nat.blt (Nat.mod u ev_M) ev_H) (go nx ls r B F top) (go tg ls r B F top))
noncomputable def eo_ge (nx tg : Nat) : ev_I := fun _ go _ ls st B F top => ev_uc st fun u r => ev_i u (ev_b (Nat.blt (Nat.mod u ev_M) ev_H) (go tg ls r B F top) (go nx ls r B F top))
noncomputable def eo_gt (nx tg : Nat) : ev_I := fun _ go _ ls st B F top => ev_uc st fun u r => ev_i u (ev_b (Nat.blt (Nat.mod u ev_M) ev_H) (ev_b (Nat.beq (Nat.mod u ev_M) 0) (go nx ls r B F top) (go tg ls r B F top)) (go nx ls r B F top))
noncomputable def eo_le (nx tg : Nat) : ev_I := fun _ go _ ls st B F top => ev_uc st fun u r => ev_i u (ev_b (Nat.blt (Nat.mod u ev_M) ev_H) (ev_b (Nat.beq (Nat.mod u ev_M) 0) (go tg ls r B F top) (go nx ls r B F top)) (go tg ls r B F top))
noncomputable def eo_ceq (nx tg : Nat) : ev_I := fun _ go _ ls st B F top => ev_uc st fun v s1 => ev_uc s1 fun u r => ev_i v (ev_i u (ev_b (Nat.beq (Nat.mod u ev_M) (Nat.mod v ev_M)) (go tg ls r B F top) (go nx ls r B F top)))
noncomputable def eo_cne (nx tg : Nat) : ev_I := fun _ go _ ls st B F top => ev_uc st fun v s1 => ev_uc s1 fun u r => ev_i v (ev_i u (ev_b (Nat.beq (Nat.mod u ev_M) (Nat.mod v ev_M)) (go nx ls r B F top) (go tg ls r B F top)))
noncomputable def eo_clt (nx tg : Nat) : ev_I := fun _ go _ ls st B F top => ev_uc st fun v s1 => ev_uc s1 fun u r => ev_i v (ev_i u (ev_b (ev_lt u v) (go tg ls r B F top) (go nx ls r B F top)))
noncomputable def eo_cge (nx tg : Nat) : ev_I := fun _ go _ ls st B F top => ev_uc st fun v s1 => ev_uc s1 fun u r => ev_i v (ev_i u (ev_b (ev_lt u v) (go nx ls r B F top) (go tg ls r B F top)))
noncomputable def eo_cgt (nx tg : Nat) : ev_I := fun _ go _ ls st B F top => ev_uc st fun v s1 => ev_uc s1 fun u r => ev_i v (ev_i u (ev_b (ev_lt v u) (go tg ls r B F top) (go nx ls r B F top)))
noncomputable def eo_cle (nx tg : Nat) : ev_I := fun _ go _ ls st B F top => ev_uc st fun v s1 => ev_uc s1 fun u r => ev_i v (ev_i u (ev_b (ev_lt v u) (go nx ls r B F top) (go tg ls r B F top)))
noncomputable def eo_null (nx tg : Nat) : ev_I := fun _ go _ ls st B F top => ev_uc st fun u r => ev_b (Nat.beq (Nat.mod u 4) 2) (go nx ls r B F top) (ev_b (Nat.beq u 3) (go tg ls r B F top) none)
noncomputable def eo_nonnull (nx tg : Nat) : ev_I := fun _ go _ ls st B F top => ev_uc st fun u r => ev_b (Nat.beq (Nat.mod u 4) 2) (go tg ls r B F top) (ev_b (Nat.beq u 3) (go nx ls r B F top) none)
noncomputable def eo_ane (nx tg : Nat) : ev_I := fun _ go _ ls st B F top => ev_uc st fun v s1 => ev_uc s1 fun u r => ev_r v fun _ => ev_r u fun _ => ev_b (Nat.beq u v) (go nx ls r B F top) (go tg ls r B F top)
/-- the field k of an object of the class c -/
noncomputable def eo_getf (N nx c k : Nat) : ev_I := fun _ go _ ls st B F top => ev_uc st fun u r => ev_r u fun id => ev_at N B F top id fun cell => ev_uc cell fun kd fs => ev_b (Nat.beq kd (Nat.add 16 c)) (ev_get 7 fs k fun v => ev_b (Nat.beq v 7) none (go nx ls (v :: r) B F top)) none
/-- a field of an int (j = 0), a reference (j = 2), null (j = 3) -/
noncomputable def eo_putf (N nx c k j : Nat) : ev_I := fun _ go _ ls st B F top => ev_uc st fun v s1 => ev_uc s1 fun u r => ev_b (Nat.beq (Nat.mod v 4) j) (ev_r u fun id => ev_at N B F top id fun cell => ev_uc cell fun kd fs => ev_b (Nat.beq kd (Nat.add 16 c)) (ev_get 7 fs k fun o => ev_b (Nat.beq o 7) none (ev_set v fs k fun fs' => ev_put N B F top id (kd :: fs') fun B' F' => go nx ls r B' F' top)) none) none
/-- a field of 0 or 1 -/
noncomputable def eo_putz (N nx c k : Nat) : ev_I := fun call go pc ls st B F top => ev_uc st fun v _ => ev_b (Nat.ble v 4) (eo_putf N nx c k 0 call go pc ls st B F top) none
noncomputable def eo_ald (N nx q : Nat) : ev_I := fun _ go _ ls st B F top => ev_uc st fun v s1 => ev_uc s1 fun u r => ev_i v (ev_b (Nat.blt v ev_H) (ev_r u fun id => ev_at N B F top id fun cell => ev_uc cell fun kd fs => ev_b (Nat.beq kd q) (ev_get 7 fs (Nat.div v 4) fun x => ev_i x (go nx ls (x :: r) B F top)) none) none)
/-- out of an array of references -/
noncomputable def eo_aldr (N nx q : Nat) : ev_I := fun _ go _ ls st B F top => ev_uc st fun v s1 => ev_uc s1 fun u r => ev_i v (ev_b (Nat.blt v ev_H) (ev_r u fun id => ev_at N B F top id fun cell => ev_uc cell fun kd fs => ev_b (Nat.beq kd q) (ev_get 7 fs (Nat.div v 4) fun x => ev_b (Nat.beq (Nat.mod x 4) 2) (go nx ls (x :: r) B F top) (ev_b (Nat.beq x 3) (go nx ls (x :: r) B F top) none)) none) none)
noncomputable def eo_ast (N nx q : Nat) : ev_I := fun _ go _ ls st B F top => ev_uc st fun x s0 => ev_uc s0 fun v s1 => ev_uc s1 fun u r => ev_i x (ev_i v (ev_b (Nat.blt v ev_H) (ev_r u fun id => ev_at N B F top id fun cell => ev_uc cell fun kd fs => ev_b (Nat.beq kd q) (ev_get 7 fs (Nat.div v 4) fun y => ev_b (Nat.beq y 7) none (ev_set x fs (Nat.div v 4) fun fs' => ev_put N B F top id (kd :: fs') fun B' F' => go nx ls r B' F' top)) none) none))
/-- bytes below 128 -/
noncomputable def eo_astb (N nx : Nat) : ev_I := fun call go pc ls st B F top => ev_uc st fun x _ => ev_b (Nat.blt x 512) (eo_ast N nx 1 call go pc ls st B F top) none
/-- a reference into an array of references -/
noncomputable def eo_astr (N nx q c : Nat) : ev_I := fun _ go _ ls st B F top => ev_uc st fun x s0 => ev_uc s0 fun v s1 => ev_uc s1 fun u r => ev_i v (ev_b (Nat.blt v ev_H) (ev_r x fun xd => ev_at N B F top xd fun cx => ev_uc cx fun kx _ => ev_b (Nat.beq kx (Nat.add 16 c)) (ev_r u fun id => ev_at N B F top id fun cell => ev_uc cell fun kd fs => ev_b (Nat.beq kd q) (ev_get 7 fs (Nat.div v 4) fun y => ev_b (Nat.beq y 7) none (ev_set x fs (Nat.div v 4) fun fs' => ev_put N B F top id (kd :: fs') fun B' F' => go nx ls r B' F' top)) none) none) none)
noncomputable def eo_len (N nx q : Nat) : ev_I := fun _ go _ ls st B F top => ev_uc st fun u r => ev_r u fun id => ev_at N B F top id fun cell => ev_uc cell fun kd fs => ev_b (Nat.beq kd q) (ev_len fs 0 fun n => ev_nf (Nat.mul 4 n) fun w => go nx ls (w :: r) B F top) none
/-- a new array of the kind q, of at most 4000 places, each v -/
noncomputable def eo_newa (nx q v : Nat) : ev_I := fun _ go _ ls st B F top => ev_uc st fun n r => ev_i n (ev_b (Nat.ble n 16000) (ev_nf (Nat.div n 4) fun m => ev_rep v m [] fun fs => ev_nf (Nat.add (Nat.mul 4 top) 2) fun w => ev_nf (Nat.succ top) fun top' => go nx ls (w :: r) B ((q :: fs) :: F) top') none)
noncomputable def eo_new (nx c : Nat) (fs : List Nat) : ev_I := fun _ go _ ls st B F top => ev_nf (Nat.add (Nat.mul 4 top) 2) fun w => ev_nf (Nat.succ top) fun top' => go nx ls (w :: st) B (((Nat.add 16 c) :: fs) :: F) top'
noncomputable def eo_dup (nx : Nat) : ev_I := fun _ go _ ls st B F top => ev_uc st fun u r => ev_b (Nat.beq (Nat.mod u 4) 1) none (go nx ls (u :: u :: r) B F top)
noncomputable def eo_dupx1 (nx : Nat) : ev_I := fun _ go _ ls st B F top => ev_uc st fun v s1 => ev_uc s1 fun u r => ev_b (Nat.beq (Nat.mod u 4) 1) none (ev_b (Nat.beq (Nat.mod v 4) 1) none (go nx ls (v :: u :: v :: r) B F top))
noncomputable def eo_dup2 (nx : Nat) : ev_I := fun _ go _ ls st B F top => ev_uc st fun v s1 => ev_uc s1 fun u r => ev_b (Nat.beq (Nat.mod u 4) 1) none (ev_b (Nat.beq (Nat.mod v 4) 1) none (go nx ls (v :: u :: v :: u :: r) B F top))
noncomputable def eo_pop (nx : Nat) : ev_I := fun _ go _ ls st B F top => ev_uc st fun u r => ev_b (Nat.beq (Nat.mod u 4) 1) none (go nx ls r B F top)
noncomputable def eo_no : ev_I := fun _ _ _ _ _ _ _ _ => none
noncomputable def eo_nop (nx : Nat) : ev_I := fun _ go _ ls st B F top => go nx ls st B F top
noncomputable def eo_ret : ev_I := fun _ _ pc ls st B F top => some (pc, ls, st, B, F, top)
noncomputable def ev_upto {α : Type} (n : Nat) (st : List Nat) (x : Option α) : Option α := @Nat.rec (fun _ => List Nat → Option α) (fun st => @List.rec Nat (fun _ => Option α) x (fun _ _ _ => none) st) (fun _ ih st => @List.rec Nat (fun _ => Option α) x (fun _ t _ => ih t) st) n st
/-- Object's constructor -/
noncomputable def eo_oinit (nx : Nat) : ev_I := fun _ go _ ls st B F top => ev_uc st fun u r => ev_r u fun _ => ev_upto 4 r (go nx ls r B F top)
noncomputable def ev_take {α : Type} (n : Nat) : List Nat → List Nat → (List Nat → List Nat → Option α) → Option α := @Nat.rec (fun _ => List Nat → List Nat → (List Nat → List Nat → Option α) → Option α) (fun st as k => k as st) (fun _ ih st as k => ev_uc st fun a r => ev_b (Nat.beq a 7) none (ih r (ev_b (Nat.beq (Nat.mod a 4) 1) (a :: 7 :: as) (a :: as)) k)) n
noncomputable def ev_app {α : Type} (t l : List Nat) : (List Nat → α) → α := @List.rec Nat (fun _ => (List Nat → α) → α) (fun k => k t) (fun a _ ih k => ih (fun r => k (a :: r))) l
/-- a call of the method mi with n values from the stack (the receiver among them, if there is one) -/
noncomputable def eo_call (nx mi n : Nat) : ev_I := fun call go _ ls st B F top => ev_take n st [] fun as r => ev_upto 4 r (@Option.rec ev_V (fun _ => Option ev_R) none (fun q => ev_app r q.1 fun st' => go nx ls st' q.2.1 q.2.2.1 q.2.2.2) (call mi as B F top))
/-- the receiver is of the class c -/
noncomputable def eo_callv (N nx mi n c : Nat) : ev_I := fun call go _ ls st B F top => ev_take n st [] fun as r => ev_uc as fun u _ => ev_r u fun id => ev_at N B F top id fun cell => ev_uc cell fun kd _ => ev_b (Nat.beq kd (Nat.add 16 c)) (ev_upto 4 r (@Option.rec ev_V (fun _ => Option ev_R) none (fun q => ev_app r q.1 fun st' => go nx ls st' q.2.1 q.2.2.1 q.2.2.2) (call mi as B F top))) none
noncomputable def ev_drop {α : Type} (l : List Nat) : Nat → (List Nat → α) → α := @List.rec Nat (fun _ => Nat → (List Nat → α) → α) (fun _ k => k []) (fun a t ih i k => @Nat.rec (fun _ => α) (k (a :: t)) (fun j _ => ih j k) i) l
/-- n places of src, each below 128, laid over dst -/
noncomputable def ev_lay {α : Type} (n : Nat) : List Nat → List Nat → (List Nat → Option α) → Option α := @Nat.rec (fun _ => List Nat → List Nat → (List Nat → Option α) → Option α) (fun _ dst k => k dst) (fun _ ih src dst k => ev_uc src fun a s' => ev_b (Nat.blt a 512) (ev_uc dst fun _ d' => ih s' d' (fun t => k (a :: t))) none) n
noncomputable def ev_over {α : Type} (n : Nat) (src : List Nat) (dst : List Nat) : Nat → (List Nat → Option α) → Option α := @List.rec Nat (fun _ => Nat → (List Nat → Option α) → Option α) (fun i k => @Nat.rec (fun _ => Option α) (ev_lay n src [] k) (fun _ _ => none) i) (fun a t ih i k => @Nat.rec (fun _ => Option α) (ev_lay n src (a :: t) k) (fun j _ => ih j (fun t' => k (a :: t'))) i) dst
/-- System.arraycopy of bytes between two different arrays -/
noncomputable def eo_acopy (N nx : Nat) : ev_I := fun _ go _ ls st B F top => ev_uc st fun n s1 => ev_uc s1 fun dp s2 => ev_uc s2 fun d s3 => ev_uc s3 fun sp s4 => ev_uc s4 fun u r => ev_i n (ev_i dp (ev_i sp (ev_b (Nat.blt n ev_H) (ev_b (Nat.blt dp ev_H) (ev_b (Nat.blt sp ev_H) (ev_b (Nat.ble sp (Nat.mul 1000000 n)) (ev_upto 4 r (ev_r d fun di => ev_r u fun si => ev_b (Nat.beq di si) none (ev_at N B F top si fun cs => ev_at N B F top di fun cd => ev_uc cs fun k1 fs => ev_uc cd fun k2 fd => ev_b (Nat.beq k1 1) (ev_b (Nat.beq k2 1) (ev_drop fs (Nat.div sp 4) fun src => ev_over (Nat.div n 4) src fd (Nat.div dp 4) fun fd' => ev_put N B F top di (1 :: fd') fun B' F' => go nx ls r B' F' top) none) none))) none) none) none) none)))
/-- a copy of an array of ints -/
noncomputable def eo_clone (N nx q : Nat) : ev_I := fun _ go _ ls st B F top => ev_uc st fun u r => ev_upto 4 r (ev_r u fun id => ev_at N B F top id fun cell => ev_uc cell fun kd fs => ev_b (Nat.beq kd q) (ev_len fs 0 fun n => ev_b (Nat.ble n 4000) (ev_nf (Nat.add (Nat.mul 4 top) 2) fun w => ev_nf (Nat.succ top) fun top' => go nx ls (w :: r) B (cell :: F) top') none) none)
/-- a cast of an array of the kind q -/
noncomputable def eo_cast (N nx q : Nat) : ev_I := fun _ go _ ls st B F top => ev_uc st fun u r => ev_r u fun id => ev_at N B F top id fun cell => ev_uc cell fun kd _ => ev_b (Nat.beq kd q) (go nx ls (u :: r) B F top) none
/-- four new rows of rk ints, and the array over them -/
noncomputable def eo_mna (nx rk : Nat) : ev_I := fun _ go _ ls st B F top => ev_uc st fun k s1 => ev_uc s1 fun n r => ev_b (Nat.beq k (Nat.mul 4 rk)) (ev_b (Nat.beq n 16) (ev_rep 0 rk [] fun fs => ev_nf (Nat.add (Nat.mul 4 top) 2) fun w => ev_nf (Nat.add w 4) fun w1 => ev_nf (Nat.add w 8) fun w2 => ev_nf (Nat.add w 12) fun w3 => ev_nf (Nat.add w 16) fun w4 => ev_nf (Nat.add top 5) fun top' => go nx ls (w :: r) B ((0 :: fs) :: (0 :: fs) :: (0 :: fs) :: (0 :: fs) :: [4, w1, w2, w3, w4] :: F) top') none) none
noncomputable def eo_pop2 (nx : Nat) : ev_I := fun _ go _ ls st B F top => ev_uc st fun u r => ev_l u (go nx ls r B F top)
-- ===== the loop and the calls =====
/-- found without what follows, so that the kernel remembers it -/
noncomputable def ev_look (code : List (List ev_I)) (pc : Nat) : Option ev_I := @List.rec (List ev_I) (fun _ => Nat → Option ev_I) (fun _ => none) (fun a _ ih i => @Nat.rec (fun _ => Option ev_I) (@List.rec ev_I (fun _ => Nat → Option ev_I) (fun _ => none) (fun f _ ih2 j => @Nat.rec (fun _ => Option ev_I) (some f) (fun j' _ => ih2 j') j) a (Nat.mod pc 16)) (fun j _ => ih j) i) code (Nat.div pc 16)
noncomputable def ev_fetch (code : List (List ev_I)) (pc : Nat) (k : ev_I → Option ev_R) : Option ev_R := @Option.rec ev_I (fun _ => Option ev_R) none k (ev_look code pc)
noncomputable def ev_loop (code : List (List ev_I)) (stop : Nat) (call : ev_C) (f : Nat) : ev_G := @Nat.rec (fun _ => ev_G) (fun _ _ _ _ _ _ => none) (fun _ go pc ls st B F top => ev_fetch code pc fun ins => ins call (fun pc' ls' st' B' F' top' => ev_nf pc' fun q => ev_b (Nat.beq q stop) (some (q, ls', st', B', F', top')) (go q ls' st' B' F' top')) pc ls st B F top) f
/-- a method: its code, how many locals, what it tells: 0 nothing, 1 an int, 2 a truth, 3 a byte or char, 4 a long, 5 a reference -/
abbrev ev_P : Type := List (List ev_I) × Nat × Nat
noncomputable def ev_mlook (tab : List ev_P) : Nat → Option ev_P := @List.rec ev_P (fun _ => Nat → Option ev_P) (fun _ => none) (fun a _ ih i => @Nat.rec (fun _ => Option ev_P) (some a) (fun j _ => ih j) i) tab
noncomputable def ev_meth {α : Type} (tab : List ev_P) (i : Nat) (k : ev_P → Option α) : Option α := @Option.rec ev_P (fun _ => Option α) none k (ev_mlook tab i)
noncomputable def ev_pad {α : Type} (n : Nat) : List Nat → (List Nat → Option α) → Option α := @Nat.rec (fun _ => List Nat → (List Nat → Option α) → Option α) (fun l k => @List.rec Nat (fun _ => Option α) (k []) (fun _ _ _ => none) l) (fun _ ih l k => @List.rec Nat (fun _ => Option α) (ih [] (fun t => k (7 :: t))) (fun a t _ => ih t (fun t' => k (a :: t'))) l) n
def ev_fuel : Nat := 100000
noncomputable def ev_nil {α β : Type} (l : List β) (x : Option α) : Option α := @List.rec β (fun _ => Option α) x (fun _ _ _ => none) l
noncomputable def ev_tell {α : Type} (kind : Nat) (st : List Nat) (k : List Nat → Option α) : Option α := ev_b (Nat.beq kind 0) (ev_nil st (k [])) (ev_uc st fun v t => ev_nil t (ev_b (Nat.beq kind 1) (ev_i v (k [v])) (ev_b (Nat.beq kind 2) (ev_i v (ev_b (Nat.ble v 4) (k [v]) none)) (ev_b (Nat.beq kind 3) (ev_i v (ev_b (Nat.blt v 512) (k [v]) none)) (ev_b (Nat.beq kind 4) (ev_l v (k [v])) (ev_b (Nat.beq (Nat.mod v 4) 2) (k [v]) (ev_b (Nat.beq v 3) (k [v]) none)))))))
noncomputable def ev_run (tab : List ev_P) (d : Nat) : ev_C := @Nat.rec (fun _ => ev_C) (fun _ _ _ _ _ => none) (fun _ call mi as B F top => ev_meth tab mi fun q => ev_pad q.2.1 as fun ls => @Option.rec ev_R (fun _ => Option ev_V) none (fun r => ev_b (Nat.beq r.1 99999) none (ev_tell q.2.2 r.2.2.1 fun l => some (l, r.2.2.2.1, r.2.2.2.2.1, r.2.2.2.2.2))) (ev_loop q.1 99999 call ev_fuel 0 ls [] B F top)) d
