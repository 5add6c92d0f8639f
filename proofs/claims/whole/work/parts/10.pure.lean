/-! THE PURE MACHINE. A value: an int, a long, or a reference (null, or the object i of the family f). The memory: ints, longs, references by family, object, place; how many of the planned cells are made; how many exceptions were made. Locals by place. An end: a return, or an exception's number. -/
abbrev pm_V : Type := Int32 ⊕ (Int64 ⊕ Option (Nat × Nat))
abbrev pm_i (x : Int32) : pm_V := Sum.inl x
abbrev pm_l (x : Int64) : pm_V := Sum.inr (Sum.inl x)
abbrev pm_a (q : Option (Nat × Nat)) : pm_V := Sum.inr (Sum.inr q)
abbrev pm_r (f i : Nat) : pm_V := Sum.inr (Sum.inr (some (f, i)))
abbrev pm_M : Type := (Nat → Nat → Nat → Int32) × (Nat → Nat → Nat → Int64) × (Nat → Nat → Nat → Option (Nat × Nat)) × Nat × Nat
abbrev pm_L : Type := List (Option pm_V)
abbrev pm_O : Type := Option pm_V ⊕ Nat
abbrev pm_R : Type := Option (pm_O × pm_M)
def pm_cat : pm_V → Nat
  | .inr (.inl _) => 2
  | _ => 1
def pm_c (n : Int) : Int32 := match n with
  | .ofNat k => nI k
  | .negSucc k => - nI (k + 1)
def pm_u {α : Type} (F : Nat → Nat → Nat → α) (f i k : Nat) (v : α) : Nat → Nat → Nat → α := fun f' i' k' => if f' = f ∧ i' = i ∧ k' = k then v else F f' i' k'
def pm_z {α : Type} (F : Nat → Nat → Nat → α) (f i : Nat) (v : α) : Nat → Nat → Nat → α := fun f' i' k' => if f' = f ∧ i' = i then v else F f' i' k'
/-- a cell is made: all its places are zero -/
def pm_new (M : pm_M) (q : Nat × Nat) : pm_M := (pm_z M.1 q.1 q.2 0, pm_z M.2.1 q.1 q.2 0, pm_z M.2.2.1 q.1 q.2 none, M.2.2.2.1 + 1, M.2.2.2.2)
def pm_ok (M : pm_M) (f i : Nat) : Bool := decide (i < pm_cnt f) && (f == 99 || (M.2.2.2.1 == pm_tot || decide (pm_pidx f i < M.2.2.2.1)))
def pm_g (M : pm_M) (f i : Nat) (a : pm_R) : pm_R := if pm_ok M f i = true then a else none
def pm_i1 (S : List pm_V) (g : Int32 → List pm_V → pm_R) : pm_R := match S with
  | .inl x :: r => g x r
  | _ => none
def pm_i2 (S : List pm_V) (g : Int32 → Int32 → List pm_V → pm_R) : pm_R := match S with
  | .inl y :: .inl x :: r => g x y r
  | _ => none
def pm_l1 (S : List pm_V) (g : Int64 → List pm_V → pm_R) : pm_R := match S with
  | .inr (.inl x) :: r => g x r
  | _ => none
def pm_l2 (S : List pm_V) (g : Int64 → Int64 → List pm_V → pm_R) : pm_R := match S with
  | .inr (.inl y) :: .inr (.inl x) :: r => g x y r
  | _ => none
def pm_li (S : List pm_V) (g : Int64 → Int32 → List pm_V → pm_R) : pm_R := match S with
  | .inl y :: .inr (.inl x) :: r => g x y r
  | _ => none
def pm_a1 (S : List pm_V) (g : Option (Nat × Nat) → List pm_V → pm_R) : pm_R := match S with
  | .inr (.inr q) :: r => g q r
  | _ => none
def pm_r1 (M : pm_M) (S : List pm_V) (g : Nat → Nat → List pm_V → pm_R) : pm_R := match S with
  | .inr (.inr (some (f, i))) :: r => pm_g M f i (g f i r)
  | _ => none
def pm_ir (M : pm_M) (S : List pm_V) (g : Int32 → Nat → Nat → List pm_V → pm_R) : pm_R := match S with
  | .inl x :: .inr (.inr (some (f, i))) :: r => pm_g M f i (g x f i r)
  | _ => none
def pm_vr (M : pm_M) (S : List pm_V) (g : pm_V → Nat → Nat → List pm_V → pm_R) : pm_R := match S with
  | v :: .inr (.inr (some (f, i))) :: r => pm_g M f i (g v f i r)
  | _ => none
def pm_vir (M : pm_M) (S : List pm_V) (g : pm_V → Int32 → Nat → Nat → List pm_V → pm_R) : pm_R := match S with
  | v :: .inl x :: .inr (.inr (some (f, i))) :: r => pm_g M f i (g v x f i r)
  | _ => none
def pm_ix (x : Int32) (n : Nat) (g : Nat → pm_R) : pm_R := if x < 0 ∨ n ≤ x.toNatClampNeg then none else g x.toNatClampNeg
def pm_j (pc : Nat) (off : Int) (g : Nat → pm_R) : pm_R := match (pc : Int) + off with
  | .ofNat t => g t
  | .negSucc _ => none
def pm_cmp (cd : Jvm.ClassFile.Cond) (x y : Int32) (a b : pm_R) : pm_R := match cd with
  | .eq => if x = y then a else b
  | .ne => if x = y then b else a
  | .lt => if x < y then a else b
  | .ge => if y ≤ x then a else b
  | .gt => if y < x then a else b
  | .le => if x ≤ y then a else b
def pm_ldi (L : pm_L) (i : Nat) (g : Int32 → pm_R) : pm_R := match L[i]? with
  | some (some (.inl x)) => g x
  | _ => none
def pm_ldl (L : pm_L) (i : Nat) (g : Int64 → pm_R) : pm_R := match L[i]? with
  | some (some (.inr (.inl x))) => g x
  | _ => none
def pm_lda (L : pm_L) (i : Nat) (g : Option (Nat × Nat) → pm_R) : pm_R := match L[i]? with
  | some (some (.inr (.inr q))) => g q
  | _ => none
/-- no long stands in the place before -/
def pm_pre (L : pm_L) (i : Nat) : Bool := match i with
  | 0 => true
  | j + 1 => match L[j]? with
    | some (some (.inr (.inl _))) => false
    | _ => true
def pm_st (L : pm_L) (i : Nat) (v : pm_V) (g : pm_L → pm_R) : pm_R := if i < L.length ∧ pm_pre L i = true then g (L.set i (some v)) else none
def pm_sti (L : pm_L) (S : List pm_V) (i : Nat) (g : pm_L → List pm_V → pm_R) : pm_R := pm_i1 S fun x r => pm_st L i (pm_i x) fun L' => g L' r
def pm_sta (L : pm_L) (S : List pm_V) (i : Nat) (g : pm_L → List pm_V → pm_R) : pm_R := pm_a1 S fun q r => pm_st L i (pm_a q) fun L' => g L' r
/-- a switch: the rows from lo on, then the default -/
def pm_sw (x : Int) (lo : Int) (offs : List Int) (d : Int) (g : Int → pm_R) : pm_R := match offs with
  | [] => g d
  | o :: r => if x = lo then g o else pm_sw x (lo + 1) r d g
/-- an int that a boolean place can hold -/
def pm_bo (x : Int32) (a : pm_R) : pm_R := if x = 0 ∨ x = 1 then a else none
def pm_gf (ns : Nat) (M : pm_M) (q : Nat × Nat × Nat × Bool) (f i : Nat) (g : pm_V → pm_R) : pm_R := match pm_shp ns f with
  | (0, cj, _) => if q.1 = cj then (match q.2.2.1 with
    | 1 => g (pm_l (M.2.1 f i q.2.1))
    | 2 => g (pm_a (M.2.2.1 f i q.2.1))
    | _ => g (pm_i (M.1 f i q.2.1))) else none
  | _ => none
def pm_pf (ns : Nat) (ini : Bool) (M : pm_M) (q : Nat × Nat × Nat × Bool) (v : pm_V) (f i : Nat) (g : pm_M → pm_R) : pm_R := match pm_shp ns f with
  | (0, cj, _) => if q.1 = cj ∧ (q.2.2.2 = true → ini = true) then (match q.2.2.1, v with
    | 0, .inl x => g (pm_u M.1 f i q.2.1 x, M.2)
    | 3, .inl x => pm_bo x (g (pm_u M.1 f i q.2.1 x, M.2))
    | 1, .inr (.inl x) => g (M.1, pm_u M.2.1 f i q.2.1 x, M.2.2)
    | 2, .inr (.inr x) => g (M.1, M.2.1, pm_u M.2.2.1 f i q.2.1 x, M.2.2.2)
    | _, _ => none) else none
  | _ => none
/-- the length of an array of the kind t -/
def pm_ar (ns t f : Nat) (g : Nat → pm_R) : pm_R := match pm_shp ns f with
  | (t', n, _) => if t' = t ∧ f ≠ 99 then g n else none
def pm_ari (ns f : Nat) (g : Nat → pm_R) : pm_R := match pm_shp ns f with
  | (1, n, _) => g n
  | _ => none
/-- a planned cell of the kind (t, n, cs) is made -/
def pm_mk (ns : Nat) (M : pm_M) (t n : Nat) (b : List Nat → Bool) (g : Nat → Nat → pm_M → pm_R) : pm_R :=
  if M.2.2.2.1 < pm_tot then (match pm_shp ns (pm_plan M.2.2.2.1).1 with
    | (t', n', c') => if t' = t ∧ n' = n ∧ b c' = true then g (pm_plan M.2.2.2.1).1 (pm_plan M.2.2.2.1).2 (pm_new M (pm_plan M.2.2.2.1)) else none) else none
/-- the row of the table that takes the exception x at pc, and what stands behind its handler's first instruction -/
def pm_hd (hs : List (Nat × Nat × Nat × Nat)) (pc x : Nat) : Option Nat := match hs with
  | [] => none
  | h :: r => if h.1 ≤ pc ∧ pc < h.2.1 ∧ h.2.2.2 = x then some h.2.2.1 else pm_hd r pc x
def pm_ct (mi : Nat) (k : Nat → pm_L → List pm_V → pm_M → pm_R) (pc x : Nat) (L : pm_L) (M : pm_M) : pm_R := match pm_hd (pm_hnd mi) pc x with
  | none => if pm_hnd mi = [] then some (Sum.inr x, M) else none
  | some h => match pm_tbl mi h with
    | some (.astore_n j, 1) => if (j : Nat) < L.length ∧ pm_pre L j = true then k (h + 1) (L.set j none) [] M else none
    | some (.astore j, 2) => if j < L.length ∧ pm_pre L j = true then k (h + 2) (L.set j none) [] M else none
    | _ => none
/-- the receiver of a call: an object of the class that has the method -/
def pm_rc (ns : Nat) (M : pm_M) (cl : Nat) (a : List pm_V) (g : pm_R) : pm_R := match a with
  | .inr (.inr (some (f, i))) :: _ => pm_g M f i (match pm_shp ns f with
    | (0, cj, _) => if cl = cj then g else none
    | _ => none)
  | _ => none
def pm_cl (call : Nat → List pm_V → pm_M → pm_R) (mi : Nat) (k : Nat → pm_L → List pm_V → pm_M → pm_R) (pc mj : Nat) (a r : List pm_V) (L : pm_L) (M : pm_M) : pm_R := match call mj a M with
  | some (.inl v, M') => k (pc + 3) L (v.toList ++ r) M'
  | some (.inr x, M') => pm_ct mi k pc x L M'
  | none => none
/-- by which instruction a kind is called: 0 static, 1 virtual, 2 special -/
def pm_kop : Nat → Nat
  | 0 => 0
  | 1 => 1
  | 4 => 0
  | _ => 2
def pm_inv (call : Nat → List pm_V → pm_M → pm_R) (ns mi : Nat) (k : Nat → pm_L → List pm_V → pm_M → pm_R) (op idx pc : Nat) (L : pm_L) (S : List pm_V) (M : pm_M) : pm_R := match pm_mth (pm_own mi) idx with
  | some (mj, na, kd) => if pm_kop kd = op then (match kd with
      | 3 => pm_r1 M S fun _ _ r => if (r.map pm_cat).sum ≤ 8 then k (pc + 3) L r M else none
      | 4 => pm_i2 S fun x y r => if (r.map pm_cat).sum ≤ 8 then k (pc + 3) L (pm_i (if y < x then y else x) :: r) M else none
      | 0 => if na ≤ S.length ∧ ((S.drop na).map pm_cat).sum ≤ 8 then pm_cl call mi k pc mj (S.take na).reverse (S.drop na) L M else none
      | _ => if na ≤ S.length ∧ ((S.drop na).map pm_cat).sum ≤ 8 then pm_rc ns M (pm_mcl mj) (S.take na).reverse (pm_cl call mi k pc mj (S.take na).reverse (S.drop na) L M) else none) else none
  | none => none
/-- 'throw new E()': the four instructions at once -/
def pm_th (dd mi pc x : Nat) (S : List pm_V) (M : pm_M) : pm_R :=
  if 6 ≤ dd ∧ S.length = 0 ∧ M.2.2.2.1 = pm_tot ∧ M.2.2.2.2 < 600 ∧ pm_tbl mi (pc + 3) = some (.dup, 1) ∧ pm_tbl mi (pc + 4) = some (.invokespecial (pm_exi (pm_own mi) x), 3) ∧ pm_tbl mi (pc + 7) = some (.athrow, 1) ∧ pm_hnd mi = [] then some (Sum.inr x, (M.1, M.2.1, M.2.2.1, M.2.2.2.1, M.2.2.2.2 + 1)) else none
def pm_nw (ns dd mi : Nat) (k : Nat → pm_L → List pm_V → pm_M → pm_R) (idx pc : Nat) (L : pm_L) (S : List pm_V) (M : pm_M) : pm_R := match pm_cls (pm_own mi) idx with
  | some (.inl ci) => pm_mk ns M 0 ci (fun _ => true) fun f i M' => k (pc + 3) L (pm_r f i :: S) M'
  | some (.inr x) => pm_th dd mi pc x S M
  | none => none
def pm_na (ns : Nat) (k : Nat → pm_L → List pm_V → pm_M → pm_R) (t w pc : Nat) (b : List Nat → Bool) (L : pm_L) (S : List pm_V) (M : pm_M) : pm_R :=
  pm_i1 S fun x r => if ¬ x < 0 then pm_mk ns M t x.toNatClampNeg b fun f i M' => k (pc + w) L (pm_r f i :: r) M' else none
def pm_step (call : Nat → List pm_V → pm_M → pm_R) (ns dd mi : Nat) (k : Nat → pm_L → List pm_V → pm_M → pm_R) (ins : Instr) (pc : Nat) (L : pm_L) (S : List pm_V) (M : pm_M) : pm_R := match ins with
  | .iconst n => k (pc + 1) L (pm_i (pm_c n) :: S) M
  | .bipush n => if -128 ≤ n ∧ n ≤ 127 then k (pc + 2) L (pm_i (pm_c n) :: S) M else none
  | .sipush n => if -32768 ≤ n ∧ n ≤ 32767 then k (pc + 3) L (pm_i (pm_c n) :: S) M else none
  | .lconst n => k (pc + 1) L (pm_l (Int64.ofNat n) :: S) M
  | .ldc2_w idx => (match pm_lng (pm_own mi) idx with
    | some v => k (pc + 3) L (pm_l v :: S) M
    | none => none)
  | .aconst_null => k (pc + 1) L (pm_a none :: S) M
  | .iload_n j => pm_ldi L j fun x => k (pc + 1) L (pm_i x :: S) M
  | .iload j => pm_ldi L j fun x => k (pc + 2) L (pm_i x :: S) M
  | .lload_n j => pm_ldl L j fun x => k (pc + 1) L (pm_l x :: S) M
  | .lload j => pm_ldl L j fun x => k (pc + 2) L (pm_l x :: S) M
  | .aload_n j => pm_lda L j fun q => k (pc + 1) L (pm_a q :: S) M
  | .aload j => pm_lda L j fun q => k (pc + 2) L (pm_a q :: S) M
  | .istore_n j => pm_sti L S j fun L' r => k (pc + 1) L' r M
  | .istore j => pm_sti L S j fun L' r => k (pc + 2) L' r M
  | .astore_n j => pm_sta L S j fun L' r => k (pc + 1) L' r M
  | .astore j => pm_sta L S j fun L' r => k (pc + 2) L' r M
  | .iinc j n => pm_ldi L j fun x => pm_st L j (pm_i (x + pm_c n)) fun L' => k (pc + 3) L' S M
  | .iadd => pm_i2 S fun x y r => k (pc + 1) L (pm_i (x + y) :: r) M
  | .isub => pm_i2 S fun x y r => k (pc + 1) L (pm_i (x - y) :: r) M
  | .imul => pm_i2 S fun x y r => k (pc + 1) L (pm_i (x * y) :: r) M
  | .idiv => pm_i2 S fun x y r => if y = 0 then none else k (pc + 1) L (pm_i (x / y) :: r) M
  | .irem => pm_i2 S fun x y r => if y = 0 then none else k (pc + 1) L (pm_i (x - x / y * y) :: r) M
  | .iand => pm_i2 S fun x y r => k (pc + 1) L (pm_i (x &&& y) :: r) M
  | .ior => pm_i2 S fun x y r => k (pc + 1) L (pm_i (x ||| y) :: r) M
  | .ixor => pm_i2 S fun x y r => k (pc + 1) L (pm_i (x ^^^ y) :: r) M
  | .ishl => pm_i2 S fun x y r => k (pc + 1) L (pm_i (x <<< (y &&& 31)) :: r) M
  | .ishr => pm_i2 S fun x y r => k (pc + 1) L (pm_i (x >>> (y &&& 31)) :: r) M
  | .i2l => pm_i1 S fun x r => k (pc + 1) L (pm_l x.toInt64 :: r) M
  | .l2i => pm_l1 S fun x r => k (pc + 1) L (pm_i x.toInt32 :: r) M
  | .land => pm_l2 S fun x y r => k (pc + 1) L (pm_l (x &&& y) :: r) M
  | .lor => pm_l2 S fun x y r => k (pc + 1) L (pm_l (x ||| y) :: r) M
  | .lcmp => pm_l2 S fun x y r => k (pc + 1) L (pm_i (lg_cmp x y) :: r) M
  | .lshl => pm_li S fun x y r => k (pc + 1) L (pm_l (x <<< (y.toInt64 &&& 63)) :: r) M
  | .lshr => pm_li S fun x y r => k (pc + 1) L (pm_l (x >>> (y.toInt64 &&& 63)) :: r) M
  | .lushr => pm_li S fun x y r => k (pc + 1) L (pm_l (x.toUInt64 >>> (y.toInt64.toUInt64 &&& Int64.toUInt64 63)).toInt64 :: r) M
  | .dup => (match S with
    | v :: r => if pm_cat v = 1 then k (pc + 1) L (v :: v :: r) M else none
    | _ => none)
  | .dup2 => (match S with
    | v :: w :: r => if pm_cat v = 1 ∧ pm_cat w = 1 then k (pc + 1) L (v :: w :: v :: w :: r) M else none
    | _ => none)
  | .pop => (match S with
    | v :: r => if pm_cat v = 1 then k (pc + 1) L r M else none
    | _ => none)
  | .if_icmp cd off => pm_i2 S fun x y r => pm_j pc off fun t => pm_cmp cd x y (k t L r M) (k (pc + 3) L r M)
  | .ifCond cd off => pm_i1 S fun x r => pm_j pc off fun t => pm_cmp cd x 0 (k t L r M) (k (pc + 3) L r M)
  | .ifnull off => pm_a1 S fun q r => (match q with
    | none => pm_j pc off fun t => k t L r M
    | some _ => k (pc + 3) L r M)
  | .ifnonnull off => pm_a1 S fun q r => (match q with
    | some _ => pm_j pc off fun t => k t L r M
    | none => k (pc + 3) L r M)
  | .goto off => pm_j pc off fun t => k t L S M
  | .tableswitch d lo hi offs => pm_i1 S fun x r => if hi + 1 = lo + offs.toList.length then pm_sw x.toInt lo offs.toList d fun o => pm_j pc o fun t => k t L r M else none
  | .getfield idx => (match pm_fld (pm_own mi) idx with
    | some q => pm_r1 M S fun f i r => pm_gf ns M q f i fun v => k (pc + 3) L (v :: r) M
    | none => none)
  | .putfield idx => (match pm_fld (pm_own mi) idx with
    | some q => pm_vr M S fun v f i r => pm_pf ns (pm_ini mi && pm_own mi == q.1) M q v f i fun M' => k (pc + 3) L r M'
    | none => none)
  | .iaload => pm_ir M S fun x f i r => pm_ari ns f fun n => pm_ix x n fun j => k (pc + 1) L (pm_i (M.1 f i j) :: r) M
  | .baload => pm_ir M S fun x f i r => pm_ar ns 2 f fun n => pm_ix x n fun j => k (pc + 1) L (pm_i (M.1 f i j) :: r) M
  | .laload => pm_ir M S fun x f i r => pm_ar ns 3 f fun n => pm_ix x n fun j => k (pc + 1) L (pm_l (M.2.1 f i j) :: r) M
  | .aaload => pm_ir M S fun x f i r => pm_ar ns 4 f fun n => pm_ix x n fun j => k (pc + 1) L (pm_a (M.2.2.1 f i j) :: r) M
  | .iastore => pm_vir M S fun v x f i r => pm_ar ns 1 f fun n => pm_ix x n fun j => (match v with
    | .inl y => k (pc + 1) L r (pm_u M.1 f i j y, M.2)
    | _ => none)
  | .bastore => pm_vir M S fun v x f i r => pm_ar ns 2 f fun n => pm_ix x n fun j => (match v with
    | .inl y => pm_bo y (k (pc + 1) L r (pm_u M.1 f i j y, M.2))
    | _ => none)
  | .lastore => pm_vir M S fun v x f i r => pm_ar ns 3 f fun n => pm_ix x n fun j => (match v with
    | .inr (.inl y) => k (pc + 1) L r (M.1, pm_u M.2.1 f i j y, M.2.2)
    | _ => none)
  | .aastore => pm_vir M S fun v x f i r => pm_ar ns 4 f fun n => pm_ix x n fun j => (match v with
    | .inr (.inr (some q)) => pm_g M q.1 q.2 (match pm_shp ns q.1, pm_shp ns f with
      | (0, cj, _), (_, _, [ck]) => if cj = ck then k (pc + 1) L r (M.1, M.2.1, pm_u M.2.2.1 f i j (some q), M.2.2.2) else none
      | _, _ => none)
    | _ => none)
  | .arraylength => pm_r1 M S fun f _ r => pm_ari ns f fun n => k (pc + 1) L (pm_i (nI n) :: r) M
  | .new idx => pm_nw ns dd mi k idx pc L S M
  | .newarray ty => (match ty with
    | .int => pm_na ns k 1 2 pc (fun _ => true) L S M
    | .boolean => pm_na ns k 2 2 pc (fun _ => true) L S M
    | .long => pm_na ns k 3 2 pc (fun _ => true) L S M
    | _ => none)
  | .anewarray idx => (match pm_cls (pm_own mi) idx with
    | some (.inl ci) => pm_na ns k 4 3 pc (fun c => c == [ci]) L S M
    | _ => none)
  | .invokestatic idx => pm_inv call ns mi k 0 idx pc L S M
  | .invokevirtual idx => pm_inv call ns mi k 1 idx pc L S M
  | .invokespecial idx => pm_inv call ns mi k 2 idx pc L S M
  | .ireturn => (match S with
    | [.inl x] => (match pm_ret mi with
      | 0 => some (Sum.inl (some (pm_i x)), M)
      | 3 => pm_bo x (some (Sum.inl (some (pm_i x)), M))
      | _ => none)
    | _ => none)
  | .areturn => (match S with
    | [.inr (.inr q)] => if pm_ret mi = 2 then some (Sum.inl (some (pm_a q)), M) else none
    | _ => none)
  | .return_ => (match S with
    | [] => if pm_ret mi = 1 then some (Sum.inl none, M) else none
    | _ => none)
  | _ => none
def pm_go (call : Nat → List pm_V → pm_M → pm_R) (ns dd mi : Nat) : Nat → Nat → pm_L → List pm_V → pm_M → pm_R
  | 0, _, _, _, _ => none
  | n + 1, pc, L, S, M => match pm_tbl mi pc with
    | some (ins, _) => pm_step call ns dd mi (pm_go call ns dd mi n) ins pc L S M
    | none => none
/-- the locals at a method's entry -/
def pm_ent : List pm_V → pm_L
  | [] => []
  | v :: r => if pm_cat v = 2 then some v :: none :: pm_ent r else some v :: pm_ent r
def pm_call (fu ns : Nat) : Nat → Nat → List pm_V → pm_M → pm_R
  | 0, _, _, _ => none
  | d + 1, mi, a, M => if mi < 146 ∧ (pm_ent a).length ≤ pm_maxL mi then pm_go (pm_call fu ns d) ns d mi fu 0 (pm_ent a ++ List.replicate (pm_maxL mi - (pm_ent a).length) none) [] M else none
