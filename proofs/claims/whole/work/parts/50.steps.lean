/-! each instruction of the pure machine is one of the machine -/
theorem pm_i1_inv {S : List pm_V} {f : Int32 → List pm_V → pm_R} {r : pm_O × pm_M} (h : pm_i1 S f = some r) : ∃ x t, S = pm_i x :: t ∧ f x t = some r := by
  unfold pm_i1 at h
  split at h
  · exact ⟨_, _, rfl, h⟩
  · cases h
theorem pm_i2_inv {S : List pm_V} {f : Int32 → Int32 → List pm_V → pm_R} {r : pm_O × pm_M} (h : pm_i2 S f = some r) : ∃ x y t, S = pm_i y :: pm_i x :: t ∧ f x y t = some r := by
  unfold pm_i2 at h
  split at h
  · exact ⟨_, _, _, rfl, h⟩
  · cases h
theorem pm_l1_inv {S : List pm_V} {f : Int64 → List pm_V → pm_R} {r : pm_O × pm_M} (h : pm_l1 S f = some r) : ∃ x t, S = pm_l x :: t ∧ f x t = some r := by
  unfold pm_l1 at h
  split at h
  · exact ⟨_, _, rfl, h⟩
  · cases h
theorem pm_l2_inv {S : List pm_V} {f : Int64 → Int64 → List pm_V → pm_R} {r : pm_O × pm_M} (h : pm_l2 S f = some r) : ∃ x y t, S = pm_l y :: pm_l x :: t ∧ f x y t = some r := by
  unfold pm_l2 at h
  split at h
  · exact ⟨_, _, _, rfl, h⟩
  · cases h
theorem pm_li_inv {S : List pm_V} {f : Int64 → Int32 → List pm_V → pm_R} {r : pm_O × pm_M} (h : pm_li S f = some r) : ∃ x y t, S = pm_i y :: pm_l x :: t ∧ f x y t = some r := by
  unfold pm_li at h
  split at h
  · exact ⟨_, _, _, rfl, h⟩
  · cases h
theorem pm_a1_inv {S : List pm_V} {f : Option (Nat × Nat) → List pm_V → pm_R} {r : pm_O × pm_M} (h : pm_a1 S f = some r) : ∃ q t, S = pm_a q :: t ∧ f q t = some r := by
  unfold pm_a1 at h
  split at h
  · exact ⟨_, _, rfl, h⟩
  · cases h
theorem pm_g_inv {M : pm_M} {f i : Nat} {a : pm_R} {r : pm_O × pm_M} (h : pm_g M f i a = some r) : pm_ok M f i = true ∧ a = some r := by
  unfold pm_g at h
  split at h
  · exact ⟨by assumption, h⟩
  · cases h
theorem pm_r1_inv {M : pm_M} {S : List pm_V} {f : Nat → Nat → List pm_V → pm_R} {r : pm_O × pm_M} (h : pm_r1 M S f = some r) : ∃ a i t, S = pm_r a i :: t ∧ pm_ok M a i = true ∧ f a i t = some r := by
  unfold pm_r1 at h
  split at h
  · exact ⟨_, _, _, rfl, pm_g_inv h⟩
  · cases h
theorem pm_ir_inv {M : pm_M} {S : List pm_V} {f : Int32 → Nat → Nat → List pm_V → pm_R} {r : pm_O × pm_M} (h : pm_ir M S f = some r) : ∃ x a i t, S = pm_i x :: pm_r a i :: t ∧ pm_ok M a i = true ∧ f x a i t = some r := by
  unfold pm_ir at h
  split at h
  · exact ⟨_, _, _, _, rfl, pm_g_inv h⟩
  · cases h
theorem pm_vr_inv {M : pm_M} {S : List pm_V} {f : pm_V → Nat → Nat → List pm_V → pm_R} {r : pm_O × pm_M} (h : pm_vr M S f = some r) : ∃ v a i t, S = v :: pm_r a i :: t ∧ pm_ok M a i = true ∧ f v a i t = some r := by
  unfold pm_vr at h
  split at h
  · exact ⟨_, _, _, _, rfl, pm_g_inv h⟩
  · cases h
theorem pm_vir_inv {M : pm_M} {S : List pm_V} {f : pm_V → Int32 → Nat → Nat → List pm_V → pm_R} {r : pm_O × pm_M} (h : pm_vir M S f = some r) : ∃ v x a i t, S = v :: pm_i x :: pm_r a i :: t ∧ pm_ok M a i = true ∧ f v x a i t = some r := by
  unfold pm_vir at h
  split at h
  · exact ⟨_, _, _, _, _, rfl, pm_g_inv h⟩
  · cases h
theorem pm_ix_inv {x : Int32} {n : Nat} {f : Nat → pm_R} {r : pm_O × pm_M} (h : pm_ix x n f = some r) : vp_in x n ∧ x.toNatClampNeg < n ∧ f x.toNatClampNeg = some r := by
  unfold pm_ix at h
  split at h
  · cases h
  · rename_i hn
    exact ⟨hn, Nat.not_le.mp fun q => hn (Or.inr q), h⟩
theorem pm_j_inv {pc : Nat} {off : Int} {f : Nat → pm_R} {r : pm_O × pm_M} (h : pm_j pc off f = some r) : ∃ t : Nat, (pc : Int) + off = (t : Int) ∧ f t = some r := by
  unfold pm_j at h
  split at h
  · rename_i t ht
    exact ⟨t, ht, h⟩
  · cases h
theorem pm_ldi_inv {L : pm_L} {i : Nat} {f : Int32 → pm_R} {r : pm_O × pm_M} (h : pm_ldi L i f = some r) : ∃ x, L[i]? = some (some (pm_i x)) ∧ f x = some r := by
  unfold pm_ldi at h
  split at h
  · exact ⟨_, by assumption, h⟩
  · cases h
theorem pm_ldl_inv {L : pm_L} {i : Nat} {f : Int64 → pm_R} {r : pm_O × pm_M} (h : pm_ldl L i f = some r) : ∃ x, L[i]? = some (some (pm_l x)) ∧ f x = some r := by
  unfold pm_ldl at h
  split at h
  · exact ⟨_, by assumption, h⟩
  · cases h
theorem pm_lda_inv {L : pm_L} {i : Nat} {f : Option (Nat × Nat) → pm_R} {r : pm_O × pm_M} (h : pm_lda L i f = some r) : ∃ q, L[i]? = some (some (pm_a q)) ∧ f q = some r := by
  unfold pm_lda at h
  split at h
  · exact ⟨_, by assumption, h⟩
  · cases h
theorem pm_st_inv {L : pm_L} {i : Nat} {v : pm_V} {f : pm_L → pm_R} {r : pm_O × pm_M} (h : pm_st L i v f = some r) : i < L.length ∧ pm_pre L i = true ∧ f (L.set i (some v)) = some r := by
  unfold pm_st at h
  split at h
  · rename_i q
    exact ⟨q.1, q.2, h⟩
  · cases h
theorem pm_bo_inv {x : Int32} {a : pm_R} {r : pm_O × pm_M} (h : pm_bo x a = some r) : (x = 0 ∨ x = 1) ∧ a = some r := by
  unfold pm_bo at h
  split at h
  · exact ⟨by assumption, h⟩
  · cases h
section PMS
variable {p : Program} {l : Launch} {e : Env} {R : Room} {s : State} {m : MethodId} {args : Array Value} {below : List Frame} {meth : Method} {c : Code} {Q : State → Prop}
variable {g : pm_G} {M0 : pm_M} {r : pm_O × pm_M} {k : Nat → pm_L → List pm_V → pm_M → pm_R} {pc : Nat} {L : pm_L} {S : List pm_V} {M : pm_M}
theorem pm_s_push (hk : ∀ pc' L' S' M', k pc' L' S' M' = some r → pm_W p l e R s m args below meth c Q g M0 pc' L' S' M') {v : pm_V} {n : Nat} (row : ∀ {ls : Array Slot} {H : Heap} {locs : List Loc} {cells slots : Nat} {rest : List Value} , W p l e R s m args below meth c H locs cells slots Q (F0 m (pc + n) ls (pm_cv g v :: rest)) → W p l e R s m args below meth c H locs cells slots Q (F0 m pc ls rest)) (h : k (pc + n) L (v :: S) M = some r) : pm_W p l e R s m args below meth c Q g M0 pc L S M := by
  intro hle ls H locs hL hlen hW hS
  exact row (hk _ _ _ _ h hle ls H locs hL hlen hW hS)
theorem pm_s_i2 (hk : ∀ pc' L' S' M', k pc' L' S' M' = some r → pm_W p l e R s m args below meth c Q g M0 pc' L' S' M') {f : Int32 → Int32 → Int32} (row : ∀ {ls : Array Slot} {H : Heap} {locs : List Loc} {cells slots : Nat} {rest : List Value} {x y : Int32}, W p l e R s m args below meth c H locs cells slots Q (F0 m (pc + 1) ls (.int (f x y) :: rest)) → W p l e R s m args below meth c H locs cells slots Q (F0 m pc ls (.int y :: .int x :: rest))) (h : (pm_i2 S fun x y t => k (pc + 1) L (pm_i (f x y) :: t) M) = some r) : pm_W p l e R s m args below meth c Q g M0 pc L S M := by
  obtain ⟨x, y, t, hS0, hN⟩ := pm_i2_inv h
  clear h
  subst hS0
  have h := hN
  intro hle ls H locs hL hlen hW hS
  exact row (hk _ _ _ _ h hle ls H locs hL hlen hW hS)
theorem pm_s_i2z (hk : ∀ pc' L' S' M', k pc' L' S' M' = some r → pm_W p l e R s m args below meth c Q g M0 pc' L' S' M') {f : Int32 → Int32 → Int32} (row : ∀ {ls : Array Slot} {H : Heap} {locs : List Loc} {cells slots : Nat} {rest : List Value} {x y : Int32} (_ : ¬ y = 0), W p l e R s m args below meth c H locs cells slots Q (F0 m (pc + 1) ls (.int (f x y) :: rest)) → W p l e R s m args below meth c H locs cells slots Q (F0 m pc ls (.int y :: .int x :: rest))) (h : (pm_i2 S fun x y t => if y = 0 then none else k (pc + 1) L (pm_i (f x y) :: t) M) = some r) : pm_W p l e R s m args below meth c Q g M0 pc L S M := by
  obtain ⟨x, y, t, hS0, hN⟩ := pm_i2_inv h
  clear h
  subst hS0
  have h := hN
  split at h
  · cases h
  · rename_i hy
    intro hle ls H locs hL hlen hW hS
    exact row hy (hk _ _ _ _ h hle ls H locs hL hlen hW hS)
theorem pm_s_i1 (hk : ∀ pc' L' S' M', k pc' L' S' M' = some r → pm_W p l e R s m args below meth c Q g M0 pc' L' S' M') {f : Int32 → Int32} (row : ∀ {ls : Array Slot} {H : Heap} {locs : List Loc} {cells slots : Nat} {rest : List Value} {x : Int32}, W p l e R s m args below meth c H locs cells slots Q (F0 m (pc + 1) ls (.int (f x) :: rest)) → W p l e R s m args below meth c H locs cells slots Q (F0 m pc ls (.int x :: rest))) (h : (pm_i1 S fun x t => k (pc + 1) L (pm_i (f x) :: t) M) = some r) : pm_W p l e R s m args below meth c Q g M0 pc L S M := by
  obtain ⟨x, t, hS0, hN⟩ := pm_i1_inv h
  clear h
  subst hS0
  have h := hN
  intro hle ls H locs hL hlen hW hS
  exact row (hk _ _ _ _ h hle ls H locs hL hlen hW hS)
theorem pm_s_i2l (hk : ∀ pc' L' S' M', k pc' L' S' M' = some r → pm_W p l e R s m args below meth c Q g M0 pc' L' S' M') {f : Int32 → Int64} (row : ∀ {ls : Array Slot} {H : Heap} {locs : List Loc} {cells slots : Nat} {rest : List Value} {x : Int32}, W p l e R s m args below meth c H locs cells slots Q (F0 m (pc + 1) ls (.long (f x) :: rest)) → W p l e R s m args below meth c H locs cells slots Q (F0 m pc ls (.int x :: rest))) (h : (pm_i1 S fun x t => k (pc + 1) L (pm_l (f x) :: t) M) = some r) : pm_W p l e R s m args below meth c Q g M0 pc L S M := by
  obtain ⟨x, t, hS0, hN⟩ := pm_i1_inv h
  clear h
  subst hS0
  have h := hN
  intro hle ls H locs hL hlen hW hS
  exact row (hk _ _ _ _ h hle ls H locs hL hlen hW hS)
theorem pm_s_l2i (hk : ∀ pc' L' S' M', k pc' L' S' M' = some r → pm_W p l e R s m args below meth c Q g M0 pc' L' S' M') {f : Int64 → Int32} (row : ∀ {ls : Array Slot} {H : Heap} {locs : List Loc} {cells slots : Nat} {rest : List Value} {x : Int64}, W p l e R s m args below meth c H locs cells slots Q (F0 m (pc + 1) ls (.int (f x) :: rest)) → W p l e R s m args below meth c H locs cells slots Q (F0 m pc ls (.long x :: rest))) (h : (pm_l1 S fun x t => k (pc + 1) L (pm_i (f x) :: t) M) = some r) : pm_W p l e R s m args below meth c Q g M0 pc L S M := by
  obtain ⟨x, t, hS0, hN⟩ := pm_l1_inv h
  clear h
  subst hS0
  have h := hN
  intro hle ls H locs hL hlen hW hS
  exact row (hk _ _ _ _ h hle ls H locs hL hlen hW hS)
theorem pm_s_l2 (hk : ∀ pc' L' S' M', k pc' L' S' M' = some r → pm_W p l e R s m args below meth c Q g M0 pc' L' S' M') {f : Int64 → Int64 → Int64} (row : ∀ {ls : Array Slot} {H : Heap} {locs : List Loc} {cells slots : Nat} {rest : List Value} {x y : Int64}, W p l e R s m args below meth c H locs cells slots Q (F0 m (pc + 1) ls (.long (f x y) :: rest)) → W p l e R s m args below meth c H locs cells slots Q (F0 m pc ls (.long y :: .long x :: rest))) (h : (pm_l2 S fun x y t => k (pc + 1) L (pm_l (f x y) :: t) M) = some r) : pm_W p l e R s m args below meth c Q g M0 pc L S M := by
  obtain ⟨x, y, t, hS0, hN⟩ := pm_l2_inv h
  clear h
  subst hS0
  have h := hN
  intro hle ls H locs hL hlen hW hS
  exact row (hk _ _ _ _ h hle ls H locs hL hlen hW hS)
theorem pm_s_lc (hk : ∀ pc' L' S' M', k pc' L' S' M' = some r → pm_W p l e R s m args below meth c Q g M0 pc' L' S' M') {f : Int64 → Int64 → Int32} (row : ∀ {ls : Array Slot} {H : Heap} {locs : List Loc} {cells slots : Nat} {rest : List Value} {x y : Int64}, W p l e R s m args below meth c H locs cells slots Q (F0 m (pc + 1) ls (.int (f x y) :: rest)) → W p l e R s m args below meth c H locs cells slots Q (F0 m pc ls (.long y :: .long x :: rest))) (h : (pm_l2 S fun x y t => k (pc + 1) L (pm_i (f x y) :: t) M) = some r) : pm_W p l e R s m args below meth c Q g M0 pc L S M := by
  obtain ⟨x, y, t, hS0, hN⟩ := pm_l2_inv h
  clear h
  subst hS0
  have h := hN
  intro hle ls H locs hL hlen hW hS
  exact row (hk _ _ _ _ h hle ls H locs hL hlen hW hS)
theorem pm_s_li (hk : ∀ pc' L' S' M', k pc' L' S' M' = some r → pm_W p l e R s m args below meth c Q g M0 pc' L' S' M') {f : Int64 → Int32 → Int64} (row : ∀ {ls : Array Slot} {H : Heap} {locs : List Loc} {cells slots : Nat} {rest : List Value} {x : Int64} {y : Int32}, W p l e R s m args below meth c H locs cells slots Q (F0 m (pc + 1) ls (.long (f x y) :: rest)) → W p l e R s m args below meth c H locs cells slots Q (F0 m pc ls (.int y :: .long x :: rest))) (h : (pm_li S fun x y t => k (pc + 1) L (pm_l (f x y) :: t) M) = some r) : pm_W p l e R s m args below meth c Q g M0 pc L S M := by
  obtain ⟨x, y, t, hS0, hN⟩ := pm_li_inv h
  clear h
  subst hS0
  have h := hN
  intro hle ls H locs hL hlen hW hS
  exact row (hk _ _ _ _ h hle ls H locs hL hlen hW hS)
theorem pm_s_ldi (hk : ∀ pc' L' S' M', k pc' L' S' M' = some r → pm_W p l e R s m args below meth c Q g M0 pc' L' S' M') {i n : Nat} (row : ∀ {ls : Array Slot} {H : Heap} {locs : List Loc} {cells slots : Nat} {rest : List Value} {x : Int32} (_ : ls[i]? = some (.val (.int x))), W p l e R s m args below meth c H locs cells slots Q (F0 m (pc + n) ls (.int x :: rest)) → W p l e R s m args below meth c H locs cells slots Q (F0 m pc ls rest)) (h : (pm_ldi L i fun x => k (pc + n) L (pm_i x :: S) M) = some r) : pm_W p l e R s m args below meth c Q g M0 pc L S M := by
  obtain ⟨x, hx, h⟩ := pm_ldi_inv h
  intro hle ls H locs hL hlen hW hS
  exact row (hL.2.2 _ _ hx) (hk _ _ _ _ h hle ls H locs hL hlen hW hS)
theorem pm_s_ldl (hk : ∀ pc' L' S' M', k pc' L' S' M' = some r → pm_W p l e R s m args below meth c Q g M0 pc' L' S' M') {i n : Nat} (row : ∀ {ls : Array Slot} {H : Heap} {locs : List Loc} {cells slots : Nat} {rest : List Value} {x : Int64} (_ : ls[i]? = some (.val (.long x))), W p l e R s m args below meth c H locs cells slots Q (F0 m (pc + n) ls (.long x :: rest)) → W p l e R s m args below meth c H locs cells slots Q (F0 m pc ls rest)) (h : (pm_ldl L i fun x => k (pc + n) L (pm_l x :: S) M) = some r) : pm_W p l e R s m args below meth c Q g M0 pc L S M := by
  obtain ⟨x, hx, h⟩ := pm_ldl_inv h
  intro hle ls H locs hL hlen hW hS
  exact row (hL.2.2 _ _ hx) (hk _ _ _ _ h hle ls H locs hL hlen hW hS)
theorem pm_s_lda (hk : ∀ pc' L' S' M', k pc' L' S' M' = some r → pm_W p l e R s m args below meth c Q g M0 pc' L' S' M') {i n : Nat} (row : ∀ {ls : Array Slot} {H : Heap} {locs : List Loc} {cells slots : Nat} {rest : List Value} {v : Value} (_ : v = .null ∨ ∃ a, v = .ref a) (_ : ls[i]? = some (.val v)), W p l e R s m args below meth c H locs cells slots Q (F0 m (pc + n) ls (v :: rest)) → W p l e R s m args below meth c H locs cells slots Q (F0 m pc ls rest)) (h : (pm_lda L i fun q => k (pc + n) L (pm_a q :: S) M) = some r) : pm_W p l e R s m args below meth c Q g M0 pc L S M := by
  obtain ⟨q, hx, h⟩ := pm_lda_inv h
  intro hle ls H locs hL hlen hW hS
  exact row (pm_cv_ref g q) (hL.2.2 _ _ hx) (hk _ _ _ _ h hle ls H locs hL hlen hW hS)
theorem pm_s_sti (hk : ∀ pc' L' S' M', k pc' L' S' M' = some r → pm_W p l e R s m args below meth c Q g M0 pc' L' S' M') {i n : Nat} (row : ∀ {ls : Array Slot} {H : Heap} {locs : List Loc} {cells slots : Nat} {rest : List Value} {x : Int32} {ls' : Array Slot} (_ : storeLocals ls i (.int x) = some ls'), W p l e R s m args below meth c H locs cells slots Q (F0 m (pc + n) ls' rest) → W p l e R s m args below meth c H locs cells slots Q (F0 m pc ls (.int x :: rest))) (h : (pm_sti L S i fun L' t => k (pc + n) L' t M) = some r) : pm_W p l e R s m args below meth c Q g M0 pc L S M := by
  obtain ⟨x, t, hS0, hN⟩ := pm_i1_inv h
  clear h
  subst hS0
  have h := hN
  obtain ⟨h1, h2, h⟩ := pm_st_inv h
  intro hle ls H locs hL hlen hW hS
  obtain ⟨ls', e', hL'⟩ := pm_LR_set (v := pm_i x) hL h1 h2 rfl
  exact row e' (hk _ _ _ _ h hle ls' H locs hL' (by rw [List.length_set]; exact hlen) hW hS)
theorem pm_s_sta (hk : ∀ pc' L' S' M', k pc' L' S' M' = some r → pm_W p l e R s m args below meth c Q g M0 pc' L' S' M') {i n : Nat} (row : ∀ {ls : Array Slot} {H : Heap} {locs : List Loc} {cells slots : Nat} {rest : List Value} {v : Value} (_ : v = .null ∨ ∃ a, v = .ref a) {ls' : Array Slot} (_ : storeLocals ls i v = some ls'), W p l e R s m args below meth c H locs cells slots Q (F0 m (pc + n) ls' rest) → W p l e R s m args below meth c H locs cells slots Q (F0 m pc ls (v :: rest))) (h : (pm_sta L S i fun L' t => k (pc + n) L' t M) = some r) : pm_W p l e R s m args below meth c Q g M0 pc L S M := by
  obtain ⟨q, t, hS0, hN⟩ := pm_a1_inv h
  clear h
  subst hS0
  have h := hN
  obtain ⟨h1, h2, h⟩ := pm_st_inv h
  intro hle ls H locs hL hlen hW hS
  obtain ⟨ls', e', hL'⟩ := pm_LR_set (v := pm_a q) hL h1 h2 rfl
  exact row (pm_cv_ref g q) e' (hk _ _ _ _ h hle ls' H locs hL' (by rw [List.length_set]; exact hlen) hW hS)
theorem pm_s_iinc (hk : ∀ pc' L' S' M', k pc' L' S' M' = some r → pm_W p l e R s m args below meth c Q g M0 pc' L' S' M') {i : Nat} {n : Int} (row : ∀ {ls : Array Slot} {H : Heap} {locs : List Loc} {cells slots : Nat} {rest : List Value} {x : Int32} {ls' : Array Slot} (_ : ls[i]? = some (.val (.int x))) (_ : storeLocals ls i (.int (x + Int32.ofInt n)) = some ls'), W p l e R s m args below meth c H locs cells slots Q (F0 m (pc + 3) ls' rest) → W p l e R s m args below meth c H locs cells slots Q (F0 m pc ls rest)) (h : (pm_ldi L i fun x => pm_st L i (pm_i (x + pm_c n)) fun L' => k (pc + 3) L' S M) = some r) : pm_W p l e R s m args below meth c Q g M0 pc L S M := by
  obtain ⟨x, hx, h⟩ := pm_ldi_inv h
  obtain ⟨h1, h2, h⟩ := pm_st_inv h
  intro hle ls H locs hL hlen hW hS
  obtain ⟨ls', e', hL'⟩ := pm_LR_set (v := pm_i (x + pm_c n)) hL h1 h2 rfl
  refine row (hL.2.2 _ _ hx) (ls' := ls') ?_ (hk _ _ _ _ h hle ls' H locs hL' (by rw [List.length_set]; exact hlen) hW hS)
  rw [pm_c_eq]; exact e'
theorem pm_s_goto (hk : ∀ pc' L' S' M', k pc' L' S' M' = some r → pm_W p l e R s m args below meth c Q g M0 pc' L' S' M') (hx : p.tables.exec = Jvm.exec) {cc : ByteArray} (hb : c.code = cc) {off : Int} (hd : decode cc pc = .ok (.goto off, 3)) (h : (pm_j pc off fun t => k t L S M) = some r) : pm_W p l e R s m args below meth c Q g M0 pc L S M := by
  obtain ⟨t, ht, h⟩ := pm_j_inv h
  intro hle ls H locs hL hlen hW hS
  exact lv_goto hx hb hd ht (hk _ _ _ _ h hle ls H locs hL hlen hW hS)
theorem pm_s_icmp (hk : ∀ pc' L' S' M', k pc' L' S' M' = some r → pm_W p l e R s m args below meth c Q g M0 pc' L' S' M') (hx : p.tables.exec = Jvm.exec) {cc : ByteArray} (hb : c.code = cc) {cd : Jvm.ClassFile.Cond} {off : Int} (hd : decode cc pc = .ok (.if_icmp cd off, 3)) (h : (pm_i2 S fun x y t => pm_j pc off fun t' => pm_cmp cd x y (k t' L t M) (k (pc + 3) L t M)) = some r) : pm_W p l e R s m args below meth c Q g M0 pc L S M := by
  obtain ⟨x, y, t, hS0, hN⟩ := pm_i2_inv h
  clear h
  subst hS0
  have h := hN
  obtain ⟨t', ht, h⟩ := pm_j_inv h
  intro hle ls H locs hL hlen hW hS
  cases cd with
  | eq =>
    have h : (if x = y then (k t' L t M) else (k (pc + 3) L t M)) = some r := h
    exact lv_icmp_eq hx hb hd ht (fun hc => hk _ _ _ _ (by rw [if_pos hc] at h; exact h) hle ls H locs hL hlen hW hS) (fun hc => hk _ _ _ _ (by rw [if_neg hc] at h; exact h) hle ls H locs hL hlen hW hS)
  | ne =>
    have h : (if x = y then (k (pc + 3) L t M) else (k t' L t M)) = some r := h
    exact lv_icmp_ne hx hb hd ht (fun hc => hk _ _ _ _ (by rw [if_neg hc] at h; exact h) hle ls H locs hL hlen hW hS) (fun hc => hk _ _ _ _ (by rw [if_pos hc] at h; exact h) hle ls H locs hL hlen hW hS)
  | lt =>
    have h : (if x < y then (k t' L t M) else (k (pc + 3) L t M)) = some r := h
    exact lv_icmp_lt hx hb hd ht (fun hc => hk _ _ _ _ (by rw [if_pos hc] at h; exact h) hle ls H locs hL hlen hW hS) (fun hc => hk _ _ _ _ (by rw [if_neg hc] at h; exact h) hle ls H locs hL hlen hW hS)
  | ge =>
    have h : (if y ≤ x then (k t' L t M) else (k (pc + 3) L t M)) = some r := h
    exact lv_icmp_ge hx hb hd ht (fun hc => hk _ _ _ _ (by rw [if_pos hc] at h; exact h) hle ls H locs hL hlen hW hS) (fun hc => hk _ _ _ _ (by rw [if_neg hc] at h; exact h) hle ls H locs hL hlen hW hS)
  | gt =>
    have h : (if y < x then (k t' L t M) else (k (pc + 3) L t M)) = some r := h
    exact lv_icmp_gt hx hb hd ht (fun hc => hk _ _ _ _ (by rw [if_pos hc] at h; exact h) hle ls H locs hL hlen hW hS) (fun hc => hk _ _ _ _ (by rw [if_neg hc] at h; exact h) hle ls H locs hL hlen hW hS)
  | le =>
    have h : (if x ≤ y then (k t' L t M) else (k (pc + 3) L t M)) = some r := h
    exact lv_icmp_le hx hb hd ht (fun hc => hk _ _ _ _ (by rw [if_pos hc] at h; exact h) hle ls H locs hL hlen hW hS) (fun hc => hk _ _ _ _ (by rw [if_neg hc] at h; exact h) hle ls H locs hL hlen hW hS)
theorem pm_s_if (hk : ∀ pc' L' S' M', k pc' L' S' M' = some r → pm_W p l e R s m args below meth c Q g M0 pc' L' S' M') (hx : p.tables.exec = Jvm.exec) {cc : ByteArray} (hb : c.code = cc) {cd : Jvm.ClassFile.Cond} {off : Int} (hd : decode cc pc = .ok (.ifCond cd off, 3)) (h : (pm_i1 S fun x t => pm_j pc off fun t' => pm_cmp cd x 0 (k t' L t M) (k (pc + 3) L t M)) = some r) : pm_W p l e R s m args below meth c Q g M0 pc L S M := by
  obtain ⟨x, t, hS0, hN⟩ := pm_i1_inv h
  clear h
  subst hS0
  have h := hN
  obtain ⟨t', ht, h⟩ := pm_j_inv h
  intro hle ls H locs hL hlen hW hS
  cases cd with
  | eq =>
    have h : (if x = 0 then (k t' L t M) else (k (pc + 3) L t M)) = some r := h
    exact lv_if_eq hx hb hd ht (fun hc => hk _ _ _ _ (by rw [if_pos hc] at h; exact h) hle ls H locs hL hlen hW hS) (fun hc => hk _ _ _ _ (by rw [if_neg hc] at h; exact h) hle ls H locs hL hlen hW hS)
  | ne =>
    have h : (if x = 0 then (k (pc + 3) L t M) else (k t' L t M)) = some r := h
    exact lv_if_ne hx hb hd ht (fun hc => hk _ _ _ _ (by rw [if_neg hc] at h; exact h) hle ls H locs hL hlen hW hS) (fun hc => hk _ _ _ _ (by rw [if_pos hc] at h; exact h) hle ls H locs hL hlen hW hS)
  | lt =>
    have h : (if x < 0 then (k t' L t M) else (k (pc + 3) L t M)) = some r := h
    exact lv_if_lt hx hb hd ht (fun hc => hk _ _ _ _ (by rw [if_pos hc] at h; exact h) hle ls H locs hL hlen hW hS) (fun hc => hk _ _ _ _ (by rw [if_neg hc] at h; exact h) hle ls H locs hL hlen hW hS)
  | ge =>
    have h : (if 0 ≤ x then (k t' L t M) else (k (pc + 3) L t M)) = some r := h
    exact lv_if_ge hx hb hd ht (fun hc => hk _ _ _ _ (by rw [if_pos hc] at h; exact h) hle ls H locs hL hlen hW hS) (fun hc => hk _ _ _ _ (by rw [if_neg hc] at h; exact h) hle ls H locs hL hlen hW hS)
  | gt =>
    have h : (if 0 < x then (k t' L t M) else (k (pc + 3) L t M)) = some r := h
    exact lv_if_gt hx hb hd ht (fun hc => hk _ _ _ _ (by rw [if_pos hc] at h; exact h) hle ls H locs hL hlen hW hS) (fun hc => hk _ _ _ _ (by rw [if_neg hc] at h; exact h) hle ls H locs hL hlen hW hS)
  | le =>
    have h : (if x ≤ 0 then (k t' L t M) else (k (pc + 3) L t M)) = some r := h
    exact lv_if_le hx hb hd ht (fun hc => hk _ _ _ _ (by rw [if_pos hc] at h; exact h) hle ls H locs hL hlen hW hS) (fun hc => hk _ _ _ _ (by rw [if_neg hc] at h; exact h) hle ls H locs hL hlen hW hS)
theorem pm_s_ifnull (hk : ∀ pc' L' S' M', k pc' L' S' M' = some r → pm_W p l e R s m args below meth c Q g M0 pc' L' S' M') (hx : p.tables.exec = Jvm.exec) {cc : ByteArray} (hb : c.code = cc) {off : Int} (hd : decode cc pc = .ok (.ifnull off, 3)) (h : (pm_a1 S fun q t => (match q with | none => pm_j pc off fun t' => k t' L t M | some _ => k (pc + 3) L t M)) = some r) : pm_W p l e R s m args below meth c Q g M0 pc L S M := by
  obtain ⟨q, t, hS0, hN⟩ := pm_a1_inv h
  clear h
  subst hS0
  have h := hN
  intro hle ls H locs hL hlen hW hS
  cases q with
  | none =>
    obtain ⟨t', ht, h⟩ := pm_j_inv h
    exact lv_ifnullN hx hb hd ht (hk _ _ _ _ h hle ls H locs hL hlen hW hS)
  | some q => exact lv_ifnull hx hb hd (hk _ _ _ _ h hle ls H locs hL hlen hW hS)
theorem pm_s_ifnonnull (hk : ∀ pc' L' S' M', k pc' L' S' M' = some r → pm_W p l e R s m args below meth c Q g M0 pc' L' S' M') (hx : p.tables.exec = Jvm.exec) {cc : ByteArray} (hb : c.code = cc) {off : Int} (hd : decode cc pc = .ok (.ifnonnull off, 3)) (h : (pm_a1 S fun q t => (match q with | some _ => pm_j pc off fun t' => k t' L t M | none => k (pc + 3) L t M)) = some r) : pm_W p l e R s m args below meth c Q g M0 pc L S M := by
  obtain ⟨q, t, hS0, hN⟩ := pm_a1_inv h
  clear h
  subst hS0
  have h := hN
  intro hle ls H locs hL hlen hW hS
  cases q with
  | none => exact lv_ifnonnullN hx hb hd (hk _ _ _ _ h hle ls H locs hL hlen hW hS)
  | some q =>
    obtain ⟨t', ht, h⟩ := pm_j_inv h
    exact lv_ifnonnull hx hb hd ht (hk _ _ _ _ h hle ls H locs hL hlen hW hS)
theorem pm_sw_inv {x : Int} {d : Int} {f : Int → pm_R} {r : pm_O × pm_M} : ∀ (offs : List Int) (lo : Int), pm_sw x lo offs d f = some r → (x < lo ∨ lo + offs.length ≤ x) ∧ f d = some r ∨ ∃ o, ¬ x < lo ∧ x < lo + offs.length ∧ offs[(x - lo).toNat]? = some o ∧ f o = some r
  | [], lo, h => Or.inl ⟨by simp; omega, h⟩
  | o :: rs, lo, h => by
    unfold pm_sw at h
    split at h
    · rename_i he
      subst he
      exact Or.inr ⟨o, by omega, by simp; omega, by simp, h⟩
    · rename_i he
      rcases pm_sw_inv rs (lo + 1) h with ⟨h1, h2⟩ | ⟨o', h1, h2, h3, h4⟩
      · exact Or.inl ⟨by simp; omega, h2⟩
      · refine Or.inr ⟨o', by omega, by simp; omega, ?_, h4⟩
        have : (x - lo).toNat = (x - (lo + 1)).toNat + 1 := by omega
        rw [this]
        simpa using h3
theorem pm_s_tsw (hk : ∀ pc' L' S' M', k pc' L' S' M' = some r → pm_W p l e R s m args below meth c Q g M0 pc' L' S' M') (hx : p.tables.exec = Jvm.exec) {cc : ByteArray} (hb : c.code = cc) {d lo hi : Int} {offs : Array Int} {len : Nat} (hd : decode cc pc = .ok (.tableswitch d lo hi offs, len)) (h : (pm_i1 S fun x t => if hi + 1 = lo + offs.toList.length then pm_sw x.toInt lo offs.toList d fun o => pm_j pc o fun t' => k t' L t M else none) = some r) : pm_W p l e R s m args below meth c Q g M0 pc L S M := by
  obtain ⟨x, t, hS0, hN⟩ := pm_i1_inv h
  clear h
  subst hS0
  have h := hN
  split at h
  · rename_i hh
    intro hle ls H locs hL hlen hW hS
    rcases pm_sw_inv _ _ h with ⟨h1, h2⟩ | ⟨o, h1, h2, h3, h4⟩
    · obtain ⟨t', ht, h2⟩ := pm_j_inv h2
      exact lv_tableOut hx hb hd (by omega) ht (hk _ _ _ _ h2 hle ls H locs hL hlen hW hS)
    · obtain ⟨t', ht, h4⟩ := pm_j_inv h4
      exact lv_tableIn hx hb hd h1 (by omega) (by rw [← Array.getElem?_toList]; exact h3) ht (hk _ _ _ _ h4 hle ls H locs hL hlen hW hS)
  · cases h
end PMS
