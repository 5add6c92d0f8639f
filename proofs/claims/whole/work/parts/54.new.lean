/-! new cells -/
section PMN
variable {p : Program} {l : Launch} {e : Env} {R : Room} {s : State} {m : MethodId} {args : Array Value} {below : List Frame} {meth : Method} {c : Code} {Q : State → Prop}
variable {g : pm_G} {M0 : pm_M} {r : pm_O × pm_M} {k : Nat → pm_L → List pm_V → pm_M → pm_R} {pc mi : Nat} {L : pm_L} {S : List pm_V} {M : pm_M}
theorem pm_mk_inv {ns t n : Nat} {b : List Nat → Bool} {F : Nat → Nat → pm_M → pm_R} (h : pm_mk ns M t n b F = some r) : ∃ f i cs, M.2.2.2.1 < pm_tot ∧ pm_plan M.2.2.2.1 = (f, i) ∧ pm_shp ns f = (t, n, cs) ∧ b cs = true ∧ F f i (pm_new M (f, i)) = some r := by
  unfold pm_mk at h
  split at h
  · rename_i hlt
    split at h
    rename_i t' n' c' hs
    split at h
    · rename_i hc
      obtain ⟨rfl, rfl, hb⟩ := hc
      exact ⟨_, _, c', hlt, rfl, hs, hb, h⟩
    · cases h
  · cases h
theorem pm_plan99 : ∀ k, k < pm_tot → (pm_plan k).1 ≠ 99 := by decide +kernel
theorem pm_new_ok {f i : Nat} (hlt : M.2.2.2.1 < pm_tot) (hp : pm_plan M.2.2.2.1 = (f, i)) : f ≠ 99 ∧ pm_ad g f i = g.1 + M.2.2.2.1 := by
  have h9 := pm_plan99 _ hlt
  rw [hp] at h9
  have h8 := pm_pidx_plan _ hlt
  rw [hp] at h8
  refine ⟨h9, ?_⟩
  unfold pm_ad
  rw [if_neg h9, h8]
theorem pm_Wd_new {f i : Nat} {H H1 : Heap} (hW : pm_Wd g M s H) (hb : g.2.1 < g.1) (hlt : M.2.2.2.1 < pm_tot) (hp : pm_plan M.2.2.2.1 = (f, i)) (hz : H1.size = H.size + 1) (ho : ∀ q, q < H.size → H1[q]? = H[q]?)
    (hat : va_at g.2.2.2.1 pm_K (pm_ad g f i, pm_en g (pm_new M (f, i)) f i) H1) : pm_Wd g (pm_new M (f, i)) s H1 := by
  obtain ⟨w1, w2, w3, w4, w5, w6⟩ := hW
  obtain ⟨h99, had⟩ := pm_new_ok (g := g) hlt hp
  have hsz : H.size = g.1 + M.2.2.2.1 := by rcases w5 with w5 | w5 <;> omega
  refine ⟨fun k hk => ?_, hlt, w3, ?_, ?_, ?_⟩
  · have hk : k < M.2.2.2.1 + 1 := hk
    by_cases hkn : k = M.2.2.2.1
    · subst hkn
      rw [hp, ← had]; exact hat
    · have hk2 : k < M.2.2.2.1 := by omega
      have hne : ¬ ((pm_plan k).1 = f ∧ (pm_plan k).2 = i) := fun q => hkn (by
        have e1 := pm_pidx_plan k (by omega)
        have e2 := pm_pidx_plan _ hlt
        rw [hp] at e2
        rw [q.1, q.2] at e1
        exact e1.symm.trans e2)
      rw [pm_en_eq (M := M) (M' := pm_new M (f, i)) (pm_z_ne hne) (pm_z_ne hne) (pm_z_ne hne)]
      refine va_at.kept (w1 k hk2) (ho _ ?_)
      show g.1 + k < _
      omega
  · show g.1 + (M.2.2.2.1 + 1) ≤ _
    omega
  · show M.2.2.2.1 + 1 = _ ∨ H1.size = g.1 + (M.2.2.2.1 + 1)
    omega
  · show va_X _ _ (pm_z M.1 f i 0 99 0) _ _
    rw [pm_z_ne (fun q => h99 q.1.symm)]
    exact w6.kept (ho _ (by omega))
theorem pm_S_new {H0 H H1 : Heap} {locs : List Loc} (hS : va_S (pm_A g) H0 H locs) (hz : H1.size = H.size + 1) (ho : ∀ q, q < H.size → H1[q]? = H[q]?) : va_S (pm_A g) H0 H1 locs :=
  ⟨by have := hS.1; omega, fun q h1 h2 => (ho q (Nat.lt_of_lt_of_le h1 hS.1)).trans (hS.2.1 q h1 h2), hS.2.2⟩
theorem pm_z_at {α : Type} {F : Nat → Nat → Nat → α} {f i k : Nat} {v : α} : pm_z F f i v f i k = v := by
  unfold pm_z
  rw [if_pos ⟨rfl, rfl⟩]
theorem pm_z_fn {α : Type} {F : Nat → Nat → Nat → α} {f i : Nat} {v : α} : pm_z F f i v f i = fun _ => v := funext fun _ => pm_z_at
theorem pm_new_le (hle : pm_le M0 M) (q : Nat × Nat) : pm_le M0 (pm_new M q) := ⟨Nat.le_succ_of_le hle.1, hle.2⟩
theorem pm_new_cb (hle : pm_le M0 M) (q : Nat × Nat) : pm_cb (pm_new M q) - pm_cb M0 = pm_cb M - pm_cb M0 + 1 := by
  obtain ⟨h1, h2⟩ := hle
  show (M.2.2.2.1 + 1 + M.2.2.2.2) - (M0.2.2.2.1 + M0.2.2.2.2) = (M.2.2.2.1 + M.2.2.2.2) - (M0.2.2.2.1 + M0.2.2.2.2) + 1
  omega
theorem pm_new_sb (hle : pm_le M0 M) (q : Nat × Nat) : pm_sb (pm_new M q) - pm_sb M0 = pm_sb M - pm_sb M0 + 128 := by
  obtain ⟨h1, h2⟩ := hle
  show (128 * (M.2.2.2.1 + 1) + 6 * M.2.2.2.2) - (128 * M0.2.2.2.1 + 6 * M0.2.2.2.2) = (128 * M.2.2.2.1 + 6 * M.2.2.2.2) - (128 * M0.2.2.2.1 + 6 * M0.2.2.2.2) + 128
  omega
theorem pm_tot96 : pm_tot = 96 := rfl
theorem pm_room (hW : M.2.2.2.1 ≤ pm_tot ∧ M.2.2.2.2 ≤ 600) (hR : 1000 ≤ R.cells ∧ 20000 ≤ R.slots) (hlt : M.2.2.2.1 < pm_tot) : pm_cb M - pm_cb M0 + 1 ≤ R.cells ∧ pm_sb M - pm_sb M0 + 128 ≤ R.slots := by
  have e1 : pm_cb M = M.2.2.2.1 + M.2.2.2.2 := rfl
  have e2 : pm_sb M = 128 * M.2.2.2.1 + 6 * M.2.2.2.2 := rfl
  have e3 := pm_tot96
  omega
theorem pm_clck : pm_clss.all (fun q => match q.2.2 with
  | .inl ci => pm_tb (.classLink (pm_nm q.1) q.2.1 (pm_nm ci)) && decide (ci < 6)
  | .inr x => pm_tb (.classLink (pm_nm q.1) q.2.1 (pm_exn x))) = true := by decide +kernel
theorem pm_aov : pm_tb (.arrayOver (.object "JobLayer$Task")) = true ∧ pm_tb (.arrayOver (.object "JobLayer$ByteRow")) = true := by decide +kernel
theorem pm_s_new (C : pm_Cx p l s m args meth c mi g) (hR : 1000 ≤ R.cells ∧ 20000 ≤ R.slots) (hk : ∀ pc' L' S' M', k pc' L' S' M' = some r → pm_W p l e R s m args below meth c Q g M0 pc' L' S' M') {idx ci : Nat} (hcl : pm_cls (pm_own mi) idx = some (.inl ci)) (hd : decode (pm_code mi) pc = .ok (.new idx, 3))
    (h : (pm_mk g.2.2.1 M 0 ci (fun _ => true) fun f i M' => k (pc + 3) L (pm_r f i :: S) M') = some r) : pm_W p l e R s m args below meth c Q g M0 pc L S M := by
  obtain ⟨hx, hb, -, -, hown, hts, -, -, -, -, hst⟩ := C
  obtain ⟨f, i, tys, hlt, hp, hsh, -, h1⟩ := pm_mk_inv h
  have hck := List.all_eq_true.mp pm_clck _ (pm_lk_mem hcl)
  simp only [Bool.and_eq_true, decide_eq_true_eq] at hck
  obtain ⟨rc, hrc⟩ : ∃ rc, pm_K[ci]? = some rc := ⟨_, List.getElem?_eq_getElem hck.2⟩
  obtain ⟨Cn, T, N⟩ := rc
  obtain ⟨hin, hkt, hnm, hlenN, hCn, hTk, hins, hini⟩ := pm_cl_ok hrc
  subst hCn
  obtain ⟨h99, htys⟩ := pm_shp_obj hsh
  subst htys
  intro hle ls H locs hL hlen hW hS
  obtain ⟨r1, r2⟩ := pm_room (M0 := M0) (R := R) ⟨hW.2.1, hW.2.2.1⟩ hR hlt
  have hN : N ≤ 128 := by
    have h9 : ∀ q ∈ pm_K, q.2.2 ≤ 128 := by decide +kernel
    exact h9 _ (List.mem_of_getElem? hrc)
  have had := (pm_new_ok (g := g) hlt hp).2
  have hsz : H.size = g.1 + M.2.2.2.1 := by rcases hW.2.2.2.2.1 with w5 | w5 <;> omega
  have hKn := hst.1.1 ci _ hrc
  refine W.newcK hx hb hown (hts _ (pm_in hck.1)) (hts _ hins) (hts _ hini) rfl hd r1 (by omega) hKn.2.1 rfl fun H1 kC hkC e1 z1 o1 => ?_
  refine W.widen (k := pm_cb (pm_new M (f, i)) - pm_cb M0) (n := pm_sb (pm_new M (f, i)) - pm_sb M0) (by rw [pm_new_cb hle]; exact Nat.le_refl _) (by rw [pm_new_sb hle]; omega) ?_
  have hwd : pm_Wd g (pm_new M (f, i)) s H1 := by
    refine pm_Wd_new hW hst.2.1 hlt hp z1 o1 ?_
    rw [pm_en_obj hsh, had, ← hsz]
    refine ⟨_, hrc, (u_born (pm_kt ci) hts hin hKn hkC e1 hkt).to fun j hj => ?_⟩
    obtain ⟨t, ht⟩ : ∃ t, (pm_cty ci)[j]? = some t := ⟨_, List.getElem?_eq_getElem (by omega)⟩
    have htok := (hTk j hj).2
    rw [List.getD_eq_getElem?_getD, ht] at htok
    have hv : vp_V (pm_fs g (pm_new M (f, i)) f i (pm_cty ci)) j = pm_ev g (pm_new M (f, i)) f i t j := by
      unfold vp_V
      rw [List.getD_eq_getElem?_getD, pm_fs_get ht]; rfl
    rw [hv]
    have z1 : (pm_new M (f, i)).1 f i j = 0 := pm_z_at
    have z2 : (pm_new M (f, i)).2.1 f i j = 0 := pm_z_at
    have z3 : (pm_new M (f, i)).2.2.1 f i j = none := pm_z_at
    have htok : pm_tok t (pm_kt ci j) = true := htok
    unfold pm_ev
    rw [z1, z2, z3]
    simp only [pm_tok, Bool.or_eq_true, Bool.and_eq_true, beq_iff_eq, decide_eq_true_eq] at htok
    rcases htok with ((⟨rfl, h2⟩ | ⟨rfl, h2⟩) | ⟨rfl, h2⟩) | ⟨rfl, h2⟩
    · rw [h2]; rfl
    · rw [h2]; rfl
    · rw [h2]; rfl
    · revert h2
      cases pm_kt ci j <;> simp [pm_isr, defaultValue, pm_cv]
  have hgo := hk _ _ _ _ h1 (pm_new_le hle (f, i)) ls H1 locs hL hlen hwd (pm_S_new hS z1 o1)
  have ead : pm_cv g (pm_r f i) = .ref H.size := by
    show Value.ref (pm_ad g f i) = _
    rw [had, hsz]
  rw [List.map_cons, ead] at hgo
  exact hgo
theorem pm_arr_eq {cA : ClassId} {n : Nat} {F F' : Nat → Value} (h : ∀ j, F j = F' j) : arrV cA n F = arrV cA n F' := by
  rw [show F = F' from funext h]
theorem pm_fam_n : pm_fam.all (fun q => q.2.2.1 == 0 || decide (q.2.2.2.1 ≤ 128)) = true := by decide +kernel
theorem pm_shp_n {ns f t n : Nat} {cs : List Nat} (h : pm_shp ns f = (t, n, cs)) (ht : t ≠ 0) (hf : f ≠ 99) : n ≤ 128 := by
  unfold pm_shp at h
  split at h
  · rename_i q hq
    have h2 := List.all_eq_true.mp pm_fam_n _ (pm_fi_mem hq)
    rw [h] at h2
    simp only [Bool.or_eq_true, beq_iff_eq, decide_eq_true_eq] at h2
    rcases h2 with h2 | h2
    · exact absurd h2 ht
    · exact h2
  · rw [if_neg hf] at h
    cases h
    omega
/-- what is the same for every new array -/
theorem pm_arr_go (C : pm_Cx p l s m args meth c mi g) (hk : ∀ pc' L' S' M', k pc' L' S' M' = some r → pm_W p l e R s m args below meth c Q g M0 pc' L' S' M') {w f i n : Nat} {t : List pm_V} {H H1 : Heap} {ls : Array Slot} {locs : List Loc} (hlt : M.2.2.2.1 < pm_tot) (hp : pm_plan M.2.2.2.1 = (f, i)) (hn : n ≤ 128)
    (hle : pm_le M0 M) (hL : pm_LR g L ls) (hlen : L.length = c.maxLocals) (hW : pm_Wd g M s H) (hS : va_S (pm_A g) s.heap H locs) (h1 : k (pc + w) L (pm_r f i :: t) (pm_new M (f, i)) = some r)
    (z1 : H1.size = H.size + 1) (o1 : ∀ q, q < H.size → H1[q]? = H[q]?) (hat : va_at g.2.2.2.1 pm_K (pm_ad g f i, pm_en g (pm_new M (f, i)) f i) H1) :
    W p l e R s m args below meth c H1 locs (pm_cb M - pm_cb M0 + 1) (pm_sb M - pm_sb M0 + n) Q (F0 m (pc + w) ls (.ref H.size :: t.map (pm_cv g))) := by
  have hst := C.2.2.2.2.2.2.2.2.2.2
  have had := (pm_new_ok (g := g) hlt hp).2
  have hsz : H.size = g.1 + M.2.2.2.1 := by rcases hW.2.2.2.2.1 with w5 | w5 <;> omega
  refine W.widen (k := pm_cb (pm_new M (f, i)) - pm_cb M0) (n := pm_sb (pm_new M (f, i)) - pm_sb M0) (by rw [pm_new_cb hle]; exact Nat.le_refl _) (by rw [pm_new_sb hle]; omega) ?_
  have hgo := hk _ _ _ _ h1 (pm_new_le hle (f, i)) ls H1 locs hL hlen (pm_Wd_new hW hst.2.1 hlt hp z1 o1 hat) (pm_S_new hS z1 o1)
  have ead : pm_cv g (pm_r f i) = .ref H.size := by
    show Value.ref (pm_ad g f i) = _
    rw [had, hsz]
  rw [List.map_cons, ead] at hgo
  exact hgo
theorem pm_ad_new {f i : Nat} {H : Heap} (hlt : M.2.2.2.1 < pm_tot) (hp : pm_plan M.2.2.2.1 = (f, i)) (hW : pm_Wd g M s H) : pm_ad g f i = H.size := by
  rw [(pm_new_ok (g := g) hlt hp).2]
  rcases hW.2.2.2.2.1 with w5 | w5 <;> omega
theorem pm_s_nai (C : pm_Cx p l s m args meth c mi g) (hR : 1000 ≤ R.cells ∧ 20000 ≤ R.slots) (hk : ∀ pc' L' S' M', k pc' L' S' M' = some r → pm_W p l e R s m args below meth c Q g M0 pc' L' S' M') (hd : decode (pm_code mi) pc = .ok (.newarray .int, 2))
    (h : pm_na g.2.2.1 k 1 2 pc (fun _ => true) L S M = some r) : pm_W p l e R s m args below meth c Q g M0 pc L S M := by
  obtain ⟨x, t, hS0, h1⟩ := pm_i1_inv h
  subst hS0
  split at h1
  · rename_i hx0
    obtain ⟨f, i, cs, hlt, hp, hsh, -, h2⟩ := pm_mk_inv h1
    intro hle ls H locs hL hlen hW hS
    have h99 := (pm_new_ok (g := g) hlt hp).1
    have hn := pm_shp_n hsh (by decide) h99
    obtain ⟨r1, r2⟩ := pm_room (M0 := M0) (R := R) ⟨hW.2.1, hW.2.2.1⟩ hR hlt
    have hst := C.2.2.2.2.2.2.2.2.2.2
    have harr : (Cond.arrayClass (newarray.typeOf ArrayType.int)).before args s = true := C.2.2.2.2.2.1 (Cond.arrayClass .int) (pm_in pm_ar3.1)
    refine va_newaK C.1 C.2.1 harr rfl hd rfl hx0 rfl (by
      have : componentBytes (newarray.typeOf .int) ≤ 8 := by decide
      have := Nat.mul_le_mul hn this
      omega) r1 (by omega) rfl fun H1 cA e1 z1 o1 hAr hNm => ?_
    have hcA : cA = g.2.2.2.2 0 := Option.some.inj (hNm.symm.trans (hst.1.2 0 _ rfl).2)
    subst hcA
    refine pm_arr_go C hk hlt hp hn hle hL hlen hW hS h2 z1 o1 ?_
    rw [pm_en_1 hsh, pm_ad_new hlt hp hW]
    show H1[H.size]? = some (vp_cell _ _)
    rw [e1]
    refine congrArg some (pm_arr_eq (F' := fun j => Value.int ((pm_new M (f, i)).1 f i j)) fun j => ?_)
    have z2 : (pm_new M (f, i)).1 f i j = 0 := pm_z_at
    rw [z2]
    rfl
  · cases h1
theorem pm_s_nab (C : pm_Cx p l s m args meth c mi g) (hR : 1000 ≤ R.cells ∧ 20000 ≤ R.slots) (hk : ∀ pc' L' S' M', k pc' L' S' M' = some r → pm_W p l e R s m args below meth c Q g M0 pc' L' S' M') (hd : decode (pm_code mi) pc = .ok (.newarray .boolean, 2))
    (h : pm_na g.2.2.1 k 2 2 pc (fun _ => true) L S M = some r) : pm_W p l e R s m args below meth c Q g M0 pc L S M := by
  obtain ⟨x, t, hS0, h1⟩ := pm_i1_inv h
  subst hS0
  split at h1
  · rename_i hx0
    obtain ⟨f, i, cs, hlt, hp, hsh, -, h2⟩ := pm_mk_inv h1
    intro hle ls H locs hL hlen hW hS
    have h99 := (pm_new_ok (g := g) hlt hp).1
    have hn := pm_shp_n hsh (by decide) h99
    obtain ⟨r1, r2⟩ := pm_room (M0 := M0) (R := R) ⟨hW.2.1, hW.2.2.1⟩ hR hlt
    have hst := C.2.2.2.2.2.2.2.2.2.2
    have harr : (Cond.arrayClass (newarray.typeOf ArrayType.boolean)).before args s = true := C.2.2.2.2.2.1 (Cond.arrayClass .boolean) (pm_in pm_ar3.2.1)
    refine va_newaK C.1 C.2.1 harr rfl hd rfl hx0 rfl (by
      have : componentBytes (newarray.typeOf .boolean) ≤ 8 := by decide
      have := Nat.mul_le_mul hn this
      omega) r1 (by omega) rfl fun H1 cA e1 z1 o1 hAr hNm => ?_
    have hcA : cA = g.2.2.2.2 1 := Option.some.inj (hNm.symm.trans (hst.1.2 1 _ rfl).2)
    subst hcA
    refine pm_arr_go C hk hlt hp hn hle hL hlen hW hS h2 z1 o1 ?_
    rw [pm_en_2 hsh, pm_ad_new hlt hp hW]
    show H1[H.size]? = some (vp_cell _ _)
    rw [e1]
    refine congrArg some (pm_arr_eq (F' := fun j => Value.int ((pm_new M (f, i)).1 f i j)) fun j => ?_)
    have z2 : (pm_new M (f, i)).1 f i j = 0 := pm_z_at
    rw [z2]
    rfl
  · cases h1
theorem pm_s_nal (C : pm_Cx p l s m args meth c mi g) (hR : 1000 ≤ R.cells ∧ 20000 ≤ R.slots) (hk : ∀ pc' L' S' M', k pc' L' S' M' = some r → pm_W p l e R s m args below meth c Q g M0 pc' L' S' M') (hd : decode (pm_code mi) pc = .ok (.newarray .long, 2))
    (h : pm_na g.2.2.1 k 3 2 pc (fun _ => true) L S M = some r) : pm_W p l e R s m args below meth c Q g M0 pc L S M := by
  obtain ⟨x, t, hS0, h1⟩ := pm_i1_inv h
  subst hS0
  split at h1
  · rename_i hx0
    obtain ⟨f, i, cs, hlt, hp, hsh, -, h2⟩ := pm_mk_inv h1
    intro hle ls H locs hL hlen hW hS
    have h99 := (pm_new_ok (g := g) hlt hp).1
    have hn := pm_shp_n hsh (by decide) h99
    obtain ⟨r1, r2⟩ := pm_room (M0 := M0) (R := R) ⟨hW.2.1, hW.2.2.1⟩ hR hlt
    have hst := C.2.2.2.2.2.2.2.2.2.2
    have harr : (Cond.arrayClass (newarray.typeOf ArrayType.long)).before args s = true := C.2.2.2.2.2.1 (Cond.arrayClass .long) (pm_in pm_ar3.2.2)
    refine va_newaK C.1 C.2.1 harr rfl hd rfl hx0 rfl (by
      have : componentBytes (newarray.typeOf .long) ≤ 8 := by decide
      have := Nat.mul_le_mul hn this
      omega) r1 (by omega) rfl fun H1 cA e1 z1 o1 hAr hNm => ?_
    have hcA : cA = g.2.2.2.2 2 := Option.some.inj (hNm.symm.trans (hst.1.2 2 _ rfl).2)
    subst hcA
    refine pm_arr_go C hk hlt hp hn hle hL hlen hW hS h2 z1 o1 ?_
    rw [pm_en_3 hsh, pm_ad_new hlt hp hW]
    show H1[H.size]? = some (vp_cell _ _)
    rw [e1]
    refine congrArg some (pm_arr_eq (F' := fun j => Value.long ((pm_new M (f, i)).2.1 f i j)) fun j => ?_)
    have z2 : (pm_new M (f, i)).2.1 f i j = 0 := pm_z_at
    rw [z2]
    rfl
  · cases h1
theorem pm_s_naa (C : pm_Cx p l s m args meth c mi g) (hR : 1000 ≤ R.cells ∧ 20000 ≤ R.slots) (hk : ∀ pc' L' S' M', k pc' L' S' M' = some r → pm_W p l e R s m args below meth c Q g M0 pc' L' S' M') {idx ci : Nat} (hcl : pm_cls (pm_own mi) idx = some (.inl ci)) (hd : decode (pm_code mi) pc = .ok (.anewarray idx, 3))
    (h : pm_na g.2.2.1 k 4 3 pc (fun c => c == [ci]) L S M = some r) : pm_W p l e R s m args below meth c Q g M0 pc L S M := by
  obtain ⟨x, t, hS0, h1⟩ := pm_i1_inv h
  subst hS0
  split at h1
  · rename_i hx0
    obtain ⟨f, i, cs, hlt, hp, hsh, hcs, h2⟩ := pm_mk_inv h1
    rw [beq_iff_eq] at hcs
    subst hcs
    intro hle ls H locs hL hlen hW hS
    have h99 := (pm_new_ok (g := g) hlt hp).1
    have hn := pm_shp_n hsh (by decide) h99
    obtain ⟨r1, r2⟩ := pm_room (M0 := M0) (R := R) ⟨hW.2.1, hW.2.2.1⟩ hR hlt
    have hst := C.2.2.2.2.2.2.2.2.2.2
    have hck := List.all_eq_true.mp pm_clck _ (pm_lk_mem hcl)
    simp only [Bool.and_eq_true, decide_eq_true_eq] at hck
    obtain ⟨t0, ck, rc, hck2, hrc, hty⟩ := pm_ty4 (g := g) hsh
    cases hck2
    have hao : Cond.arrayOver (.object (pm_nm ci)) ∈ pm_Tl := by
      rcases pm_shp4 hsh with h9 | h9 <;> cases h9
      · exact pm_in pm_aov.1
      · exact pm_in pm_aov.2
    have hrn : rc.1 = pm_nm ci := by
      obtain ⟨Cn, T, N⟩ := rc
      exact (pm_cl_ok hrc).2.2.2.2.1
    refine W.anew C.1 C.2.1 C.2.2.2.2.1 (C.2.2.2.2.2.1 _ (pm_in hck.1)) (C.2.2.2.2.2.1 _ hao) rfl hd rfl hx0 (by omega) r1 (by omega) fun cA kA comp f1 f2 f3 f4 => ?_
    have hcA : cA = g.2.2.2.2 (3 + [ci].headD 0) := by
      obtain ⟨kA2, comp2, -, -, -, f5⟩ := (hst.1.2 t0 _ hty).2
      rw [hrn] at f5
      exact Option.some.inj (f1.symm.trans f5)
    subst hcA
    refine pm_arr_go C hk hlt hp hn hle hL hlen hW hS h2 (by rw [Array.size_push]) (fun q hq => by rw [Array.getElem?_push, if_neg (Nat.ne_of_lt hq)]) ?_
    rw [pm_en_4 hsh, pm_ad_new hlt hp hW]
    show (Array.push _ _)[H.size]? = some (vp_cell _ _)
    rw [Array.getElem?_push_size]
    rw [arrV_new]
    refine congrArg some (pm_arr_eq (F' := fun j => va_rf (((pm_new M (f, i)).2.2.1 f i j).map fun (q : Nat × Nat) => pm_ad g q.1 q.2)) fun j => ?_)
    have z2 : (pm_new M (f, i)).2.2.1 f i j = none := pm_z_at
    rw [z2]
    rfl
  · cases h1
end PMN
