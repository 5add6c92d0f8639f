/-! THE WORLD: how the memory lies in the heap; a method's contract; what a frame of the pure machine says of the machine -/
def pm_A (g : pm_G) : Nat → Prop := fun q => g.1 ≤ q ∧ q < g.1 + pm_tot
def pm_ev (g : pm_G) (M : pm_M) (f i t k : Nat) : Value := match t with
  | 1 => .long (M.2.1 f i k)
  | 2 => pm_cv g (pm_a (M.2.2.1 f i k))
  | _ => .int (M.1 f i k)
def pm_fs (g : pm_G) (M : pm_M) (f i : Nat) (tys : List Nat) : List Value := tys.mapIdx fun k t => pm_ev g M f i t k
def pm_en (g : pm_G) (M : pm_M) (f i : Nat) : va_E := match pm_shp g.2.2.1 f with
  | (0, ci, tys) => .inr (ci, pm_fs g M f i tys)
  | (1, n, _) => .inl (g.2.2.2.2 0, n, .inl (M.1 f i))
  | (2, n, _) => .inl (g.2.2.2.2 1, n, .inl (M.1 f i))
  | (3, n, _) => .inl (g.2.2.2.2 2, n, .inr (.inl (M.2.1 f i)))
  | (_, n, cs) => .inl (g.2.2.2.2 (3 + cs.headD 0), n, .inr (.inr (.inr (.inr (fun j => (M.2.2.1 f i j).map fun q => pm_ad g q.1 q.2)))))
def pm_tys (g : pm_G) : List (ClassId × FieldType) := [(g.2.2.2.2 0, .int), (g.2.2.2.2 1, .boolean), (g.2.2.2.2 2, .long), (g.2.2.2.2 4, .object "JobLayer$Task"), (g.2.2.2.2 6, .object "JobLayer$ByteRow")]
/-- an IllegalStateException isn't an IllegalArgumentException -/
def pm_No (s : State) : Prop := ∃ a b, s.vm.findClass (pm_exn 0) = some a ∧ s.vm.findClass (pm_exn 1) = some b ∧ s.vm.assignable a b = false ∧ s.vm.assignable b a = false
def pm_P (g : pm_G) (M : pm_M) (H : Heap) : Prop := ∀ k, k < M.2.2.2.1 → va_at g.2.2.2.1 pm_K (g.1 + k, pm_en g M (pm_plan k).1 (pm_plan k).2) H
/-- what holds of a method's start besides its memory -/
def pm_St (g : pm_G) (s : State) : Prop := va_K g.2.2.2.1 pm_K (pm_tys g) s ∧ g.2.1 < g.1 ∧ g.1 ≤ s.heap.size ∧ pm_Z1 "UNASSIGNED_STACK" Bundle.steD g.1 s s.heap ∧ pm_Z1 "SUPPRESSED_SENTINEL" Bundle.listD g.1 s s.heap ∧ pm_No s
def pm_Wd (g : pm_G) (M : pm_M) (s : State) (H : Heap) : Prop := pm_P g M H ∧ M.2.2.2.1 ≤ pm_tot ∧ M.2.2.2.2 ≤ 600 ∧ g.1 + M.2.2.2.1 ≤ H.size ∧ (M.2.2.2.1 = pm_tot ∨ H.size = g.1 + M.2.2.2.1) ∧ va_X g.2.1 g.2.2.1 (M.1 99 0) s H
def pm_le (M M' : pm_M) : Prop := M.2.2.2.1 ≤ M'.2.2.2.1 ∧ M.2.2.2.2 ≤ M'.2.2.2.2
def pm_cb (M : pm_M) : Nat := M.2.2.2.1 + M.2.2.2.2
def pm_sb (M : pm_M) : Nat := 128 * M.2.2.2.1 + 6 * M.2.2.2.2
def pm_rm (d : Nat) : Room := { frames := d + 1, cells := 1000 * (d + 1), slots := 20000 * (d + 1), locals := 40 * d + 26 }
/-- an end of the pure machine and an end of the machine -/
def pm_out (g : pm_G) (o : pm_O) (s : State) (oc : Outcome) (t : State) : Prop := match o with
  | .inl v => oc = .returned (v.map (pm_cv g))
  | .inr x => ∃ (a : Addr) (ce : Cell), oc = .threw a ∧ t.heap[a]? = some ce ∧ ce.vm = .none ∧ s.vm.findClass (pm_exn x) = some ce.cls
def pm_Pc (g : pm_G) (a : List pm_V) (M : pm_M) : Array Value → State → Prop := fun av s => av = (a.map (pm_cv g)).toArray ∧ pm_St g s ∧ pm_Wd g M s s.heap
def pm_Qc (g : pm_G) (M : pm_M) (r : pm_O × pm_M) : Array Value → State → Outcome → State → Prop := fun _ s oc t =>
  pm_out g r.1 s oc t ∧ pm_Wd g r.2 s t.heap ∧ va_S (pm_A g) s.heap t.heap [] ∧ s.WarmedH t.vm ∧ pm_le M r.2 ∧ ∃ L, s.sameButNew ({ t with vm := s.vm } : State) L (pm_cb r.2 - pm_cb M) (pm_sb r.2 - pm_sb M) ∧ ∀ q ∈ L, pm_A g q.base
/-- the contract of a run of the method mj: it has come to r -/
def pm_Ct (l : Launch) (g : pm_G) (d mj : Nat) (a : List pm_V) (M : pm_M) (r : pm_O × pm_M) : Prop :=
  MetFree l (pm_y mj) (headSpec (pm_hw mj :: pm_Tl) (pm_rm d)) (pm_Pc g a M) (fun _ _ _ _ _ => True) (pm_Qc g M r)
/-- a method's end, over the frames below -/
def pm_Q (below : List Frame) (g : pm_G) (M0 : pm_M) (r : pm_O × pm_M) (av : Array Value) (s : State) : State → Prop := fun t => ∃ oc, t.status = .running ∧ Ended t below oc ∧ pm_Qc g M0 r av s oc t
def pm_W (p : Program) (l : Launch) (e : Env) (R : Room) (s : State) (m : MethodId) (args : Array Value) (below : List Frame) (meth : Method) (c : Code) (Q : State → Prop) (g : pm_G) (M0 : pm_M) (pc : Nat) (L : pm_L) (S : List pm_V) (M : pm_M) : Prop :=
  pm_le M0 M → ∀ (ls : Array Slot) (H : Heap) (locs : List Loc), pm_LR g L ls → L.length = c.maxLocals → pm_Wd g M s H → va_S (pm_A g) s.heap H locs →
    W p l e R s m args below meth c H locs (pm_cb M - pm_cb M0) (pm_sb M - pm_sb M0) Q (F0 m pc ls (S.map (pm_cv g)))
/-- what a frame stands on -/
def pm_Cx (p : Program) (l : Launch) (s : State) (m : MethodId) (args : Array Value) (meth : Method) (c : Code) (mi : Nat) (g : pm_G) : Prop :=
  p.tables.exec = Jvm.exec ∧ c.code = pm_code mi ∧ meth.sig.returnType = pm_rt mi ∧ c.maxLocals = pm_maxL mi ∧ s.vm.findClass (pm_nm (pm_own mi)) = some m.cls ∧ (∀ w ∈ pm_Tl, w.before args s = true) ∧ meth.locks = false ∧ (pm_ini mi = true → meth.name = "<init>") ∧
  c.exceptionTable.toList.map (fun h => (h.startPc, h.endPc, h.handlerPc, h.catchType)) = pm_hnr mi ∧ l.stackTraces = false ∧ pm_St g s
theorem pm_u_ne {α : Type} {F : Nat → Nat → Nat → α} {f i k f' i' : Nat} {v : α} (h : ¬ (f' = f ∧ i' = i)) : pm_u F f i k v f' i' = F f' i' := by
  funext k'
  unfold pm_u
  rw [if_neg (fun q => h ⟨q.1, q.2.1⟩)]
theorem pm_z_ne {α : Type} {F : Nat → Nat → Nat → α} {f i f' i' : Nat} {v : α} (h : ¬ (f' = f ∧ i' = i)) : pm_z F f i v f' i' = F f' i' := by
  funext k'
  unfold pm_z
  rw [if_neg h]
theorem pm_u_at {α : Type} {F : Nat → Nat → Nat → α} {f i k : Nat} {v : α} : pm_u F f i k v f i = fun j => if j = k then v else F f i j := by
  funext k'
  unfold pm_u
  by_cases h : k' = k
  · rw [if_pos ⟨rfl, rfl, h⟩, if_pos h]
  · rw [if_neg (fun q => h q.2.2), if_neg h]
theorem pm_en_eq {g : pm_G} {M M' : pm_M} {f i : Nat} (h1 : M'.1 f i = M.1 f i) (h2 : M'.2.1 f i = M.2.1 f i) (h3 : M'.2.2.1 f i = M.2.2.1 f i) : pm_en g M' f i = pm_en g M f i := by
  unfold pm_en pm_fs pm_ev
  rw [h1, h2, h3]
/-- where a valid reference leads -/
theorem pm_ok_at {g : pm_G} {M : pm_M} {f i : Nat} (h : pm_ok M f i = true) (hf : f ≠ 99) (hn : M.2.2.2.1 ≤ pm_tot) : pm_pidx f i < M.2.2.2.1 ∧ pm_plan (pm_pidx f i) = (f, i) ∧ pm_ad g f i = g.1 + pm_pidx f i := by
  simp only [pm_ok, Bool.and_eq_true, Bool.or_eq_true, decide_eq_true_eq, beq_iff_eq] at h
  obtain ⟨h1, h2⟩ := h
  obtain ⟨q1, q2⟩ := pm_plan_ok f i h1 hf
  refine ⟨?_, q2, by unfold pm_ad; rw [if_neg hf]⟩
  rcases h2 with h2 | h2 | h2
  · exact absurd h2 hf
  · rw [h2]; exact q1
  · exact h2
theorem pm_P_at {g : pm_G} {M : pm_M} {H : Heap} {f i : Nat} (hP : pm_P g M H) (h : pm_ok M f i = true) (hf : f ≠ 99) (hn : M.2.2.2.1 ≤ pm_tot) : va_at g.2.2.2.1 pm_K (pm_ad g f i, pm_en g M f i) H := by
  obtain ⟨q1, q2, q3⟩ := pm_ok_at (g := g) h hf hn
  have := hP _ q1
  rw [q2] at this
  rw [q3]; exact this
theorem pm_P_upd {g : pm_G} {M M' : pm_M} {H H1 : Heap} {f i : Nat} (hP : pm_P g M H) (hn : M'.2.2.2.1 = M.2.2.2.1) (ht : M.2.2.2.1 ≤ pm_tot) (h : pm_ok M f i = true) (hf : f ≠ 99)
    (h1 : va_at g.2.2.2.1 pm_K (pm_ad g f i, pm_en g M' f i) H1) (h2 : ∀ q, q ≠ pm_ad g f i → H1[q]? = H[q]?) (h3 : ∀ f' i', ¬ (f' = f ∧ i' = i) → pm_en g M' f' i' = pm_en g M f' i') : pm_P g M' H1 := by
  obtain ⟨q1, q2, q3⟩ := pm_ok_at (g := g) h hf ht
  intro k hk
  rw [hn] at hk
  by_cases hkf : k = pm_pidx f i
  · subst hkf
    rw [q2, ← q3]; exact h1
  · have hne : ¬ ((pm_plan k).1 = f ∧ (pm_plan k).2 = i) := fun q => hkf (by
      have := pm_pidx_plan k (Nat.lt_of_lt_of_le hk ht)
      rw [q.1, q.2] at this
      exact this.symm)
    rw [h3 _ _ hne]
    refine va_at.kept (hP k hk) (h2 _ ?_)
    rw [q3]
    show g.1 + k ≠ _
    omega
theorem pm_A_ad {g : pm_G} {M : pm_M} {f i : Nat} (h : pm_ok M f i = true) (hf : f ≠ 99) (hn : M.2.2.2.1 ≤ pm_tot) : pm_A g (pm_ad g f i) := by
  obtain ⟨q1, q2, q3⟩ := pm_ok_at (g := g) h hf hn
  rw [q3]
  exact ⟨by omega, by omega⟩
/-- a store in one planned cell: the world behind it -/
theorem pm_Wd_upd {g : pm_G} {M M' : pm_M} {s : State} {H H1 : Heap} {f i : Nat} (hW : pm_Wd g M s H) (hb : g.2.1 < g.1) (hn : M'.2.2.2 = M.2.2.2) (h99 : M'.1 99 0 = M.1 99 0) (h : pm_ok M f i = true) (hf : f ≠ 99)
    (h1 : va_at g.2.2.2.1 pm_K (pm_ad g f i, pm_en g M' f i) H1) (hz : H1.size = H.size) (h2 : ∀ q, q ≠ pm_ad g f i → H1[q]? = H[q]?) (h3 : ∀ f' i', ¬ (f' = f ∧ i' = i) → pm_en g M' f' i' = pm_en g M f' i') : pm_Wd g M' s H1 := by
  obtain ⟨w1, w2, w3, w4, w5, w6⟩ := hW
  refine ⟨pm_P_upd w1 (by rw [hn]) w2 h hf h1 h2 h3, by rw [hn]; exact w2, by rw [hn]; exact w3, by rw [hn, hz]; exact w4, by rw [hn, hz]; exact w5, ?_⟩
  rw [h99]
  refine w6.kept (h2 _ ?_)
  obtain ⟨q1, q2, q3⟩ := pm_ok_at (g := g) h hf w2
  rw [q3]
  omega
theorem pm_S_put {g : pm_G} {M : pm_M} {H0 H H1 : Heap} {locs : List Loc} {f i k : Nat} (hS : va_S (pm_A g) H0 H locs) (h : pm_ok M f i = true) (hf : f ≠ 99) (hn : M.2.2.2.1 ≤ pm_tot) (hz : H1.size = H.size) (h2 : ∀ q, q ≠ pm_ad g f i → H1[q]? = H[q]?) :
    va_S (pm_A g) H0 H1 (locs ++ [⟨pm_ad g f i, k⟩]) := hS.put hz h2 (pm_A_ad h hf hn)
