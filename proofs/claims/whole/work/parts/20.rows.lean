/-! how the pure machine's values, locals and memory stand for the machine's own; the rows that the kit has in another form -/
abbrev pm_G : Type := Nat × Nat × Nat × va_G × (Nat → ClassId)
def pm_ad (g : pm_G) (f i : Nat) : Nat := if f = 99 then g.2.1 else g.1 + pm_pidx f i
def pm_cv (g : pm_G) : pm_V → Value
  | .inl x => .int x
  | .inr (.inl x) => .long x
  | .inr (.inr none) => .null
  | .inr (.inr (some q)) => .ref (pm_ad g q.1 q.2)
theorem pm_cat_cv (g : pm_G) (v : pm_V) : (pm_cv g v).category = pm_cat v := by
  rcases v with x | x | _ | q <;> rfl
theorem pm_sum_cv (g : pm_G) (S : List pm_V) : ((S.map (pm_cv g)).map fun v => v.category).sum = (S.map pm_cat).sum := by
  congr 1
  rw [List.map_map]
  exact List.map_congr_left fun v _ => pm_cat_cv g v
def pm_LR (g : pm_G) (L : pm_L) (ls : Array Slot) : Prop := ls.size = L.length ∧ lv_wf ls ∧ ∀ (i : Nat) (v : pm_V), L[i]? = some (some v) → ls[i]? = some (.val (pm_cv g v))
theorem pm_pre_cat {L : pm_L} {j : Nat} {w : pm_V} (h : pm_pre L (j + 1) = true) (hw : L[j]? = some (some w)) : pm_cat w = 1 := by
  rcases w with x | x | q
  · rfl
  · simp [pm_pre, hw] at h
  · rfl
theorem pm_LR_st {g : pm_G} {L : pm_L} {ls : Array Slot} {i : Nat} {v : Value} (h : pm_LR g L ls) (hi : i < L.length) (hp : pm_pre L i = true) (hc : v.category = 1) :
    ∃ ls', storeLocals ls i v = some ls' ∧ ls'.size = L.length ∧ lv_wf ls' ∧ ls'[i]? = some (.val v) ∧ ∀ (j : Nat) (w : pm_V), j ≠ i → L[j]? = some (some w) → ls'[j]? = some (.val (pm_cv g w)) := by
  obtain ⟨h1, h2, h3⟩ := h
  obtain ⟨ls', e', q1, q2, q3⟩ := lv_store1 (l := []) (v := v) (i := i) (nL := L.length) ⟨h1, h2, fun _ h => by cases h⟩ hi hc
  refine ⟨ls', e', q1, q2, q3 (i, v) List.mem_cons_self, fun j w hj hw => ?_⟩
  obtain ⟨ls2, e2, r1, r2, r3⟩ := lv_store1 (l := [(j, pm_cv g w)]) (v := v) (i := i) (nL := L.length) ⟨h1, h2, fun q hq => by
    rw [List.mem_singleton] at hq
    rw [hq]; exact h3 j w hw⟩ hi hc
  have e3 : ls2 = ls' := Option.some.inj (e2.symm.trans e')
  subst e3
  refine r3 (j, pm_cv g w) (List.mem_cons_of_mem _ ?_)
  rw [List.mem_filter]
  refine ⟨List.mem_cons_self, ?_⟩
  by_cases hji : j + 1 = i
  · subst hji
    have := pm_pre_cat hp hw
    simp [pm_cat_cv, this]
  · simp [hj, hji]
theorem pm_LR_set {g : pm_G} {L : pm_L} {ls : Array Slot} {i : Nat} {v : pm_V} (h : pm_LR g L ls) (hi : i < L.length) (hp : pm_pre L i = true) (hc : pm_cat v = 1) :
    ∃ ls', storeLocals ls i (pm_cv g v) = some ls' ∧ pm_LR g (L.set i (some v)) ls' := by
  obtain ⟨ls', e', q1, q2, q3, q4⟩ := pm_LR_st (v := pm_cv g v) h hi hp (by rw [pm_cat_cv]; exact hc)
  refine ⟨ls', e', by rw [q1, List.length_set], q2, fun j w hw => ?_⟩
  by_cases hj : j = i
  · subst hj
    rw [List.getElem?_set_self hi] at hw
    cases hw
    exact q3
  · rw [List.getElem?_set_ne (Ne.symm hj)] at hw
    exact q4 j w hj hw
theorem pm_LR_none {g : pm_G} {L : pm_L} {ls : Array Slot} {i : Nat} {v : Value} (h : pm_LR g L ls) (hi : i < L.length) (hp : pm_pre L i = true) (hc : v.category = 1) :
    ∃ ls', storeLocals ls i v = some ls' ∧ pm_LR g (L.set i none) ls' := by
  obtain ⟨ls', e', q1, q2, q3, q4⟩ := pm_LR_st (v := v) h hi hp hc
  refine ⟨ls', e', by rw [q1, List.length_set], q2, fun j w hw => ?_⟩
  by_cases hj : j = i
  · subst hj
    rw [List.getElem?_set_self hi] at hw
    cases hw
  · rw [List.getElem?_set_ne (Ne.symm hj)] at hw
    exact q4 j w hj hw
theorem pm_c_eq (n : Int) : Int32.ofInt n = pm_c n := by
  cases n with
  | ofNat k => rfl
  | negSucc k => 
    show Int32.ofInt (Int.negSucc k) = - Int32.ofNat (k + 1)
    rw [Int.negSucc_eq, Int32.ofInt_neg]
    rfl
theorem pm_c8 {n : Int} (h1 : -128 ≤ n) (h2 : n ≤ 127) : (Int8.ofInt n).toInt32 = pm_c n := by
  rw [← pm_c_eq, ← Int32.toInt_inj, Int8.toInt_toInt32, Int8.toInt_ofInt, Int32.toInt_ofInt]
  rw [Int.bmod_eq_of_le (by show -(((256 : Nat) : Int) / 2) ≤ n; omega) (by show n < (((256 : Nat) : Int) + 1) / 2; omega), Int.bmod_eq_of_le (by show -(((4294967296 : Nat) : Int) / 2) ≤ n; omega) (by show n < (((4294967296 : Nat) : Int) + 1) / 2; omega)]
theorem pm_c16 {n : Int} (h1 : -32768 ≤ n) (h2 : n ≤ 32767) : (Int16.ofInt n).toInt32 = pm_c n := by
  rw [← pm_c_eq, ← Int32.toInt_inj, Int16.toInt_toInt32, Int16.toInt_ofInt, Int32.toInt_ofInt]
  rw [Int.bmod_eq_of_le (by show -(((65536 : Nat) : Int) / 2) ≤ n; omega) (by show n < (((65536 : Nat) : Int) + 1) / 2; omega), Int.bmod_eq_of_le (by show -(((4294967296 : Nat) : Int) / 2) ≤ n; omega) (by show n < (((4294967296 : Nat) : Int) + 1) / 2; omega)]
section PMR
variable {p : Program} {l : Launch} {e : Env} {R : Room} {s : State} {m : MethodId} {args : Array Value} {below : List Frame} {meth : Method} {c : Code} {H : Heap} {locs : List Loc} {cells slots : Nat} {Q : State → Prop}
variable {cc : ByteArray} {pc : Nat} {ls : Array Slot} {rest : List Value}
theorem pm_w_istore_n (hexec : p.tables.exec = Jvm.exec) (hb : c.code = cc) {k : Fin 4} {x : Int32} {ls' : Array Slot} (hdg : decode cc pc = .ok (.istore_n k, 1)) (e' : storeLocals ls (k : Nat) (.int x) = some ls')
    (kk : W p l e R s m args below meth c H locs cells slots Q (F0 m (pc + 1) ls' rest)) : W p l e R s m args below meth c H locs cells slots Q (F0 m pc ls (.int x :: rest)) := by
  intro T hT X
  obtain ⟨t, a, b⟩ := kk T hT X
  refine ⟨t, ?_, b⟩
  jvm_step X.here [X.here.top, ↓top_set X.here.top, hexec, hb, hdg, e']
  exact a
theorem pm_w_istore (hexec : p.tables.exec = Jvm.exec) (hb : c.code = cc) {i : Nat} {x : Int32} {ls' : Array Slot} (hdg : decode cc pc = .ok (.istore i, 2)) (e' : storeLocals ls i (.int x) = some ls')
    (kk : W p l e R s m args below meth c H locs cells slots Q (F0 m (pc + 2) ls' rest)) : W p l e R s m args below meth c H locs cells slots Q (F0 m pc ls (.int x :: rest)) := by
  intro T hT X
  obtain ⟨t, a, b⟩ := kk T hT X
  refine ⟨t, ?_, b⟩
  jvm_step X.here [X.here.top, ↓top_set X.here.top, hexec, hb, hdg, e']
  exact a
theorem pm_w_astore_n (hexec : p.tables.exec = Jvm.exec) (hb : c.code = cc) {k : Fin 4} {v : Value} (hv : v = .null ∨ ∃ a, v = .ref a) {ls' : Array Slot} (hdg : decode cc pc = .ok (.astore_n k, 1)) (e' : storeLocals ls (k : Nat) v = some ls')
    (kk : W p l e R s m args below meth c H locs cells slots Q (F0 m (pc + 1) ls' rest)) : W p l e R s m args below meth c H locs cells slots Q (F0 m pc ls (v :: rest)) := by
  intro T hT X
  obtain ⟨t, a, b⟩ := kk T hT X
  refine ⟨t, ?_, b⟩
  rcases hv with rfl | ⟨q, rfl⟩
  · jvm_step X.here [X.here.top, ↓top_set X.here.top, hexec, hb, hdg, e', Value.isRef]
    exact a
  · jvm_step X.here [X.here.top, ↓top_set X.here.top, hexec, hb, hdg, e', Value.isRef]
    exact a
theorem pm_w_astore (hexec : p.tables.exec = Jvm.exec) (hb : c.code = cc) {i : Nat} {v : Value} (hv : v = .null ∨ ∃ a, v = .ref a) {ls' : Array Slot} (hdg : decode cc pc = .ok (.astore i, 2)) (e' : storeLocals ls i v = some ls')
    (kk : W p l e R s m args below meth c H locs cells slots Q (F0 m (pc + 2) ls' rest)) : W p l e R s m args below meth c H locs cells slots Q (F0 m pc ls (v :: rest)) := by
  intro T hT X
  obtain ⟨t, a, b⟩ := kk T hT X
  refine ⟨t, ?_, b⟩
  rcases hv with rfl | ⟨q, rfl⟩
  · jvm_step X.here [X.here.top, ↓top_set X.here.top, hexec, hb, hdg, e', Value.isRef]
    exact a
  · jvm_step X.here [X.here.top, ↓top_set X.here.top, hexec, hb, hdg, e', Value.isRef]
    exact a
theorem pm_w_iinc (hexec : p.tables.exec = Jvm.exec) (hb : c.code = cc) {i : Nat} {n : Int} {x : Int32} {ls' : Array Slot} (hdg : decode cc pc = .ok (.iinc i n, 3)) (hg : ls[i]? = some (.val (.int x))) (e' : storeLocals ls i (.int (x + Int32.ofInt n)) = some ls')
    (kk : W p l e R s m args below meth c H locs cells slots Q (F0 m (pc + 3) ls' rest)) : W p l e R s m args below meth c H locs cells slots Q (F0 m pc ls rest) := by
  intro T hT X
  obtain ⟨t, a, b⟩ := kk T hT X
  refine ⟨t, ?_, b⟩
  jvm_step X.here [X.here.top, ↓top_set X.here.top, hexec, hb, hdg, hg, e']
  exact a
theorem pm_cv_ref (g : pm_G) (q : Option (Nat × Nat)) : pm_cv g (pm_a q) = .null ∨ ∃ a, pm_cv g (pm_a q) = .ref a := by
  cases q with
  | none => exact Or.inl rfl
  | some q => exact Or.inr ⟨_, rfl⟩
theorem pm_w_aload_n (hexec : p.tables.exec = Jvm.exec) (hb : c.code = cc) {k : Fin 4} {v : Value} (hv : v = .null ∨ ∃ a, v = .ref a) (hdg : decode cc pc = .ok (.aload_n k, 1)) (hl : ls[(k : Nat)]? = some (.val v))
    (kk : W p l e R s m args below meth c H locs cells slots Q (F0 m (pc + 1) ls (v :: rest))) : W p l e R s m args below meth c H locs cells slots Q (F0 m pc ls rest) := by
  rcases hv with rfl | ⟨a, rfl⟩
  · exact lv_aload_nN hexec hb hdg rfl hl kk
  · exact lv_aload_n hexec hb hdg rfl hl kk
theorem pm_w_aload (hexec : p.tables.exec = Jvm.exec) (hb : c.code = cc) {i : Nat} {v : Value} (hv : v = .null ∨ ∃ a, v = .ref a) (hdg : decode cc pc = .ok (.aload i, 2)) (hl : ls[i]? = some (.val v))
    (kk : W p l e R s m args below meth c H locs cells slots Q (F0 m (pc + 2) ls (v :: rest))) : W p l e R s m args below meth c H locs cells slots Q (F0 m pc ls rest) := by
  rcases hv with rfl | ⟨a, rfl⟩
  · exact lv_aloadN hexec hb hdg hl kk
  · exact lv_aload hexec hb hdg hl kk
/-- a return: what holds at the end -/
theorem pm_w_iret (hexec : p.tables.exec = Jvm.exec) (hb : c.code = cc) {ty : FieldType} (hr : meth.sig.returnType = some ty) {v : Int32} (hn : narrow ty (.int v) = .int v) (hlocks : meth.locks = false)
    (hq : ∀ t : State, t.heap = H → t.status = .running → Ended t below (.returned (some (.int v))) → s.WarmedH t.vm → s.sameButNew ({ t with vm := s.vm } : State) locs cells slots → Q t)
    (hdg : decode cc pc = .ok (.ireturn, 1)) : W p l e R s m args below meth c H locs cells slots Q (F0 m pc ls [.int v]) := by
  intro T hT X
  obtain ⟨fs, hret, hrun, hended, hW, hframe⟩ := X.leave (v := some (.int v)) (fun h => by rw [hr] at h; cases h)
  have hmeth' : T.vm.method? m = some meth := X.method'
  refine ⟨T.setFrames fs, ?_, hq _ hT hrun hended hW hframe⟩
  jvm_step X.here [X.here.top, hexec, hb, hdg, hmeth', hr, hn]
  (try refine ⟨rfl, ?_⟩); (try refine ⟨rfl, ?_⟩)
  first | (intro acts; rw [hret _ acts rfl rfl rfl]) | rw [hret _ _ rfl rfl rfl]
  exact Steps.refl _
theorem pm_w_vret (hexec : p.tables.exec = Jvm.exec) (hb : c.code = cc) (hr : meth.sig.returnType = none) (hlocks : meth.locks = false)
    (hq : ∀ t : State, t.heap = H → t.status = .running → Ended t below (.returned none) → s.WarmedH t.vm → s.sameButNew ({ t with vm := s.vm } : State) locs cells slots → Q t)
    (hdg : decode cc pc = .ok (.return_, 1)) : W p l e R s m args below meth c H locs cells slots Q (F0 m pc ls []) := by
  intro T hT X
  obtain ⟨fs, hret, hrun, hended, hW, hframe⟩ := X.leave (v := none) (fun _ => rfl)
  have hmeth' : T.vm.method? m = some meth := X.method'
  refine ⟨T.setFrames fs, ?_, hq _ hT hrun hended hW hframe⟩
  jvm_step X.here [X.here.top, hexec, hb, hdg, hmeth', hr]
  (try refine ⟨rfl, ?_⟩); (try refine ⟨rfl, ?_⟩)
  first | (intro acts; rw [hret _ acts rfl rfl rfl]) | rw [hret _ _ rfl rfl rfl]
  exact Steps.refl _
theorem pm_w_aret (hexec : p.tables.exec = Jvm.exec) (hb : c.code = cc) {nm : String} (hr : meth.sig.returnType = some (.object nm)) {v : Value} (hv : v = .null ∨ ∃ a, v = .ref a) (hlocks : meth.locks = false)
    (hq : ∀ t : State, t.heap = H → t.status = .running → Ended t below (.returned (some v)) → s.WarmedH t.vm → s.sameButNew ({ t with vm := s.vm } : State) locs cells slots → Q t)
    (hdg : decode cc pc = .ok (.areturn, 1)) : W p l e R s m args below meth c H locs cells slots Q (F0 m pc ls [v]) := by
  intro T hT X
  obtain ⟨fs, hret, hrun, hended, hW, hframe⟩ := X.leave (v := some v) (fun h => by rw [hr] at h; cases h)
  have hmeth' : T.vm.method? m = some meth := X.method'
  refine ⟨T.setFrames fs, ?_, hq _ hT hrun hended hW hframe⟩
  rcases hv with rfl | ⟨a, rfl⟩ <;>
    (jvm_step X.here [X.here.top, hexec, hb, hdg, hmeth', hr]
     (try refine ⟨rfl, ?_⟩); (try refine ⟨rfl, ?_⟩)
     first | (intro acts; rw [hret _ acts rfl rfl rfl]) | rw [hret _ _ rfl rfl rfl]
     exact Steps.refl _)
end PMR
