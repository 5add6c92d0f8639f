/-! 'throw new E()' without a stack trace: what it needs of java.lang.Throwable's statics; the frame seen anew in its present heap -/
def pm_Z1 (n d : String) (B : Nat) (U : State) (H : Heap) : Prop := ∃ (c : ClassId) (k : Class) (i : Nat) (f : Field) (a : Nat) (cell : Cell) (v : Value), U.vm.findClass Bundle.tN = some c ∧ U.fieldFound? Bundle.tN n d = some (c, k, i, f) ∧ f.isStatic = true ∧ k.statics = some a ∧ H[a]? = some cell ∧ cell.vm.isStatics = true ∧ cell.cls = c ∧ f.slot < cell.slots.size ∧ k.staticTypes[f.slot]? = some f.type ∧ cell.slots[f.slot]? = some v ∧ v.isRef = true ∧ a < B
theorem pm_Z1.moved {n d : String} {B : Nat} {u U : State} {H H1 : Heap} (h : pm_Z1 n d B u H) (hvm : u.vm.Alike U.vm) (hq : ∀ a : Nat, a < B → H1[a]? = H[a]?) : pm_Z1 n d B U H1 := by
  obtain ⟨c, k, i, f, a, cell, v, h1, h2, h3, h4, h5, h6, h7, h8, h9, h10, h11, h12⟩ := h
  obtain ⟨k', hi', he⟩ := State.fieldFound?_setVm hvm h2
  exact ⟨c, k', i, f, a, cell, v, by rw [hvm.findClass]; exact h1, hi', h3, by rw [he]; exact h4, by rw [hq a h12]; exact h5, h6, h7, h8, by rw [he]; exact h9, h10, h11, h12⟩
theorem pm_Z1.lays {n d : String} {B : Nat} {s : State} {args : Array Value} (h : pm_Z1 n d B s s.heap) : (Cond.laysStatic Bundle.tN n d).before args s = true := by
  obtain ⟨c, k, i, f, a, cell, v, h1, h2, h3, h4, h5, h6, h7, h8, h9, -⟩ := h
  show (Cond.laysStatic Bundle.tN n d).holds args s none s [] = true
  exact Cond.laysStatic_of h1 h2 h3 h4 h5 h6 h7 h8 h9
theorem pm_Z1.ref {n d : String} {B : Nat} {s : State} {args : Array Value} (h : pm_Z1 n d B s s.heap) : (Cond.isRef (.static Bundle.tN n d)).before args s = true := by
  obtain ⟨c, k, i, f, a, cell, v, h1, h2, h3, h4, h5, h6, h7, h8, h9, h10, h11, -⟩ := h
  have he : (Term.static Bundle.tN n d).eval args s none [] s = some v := by
    simp [Term.eval, State.fieldNamed?, h2, h3, h4, h5, h6, h10]
  simp only [Cond.before, Cond.holds, Cond.value, he]
  cases v <;> simp_all [Value.isRef]
theorem pm_Z1.of {args : Array Value} {s : State} {n d : String} (hl : (Cond.laysStatic Bundle.tN n d).before args s = true) (h : (Cond.isRef (.static Bundle.tN n d)).before args s = true) : pm_Z1 n d s.heap.size s s.heap := by
  obtain ⟨c, k, i, f, a, cell, h1, h2, h3, h4, h5, h6, h7, h8, h9⟩ := Cond.laysStatic_spec hl
  obtain ⟨v, hv⟩ := Cond.staticRefV h2 h3 h4 h5 h6 h
  exact ⟨c, k, i, f, a, cell, v.v, h1, h2, h3, h4, h5, h6, h7, h8, h9, hv, v.ok, (Array.getElem?_eq_some_iff.mp h5).1⟩
section PMA
variable {p : Program} {l : Launch} {e : Env} {R : Room} {s : State} {m : MethodId} {args : Array Value} {below : List Frame} {meth : Method} {c : Code} {H : Heap} {locs : List Loc} {cells slots : Nat} {Q : State → Prop}
/-- a frame that stands at T stands there too as if it had been called at T: a start s' with T's heap; what then holds from s' holds from s -/
theorem pm_again {T : State} (X : Stand p l e R s m args below meth c T locs cells slots) (R' : Room) (hroom : R'.frames ≤ R.frames ∧ R'.locals ≤ R.locals ∧ cells + R'.cells ≤ R.cells ∧ slots + R'.slots ≤ R.slots) :
    ∃ s' : State, s'.vm = s.vm ∧ s'.heap = T.heap ∧ Stand p l e R' s' m args below meth c T [] 0 0 ∧
      ∀ (U : State) (k n : Nat), s'.sameButNew ({ U with vm := s'.vm } : State) [] k n → s.sameButNew ({ U with vm := s.vm } : State) locs (cells + k) (slots + n) := by
  obtain ⟨g₀, hfr⟩ := X.frames_eq
  obtain ⟨th, hth, -⟩ := State.frames_cons hfr
  have hcur : T.cur < T.threads.size := State.cur_lt_of_frames hfr
  have hF : ((T.setVm s.vm).setFrames (.invoking m args :: below)).frames = .invoking m args :: below := State.frames_setFrames (s := T.setVm s.vm) _ hcur
  have hlim : e.platform.stackLimits ((T.setVm s.vm).setFrames (.invoking m args :: below)).me = e.platform.stackLimits s.me := by
    rw [State.stackLimits_setFrames]; exact X.limits
  have hby : ((T.setVm s.vm).setFrames (.invoking m args :: below)).me.stackBytes = s.me.stackBytes := by
    rw [State.stackBytes_setFrames]; exact X.bytes
  have hus : ((T.setVm s.vm).setFrames (.invoking m args :: below)).localsInUse = s.localsInUse :=
    (State.localsInUse_invoking hF (meth := meth) (c := c) X.method X.code).trans (State.localsInUse_invoking X.frames X.method X.code).symm
  have hself : (T.setVm s.vm).setFrames T.frames = T.setVm s.vm := State.setFrames_self (s := T.setVm s.vm) hth
  have hno : T.heap.toList.drop T.heap.size = [] := List.drop_eq_nil_of_le (by simp)
  have hrm : ((T.setVm s.vm).setFrames (.invoking m args :: below)).hasRoom e.platform R' = true := by
    have h0 := X.room
    have a1 := X.heapSize
    have a2 := X.used
    obtain ⟨b1, b2, b3, b4⟩ := hroom
    simp only [State.hasRoom, Bool.and_eq_true, decide_eq_true_eq, hF, hus, hlim, hby, List.length_cons, X.frames] at h0 ⊢
    have e1 : ((T.setVm s.vm).setFrames (.invoking m args :: below)).heap.size = T.heap.size := rfl
    have e2 : ((T.setVm s.vm).setFrames (.invoking m args :: below)).slotsUsed = T.slotsUsed := rfl
    have e3 : ((T.setVm s.vm).setFrames (.invoking m args :: below)).slotsTrue = true := X.book
    rw [e1, e2, e3]
    refine ⟨⟨⟨⟨?_, ?_, ?_, ?_, ?_, h0.1.1.1.2.2.2.2.2⟩, ?_⟩, ?_⟩, rfl⟩ <;> omega
  have hsm : ((T.setVm s.vm).setFrames (.invoking m args :: below)).sameButNew (T.setVm s.vm) [] 0 0 := by
    refine ⟨?_, Nat.le_refl _, Nat.le_refl _, ?_, ?_, fun a c9 h9 => ⟨c9, h9, rfl, rfl, fun _ _ => rfl⟩⟩
    · have h1 : (((T.setVm s.vm).setFrames (.invoking m args :: below)).setFrames (T.setVm s.vm).frames) = T.setVm s.vm := by
        rw [State.setFrames_setFrames]; exact hself
      rw [h1]
    · show T.slotsUsed = T.slotsUsed + ((T.heap.toList.drop T.heap.size).map (·.slots.size)).sum
      rw [hno]; rfl
    · show ((T.heap.toList.drop T.heap.size).map (·.slots.size)).sum ≤ 0
      rw [hno]; exact Nat.le_refl _
  refine ⟨(T.setVm s.vm).setFrames (.invoking m args :: below), rfl, rfl, ⟨X.admits, X.cas, X.clock, hF, hrm, X.hears, X.method, X.code, X.here, X.tail, X.warmed, hlim.symm ▸ X.limits, hby.symm ▸ X.bytes, hsm⟩, fun U k n hU => ?_⟩
  obtain ⟨q1, q2⟩ := hU
  rw [State.setFrames_setFrames] at q1
  have h2 : (T.setVm s.vm).sameButNew ({ U with vm := s.vm } : State) [] k n := ⟨q1, q2⟩
  have h3 := X.same.trans h2
  rw [List.append_nil] at h3
  exact h3
theorem pm_tab {w : Cond} (hc : w.onTables = true) {A A' : Array Value} {u U : State} (h : u.vm = U.vm) (hb : w.before A u = true) : w.before A' U = true := va_tabs hc h hb
/-- the words of a throw that speak of the heap -/
def pm_hp (w : Cond) : Bool := decide (w = .isRef (.static Bundle.tN "UNASSIGNED_STACK" Bundle.steD)) || decide (w = .isRef (.static Bundle.tN "SUPPRESSED_SENTINEL" Bundle.listD)) || decide (w = .laysStatic Bundle.tN "UNASSIGNED_STACK" Bundle.steD) || decide (w = .laysStatic Bundle.tN "SUPPRESSED_SENTINEL" Bundle.listD)
theorem pm_hp_of {B : Nat} {s : State} {args : Array Value} (h1 : pm_Z1 "UNASSIGNED_STACK" Bundle.steD B s s.heap) (h2 : pm_Z1 "SUPPRESSED_SENTINEL" Bundle.listD B s s.heap) {w : Cond} (h : pm_hp w = true) : w.before args s = true := by
  simp only [pm_hp, Bool.or_eq_true, decide_eq_true_eq] at h
  rcases h with ((h | h) | h) | h <;> subst h
  · exact h1.ref
  · exact h2.ref
  · exact h1.lays
  · exact h2.lays
theorem pm_frame {U : State} {k n : Nat} (h : s.sameButNew ({ U with vm := s.vm } : State) [] k n) : s.heap.size ≤ U.heap.size ∧ ∀ q : Nat, q < s.heap.size → U.heap[q]? = s.heap[q]? := by
  obtain ⟨-, h2, -, -, -, h6⟩ := h
  refine ⟨h2, fun q hq => ?_⟩
  obtain ⟨c9, e1, e2, e3, e4⟩ := h6 q _ (Array.getElem?_eq_getElem hq)
  have hs : c9.slots = (s.heap[q]).slots := Array.ext_getElem? fun i => e4 i fun hm => nomatch hm
  have h9 : c9 = s.heap[q] := by
    rw [hs] at e2
    exact e2
  have e5 : U.heap[q]? = some c9 := e1
  rw [e5, h9, Array.getElem?_eq_getElem hq]
theorem pm_throw {cc : ByteArray} {pc : Nat} {ls : Array Slot} {rest : List Value} (hexec : p.tables.exec = Jvm.exec) (hb : c.code = cc) (hl : l.stackTraces = false) {own cls : String} {names : List String} {ik ic B : Nat}
    (hown : s.vm.findClass own = some m.cls) (hcls : Bundle.fit cls = true) (hnames : ∀ n ∈ names, Bundle.fit n = true)
    (hk : (Cond.classLink own ik cls).before args s = true) (hini : (Cond.initialized cls).before args s = true)
    (hat : ∀ w ∈ Bundle.ownAtoms0 own ic cls names, pm_hp w = true ∨ (w.onTables = true ∧ w.before args s = true))
    (hot : (Cond.classLink own ik cls).onTables = true ∧ (Cond.initialized cls).onTables = true)
    (h1 : pm_Z1 "UNASSIGNED_STACK" Bundle.steD B s H) (h2 : pm_Z1 "SUPPRESSED_SENTINEL" Bundle.listD B s H) (hsize : ls.size = c.maxLocals)
    (d0 : decode cc pc = .ok (.new ik, 3)) (d3 : decode cc (pc + 3) = .ok (.dup, 1)) (d4 : decode cc (pc + 4) = .ok (.invokespecial ic, 3)) (d7 : decode cc (pc + 7) = .ok (.athrow, 1))
    (hout : ∀ x ∈ c.exceptionTable.toList, covers x (pc + 7) = false)
    (hRframes : names.length + 3 < R.frames) (hRlocals : (rest.map fun v => v.category).sum + (13 * (names.length + 1) + 42) ≤ R.locals) (hRcells : cells + 1 ≤ R.cells) (hRslots : slots + 6 ≤ R.slots) (hlocks : meth.locks = false)
    (hq : ∀ (t : State) (x : Addr) (ce : Cell), t.status = .running → Ended t below (.threw x) → s.WarmedH t.vm → H.size ≤ t.heap.size → (∀ q : Nat, q < H.size → t.heap[q]? = H[q]?) → t.heap[x]? = some ce → ce.vm = .none → s.vm.findClass cls = some ce.cls → s.sameButNew ({ t with vm := s.vm } : State) locs (cells + 1) (slots + 6) → Q t) :
    W p l e R s m args below meth c H locs cells slots Q (F0 m pc ls rest) := by
  intro T hT X
  subst hT
  have htr : e.platform.stackTraces = false := by
    have h9 : e.platform.stackTraces = l.stackTraces := by rw [X.admits.platform]
    rw [h9]; exact hl
  obtain ⟨s', hvm, hhp, Y, hback⟩ := pm_again X { frames := R.frames, locals := R.locals, cells := 1, slots := 6 } ⟨Nat.le_refl _, Nat.le_refl _, hRcells, hRslots⟩
  have hal : s.vm.Alike s'.vm := by rw [hvm]; exact Vm.Alike.refl _
  have hwords : ∀ w ∈ Bundle.ownAtoms0 own ic cls names, w.before args s' = true := fun w hw => by
    rcases hat w hw with h9 | ⟨h8, h9⟩
    · exact pm_hp_of (by rw [hhp]; exact h1.moved hal fun _ _ => rfl) (by rw [hhp]; exact h2.moved hal fun _ _ => rfl) h9
    · exact pm_tab h8 hvm.symm h9
  have hown' : s'.vm.findClass own = some m.cls := by rw [hvm]; exact hown
  obtain ⟨vm₁, cX, kX, hfX, hkX, -, -, X₁, st1⟩ := Y.newCold hexec (own := own) (C := cls) (index := ik) (n := 6) hown' (pm_tab hot.1 hvm.symm hk) (hwords _ (by simp [Bundle.ownAtoms0])) (pm_tab hot.2 hvm.symm hini)
    (g := F0 m pc ls rest) rfl (by rw [hb]; exact d0) (Nat.le_refl _) (Nat.le_refl _)
  generalize hT1 : (T.setVm vm₁).pushCell { cls := cX, slots := kX.instanceTypes.map defaultValue, vm := .none } = T1 at X₁ st1
  have hcellA : T1.heap[T.heap.size]? = some (freshCell cX kX) := by rw [← hT1]; exact State.heap_pushCell_size _ _
  obtain ⟨U, hsteps, hrun, hend, hW, hsame, ce, hce, hO⟩ := X₁.ctorThrow0 hexec htr (own := own) (cls := cls) (names := names) (ic := ic) hown' hcls hnames hwords (fun x hx => nomatch hx) hfX hkX hcellA (by rw [hhp]; exact Nat.le_refl _)
    (g := F0 m (pc + 4) ls (.ref T.heap.size :: .ref T.heap.size :: rest)) rfl hsize rfl rfl (rest := rest) rfl
    (by rw [hb]; exact d4) (by rw [hb]; exact d7) hout hRframes (by
      simp only [List.map_cons, List.sum_cons, show (Value.ref T.heap.size).category = 1 from rfl, show (F0 m (pc + 4) ls (.ref T.heap.size :: .ref T.heap.size :: rest)).monitorRoom = 0 from rfl]
      omega) hlocks
  obtain ⟨f1, f2⟩ := pm_frame hsame
  rw [hhp] at f1 f2
  have hcl : s.vm.findClass cls = some ce.cls := by rw [← hvm]; exact hO.cls
  have hWs : s.WarmedH U.vm := by
    have h9 : s.WarmedH s'.vm := by rw [hvm]; exact State.WarmedH.refl s
    exact State.WarmedH.trans h9 hW
  have hall := hback U (0 + 1) (0 + 6) hsame
  refine ⟨U, st1 _ ?_, hq U T.heap.size ce hrun hend hWs f1 f2 hce hO.vm hcl (by simpa using hall)⟩
  have d3' : decode c.code (pc + 3) = .ok (.dup, 1) := by rw [hb]; exact d3
  show Steps p.tables e below (T1.setTop (F0 m (pc + 3) ls (.ref T.heap.size :: rest))) _
  jvm_step X₁.here [X₁.here.top, hexec, d3', Value.category]
  exact hsteps
end PMA
