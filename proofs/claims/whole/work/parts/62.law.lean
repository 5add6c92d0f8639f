/-! THE CLAIM OUT OF ONE WALK OF THE LAW'S BODY. Your part is whole_start (and what it stands on); all else here is the same for every law, but numbers. -/
def R_law : String := "JobLayerLaw"
def lw_P (b : Addr) (xs : List Int32) (args : Array Value) (s : State) : Prop := args = #[.ref b] ∧ s.IntsAt b xs ∧ xs.length ≤ 3072 ∧ (Jvm.Cond.and given_1 narrow_1).before args s = true
def lw_Q (_ : Array Value) (s : State) (o : Outcome) (t : State) : Prop := o = .returned (some (.int 1)) ∧ Framed s o t [] 620651 7234152
def lw_Z (below : List Frame) (a : Array Value) (s : State) : State → Prop := fun t => ∃ o, t.status = .running ∧ Ended t below o ∧ lw_Q a s o t
/-- the memory at the law's start: the script alone -/
def pm_init (xs : Nat → Int32) : pm_M := (fun f i j => if f = 99 ∧ i = 0 then xs j else 0, fun _ _ _ => 0, fun _ _ _ => none, 0, 0)
/-- WHAT IS LEFT TO SHOW, of the pure machine alone: on every script of at most N ints the law comes to its end with 1 -/
def pm_Pure (N : Nat) : Prop := ∀ (ns : Nat) (xs : Nat → Int32), ns ≤ N → ∃ fu n M', pm_go (pm_call fu ns 12) ns 12 146 n 0 [some (pm_r 99 0), none, none, none, none, none, none] [] (pm_init xs) = some (Sum.inl (some (pm_i 1)), M')
theorem pm_knows {args : Array Value} {s : State} (hts : ∀ w ∈ pm_Tl, w.before args s = true) : ∃ (D : va_G) (dA : Nat → ClassId), ∀ (a b n : Nat), va_K D pm_K (pm_tys (a, b, n, D, dA)) s := by
  have hk : ∀ c : Nat, ∃ q : ClassId × (Nat → Nat), ∀ (r : vw_C), pm_K[c]? = some r → u_Kn s r.1 r.2.1 r.2.2 q.1 q.2 := by
    intro c
    cases hc : pm_K[c]? with
    | none => exact ⟨(0, fun _ => 0), fun r h => by cases h⟩
    | some r =>
      obtain ⟨Cn, T, N⟩ := r
      obtain ⟨hin, -, -, -, -, -, hins, -⟩ := pm_cl_ok hc
      obtain ⟨cC, iS, h⟩ := u_known hts hin (hts _ hins)
      exact ⟨(cC, iS), fun r hr => by cases hr; exact h⟩
  obtain ⟨a1, k1, p1, f1, g1, h1⟩ := Cond.arrayClass_spec (hts _ (pm_in pm_ar3.1))
  obtain ⟨a2, k2, p2, f2, g2, h2⟩ := Cond.arrayClass_spec (hts _ (pm_in pm_ar3.2.1))
  obtain ⟨a3, k3, p3, f3, g3, h3⟩ := Cond.arrayClass_spec (hts _ (pm_in pm_ar3.2.2))
  obtain ⟨p4, a4, k4, q4, -, g4, h4, f4⟩ := Cond.arrayOver_spec (hts _ (pm_in pm_aov.1))
  obtain ⟨p5, a5, k5, q5, -, g5, h5, f5⟩ := Cond.arrayOver_spec (hts _ (pm_in pm_aov.2))
  refine ⟨(fun c => (Classical.choose (hk c)).1, fun c => (Classical.choose (hk c)).2), fun k => match k with | 0 => a1 | 1 => a2 | 2 => a3 | 4 => a4 | _ => a5, fun a b n => ⟨fun c q hq => Classical.choose_spec (hk c) q hq, fun k q hq => ?_⟩⟩
  rcases k with _ | _ | _ | _ | _ | k
  · cases hq
    exact ⟨fun n z => ⟨(fun k h => by cases h), k1, g1, p1, h1⟩, f1⟩
  · cases hq
    exact ⟨fun n z => ⟨(fun k h => by cases h), k2, g2, p2, h2⟩, f2⟩
  · cases hq
    exact ⟨fun n z => ⟨(fun k h => by cases h), k3, g3, p3, h3⟩, f3⟩
  · cases hq
    exact ⟨fun n z => ⟨(fun k h => by cases h), k4, g4, p4, h4⟩, k4, p4, g4, h4, q4, f4⟩
  · cases hq
    exact ⟨fun n z => ⟨(fun k h => by cases h), k5, g5, p5, h5⟩, k5, p5, g5, h5, q5, f5⟩
  · cases hq
theorem pm_ls : Cond.laysStatic Bundle.tN "UNASSIGNED_STACK" Bundle.steD ∈ tables_1 ∧ Cond.laysStatic Bundle.tN "SUPPRESSED_SENTINEL" Bundle.listD ∈ tables_1 := by decide +kernel
theorem pm_gn : Cond.isRef (.static Bundle.tN "UNASSIGNED_STACK" Bundle.steD) ∈ flatC (Jvm.Cond.and given_1 narrow_1) ∧ Cond.isRef (.static Bundle.tN "SUPPRESSED_SENTINEL" Bundle.listD) ∈ flatC (Jvm.Cond.and given_1 narrow_1) ∧ Cond.not (.castable (pm_exn 0) (pm_exn 1)) ∈ flatC (Jvm.Cond.and given_1 narrow_1) ∧ Cond.not (.castable (pm_exn 1) (pm_exn 0)) ∈ flatC (Jvm.Cond.and given_1 narrow_1) := by decide +kernel
theorem pm_ncast {args : Array Value} {s : State} {A B : String} (h : (Cond.not (.castable A B)).before args s = true) : ∃ a b, s.vm.findClass A = some a ∧ s.vm.findClass B = some b ∧ s.vm.assignable a b = false := by
  have hv := Cond.holds_not_iff.mp h
  simp only [Cond.value] at hv
  cases ha : s.vm.findClass A with
  | none => simp [ha] at hv
  | some a =>
    cases hb : s.vm.findClass B with
    | none => simp [ha, hb] at hv
    | some b =>
      refine ⟨a, b, rfl, rfl, ?_⟩
      simpa [ha, hb] using hv
/-- what holds at the law's entry -/
def lw_At (p : Program) (s : State) (m : MethodId) (meth : Method) (c : Code) (b L : Nat) (xs : Nat → Int32) : Prop :=
  p.tables.exec = Jvm.exec ∧ c.code = code ∧ meth.sig.returnType = ret ∧ c.maxLocals = 7 ∧ s.vm.findClass R_law = some m.cls ∧ (∀ w ∈ lw_tbl, w.before #[Value.ref b] s = true) ∧ va_X b L xs s s.heap ∧ b < s.heap.size ∧ meth.locks = false ∧ (Jvm.Cond.and given_1 narrow_1).before #[Value.ref b] s = true ∧ c.exceptionTable.isEmpty = true
theorem whole_start {p : Program} {e : Env} {s : State} {m : MethodId} {below : List Frame} {meth : Method} {c : Code} (l : Launch) (hl : l.stackTraces = false) (hpure : pm_Pure 3072) {b L : Nat} {xs : Nat → Int32} (hL : L ≤ 3072) (C0 : lw_At p s m meth c b L xs) : W p l e room_1 s m #[Value.ref b] below meth c s.heap [] 0 0 (lw_Z below #[Value.ref b] s) (entryFrame m ([Value.ref b] : List Value).toArray 7) := by
  obtain ⟨hx, hb, hr, hml, hown, hts, hX, hbl, hlocks, hgv, hex⟩ := C0
  have hts' : ∀ w ∈ pm_Tl, w.before #[Value.ref b] s = true := fun w hw => hts w (List.mem_filter.mp hw).1
  have hfl := flat_of_before _ hgv
  obtain ⟨D, dA, hK⟩ := pm_knows hts'
  obtain ⟨fu, n, M', hgo⟩ := hpure L xs hL
  have hno : pm_No s := by
    obtain ⟨a, b', h1, h2, h3⟩ := pm_ncast (hfl _ pm_gn.2.2.1)
    obtain ⟨a', b'', h4, h5, h6⟩ := pm_ncast (hfl _ pm_gn.2.2.2)
    cases h1.symm.trans h5
    cases h2.symm.trans h4
    exact ⟨a, b', h1, h2, h3, h6⟩
  have hst : pm_St (s.heap.size, b, L, D, dA) s := ⟨hK _ _ _, hbl, Nat.le_refl _, pm_Z1.of (hts _ (List.mem_append_right _ pm_ls.1)) (hfl _ pm_gn.1), pm_Z1.of (hts _ (List.mem_append_right _ pm_ls.2)) (hfl _ pm_gn.2.1), hno⟩
  have hne : c.exceptionTable.toList = [] := by
    have h0 : c.exceptionTable.size = 0 := by simpa [Array.isEmpty] using hex
    exact List.eq_nil_of_length_eq_zero (by simpa using h0)
  have C : pm_Cx p l s m #[Value.ref b] meth c 146 (s.heap.size, b, L, D, dA) := ⟨hx, hb, hr, hml, hown, hts', hlocks, (fun h => by cases h), (by rw [hne]; rfl), hl, hst⟩
  have hRm : pm_Rm 12 room_1 := by
    show 12 + 1 ≤ 13 ∧ 1000 * (12 + 1) ≤ 620651 ∧ 20000 * (12 + 1) ≤ 7234152 ∧ 40 * 12 + 26 ≤ 506
    omega
  have w := pm_go_ok (e := e) (below := below) (M0 := pm_init xs) C hRm (fun mj a M r' h => pm_call_ok hl fu 12 mj a M r' h) _ _ _ _ _ hgo
  have hLR : pm_LR (s.heap.size, b, L, D, dA) [some (pm_r 99 0), none, none, none, none, none, none] _ := pm_entry (g := (s.heap.size, b, L, D, dA)) [pm_r 99 0] (n := 7) (by decide)
  have hWd : pm_Wd (s.heap.size, b, L, D, dA) (pm_init xs) s s.heap := by
    refine ⟨(fun k hk => by cases hk), Nat.zero_le _, Nat.zero_le _, Nat.le_refl _, Or.inr rfl, ?_⟩
    have e1 : (pm_init xs).1 99 0 = xs := by
      funext j
      show (if (99 : Nat) = 99 ∧ (0 : Nat) = 0 then xs j else 0) = xs j
      rw [if_pos ⟨rfl, rfl⟩]
    rw [e1]
    exact hX
  have w2 := w pm_le.rfl _ s.heap [] hLR (by rw [hml]; rfl) hWd va_S.rf
  rw [Nat.sub_self, Nat.sub_self] at w2
  rw [lg_entry_eq]
  intro T hT X
  obtain ⟨t, a1, oc, h1, h2, h3, h4, h5, h6, h7, Ls, h8, h9⟩ := w2 T hT X
  refine ⟨t, a1, oc, h1, h2, h3, ?_⟩
  have h3 : oc = .returned (some (.int 1)) := h3
  refine ⟨⟨_, h3⟩, h6, ?_⟩
  have e1 : pm_cb M' ≤ 1000 ∧ pm_sb M' ≤ 20000 := by
    have q1 : M'.2.2.2.1 ≤ pm_tot := h4.2.1
    have q2 : M'.2.2.2.2 ≤ 600 := h4.2.2.1
    have := pm_tot96
    unfold pm_cb pm_sb
    omega
  refine h8.weaken (fun y hy hlt => ?_) (by show pm_cb M' - _ ≤ _; omega) (by show pm_sb M' - _ ≤ _; omega)
  have := (h9 y hy).1
  exact absurd hlt (Nat.not_lt.mpr this)
set_option maxHeartbeats 4000000 in
theorem lw_walk (l : Launch) (hl : l.stackTraces = false) (hpure : pm_Pure 3072) (b : Addr) (xs : List Int32) : MetFree l x (headSpec (Jvm.Cond.code x code maxLocals ret :: tables_1) room_1) (lw_P b xs) (fun _ _ _ _ _ => True) lw_Q := by
  refine MetFree.of_bodyS (code := code) (maxLocals := maxLocals) (ret := ret) (by decide) ?_ ?_
  · intro args s m h hn
    obtain ⟨meth, c, h1, h2, h3, h4, h5, h6, -, -⟩ := Cond.code_spec hn (atoms_spec (ws := Jvm.Cond.code x code maxLocals ret :: tables_1) h _ List.mem_cons_self)
    exact ⟨meth, c, h1, h2, h3, h4, h5, h6⟩
  · intro p e s m args below meth c s₁ B hml0 hP _
    obtain ⟨rfl, hx, hbd, hgv⟩ := hP
    obtain ⟨scr, harrAt, hlist, hof, hsmall⟩ := hx
    obtain ⟨hcb, hkn, -, -⟩ := State.arrayAt?_spec harrAt
    have hown : s.vm.findClass R_law = some m.cls := findClass_of_methodNamed B.named
    have hts0 : ∀ c ∈ (Jvm.Cond.code x code maxLocals ret :: tables_1), c.before #[Value.ref b] s = true := atoms_spec (ws := Jvm.Cond.code x code maxLocals ret :: tables_1) B.pre
    have hts : ∀ w ∈ lw_tbl, w.before #[Value.ref b] s = true := k2_hts_sels lw_privs (fun w hw => hts0 w (List.mem_cons_of_mem _ hw)) lw_privs_ok
    have hml : c.maxLocals = 7 := B.maxLocals_eq (hts0 _ List.mem_cons_self)
    have X₀ : Stand p l e room_1 s m #[Value.ref b] below meth c s₁ [] 0 0 := Stand.of_body B
    have hh0 : s₁.heap = s.heap := by rw [B.state]; rfl
    have hsz : scr.slots.size = xs.length := by rw [← Array.length_toList, hlist, List.length_map]
    have hval : ∀ j : Nat, j < xs.length → scr.slots[j]? = some (.int (xs.getD j 0)) := fun j hj => by
      rw [← Array.getElem?_toList, hlist]
      simp [hj]
    have hbl : b < s.heap.size := (Array.getElem?_eq_some_iff.mp hcb).1
    have hX : va_X b xs.length (fun j => xs.getD j 0) s s.heap := ⟨scr, hcb, hof, hkn, hsz, hval⟩
    have K : W p l e room_1 s m #[Value.ref b] below meth c s₁.heap [] 0 0 (lw_Z below #[Value.ref b] s) (entryFrame m ([Value.ref b] : List Value).toArray 7) := by
      rw [hh0]
      obtain ⟨meth', c', q1, q2, -, -, -, -, q3, -⟩ := Cond.code_spec B.named (hts0 _ List.mem_cons_self)
      cases B.method.symm.trans q1
      cases X₀.code.symm.trans q2
      exact whole_start l hl hpure hbd ⟨B.exec, B.bytes, B.returns, hml, hown, hts, hX, hbl, B.notSynchronized, hgv, q3⟩
    obtain ⟨t, a1, o, b1, b2, b3⟩ := K s₁ rfl X₀
    exact ⟨t, o, a1, b1, b2, b3⟩
theorem lw_pre_spec {args : Array Value} {s : State} (h : (Jvm.Cond.and given_1 narrow_1).before args s = true) (hr : rest_1_c.before args s = true) : ∃ (b : Addr) (xs : List Int32), lw_P b xs args s := by
  have hs := flat_of_before _ h
  have hq := flat_of_before _ hr
  have hc : (Cond.count 1).before args s = true := hs _ (by decide +kernel)
  have harr : (Cond.arrayOf (.arg 0) .int).before args s = true := hs _ (by decide +kernel)
  have hle : (Cond.le (.length (.arg 0)) (.int 3072)).before args s = true := hs _ (by decide +kernel)
  have hlen : (Cond.isInt (.length (.arg 0))).before args s = true := hq _ (by decide +kernel)
  have hall : (Cond.all (.arg 0) (.isInt (.elem (.arg 0) (.index 0)))).before args s = true := hq _ (by decide +kernel)
  obtain ⟨b, xs, hb, hx⟩ := State.ints_of_pre rfl harr hlen hall
  have hsm : xs.length < 2 ^ 31 := hx.choose_spec.2.2.2
  have hev : (Term.length (.arg 0)).eval args s none [] s = some (.int xs.length.toInt32) := hx.length_eval hb
  have hv := Cond.le_ints hev (show (Term.int 3072).eval args s none [] s = some (.int 3072) from rfl)
  have hd : xs.length.toInt32 ≤ 3072 := by
    simpa [Cond.before, Cond.holds, hv] using hle
  have hN : xs.length ≤ 3072 := (Int32.ofNat_le_ofNat hsm (by decide)).mp (show Int32.ofNat xs.length ≤ Int32.ofNat 3072 from hd)
  exact ⟨b, xs, Cond.one_arg hc (show args[0]? = some (.ref b) from hb), hx, hN, h⟩
theorem lw_comes (l : Launch) (hl : l.stackTraces = false) (hpure : pm_Pure 3072) : Comes l x (Jvm.Cond.code x code maxLocals ret :: tables_1) room_1 (fun tb e args s => Calls_1 tb e args s ∧ rest_1 tb e args s ∧ Pre_1 tb e args s)
    (fun _ _ args s o t => lw_Q args s o t) := by
  intro p e ha hc hk s m args below hf hfit hheap happ hpre
  obtain ⟨b, xs, hP⟩ := lw_pre_spec hpre.2.2 hpre.2.1
  obtain ⟨k, o, h1, h2, h3, hQ⟩   := lw_walk l hl hpure b xs p e ha hc hk s m args below hf ((Spec.applies_iff_loose hf).mp happ).1 hP trivial
  exact ⟨k, o, h1, h2, h3, hQ⟩
theorem lw_frame {s t : State} {o : Outcome} {args : Array Value} (h : Framed s o t [] 620651 7234152) :
    Framed s o t (fieldLocs frame_1_writes args s ++ arrayLocs frame_1_arrays args s ++ staticLocs frame_1_statics s) 620651 7234152 := h
theorem lw_limb (hpure : pm_Pure 3072) (L : Cond) (hL : ∀ (args : Array Value) (s t : State), L.after args s (.returned (some (.int 1))) t = true) :
    ArmFor flags0 classFile x code maxLocals ret World_1 tables_1 room_1 Calls_1 rest_1 Pre_1
      (fun tb e a s o t => postC L tb e a s o t ∧ Framed s o t (fieldLocs frame_1_writes a s ++ arrayLocs frame_1_arrays a s ++ staticLocs frame_1_statics s) 620651 7234152) := by
  intro l hfl _ _ p e ha hc hk s m args below hf hfit hheap happ hpre
  have hl : l.stackTraces = false := by
    show (!l.flags.contains Jvm.noTraceFlag) = false
    rw [hfl]
    decide +kernel
  obtain ⟨k, o, h1, h2, h3, rfl, hF⟩ := lw_comes l hl hpure p e ha hc hk s m args below hf hfit hheap happ hpre
  exact ⟨k, _, h1, h2, h3, hL args s _, lw_frame hF⟩
theorem i_of (hpure : pm_Pure 3072) : Claimed_1_1 ∧ Claimed_1_2 := ⟨lw_limb hpure limb_1_1 (fun args s t => by simp [limb_1_1, Cond.after, Cond.holds, Cond.value]), lw_limb hpure limb_1_2 (fun args s t => Cond.after_iff.mpr (by
  first | (rw [show limb_1_2 = Cond.eq .result (.int 1) from rfl, Cond.eq_ints (x := 1) (y := 1) rfl rfl]; simp; done) | (simp [limb_1_2, Cond.value, Term.eval]; done)))⟩
