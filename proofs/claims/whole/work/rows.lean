section
-- ===== PART A: goes FIRST, ahead of the names: the tables' words, and 'selects' of the private methods out of them =====
/-- a private method of a class that the tables say can be made, by its rows of tables_1 -/
def lw_okq (q : MethodName × Nat) : Prop := (q.1.cls ≠ "java/lang/invoke/MethodHandle" ∧ q.1.cls ≠ "java/lang/invoke/VarHandle") ∧ Cond.instantiable q.1.cls q.2 ∈ tables_1 ∧ Cond.privateMethod q.1 ∈ tables_1 ∧ Cond.instanceMethod q.1 ∈ tables_1
theorem lw_p0 : lw_okq (⟨"JobLayer", "sendToGroup", "(II)Z"⟩, 4) := ⟨⟨by decide +kernel, by decide +kernel⟩, List.mem_of_getElem? (i := 14) (by decide +kernel), List.mem_of_getElem? (i := 199) (by decide +kernel), List.mem_of_getElem? (i := 200) (by decide +kernel)⟩
theorem lw_p1 : lw_okq (⟨"JobLayer", "send", "(LJobLayer$Task;I)Z"⟩, 4) := ⟨⟨by decide +kernel, by decide +kernel⟩, List.mem_of_getElem? (i := 14) (by decide +kernel), List.mem_of_getElem? (i := 203) (by decide +kernel), List.mem_of_getElem? (i := 204) (by decide +kernel)⟩
theorem lw_p2 : lw_okq (⟨"JobLayer", "endTask", "(LJobLayer$Task;I)LJobLayer$Task;"⟩, 4) := ⟨⟨by decide +kernel, by decide +kernel⟩, List.mem_of_getElem? (i := 14) (by decide +kernel), List.mem_of_getElem? (i := 223) (by decide +kernel), List.mem_of_getElem? (i := 224) (by decide +kernel)⟩
theorem lw_p3 : lw_okq (⟨"JobLayer", "parentOf", "(LJobLayer$Task;)LJobLayer$Task;"⟩, 4) := ⟨⟨by decide +kernel, by decide +kernel⟩, List.mem_of_getElem? (i := 14) (by decide +kernel), List.mem_of_getElem? (i := 227) (by decide +kernel), List.mem_of_getElem? (i := 228) (by decide +kernel)⟩
theorem lw_p4 : lw_okq (⟨"JobLayer", "deliver", "(LJobLayer$Task;)LJobLayer$Task;"⟩, 4) := ⟨⟨by decide +kernel, by decide +kernel⟩, List.mem_of_getElem? (i := 14) (by decide +kernel), List.mem_of_getElem? (i := 235) (by decide +kernel), List.mem_of_getElem? (i := 236) (by decide +kernel)⟩
theorem lw_p5 : lw_okq (⟨"JobLayer", "isOrphaned", "(I)Z"⟩, 4) := ⟨⟨by decide +kernel, by decide +kernel⟩, List.mem_of_getElem? (i := 14) (by decide +kernel), List.mem_of_getElem? (i := 256) (by decide +kernel), List.mem_of_getElem? (i := 257) (by decide +kernel)⟩
theorem lw_p6 : lw_okq (⟨"JobLayer", "settle", "()V"⟩, 4) := ⟨⟨by decide +kernel, by decide +kernel⟩, List.mem_of_getElem? (i := 14) (by decide +kernel), List.mem_of_getElem? (i := 287) (by decide +kernel), List.mem_of_getElem? (i := 288) (by decide +kernel)⟩
theorem lw_p7 : lw_okq (⟨"JobLayer", "firstBlockedAfter", "(I)LJobLayer$Task;"⟩, 4) := ⟨⟨by decide +kernel, by decide +kernel⟩, List.mem_of_getElem? (i := 14) (by decide +kernel), List.mem_of_getElem? (i := 291) (by decide +kernel), List.mem_of_getElem? (i := 292) (by decide +kernel)⟩
theorem lw_p8 : lw_okq (⟨"JobLayer", "attempt", "(LJobLayer$Task;)I"⟩, 4) := ⟨⟨by decide +kernel, by decide +kernel⟩, List.mem_of_getElem? (i := 14) (by decide +kernel), List.mem_of_getElem? (i := 295) (by decide +kernel), List.mem_of_getElem? (i := 296) (by decide +kernel)⟩
theorem lw_p9 : lw_okq (⟨"JobLayer", "attemptRead", "(LJobLayer$Task;)I"⟩, 4) := ⟨⟨by decide +kernel, by decide +kernel⟩, List.mem_of_getElem? (i := 14) (by decide +kernel), List.mem_of_getElem? (i := 299) (by decide +kernel), List.mem_of_getElem? (i := 300) (by decide +kernel)⟩
theorem lw_p10 : lw_okq (⟨"JobLayer", "attemptTerminalRead", "(LJobLayer$Task;)I"⟩, 4) := ⟨⟨by decide +kernel, by decide +kernel⟩, List.mem_of_getElem? (i := 14) (by decide +kernel), List.mem_of_getElem? (i := 307) (by decide +kernel), List.mem_of_getElem? (i := 308) (by decide +kernel)⟩
theorem lw_p11 : lw_okq (⟨"JobLayer", "isOpen", "(I)Z"⟩, 4) := ⟨⟨by decide +kernel, by decide +kernel⟩, List.mem_of_getElem? (i := 14) (by decide +kernel), List.mem_of_getElem? (i := 325) (by decide +kernel), List.mem_of_getElem? (i := 326) (by decide +kernel)⟩
theorem lw_p12 : lw_okq (⟨"JobLayer", "attemptWrite", "(LJobLayer$Task;)I"⟩, 4) := ⟨⟨by decide +kernel, by decide +kernel⟩, List.mem_of_getElem? (i := 14) (by decide +kernel), List.mem_of_getElem? (i := 330) (by decide +kernel), List.mem_of_getElem? (i := 331) (by decide +kernel)⟩
theorem lw_p13 : lw_okq (⟨"JobLayer", "attemptReap", "(LJobLayer$Task;)I"⟩, 4) := ⟨⟨by decide +kernel, by decide +kernel⟩, List.mem_of_getElem? (i := 14) (by decide +kernel), List.mem_of_getElem? (i := 344) (by decide +kernel), List.mem_of_getElem? (i := 345) (by decide +kernel)⟩
theorem lw_p14 : lw_okq (⟨"JobLayer", "conclude", "(LJobLayer$Task;I)V"⟩, 4) := ⟨⟨by decide +kernel, by decide +kernel⟩, List.mem_of_getElem? (i := 14) (by decide +kernel), List.mem_of_getElem? (i := 348) (by decide +kernel), List.mem_of_getElem? (i := 349) (by decide +kernel)⟩
theorem lw_p15 : lw_okq (⟨"JobLayer", "isTask", "(I)Z"⟩, 4) := ⟨⟨by decide +kernel, by decide +kernel⟩, List.mem_of_getElem? (i := 14) (by decide +kernel), List.mem_of_getElem? (i := 357) (by decide +kernel), List.mem_of_getElem? (i := 358) (by decide +kernel)⟩
def lw_privs_1 : List (MethodName × Nat) := [(⟨"JobLayer", "sendToGroup", "(II)Z"⟩, 4), (⟨"JobLayer", "send", "(LJobLayer$Task;I)Z"⟩, 4), (⟨"JobLayer", "endTask", "(LJobLayer$Task;I)LJobLayer$Task;"⟩, 4), (⟨"JobLayer", "parentOf", "(LJobLayer$Task;)LJobLayer$Task;"⟩, 4), (⟨"JobLayer", "deliver", "(LJobLayer$Task;)LJobLayer$Task;"⟩, 4), (⟨"JobLayer", "isOrphaned", "(I)Z"⟩, 4), (⟨"JobLayer", "settle", "()V"⟩, 4), (⟨"JobLayer", "firstBlockedAfter", "(I)LJobLayer$Task;"⟩, 4), (⟨"JobLayer", "attempt", "(LJobLayer$Task;)I"⟩, 4), (⟨"JobLayer", "attemptRead", "(LJobLayer$Task;)I"⟩, 4), (⟨"JobLayer", "attemptTerminalRead", "(LJobLayer$Task;)I"⟩, 4), (⟨"JobLayer", "isOpen", "(I)Z"⟩, 4), (⟨"JobLayer", "attemptWrite", "(LJobLayer$Task;)I"⟩, 4), (⟨"JobLayer", "attemptReap", "(LJobLayer$Task;)I"⟩, 4), (⟨"JobLayer", "conclude", "(LJobLayer$Task;I)V"⟩, 4), (⟨"JobLayer", "isTask", "(I)Z"⟩, 4)]
theorem lw_r1 : ∀ q ∈ lw_privs_1, lw_okq q := List.forall_mem_cons.mpr ⟨lw_p0, List.forall_mem_cons.mpr ⟨lw_p1, List.forall_mem_cons.mpr ⟨lw_p2, List.forall_mem_cons.mpr ⟨lw_p3, List.forall_mem_cons.mpr ⟨lw_p4, List.forall_mem_cons.mpr ⟨lw_p5, List.forall_mem_cons.mpr ⟨lw_p6, List.forall_mem_cons.mpr ⟨lw_p7, List.forall_mem_cons.mpr ⟨lw_p8, List.forall_mem_cons.mpr ⟨lw_p9, List.forall_mem_cons.mpr ⟨lw_p10, List.forall_mem_cons.mpr ⟨lw_p11, List.forall_mem_cons.mpr ⟨lw_p12, List.forall_mem_cons.mpr ⟨lw_p13, List.forall_mem_cons.mpr ⟨lw_p14, List.forall_mem_cons.mpr ⟨lw_p15, fun _ h => absurd h List.not_mem_nil⟩⟩⟩⟩⟩⟩⟩⟩⟩⟩⟩⟩⟩⟩⟩⟩
theorem lw_p16 : lw_okq (⟨"JobLayer", "countPipes", "()I"⟩, 4) := ⟨⟨by decide +kernel, by decide +kernel⟩, List.mem_of_getElem? (i := 14) (by decide +kernel), List.mem_of_getElem? (i := 379) (by decide +kernel), List.mem_of_getElem? (i := 380) (by decide +kernel)⟩
theorem lw_p17 : lw_okq (⟨"JobLayer", "isPipe", "(I)Z"⟩, 4) := ⟨⟨by decide +kernel, by decide +kernel⟩, List.mem_of_getElem? (i := 14) (by decide +kernel), List.mem_of_getElem? (i := 383) (by decide +kernel), List.mem_of_getElem? (i := 384) (by decide +kernel)⟩
theorem lw_p18 : lw_okq (⟨"JobLayer", "readyTask", "(I)LJobLayer$Task;"⟩, 4) := ⟨⟨by decide +kernel, by decide +kernel⟩, List.mem_of_getElem? (i := 14) (by decide +kernel), List.mem_of_getElem? (i := 395) (by decide +kernel), List.mem_of_getElem? (i := 396) (by decide +kernel)⟩
theorem lw_p19 : lw_okq (⟨"java/lang/Throwable", "fillInStackTrace", "(I)Ljava/lang/Throwable;"⟩, 6) := ⟨⟨by decide +kernel, by decide +kernel⟩, List.mem_of_getElem? (i := 436) (by decide +kernel), List.mem_of_getElem? (i := 434) (by decide +kernel), List.mem_of_getElem? (i := 435) (by decide +kernel)⟩
theorem lw_p20 : lw_okq (⟨"JobLayer", "leastUnusedPipe", "()I"⟩, 4) := ⟨⟨by decide +kernel, by decide +kernel⟩, List.mem_of_getElem? (i := 14) (by decide +kernel), List.mem_of_getElem? (i := 483) (by decide +kernel), List.mem_of_getElem? (i := 484) (by decide +kernel)⟩
theorem lw_p21 : lw_okq (⟨"JobLayer", "begin", "(LJobLayer$Task;)I"⟩, 4) := ⟨⟨by decide +kernel, by decide +kernel⟩, List.mem_of_getElem? (i := 14) (by decide +kernel), List.mem_of_getElem? (i := 531) (by decide +kernel), List.mem_of_getElem? (i := 532) (by decide +kernel)⟩
theorem lw_p22 : lw_okq (⟨"JobLayer", "isGroupAlive", "(I)Z"⟩, 4) := ⟨⟨by decide +kernel, by decide +kernel⟩, List.mem_of_getElem? (i := 14) (by decide +kernel), List.mem_of_getElem? (i := 588) (by decide +kernel), List.mem_of_getElem? (i := 589) (by decide +kernel)⟩
theorem lw_p23 : lw_okq (⟨"JobLayerModel", "comesToParty", "(II)V"⟩, 32) := ⟨⟨by decide +kernel, by decide +kernel⟩, List.mem_of_getElem? (i := 599) (by decide +kernel), List.mem_of_getElem? (i := 712) (by decide +kernel), List.mem_of_getElem? (i := 713) (by decide +kernel)⟩
theorem lw_p24 : lw_okq (⟨"JobLayerModel", "isLive", "(I)Z"⟩, 32) := ⟨⟨by decide +kernel, by decide +kernel⟩, List.mem_of_getElem? (i := 599) (by decide +kernel), List.mem_of_getElem? (i := 716) (by decide +kernel), List.mem_of_getElem? (i := 717) (by decide +kernel)⟩
theorem lw_p25 : lw_okq (⟨"JobLayerModel", "comes", "(II)V"⟩, 32) := ⟨⟨by decide +kernel, by decide +kernel⟩, List.mem_of_getElem? (i := 599) (by decide +kernel), List.mem_of_getElem? (i := 720) (by decide +kernel), List.mem_of_getElem? (i := 721) (by decide +kernel)⟩
theorem lw_p26 : lw_okq (⟨"JobLayerModel", "finish", "(II)V"⟩, 32) := ⟨⟨by decide +kernel, by decide +kernel⟩, List.mem_of_getElem? (i := 599) (by decide +kernel), List.mem_of_getElem? (i := 724) (by decide +kernel), List.mem_of_getElem? (i := 725) (by decide +kernel)⟩
theorem lw_p27 : lw_okq (⟨"JobLayerModel", "tellParent", "(I)V"⟩, 32) := ⟨⟨by decide +kernel, by decide +kernel⟩, List.mem_of_getElem? (i := 599) (by decide +kernel), List.mem_of_getElem? (i := 728) (by decide +kernel), List.mem_of_getElem? (i := 729) (by decide +kernel)⟩
theorem lw_p28 : lw_okq (⟨"JobLayerModel", "hear", "(II)V"⟩, 32) := ⟨⟨by decide +kernel, by decide +kernel⟩, List.mem_of_getElem? (i := 599) (by decide +kernel), List.mem_of_getElem? (i := 732) (by decide +kernel), List.mem_of_getElem? (i := 733) (by decide +kernel)⟩
theorem lw_p29 : lw_okq (⟨"JobLayerModel", "finished", "(II)V"⟩, 32) := ⟨⟨by decide +kernel, by decide +kernel⟩, List.mem_of_getElem? (i := 599) (by decide +kernel), List.mem_of_getElem? (i := 736) (by decide +kernel), List.mem_of_getElem? (i := 737) (by decide +kernel)⟩
theorem lw_p30 : lw_okq (⟨"JobLayerModel", "deliver", "(I)V"⟩, 32) := ⟨⟨by decide +kernel, by decide +kernel⟩, List.mem_of_getElem? (i := 599) (by decide +kernel), List.mem_of_getElem? (i := 740) (by decide +kernel), List.mem_of_getElem? (i := 741) (by decide +kernel)⟩
theorem lw_p31 : lw_okq (⟨"JobLayerModel", "byDefault", "(II)V"⟩, 32) := ⟨⟨by decide +kernel, by decide +kernel⟩, List.mem_of_getElem? (i := 599) (by decide +kernel), List.mem_of_getElem? (i := 744) (by decide +kernel), List.mem_of_getElem? (i := 745) (by decide +kernel)⟩
def lw_privs_2 : List (MethodName × Nat) := [(⟨"JobLayer", "countPipes", "()I"⟩, 4), (⟨"JobLayer", "isPipe", "(I)Z"⟩, 4), (⟨"JobLayer", "readyTask", "(I)LJobLayer$Task;"⟩, 4), (⟨"java/lang/Throwable", "fillInStackTrace", "(I)Ljava/lang/Throwable;"⟩, 6), (⟨"JobLayer", "leastUnusedPipe", "()I"⟩, 4), (⟨"JobLayer", "begin", "(LJobLayer$Task;)I"⟩, 4), (⟨"JobLayer", "isGroupAlive", "(I)Z"⟩, 4), (⟨"JobLayerModel", "comesToParty", "(II)V"⟩, 32), (⟨"JobLayerModel", "isLive", "(I)Z"⟩, 32), (⟨"JobLayerModel", "comes", "(II)V"⟩, 32), (⟨"JobLayerModel", "finish", "(II)V"⟩, 32), (⟨"JobLayerModel", "tellParent", "(I)V"⟩, 32), (⟨"JobLayerModel", "hear", "(II)V"⟩, 32), (⟨"JobLayerModel", "finished", "(II)V"⟩, 32), (⟨"JobLayerModel", "deliver", "(I)V"⟩, 32), (⟨"JobLayerModel", "byDefault", "(II)V"⟩, 32)]
theorem lw_r2 : ∀ q ∈ lw_privs_2, lw_okq q := List.forall_mem_cons.mpr ⟨lw_p16, List.forall_mem_cons.mpr ⟨lw_p17, List.forall_mem_cons.mpr ⟨lw_p18, List.forall_mem_cons.mpr ⟨lw_p19, List.forall_mem_cons.mpr ⟨lw_p20, List.forall_mem_cons.mpr ⟨lw_p21, List.forall_mem_cons.mpr ⟨lw_p22, List.forall_mem_cons.mpr ⟨lw_p23, List.forall_mem_cons.mpr ⟨lw_p24, List.forall_mem_cons.mpr ⟨lw_p25, List.forall_mem_cons.mpr ⟨lw_p26, List.forall_mem_cons.mpr ⟨lw_p27, List.forall_mem_cons.mpr ⟨lw_p28, List.forall_mem_cons.mpr ⟨lw_p29, List.forall_mem_cons.mpr ⟨lw_p30, List.forall_mem_cons.mpr ⟨lw_p31, fun _ h => absurd h List.not_mem_nil⟩⟩⟩⟩⟩⟩⟩⟩⟩⟩⟩⟩⟩⟩⟩⟩
theorem lw_p32 : lw_okq (⟨"JobLayerModel", "isOrphaned", "(I)Z"⟩, 32) := ⟨⟨by decide +kernel, by decide +kernel⟩, List.mem_of_getElem? (i := 599) (by decide +kernel), List.mem_of_getElem? (i := 748) (by decide +kernel), List.mem_of_getElem? (i := 749) (by decide +kernel)⟩
theorem lw_p33 : lw_okq (⟨"JobLayerModel", "halt", "(I)V"⟩, 32) := ⟨⟨by decide +kernel, by decide +kernel⟩, List.mem_of_getElem? (i := 599) (by decide +kernel), List.mem_of_getElem? (i := 752) (by decide +kernel), List.mem_of_getElem? (i := 753) (by decide +kernel)⟩
theorem lw_p34 : lw_okq (⟨"JobLayerModel", "isLine", "(I)Z"⟩, 32) := ⟨⟨by decide +kernel, by decide +kernel⟩, List.mem_of_getElem? (i := 599) (by decide +kernel), List.mem_of_getElem? (i := 756) (by decide +kernel), List.mem_of_getElem? (i := 757) (by decide +kernel)⟩
theorem lw_p35 : lw_okq (⟨"JobLayerModel", "used", "()I"⟩, 32) := ⟨⟨by decide +kernel, by decide +kernel⟩, List.mem_of_getElem? (i := 599) (by decide +kernel), List.mem_of_getElem? (i := 760) (by decide +kernel), List.mem_of_getElem? (i := 761) (by decide +kernel)⟩
theorem lw_p36 : lw_okq (⟨"JobLayerModel", "put", "(I)V"⟩, 32) := ⟨⟨by decide +kernel, by decide +kernel⟩, List.mem_of_getElem? (i := 599) (by decide +kernel), List.mem_of_getElem? (i := 764) (by decide +kernel), List.mem_of_getElem? (i := 765) (by decide +kernel)⟩
theorem lw_p37 : lw_okq (⟨"JobLayerModel", "lineDone", "()V"⟩, 32) := ⟨⟨by decide +kernel, by decide +kernel⟩, List.mem_of_getElem? (i := 599) (by decide +kernel), List.mem_of_getElem? (i := 768) (by decide +kernel), List.mem_of_getElem? (i := 769) (by decide +kernel)⟩
theorem lw_p38 : lw_okq (⟨"JobLayerModel", "settle", "()V"⟩, 32) := ⟨⟨by decide +kernel, by decide +kernel⟩, List.mem_of_getElem? (i := 599) (by decide +kernel), List.mem_of_getElem? (i := 772) (by decide +kernel), List.mem_of_getElem? (i := 773) (by decide +kernel)⟩
theorem lw_p39 : lw_okq (⟨"JobLayerModel", "chance", "(I)I"⟩, 32) := ⟨⟨by decide +kernel, by decide +kernel⟩, List.mem_of_getElem? (i := 599) (by decide +kernel), List.mem_of_getElem? (i := 776) (by decide +kernel), List.mem_of_getElem? (i := 777) (by decide +kernel)⟩
theorem lw_p40 : lw_okq (⟨"JobLayerModel", "isUnasked", "(I)Z"⟩, 32) := ⟨⟨by decide +kernel, by decide +kernel⟩, List.mem_of_getElem? (i := 599) (by decide +kernel), List.mem_of_getElem? (i := 780) (by decide +kernel), List.mem_of_getElem? (i := 781) (by decide +kernel)⟩
theorem lw_p41 : lw_okq (⟨"JobLayerModel", "ends", "(I)I"⟩, 32) := ⟨⟨by decide +kernel, by decide +kernel⟩, List.mem_of_getElem? (i := 599) (by decide +kernel), List.mem_of_getElem? (i := 784) (by decide +kernel), List.mem_of_getElem? (i := 785) (by decide +kernel)⟩
theorem lw_p42 : lw_okq (⟨"JobLayerModel", "child", "(II)I"⟩, 32) := ⟨⟨by decide +kernel, by decide +kernel⟩, List.mem_of_getElem? (i := 599) (by decide +kernel), List.mem_of_getElem? (i := 788) (by decide +kernel), List.mem_of_getElem? (i := 789) (by decide +kernel)⟩
theorem lw_p43 : lw_okq (⟨"JobLayerModel", "answer", "(IZ)I"⟩, 32) := ⟨⟨by decide +kernel, by decide +kernel⟩, List.mem_of_getElem? (i := 599) (by decide +kernel), List.mem_of_getElem? (i := 792) (by decide +kernel), List.mem_of_getElem? (i := 793) (by decide +kernel)⟩
theorem lw_p44 : lw_okq (⟨"JobLayerModel", "perform", "(I)I"⟩, 32) := ⟨⟨by decide +kernel, by decide +kernel⟩, List.mem_of_getElem? (i := 599) (by decide +kernel), List.mem_of_getElem? (i := 796) (by decide +kernel), List.mem_of_getElem? (i := 797) (by decide +kernel)⟩
theorem lw_p45 : lw_okq (⟨"JobLayerModel", "reaped", "(I)I"⟩, 32) := ⟨⟨by decide +kernel, by decide +kernel⟩, List.mem_of_getElem? (i := 599) (by decide +kernel), List.mem_of_getElem? (i := 800) (by decide +kernel), List.mem_of_getElem? (i := 801) (by decide +kernel)⟩
theorem lw_p46 : lw_okq (⟨"JobLayerModel", "giveBytes", "(II)I"⟩, 32) := ⟨⟨by decide +kernel, by decide +kernel⟩, List.mem_of_getElem? (i := 599) (by decide +kernel), List.mem_of_getElem? (i := 804) (by decide +kernel), List.mem_of_getElem? (i := 805) (by decide +kernel)⟩
theorem lw_p47 : lw_okq (⟨"JobLayerModel", "takeBytes", "(II)I"⟩, 32) := ⟨⟨by decide +kernel, by decide +kernel⟩, List.mem_of_getElem? (i := 599) (by decide +kernel), List.mem_of_getElem? (i := 808) (by decide +kernel), List.mem_of_getElem? (i := 809) (by decide +kernel)⟩
def lw_privs_3 : List (MethodName × Nat) := [(⟨"JobLayerModel", "isOrphaned", "(I)Z"⟩, 32), (⟨"JobLayerModel", "halt", "(I)V"⟩, 32), (⟨"JobLayerModel", "isLine", "(I)Z"⟩, 32), (⟨"JobLayerModel", "used", "()I"⟩, 32), (⟨"JobLayerModel", "put", "(I)V"⟩, 32), (⟨"JobLayerModel", "lineDone", "()V"⟩, 32), (⟨"JobLayerModel", "settle", "()V"⟩, 32), (⟨"JobLayerModel", "chance", "(I)I"⟩, 32), (⟨"JobLayerModel", "isUnasked", "(I)Z"⟩, 32), (⟨"JobLayerModel", "ends", "(I)I"⟩, 32), (⟨"JobLayerModel", "child", "(II)I"⟩, 32), (⟨"JobLayerModel", "answer", "(IZ)I"⟩, 32), (⟨"JobLayerModel", "perform", "(I)I"⟩, 32), (⟨"JobLayerModel", "reaped", "(I)I"⟩, 32), (⟨"JobLayerModel", "giveBytes", "(II)I"⟩, 32), (⟨"JobLayerModel", "takeBytes", "(II)I"⟩, 32)]
theorem lw_r3 : ∀ q ∈ lw_privs_3, lw_okq q := List.forall_mem_cons.mpr ⟨lw_p32, List.forall_mem_cons.mpr ⟨lw_p33, List.forall_mem_cons.mpr ⟨lw_p34, List.forall_mem_cons.mpr ⟨lw_p35, List.forall_mem_cons.mpr ⟨lw_p36, List.forall_mem_cons.mpr ⟨lw_p37, List.forall_mem_cons.mpr ⟨lw_p38, List.forall_mem_cons.mpr ⟨lw_p39, List.forall_mem_cons.mpr ⟨lw_p40, List.forall_mem_cons.mpr ⟨lw_p41, List.forall_mem_cons.mpr ⟨lw_p42, List.forall_mem_cons.mpr ⟨lw_p43, List.forall_mem_cons.mpr ⟨lw_p44, List.forall_mem_cons.mpr ⟨lw_p45, List.forall_mem_cons.mpr ⟨lw_p46, List.forall_mem_cons.mpr ⟨lw_p47, fun _ h => absurd h List.not_mem_nil⟩⟩⟩⟩⟩⟩⟩⟩⟩⟩⟩⟩⟩⟩⟩⟩
theorem lw_p48 : lw_okq (⟨"JobLayerModel", "takeLine", "(I)I"⟩, 32) := ⟨⟨by decide +kernel, by decide +kernel⟩, List.mem_of_getElem? (i := 599) (by decide +kernel), List.mem_of_getElem? (i := 812) (by decide +kernel), List.mem_of_getElem? (i := 813) (by decide +kernel)⟩
theorem lw_p49 : lw_okq (⟨"JobLayerModel", "may", "(II)Z"⟩, 32) := ⟨⟨by decide +kernel, by decide +kernel⟩, List.mem_of_getElem? (i := 599) (by decide +kernel), List.mem_of_getElem? (i := 820) (by decide +kernel), List.mem_of_getElem? (i := 821) (by decide +kernel)⟩
theorem lw_p50 : lw_okq (⟨"JobLayerModel", "isReady", "(I)Z"⟩, 32) := ⟨⟨by decide +kernel, by decide +kernel⟩, List.mem_of_getElem? (i := 599) (by decide +kernel), List.mem_of_getElem? (i := 824) (by decide +kernel), List.mem_of_getElem? (i := 825) (by decide +kernel)⟩
theorem lw_p51 : lw_okq (⟨"JobLayerModel", "isProcess", "(I)Z"⟩, 32) := ⟨⟨by decide +kernel, by decide +kernel⟩, List.mem_of_getElem? (i := 599) (by decide +kernel), List.mem_of_getElem? (i := 828) (by decide +kernel), List.mem_of_getElem? (i := 829) (by decide +kernel)⟩
theorem lw_p52 : lw_okq (⟨"JobLayerModel", "isPipe", "(I)Z"⟩, 32) := ⟨⟨by decide +kernel, by decide +kernel⟩, List.mem_of_getElem? (i := 599) (by decide +kernel), List.mem_of_getElem? (i := 840) (by decide +kernel), List.mem_of_getElem? (i := 841) (by decide +kernel)⟩
theorem lw_p53 : lw_okq (⟨"JobLayerModel", "fileOf", "(II)I"⟩, 32) := ⟨⟨by decide +kernel, by decide +kernel⟩, List.mem_of_getElem? (i := 599) (by decide +kernel), List.mem_of_getElem? (i := 848) (by decide +kernel), List.mem_of_getElem? (i := 849) (by decide +kernel)⟩
theorem lw_p54 : lw_okq (⟨"JobLayerModel", "mayMove", "(II)Z"⟩, 32) := ⟨⟨by decide +kernel, by decide +kernel⟩, List.mem_of_getElem? (i := 599) (by decide +kernel), List.mem_of_getElem? (i := 860) (by decide +kernel), List.mem_of_getElem? (i := 861) (by decide +kernel)⟩
theorem lw_p55 : lw_okq (⟨"JobLayerModel", "begin", "(II)I"⟩, 32) := ⟨⟨by decide +kernel, by decide +kernel⟩, List.mem_of_getElem? (i := 599) (by decide +kernel), List.mem_of_getElem? (i := 864) (by decide +kernel), List.mem_of_getElem? (i := 865) (by decide +kernel)⟩
theorem lw_p56 : lw_okq (⟨"JobLayerModel", "isParty", "(I)Z"⟩, 32) := ⟨⟨by decide +kernel, by decide +kernel⟩, List.mem_of_getElem? (i := 599) (by decide +kernel), List.mem_of_getElem? (i := 884) (by decide +kernel), List.mem_of_getElem? (i := 885) (by decide +kernel)⟩
theorem lw_p57 : lw_okq (⟨"JobLayerModel", "pipes", "()I"⟩, 32) := ⟨⟨by decide +kernel, by decide +kernel⟩, List.mem_of_getElem? (i := 599) (by decide +kernel), List.mem_of_getElem? (i := 923) (by decide +kernel), List.mem_of_getElem? (i := 924) (by decide +kernel)⟩
def lw_privs_4 : List (MethodName × Nat) := [(⟨"JobLayerModel", "takeLine", "(I)I"⟩, 32), (⟨"JobLayerModel", "may", "(II)Z"⟩, 32), (⟨"JobLayerModel", "isReady", "(I)Z"⟩, 32), (⟨"JobLayerModel", "isProcess", "(I)Z"⟩, 32), (⟨"JobLayerModel", "isPipe", "(I)Z"⟩, 32), (⟨"JobLayerModel", "fileOf", "(II)I"⟩, 32), (⟨"JobLayerModel", "mayMove", "(II)Z"⟩, 32), (⟨"JobLayerModel", "begin", "(II)I"⟩, 32), (⟨"JobLayerModel", "isParty", "(I)Z"⟩, 32), (⟨"JobLayerModel", "pipes", "()I"⟩, 32)]
theorem lw_r4 : ∀ q ∈ lw_privs_4, lw_okq q := List.forall_mem_cons.mpr ⟨lw_p48, List.forall_mem_cons.mpr ⟨lw_p49, List.forall_mem_cons.mpr ⟨lw_p50, List.forall_mem_cons.mpr ⟨lw_p51, List.forall_mem_cons.mpr ⟨lw_p52, List.forall_mem_cons.mpr ⟨lw_p53, List.forall_mem_cons.mpr ⟨lw_p54, List.forall_mem_cons.mpr ⟨lw_p55, List.forall_mem_cons.mpr ⟨lw_p56, List.forall_mem_cons.mpr ⟨lw_p57, fun _ h => absurd h List.not_mem_nil⟩⟩⟩⟩⟩⟩⟩⟩⟩⟩
def lw_privs : List (MethodName × Nat) := lw_privs_1 ++ (lw_privs_2 ++ (lw_privs_3 ++ (lw_privs_4)))
def lw_tbl : List Cond := k2_sels lw_privs ++ tables_1
theorem lw_privs_ok : ∀ q ∈ lw_privs, lw_okq q := by
  show ∀ q ∈ lw_privs_1 ++ (lw_privs_2 ++ (lw_privs_3 ++ (lw_privs_4))), lw_okq q
  exact List.forall_mem_append.mpr ⟨lw_r1, List.forall_mem_append.mpr ⟨lw_r2, List.forall_mem_append.mpr ⟨lw_r3, lw_r4⟩⟩⟩
end
section
/-! the tables of the pure machine: printed by program (wip/whole/gen/tables.py) out of the claim's listing of the program -/
def pm_lk {α : Type} (a b : Nat) : List (Nat × Nat × α) → Option α
  | [] => none
  | q :: r => bif (q.1 == a && q.2.1 == b) then some q.2.2 else pm_lk a b r
def pm_fi {α : Type} (a : Nat) : List (Nat × α) → Option α
  | [] => none
  | q :: r => bif q.1 == a then some q.2 else pm_fi a r
def pm_tot : Nat := 96
/-- families: their number of objects, kind (0 an object, 1 ints, 2 booleans, 3 longs, 4 references), class or length, types of the fields or class of the elements -/
def pm_fam : List (Nat × Nat × Nat × Nat × List Nat) := [(0, 1, 0, 0, [2, 2, 2, 0]), (1, 1, 4, 8, [1]), (2, 1, 4, 6, [3]), (3, 1, 0, 4, [2, 2, 2, 0, 0, 0, 0]), (4, 6, 0, 3, [2, 0]), (5, 6, 1, 12, []), (6, 1, 0, 3, [2, 0]), (7, 1, 1, 24, []), (8, 8, 0, 1, [0, 2, 2, 2, 2, 2, 0, 0, 0, 0, 0, 0, 0, 0, 0, 3]), (9, 8, 1, 6, []), (10, 8, 1, 8, []), (11, 8, 1, 8, []), (12, 8, 1, 16, []), (13, 8, 0, 2, [0, 0, 0, 1, 3, 0]), (14, 1, 1, 8, []), (15, 1, 1, 64, []), (20, 1, 0, 5, [0, 2, 2, 2, 2, 2, 2, 2, 2, 2, 2, 2, 2, 2, 2, 2, 2, 2, 2, 2, 0, 2, 2, 2, 2, 0, 0, 0, 0, 2, 2, 2]), (21, 1, 1, 8, []), (22, 1, 1, 8, []), (23, 1, 1, 8, []), (24, 1, 1, 8, []), (25, 1, 1, 8, []), (26, 1, 1, 8, []), (27, 1, 1, 8, []), (28, 1, 1, 8, []), (29, 1, 1, 8, []), (30, 1, 1, 8, []), (31, 1, 2, 8, []), (32, 1, 1, 48, []), (33, 1, 1, 64, []), (34, 1, 1, 8, []), (35, 1, 1, 8, []), (36, 1, 1, 8, []), (37, 1, 3, 8, []), (38, 1, 2, 8, []), (39, 1, 1, 8, []), (40, 1, 1, 128, []), (41, 1, 1, 64, []), (42, 1, 1, 72, []), (43, 1, 1, 6, []), (44, 1, 1, 24, []), (45, 1, 1, 8, []), (46, 1, 1, 64, []), (60, 1, 3, 1, [])]
def pm_cnt (f : Nat) : Nat := match pm_fi f pm_fam with
  | some q => q.1
  | none => if f = 99 then 1 else 0
def pm_shp (ns f : Nat) : Nat × Nat × List Nat := match pm_fi f pm_fam with
  | some q => q.2
  | none => if f = 99 then (1, ns, []) else (9, 0, [])
def pm_pidx (f i : Nat) : Nat := bif Nat.blt f 4 then f else bif f == 6 then 4 else bif f == 7 then 5 else bif f == 14 then 6 else bif f == 15 then 7 else bif f == 4 then 56 + 2 * i else bif f == 5 then 57 + 2 * i else bif Nat.blt f 14 then f + 6 * i else bif f == 60 then 95 else f + 48
def pm_planl_0 : List (Nat × Nat) := [(0, 0), (1, 0), (2, 0), (3, 0), (6, 0), (7, 0), (14, 0), (15, 0), (8, 0), (9, 0), (10, 0), (11, 0), (12, 0), (13, 0), (8, 1), (9, 1), (10, 1), (11, 1), (12, 1), (13, 1), (8, 2), (9, 2), (10, 2), (11, 2), (12, 2), (13, 2), (8, 3), (9, 3), (10, 3), (11, 3), (12, 3), (13, 3), (8, 4), (9, 4), (10, 4), (11, 4), (12, 4), (13, 4), (8, 5), (9, 5), (10, 5), (11, 5), (12, 5), (13, 5), (8, 6), (9, 6), (10, 6), (11, 6), (12, 6), (13, 6)]
def pm_planl_1 : List (Nat × Nat) := [(8, 7), (9, 7), (10, 7), (11, 7), (12, 7), (13, 7), (4, 0), (5, 0), (4, 1), (5, 1), (4, 2), (5, 2), (4, 3), (5, 3), (4, 4), (5, 4), (4, 5), (5, 5), (20, 0), (21, 0), (22, 0), (23, 0), (24, 0), (25, 0), (26, 0), (27, 0), (28, 0), (29, 0), (30, 0), (31, 0), (32, 0), (33, 0), (34, 0), (35, 0), (36, 0), (37, 0), (38, 0), (39, 0), (40, 0), (41, 0), (42, 0), (43, 0), (44, 0), (45, 0), (46, 0), (60, 0)]
def pm_planl : List (Nat × Nat) := pm_planl_0 ++ (pm_planl_1)
def pm_plan (k : Nat) : Nat × Nat := pm_planl.getD k (0, 0)
def pm_T0 : u_T := fun k => match k with
  | 0 => ("JobLayer", "tasks", "[LJobLayer$Task;", true)
  | 1 => ("JobLayer", "pipes", "[LJobLayer$ByteRow;", true)
  | 2 => ("JobLayer", "tty", "LJobLayer$Terminal;", true)
  | _ => ("JobLayer", "blockedEver", "I", false)
def pm_k0 : Nat → FieldType := fun k => match k with
  | 0 => .array (.object "JobLayer$Task")
  | 1 => .array (.object "JobLayer$ByteRow")
  | 2 => .object "JobLayer$Terminal"
  | _ => .int
def pm_T1 : u_T := fun k => match k with
  | 0 => ("JobLayer$Task", "number", "I", true)
  | 1 => ("JobLayer$Task", "files", "[I", true)
  | 2 => ("JobLayer$Task", "actions", "[I", true)
  | 3 => ("JobLayer$Task", "takenRow", "[I", true)
  | 4 => ("JobLayer$Task", "heardRow", "[I", true)
  | 5 => ("JobLayer$Task", "call", "LJobLayer$Call;", true)
  | 6 => ("JobLayer$Task", "state", "I", false)
  | 7 => ("JobLayer$Task", "parent", "I", false)
  | 8 => ("JobLayer$Task", "group", "I", false)
  | 9 => ("JobLayer$Task", "mask", "I", false)
  | 10 => ("JobLayer$Task", "pending", "I", false)
  | 11 => ("JobLayer$Task", "outcome", "I", false)
  | 12 => ("JobLayer$Task", "takenCount", "I", false)
  | 13 => ("JobLayer$Task", "heardEver", "I", false)
  | 14 => ("JobLayer$Task", "status", "I", false)
  | _ => ("JobLayer$Task", "stopTold", "Z", false)
def pm_k1 : Nat → FieldType := fun k => match k with
  | 0 => .int
  | 1 => .array (.int)
  | 2 => .array (.int)
  | 3 => .array (.int)
  | 4 => .array (.int)
  | 5 => .object "JobLayer$Call"
  | 6 => .int
  | 7 => .int
  | 8 => .int
  | 9 => .int
  | 10 => .int
  | 11 => .int
  | 12 => .int
  | 13 => .int
  | 14 => .int
  | _ => .boolean
def pm_T2 : u_T := fun k => match k with
  | 0 => ("JobLayer$Call", "kind", "I", false)
  | 1 => ("JobLayer$Call", "file", "I", false)
  | 2 => ("JobLayer$Call", "count", "I", false)
  | 3 => ("JobLayer$Call", "bytes", "J", false)
  | 4 => ("JobLayer$Call", "alsoStopped", "Z", false)
  | _ => ("JobLayer$Call", "order", "I", false)
def pm_k2 : Nat → FieldType := fun k => match k with
  | 0 => .int
  | 1 => .int
  | 2 => .int
  | 3 => .long
  | 4 => .boolean
  | _ => .int
def pm_T3 : u_T := fun k => match k with
  | 0 => ("JobLayer$ByteRow", "cells", "[I", true)
  | _ => ("JobLayer$ByteRow", "size", "I", false)
def pm_k3 : Nat → FieldType := fun k => match k with
  | 0 => .array (.int)
  | _ => .int
def pm_T4 : u_T := fun k => match k with
  | 0 => ("JobLayer$Terminal", "characters", "LJobLayer$ByteRow;", true)
  | 1 => ("JobLayer$Terminal", "readyLengths", "[I", true)
  | 2 => ("JobLayer$Terminal", "screen", "[I", true)
  | 3 => ("JobLayer$Terminal", "readyLines", "I", false)
  | 4 => ("JobLayer$Terminal", "lineLength", "I", false)
  | 5 => ("JobLayer$Terminal", "foregroundGroup", "I", false)
  | _ => ("JobLayer$Terminal", "writtenEver", "I", false)
def pm_k4 : Nat → FieldType := fun k => match k with
  | 0 => .object "JobLayer$ByteRow"
  | 1 => .array (.int)
  | 2 => .array (.int)
  | 3 => .int
  | 4 => .int
  | 5 => .int
  | _ => .int
def pm_T5 : u_T := fun k => match k with
  | 0 => ("JobLayerModel", "thrown", "I", false)
  | 1 => ("JobLayerModel", "state", "[I", true)
  | 2 => ("JobLayerModel", "parent", "[I", true)
  | 3 => ("JobLayerModel", "party", "[I", true)
  | 4 => ("JobLayerModel", "masked", "[I", true)
  | 5 => ("JobLayerModel", "pending", "[I", true)
  | 6 => ("JobLayerModel", "outcome", "[I", true)
  | 7 => ("JobLayerModel", "took", "[I", true)
  | 8 => ("JobLayerModel", "hears", "[I", true)
  | 9 => ("JobLayerModel", "status", "[I", true)
  | 10 => ("JobLayerModel", "before", "[I", true)
  | 11 => ("JobLayerModel", "told", "[Z", true)
  | 12 => ("JobLayerModel", "files", "[I", true)
  | 13 => ("JobLayerModel", "actions", "[I", true)
  | 14 => ("JobLayerModel", "call", "[I", true)
  | 15 => ("JobLayerModel", "callFile", "[I", true)
  | 16 => ("JobLayerModel", "callMany", "[I", true)
  | 17 => ("JobLayerModel", "callBytes", "[J", true)
  | 18 => ("JobLayerModel", "callStopped", "[Z", true)
  | 19 => ("JobLayerModel", "since", "[I", true)
  | 20 => ("JobLayerModel", "blocks", "I", false)
  | 21 => ("JobLayerModel", "heardSignals", "[I", true)
  | 22 => ("JobLayerModel", "takenBytes", "[I", true)
  | 23 => ("JobLayerModel", "held", "[I", true)
  | 24 => ("JobLayerModel", "many", "[I", true)
  | 25 => ("JobLayerModel", "front", "I", false)
  | 26 => ("JobLayerModel", "ready", "I", false)
  | 27 => ("JobLayerModel", "lineLong", "I", false)
  | 28 => ("JobLayerModel", "written", "I", false)
  | 29 => ("JobLayerModel", "characters", "[I", true)
  | 30 => ("JobLayerModel", "readyLong", "[I", true)
  | _ => ("JobLayerModel", "screen", "[I", true)
def pm_k5 : Nat → FieldType := fun k => match k with
  | 0 => .int
  | 1 => .array (.int)
  | 2 => .array (.int)
  | 3 => .array (.int)
  | 4 => .array (.int)
  | 5 => .array (.int)
  | 6 => .array (.int)
  | 7 => .array (.int)
  | 8 => .array (.int)
  | 9 => .array (.int)
  | 10 => .array (.int)
  | 11 => .array (.boolean)
  | 12 => .array (.int)
  | 13 => .array (.int)
  | 14 => .array (.int)
  | 15 => .array (.int)
  | 16 => .array (.int)
  | 17 => .array (.long)
  | 18 => .array (.boolean)
  | 19 => .array (.int)
  | 20 => .int
  | 21 => .array (.int)
  | 22 => .array (.int)
  | 23 => .array (.int)
  | 24 => .array (.int)
  | 25 => .int
  | 26 => .int
  | 27 => .int
  | 28 => .int
  | 29 => .array (.int)
  | 30 => .array (.int)
  | _ => .array (.int)
def pm_K : List vw_C := [("JobLayer", pm_T0, 4), ("JobLayer$Task", pm_T1, 16), ("JobLayer$Call", pm_T2, 6), ("JobLayer$ByteRow", pm_T3, 2), ("JobLayer$Terminal", pm_T4, 7), ("JobLayerModel", pm_T5, 32)]
def pm_kt : Nat → Nat → FieldType
  | 0 => pm_k0
  | 1 => pm_k1
  | 2 => pm_k2
  | 3 => pm_k3
  | 4 => pm_k4
  | _ => pm_k5
def pm_cty : Nat → List Nat
  | 0 => [2, 2, 2, 0]
  | 1 => [0, 2, 2, 2, 2, 2, 0, 0, 0, 0, 0, 0, 0, 0, 0, 3]
  | 2 => [0, 0, 0, 1, 3, 0]
  | 3 => [2, 0]
  | 4 => [2, 2, 2, 0, 0, 0, 0]
  | _ => [0, 2, 2, 2, 2, 2, 2, 2, 2, 2, 2, 2, 2, 2, 2, 2, 2, 2, 2, 2, 0, 2, 2, 2, 2, 0, 0, 0, 0, 2, 2, 2]
def pm_nm : Nat → String
  | 0 => "JobLayer"
  | 1 => "JobLayer$Task"
  | 2 => "JobLayer$Call"
  | 3 => "JobLayer$ByteRow"
  | 4 => "JobLayer$Terminal"
  | 5 => "JobLayerModel"
  | _ => "JobLayerLaw"
def pm_exn : Nat → String
  | 0 => "java/lang/IllegalStateException"
  | _ => "java/lang/IllegalArgumentException"
def pm_flds_0 : List (Nat × Nat × Nat × Nat × Nat × Bool) := [(0, 11, 0, 0, 2, true), (0, 17, 0, 1, 2, true), (0, 24, 0, 2, 2, true), (0, 28, 0, 3, 0, false), (0, 36, 1, 6, 0, false), (0, 39, 1, 1, 2, true), (0, 46, 4, 5, 0, false), (0, 67, 1, 0, 0, true), (0, 86, 3, 1, 0, false), (0, 98, 1, 5, 2, true), (0, 112, 2, 0, 0, false), (0, 115, 2, 4, 3, false), (0, 122, 1, 2, 2, true), (0, 128, 1, 9, 0, false), (0, 139, 1, 7, 0, false), (0, 146, 1, 8, 0, false), (0, 152, 1, 10, 0, false), (0, 155, 1, 11, 0, false), (0, 158, 1, 12, 0, false), (0, 161, 1, 13, 0, false), (0, 164, 1, 14, 0, false), (0, 167, 1, 3, 2, true), (0, 170, 1, 4, 2, true), (0, 177, 4, 0, 2, true), (0, 181, 4, 3, 0, false), (0, 184, 4, 6, 0, false), (0, 190, 4, 2, 2, true), (0, 217, 1, 15, 3, false), (0, 232, 2, 5, 0, false), (0, 251, 2, 1, 0, false), (0, 257, 2, 2, 0, false), (1, 9, 1, 1, 2, true), (1, 15, 1, 2, 2, true), (1, 18, 1, 3, 2, true), (1, 21, 1, 4, 2, true), (1, 27, 1, 5, 2, true), (1, 31, 1, 6, 0, false), (1, 35, 1, 7, 0, false), (1, 38, 1, 8, 0, false), (1, 41, 1, 9, 0, false)]
def pm_flds_1 : List (Nat × Nat × Nat × Nat × Nat × Bool) := [(1, 44, 1, 10, 0, false), (1, 47, 1, 11, 0, false), (1, 50, 1, 12, 0, false), (1, 53, 1, 13, 0, false), (1, 56, 1, 14, 0, false), (1, 59, 1, 15, 3, false), (1, 63, 1, 0, 0, true), (1, 66, 2, 0, 0, false), (1, 83, 2, 5, 0, false), (2, 9, 2, 0, 0, false), (2, 15, 2, 1, 0, false), (2, 18, 2, 2, 0, false), (2, 21, 2, 3, 1, false), (2, 25, 2, 4, 3, false), (2, 29, 2, 5, 0, false), (3, 7, 3, 1, 0, false), (3, 13, 3, 0, 2, true), (4, 14, 4, 0, 2, true), (4, 20, 4, 1, 2, true), (4, 24, 4, 2, 2, true), (4, 27, 4, 3, 0, false), (4, 31, 4, 4, 0, false), (4, 34, 4, 5, 0, false), (4, 37, 4, 6, 0, false), (4, 62, 3, 1, 0, false), (5, 7, 5, 1, 2, true), (5, 13, 5, 2, 2, true), (5, 16, 5, 3, 2, true), (5, 19, 5, 4, 2, true), (5, 22, 5, 5, 2, true), (5, 25, 5, 6, 2, true), (5, 28, 5, 7, 2, true), (5, 31, 5, 8, 2, true), (5, 34, 5, 9, 2, true), (5, 37, 5, 10, 2, true), (5, 40, 5, 11, 2, true), (5, 44, 5, 12, 2, true), (5, 47, 5, 13, 2, true), (5, 50, 5, 14, 2, true), (5, 53, 5, 15, 2, true)]
def pm_flds_2 : List (Nat × Nat × Nat × Nat × Nat × Bool) := [(5, 56, 5, 16, 2, true), (5, 59, 5, 17, 2, true), (5, 63, 5, 18, 2, true), (5, 66, 5, 19, 2, true), (5, 69, 5, 21, 2, true), (5, 72, 5, 22, 2, true), (5, 75, 5, 23, 2, true), (5, 78, 5, 24, 2, true), (5, 81, 5, 29, 2, true), (5, 84, 5, 30, 2, true), (5, 87, 5, 31, 2, true), (5, 90, 5, 0, 0, false), (5, 134, 5, 25, 0, false), (5, 140, 5, 26, 0, false), (5, 147, 5, 28, 0, false), (5, 175, 5, 20, 0, false), (5, 185, 5, 27, 0, false)]
def pm_flds : List (Nat × Nat × Nat × Nat × Nat × Bool) := pm_flds_0 ++ (pm_flds_1 ++ (pm_flds_2))
def pm_fld (o idx : Nat) : Option (Nat × Nat × Nat × Bool) := pm_lk o idx pm_flds
def pm_mths_0 : List (Nat × Nat × Nat × Nat × Nat) := [(0, 1, 9990, 1, 3), (0, 23, 123, 1, 5), (0, 32, 109, 2, 2), (0, 35, 102, 2, 2), (0, 43, 129, 1, 1), (0, 49, 32, 3, 1), (0, 53, 125, 2, 1), (0, 56, 37, 1, 1), (0, 59, 23, 2, 1), (0, 63, 110, 2, 1), (0, 70, 35, 3, 1), (0, 74, 33, 3, 1), (0, 78, 114, 2, 1), (0, 82, 30, 1, 1), (0, 89, 113, 2, 1), (0, 92, 22, 1, 0), (0, 95, 21, 1, 0), (0, 102, 107, 5, 1), (0, 108, 36, 2, 1), (0, 125, 117, 2, 1), (0, 131, 34, 2, 1), (0, 135, 112, 1, 1), (0, 142, 26, 2, 1), (0, 149, 24, 2, 1), (0, 173, 20, 3, 0), (0, 187, 31, 1, 1), (0, 196, 25, 2, 1), (0, 199, 28, 2, 1), (0, 202, 29, 2, 1), (0, 205, 118, 2, 1), (0, 208, 116, 2, 1), (0, 211, 120, 2, 1), (0, 214, 27, 2, 1), (0, 220, 111, 2, 1), (0, 223, 40, 2, 1), (0, 226, 121, 2, 1), (0, 229, 38, 2, 1), (0, 235, 39, 3, 1), (0, 239, 122, 2, 1), (0, 242, 41, 2, 1)]
def pm_mths_1 : List (Nat × Nat × Nat × Nat × Nat) := [(0, 245, 43, 2, 1), (0, 248, 44, 2, 1), (0, 254, 42, 2, 1), (0, 260, 105, 3, 1), (0, 264, 115, 2, 1), (0, 267, 130, 3, 1), (0, 270, 108, 2, 1), (0, 273, 124, 2, 1), (0, 276, 103, 1, 1), (0, 279, 104, 2, 1), (1, 3, 9990, 1, 3), (1, 26, 106, 1, 5), (1, 69, 115, 2, 1), (1, 73, 117, 2, 1), (1, 77, 119, 2, 1), (1, 80, 122, 2, 1), (2, 3, 9990, 1, 3), (3, 1, 9990, 1, 3), (3, 17, 9991, 2, 4), (4, 3, 9990, 1, 3), (4, 11, 102, 2, 2), (4, 40, 9991, 2, 4), (4, 46, 127, 2, 1), (4, 49, 128, 1, 1), (4, 52, 103, 1, 1), (4, 56, 126, 2, 1), (4, 59, 104, 2, 1), (4, 65, 105, 3, 1), (4, 69, 131, 1, 1), (5, 1, 9990, 1, 3), (5, 94, 49, 2, 1), (5, 98, 50, 2, 1), (5, 102, 48, 2, 1), (5, 105, 55, 3, 1), (5, 109, 56, 3, 1), (5, 112, 57, 2, 1), (5, 116, 59, 3, 1), (5, 119, 54, 2, 1), (5, 122, 58, 2, 1), (5, 125, 60, 3, 1)]
def pm_mths_2 : List (Nat × Nat × Nat × Nat × Nat) := [(5, 128, 61, 2, 1), (5, 131, 62, 3, 1), (5, 137, 64, 2, 1), (5, 143, 65, 3, 1), (5, 150, 70, 2, 1), (5, 153, 69, 3, 1), (5, 156, 68, 3, 1), (5, 159, 67, 2, 1), (5, 162, 66, 2, 1), (5, 165, 63, 3, 1), (5, 168, 73, 3, 1), (5, 172, 71, 2, 1), (5, 178, 72, 1, 1), (5, 181, 76, 1, 1), (5, 188, 75, 2, 1), (5, 191, 77, 2, 1), (5, 194, 78, 1, 1), (5, 197, 47, 2, 1), (5, 200, 80, 2, 1), (5, 203, 81, 3, 1), (5, 207, 52, 3, 1), (5, 210, 87, 3, 1), (5, 213, 74, 3, 1), (5, 216, 53, 2, 1), (5, 219, 97, 1, 0), (5, 222, 51, 1, 1), (6, 7, 2, 2, 1), (6, 15, 3, 3, 1), (6, 19, 4, 2, 1), (6, 22, 5, 4, 1), (6, 26, 6, 3, 1), (6, 29, 7, 4, 1), (6, 34, 8, 5, 1), (6, 38, 9, 3, 1), (6, 42, 10, 2, 1), (6, 45, 11, 4, 1), (6, 48, 12, 4, 1), (6, 51, 13, 3, 1), (6, 54, 14, 4, 1), (6, 57, 15, 3, 1)]
def pm_mths_3 : List (Nat × Nat × Nat × Nat × Nat) := [(6, 60, 0, 1, 2), (6, 63, 45, 1, 2), (6, 64, 1, 2, 1), (6, 68, 79, 2, 1), (6, 69, 132, 3, 0), (6, 74, 82, 2, 1), (6, 75, 46, 1, 1), (6, 79, 133, 4, 0), (6, 82, 83, 3, 1), (6, 83, 134, 3, 0), (6, 85, 84, 2, 1), (6, 86, 135, 5, 0), (6, 89, 85, 4, 1), (6, 90, 136, 4, 0), (6, 92, 86, 3, 1), (6, 93, 137, 5, 0), (6, 95, 88, 4, 1), (6, 98, 138, 6, 0), (6, 101, 89, 5, 1), (6, 102, 139, 4, 0), (6, 105, 90, 3, 1), (6, 106, 140, 3, 0), (6, 108, 91, 2, 1), (6, 109, 141, 5, 0), (6, 111, 92, 4, 1), (6, 112, 142, 5, 0), (6, 114, 93, 4, 1), (6, 115, 143, 4, 0), (6, 117, 94, 3, 1), (6, 118, 144, 5, 0), (6, 120, 95, 4, 1), (6, 121, 145, 4, 0), (6, 123, 96, 3, 1), (6, 124, 16, 3, 1), (6, 127, 98, 3, 1), (6, 128, 17, 3, 1), (6, 131, 99, 3, 1), (6, 132, 18, 3, 1), (6, 135, 100, 3, 1), (6, 136, 19, 2, 1)]
def pm_mths_4 : List (Nat × Nat × Nat × Nat × Nat) := [(6, 139, 101, 2, 1)]
def pm_mths : List (Nat × Nat × Nat × Nat × Nat) := pm_mths_0 ++ (pm_mths_1 ++ (pm_mths_2 ++ (pm_mths_3 ++ (pm_mths_4))))
def pm_mth (o idx : Nat) : Option (Nat × Nat × Nat) := pm_lk o idx pm_mths
def pm_clss : List (Nat × Nat × (Nat ⊕ Nat)) := [(0, 9, .inl 1), (0, 15, .inl 3), (0, 21, .inl 4), (0, 119, .inr 1), (0, 193, .inr 0), (1, 24, .inl 2), (4, 9, .inl 3), (6, 8, .inl 0), (6, 61, .inl 5)]
def pm_cls (o idx : Nat) : Option (Nat ⊕ Nat) := pm_lk o idx pm_clss
def pm_lng (o idx : Nat) : Option Int64 := pm_lk o idx [(6, 96, 4294967295)]
def pm_exi (o x : Nat) : Nat := match x with
  | 0 => 195
  | _ => 121
def pm_ms_0 : List (Nat × Nat × Nat × Bool) := [(0, 2, 1, true), (0, 2, 1, false), (0, 4, 0, false), (0, 5, 0, false), (0, 6, 0, false), (0, 6, 0, false), (0, 4, 0, false), (0, 7, 0, false), (0, 9, 0, false), (0, 5, 0, false), (0, 4, 0, false), (0, 5, 0, false), (0, 6, 0, false), (0, 6, 0, false), (0, 5, 0, false), (0, 4, 0, false), (0, 4, 0, false), (0, 3, 0, false), (0, 3, 0, false), (0, 2, 0, false), (0, 3, 0, false), (0, 1, 0, false), (0, 1, 1, false), (0, 2, 2, false), (0, 2, 3, false), (0, 2, 2, false), (0, 3, 3, false), (0, 5, 3, false), (0, 4, 3, false), (0, 2, 3, false), (0, 2, 0, false), (0, 3, 0, false), (0, 5, 3, false), (0, 6, 3, false), (0, 3, 2, false), (0, 5, 2, false), (0, 3, 0, false), (0, 5, 1, false), (0, 5, 2, false), (0, 3, 1, false)]
def pm_ms_1 : List (Nat × Nat × Nat × Bool) := [(0, 2, 0, false), (0, 4, 0, false), (0, 3, 0, false), (0, 6, 0, false), (0, 6, 0, false), (5, 1, 1, true), (5, 1, 0, false), (5, 2, 3, false), (5, 2, 3, false), (5, 4, 0, false), (5, 2, 3, false), (5, 3, 0, false), (5, 3, 0, false), (5, 4, 3, false), (5, 5, 3, false), (5, 3, 1, false), (5, 3, 1, false), (5, 2, 1, false), (5, 2, 1, false), (5, 4, 1, false), (5, 3, 1, false), (5, 4, 1, false), (5, 4, 1, false), (5, 4, 1, false), (5, 2, 3, false), (5, 6, 0, false), (5, 3, 0, false), (5, 4, 0, false), (5, 5, 0, false), (5, 7, 0, false), (5, 3, 0, false), (5, 3, 0, false), (5, 5, 1, false), (5, 4, 0, false), (5, 4, 0, false), (5, 2, 3, false), (5, 3, 0, false), (5, 2, 1, false), (5, 1, 1, false), (5, 2, 1, false)]
def pm_ms_2 : List (Nat × Nat × Nat × Bool) := [(5, 2, 3, false), (5, 3, 3, false), (5, 4, 0, false), (5, 3, 0, false), (5, 5, 0, false), (5, 4, 0, false), (5, 3, 0, false), (5, 3, 3, false), (5, 5, 0, false), (5, 7, 0, false), (5, 3, 0, false), (5, 2, 0, false), (5, 4, 0, false), (5, 5, 0, false), (5, 4, 0, false), (5, 5, 0, false), (5, 3, 0, false), (5, 1, 0, false), (5, 3, 0, false), (5, 3, 0, false), (5, 4, 0, false), (5, 2, 0, false), (3, 2, 1, true), (3, 1, 0, false), (3, 2, 1, false), (3, 5, 0, false), (2, 1, 1, true), (2, 6, 1, false), (2, 2, 0, false), (1, 2, 1, true), (1, 3, 1, false), (1, 3, 1, false), (1, 1, 3, false), (1, 2, 0, false), (1, 3, 0, false), (1, 2, 3, false), (1, 2, 3, false), (1, 2, 1, false), (1, 2, 1, false), (1, 2, 3, false)]
def pm_ms_3 : List (Nat × Nat × Nat × Bool) := [(1, 2, 1, false), (1, 2, 1, false), (1, 2, 1, false), (4, 1, 1, true), (4, 2, 1, false), (4, 2, 1, false), (4, 2, 1, false), (4, 2, 1, false), (4, 1, 1, false), (4, 1, 1, false), (4, 4, 0, false), (4, 2, 1, false), (6, 4, 0, false), (6, 5, 0, false), (6, 4, 0, false), (6, 6, 0, false), (6, 5, 0, false), (6, 6, 0, false), (6, 8, 0, false), (6, 5, 0, false), (6, 4, 0, false), (6, 6, 0, false), (6, 6, 0, false), (6, 5, 0, false), (6, 6, 0, false), (6, 5, 0, false), (6, 7, 3, false)]
def pm_ms : List (Nat × Nat × Nat × Bool) := pm_ms_0 ++ (pm_ms_1 ++ (pm_ms_2 ++ (pm_ms_3)))
def pm_mi (mi : Nat) : Nat × Nat × Nat × Bool := pm_ms.getD mi (0, 0, 9, false)
def pm_own (mi : Nat) : Nat := (pm_mi mi).1
def pm_maxL (mi : Nat) : Nat := (pm_mi mi).2.1
def pm_ret (mi : Nat) : Nat := (pm_mi mi).2.2.1
def pm_ini (mi : Nat) : Bool := (pm_mi mi).2.2.2
def pm_mcl (mi : Nat) : Nat := (pm_mi mi).1
def pm_hnrl : List (Nat × List (Nat × Nat × Nat × Nat)) := [(132, [(0, 9, 12, 13)]), (133, [(0, 10, 13, 13)]), (134, [(0, 9, 12, 13)]), (135, [(0, 12, 15, 13)]), (136, [(0, 10, 13, 13)]), (137, [(0, 12, 15, 32), (0, 12, 19, 13)]), (138, [(0, 14, 17, 32), (0, 14, 21, 13)]), (139, [(0, 10, 13, 13)]), (140, [(0, 9, 12, 13)]), (141, [(0, 12, 15, 32), (0, 12, 19, 13)]), (142, [(0, 12, 15, 32), (0, 12, 19, 13)]), (143, [(0, 10, 13, 13)]), (144, [(0, 12, 15, 13)]), (145, [(0, 10, 13, 13)])]
def pm_hndl : List (Nat × List (Nat × Nat × Nat × Nat)) := [(132, [(0, 9, 12, 0)]), (133, [(0, 10, 13, 0)]), (134, [(0, 9, 12, 0)]), (135, [(0, 12, 15, 0)]), (136, [(0, 10, 13, 0)]), (137, [(0, 12, 15, 1), (0, 12, 19, 0)]), (138, [(0, 14, 17, 1), (0, 14, 21, 0)]), (139, [(0, 10, 13, 0)]), (140, [(0, 9, 12, 0)]), (141, [(0, 12, 15, 1), (0, 12, 19, 0)]), (142, [(0, 12, 15, 1), (0, 12, 19, 0)]), (143, [(0, 10, 13, 0)]), (144, [(0, 12, 15, 0)]), (145, [(0, 10, 13, 0)])]
def pm_hnr (mi : Nat) : List (Nat × Nat × Nat × Nat) := (pm_fi mi pm_hnrl).getD []
def pm_hnd (mi : Nat) : List (Nat × Nat × Nat × Nat) := (pm_fi mi pm_hndl).getD []
def pm_ys_0 : List MethodName := [⟨"JobLayer", "<init>", "()V"⟩, ⟨"JobLayer", "key", "(I)V"⟩, ⟨"JobLayer", "fork", "(I)I"⟩, ⟨"JobLayer", "end", "(II)I"⟩, ⟨"JobLayer", "pipe", "(I)I"⟩, ⟨"JobLayer", "copy", "(III)I"⟩, ⟨"JobLayer", "close", "(II)I"⟩, ⟨"JobLayer", "read", "(III)I"⟩, ⟨"JobLayer", "write", "(IIJI)I"⟩, ⟨"JobLayer", "reap", "(IZ)I"⟩, ⟨"JobLayer", "pause", "(I)I"⟩, ⟨"JobLayer", "signal", "(III)I"⟩, ⟨"JobLayer", "action", "(III)I"⟩, ⟨"JobLayer", "mask", "(II)I"⟩, ⟨"JobLayer", "group", "(III)I"⟩, ⟨"JobLayer", "foreground", "(II)I"⟩, ⟨"JobLayer", "process", "(II)I"⟩, ⟨"JobLayer", "taken", "(II)I"⟩, ⟨"JobLayer", "heard", "(II)I"⟩, ⟨"JobLayer", "terminal", "(I)I"⟩, ⟨"JobLayer", "kthLatest", "([III)I"⟩, ⟨"JobLayer", "fileKind", "(I)I"⟩, ⟨"JobLayer", "checkByteCount", "(I)V"⟩, ⟨"JobLayer", "readyTask", "(I)LJobLayer$Task;"⟩, ⟨"JobLayer", "isTask", "(I)Z"⟩, ⟨"JobLayer", "parentOf", "(LJobLayer$Task;)LJobLayer$Task;"⟩, ⟨"JobLayer", "isGroupAlive", "(I)Z"⟩, ⟨"JobLayer", "isOrphaned", "(I)Z"⟩, ⟨"JobLayer", "isOpen", "(I)Z"⟩, ⟨"JobLayer", "isPipe", "(I)Z"⟩, ⟨"JobLayer", "leastUnusedPipe", "()I"⟩, ⟨"JobLayer", "countPipes", "()I"⟩, ⟨"JobLayer", "sendToGroup", "(II)Z"⟩, ⟨"JobLayer", "send", "(LJobLayer$Task;I)Z"⟩, ⟨"JobLayer", "deliver", "(LJobLayer$Task;)LJobLayer$Task;"⟩, ⟨"JobLayer", "endTask", "(LJobLayer$Task;I)LJobLayer$Task;"⟩, ⟨"JobLayer", "begin", "(LJobLayer$Task;)I"⟩, ⟨"JobLayer", "settle", "()V"⟩, ⟨"JobLayer", "firstBlockedAfter", "(I)LJobLayer$Task;"⟩, ⟨"JobLayer", "conclude", "(LJobLayer$Task;I)V"⟩]
def pm_ys_1 : List MethodName := [⟨"JobLayer", "attempt", "(LJobLayer$Task;)I"⟩, ⟨"JobLayer", "attemptRead", "(LJobLayer$Task;)I"⟩, ⟨"JobLayer", "attemptTerminalRead", "(LJobLayer$Task;)I"⟩, ⟨"JobLayer", "attemptWrite", "(LJobLayer$Task;)I"⟩, ⟨"JobLayer", "attemptReap", "(LJobLayer$Task;)I"⟩, ⟨"JobLayerModel", "<init>", "()V"⟩, ⟨"JobLayerModel", "thrown", "()I"⟩, ⟨"JobLayerModel", "isProcess", "(I)Z"⟩, ⟨"JobLayerModel", "isLive", "(I)Z"⟩, ⟨"JobLayerModel", "ends", "(I)I"⟩, ⟨"JobLayerModel", "isPipe", "(I)Z"⟩, ⟨"JobLayerModel", "pipes", "()I"⟩, ⟨"JobLayerModel", "fileOf", "(II)I"⟩, ⟨"JobLayerModel", "isParty", "(I)Z"⟩, ⟨"JobLayerModel", "isOrphaned", "(I)Z"⟩, ⟨"JobLayerModel", "finished", "(II)V"⟩, ⟨"JobLayerModel", "hear", "(II)V"⟩, ⟨"JobLayerModel", "tellParent", "(I)V"⟩, ⟨"JobLayerModel", "halt", "(I)V"⟩, ⟨"JobLayerModel", "finish", "(II)V"⟩, ⟨"JobLayerModel", "byDefault", "(II)V"⟩, ⟨"JobLayerModel", "deliver", "(I)V"⟩, ⟨"JobLayerModel", "comes", "(II)V"⟩, ⟨"JobLayerModel", "comesToParty", "(II)V"⟩, ⟨"JobLayerModel", "isUnasked", "(I)Z"⟩, ⟨"JobLayerModel", "child", "(II)I"⟩, ⟨"JobLayerModel", "chance", "(I)I"⟩, ⟨"JobLayerModel", "takeLine", "(I)I"⟩, ⟨"JobLayerModel", "takeBytes", "(II)I"⟩, ⟨"JobLayerModel", "giveBytes", "(II)I"⟩, ⟨"JobLayerModel", "reaped", "(I)I"⟩, ⟨"JobLayerModel", "perform", "(I)I"⟩, ⟨"JobLayerModel", "settle", "()V"⟩, ⟨"JobLayerModel", "answer", "(IZ)I"⟩, ⟨"JobLayerModel", "begin", "(II)I"⟩, ⟨"JobLayerModel", "isLine", "(I)Z"⟩, ⟨"JobLayerModel", "used", "()I"⟩, ⟨"JobLayerModel", "put", "(I)V"⟩, ⟨"JobLayerModel", "lineDone", "()V"⟩, ⟨"JobLayerModel", "key", "(I)V"⟩]
def pm_ys_2 : List MethodName := [⟨"JobLayerModel", "isReady", "(I)Z"⟩, ⟨"JobLayerModel", "may", "(II)Z"⟩, ⟨"JobLayerModel", "fork", "(I)I"⟩, ⟨"JobLayerModel", "end", "(II)I"⟩, ⟨"JobLayerModel", "pipe", "(I)I"⟩, ⟨"JobLayerModel", "copy", "(III)I"⟩, ⟨"JobLayerModel", "close", "(II)I"⟩, ⟨"JobLayerModel", "mayMove", "(II)Z"⟩, ⟨"JobLayerModel", "read", "(III)I"⟩, ⟨"JobLayerModel", "write", "(IIJI)I"⟩, ⟨"JobLayerModel", "reap", "(IZ)I"⟩, ⟨"JobLayerModel", "pause", "(I)I"⟩, ⟨"JobLayerModel", "signal", "(III)I"⟩, ⟨"JobLayerModel", "action", "(III)I"⟩, ⟨"JobLayerModel", "mask", "(II)I"⟩, ⟨"JobLayerModel", "group", "(III)I"⟩, ⟨"JobLayerModel", "foreground", "(II)I"⟩, ⟨"JobLayerModel", "kindOf", "(I)I"⟩, ⟨"JobLayerModel", "process", "(II)I"⟩, ⟨"JobLayerModel", "taken", "(II)I"⟩, ⟨"JobLayerModel", "heard", "(II)I"⟩, ⟨"JobLayerModel", "terminal", "(I)I"⟩, ⟨"JobLayer$ByteRow", "<init>", "(I)V"⟩, ⟨"JobLayer$ByteRow", "room", "()I"⟩, ⟨"JobLayer$ByteRow", "add", "(I)V"⟩, ⟨"JobLayer$ByteRow", "moveFirst", "(I[I)I"⟩, ⟨"JobLayer$Call", "<init>", "()V"⟩, ⟨"JobLayer$Call", "prepareTransfer", "(IIIJ)V"⟩, ⟨"JobLayer$Call", "byteAt", "(I)I"⟩, ⟨"JobLayer$Task", "<init>", "(I)V"⟩, ⟨"JobLayer$Task", "startFrom", "(LJobLayer$Task;)V"⟩, ⟨"JobLayer$Task", "leave", "(I)V"⟩, ⟨"JobLayer$Task", "isAlive", "()Z"⟩, ⟨"JobLayer$Task", "fileValue", "(I)I"⟩, ⟨"JobLayer$Task", "leastUnusedFile", "(I)I"⟩, ⟨"JobLayer$Task", "isMasked", "(I)Z"⟩, ⟨"JobLayer$Task", "isDue", "(I)Z"⟩, ⟨"JobLayer$Task", "forget", "(I)V"⟩, ⟨"JobLayer$Task", "admit", "(I)V"⟩, ⟨"JobLayer$Task", "staysPending", "(I)Z"⟩]
def pm_ys_3 : List MethodName := [⟨"JobLayer$Task", "hear", "(I)V"⟩, ⟨"JobLayer$Task", "block", "(I)V"⟩, ⟨"JobLayer$Task", "unblock", "(I)V"⟩, ⟨"JobLayer$Terminal", "<init>", "()V"⟩, ⟨"JobLayer$Terminal", "show", "(I)V"⟩, ⟨"JobLayer$Terminal", "press", "(I)V"⟩, ⟨"JobLayer$Terminal", "addToLine", "(I)V"⟩, ⟨"JobLayer$Terminal", "dropFromLine", "(I)V"⟩, ⟨"JobLayer$Terminal", "finishLine", "()V"⟩, ⟨"JobLayer$Terminal", "dropAllLines", "()V"⟩, ⟨"JobLayer$Terminal", "moveFromFirstLine", "(I[I)I"⟩, ⟨"JobLayer$Terminal", "dropFirstLine", "()V"⟩, ⟨"JobLayerLaw", "fork", "(LJobLayer;I[J)I"⟩, ⟨"JobLayerLaw", "end", "(LJobLayer;II[J)I"⟩, ⟨"JobLayerLaw", "pipe", "(LJobLayer;I[J)I"⟩, ⟨"JobLayerLaw", "copy", "(LJobLayer;III[J)I"⟩, ⟨"JobLayerLaw", "close", "(LJobLayer;II[J)I"⟩, ⟨"JobLayerLaw", "read", "(LJobLayer;III[J)I"⟩, ⟨"JobLayerLaw", "write", "(LJobLayer;IIJI[J)I"⟩, ⟨"JobLayerLaw", "reap", "(LJobLayer;IZ[J)I"⟩, ⟨"JobLayerLaw", "pause", "(LJobLayer;I[J)I"⟩, ⟨"JobLayerLaw", "signal", "(LJobLayer;III[J)I"⟩, ⟨"JobLayerLaw", "action", "(LJobLayer;III[J)I"⟩, ⟨"JobLayerLaw", "mask", "(LJobLayer;II[J)I"⟩, ⟨"JobLayerLaw", "group", "(LJobLayer;III[J)I"⟩, ⟨"JobLayerLaw", "foreground", "(LJobLayer;II[J)I"⟩, ⟨"JobLayerLaw", "law", "([I)Z"⟩]
def pm_ys : List MethodName := pm_ys_0 ++ (pm_ys_1 ++ (pm_ys_2 ++ (pm_ys_3)))
def pm_y (mi : Nat) : MethodName := pm_ys.getD mi ⟨"", "", ""⟩
def pm_codes_0 : List ByteArray := [prog_1_method_1_code, prog_1_method_2_code, prog_1_method_3_code, prog_1_method_4_code, prog_1_method_5_code, prog_1_method_6_code, prog_1_method_7_code, prog_1_method_8_code, prog_1_method_9_code, prog_1_method_10_code, prog_1_method_11_code, prog_1_method_12_code, prog_1_method_13_code, prog_1_method_14_code, prog_1_method_15_code, prog_1_method_16_code, prog_1_method_17_code, prog_1_method_18_code, prog_1_method_19_code, prog_1_method_20_code, prog_1_method_21_code, prog_1_method_22_code, prog_1_method_23_code, prog_1_method_24_code, prog_1_method_25_code, prog_1_method_26_code, prog_1_method_27_code, prog_1_method_28_code, prog_1_method_29_code, prog_1_method_30_code, prog_1_method_31_code, prog_1_method_32_code, prog_1_method_33_code, prog_1_method_34_code, prog_1_method_35_code, prog_1_method_36_code, prog_1_method_37_code, prog_1_method_38_code, prog_1_method_39_code, prog_1_method_40_code]
def pm_codes_1 : List ByteArray := [prog_1_method_41_code, prog_1_method_42_code, prog_1_method_43_code, prog_1_method_44_code, prog_1_method_45_code, prog_7_method_1_code, prog_7_method_2_code, prog_7_method_3_code, prog_7_method_4_code, prog_7_method_5_code, prog_7_method_6_code, prog_7_method_7_code, prog_7_method_8_code, prog_7_method_9_code, prog_7_method_10_code, prog_7_method_11_code, prog_7_method_12_code, prog_7_method_13_code, prog_7_method_14_code, prog_7_method_15_code, prog_7_method_16_code, prog_7_method_17_code, prog_7_method_18_code, prog_7_method_19_code, prog_7_method_20_code, prog_7_method_21_code, prog_7_method_22_code, prog_7_method_23_code, prog_7_method_24_code, prog_7_method_25_code, prog_7_method_26_code, prog_7_method_27_code, prog_7_method_28_code, prog_7_method_29_code, prog_7_method_30_code, prog_7_method_31_code, prog_7_method_32_code, prog_7_method_33_code, prog_7_method_34_code, prog_7_method_35_code]
def pm_codes_2 : List ByteArray := [prog_7_method_36_code, prog_7_method_37_code, prog_7_method_38_code, prog_7_method_39_code, prog_7_method_40_code, prog_7_method_41_code, prog_7_method_42_code, prog_7_method_43_code, prog_7_method_44_code, prog_7_method_45_code, prog_7_method_46_code, prog_7_method_47_code, prog_7_method_48_code, prog_7_method_49_code, prog_7_method_50_code, prog_7_method_51_code, prog_7_method_52_code, prog_7_method_53_code, prog_7_method_54_code, prog_7_method_55_code, prog_7_method_56_code, prog_7_method_57_code, prog_2_method_1_code, prog_2_method_2_code, prog_2_method_3_code, prog_2_method_4_code, prog_3_method_1_code, prog_3_method_2_code, prog_3_method_3_code, prog_4_method_1_code, prog_4_method_2_code, prog_4_method_3_code, prog_4_method_4_code, prog_4_method_5_code, prog_4_method_6_code, prog_4_method_7_code, prog_4_method_8_code, prog_4_method_9_code, prog_4_method_10_code, prog_4_method_11_code]
def pm_codes_3 : List ByteArray := [prog_4_method_12_code, prog_4_method_13_code, prog_4_method_14_code, prog_5_method_1_code, prog_5_method_2_code, prog_5_method_3_code, prog_5_method_4_code, prog_5_method_5_code, prog_5_method_6_code, prog_5_method_7_code, prog_5_method_8_code, prog_5_method_9_code, method_3_code, method_4_code, method_5_code, method_6_code, method_7_code, method_8_code, method_9_code, method_10_code, method_11_code, method_12_code, method_13_code, method_14_code, method_15_code, method_16_code, code]
def pm_codes : List ByteArray := pm_codes_0 ++ (pm_codes_1 ++ (pm_codes_2 ++ (pm_codes_3)))
def pm_code (mi : Nat) : ByteArray := pm_codes.getD mi .empty
def pm_rts_0 : List (Option FieldType) := [none, none, some .int, some .int, some .int, some .int, some .int, some .int, some .int, some .int, some .int, some .int, some .int, some .int, some .int, some .int, some .int, some .int, some .int, some .int, some .int, some .int, none, some (.object "JobLayer$Task"), some .boolean, some (.object "JobLayer$Task"), some .boolean, some .boolean, some .boolean, some .boolean, some .int, some .int, some .boolean, some .boolean, some (.object "JobLayer$Task"), some (.object "JobLayer$Task"), some .int, none, some (.object "JobLayer$Task"), none]
def pm_rts_1 : List (Option FieldType) := [some .int, some .int, some .int, some .int, some .int, none, some .int, some .boolean, some .boolean, some .int, some .boolean, some .int, some .int, some .boolean, some .boolean, none, none, none, none, none, none, none, none, none, some .boolean, some .int, some .int, some .int, some .int, some .int, some .int, some .int, none, some .int, some .int, some .boolean, some .int, none, none, none]
def pm_rts_2 : List (Option FieldType) := [some .boolean, some .boolean, some .int, some .int, some .int, some .int, some .int, some .boolean, some .int, some .int, some .int, some .int, some .int, some .int, some .int, some .int, some .int, some .int, some .int, some .int, some .int, some .int, none, some .int, none, some .int, none, none, some .int, none, none, none, some .boolean, some .int, some .int, some .boolean, some .boolean, none, none, some .boolean]
def pm_rts_3 : List (Option FieldType) := [none, none, none, none, none, none, none, none, none, none, some .int, none, some .int, some .int, some .int, some .int, some .int, some .int, some .int, some .int, some .int, some .int, some .int, some .int, some .int, some .int, some .boolean]
def pm_rts : List (Option FieldType) := pm_rts_0 ++ (pm_rts_1 ++ (pm_rts_2 ++ (pm_rts_3)))
def pm_rt (mi : Nat) : Option FieldType := pm_rts.getD mi none
end
section
def pm_q0_0 : List (Nat × Instr × Nat) := [(0, .aload_n 0, 1), (1, .invokespecial 1, 3), (4, .aload_n 0, 1), (5, .bipush 8, 2), (7, .anewarray 9, 3), (10, .putfield 11, 3), (13, .aload_n 0, 1), (14, .bipush 6, 2), (16, .anewarray 15, 3), (19, .putfield 17, 3), (22, .aload_n 0, 1), (23, .new 21, 3), (26, .dup, 1), (27, .invokespecial 23, 3), (30, .putfield 24, 3), (33, .aload_n 0, 1), (34, .iconst 0, 1), (35, .putfield 28, 3), (38, .iconst 0, 1), (39, .istore_n 1, 1), (40, .iload_n 1, 1), (41, .bipush 8, 2), (43, .if_icmp .ge 23, 3), (46, .aload_n 0, 1), (47, .getfield 11, 3), (50, .iload_n 1, 1), (51, .new 9, 3), (54, .dup, 1), (55, .iload_n 1, 1), (56, .invokespecial 32, 3), (59, .aastore, 1), (60, .iinc 1 1, 3), (63, .goto (-23), 3), (66, .iconst 0, 1), (67, .istore_n 1, 1), (68, .iload_n 1, 1), (69, .bipush 6, 2), (71, .if_icmp .ge 24, 3), (74, .aload_n 0, 1), (75, .getfield 17, 3)]
def pm_q0_1 : List (Nat × Instr × Nat) := [(78, .iload_n 1, 1), (79, .new 15, 3), (82, .dup, 1), (83, .bipush 12, 2), (85, .invokespecial 35, 3), (88, .aastore, 1), (89, .iinc 1 1, 3), (92, .goto (-24), 3), (95, .aload_n 0, 1), (96, .getfield 11, 3), (99, .iconst 0, 1), (100, .aaload, 1), (101, .iconst 1, 1), (102, .putfield 36, 3), (105, .aload_n 0, 1), (106, .getfield 11, 3), (109, .iconst 0, 1), (110, .aaload, 1), (111, .getfield 39, 3), (114, .iconst 0, 1), (115, .iconst 1, 1), (116, .iastore, 1), (117, .aload_n 0, 1), (118, .getfield 11, 3), (121, .iconst 0, 1), (122, .aaload, 1), (123, .getfield 39, 3), (126, .iconst 1, 1), (127, .iconst 1, 1), (128, .iastore, 1), (129, .return_, 1)]
def pm_q0 : List (Nat × Instr × Nat) := pm_q0_0 ++ (pm_q0_1)
def pm_q1 : List (Nat × Instr × Nat) := [(0, .iload_n 1, 1), (1, .iconst 3, 1), (2, .if_icmp .eq 9, 3), (5, .iload_n 1, 1), (6, .bipush 26, 2), (8, .if_icmp .ne 35, 3), (11, .aload_n 0, 1), (12, .getfield 24, 3), (15, .invokevirtual 43, 3), (18, .aload_n 0, 1), (19, .aload_n 0, 1), (20, .getfield 24, 3), (23, .getfield 46, 3), (26, .iload_n 1, 1), (27, .iconst 3, 1), (28, .if_icmp .ne 7, 3), (31, .iconst 1, 1), (32, .goto 4, 3), (35, .iconst 4, 1), (36, .invokevirtual 49, 3), (39, .pop, 1), (40, .goto 11, 3), (43, .aload_n 0, 1), (44, .getfield 24, 3), (47, .iload_n 1, 1), (48, .invokevirtual 53, 3), (51, .aload_n 0, 1), (52, .invokevirtual 56, 3), (55, .return_, 1)]
def pm_q2 : List (Nat × Instr × Nat) := [(0, .aload_n 0, 1), (1, .iload_n 1, 1), (2, .invokevirtual 59, 3), (5, .astore_n 2, 1), (6, .iconst 0, 1), (7, .istore_n 3, 1), (8, .iload_n 3, 1), (9, .bipush 8, 2), (11, .if_icmp .ge 37, 3), (14, .aload_n 0, 1), (15, .getfield 11, 3), (18, .iload_n 3, 1), (19, .aaload, 1), (20, .getfield 36, 3), (23, .ifCond .ne 19, 3), (26, .aload_n 0, 1), (27, .getfield 11, 3), (30, .iload_n 3, 1), (31, .aaload, 1), (32, .aload_n 2, 1), (33, .invokevirtual 63, 3), (36, .aload_n 0, 1), (37, .invokevirtual 56, 3), (40, .iload_n 3, 1), (41, .ireturn, 1), (42, .iinc 3 1, 3), (45, .goto (-37), 3), (48, .bipush (-2), 2), (50, .ireturn, 1)]
def pm_q3 : List (Nat × Instr × Nat) := [(0, .aload_n 0, 1), (1, .iload_n 1, 1), (2, .invokevirtual 59, 3), (5, .astore_n 3, 1), (6, .aload_n 3, 1), (7, .getfield 67, 3), (10, .ifCond .ne 6, 3), (13, .bipush (-7), 2), (15, .ireturn, 1), (16, .aload_n 0, 1), (17, .aload_n 3, 1), (18, .iload_n 2, 1), (19, .bipush 63, 2), (21, .iand, 1), (22, .invokevirtual 70, 3), (25, .astore 4, 2), (27, .aload_n 0, 1), (28, .aload 4, 2), (30, .bipush 7, 2), (32, .invokevirtual 74, 3), (35, .pop, 1), (36, .aload_n 0, 1), (37, .invokevirtual 56, 3), (40, .iconst 0, 1), (41, .ireturn, 1)]
def pm_q4_0 : List (Nat × Instr × Nat) := [(0, .aload_n 0, 1), (1, .iload_n 1, 1), (2, .invokevirtual 59, 3), (5, .astore_n 2, 1), (6, .aload_n 2, 1), (7, .iconst 0, 1), (8, .invokevirtual 78, 3), (11, .istore_n 3, 1), (12, .aload_n 2, 1), (13, .iload_n 3, 1), (14, .iconst 1, 1), (15, .iadd, 1), (16, .invokevirtual 78, 3), (19, .istore 4, 2), (21, .aload_n 0, 1), (22, .invokevirtual 82, 3), (25, .istore 5, 2), (27, .iload 4, 2), (29, .bipush 6, 2), (31, .if_icmp .ge 10, 3), (34, .iload 5, 2), (36, .bipush 6, 2), (38, .if_icmp .lt 6, 3), (41, .bipush (-2), 2), (43, .ireturn, 1), (44, .aload_n 0, 1), (45, .getfield 17, 3), (48, .iload 5, 2), (50, .aaload, 1), (51, .iconst 0, 1), (52, .putfield 86, 3), (55, .aload_n 2, 1), (56, .getfield 39, 3), (59, .iload_n 3, 1), (60, .iconst 2, 1), (61, .iconst 2, 1), (62, .iload 5, 2), (64, .imul, 1), (65, .iadd, 1), (66, .iastore, 1)]
def pm_q4_1 : List (Nat × Instr × Nat) := [(67, .aload_n 2, 1), (68, .getfield 39, 3), (71, .iload 4, 2), (73, .iconst 3, 1), (74, .iconst 2, 1), (75, .iload 5, 2), (77, .imul, 1), (78, .iadd, 1), (79, .iastore, 1), (80, .aload_n 0, 1), (81, .invokevirtual 56, 3), (84, .iload_n 3, 1), (85, .bipush 8, 2), (87, .iload 4, 2), (89, .imul, 1), (90, .iadd, 1), (91, .ireturn, 1)]
def pm_q4 : List (Nat × Instr × Nat) := pm_q4_0 ++ (pm_q4_1)
def pm_q5 : List (Nat × Instr × Nat) := [(0, .aload_n 0, 1), (1, .iload_n 1, 1), (2, .invokevirtual 59, 3), (5, .astore 4, 2), (7, .aload 4, 2), (9, .iload_n 2, 1), (10, .invokevirtual 89, 3), (13, .istore 5, 2), (15, .iload 5, 2), (17, .ifCond .eq 13, 3), (20, .iload_n 3, 1), (21, .ifCond .lt 9, 3), (24, .iload_n 3, 1), (25, .bipush 6, 2), (27, .if_icmp .lt 5, 3), (30, .iconst (-1), 1), (31, .ireturn, 1), (32, .aload 4, 2), (34, .getfield 39, 3), (37, .iload_n 3, 1), (38, .iload 5, 2), (40, .iastore, 1), (41, .aload_n 0, 1), (42, .invokevirtual 56, 3), (45, .iload_n 3, 1), (46, .ireturn, 1)]
def pm_q6 : List (Nat × Instr × Nat) := [(0, .aload_n 0, 1), (1, .iload_n 1, 1), (2, .invokevirtual 59, 3), (5, .astore_n 3, 1), (6, .aload_n 3, 1), (7, .iload_n 2, 1), (8, .invokevirtual 89, 3), (11, .ifCond .ne 5, 3), (14, .iconst (-1), 1), (15, .ireturn, 1), (16, .aload_n 3, 1), (17, .getfield 39, 3), (20, .iload_n 2, 1), (21, .iconst 0, 1), (22, .iastore, 1), (23, .aload_n 0, 1), (24, .invokevirtual 56, 3), (27, .iconst 0, 1), (28, .ireturn, 1)]
def pm_q7 : List (Nat × Instr × Nat) := [(0, .aload_n 0, 1), (1, .iload_n 1, 1), (2, .invokevirtual 59, 3), (5, .astore 4, 2), (7, .iload_n 3, 1), (8, .invokestatic 92, 3), (11, .aload 4, 2), (13, .iload_n 2, 1), (14, .invokevirtual 89, 3), (17, .invokestatic 95, 3), (20, .istore 5, 2), (22, .iload 5, 2), (24, .ifCond .eq 9, 3), (27, .iload 5, 2), (29, .iconst 3, 1), (30, .if_icmp .ne 5, 3), (33, .iconst (-1), 1), (34, .ireturn, 1), (35, .aload 4, 2), (37, .getfield 98, 3), (40, .iconst 1, 1), (41, .iload_n 2, 1), (42, .iload_n 3, 1), (43, .lconst 0, 1), (44, .invokevirtual 102, 3), (47, .aload_n 0, 1), (48, .aload 4, 2), (50, .invokevirtual 108, 3), (53, .istore 6, 2), (55, .aload_n 0, 1), (56, .invokevirtual 56, 3), (59, .iload 6, 2), (61, .ireturn, 1)]
def pm_q8 : List (Nat × Instr × Nat) := [(0, .aload_n 0, 1), (1, .iload_n 1, 1), (2, .invokevirtual 59, 3), (5, .astore 6, 2), (7, .iload 5, 2), (9, .invokestatic 92, 3), (12, .aload 6, 2), (14, .iload_n 2, 1), (15, .invokevirtual 89, 3), (18, .invokestatic 95, 3), (21, .istore 7, 2), (23, .iload 7, 2), (25, .ifCond .eq 9, 3), (28, .iload 7, 2), (30, .iconst 2, 1), (31, .if_icmp .ne 5, 3), (34, .iconst (-1), 1), (35, .ireturn, 1), (36, .aload 6, 2), (38, .getfield 98, 3), (41, .iconst 2, 1), (42, .iload_n 2, 1), (43, .iload 5, 2), (45, .lload_n 3, 1), (46, .invokevirtual 102, 3), (49, .aload_n 0, 1), (50, .aload 6, 2), (52, .invokevirtual 108, 3), (55, .istore 8, 2), (57, .aload_n 0, 1), (58, .invokevirtual 56, 3), (61, .iload 8, 2), (63, .ireturn, 1)]
def pm_q9 : List (Nat × Instr × Nat) := [(0, .aload_n 0, 1), (1, .iload_n 1, 1), (2, .invokevirtual 59, 3), (5, .astore_n 3, 1), (6, .aload_n 3, 1), (7, .getfield 98, 3), (10, .iconst 3, 1), (11, .putfield 112, 3), (14, .aload_n 3, 1), (15, .getfield 98, 3), (18, .iload_n 2, 1), (19, .putfield 115, 3), (22, .aload_n 0, 1), (23, .aload_n 3, 1), (24, .invokevirtual 108, 3), (27, .istore 4, 2), (29, .aload_n 0, 1), (30, .invokevirtual 56, 3), (33, .iload 4, 2), (35, .ireturn, 1)]
def pm_q10 : List (Nat × Instr × Nat) := [(0, .aload_n 0, 1), (1, .iload_n 1, 1), (2, .invokevirtual 59, 3), (5, .astore_n 2, 1), (6, .aload_n 2, 1), (7, .getfield 98, 3), (10, .iconst 4, 1), (11, .putfield 112, 3), (14, .aload_n 0, 1), (15, .aload_n 2, 1), (16, .invokevirtual 108, 3), (19, .istore_n 3, 1), (20, .aload_n 0, 1), (21, .invokevirtual 56, 3), (24, .iload_n 3, 1), (25, .ireturn, 1)]
def pm_q11_0 : List (Nat × Instr × Nat) := [(0, .aload_n 0, 1), (1, .iload_n 1, 1), (2, .invokevirtual 59, 3), (5, .pop, 1), (6, .iload_n 3, 1), (7, .iconst 1, 1), (8, .if_icmp .lt 21, 3), (11, .iload_n 3, 1), (12, .bipush 8, 2), (14, .if_icmp .gt 15, 3), (17, .iload_n 2, 1), (18, .bipush (-8), 2), (20, .if_icmp .lt 9, 3), (23, .iload_n 2, 1), (24, .bipush 8, 2), (26, .if_icmp .lt 11, 3), (29, .new 119, 3), (32, .dup, 1), (33, .invokespecial 121, 3), (36, .athrow, 1), (37, .iload_n 2, 1), (38, .ifCond .lt 17, 3), (41, .aload_n 0, 1), (42, .aload_n 0, 1), (43, .getfield 11, 3), (46, .iload_n 2, 1), (47, .aaload, 1), (48, .iload_n 3, 1), (49, .invokevirtual 74, 3), (52, .goto 11, 3), (55, .aload_n 0, 1), (56, .iconst (-1), 1), (57, .iload_n 2, 1), (58, .isub, 1), (59, .iload_n 3, 1), (60, .invokevirtual 49, 3), (63, .istore 4, 2), (65, .aload_n 0, 1), (66, .invokevirtual 56, 3), (69, .iload 4, 2)]
def pm_q11_1 : List (Nat × Instr × Nat) := [(71, .ifCond .eq 7, 3), (74, .iconst 0, 1), (75, .goto 5, 3), (78, .bipush (-8), 2), (80, .ireturn, 1)]
def pm_q11 : List (Nat × Instr × Nat) := pm_q11_0 ++ (pm_q11_1)
def pm_q12 : List (Nat × Instr × Nat) := [(0, .aload_n 0, 1), (1, .iload_n 1, 1), (2, .invokevirtual 59, 3), (5, .astore 4, 2), (7, .iload_n 2, 1), (8, .iconst 1, 1), (9, .if_icmp .lt 18, 3), (12, .iload_n 2, 1), (13, .bipush 7, 2), (15, .if_icmp .gt 12, 3), (18, .iload_n 3, 1), (19, .ifCond .lt 8, 3), (22, .iload_n 3, 1), (23, .iconst 2, 1), (24, .if_icmp .le 11, 3), (27, .new 119, 3), (30, .dup, 1), (31, .invokespecial 121, 3), (34, .athrow, 1), (35, .aload 4, 2), (37, .getfield 122, 3), (40, .iload_n 2, 1), (41, .iaload, 1), (42, .istore 5, 2), (44, .aload 4, 2), (46, .getfield 122, 3), (49, .iload_n 2, 1), (50, .iload_n 3, 1), (51, .iastore, 1), (52, .iload_n 3, 1), (53, .iconst 1, 1), (54, .if_icmp .ne 9, 3), (57, .aload 4, 2), (59, .iload_n 2, 1), (60, .invokevirtual 125, 3), (63, .aload_n 0, 1), (64, .invokevirtual 56, 3), (67, .iload 5, 2), (69, .ireturn, 1)]
def pm_q13 : List (Nat × Instr × Nat) := [(0, .aload_n 0, 1), (1, .iload_n 1, 1), (2, .invokevirtual 59, 3), (5, .astore_n 3, 1), (6, .aload_n 3, 1), (7, .getfield 128, 3), (10, .istore 4, 2), (12, .aload_n 3, 1), (13, .iload_n 2, 1), (14, .sipush 254, 3), (17, .iand, 1), (18, .putfield 128, 3), (21, .aload_n 0, 1), (22, .aload_n 3, 1), (23, .invokevirtual 131, 3), (26, .astore 5, 2), (28, .aload_n 0, 1), (29, .aload 5, 2), (31, .bipush 7, 2), (33, .invokevirtual 74, 3), (36, .pop, 1), (37, .aload_n 0, 1), (38, .invokevirtual 56, 3), (41, .iload 4, 2), (43, .ireturn, 1)]
def pm_q14_0 : List (Nat × Instr × Nat) := [(0, .aload_n 0, 1), (1, .iload_n 1, 1), (2, .invokevirtual 59, 3), (5, .pop, 1), (6, .iload_n 2, 1), (7, .ifCond .le 21, 3), (10, .iload_n 2, 1), (11, .bipush 8, 2), (13, .if_icmp .ge 15, 3), (16, .aload_n 0, 1), (17, .getfield 11, 3), (20, .iload_n 2, 1), (21, .aaload, 1), (22, .invokevirtual 135, 3), (25, .ifCond .ne 6, 3), (28, .bipush (-7), 2), (30, .ireturn, 1), (31, .aload_n 0, 1), (32, .getfield 11, 3), (35, .iload_n 2, 1), (36, .aaload, 1), (37, .astore 4, 2), (39, .iload_n 2, 1), (40, .iload_n 1, 1), (41, .if_icmp .eq 12, 3), (44, .aload 4, 2), (46, .getfield 139, 3), (49, .iload_n 1, 1), (50, .if_icmp .ne 16, 3), (53, .iload_n 3, 1), (54, .iload_n 2, 1), (55, .if_icmp .eq 14, 3), (58, .aload_n 0, 1), (59, .iload_n 3, 1), (60, .invokevirtual 142, 3), (63, .ifCond .ne 6, 3), (66, .bipush (-7), 2), (68, .ireturn, 1), (69, .aload 4, 2), (71, .iload_n 3, 1)]
def pm_q14_1 : List (Nat × Instr × Nat) := [(72, .putfield 146, 3), (75, .aload_n 0, 1), (76, .invokevirtual 56, 3), (79, .iconst 0, 1), (80, .ireturn, 1)]
def pm_q14 : List (Nat × Instr × Nat) := pm_q14_0 ++ (pm_q14_1)
def pm_q15 : List (Nat × Instr × Nat) := [(0, .aload_n 0, 1), (1, .iload_n 1, 1), (2, .invokevirtual 59, 3), (5, .astore_n 3, 1), (6, .aload_n 0, 1), (7, .iload_n 2, 1), (8, .invokevirtual 142, 3), (11, .ifCond .eq 21, 3), (14, .iload_n 1, 1), (15, .ifCond .eq 20, 3), (18, .aload_n 3, 1), (19, .getfield 146, 3), (22, .aload_n 0, 1), (23, .getfield 24, 3), (26, .getfield 46, 3), (29, .if_icmp .eq 6, 3), (32, .bipush (-7), 2), (34, .ireturn, 1), (35, .aload_n 0, 1), (36, .getfield 24, 3), (39, .iload_n 2, 1), (40, .putfield 46, 3), (43, .aload_n 0, 1), (44, .invokevirtual 56, 3), (47, .iconst 0, 1), (48, .ireturn, 1)]
def pm_q16_0 : List (Nat × Instr × Nat) := [(0, .aload_n 0, 1), (1, .iload_n 1, 1), (2, .invokevirtual 149, 3), (5, .ifCond .ne 5, 3), (8, .iconst (-1), 1), (9, .ireturn, 1), (10, .aload_n 0, 1), (11, .getfield 11, 3), (14, .iload_n 1, 1), (15, .aaload, 1), (16, .astore_n 3, 1), (17, .iload_n 2, 1), (18, .bipush 10, 2), (20, .if_icmp .lt 22, 3), (23, .iload_n 2, 1), (24, .bipush 16, 2), (26, .if_icmp .ge 16, 3), (29, .aload_n 3, 1), (30, .getfield 39, 3), (33, .iload_n 2, 1), (34, .bipush 10, 2), (36, .isub, 1), (37, .iaload, 1), (38, .invokestatic 95, 3), (41, .ireturn, 1), (42, .iload_n 2, 1), (43, .bipush 21, 2), (45, .if_icmp .lt 19, 3), (48, .iload_n 2, 1), (49, .bipush 27, 2), (51, .if_icmp .gt 13, 3), (54, .aload_n 3, 1), (55, .getfield 122, 3), (58, .iload_n 2, 1), (59, .bipush 20, 2), (61, .isub, 1), (62, .iaload, 1), (63, .ireturn, 1), (64, .iload_n 2, 1), (65, .tableswitch 108 0 8 #[51, 56, 61, 66, 71, 76, 81, 86, 91], 51)]
def pm_q16_1 : List (Nat × Instr × Nat) := [(116, .aload_n 3, 1), (117, .getfield 36, 3), (120, .ireturn, 1), (121, .aload_n 3, 1), (122, .getfield 139, 3), (125, .ireturn, 1), (126, .aload_n 3, 1), (127, .getfield 146, 3), (130, .ireturn, 1), (131, .aload_n 3, 1), (132, .getfield 128, 3), (135, .ireturn, 1), (136, .aload_n 3, 1), (137, .getfield 152, 3), (140, .ireturn, 1), (141, .aload_n 3, 1), (142, .getfield 155, 3), (145, .ireturn, 1), (146, .aload_n 3, 1), (147, .getfield 158, 3), (150, .ireturn, 1), (151, .aload_n 3, 1), (152, .getfield 161, 3), (155, .ireturn, 1), (156, .aload_n 3, 1), (157, .getfield 36, 3), (160, .iconst 4, 1), (161, .if_icmp .ne 10, 3), (164, .aload_n 3, 1), (165, .getfield 164, 3), (168, .goto 4, 3), (171, .iconst (-1), 1), (172, .ireturn, 1), (173, .iconst (-1), 1), (174, .ireturn, 1)]
def pm_q16 : List (Nat × Instr × Nat) := pm_q16_0 ++ (pm_q16_1)
def pm_q17 : List (Nat × Instr × Nat) := [(0, .aload_n 0, 1), (1, .iload_n 1, 1), (2, .invokevirtual 149, 3), (5, .ifCond .eq 20, 3), (8, .iload_n 2, 1), (9, .ifCond .lt 16, 3), (12, .iload_n 2, 1), (13, .aload_n 0, 1), (14, .getfield 11, 3), (17, .iload_n 1, 1), (18, .aaload, 1), (19, .getfield 158, 3), (22, .if_icmp .lt 5, 3), (25, .iconst (-1), 1), (26, .ireturn, 1), (27, .aload_n 0, 1), (28, .getfield 11, 3), (31, .iload_n 1, 1), (32, .aaload, 1), (33, .getfield 167, 3), (36, .iload_n 2, 1), (37, .iaload, 1), (38, .ireturn, 1)]
def pm_q18 : List (Nat × Instr × Nat) := [(0, .aload_n 0, 1), (1, .iload_n 1, 1), (2, .invokevirtual 149, 3), (5, .ifCond .ne 5, 3), (8, .iconst (-1), 1), (9, .ireturn, 1), (10, .aload_n 0, 1), (11, .getfield 11, 3), (14, .iload_n 1, 1), (15, .aaload, 1), (16, .getfield 170, 3), (19, .aload_n 0, 1), (20, .getfield 11, 3), (23, .iload_n 1, 1), (24, .aaload, 1), (25, .getfield 161, 3), (28, .iload_n 2, 1), (29, .invokestatic 173, 3), (32, .ireturn, 1)]
def pm_q19 : List (Nat × Instr × Nat) := [(0, .iload_n 1, 1), (1, .tableswitch 75 (-5) (-1) #[70, 62, 54, 43, 35], 35), (36, .aload_n 0, 1), (37, .getfield 24, 3), (40, .getfield 46, 3), (43, .ireturn, 1), (44, .aload_n 0, 1), (45, .getfield 24, 3), (48, .getfield 177, 3), (51, .getfield 86, 3), (54, .ireturn, 1), (55, .aload_n 0, 1), (56, .getfield 24, 3), (59, .getfield 181, 3), (62, .ireturn, 1), (63, .aload_n 0, 1), (64, .getfield 24, 3), (67, .getfield 184, 3), (70, .ireturn, 1), (71, .aload_n 0, 1), (72, .invokevirtual 187, 3), (75, .ireturn, 1), (76, .aload_n 0, 1), (77, .getfield 24, 3), (80, .getfield 190, 3), (83, .aload_n 0, 1), (84, .getfield 24, 3), (87, .getfield 184, 3), (90, .iload_n 1, 1), (91, .invokestatic 173, 3), (94, .ireturn, 1)]
def pm_q20 : List (Nat × Instr × Nat) := [(0, .iload_n 2, 1), (1, .ifCond .lt 14, 3), (4, .iload_n 2, 1), (5, .aload_n 0, 1), (6, .arraylength, 1), (7, .if_icmp .ge 8, 3), (10, .iload_n 2, 1), (11, .iload_n 1, 1), (12, .if_icmp .lt 5, 3), (15, .iconst (-1), 1), (16, .ireturn, 1), (17, .aload_n 0, 1), (18, .iload_n 1, 1), (19, .iconst 1, 1), (20, .isub, 1), (21, .iload_n 2, 1), (22, .isub, 1), (23, .aload_n 0, 1), (24, .arraylength, 1), (25, .irem, 1), (26, .iaload, 1), (27, .ireturn, 1)]
def pm_q21 : List (Nat × Instr × Nat) := [(0, .iload_n 0, 1), (1, .ifCond .eq 8, 3), (4, .iload_n 0, 1), (5, .iconst 1, 1), (6, .if_icmp .ne 5, 3), (9, .iload_n 0, 1), (10, .ireturn, 1), (11, .iconst 2, 1), (12, .iload_n 0, 1), (13, .iconst 2, 1), (14, .irem, 1), (15, .iadd, 1), (16, .ireturn, 1)]
def pm_q22 : List (Nat × Instr × Nat) := [(0, .iload_n 0, 1), (1, .iconst 1, 1), (2, .if_icmp .lt 9, 3), (5, .iload_n 0, 1), (6, .bipush 8, 2), (8, .if_icmp .le 11, 3), (11, .new 119, 3), (14, .dup, 1), (15, .invokespecial 121, 3), (18, .athrow, 1), (19, .return_, 1)]
def pm_q23 : List (Nat × Instr × Nat) := [(0, .aload_n 0, 1), (1, .iload_n 1, 1), (2, .invokevirtual 149, 3), (5, .ifCond .eq 16, 3), (8, .aload_n 0, 1), (9, .getfield 11, 3), (12, .iload_n 1, 1), (13, .aaload, 1), (14, .getfield 36, 3), (17, .iconst 1, 1), (18, .if_icmp .eq 11, 3), (21, .new 193, 3), (24, .dup, 1), (25, .invokespecial 195, 3), (28, .athrow, 1), (29, .aload_n 0, 1), (30, .getfield 11, 3), (33, .iload_n 1, 1), (34, .aaload, 1), (35, .areturn, 1)]
def pm_q24 : List (Nat × Instr × Nat) := [(0, .iload_n 1, 1), (1, .ifCond .lt 25, 3), (4, .iload_n 1, 1), (5, .bipush 8, 2), (7, .if_icmp .ge 19, 3), (10, .aload_n 0, 1), (11, .getfield 11, 3), (14, .iload_n 1, 1), (15, .aaload, 1), (16, .getfield 36, 3), (19, .ifCond .eq 7, 3), (22, .iconst 1, 1), (23, .goto 4, 3), (26, .iconst 0, 1), (27, .ireturn, 1)]
def pm_q25 : List (Nat × Instr × Nat) := [(0, .aload_n 1, 1), (1, .getfield 139, 3), (4, .ifCond .lt 24, 3), (7, .aload_n 1, 1), (8, .getfield 139, 3), (11, .bipush 8, 2), (13, .if_icmp .ge 15, 3), (16, .aload_n 0, 1), (17, .getfield 11, 3), (20, .aload_n 1, 1), (21, .getfield 139, 3), (24, .aaload, 1), (25, .goto 4, 3), (28, .aconst_null, 1), (29, .areturn, 1)]
def pm_q26 : List (Nat × Instr × Nat) := [(0, .iconst 0, 1), (1, .istore_n 2, 1), (2, .iload_n 2, 1), (3, .bipush 8, 2), (5, .if_icmp .ge 36, 3), (8, .aload_n 0, 1), (9, .getfield 11, 3), (12, .iload_n 2, 1), (13, .aaload, 1), (14, .invokevirtual 135, 3), (17, .ifCond .eq 18, 3), (20, .aload_n 0, 1), (21, .getfield 11, 3), (24, .iload_n 2, 1), (25, .aaload, 1), (26, .getfield 146, 3), (29, .iload_n 1, 1), (30, .if_icmp .ne 5, 3), (33, .iconst 1, 1), (34, .ireturn, 1), (35, .iinc 2 1, 3), (38, .goto (-36), 3), (41, .iconst 0, 1), (42, .ireturn, 1)]
def pm_q27 : List (Nat × Instr × Nat) := [(0, .iconst 0, 1), (1, .istore_n 2, 1), (2, .iload_n 2, 1), (3, .bipush 8, 2), (5, .if_icmp .ge 62, 3), (8, .aload_n 0, 1), (9, .getfield 11, 3), (12, .iload_n 2, 1), (13, .aaload, 1), (14, .astore_n 3, 1), (15, .aload_n 0, 1), (16, .aload_n 3, 1), (17, .invokevirtual 196, 3), (20, .astore 4, 2), (22, .aload_n 3, 1), (23, .invokevirtual 135, 3), (26, .ifCond .eq 35, 3), (29, .aload_n 3, 1), (30, .getfield 146, 3), (33, .iload_n 1, 1), (34, .if_icmp .ne 27, 3), (37, .aload 4, 2), (39, .ifnull 22, 3), (42, .aload 4, 2), (44, .invokevirtual 135, 3), (47, .ifCond .eq 14, 3), (50, .aload 4, 2), (52, .getfield 146, 3), (55, .iload_n 1, 1), (56, .if_icmp .eq 5, 3), (59, .iconst 0, 1), (60, .ireturn, 1), (61, .iinc 2 1, 3), (64, .goto (-62), 3), (67, .iconst 1, 1), (68, .ireturn, 1)]
def pm_q28 : List (Nat × Instr × Nat) := [(0, .iconst 0, 1), (1, .istore_n 2, 1), (2, .iload_n 2, 1), (3, .bipush 8, 2), (5, .if_icmp .ge 40, 3), (8, .iconst 0, 1), (9, .istore_n 3, 1), (10, .iload_n 3, 1), (11, .bipush 6, 2), (13, .if_icmp .ge 26, 3), (16, .aload_n 0, 1), (17, .getfield 11, 3), (20, .iload_n 2, 1), (21, .aaload, 1), (22, .getfield 39, 3), (25, .iload_n 3, 1), (26, .iaload, 1), (27, .iload_n 1, 1), (28, .if_icmp .ne 5, 3), (31, .iconst 1, 1), (32, .ireturn, 1), (33, .iinc 3 1, 3), (36, .goto (-26), 3), (39, .iinc 2 1, 3), (42, .goto (-40), 3), (45, .iconst 0, 1), (46, .ireturn, 1)]
def pm_q29 : List (Nat × Instr × Nat) := [(0, .aload_n 0, 1), (1, .iconst 2, 1), (2, .iconst 2, 1), (3, .iload_n 1, 1), (4, .imul, 1), (5, .iadd, 1), (6, .invokevirtual 199, 3), (9, .ifCond .ne 15, 3), (12, .aload_n 0, 1), (13, .iconst 3, 1), (14, .iconst 2, 1), (15, .iload_n 1, 1), (16, .imul, 1), (17, .iadd, 1), (18, .invokevirtual 199, 3), (21, .ifCond .eq 7, 3), (24, .iconst 1, 1), (25, .goto 4, 3), (28, .iconst 0, 1), (29, .ireturn, 1)]
def pm_q30 : List (Nat × Instr × Nat) := [(0, .iconst 0, 1), (1, .istore_n 1, 1), (2, .iload_n 1, 1), (3, .bipush 6, 2), (5, .if_icmp .ge 19, 3), (8, .aload_n 0, 1), (9, .iload_n 1, 1), (10, .invokevirtual 202, 3), (13, .ifCond .ne 5, 3), (16, .iload_n 1, 1), (17, .ireturn, 1), (18, .iinc 1 1, 3), (21, .goto (-19), 3), (24, .bipush 6, 2), (26, .ireturn, 1)]
def pm_q31 : List (Nat × Instr × Nat) := [(0, .iconst 0, 1), (1, .istore_n 1, 1), (2, .iconst 0, 1), (3, .istore_n 2, 1), (4, .iload_n 2, 1), (5, .bipush 6, 2), (7, .if_icmp .ge 20, 3), (10, .aload_n 0, 1), (11, .iload_n 2, 1), (12, .invokevirtual 202, 3), (15, .ifCond .eq 6, 3), (18, .iinc 1 1, 3), (21, .iinc 2 1, 3), (24, .goto (-20), 3), (27, .iload_n 1, 1), (28, .ireturn, 1)]
def pm_q32 : List (Nat × Instr × Nat) := [(0, .iconst 0, 1), (1, .istore_n 3, 1), (2, .iconst 0, 1), (3, .istore 4, 2), (5, .iload 4, 2), (7, .bipush 8, 2), (9, .if_icmp .ge 40, 3), (12, .aload_n 0, 1), (13, .getfield 11, 3), (16, .iload 4, 2), (18, .aaload, 1), (19, .getfield 146, 3), (22, .iload_n 1, 1), (23, .if_icmp .ne 20, 3), (26, .aload_n 0, 1), (27, .aload_n 0, 1), (28, .getfield 11, 3), (31, .iload 4, 2), (33, .aaload, 1), (34, .iload_n 2, 1), (35, .invokevirtual 74, 3), (38, .ifCond .eq 5, 3), (41, .iconst 1, 1), (42, .istore_n 3, 1), (43, .iinc 4 1, 3), (46, .goto (-41), 3), (49, .iload_n 3, 1), (50, .ireturn, 1)]
def pm_q33 : List (Nat × Instr × Nat) := [(0, .aload_n 1, 1), (1, .ifnull 10, 3), (4, .aload_n 1, 1), (5, .invokevirtual 135, 3), (8, .ifCond .ne 5, 3), (11, .iconst 0, 1), (12, .ireturn, 1), (13, .aload_n 1, 1), (14, .astore_n 3, 1), (15, .iload_n 2, 1), (16, .istore 4, 2), (18, .iconst 0, 1), (19, .istore 5, 2), (21, .iload 5, 2), (23, .bipush 8, 2), (25, .if_icmp .ge 46, 3), (28, .aload_n 3, 1), (29, .ifnull 42, 3), (32, .aload_n 3, 1), (33, .iload 4, 2), (35, .invokevirtual 205, 3), (38, .iload 4, 2), (40, .bipush 8, 2), (42, .if_icmp .ne 13, 3), (45, .aload_n 0, 1), (46, .aload_n 3, 1), (47, .bipush 72, 2), (49, .invokevirtual 70, 3), (52, .goto 8, 3), (55, .aload_n 0, 1), (56, .aload_n 3, 1), (57, .invokevirtual 131, 3), (60, .astore_n 3, 1), (61, .bipush 7, 2), (63, .istore 4, 2), (65, .iinc 5 1, 3), (68, .goto (-47), 3), (71, .iconst 1, 1), (72, .ireturn, 1)]
def pm_q34_0 : List (Nat × Instr × Nat) := [(0, .aload_n 1, 1), (1, .getfield 36, 3), (4, .iconst 3, 1), (5, .if_icmp .ne 5, 3), (8, .aconst_null, 1), (9, .areturn, 1), (10, .iconst 1, 1), (11, .istore_n 2, 1), (12, .iload_n 2, 1), (13, .bipush 7, 2), (15, .if_icmp .gt 104, 3), (18, .aload_n 1, 1), (19, .iload_n 2, 1), (20, .invokevirtual 208, 3), (23, .ifCond .ne 6, 3), (26, .goto 87, 3), (29, .aload_n 1, 1), (30, .iload_n 2, 1), (31, .invokevirtual 125, 3), (34, .aload_n 1, 1), (35, .getfield 122, 3), (38, .iload_n 2, 1), (39, .iaload, 1), (40, .iconst 2, 1), (41, .if_icmp .ne 11, 3), (44, .aload_n 1, 1), (45, .iload_n 2, 1), (46, .invokevirtual 211, 3), (49, .goto 64, 3), (52, .aload_n 1, 1), (53, .getfield 67, 3), (56, .ifCond .eq 18, 3), (59, .iload_n 2, 1), (60, .iconst 3, 1), (61, .if_icmp .gt 13, 3), (64, .aload_n 0, 1), (65, .aload_n 1, 1), (66, .bipush 64, 2), (68, .iload_n 2, 1), (69, .iadd, 1)]
def pm_q34_1 : List (Nat × Instr × Nat) := [(70, .invokevirtual 70, 3), (73, .areturn, 1), (74, .aload_n 1, 1), (75, .getfield 67, 3), (78, .ifCond .eq 35, 3), (81, .iload_n 2, 1), (82, .iconst 5, 1), (83, .if_icmp .gt 30, 3), (86, .aload_n 0, 1), (87, .aload_n 1, 1), (88, .getfield 146, 3), (91, .invokevirtual 214, 3), (94, .ifCond .ne 19, 3), (97, .aload_n 1, 1), (98, .iconst 3, 1), (99, .putfield 36, 3), (102, .aload_n 1, 1), (103, .iconst 0, 1), (104, .putfield 217, 3), (107, .aload_n 0, 1), (108, .aload_n 1, 1), (109, .invokevirtual 196, 3), (112, .areturn, 1), (113, .iinc 2 1, 3), (116, .goto (-104), 3), (119, .aconst_null, 1), (120, .areturn, 1)]
def pm_q34 : List (Nat × Instr × Nat) := pm_q34_0 ++ (pm_q34_1)
def pm_q35_0 : List (Nat × Instr × Nat) := [(0, .aload_n 0, 1), (1, .aload_n 1, 1), (2, .invokevirtual 196, 3), (5, .astore_n 3, 1), (6, .aload_n 3, 1), (7, .ifnonnull 5, 3), (10, .aconst_null, 1), (11, .areturn, 1), (12, .aload_n 1, 1), (13, .iload_n 2, 1), (14, .invokevirtual 220, 3), (17, .iconst 0, 1), (18, .istore 4, 2), (20, .iload 4, 2), (22, .bipush 8, 2), (24, .if_icmp .ge 37, 3), (27, .aload_n 0, 1), (28, .getfield 11, 3), (31, .iload 4, 2), (33, .aaload, 1), (34, .getfield 139, 3), (37, .aload_n 1, 1), (38, .getfield 67, 3), (41, .if_icmp .ne 14, 3), (44, .aload_n 0, 1), (45, .getfield 11, 3), (48, .iload 4, 2), (50, .aaload, 1), (51, .iconst 0, 1), (52, .putfield 139, 3), (55, .iinc 4 1, 3), (58, .goto (-38), 3), (61, .aload_n 1, 1), (62, .aload_n 3, 1), (63, .getfield 122, 3), (66, .bipush 7, 2), (68, .iaload, 1), (69, .iconst 1, 1), (70, .if_icmp .ne 7, 3), (73, .iconst 0, 1)]
def pm_q35_1 : List (Nat × Instr × Nat) := [(74, .goto 4, 3), (77, .iconst 4, 1), (78, .putfield 36, 3), (81, .aload_n 3, 1), (82, .areturn, 1)]
def pm_q35 : List (Nat × Instr × Nat) := pm_q35_0 ++ (pm_q35_1)
def pm_q36 : List (Nat × Instr × Nat) := [(0, .aload_n 0, 1), (1, .aload_n 1, 1), (2, .invokevirtual 223, 3), (5, .istore_n 2, 1), (6, .iload_n 2, 1), (7, .bipush (-9), 2), (9, .if_icmp .eq 9, 3), (12, .iload_n 2, 1), (13, .bipush (-10), 2), (15, .if_icmp .ne 27, 3), (18, .aload_n 0, 1), (19, .dup, 1), (20, .getfield 28, 3), (23, .iconst 1, 1), (24, .iadd, 1), (25, .putfield 28, 3), (28, .aload_n 1, 1), (29, .aload_n 0, 1), (30, .getfield 28, 3), (33, .invokevirtual 226, 3), (36, .bipush (-9), 2), (38, .istore_n 2, 1), (39, .goto 24, 3), (42, .aload_n 1, 1), (43, .getfield 98, 3), (46, .iconst 0, 1), (47, .putfield 112, 3), (50, .iload_n 2, 1), (51, .bipush (-6), 2), (53, .if_icmp .ne 10, 3), (56, .aload_n 0, 1), (57, .aload_n 1, 1), (58, .iconst 2, 1), (59, .invokevirtual 74, 3), (62, .pop, 1), (63, .iload_n 2, 1), (64, .ireturn, 1)]
def pm_q37 : List (Nat × Instr × Nat) := [(0, .iconst 0, 1), (1, .istore_n 1, 1), (2, .iconst 0, 1), (3, .istore_n 2, 1), (4, .iload_n 2, 1), (5, .sipush 1000, 3), (8, .if_icmp .ge 54, 3), (11, .aload_n 0, 1), (12, .iload_n 1, 1), (13, .invokevirtual 229, 3), (16, .astore_n 3, 1), (17, .aload_n 3, 1), (18, .ifnonnull 4, 3), (21, .return_, 1), (22, .aload_n 0, 1), (23, .aload_n 3, 1), (24, .invokevirtual 223, 3), (27, .istore 4, 2), (29, .iload 4, 2), (31, .bipush (-9), 2), (33, .if_icmp .ne 14, 3), (36, .aload_n 3, 1), (37, .getfield 98, 3), (40, .getfield 232, 3), (43, .istore_n 1, 1), (44, .goto 12, 3), (47, .aload_n 0, 1), (48, .aload_n 3, 1), (49, .iload 4, 2), (51, .invokevirtual 235, 3), (54, .iconst 0, 1), (55, .istore_n 1, 1), (56, .iinc 2 1, 3), (59, .goto (-55), 3), (62, .return_, 1)]
def pm_q38 : List (Nat × Instr × Nat) := [(0, .aconst_null, 1), (1, .astore_n 2, 1), (2, .iconst 0, 1), (3, .istore_n 3, 1), (4, .iload_n 3, 1), (5, .bipush 8, 2), (7, .if_icmp .ge 63, 3), (10, .aload_n 0, 1), (11, .getfield 11, 3), (14, .iload_n 3, 1), (15, .aaload, 1), (16, .astore 4, 2), (18, .aload 4, 2), (20, .getfield 36, 3), (23, .iconst 2, 1), (24, .if_icmp .ne 40, 3), (27, .aload 4, 2), (29, .getfield 98, 3), (32, .getfield 232, 3), (35, .iload_n 1, 1), (36, .if_icmp .le 28, 3), (39, .aload_n 2, 1), (40, .ifnull 21, 3), (43, .aload 4, 2), (45, .getfield 98, 3), (48, .getfield 232, 3), (51, .aload_n 2, 1), (52, .getfield 98, 3), (55, .getfield 232, 3), (58, .if_icmp .ge 6, 3), (61, .aload 4, 2), (63, .astore_n 2, 1), (64, .iinc 3 1, 3), (67, .goto (-63), 3), (70, .aload_n 2, 1), (71, .areturn, 1)]
def pm_q39 : List (Nat × Instr × Nat) := [(0, .iload_n 2, 1), (1, .bipush (-10), 2), (3, .if_icmp .ne 14, 3), (6, .aload_n 0, 1), (7, .aload_n 1, 1), (8, .getfield 146, 3), (11, .iconst 5, 1), (12, .invokevirtual 49, 3), (15, .pop, 1), (16, .return_, 1), (17, .aload_n 1, 1), (18, .iload_n 2, 1), (19, .invokevirtual 239, 3), (22, .iload_n 2, 1), (23, .bipush (-6), 2), (25, .if_icmp .ne 10, 3), (28, .aload_n 0, 1), (29, .aload_n 1, 1), (30, .iconst 2, 1), (31, .invokevirtual 74, 3), (34, .pop, 1), (35, .return_, 1)]
def pm_q40 : List (Nat × Instr × Nat) := [(0, .aload_n 1, 1), (1, .getfield 98, 3), (4, .getfield 112, 3), (7, .tableswitch 43 1 3 #[25, 31, 37], 25), (32, .aload_n 0, 1), (33, .aload_n 1, 1), (34, .invokevirtual 242, 3), (37, .ireturn, 1), (38, .aload_n 0, 1), (39, .aload_n 1, 1), (40, .invokevirtual 245, 3), (43, .ireturn, 1), (44, .aload_n 0, 1), (45, .aload_n 1, 1), (46, .invokevirtual 248, 3), (49, .ireturn, 1), (50, .bipush (-9), 2), (52, .ireturn, 1)]
def pm_q41_0 : List (Nat × Instr × Nat) := [(0, .aload_n 1, 1), (1, .aload_n 1, 1), (2, .getfield 98, 3), (5, .getfield 251, 3), (8, .invokevirtual 89, 3), (11, .istore_n 2, 1), (12, .iload_n 2, 1), (13, .iconst 1, 1), (14, .if_icmp .ne 9, 3), (17, .aload_n 0, 1), (18, .aload_n 1, 1), (19, .invokevirtual 254, 3), (22, .ireturn, 1), (23, .iload_n 2, 1), (24, .iconst 2, 1), (25, .idiv, 1), (26, .iconst 1, 1), (27, .isub, 1), (28, .istore_n 3, 1), (29, .iload_n 3, 1), (30, .ifCond .lt 9, 3), (33, .iload_n 3, 1), (34, .bipush 6, 2), (36, .if_icmp .lt 5, 3), (39, .iconst (-1), 1), (40, .ireturn, 1), (41, .aload_n 0, 1), (42, .getfield 17, 3), (45, .iload_n 3, 1), (46, .aaload, 1), (47, .getfield 86, 3), (50, .ifCond .ne 18, 3), (53, .aload_n 0, 1), (54, .iconst 3, 1), (55, .iconst 2, 1), (56, .iload_n 3, 1), (57, .imul, 1), (58, .iadd, 1), (59, .invokevirtual 199, 3), (62, .ifCond .eq 6, 3)]
def pm_q41_1 : List (Nat × Instr × Nat) := [(65, .bipush (-9), 2), (67, .ireturn, 1), (68, .aload_n 1, 1), (69, .aload_n 0, 1), (70, .getfield 17, 3), (73, .iload_n 3, 1), (74, .aaload, 1), (75, .aload_n 1, 1), (76, .getfield 98, 3), (79, .getfield 257, 3), (82, .aload_n 1, 1), (83, .getfield 167, 3), (86, .invokevirtual 260, 3), (89, .putfield 158, 3), (92, .aload_n 1, 1), (93, .getfield 158, 3), (96, .ireturn, 1)]
def pm_q41 : List (Nat × Instr × Nat) := pm_q41_0 ++ (pm_q41_1)
def pm_q42_0 : List (Nat × Instr × Nat) := [(0, .aload_n 1, 1), (1, .getfield 146, 3), (4, .aload_n 0, 1), (5, .getfield 24, 3), (8, .getfield 46, 3), (11, .if_icmp .eq 57, 3), (14, .aload_n 1, 1), (15, .getfield 67, 3), (18, .ifCond .eq 21, 3), (21, .aload_n 1, 1), (22, .getfield 122, 3), (25, .iconst 5, 1), (26, .iaload, 1), (27, .iconst 1, 1), (28, .if_icmp .eq 11, 3), (31, .aload_n 1, 1), (32, .iconst 5, 1), (33, .invokevirtual 264, 3), (36, .ifCond .eq 7, 3), (39, .iconst 1, 1), (40, .goto 4, 3), (43, .iconst 0, 1), (44, .istore_n 2, 1), (45, .iload_n 2, 1), (46, .ifCond .ne 14, 3), (49, .aload_n 0, 1), (50, .aload_n 1, 1), (51, .getfield 146, 3), (54, .invokevirtual 214, 3), (57, .ifCond .eq 8, 3), (60, .bipush (-5), 2), (62, .goto 5, 3), (65, .bipush (-10), 2), (67, .ireturn, 1), (68, .aload_n 0, 1), (69, .getfield 24, 3), (72, .getfield 181, 3), (75, .ifCond .ne 6, 3), (78, .bipush (-9), 2), (80, .ireturn, 1)]
def pm_q42_1 : List (Nat × Instr × Nat) := [(81, .aload_n 1, 1), (82, .aload_n 0, 1), (83, .getfield 24, 3), (86, .aload_n 1, 1), (87, .getfield 98, 3), (90, .getfield 257, 3), (93, .aload_n 1, 1), (94, .getfield 167, 3), (97, .invokevirtual 267, 3), (100, .putfield 158, 3), (103, .aload_n 1, 1), (104, .getfield 158, 3), (107, .ireturn, 1)]
def pm_q42 : List (Nat × Instr × Nat) := pm_q42_0 ++ (pm_q42_1)
def pm_q43_0 : List (Nat × Instr × Nat) := [(0, .aload_n 1, 1), (1, .getfield 98, 3), (4, .astore_n 2, 1), (5, .aload_n 1, 1), (6, .aload_n 2, 1), (7, .getfield 251, 3), (10, .invokevirtual 89, 3), (13, .istore_n 3, 1), (14, .iload_n 3, 1), (15, .iconst 1, 1), (16, .if_icmp .ne 39, 3), (19, .iconst 0, 1), (20, .istore 4, 2), (22, .iload 4, 2), (24, .aload_n 2, 1), (25, .getfield 257, 3), (28, .if_icmp .ge 22, 3), (31, .aload_n 0, 1), (32, .getfield 24, 3), (35, .aload_n 2, 1), (36, .iload 4, 2), (38, .invokevirtual 270, 3), (41, .invokevirtual 273, 3), (44, .iinc 4 1, 3), (47, .goto (-25), 3), (50, .aload_n 2, 1), (51, .getfield 257, 3), (54, .ireturn, 1), (55, .iload_n 3, 1), (56, .iconst 2, 1), (57, .idiv, 1), (58, .iconst 1, 1), (59, .isub, 1), (60, .istore 4, 2), (62, .iload 4, 2), (64, .ifCond .lt 10, 3), (67, .iload 4, 2), (69, .bipush 6, 2), (71, .if_icmp .lt 5, 3), (74, .iconst (-1), 1)]
def pm_q43_1 : List (Nat × Instr × Nat) := [(75, .ireturn, 1), (76, .aload_n 0, 1), (77, .iconst 2, 1), (78, .iconst 2, 1), (79, .iload 4, 2), (81, .imul, 1), (82, .iadd, 1), (83, .invokevirtual 199, 3), (86, .ifCond .ne 6, 3), (89, .bipush (-6), 2), (91, .ireturn, 1), (92, .aload_n 0, 1), (93, .getfield 17, 3), (96, .iload 4, 2), (98, .aaload, 1), (99, .invokevirtual 276, 3), (102, .aload_n 2, 1), (103, .getfield 257, 3), (106, .if_icmp .ge 6, 3), (109, .bipush (-9), 2), (111, .ireturn, 1), (112, .iconst 0, 1), (113, .istore 5, 2), (115, .iload 5, 2), (117, .aload_n 2, 1), (118, .getfield 257, 3), (121, .if_icmp .ge 25, 3), (124, .aload_n 0, 1), (125, .getfield 17, 3), (128, .iload 4, 2), (130, .aaload, 1), (131, .aload_n 2, 1), (132, .iload 5, 2), (134, .invokevirtual 270, 3), (137, .invokevirtual 279, 3), (140, .iinc 5 1, 3), (143, .goto (-28), 3), (146, .aload_n 2, 1), (147, .getfield 257, 3), (150, .ireturn, 1)]
def pm_q43 : List (Nat × Instr × Nat) := pm_q43_0 ++ (pm_q43_1)
def pm_q44_0 : List (Nat × Instr × Nat) := [(0, .iconst 0, 1), (1, .istore_n 2, 1), (2, .aconst_null, 1), (3, .astore_n 3, 1), (4, .iconst 0, 1), (5, .istore 4, 2), (7, .iload 4, 2), (9, .bipush 8, 2), (11, .if_icmp .ge 94, 3), (14, .aload_n 0, 1), (15, .getfield 11, 3), (18, .iload 4, 2), (20, .aaload, 1), (21, .astore 5, 2), (23, .aload 5, 2), (25, .getfield 36, 3), (28, .ifCond .eq 71, 3), (31, .aload 5, 2), (33, .getfield 139, 3), (36, .aload_n 1, 1), (37, .getfield 67, 3), (40, .if_icmp .eq 6, 3), (43, .goto 56, 3), (46, .iconst 1, 1), (47, .istore_n 2, 1), (48, .aload 5, 2), (50, .getfield 36, 3), (53, .iconst 4, 1), (54, .if_icmp .ne 21, 3), (57, .aload 5, 2), (59, .iconst 0, 1), (60, .putfield 36, 3), (63, .iload 4, 2), (65, .bipush 8, 2), (67, .aload 5, 2), (69, .getfield 164, 3), (72, .imul, 1), (73, .iadd, 1), (74, .ireturn, 1), (75, .aload_n 3, 1)]
def pm_q44_1 : List (Nat × Instr × Nat) := [(76, .ifnonnull 23, 3), (79, .aload 5, 2), (81, .getfield 36, 3), (84, .iconst 3, 1), (85, .if_icmp .ne 14, 3), (88, .aload 5, 2), (90, .getfield 217, 3), (93, .ifCond .ne 6, 3), (96, .aload 5, 2), (98, .astore_n 3, 1), (99, .iinc 4 1, 3), (102, .goto (-95), 3), (105, .aload_n 3, 1), (106, .ifnull 27, 3), (109, .aload_n 1, 1), (110, .getfield 98, 3), (113, .getfield 115, 3), (116, .ifCond .eq 17, 3), (119, .aload_n 3, 1), (120, .iconst 1, 1), (121, .putfield 217, 3), (124, .aload_n 3, 1), (125, .getfield 67, 3), (128, .sipush 1024, 3), (131, .iadd, 1), (132, .ireturn, 1), (133, .iload_n 2, 1), (134, .ifCond .eq 8, 3), (137, .bipush (-9), 2), (139, .goto 5, 3), (142, .bipush (-3), 2), (144, .ireturn, 1)]
def pm_q44 : List (Nat × Instr × Nat) := pm_q44_0 ++ (pm_q44_1)
def pm_q45_0 : List (Nat × Instr × Nat) := [(0, .aload_n 0, 1), (1, .invokespecial 1, 3), (4, .aload_n 0, 1), (5, .bipush 8, 2), (7, .newarray .int, 2), (9, .putfield 7, 3), (12, .aload_n 0, 1), (13, .bipush 8, 2), (15, .newarray .int, 2), (17, .putfield 13, 3), (20, .aload_n 0, 1), (21, .bipush 8, 2), (23, .newarray .int, 2), (25, .putfield 16, 3), (28, .aload_n 0, 1), (29, .bipush 8, 2), (31, .newarray .int, 2), (33, .putfield 19, 3), (36, .aload_n 0, 1), (37, .bipush 8, 2), (39, .newarray .int, 2), (41, .putfield 22, 3), (44, .aload_n 0, 1), (45, .bipush 8, 2), (47, .newarray .int, 2), (49, .putfield 25, 3), (52, .aload_n 0, 1), (53, .bipush 8, 2), (55, .newarray .int, 2), (57, .putfield 28, 3), (60, .aload_n 0, 1), (61, .bipush 8, 2), (63, .newarray .int, 2), (65, .putfield 31, 3), (68, .aload_n 0, 1), (69, .bipush 8, 2), (71, .newarray .int, 2), (73, .putfield 34, 3), (76, .aload_n 0, 1), (77, .bipush 8, 2)]
def pm_q45_1 : List (Nat × Instr × Nat) := [(79, .newarray .int, 2), (81, .putfield 37, 3), (84, .aload_n 0, 1), (85, .bipush 8, 2), (87, .newarray .boolean, 2), (89, .putfield 40, 3), (92, .aload_n 0, 1), (93, .bipush 48, 2), (95, .newarray .int, 2), (97, .putfield 44, 3), (100, .aload_n 0, 1), (101, .bipush 64, 2), (103, .newarray .int, 2), (105, .putfield 47, 3), (108, .aload_n 0, 1), (109, .bipush 8, 2), (111, .newarray .int, 2), (113, .putfield 50, 3), (116, .aload_n 0, 1), (117, .bipush 8, 2), (119, .newarray .int, 2), (121, .putfield 53, 3), (124, .aload_n 0, 1), (125, .bipush 8, 2), (127, .newarray .int, 2), (129, .putfield 56, 3), (132, .aload_n 0, 1), (133, .bipush 8, 2), (135, .newarray .long, 2), (137, .putfield 59, 3), (140, .aload_n 0, 1), (141, .bipush 8, 2), (143, .newarray .boolean, 2), (145, .putfield 63, 3), (148, .aload_n 0, 1), (149, .bipush 8, 2), (151, .newarray .int, 2), (153, .putfield 66, 3), (156, .aload_n 0, 1), (157, .sipush 128, 3)]
def pm_q45_2 : List (Nat × Instr × Nat) := [(160, .newarray .int, 2), (162, .putfield 69, 3), (165, .aload_n 0, 1), (166, .bipush 64, 2), (168, .newarray .int, 2), (170, .putfield 72, 3), (173, .aload_n 0, 1), (174, .bipush 72, 2), (176, .newarray .int, 2), (178, .putfield 75, 3), (181, .aload_n 0, 1), (182, .bipush 6, 2), (184, .newarray .int, 2), (186, .putfield 78, 3), (189, .aload_n 0, 1), (190, .bipush 24, 2), (192, .newarray .int, 2), (194, .putfield 81, 3), (197, .aload_n 0, 1), (198, .bipush 8, 2), (200, .newarray .int, 2), (202, .putfield 84, 3), (205, .aload_n 0, 1), (206, .bipush 64, 2), (208, .newarray .int, 2), (210, .putfield 87, 3), (213, .aload_n 0, 1), (214, .getfield 7, 3), (217, .iconst 0, 1), (218, .iconst 1, 1), (219, .iastore, 1), (220, .aload_n 0, 1), (221, .getfield 13, 3), (224, .iconst 0, 1), (225, .iconst (-1), 1), (226, .iastore, 1), (227, .aload_n 0, 1), (228, .getfield 44, 3), (231, .iconst 0, 1), (232, .iconst 1, 1)]
def pm_q45_3 : List (Nat × Instr × Nat) := [(233, .iastore, 1), (234, .aload_n 0, 1), (235, .getfield 44, 3), (238, .iconst 1, 1), (239, .iconst 1, 1), (240, .iastore, 1), (241, .return_, 1)]
def pm_q45 : List (Nat × Instr × Nat) := pm_q45_0 ++ (pm_q45_1 ++ (pm_q45_2 ++ (pm_q45_3)))
def pm_q46 : List (Nat × Instr × Nat) := [(0, .aload_n 0, 1), (1, .getfield 90, 3), (4, .ireturn, 1)]
def pm_q47 : List (Nat × Instr × Nat) := [(0, .iload_n 1, 1), (1, .ifCond .lt 13, 3), (4, .iload_n 1, 1), (5, .bipush 8, 2), (7, .if_icmp .ge 7, 3), (10, .iconst 1, 1), (11, .goto 4, 3), (14, .iconst 0, 1), (15, .ireturn, 1)]
def pm_q48 : List (Nat × Instr × Nat) := [(0, .aload_n 0, 1), (1, .getfield 7, 3), (4, .iload_n 1, 1), (5, .iaload, 1), (6, .ifCond .le 17, 3), (9, .aload_n 0, 1), (10, .getfield 7, 3), (13, .iload_n 1, 1), (14, .iaload, 1), (15, .iconst 4, 1), (16, .if_icmp .ge 7, 3), (19, .iconst 1, 1), (20, .goto 4, 3), (23, .iconst 0, 1), (24, .ireturn, 1)]
def pm_q49 : List (Nat × Instr × Nat) := [(0, .iconst 0, 1), (1, .istore_n 2, 1), (2, .iconst 0, 1), (3, .istore_n 3, 1), (4, .iload_n 3, 1), (5, .bipush 48, 2), (7, .if_icmp .ge 27, 3), (10, .iload_n 2, 1), (11, .aload_n 0, 1), (12, .getfield 44, 3), (15, .iload_n 3, 1), (16, .iaload, 1), (17, .iload_n 1, 1), (18, .if_icmp .ne 7, 3), (21, .iconst 1, 1), (22, .goto 4, 3), (25, .iconst 0, 1), (26, .iadd, 1), (27, .istore_n 2, 1), (28, .iinc 3 1, 3), (31, .goto (-27), 3), (34, .iload_n 2, 1), (35, .ireturn, 1)]
def pm_q50 : List (Nat × Instr × Nat) := [(0, .aload_n 0, 1), (1, .iconst 2, 1), (2, .iconst 2, 1), (3, .iload_n 1, 1), (4, .imul, 1), (5, .iadd, 1), (6, .invokevirtual 94, 3), (9, .aload_n 0, 1), (10, .iconst 3, 1), (11, .iconst 2, 1), (12, .iload_n 1, 1), (13, .imul, 1), (14, .iadd, 1), (15, .invokevirtual 94, 3), (18, .iadd, 1), (19, .ifCond .le 7, 3), (22, .iconst 1, 1), (23, .goto 4, 3), (26, .iconst 0, 1), (27, .ireturn, 1)]
def pm_q51 : List (Nat × Instr × Nat) := [(0, .iconst 0, 1), (1, .istore_n 1, 1), (2, .iconst 0, 1), (3, .istore_n 2, 1), (4, .iload_n 2, 1), (5, .bipush 6, 2), (7, .if_icmp .ge 25, 3), (10, .iload_n 1, 1), (11, .aload_n 0, 1), (12, .iload_n 2, 1), (13, .invokevirtual 98, 3), (16, .ifCond .eq 7, 3), (19, .iconst 1, 1), (20, .goto 4, 3), (23, .iconst 0, 1), (24, .iadd, 1), (25, .istore_n 1, 1), (26, .iinc 2 1, 3), (29, .goto (-25), 3), (32, .iload_n 1, 1), (33, .ireturn, 1)]
def pm_q52 : List (Nat × Instr × Nat) := [(0, .iload_n 2, 1), (1, .ifCond .lt 8, 3), (4, .iload_n 2, 1), (5, .iconst 5, 1), (6, .if_icmp .le 7, 3), (9, .iconst (-1), 1), (10, .goto 14, 3), (13, .aload_n 0, 1), (14, .getfield 44, 3), (17, .bipush 6, 2), (19, .iload_n 1, 1), (20, .imul, 1), (21, .iload_n 2, 1), (22, .iadd, 1), (23, .iaload, 1), (24, .ireturn, 1)]
def pm_q53 : List (Nat × Instr × Nat) := [(0, .iconst 0, 1), (1, .istore_n 2, 1), (2, .iconst 0, 1), (3, .istore_n 3, 1), (4, .iload_n 3, 1), (5, .bipush 8, 2), (7, .if_icmp .ge 37, 3), (10, .iload_n 2, 1), (11, .ifCond .ne 21, 3), (14, .aload_n 0, 1), (15, .iload_n 3, 1), (16, .invokevirtual 102, 3), (19, .ifCond .eq 17, 3), (22, .aload_n 0, 1), (23, .getfield 16, 3), (26, .iload_n 3, 1), (27, .iaload, 1), (28, .iload_n 1, 1), (29, .if_icmp .ne 7, 3), (32, .iconst 1, 1), (33, .goto 4, 3), (36, .iconst 0, 1), (37, .istore_n 2, 1), (38, .iinc 3 1, 3), (41, .goto (-37), 3), (44, .iload_n 2, 1), (45, .ireturn, 1)]
def pm_q54_0 : List (Nat × Instr × Nat) := [(0, .iconst 1, 1), (1, .istore_n 2, 1), (2, .iconst 1, 1), (3, .istore_n 3, 1), (4, .iload_n 3, 1), (5, .bipush 8, 2), (7, .if_icmp .ge 77, 3), (10, .aload_n 0, 1), (11, .iload_n 3, 1), (12, .invokevirtual 102, 3), (15, .ifCond .eq 45, 3), (18, .aload_n 0, 1), (19, .getfield 16, 3), (22, .iload_n 3, 1), (23, .iaload, 1), (24, .iload_n 1, 1), (25, .if_icmp .ne 35, 3), (28, .aload_n 0, 1), (29, .aload_n 0, 1), (30, .getfield 13, 3), (33, .iload_n 3, 1), (34, .iaload, 1), (35, .invokevirtual 102, 3), (38, .ifCond .eq 22, 3), (41, .aload_n 0, 1), (42, .getfield 16, 3), (45, .aload_n 0, 1), (46, .getfield 13, 3), (49, .iload_n 3, 1), (50, .iaload, 1), (51, .iaload, 1), (52, .iload_n 1, 1), (53, .if_icmp .eq 7, 3), (56, .iconst 1, 1), (57, .goto 4, 3), (60, .iconst 0, 1), (61, .istore 4, 2), (63, .iload_n 2, 1), (64, .ifCond .eq 12, 3), (67, .iload 4, 2)]
def pm_q54_1 : List (Nat × Instr × Nat) := [(69, .ifCond .ne 7, 3), (72, .iconst 1, 1), (73, .goto 4, 3), (76, .iconst 0, 1), (77, .istore_n 2, 1), (78, .iinc 3 1, 3), (81, .goto (-77), 3), (84, .iload_n 2, 1), (85, .ireturn, 1)]
def pm_q54 : List (Nat × Instr × Nat) := pm_q54_0 ++ (pm_q54_1)
def pm_q55 : List (Nat × Instr × Nat) := [(0, .aload_n 0, 1), (1, .getfield 25, 3), (4, .iload_n 1, 1), (5, .iload_n 2, 1), (6, .iastore, 1), (7, .aload_n 0, 1), (8, .getfield 7, 3), (11, .iload_n 1, 1), (12, .iconst 1, 1), (13, .iastore, 1), (14, .aload_n 0, 1), (15, .getfield 50, 3), (18, .iload_n 1, 1), (19, .iconst 0, 1), (20, .iastore, 1), (21, .return_, 1)]
def pm_q56 : List (Nat × Instr × Nat) := [(0, .aload_n 0, 1), (1, .getfield 69, 3), (4, .bipush 16, 2), (6, .iload_n 1, 1), (7, .imul, 1), (8, .aload_n 0, 1), (9, .getfield 31, 3), (12, .iload_n 1, 1), (13, .iaload, 1), (14, .bipush 16, 2), (16, .irem, 1), (17, .iadd, 1), (18, .iload_n 2, 1), (19, .iastore, 1), (20, .aload_n 0, 1), (21, .getfield 31, 3), (24, .iload_n 1, 1), (25, .dup2, 1), (26, .iaload, 1), (27, .iconst 1, 1), (28, .iadd, 1), (29, .iastore, 1), (30, .aload_n 0, 1), (31, .getfield 7, 3), (34, .iload_n 1, 1), (35, .iaload, 1), (36, .iconst 2, 1), (37, .if_icmp .ne 10, 3), (40, .aload_n 0, 1), (41, .iload_n 1, 1), (42, .bipush (-4), 2), (44, .invokevirtual 105, 3), (47, .return_, 1)]
def pm_q57_0 : List (Nat × Instr × Nat) := [(0, .aload_n 0, 1), (1, .getfield 47, 3), (4, .bipush 8, 2), (6, .iload_n 1, 1), (7, .imul, 1), (8, .bipush 7, 2), (10, .iadd, 1), (11, .iaload, 1), (12, .iconst 2, 1), (13, .if_icmp .eq 4, 3), (16, .return_, 1), (17, .aload_n 0, 1), (18, .getfield 7, 3), (21, .iload_n 1, 1), (22, .iaload, 1), (23, .iconst 3, 1), (24, .if_icmp .eq 18, 3), (27, .aload_n 0, 1), (28, .getfield 19, 3), (31, .iload_n 1, 1), (32, .iaload, 1), (33, .bipush 7, 2), (35, .ishr, 1), (36, .iconst 1, 1), (37, .iand, 1), (38, .iconst 1, 1), (39, .if_icmp .ne 22, 3), (42, .aload_n 0, 1), (43, .getfield 22, 3), (46, .iload_n 1, 1), (47, .aload_n 0, 1), (48, .getfield 22, 3), (51, .iload_n 1, 1), (52, .iaload, 1), (53, .sipush 128, 3), (56, .ior, 1), (57, .iastore, 1), (58, .goto 10, 3), (61, .aload_n 0, 1), (62, .iload_n 1, 1)]
def pm_q57_1 : List (Nat × Instr × Nat) := [(63, .bipush 7, 2), (65, .invokevirtual 109, 3), (68, .return_, 1)]
def pm_q57 : List (Nat × Instr × Nat) := pm_q57_0 ++ (pm_q57_1)
def pm_q58 : List (Nat × Instr × Nat) := [(0, .aload_n 0, 1), (1, .getfield 37, 3), (4, .iload_n 1, 1), (5, .aload_n 0, 1), (6, .getfield 7, 3), (9, .iload_n 1, 1), (10, .iaload, 1), (11, .iastore, 1), (12, .aload_n 0, 1), (13, .getfield 7, 3), (16, .iload_n 1, 1), (17, .iconst 3, 1), (18, .iastore, 1), (19, .aload_n 0, 1), (20, .getfield 40, 3), (23, .iload_n 1, 1), (24, .iconst 0, 1), (25, .bastore, 1), (26, .aload_n 0, 1), (27, .aload_n 0, 1), (28, .getfield 13, 3), (31, .iload_n 1, 1), (32, .iaload, 1), (33, .invokevirtual 112, 3), (36, .return_, 1)]
def pm_q59_0 : List (Nat × Instr × Nat) := [(0, .iconst 0, 1), (1, .istore_n 3, 1), (2, .iload_n 3, 1), (3, .bipush 6, 2), (5, .if_icmp .ge 21, 3), (8, .aload_n 0, 1), (9, .getfield 44, 3), (12, .bipush 6, 2), (14, .iload_n 1, 1), (15, .imul, 1), (16, .iload_n 3, 1), (17, .iadd, 1), (18, .iconst 0, 1), (19, .iastore, 1), (20, .iinc 3 1, 3), (23, .goto (-21), 3), (26, .iconst 1, 1), (27, .istore_n 3, 1), (28, .iload_n 3, 1), (29, .bipush 8, 2), (31, .if_icmp .ge 44, 3), (34, .aload_n 0, 1), (35, .getfield 13, 3), (38, .iload_n 3, 1), (39, .aload_n 0, 1), (40, .getfield 7, 3), (43, .iload_n 3, 1), (44, .iaload, 1), (45, .ifCond .eq 17, 3), (48, .aload_n 0, 1), (49, .getfield 13, 3), (52, .iload_n 3, 1), (53, .iaload, 1), (54, .iload_n 1, 1), (55, .if_icmp .ne 7, 3), (58, .iconst 0, 1), (59, .goto 9, 3), (62, .aload_n 0, 1), (63, .getfield 13, 3), (66, .iload_n 3, 1)]
def pm_q59_1 : List (Nat × Instr × Nat) := [(67, .iaload, 1), (68, .iastore, 1), (69, .iinc 3 1, 3), (72, .goto (-44), 3), (75, .aload_n 0, 1), (76, .getfield 13, 3), (79, .iload_n 1, 1), (80, .iaload, 1), (81, .istore_n 3, 1), (82, .aload_n 0, 1), (83, .getfield 7, 3), (86, .iload_n 1, 1), (87, .aload_n 0, 1), (88, .getfield 47, 3), (91, .bipush 8, 2), (93, .iload_n 3, 1), (94, .imul, 1), (95, .bipush 7, 2), (97, .iadd, 1), (98, .iaload, 1), (99, .iconst 1, 1), (100, .if_icmp .ne 7, 3), (103, .iconst 0, 1), (104, .goto 4, 3), (107, .iconst 4, 1), (108, .iastore, 1), (109, .aload_n 0, 1), (110, .getfield 34, 3), (113, .iload_n 1, 1), (114, .iload_n 2, 1), (115, .iastore, 1), (116, .aload_n 0, 1), (117, .getfield 22, 3), (120, .iload_n 1, 1), (121, .iconst 0, 1), (122, .iastore, 1), (123, .aload_n 0, 1), (124, .getfield 50, 3), (127, .iload_n 1, 1), (128, .iconst 0, 1)]
def pm_q59_2 : List (Nat × Instr × Nat) := [(129, .iastore, 1), (130, .aload_n 0, 1), (131, .iload_n 3, 1), (132, .invokevirtual 112, 3), (135, .return_, 1)]
def pm_q59 : List (Nat × Instr × Nat) := pm_q59_0 ++ (pm_q59_1 ++ (pm_q59_2))
def pm_q60 : List (Nat × Instr × Nat) := [(0, .iload_n 1, 1), (1, .ifCond .ne 4, 3), (4, .return_, 1), (5, .iload_n 2, 1), (6, .iconst 4, 1), (7, .if_icmp .ge 15, 3), (10, .aload_n 0, 1), (11, .iload_n 1, 1), (12, .bipush 64, 2), (14, .iload_n 2, 1), (15, .iadd, 1), (16, .invokevirtual 116, 3), (19, .goto 27, 3), (22, .iload_n 2, 1), (23, .bipush 6, 2), (25, .if_icmp .ge 21, 3), (28, .aload_n 0, 1), (29, .aload_n 0, 1), (30, .getfield 16, 3), (33, .iload_n 1, 1), (34, .iaload, 1), (35, .invokevirtual 119, 3), (38, .ifCond .ne 8, 3), (41, .aload_n 0, 1), (42, .iload_n 1, 1), (43, .invokevirtual 122, 3), (46, .return_, 1)]
def pm_q61_0 : List (Nat × Instr × Nat) := [(0, .iconst 1, 1), (1, .istore_n 2, 1), (2, .iload_n 2, 1), (3, .bipush 8, 2), (5, .if_icmp .ge 123, 3), (8, .aload_n 0, 1), (9, .getfield 7, 3), (12, .iload_n 1, 1), (13, .iaload, 1), (14, .iconst 1, 1), (15, .if_icmp .eq 13, 3), (18, .aload_n 0, 1), (19, .getfield 7, 3), (22, .iload_n 1, 1), (23, .iaload, 1), (24, .iconst 2, 1), (25, .if_icmp .ne 29, 3), (28, .aload_n 0, 1), (29, .getfield 22, 3), (32, .iload_n 1, 1), (33, .iaload, 1), (34, .aload_n 0, 1), (35, .getfield 19, 3), (38, .iload_n 1, 1), (39, .iaload, 1), (40, .iconst (-1), 1), (41, .ixor, 1), (42, .iand, 1), (43, .iconst 1, 1), (44, .iload_n 2, 1), (45, .ishl, 1), (46, .iand, 1), (47, .ifCond .eq 7, 3), (50, .iconst 1, 1), (51, .goto 4, 3), (54, .iconst 0, 1), (55, .istore_n 3, 1), (56, .iload_n 3, 1), (57, .ifCond .eq 65, 3), (60, .aload_n 0, 1)]
def pm_q61_1 : List (Nat × Instr × Nat) := [(61, .getfield 22, 3), (64, .iload_n 1, 1), (65, .aload_n 0, 1), (66, .getfield 22, 3), (69, .iload_n 1, 1), (70, .iaload, 1), (71, .iconst 1, 1), (72, .iload_n 2, 1), (73, .ishl, 1), (74, .iconst (-1), 1), (75, .ixor, 1), (76, .iand, 1), (77, .iastore, 1), (78, .aload_n 0, 1), (79, .getfield 47, 3), (82, .bipush 8, 2), (84, .iload_n 1, 1), (85, .imul, 1), (86, .iload_n 2, 1), (87, .iadd, 1), (88, .iaload, 1), (89, .iconst 2, 1), (90, .if_icmp .ne 12, 3), (93, .aload_n 0, 1), (94, .iload_n 1, 1), (95, .iload_n 2, 1), (96, .invokevirtual 109, 3), (99, .goto 23, 3), (102, .aload_n 0, 1), (103, .getfield 47, 3), (106, .bipush 8, 2), (108, .iload_n 1, 1), (109, .imul, 1), (110, .iload_n 2, 1), (111, .iadd, 1), (112, .iaload, 1), (113, .ifCond .ne 9, 3), (116, .aload_n 0, 1), (117, .iload_n 1, 1), (118, .iload_n 2, 1)]
def pm_q61_2 : List (Nat × Instr × Nat) := [(119, .invokevirtual 125, 3), (122, .iinc 2 1, 3), (125, .goto (-123), 3), (128, .return_, 1)]
def pm_q61 : List (Nat × Instr × Nat) := pm_q61_0 ++ (pm_q61_1 ++ (pm_q61_2))
def pm_q62_0 : List (Nat × Instr × Nat) := [(0, .aload_n 0, 1), (1, .iload_n 1, 1), (2, .invokevirtual 102, 3), (5, .ifCond .ne 4, 3), (8, .return_, 1), (9, .iload_n 2, 1), (10, .bipush 6, 2), (12, .if_icmp .ne 40, 3), (15, .aload_n 0, 1), (16, .getfield 22, 3), (19, .iload_n 1, 1), (20, .aload_n 0, 1), (21, .getfield 22, 3), (24, .iload_n 1, 1), (25, .iaload, 1), (26, .bipush (-49), 2), (28, .iand, 1), (29, .iastore, 1), (30, .aload_n 0, 1), (31, .getfield 7, 3), (34, .iload_n 1, 1), (35, .iaload, 1), (36, .iconst 3, 1), (37, .if_icmp .ne 15, 3), (40, .aload_n 0, 1), (41, .getfield 7, 3), (44, .iload_n 1, 1), (45, .aload_n 0, 1), (46, .getfield 37, 3), (49, .iload_n 1, 1), (50, .iaload, 1), (51, .iastore, 1), (52, .iload_n 2, 1), (53, .iconst 4, 1), (54, .if_icmp .eq 8, 3), (57, .iload_n 2, 1), (58, .iconst 5, 1), (59, .if_icmp .ne 18, 3), (62, .aload_n 0, 1), (63, .getfield 22, 3)]
def pm_q62_1 : List (Nat × Instr × Nat) := [(66, .iload_n 1, 1), (67, .aload_n 0, 1), (68, .getfield 22, 3), (71, .iload_n 1, 1), (72, .iaload, 1), (73, .bipush (-65), 2), (75, .iand, 1), (76, .iastore, 1), (77, .iload_n 2, 1), (78, .bipush 8, 2), (80, .if_icmp .ne 15, 3), (83, .iload_n 1, 1), (84, .ifCond .le 10, 3), (87, .aload_n 0, 1), (88, .iload_n 1, 1), (89, .bipush 72, 2), (91, .invokevirtual 116, 3), (94, .return_, 1), (95, .aload_n 0, 1), (96, .getfield 47, 3), (99, .bipush 8, 2), (101, .iload_n 1, 1), (102, .imul, 1), (103, .iload_n 2, 1), (104, .iadd, 1), (105, .iaload, 1), (106, .istore_n 3, 1), (107, .iload_n 3, 1), (108, .iconst 1, 1), (109, .if_icmp .eq 30, 3), (112, .iload_n 3, 1), (113, .iconst 2, 1), (114, .if_icmp .eq 9, 3), (117, .iload_n 2, 1), (118, .bipush 6, 2), (120, .if_icmp .ge 19, 3), (123, .aload_n 0, 1), (124, .getfield 22, 3), (127, .iload_n 1, 1), (128, .aload_n 0, 1)]
def pm_q62_2 : List (Nat × Instr × Nat) := [(129, .getfield 22, 3), (132, .iload_n 1, 1), (133, .iaload, 1), (134, .iconst 1, 1), (135, .iload_n 2, 1), (136, .ishl, 1), (137, .ior, 1), (138, .iastore, 1), (139, .aload_n 0, 1), (140, .iload_n 1, 1), (141, .invokevirtual 128, 3), (144, .return_, 1)]
def pm_q62 : List (Nat × Instr × Nat) := pm_q62_0 ++ (pm_q62_1 ++ (pm_q62_2))
def pm_q63 : List (Nat × Instr × Nat) := [(0, .iconst 0, 1), (1, .istore_n 3, 1), (2, .iload_n 3, 1), (3, .bipush 8, 2), (5, .if_icmp .ge 33, 3), (8, .aload_n 0, 1), (9, .iload_n 3, 1), (10, .invokevirtual 102, 3), (13, .ifCond .eq 19, 3), (16, .aload_n 0, 1), (17, .getfield 16, 3), (20, .iload_n 3, 1), (21, .iaload, 1), (22, .iload_n 1, 1), (23, .if_icmp .ne 9, 3), (26, .aload_n 0, 1), (27, .iload_n 3, 1), (28, .iload_n 2, 1), (29, .invokevirtual 131, 3), (32, .iinc 3 1, 3), (35, .goto (-33), 3), (38, .return_, 1)]
def pm_q64 : List (Nat × Instr × Nat) := [(0, .iload_n 1, 1), (1, .ifCond .eq 45, 3), (4, .aload_n 0, 1), (5, .getfield 47, 3), (8, .bipush 8, 2), (10, .iload_n 1, 1), (11, .imul, 1), (12, .iconst 5, 1), (13, .iadd, 1), (14, .iaload, 1), (15, .iconst 1, 1), (16, .if_icmp .eq 30, 3), (19, .aload_n 0, 1), (20, .getfield 19, 3), (23, .iload_n 1, 1), (24, .iaload, 1), (25, .iconst 5, 1), (26, .ishr, 1), (27, .iconst 1, 1), (28, .iand, 1), (29, .iconst 1, 1), (30, .if_icmp .eq 16, 3), (33, .aload_n 0, 1), (34, .aload_n 0, 1), (35, .getfield 16, 3), (38, .iload_n 1, 1), (39, .iaload, 1), (40, .invokevirtual 119, 3), (43, .ifCond .eq 7, 3), (46, .iconst 1, 1), (47, .goto 4, 3), (50, .iconst 0, 1), (51, .ireturn, 1)]
def pm_q65_0 : List (Nat × Instr × Nat) := [(0, .iconst (-1), 1), (1, .istore_n 3, 1), (2, .bipush 7, 2), (4, .istore 4, 2), (6, .iload 4, 2), (8, .ifCond .le 106, 3), (11, .iload_n 2, 1), (12, .ifCond .ne 21, 3), (15, .aload_n 0, 1), (16, .getfield 7, 3), (19, .iload 4, 2), (21, .iaload, 1), (22, .ifCond .eq 7, 3), (25, .iconst 1, 1), (26, .goto 57, 3), (29, .iconst 0, 1), (30, .goto 53, 3), (33, .iload_n 2, 1), (34, .iconst 3, 1), (35, .if_icmp .ne 32, 3), (38, .aload_n 0, 1), (39, .getfield 7, 3), (42, .iload 4, 2), (44, .iaload, 1), (45, .iconst 3, 1), (46, .if_icmp .ne 17, 3), (49, .aload_n 0, 1), (50, .getfield 40, 3), (53, .iload 4, 2), (55, .baload, 1), (56, .ifCond .ne 7, 3), (59, .iconst 1, 1), (60, .goto 23, 3), (63, .iconst 0, 1), (64, .goto 19, 3), (67, .aload_n 0, 1), (68, .getfield 7, 3), (71, .iload 4, 2), (73, .iaload, 1), (74, .iload_n 2, 1)]
def pm_q65_1 : List (Nat × Instr × Nat) := [(75, .if_icmp .ne 7, 3), (78, .iconst 1, 1), (79, .goto 4, 3), (82, .iconst 0, 1), (83, .istore 5, 2), (85, .iload 5, 2), (87, .ifCond .eq 19, 3), (90, .aload_n 0, 1), (91, .getfield 13, 3), (94, .iload 4, 2), (96, .iaload, 1), (97, .iload_n 1, 1), (98, .if_icmp .ne 8, 3), (101, .iload 4, 2), (103, .goto 4, 3), (106, .iload_n 3, 1), (107, .istore_n 3, 1), (108, .iinc 4 (-1), 3), (111, .goto (-105), 3), (114, .iload_n 3, 1), (115, .ireturn, 1)]
def pm_q65 : List (Nat × Instr × Nat) := pm_q65_0 ++ (pm_q65_1)
def pm_q66_0 : List (Nat × Instr × Nat) := [(0, .aload_n 0, 1), (1, .getfield 50, 3), (4, .iload_n 1, 1), (5, .iaload, 1), (6, .iconst 3, 1), (7, .if_icmp .ge 22, 3), (10, .aload_n 0, 1), (11, .getfield 44, 3), (14, .bipush 6, 2), (16, .iload_n 1, 1), (17, .imul, 1), (18, .aload_n 0, 1), (19, .getfield 53, 3), (22, .iload_n 1, 1), (23, .iaload, 1), (24, .iadd, 1), (25, .iaload, 1), (26, .goto 4, 3), (29, .iconst 0, 1), (30, .istore_n 2, 1), (31, .aload_n 0, 1), (32, .getfield 50, 3), (35, .iload_n 1, 1), (36, .iaload, 1), (37, .iconst 1, 1), (38, .if_icmp .ne 48, 3), (41, .iload_n 2, 1), (42, .iconst 1, 1), (43, .if_icmp .ne 43, 3), (46, .aload_n 0, 1), (47, .getfield 16, 3), (50, .iload_n 1, 1), (51, .iaload, 1), (52, .aload_n 0, 1), (53, .getfield 134, 3), (56, .if_icmp .eq 17, 3), (59, .aload_n 0, 1), (60, .iload_n 1, 1), (61, .invokevirtual 137, 3), (64, .ifCond .eq 7, 3)]
def pm_q66_1 : List (Nat × Instr × Nat) := [(67, .iconst 1, 1), (68, .goto 4, 3), (71, .iconst 2, 1), (72, .ireturn, 1), (73, .aload_n 0, 1), (74, .getfield 140, 3), (77, .ifCond .le 7, 3), (80, .iconst 1, 1), (81, .goto 4, 3), (84, .iconst 0, 1), (85, .ireturn, 1), (86, .aload_n 0, 1), (87, .getfield 50, 3), (90, .iload_n 1, 1), (91, .iaload, 1), (92, .iconst 1, 1), (93, .if_icmp .ne 32, 3), (96, .aload_n 0, 1), (97, .getfield 78, 3), (100, .iload_n 2, 1), (101, .iconst 2, 1), (102, .idiv, 1), (103, .iconst 1, 1), (104, .isub, 1), (105, .iaload, 1), (106, .ifCond .gt 13, 3), (109, .aload_n 0, 1), (110, .iload_n 2, 1), (111, .iconst 1, 1), (112, .iadd, 1), (113, .invokevirtual 94, 3), (116, .ifCond .ne 7, 3), (119, .iconst 1, 1), (120, .goto 4, 3), (123, .iconst 0, 1), (124, .ireturn, 1), (125, .aload_n 0, 1), (126, .getfield 50, 3), (129, .iload_n 1, 1), (130, .iaload, 1)]
def pm_q66_2 : List (Nat × Instr × Nat) := [(131, .iconst 2, 1), (132, .if_icmp .ne 46, 3), (135, .iload_n 2, 1), (136, .iconst 1, 1), (137, .if_icmp .eq 35, 3), (140, .aload_n 0, 1), (141, .iload_n 2, 1), (142, .iconst 1, 1), (143, .isub, 1), (144, .invokevirtual 94, 3), (147, .ifCond .eq 25, 3), (150, .aload_n 0, 1), (151, .getfield 78, 3), (154, .iload_n 2, 1), (155, .iconst 2, 1), (156, .idiv, 1), (157, .iconst 1, 1), (158, .isub, 1), (159, .iaload, 1), (160, .aload_n 0, 1), (161, .getfield 56, 3), (164, .iload_n 1, 1), (165, .iaload, 1), (166, .iadd, 1), (167, .bipush 12, 2), (169, .if_icmp .gt 7, 3), (172, .iconst 1, 1), (173, .goto 4, 3), (176, .iconst 0, 1), (177, .ireturn, 1), (178, .aload_n 0, 1), (179, .getfield 50, 3), (182, .iload_n 1, 1), (183, .iaload, 1), (184, .iconst 4, 1), (185, .if_icmp .ne 5, 3), (188, .iconst 0, 1), (189, .ireturn, 1), (190, .aload_n 0, 1), (191, .iload_n 1, 1)]
def pm_q66_3 : List (Nat × Instr × Nat) := [(192, .iconst 0, 1), (193, .invokevirtual 143, 3), (196, .ifCond .lt 30, 3), (199, .aload_n 0, 1), (200, .iload_n 1, 1), (201, .iconst 4, 1), (202, .invokevirtual 143, 3), (205, .ifCond .gt 21, 3), (208, .aload_n 0, 1), (209, .getfield 63, 3), (212, .iload_n 1, 1), (213, .baload, 1), (214, .ifCond .eq 16, 3), (217, .aload_n 0, 1), (218, .iload_n 1, 1), (219, .iconst 3, 1), (220, .invokevirtual 143, 3), (223, .ifCond .le 7, 3), (226, .iconst 1, 1), (227, .goto 4, 3), (230, .iconst 0, 1), (231, .ireturn, 1)]
def pm_q66 : List (Nat × Instr × Nat) := pm_q66_0 ++ (pm_q66_1 ++ (pm_q66_2 ++ (pm_q66_3)))
def pm_q67_0 : List (Nat × Instr × Nat) := [(0, .aload_n 0, 1), (1, .getfield 56, 3), (4, .iload_n 1, 1), (5, .iaload, 1), (6, .aload_n 0, 1), (7, .getfield 84, 3), (10, .iconst 0, 1), (11, .iaload, 1), (12, .if_icmp .ge 12, 3), (15, .aload_n 0, 1), (16, .getfield 56, 3), (19, .iload_n 1, 1), (20, .iaload, 1), (21, .goto 9, 3), (24, .aload_n 0, 1), (25, .getfield 84, 3), (28, .iconst 0, 1), (29, .iaload, 1), (30, .istore_n 2, 1), (31, .iconst 0, 1), (32, .istore_n 3, 1), (33, .iload_n 3, 1), (34, .iload_n 2, 1), (35, .if_icmp .ge 26, 3), (38, .aload_n 0, 1), (39, .getfield 72, 3), (42, .bipush 8, 2), (44, .iload_n 1, 1), (45, .imul, 1), (46, .iload_n 3, 1), (47, .iadd, 1), (48, .aload_n 0, 1), (49, .getfield 81, 3), (52, .iload_n 3, 1), (53, .iaload, 1), (54, .iastore, 1), (55, .iinc 3 1, 3), (58, .goto (-25), 3), (61, .iload_n 2, 1), (62, .istore_n 3, 1)]
def pm_q67_1 : List (Nat × Instr × Nat) := [(63, .iload_n 3, 1), (64, .bipush 24, 2), (66, .if_icmp .ge 23, 3), (69, .aload_n 0, 1), (70, .getfield 81, 3), (73, .iload_n 3, 1), (74, .iload_n 2, 1), (75, .isub, 1), (76, .aload_n 0, 1), (77, .getfield 81, 3), (80, .iload_n 3, 1), (81, .iaload, 1), (82, .iastore, 1), (83, .iinc 3 1, 3), (86, .goto (-23), 3), (89, .aload_n 0, 1), (90, .getfield 84, 3), (93, .iconst 0, 1), (94, .dup2, 1), (95, .iaload, 1), (96, .iload_n 2, 1), (97, .isub, 1), (98, .iastore, 1), (99, .aload_n 0, 1), (100, .getfield 28, 3), (103, .iload_n 1, 1), (104, .iload_n 2, 1), (105, .iastore, 1), (106, .aload_n 0, 1), (107, .getfield 84, 3), (110, .iconst 0, 1), (111, .iaload, 1), (112, .ifCond .le 5, 3), (115, .iload_n 2, 1), (116, .ireturn, 1), (117, .aload_n 0, 1), (118, .dup, 1), (119, .getfield 140, 3), (122, .iconst 1, 1), (123, .isub, 1)]
def pm_q67_2 : List (Nat × Instr × Nat) := [(124, .putfield 140, 3), (127, .iconst 0, 1), (128, .istore_n 3, 1), (129, .iload_n 3, 1), (130, .aload_n 0, 1), (131, .getfield 140, 3), (134, .if_icmp .ge 23, 3), (137, .aload_n 0, 1), (138, .getfield 84, 3), (141, .iload_n 3, 1), (142, .aload_n 0, 1), (143, .getfield 84, 3), (146, .iload_n 3, 1), (147, .iconst 1, 1), (148, .iadd, 1), (149, .iaload, 1), (150, .iastore, 1), (151, .iinc 3 1, 3), (154, .goto (-25), 3), (157, .iload_n 2, 1), (158, .ireturn, 1)]
def pm_q67 : List (Nat × Instr × Nat) := pm_q67_0 ++ (pm_q67_1 ++ (pm_q67_2))
def pm_q68_0 : List (Nat × Instr × Nat) := [(0, .aload_n 0, 1), (1, .getfield 56, 3), (4, .iload_n 1, 1), (5, .iaload, 1), (6, .aload_n 0, 1), (7, .getfield 78, 3), (10, .iload_n 2, 1), (11, .iaload, 1), (12, .if_icmp .ge 12, 3), (15, .aload_n 0, 1), (16, .getfield 56, 3), (19, .iload_n 1, 1), (20, .iaload, 1), (21, .goto 9, 3), (24, .aload_n 0, 1), (25, .getfield 78, 3), (28, .iload_n 2, 1), (29, .iaload, 1), (30, .istore_n 3, 1), (31, .iconst 0, 1), (32, .istore 4, 2), (34, .iload 4, 2), (36, .iload_n 3, 1), (37, .if_icmp .ge 33, 3), (40, .aload_n 0, 1), (41, .getfield 72, 3), (44, .bipush 8, 2), (46, .iload_n 1, 1), (47, .imul, 1), (48, .iload 4, 2), (50, .iadd, 1), (51, .aload_n 0, 1), (52, .getfield 75, 3), (55, .bipush 12, 2), (57, .iload_n 2, 1), (58, .imul, 1), (59, .iload 4, 2), (61, .iadd, 1), (62, .iaload, 1), (63, .iastore, 1)]
def pm_q68_1 : List (Nat × Instr × Nat) := [(64, .iinc 4 1, 3), (67, .goto (-33), 3), (70, .iload_n 3, 1), (71, .istore 4, 2), (73, .iload 4, 2), (75, .aload_n 0, 1), (76, .getfield 78, 3), (79, .iload_n 2, 1), (80, .iaload, 1), (81, .if_icmp .ge 35, 3), (84, .aload_n 0, 1), (85, .getfield 75, 3), (88, .bipush 12, 2), (90, .iload_n 2, 1), (91, .imul, 1), (92, .iload 4, 2), (94, .iadd, 1), (95, .iload_n 3, 1), (96, .isub, 1), (97, .aload_n 0, 1), (98, .getfield 75, 3), (101, .bipush 12, 2), (103, .iload_n 2, 1), (104, .imul, 1), (105, .iload 4, 2), (107, .iadd, 1), (108, .iaload, 1), (109, .iastore, 1), (110, .iinc 4 1, 3), (113, .goto (-40), 3), (116, .aload_n 0, 1), (117, .getfield 78, 3), (120, .iload_n 2, 1), (121, .dup2, 1), (122, .iaload, 1), (123, .iload_n 3, 1), (124, .isub, 1), (125, .iastore, 1), (126, .aload_n 0, 1), (127, .getfield 28, 3)]
def pm_q68_2 : List (Nat × Instr × Nat) := [(130, .iload_n 1, 1), (131, .iload_n 3, 1), (132, .iastore, 1), (133, .iload_n 3, 1), (134, .ireturn, 1)]
def pm_q68 : List (Nat × Instr × Nat) := pm_q68_0 ++ (pm_q68_1 ++ (pm_q68_2))
def pm_q69_0 : List (Nat × Instr × Nat) := [(0, .aload_n 0, 1), (1, .getfield 56, 3), (4, .iload_n 1, 1), (5, .iaload, 1), (6, .istore_n 3, 1), (7, .iload_n 2, 1), (8, .iconst 1, 1), (9, .if_icmp .le 16, 3), (12, .aload_n 0, 1), (13, .iload_n 2, 1), (14, .iconst 1, 1), (15, .isub, 1), (16, .invokevirtual 94, 3), (19, .ifCond .ne 6, 3), (22, .bipush (-6), 2), (24, .ireturn, 1), (25, .iconst 0, 1), (26, .istore 4, 2), (28, .iload 4, 2), (30, .iload_n 3, 1), (31, .if_icmp .ge 98, 3), (34, .aload_n 0, 1), (35, .getfield 59, 3), (38, .iload_n 1, 1), (39, .laload, 1), (40, .bipush 8, 2), (42, .iload 4, 2), (44, .imul, 1), (45, .lshr, 1), (46, .l2i, 1), (47, .sipush 255, 3), (50, .iand, 1), (51, .istore 5, 2), (53, .iload_n 2, 1), (54, .iconst 1, 1), (55, .if_icmp .ne 30, 3), (58, .aload_n 0, 1), (59, .getfield 87, 3), (62, .aload_n 0, 1), (63, .getfield 147, 3)]
def pm_q69_1 : List (Nat × Instr × Nat) := [(66, .bipush 64, 2), (68, .irem, 1), (69, .iload 5, 2), (71, .iastore, 1), (72, .aload_n 0, 1), (73, .dup, 1), (74, .getfield 147, 3), (77, .iconst 1, 1), (78, .iadd, 1), (79, .putfield 147, 3), (82, .goto 41, 3), (85, .iload_n 2, 1), (86, .iconst 2, 1), (87, .idiv, 1), (88, .iconst 1, 1), (89, .isub, 1), (90, .istore 6, 2), (92, .aload_n 0, 1), (93, .getfield 75, 3), (96, .bipush 12, 2), (98, .iload 6, 2), (100, .imul, 1), (101, .aload_n 0, 1), (102, .getfield 78, 3), (105, .iload 6, 2), (107, .iaload, 1), (108, .iadd, 1), (109, .iload 5, 2), (111, .iastore, 1), (112, .aload_n 0, 1), (113, .getfield 78, 3), (116, .iload 6, 2), (118, .dup2, 1), (119, .iaload, 1), (120, .iconst 1, 1), (121, .iadd, 1), (122, .iastore, 1), (123, .iinc 4 1, 3), (126, .goto (-98), 3), (129, .iload_n 3, 1)]
def pm_q69_2 : List (Nat × Instr × Nat) := [(130, .ireturn, 1)]
def pm_q69 : List (Nat × Instr × Nat) := pm_q69_0 ++ (pm_q69_1 ++ (pm_q69_2))
def pm_q70_0 : List (Nat × Instr × Nat) := [(0, .aload_n 0, 1), (1, .iload_n 1, 1), (2, .iconst 0, 1), (3, .invokevirtual 143, 3), (6, .ifCond .ge 6, 3), (9, .bipush (-3), 2), (11, .ireturn, 1), (12, .aload_n 0, 1), (13, .iload_n 1, 1), (14, .iconst 4, 1), (15, .invokevirtual 143, 3), (18, .istore_n 2, 1), (19, .iload_n 2, 1), (20, .ifCond .le 22, 3), (23, .aload_n 0, 1), (24, .getfield 7, 3), (27, .iload_n 2, 1), (28, .iconst 0, 1), (29, .iastore, 1), (30, .iload_n 2, 1), (31, .bipush 8, 2), (33, .aload_n 0, 1), (34, .getfield 34, 3), (37, .iload_n 2, 1), (38, .iaload, 1), (39, .imul, 1), (40, .iadd, 1), (41, .ireturn, 1), (42, .aload_n 0, 1), (43, .iload_n 1, 1), (44, .iconst 3, 1), (45, .invokevirtual 143, 3), (48, .istore_n 2, 1), (49, .aload_n 0, 1), (50, .getfield 40, 3), (53, .iload_n 2, 1), (54, .iconst 1, 1), (55, .bastore, 1), (56, .iload_n 2, 1), (57, .sipush 1024, 3)]
def pm_q70_1 : List (Nat × Instr × Nat) := [(60, .iadd, 1), (61, .ireturn, 1)]
def pm_q70 : List (Nat × Instr × Nat) := pm_q70_0 ++ (pm_q70_1)
def pm_q71_0 : List (Nat × Instr × Nat) := [(0, .aload_n 0, 1), (1, .getfield 50, 3), (4, .iload_n 1, 1), (5, .iaload, 1), (6, .iconst 3, 1), (7, .if_icmp .ge 22, 3), (10, .aload_n 0, 1), (11, .getfield 44, 3), (14, .bipush 6, 2), (16, .iload_n 1, 1), (17, .imul, 1), (18, .aload_n 0, 1), (19, .getfield 53, 3), (22, .iload_n 1, 1), (23, .iaload, 1), (24, .iadd, 1), (25, .iaload, 1), (26, .goto 4, 3), (29, .iconst 0, 1), (30, .istore_n 2, 1), (31, .aload_n 0, 1), (32, .getfield 50, 3), (35, .iload_n 1, 1), (36, .iaload, 1), (37, .iconst 3, 1), (38, .if_icmp .ne 9, 3), (41, .aload_n 0, 1), (42, .iload_n 1, 1), (43, .invokevirtual 150, 3), (46, .ireturn, 1), (47, .aload_n 0, 1), (48, .getfield 50, 3), (51, .iload_n 1, 1), (52, .iaload, 1), (53, .iconst 2, 1), (54, .if_icmp .ne 10, 3), (57, .aload_n 0, 1), (58, .iload_n 1, 1), (59, .iload_n 2, 1), (60, .invokevirtual 153, 3)]
def pm_q71_1 : List (Nat × Instr × Nat) := [(63, .ireturn, 1), (64, .iload_n 2, 1), (65, .iconst 1, 1), (66, .if_icmp .le 14, 3), (69, .aload_n 0, 1), (70, .iload_n 1, 1), (71, .iload_n 2, 1), (72, .iconst 2, 1), (73, .idiv, 1), (74, .iconst 1, 1), (75, .isub, 1), (76, .invokevirtual 156, 3), (79, .ireturn, 1), (80, .aload_n 0, 1), (81, .getfield 16, 3), (84, .iload_n 1, 1), (85, .iaload, 1), (86, .aload_n 0, 1), (87, .getfield 134, 3), (90, .if_icmp .ne 11, 3), (93, .aload_n 0, 1), (94, .iload_n 1, 1), (95, .invokevirtual 159, 3), (98, .goto 5, 3), (101, .bipush (-5), 2), (103, .ireturn, 1)]
def pm_q71 : List (Nat × Instr × Nat) := pm_q71_0 ++ (pm_q71_1)
def pm_q72_0 : List (Nat × Instr × Nat) := [(0, .iconst 1, 1), (1, .istore_n 1, 1), (2, .iload_n 1, 1), (3, .ifCond .eq 121, 3), (6, .iconst (-1), 1), (7, .istore_n 2, 1), (8, .iconst 0, 1), (9, .istore_n 3, 1), (10, .iload_n 3, 1), (11, .bipush 8, 2), (13, .if_icmp .ge 60, 3), (16, .aload_n 0, 1), (17, .getfield 7, 3), (20, .iload_n 3, 1), (21, .iaload, 1), (22, .iconst 2, 1), (23, .if_icmp .ne 15, 3), (26, .aload_n 0, 1), (27, .iload_n 3, 1), (28, .invokevirtual 162, 3), (31, .ifCond .le 7, 3), (34, .iconst 1, 1), (35, .goto 4, 3), (38, .iconst 0, 1), (39, .istore 4, 2), (41, .iload 4, 2), (43, .ifCond .eq 24, 3), (46, .iload_n 2, 1), (47, .ifCond .lt 18, 3), (50, .aload_n 0, 1), (51, .getfield 66, 3), (54, .iload_n 3, 1), (55, .iaload, 1), (56, .aload_n 0, 1), (57, .getfield 66, 3), (60, .iload_n 2, 1), (61, .iaload, 1), (62, .if_icmp .ge 5, 3), (65, .iload_n 3, 1), (66, .istore_n 2, 1)]
def pm_q72_1 : List (Nat × Instr × Nat) := [(67, .iinc 3 1, 3), (70, .goto (-60), 3), (73, .iload_n 2, 1), (74, .ifCond .lt 7, 3), (77, .iconst 1, 1), (78, .goto 4, 3), (81, .iconst 0, 1), (82, .istore_n 1, 1), (83, .iload_n 1, 1), (84, .ifCond .eq 26, 3), (87, .aload_n 0, 1), (88, .iload_n 2, 1), (89, .invokevirtual 162, 3), (92, .iconst 2, 1), (93, .if_icmp .ne 17, 3), (96, .aload_n 0, 1), (97, .aload_n 0, 1), (98, .getfield 16, 3), (101, .iload_n 2, 1), (102, .iaload, 1), (103, .iconst 5, 1), (104, .invokevirtual 165, 3), (107, .goto 14, 3), (110, .iload_n 1, 1), (111, .ifCond .eq 10, 3), (114, .aload_n 0, 1), (115, .iload_n 2, 1), (116, .iconst 1, 1), (117, .invokevirtual 168, 3), (120, .pop, 1), (121, .goto (-119), 3), (124, .return_, 1)]
def pm_q72 : List (Nat × Instr × Nat) := pm_q72_0 ++ (pm_q72_1)
def pm_q73 : List (Nat × Instr × Nat) := [(0, .aload_n 0, 1), (1, .iload_n 1, 1), (2, .invokevirtual 172, 3), (5, .istore_n 3, 1), (6, .iload_n 2, 1), (7, .ifCond .eq 9, 3), (10, .aload_n 0, 1), (11, .iload_n 1, 1), (12, .iload_n 3, 1), (13, .invokevirtual 105, 3), (16, .aload_n 0, 1), (17, .getfield 50, 3), (20, .iload_n 1, 1), (21, .iconst 0, 1), (22, .iastore, 1), (23, .iload_n 3, 1), (24, .bipush (-6), 2), (26, .if_icmp .ne 9, 3), (29, .aload_n 0, 1), (30, .iload_n 1, 1), (31, .iconst 2, 1), (32, .invokevirtual 131, 3), (35, .iload_n 3, 1), (36, .ireturn, 1)]
def pm_q74_0 : List (Nat × Instr × Nat) := [(0, .aload_n 0, 1), (1, .getfield 50, 3), (4, .iload_n 1, 1), (5, .iload_n 2, 1), (6, .iastore, 1), (7, .bipush (-9), 2), (9, .istore_n 3, 1), (10, .aload_n 0, 1), (11, .iload_n 1, 1), (12, .invokevirtual 162, 3), (15, .iconst 1, 1), (16, .if_icmp .ne 13, 3), (19, .aload_n 0, 1), (20, .iload_n 1, 1), (21, .iconst 0, 1), (22, .invokevirtual 168, 3), (25, .istore_n 3, 1), (26, .goto 38, 3), (29, .aload_n 0, 1), (30, .getfield 7, 3), (33, .iload_n 1, 1), (34, .iconst 2, 1), (35, .iastore, 1), (36, .aload_n 0, 1), (37, .getfield 25, 3), (40, .iload_n 1, 1), (41, .bipush (-9), 2), (43, .iastore, 1), (44, .aload_n 0, 1), (45, .getfield 66, 3), (48, .iload_n 1, 1), (49, .aload_n 0, 1), (50, .getfield 175, 3), (53, .iastore, 1), (54, .aload_n 0, 1), (55, .dup, 1), (56, .getfield 175, 3), (59, .iconst 1, 1), (60, .iadd, 1), (61, .putfield 175, 3)]
def pm_q74_1 : List (Nat × Instr × Nat) := [(64, .aload_n 0, 1), (65, .invokevirtual 178, 3), (68, .iload_n 3, 1), (69, .ireturn, 1)]
def pm_q74 : List (Nat × Instr × Nat) := pm_q74_0 ++ (pm_q74_1)
def pm_q75 : List (Nat × Instr × Nat) := [(0, .iload_n 1, 1), (1, .bipush 10, 2), (3, .if_icmp .ne 29, 3), (6, .aload_n 0, 1), (7, .getfield 140, 3), (10, .bipush 8, 2), (12, .if_icmp .ge 16, 3), (15, .aload_n 0, 1), (16, .invokevirtual 181, 3), (19, .bipush 24, 2), (21, .if_icmp .ge 7, 3), (24, .iconst 1, 1), (25, .goto 21, 3), (28, .iconst 0, 1), (29, .goto 17, 3), (32, .aload_n 0, 1), (33, .getfield 140, 3), (36, .bipush 8, 2), (38, .if_icmp .ge 7, 3), (41, .iconst 1, 1), (42, .goto 4, 3), (45, .iconst 0, 1), (46, .ireturn, 1)]
def pm_q76 : List (Nat × Instr × Nat) := [(0, .aload_n 0, 1), (1, .getfield 185, 3), (4, .istore_n 1, 1), (5, .iconst 0, 1), (6, .istore_n 2, 1), (7, .iload_n 2, 1), (8, .aload_n 0, 1), (9, .getfield 140, 3), (12, .if_icmp .ge 18, 3), (15, .iload_n 1, 1), (16, .aload_n 0, 1), (17, .getfield 84, 3), (20, .iload_n 2, 1), (21, .iaload, 1), (22, .iadd, 1), (23, .istore_n 1, 1), (24, .iinc 2 1, 3), (27, .goto (-20), 3), (30, .iload_n 1, 1), (31, .ireturn, 1)]
def pm_q77 : List (Nat × Instr × Nat) := [(0, .aload_n 0, 1), (1, .invokevirtual 181, 3), (4, .bipush 24, 2), (6, .if_icmp .ne 4, 3), (9, .return_, 1), (10, .aload_n 0, 1), (11, .getfield 81, 3), (14, .aload_n 0, 1), (15, .invokevirtual 181, 3), (18, .iload_n 1, 1), (19, .iastore, 1), (20, .aload_n 0, 1), (21, .dup, 1), (22, .getfield 185, 3), (25, .iconst 1, 1), (26, .iadd, 1), (27, .putfield 185, 3), (30, .return_, 1)]
def pm_q78 : List (Nat × Instr × Nat) := [(0, .aload_n 0, 1), (1, .getfield 84, 3), (4, .aload_n 0, 1), (5, .getfield 140, 3), (8, .aload_n 0, 1), (9, .getfield 185, 3), (12, .iastore, 1), (13, .aload_n 0, 1), (14, .dup, 1), (15, .getfield 140, 3), (18, .iconst 1, 1), (19, .iadd, 1), (20, .putfield 140, 3), (23, .aload_n 0, 1), (24, .iconst 0, 1), (25, .putfield 185, 3), (28, .return_, 1)]
def pm_q79_0 : List (Nat × Instr × Nat) := [(0, .aload_n 0, 1), (1, .iconst 0, 1), (2, .putfield 90, 3), (5, .iload_n 1, 1), (6, .iconst 3, 1), (7, .if_icmp .eq 9, 3), (10, .iload_n 1, 1), (11, .bipush 26, 2), (13, .if_icmp .ne 31, 3), (16, .aload_n 0, 1), (17, .iconst 0, 1), (18, .putfield 140, 3), (21, .aload_n 0, 1), (22, .iconst 0, 1), (23, .putfield 185, 3), (26, .aload_n 0, 1), (27, .aload_n 0, 1), (28, .getfield 134, 3), (31, .iload_n 1, 1), (32, .iconst 3, 1), (33, .if_icmp .ne 7, 3), (36, .iconst 1, 1), (37, .goto 4, 3), (40, .iconst 4, 1), (41, .invokevirtual 165, 3), (44, .iload_n 1, 1), (45, .bipush 8, 2), (47, .if_icmp .ne 20, 3), (50, .aload_n 0, 1), (51, .getfield 185, 3), (54, .ifCond .le 13, 3), (57, .aload_n 0, 1), (58, .dup, 1), (59, .getfield 185, 3), (62, .iconst 1, 1), (63, .isub, 1), (64, .putfield 185, 3), (67, .iload_n 1, 1), (68, .bipush 21, 2), (70, .if_icmp .ne 8, 3)]
def pm_q79_1 : List (Nat × Instr × Nat) := [(73, .aload_n 0, 1), (74, .iconst 0, 1), (75, .putfield 185, 3), (78, .iload_n 1, 1), (79, .bipush 10, 2), (81, .if_icmp .ne 20, 3), (84, .aload_n 0, 1), (85, .iload_n 1, 1), (86, .invokevirtual 188, 3), (89, .ifCond .eq 12, 3), (92, .aload_n 0, 1), (93, .iload_n 1, 1), (94, .invokevirtual 191, 3), (97, .aload_n 0, 1), (98, .invokevirtual 194, 3), (101, .iload_n 1, 1), (102, .iconst 4, 1), (103, .if_icmp .ne 15, 3), (106, .aload_n 0, 1), (107, .iload_n 1, 1), (108, .invokevirtual 188, 3), (111, .ifCond .eq 7, 3), (114, .aload_n 0, 1), (115, .invokevirtual 194, 3), (118, .iload_n 1, 1), (119, .bipush 32, 2), (121, .if_icmp .lt 14, 3), (124, .iload_n 1, 1), (125, .bipush 126, 2), (127, .if_icmp .gt 8, 3), (130, .aload_n 0, 1), (131, .iload_n 1, 1), (132, .invokevirtual 191, 3), (135, .aload_n 0, 1), (136, .invokevirtual 178, 3), (139, .return_, 1)]
def pm_q79 : List (Nat × Instr × Nat) := pm_q79_0 ++ (pm_q79_1)
def pm_q80 : List (Nat × Instr × Nat) := [(0, .aload_n 0, 1), (1, .iload_n 1, 1), (2, .invokevirtual 197, 3), (5, .ifCond .eq 17, 3), (8, .aload_n 0, 1), (9, .getfield 7, 3), (12, .iload_n 1, 1), (13, .iaload, 1), (14, .iconst 1, 1), (15, .if_icmp .ne 7, 3), (18, .iconst 1, 1), (19, .goto 4, 3), (22, .iconst 0, 1), (23, .ireturn, 1)]
def pm_q81 : List (Nat × Instr × Nat) := [(0, .aload_n 0, 1), (1, .aload_n 0, 1), (2, .iload_n 1, 1), (3, .invokevirtual 200, 3), (6, .ifCond .eq 7, 3), (9, .iconst 0, 1), (10, .goto 4, 3), (13, .iload_n 2, 1), (14, .putfield 90, 3), (17, .aload_n 0, 1), (18, .getfield 90, 3), (21, .ifCond .ne 7, 3), (24, .iconst 1, 1), (25, .goto 4, 3), (28, .iconst 0, 1), (29, .ireturn, 1)]
def pm_q82_0 : List (Nat × Instr × Nat) := [(0, .aload_n 0, 1), (1, .iload_n 1, 1), (2, .iconst 1, 1), (3, .invokevirtual 203, 3), (6, .ifCond .ne 5, 3), (9, .iconst 0, 1), (10, .ireturn, 1), (11, .iconst 1, 1), (12, .istore_n 2, 1), (13, .iload_n 2, 1), (14, .bipush 8, 2), (16, .if_icmp .ge 18, 3), (19, .aload_n 0, 1), (20, .getfield 7, 3), (23, .iload_n 2, 1), (24, .iaload, 1), (25, .ifCond .eq 9, 3), (28, .iinc 2 1, 3), (31, .goto (-18), 3), (34, .iload_n 2, 1), (35, .bipush 8, 2), (37, .if_icmp .ne 6, 3), (40, .bipush (-2), 2), (42, .ireturn, 1), (43, .aload_n 0, 1), (44, .getfield 7, 3), (47, .iload_n 2, 1), (48, .iconst 1, 1), (49, .iastore, 1), (50, .aload_n 0, 1), (51, .getfield 13, 3), (54, .iload_n 2, 1), (55, .iload_n 1, 1), (56, .iastore, 1), (57, .aload_n 0, 1), (58, .getfield 16, 3), (61, .iload_n 2, 1), (62, .aload_n 0, 1), (63, .getfield 16, 3), (66, .iload_n 1, 1)]
def pm_q82_1 : List (Nat × Instr × Nat) := [(67, .iaload, 1), (68, .iastore, 1), (69, .aload_n 0, 1), (70, .getfield 19, 3), (73, .iload_n 2, 1), (74, .aload_n 0, 1), (75, .getfield 19, 3), (78, .iload_n 1, 1), (79, .iaload, 1), (80, .iastore, 1), (81, .aload_n 0, 1), (82, .getfield 22, 3), (85, .iload_n 2, 1), (86, .iconst 0, 1), (87, .iastore, 1), (88, .aload_n 0, 1), (89, .getfield 25, 3), (92, .iload_n 2, 1), (93, .iconst 0, 1), (94, .iastore, 1), (95, .aload_n 0, 1), (96, .getfield 28, 3), (99, .iload_n 2, 1), (100, .iconst 0, 1), (101, .iastore, 1), (102, .aload_n 0, 1), (103, .getfield 31, 3), (106, .iload_n 2, 1), (107, .iconst 0, 1), (108, .iastore, 1), (109, .aload_n 0, 1), (110, .getfield 34, 3), (113, .iload_n 2, 1), (114, .iconst 0, 1), (115, .iastore, 1), (116, .aload_n 0, 1), (117, .getfield 40, 3), (120, .iload_n 2, 1), (121, .iconst 0, 1), (122, .bastore, 1)]
def pm_q82_2 : List (Nat × Instr × Nat) := [(123, .aload_n 0, 1), (124, .getfield 50, 3), (127, .iload_n 2, 1), (128, .iconst 0, 1), (129, .iastore, 1), (130, .iconst 0, 1), (131, .istore_n 3, 1), (132, .iload_n 3, 1), (133, .bipush 6, 2), (135, .if_icmp .ge 31, 3), (138, .aload_n 0, 1), (139, .getfield 44, 3), (142, .bipush 6, 2), (144, .iload_n 2, 1), (145, .imul, 1), (146, .iload_n 3, 1), (147, .iadd, 1), (148, .aload_n 0, 1), (149, .getfield 44, 3), (152, .bipush 6, 2), (154, .iload_n 1, 1), (155, .imul, 1), (156, .iload_n 3, 1), (157, .iadd, 1), (158, .iaload, 1), (159, .iastore, 1), (160, .iinc 3 1, 3), (163, .goto (-31), 3), (166, .iconst 0, 1), (167, .istore_n 3, 1), (168, .iload_n 3, 1), (169, .bipush 8, 2), (171, .if_icmp .ge 31, 3), (174, .aload_n 0, 1), (175, .getfield 47, 3), (178, .bipush 8, 2), (180, .iload_n 2, 1), (181, .imul, 1), (182, .iload_n 3, 1), (183, .iadd, 1)]
def pm_q82_3 : List (Nat × Instr × Nat) := [(184, .aload_n 0, 1), (185, .getfield 47, 3), (188, .bipush 8, 2), (190, .iload_n 1, 1), (191, .imul, 1), (192, .iload_n 3, 1), (193, .iadd, 1), (194, .iaload, 1), (195, .iastore, 1), (196, .iinc 3 1, 3), (199, .goto (-31), 3), (202, .aload_n 0, 1), (203, .invokevirtual 178, 3), (206, .iload_n 2, 1), (207, .ireturn, 1)]
def pm_q82 : List (Nat × Instr × Nat) := pm_q82_0 ++ (pm_q82_1 ++ (pm_q82_2 ++ (pm_q82_3)))
def pm_q83 : List (Nat × Instr × Nat) := [(0, .aload_n 0, 1), (1, .iload_n 1, 1), (2, .iconst 1, 1), (3, .invokevirtual 203, 3), (6, .ifCond .ne 5, 3), (9, .iconst 0, 1), (10, .ireturn, 1), (11, .iload_n 1, 1), (12, .ifCond .ne 6, 3), (15, .bipush (-7), 2), (17, .ireturn, 1), (18, .aload_n 0, 1), (19, .iload_n 1, 1), (20, .iload_n 2, 1), (21, .bipush 63, 2), (23, .iand, 1), (24, .invokevirtual 116, 3), (27, .aload_n 0, 1), (28, .invokevirtual 178, 3), (31, .iconst 0, 1), (32, .ireturn, 1)]
def pm_q84_0 : List (Nat × Instr × Nat) := [(0, .aload_n 0, 1), (1, .iload_n 1, 1), (2, .iconst 1, 1), (3, .invokevirtual 203, 3), (6, .ifCond .ne 5, 3), (9, .iconst 0, 1), (10, .ireturn, 1), (11, .iconst (-1), 1), (12, .istore_n 2, 1), (13, .iconst (-1), 1), (14, .istore_n 3, 1), (15, .iconst 5, 1), (16, .istore 4, 2), (18, .iload 4, 2), (20, .ifCond .lt 29, 3), (23, .aload_n 0, 1), (24, .getfield 44, 3), (27, .bipush 6, 2), (29, .iload_n 1, 1), (30, .imul, 1), (31, .iload 4, 2), (33, .iadd, 1), (34, .iaload, 1), (35, .ifCond .ne 8, 3), (38, .iload_n 2, 1), (39, .istore_n 3, 1), (40, .iload 4, 2), (42, .istore_n 2, 1), (43, .iinc 4 (-1), 3), (46, .goto (-28), 3), (49, .iconst 0, 1), (50, .istore 4, 2), (52, .iload 4, 2), (54, .bipush 6, 2), (56, .if_icmp .ge 18, 3), (59, .aload_n 0, 1), (60, .iload 4, 2), (62, .invokevirtual 98, 3), (65, .ifCond .eq 9, 3), (68, .iinc 4 1, 3)]
def pm_q84_1 : List (Nat × Instr × Nat) := [(71, .goto (-19), 3), (74, .iload_n 3, 1), (75, .ifCond .lt 10, 3), (78, .iload 4, 2), (80, .bipush 6, 2), (82, .if_icmp .ne 6, 3), (85, .bipush (-2), 2), (87, .ireturn, 1), (88, .aload_n 0, 1), (89, .getfield 78, 3), (92, .iload 4, 2), (94, .iconst 0, 1), (95, .iastore, 1), (96, .aload_n 0, 1), (97, .getfield 44, 3), (100, .bipush 6, 2), (102, .iload_n 1, 1), (103, .imul, 1), (104, .iload_n 2, 1), (105, .iadd, 1), (106, .iconst 2, 1), (107, .iconst 2, 1), (108, .iload 4, 2), (110, .imul, 1), (111, .iadd, 1), (112, .iastore, 1), (113, .aload_n 0, 1), (114, .getfield 44, 3), (117, .bipush 6, 2), (119, .iload_n 1, 1), (120, .imul, 1), (121, .iload_n 3, 1), (122, .iadd, 1), (123, .iconst 3, 1), (124, .iconst 2, 1), (125, .iload 4, 2), (127, .imul, 1), (128, .iadd, 1), (129, .iastore, 1), (130, .aload_n 0, 1)]
def pm_q84_2 : List (Nat × Instr × Nat) := [(131, .invokevirtual 178, 3), (134, .iload_n 2, 1), (135, .bipush 8, 2), (137, .iload_n 3, 1), (138, .imul, 1), (139, .iadd, 1), (140, .ireturn, 1)]
def pm_q84 : List (Nat × Instr × Nat) := pm_q84_0 ++ (pm_q84_1 ++ (pm_q84_2))
def pm_q85 : List (Nat × Instr × Nat) := [(0, .aload_n 0, 1), (1, .iload_n 1, 1), (2, .iconst 1, 1), (3, .invokevirtual 203, 3), (6, .ifCond .ne 5, 3), (9, .iconst 0, 1), (10, .ireturn, 1), (11, .aload_n 0, 1), (12, .iload_n 1, 1), (13, .iload_n 2, 1), (14, .invokevirtual 207, 3), (17, .ifCond .le 12, 3), (20, .aload_n 0, 1), (21, .iload_n 1, 1), (22, .iload_n 3, 1), (23, .invokevirtual 207, 3), (26, .ifCond .ge 5, 3), (29, .iconst (-1), 1), (30, .ireturn, 1), (31, .aload_n 0, 1), (32, .getfield 44, 3), (35, .bipush 6, 2), (37, .iload_n 1, 1), (38, .imul, 1), (39, .iload_n 3, 1), (40, .iadd, 1), (41, .aload_n 0, 1), (42, .getfield 44, 3), (45, .bipush 6, 2), (47, .iload_n 1, 1), (48, .imul, 1), (49, .iload_n 2, 1), (50, .iadd, 1), (51, .iaload, 1), (52, .iastore, 1), (53, .aload_n 0, 1), (54, .invokevirtual 178, 3), (57, .iload_n 3, 1), (58, .ireturn, 1)]
def pm_q86 : List (Nat × Instr × Nat) := [(0, .aload_n 0, 1), (1, .iload_n 1, 1), (2, .iconst 1, 1), (3, .invokevirtual 203, 3), (6, .ifCond .ne 5, 3), (9, .iconst 0, 1), (10, .ireturn, 1), (11, .aload_n 0, 1), (12, .iload_n 1, 1), (13, .iload_n 2, 1), (14, .invokevirtual 207, 3), (17, .ifCond .gt 5, 3), (20, .iconst (-1), 1), (21, .ireturn, 1), (22, .aload_n 0, 1), (23, .getfield 44, 3), (26, .bipush 6, 2), (28, .iload_n 1, 1), (29, .imul, 1), (30, .iload_n 2, 1), (31, .iadd, 1), (32, .iconst 0, 1), (33, .iastore, 1), (34, .aload_n 0, 1), (35, .invokevirtual 178, 3), (38, .iconst 0, 1), (39, .ireturn, 1)]
def pm_q87 : List (Nat × Instr × Nat) := [(0, .aload_n 0, 1), (1, .iload_n 1, 1), (2, .iconst 2, 1), (3, .invokevirtual 203, 3), (6, .ifCond .ne 5, 3), (9, .iconst 0, 1), (10, .ireturn, 1), (11, .aload_n 0, 1), (12, .iload_n 2, 1), (13, .iconst 1, 1), (14, .if_icmp .lt 9, 3), (17, .iload_n 2, 1), (18, .bipush 8, 2), (20, .if_icmp .le 7, 3), (23, .iconst 1, 1), (24, .goto 4, 3), (27, .iconst 0, 1), (28, .putfield 90, 3), (31, .aload_n 0, 1), (32, .getfield 90, 3), (35, .ifCond .ne 7, 3), (38, .iconst 1, 1), (39, .goto 4, 3), (42, .iconst 0, 1), (43, .ireturn, 1)]
def pm_q88 : List (Nat × Instr × Nat) := [(0, .aload_n 0, 1), (1, .iload_n 1, 1), (2, .iload_n 3, 1), (3, .invokevirtual 210, 3), (6, .ifCond .ne 5, 3), (9, .iconst 0, 1), (10, .ireturn, 1), (11, .aload_n 0, 1), (12, .iload_n 1, 1), (13, .iload_n 2, 1), (14, .invokevirtual 207, 3), (17, .istore 4, 2), (19, .iload 4, 2), (21, .ifCond .le 17, 3), (24, .iload 4, 2), (26, .iconst 1, 1), (27, .if_icmp .le 13, 3), (30, .iload 4, 2), (32, .iconst 2, 1), (33, .irem, 1), (34, .iconst 1, 1), (35, .if_icmp .ne 5, 3), (38, .iconst (-1), 1), (39, .ireturn, 1), (40, .aload_n 0, 1), (41, .getfield 53, 3), (44, .iload_n 1, 1), (45, .iload_n 2, 1), (46, .iastore, 1), (47, .aload_n 0, 1), (48, .getfield 56, 3), (51, .iload_n 1, 1), (52, .iload_n 3, 1), (53, .iastore, 1), (54, .aload_n 0, 1), (55, .iload_n 1, 1), (56, .iconst 1, 1), (57, .invokevirtual 213, 3), (60, .ireturn, 1)]
def pm_q89 : List (Nat × Instr × Nat) := [(0, .aload_n 0, 1), (1, .iload_n 1, 1), (2, .iload 5, 2), (4, .invokevirtual 210, 3), (7, .ifCond .ne 5, 3), (10, .iconst 0, 1), (11, .ireturn, 1), (12, .aload_n 0, 1), (13, .iload_n 1, 1), (14, .iload_n 2, 1), (15, .invokevirtual 207, 3), (18, .istore 6, 2), (20, .iload 6, 2), (22, .ifCond .le 10, 3), (25, .iload 6, 2), (27, .iconst 2, 1), (28, .irem, 1), (29, .ifCond .ne 5, 3), (32, .iconst (-1), 1), (33, .ireturn, 1), (34, .aload_n 0, 1), (35, .getfield 53, 3), (38, .iload_n 1, 1), (39, .iload_n 2, 1), (40, .iastore, 1), (41, .aload_n 0, 1), (42, .getfield 56, 3), (45, .iload_n 1, 1), (46, .iload 5, 2), (48, .iastore, 1), (49, .aload_n 0, 1), (50, .getfield 59, 3), (53, .iload_n 1, 1), (54, .lload_n 3, 1), (55, .lastore, 1), (56, .aload_n 0, 1), (57, .iload_n 1, 1), (58, .iconst 2, 1), (59, .invokevirtual 213, 3), (62, .ireturn, 1)]
def pm_q90 : List (Nat × Instr × Nat) := [(0, .aload_n 0, 1), (1, .iload_n 1, 1), (2, .iconst 1, 1), (3, .invokevirtual 203, 3), (6, .ifCond .ne 5, 3), (9, .iconst 0, 1), (10, .ireturn, 1), (11, .aload_n 0, 1), (12, .getfield 63, 3), (15, .iload_n 1, 1), (16, .iload_n 2, 1), (17, .bastore, 1), (18, .aload_n 0, 1), (19, .iload_n 1, 1), (20, .iconst 3, 1), (21, .invokevirtual 213, 3), (24, .ireturn, 1)]
def pm_q91 : List (Nat × Instr × Nat) := [(0, .aload_n 0, 1), (1, .iload_n 1, 1), (2, .iconst 1, 1), (3, .invokevirtual 203, 3), (6, .ifCond .eq 12, 3), (9, .aload_n 0, 1), (10, .iload_n 1, 1), (11, .iconst 4, 1), (12, .invokevirtual 213, 3), (15, .goto 4, 3), (18, .iconst 0, 1), (19, .ireturn, 1)]
def pm_q92_0 : List (Nat × Instr × Nat) := [(0, .aload_n 0, 1), (1, .iload_n 1, 1), (2, .iconst 2, 1), (3, .invokevirtual 203, 3), (6, .ifCond .ne 5, 3), (9, .iconst 0, 1), (10, .ireturn, 1), (11, .iload_n 3, 1), (12, .iconst 1, 1), (13, .if_icmp .lt 21, 3), (16, .iload_n 3, 1), (17, .bipush 8, 2), (19, .if_icmp .gt 15, 3), (22, .iload_n 2, 1), (23, .bipush (-8), 2), (25, .if_icmp .lt 9, 3), (28, .iload_n 2, 1), (29, .bipush 7, 2), (31, .if_icmp .le 10, 3), (34, .aload_n 0, 1), (35, .iconst 1, 1), (36, .putfield 90, 3), (39, .iconst 0, 1), (40, .ireturn, 1), (41, .iload_n 2, 1), (42, .ifCond .lt 14, 3), (45, .aload_n 0, 1), (46, .iload_n 2, 1), (47, .invokevirtual 102, 3), (50, .ifCond .ne 19, 3), (53, .goto 13, 3), (56, .aload_n 0, 1), (57, .iconst (-1), 1), (58, .iload_n 2, 1), (59, .isub, 1), (60, .invokevirtual 216, 3), (63, .ifCond .ne 6, 3), (66, .bipush (-8), 2), (68, .ireturn, 1), (69, .iload_n 2, 1)]
def pm_q92_1 : List (Nat × Instr × Nat) := [(70, .ifCond .lt 12, 3), (73, .aload_n 0, 1), (74, .iload_n 2, 1), (75, .iload_n 3, 1), (76, .invokevirtual 131, 3), (79, .goto 11, 3), (82, .aload_n 0, 1), (83, .iconst (-1), 1), (84, .iload_n 2, 1), (85, .isub, 1), (86, .iload_n 3, 1), (87, .invokevirtual 165, 3), (90, .aload_n 0, 1), (91, .invokevirtual 178, 3), (94, .iconst 0, 1), (95, .ireturn, 1)]
def pm_q92 : List (Nat × Instr × Nat) := pm_q92_0 ++ (pm_q92_1)
def pm_q93_0 : List (Nat × Instr × Nat) := [(0, .aload_n 0, 1), (1, .iload_n 1, 1), (2, .iconst 2, 1), (3, .invokevirtual 203, 3), (6, .ifCond .ne 5, 3), (9, .iconst 0, 1), (10, .ireturn, 1), (11, .iload_n 2, 1), (12, .iconst 1, 1), (13, .if_icmp .lt 18, 3), (16, .iload_n 2, 1), (17, .bipush 7, 2), (19, .if_icmp .gt 12, 3), (22, .iload_n 3, 1), (23, .ifCond .lt 8, 3), (26, .iload_n 3, 1), (27, .iconst 2, 1), (28, .if_icmp .le 10, 3), (31, .aload_n 0, 1), (32, .iconst 1, 1), (33, .putfield 90, 3), (36, .iconst 0, 1), (37, .ireturn, 1), (38, .aload_n 0, 1), (39, .getfield 47, 3), (42, .bipush 8, 2), (44, .iload_n 1, 1), (45, .imul, 1), (46, .iload_n 2, 1), (47, .iadd, 1), (48, .iaload, 1), (49, .istore 4, 2), (51, .aload_n 0, 1), (52, .getfield 47, 3), (55, .bipush 8, 2), (57, .iload_n 1, 1), (58, .imul, 1), (59, .iload_n 2, 1), (60, .iadd, 1), (61, .iload_n 3, 1)]
def pm_q93_1 : List (Nat × Instr × Nat) := [(62, .iastore, 1), (63, .iload_n 3, 1), (64, .iconst 1, 1), (65, .if_icmp .ne 21, 3), (68, .aload_n 0, 1), (69, .getfield 22, 3), (72, .iload_n 1, 1), (73, .aload_n 0, 1), (74, .getfield 22, 3), (77, .iload_n 1, 1), (78, .iaload, 1), (79, .iconst 1, 1), (80, .iload_n 2, 1), (81, .ishl, 1), (82, .iconst (-1), 1), (83, .ixor, 1), (84, .iand, 1), (85, .iastore, 1), (86, .aload_n 0, 1), (87, .invokevirtual 178, 3), (90, .iload 4, 2), (92, .ireturn, 1)]
def pm_q93 : List (Nat × Instr × Nat) := pm_q93_0 ++ (pm_q93_1)
def pm_q94 : List (Nat × Instr × Nat) := [(0, .aload_n 0, 1), (1, .iload_n 1, 1), (2, .iconst 1, 1), (3, .invokevirtual 203, 3), (6, .ifCond .ne 5, 3), (9, .iconst 0, 1), (10, .ireturn, 1), (11, .aload_n 0, 1), (12, .getfield 19, 3), (15, .iload_n 1, 1), (16, .iaload, 1), (17, .istore_n 3, 1), (18, .aload_n 0, 1), (19, .getfield 19, 3), (22, .iload_n 1, 1), (23, .iload_n 2, 1), (24, .sipush 254, 3), (27, .iand, 1), (28, .iastore, 1), (29, .aload_n 0, 1), (30, .iload_n 1, 1), (31, .invokevirtual 128, 3), (34, .aload_n 0, 1), (35, .invokevirtual 178, 3), (38, .iload_n 3, 1), (39, .ireturn, 1)]
def pm_q95_0 : List (Nat × Instr × Nat) := [(0, .aload_n 0, 1), (1, .iload_n 1, 1), (2, .iconst 1, 1), (3, .invokevirtual 203, 3), (6, .ifCond .ne 5, 3), (9, .iconst 0, 1), (10, .ireturn, 1), (11, .aload_n 0, 1), (12, .iload_n 2, 1), (13, .invokevirtual 197, 3), (16, .ifCond .eq 34, 3), (19, .iload_n 2, 1), (20, .ifCond .le 30, 3), (23, .aload_n 0, 1), (24, .iload_n 2, 1), (25, .invokevirtual 102, 3), (28, .ifCond .eq 22, 3), (31, .iload_n 2, 1), (32, .iload_n 1, 1), (33, .if_icmp .eq 13, 3), (36, .aload_n 0, 1), (37, .getfield 13, 3), (40, .iload_n 2, 1), (41, .iaload, 1), (42, .iload_n 1, 1), (43, .if_icmp .ne 7, 3), (46, .iconst 1, 1), (47, .goto 4, 3), (50, .iconst 0, 1), (51, .istore 4, 2), (53, .iload 4, 2), (55, .ifCond .eq 16, 3), (58, .iload_n 3, 1), (59, .iload_n 2, 1), (60, .if_icmp .eq 14, 3), (63, .aload_n 0, 1), (64, .iload_n 3, 1), (65, .invokevirtual 216, 3), (68, .ifCond .ne 6, 3), (71, .bipush (-7), 2)]
def pm_q95_1 : List (Nat × Instr × Nat) := [(73, .ireturn, 1), (74, .aload_n 0, 1), (75, .getfield 16, 3), (78, .iload_n 2, 1), (79, .iload_n 3, 1), (80, .iastore, 1), (81, .aload_n 0, 1), (82, .invokevirtual 178, 3), (85, .iconst 0, 1), (86, .ireturn, 1)]
def pm_q95 : List (Nat × Instr × Nat) := pm_q95_0 ++ (pm_q95_1)
def pm_q96 : List (Nat × Instr × Nat) := [(0, .aload_n 0, 1), (1, .iload_n 1, 1), (2, .iconst 1, 1), (3, .invokevirtual 203, 3), (6, .ifCond .ne 5, 3), (9, .iconst 0, 1), (10, .ireturn, 1), (11, .aload_n 0, 1), (12, .iload_n 2, 1), (13, .invokevirtual 216, 3), (16, .ifCond .eq 20, 3), (19, .iload_n 1, 1), (20, .ifCond .eq 19, 3), (23, .aload_n 0, 1), (24, .getfield 16, 3), (27, .iload_n 1, 1), (28, .iaload, 1), (29, .aload_n 0, 1), (30, .getfield 134, 3), (33, .if_icmp .eq 6, 3), (36, .bipush (-7), 2), (38, .ireturn, 1), (39, .aload_n 0, 1), (40, .iload_n 2, 1), (41, .putfield 134, 3), (44, .aload_n 0, 1), (45, .invokevirtual 178, 3), (48, .iconst 0, 1), (49, .ireturn, 1)]
def pm_q97 : List (Nat × Instr × Nat) := [(0, .iload_n 0, 1), (1, .iconst 2, 1), (2, .if_icmp .ge 7, 3), (5, .iload_n 0, 1), (6, .goto 8, 3), (9, .iconst 2, 1), (10, .iload_n 0, 1), (11, .iconst 2, 1), (12, .irem, 1), (13, .iadd, 1), (14, .ireturn, 1)]
def pm_q98_0 : List (Nat × Instr × Nat) := [(0, .aload_n 0, 1), (1, .iconst 0, 1), (2, .putfield 90, 3), (5, .aload_n 0, 1), (6, .iload_n 1, 1), (7, .invokevirtual 197, 3), (10, .ifCond .eq 12, 3), (13, .aload_n 0, 1), (14, .getfield 7, 3), (17, .iload_n 1, 1), (18, .iaload, 1), (19, .ifCond .ne 5, 3), (22, .iconst (-1), 1), (23, .ireturn, 1), (24, .iload_n 2, 1), (25, .bipush 10, 2), (27, .if_icmp .lt 27, 3), (30, .iload_n 2, 1), (31, .bipush 16, 2), (33, .if_icmp .ge 21, 3), (36, .aload_n 0, 1), (37, .getfield 44, 3), (40, .bipush 6, 2), (42, .iload_n 1, 1), (43, .imul, 1), (44, .iload_n 2, 1), (45, .iadd, 1), (46, .bipush 10, 2), (48, .isub, 1), (49, .iaload, 1), (50, .invokestatic 219, 3), (53, .ireturn, 1), (54, .iload_n 2, 1), (55, .bipush 20, 2), (57, .if_icmp .le 24, 3), (60, .iload_n 2, 1), (61, .bipush 28, 2), (63, .if_icmp .ge 18, 3), (66, .aload_n 0, 1), (67, .getfield 47, 3)]
def pm_q98_1 : List (Nat × Instr × Nat) := [(70, .bipush 8, 2), (72, .iload_n 1, 1), (73, .imul, 1), (74, .iload_n 2, 1), (75, .iadd, 1), (76, .bipush 20, 2), (78, .isub, 1), (79, .iaload, 1), (80, .ireturn, 1), (81, .iload_n 2, 1), (82, .tableswitch 127 0 8 #[50, 57, 64, 71, 78, 85, 92, 99, 106], 50), (132, .aload_n 0, 1), (133, .getfield 7, 3), (136, .iload_n 1, 1), (137, .iaload, 1), (138, .ireturn, 1), (139, .aload_n 0, 1), (140, .getfield 13, 3), (143, .iload_n 1, 1), (144, .iaload, 1), (145, .ireturn, 1), (146, .aload_n 0, 1), (147, .getfield 16, 3), (150, .iload_n 1, 1), (151, .iaload, 1), (152, .ireturn, 1), (153, .aload_n 0, 1), (154, .getfield 19, 3), (157, .iload_n 1, 1), (158, .iaload, 1), (159, .ireturn, 1), (160, .aload_n 0, 1), (161, .getfield 22, 3), (164, .iload_n 1, 1), (165, .iaload, 1), (166, .ireturn, 1), (167, .aload_n 0, 1), (168, .getfield 25, 3), (171, .iload_n 1, 1), (172, .iaload, 1)]
def pm_q98_2 : List (Nat × Instr × Nat) := [(173, .ireturn, 1), (174, .aload_n 0, 1), (175, .getfield 28, 3), (178, .iload_n 1, 1), (179, .iaload, 1), (180, .ireturn, 1), (181, .aload_n 0, 1), (182, .getfield 31, 3), (185, .iload_n 1, 1), (186, .iaload, 1), (187, .ireturn, 1), (188, .aload_n 0, 1), (189, .getfield 7, 3), (192, .iload_n 1, 1), (193, .iaload, 1), (194, .iconst 4, 1), (195, .if_icmp .ne 12, 3), (198, .aload_n 0, 1), (199, .getfield 34, 3), (202, .iload_n 1, 1), (203, .iaload, 1), (204, .goto 4, 3), (207, .iconst (-1), 1), (208, .ireturn, 1), (209, .iconst (-1), 1), (210, .ireturn, 1)]
def pm_q98 : List (Nat × Instr × Nat) := pm_q98_0 ++ (pm_q98_1 ++ (pm_q98_2))
def pm_q99 : List (Nat × Instr × Nat) := [(0, .aload_n 0, 1), (1, .iconst 0, 1), (2, .putfield 90, 3), (5, .aload_n 0, 1), (6, .iload_n 1, 1), (7, .invokevirtual 197, 3), (10, .ifCond .eq 26, 3), (13, .aload_n 0, 1), (14, .getfield 7, 3), (17, .iload_n 1, 1), (18, .iaload, 1), (19, .ifCond .eq 17, 3), (22, .iload_n 2, 1), (23, .ifCond .lt 13, 3), (26, .iload_n 2, 1), (27, .aload_n 0, 1), (28, .getfield 28, 3), (31, .iload_n 1, 1), (32, .iaload, 1), (33, .if_icmp .lt 7, 3), (36, .iconst (-1), 1), (37, .goto 14, 3), (40, .aload_n 0, 1), (41, .getfield 72, 3), (44, .bipush 8, 2), (46, .iload_n 1, 1), (47, .imul, 1), (48, .iload_n 2, 1), (49, .iadd, 1), (50, .iaload, 1), (51, .ireturn, 1)]
def pm_q100_0 : List (Nat × Instr × Nat) := [(0, .aload_n 0, 1), (1, .iconst 0, 1), (2, .putfield 90, 3), (5, .aload_n 0, 1), (6, .iload_n 1, 1), (7, .invokevirtual 197, 3), (10, .ifCond .eq 36, 3), (13, .aload_n 0, 1), (14, .getfield 7, 3), (17, .iload_n 1, 1), (18, .iaload, 1), (19, .ifCond .eq 27, 3), (22, .iload_n 2, 1), (23, .ifCond .lt 23, 3), (26, .iload_n 2, 1), (27, .bipush 16, 2), (29, .if_icmp .ge 17, 3), (32, .iload_n 2, 1), (33, .aload_n 0, 1), (34, .getfield 31, 3), (37, .iload_n 1, 1), (38, .iaload, 1), (39, .if_icmp .ge 7, 3), (42, .iconst 1, 1), (43, .goto 4, 3), (46, .iconst 0, 1), (47, .istore_n 3, 1), (48, .iload_n 3, 1), (49, .ifCond .eq 29, 3), (52, .aload_n 0, 1), (53, .getfield 69, 3), (56, .bipush 16, 2), (58, .iload_n 1, 1), (59, .imul, 1), (60, .aload_n 0, 1), (61, .getfield 31, 3), (64, .iload_n 1, 1), (65, .iaload, 1), (66, .iconst 1, 1), (67, .isub, 1)]
def pm_q100_1 : List (Nat × Instr × Nat) := [(68, .iload_n 2, 1), (69, .isub, 1), (70, .bipush 16, 2), (72, .irem, 1), (73, .iadd, 1), (74, .iaload, 1), (75, .goto 4, 3), (78, .iconst (-1), 1), (79, .ireturn, 1)]
def pm_q100 : List (Nat × Instr × Nat) := pm_q100_0 ++ (pm_q100_1)
def pm_q101_0 : List (Nat × Instr × Nat) := [(0, .aload_n 0, 1), (1, .iconst 0, 1), (2, .putfield 90, 3), (5, .iload_n 1, 1), (6, .tableswitch 59 (-5) (-1) #[54, 49, 44, 39, 34], 34), (40, .aload_n 0, 1), (41, .getfield 134, 3), (44, .ireturn, 1), (45, .aload_n 0, 1), (46, .invokevirtual 181, 3), (49, .ireturn, 1), (50, .aload_n 0, 1), (51, .getfield 140, 3), (54, .ireturn, 1), (55, .aload_n 0, 1), (56, .getfield 147, 3), (59, .ireturn, 1), (60, .aload_n 0, 1), (61, .invokevirtual 222, 3), (64, .ireturn, 1), (65, .iload_n 1, 1), (66, .ifCond .lt 17, 3), (69, .iload_n 1, 1), (70, .bipush 63, 2), (72, .if_icmp .gt 11, 3), (75, .iload_n 1, 1), (76, .aload_n 0, 1), (77, .getfield 147, 3), (80, .if_icmp .lt 7, 3), (83, .iconst (-1), 1), (84, .goto 19, 3), (87, .aload_n 0, 1), (88, .getfield 87, 3), (91, .aload_n 0, 1), (92, .getfield 147, 3), (95, .iconst 1, 1), (96, .isub, 1), (97, .iload_n 1, 1), (98, .isub, 1), (99, .bipush 64, 2)]
def pm_q101_1 : List (Nat × Instr × Nat) := [(101, .irem, 1), (102, .iaload, 1), (103, .ireturn, 1)]
def pm_q101 : List (Nat × Instr × Nat) := pm_q101_0 ++ (pm_q101_1)
def pm_q102 : List (Nat × Instr × Nat) := [(0, .aload_n 0, 1), (1, .invokespecial 1, 3), (4, .aload_n 0, 1), (5, .iconst 0, 1), (6, .putfield 7, 3), (9, .aload_n 0, 1), (10, .iload_n 1, 1), (11, .newarray .int, 2), (13, .putfield 13, 3), (16, .return_, 1)]
def pm_q103 : List (Nat × Instr × Nat) := [(0, .aload_n 0, 1), (1, .getfield 13, 3), (4, .arraylength, 1), (5, .aload_n 0, 1), (6, .getfield 7, 3), (9, .isub, 1), (10, .ireturn, 1)]
def pm_q104 : List (Nat × Instr × Nat) := [(0, .aload_n 0, 1), (1, .getfield 7, 3), (4, .aload_n 0, 1), (5, .getfield 13, 3), (8, .arraylength, 1), (9, .if_icmp .ge 23, 3), (12, .aload_n 0, 1), (13, .getfield 13, 3), (16, .aload_n 0, 1), (17, .getfield 7, 3), (20, .iload_n 1, 1), (21, .iastore, 1), (22, .aload_n 0, 1), (23, .dup, 1), (24, .getfield 7, 3), (27, .iconst 1, 1), (28, .iadd, 1), (29, .putfield 7, 3), (32, .return_, 1)]
def pm_q105_0 : List (Nat × Instr × Nat) := [(0, .iload_n 1, 1), (1, .aload_n 0, 1), (2, .getfield 7, 3), (5, .invokestatic 17, 3), (8, .aload_n 2, 1), (9, .arraylength, 1), (10, .invokestatic 17, 3), (13, .istore_n 3, 1), (14, .iconst 0, 1), (15, .istore 4, 2), (17, .iload 4, 2), (19, .iload_n 3, 1), (20, .if_icmp .ge 20, 3), (23, .aload_n 2, 1), (24, .iload 4, 2), (26, .aload_n 0, 1), (27, .getfield 13, 3), (30, .iload 4, 2), (32, .iaload, 1), (33, .iastore, 1), (34, .iinc 4 1, 3), (37, .goto (-20), 3), (40, .iload_n 3, 1), (41, .istore 4, 2), (43, .iload 4, 2), (45, .aload_n 0, 1), (46, .getfield 7, 3), (49, .if_icmp .ge 25, 3), (52, .aload_n 0, 1), (53, .getfield 13, 3), (56, .iload 4, 2), (58, .iload_n 3, 1), (59, .isub, 1), (60, .aload_n 0, 1), (61, .getfield 13, 3), (64, .iload 4, 2), (66, .iaload, 1), (67, .iastore, 1), (68, .iinc 4 1, 3), (71, .goto (-28), 3)]
def pm_q105_1 : List (Nat × Instr × Nat) := [(74, .aload_n 0, 1), (75, .dup, 1), (76, .getfield 7, 3), (79, .iload_n 3, 1), (80, .isub, 1), (81, .putfield 7, 3), (84, .iload_n 3, 1), (85, .ireturn, 1)]
def pm_q105 : List (Nat × Instr × Nat) := pm_q105_0 ++ (pm_q105_1)
def pm_q106 : List (Nat × Instr × Nat) := [(0, .aload_n 0, 1), (1, .invokespecial 3, 3), (4, .aload_n 0, 1), (5, .iconst 0, 1), (6, .putfield 9, 3), (9, .aload_n 0, 1), (10, .iconst 0, 1), (11, .putfield 15, 3), (14, .aload_n 0, 1), (15, .iconst 0, 1), (16, .putfield 18, 3), (19, .aload_n 0, 1), (20, .lconst 0, 1), (21, .putfield 21, 3), (24, .aload_n 0, 1), (25, .iconst 0, 1), (26, .putfield 25, 3), (29, .aload_n 0, 1), (30, .iconst 0, 1), (31, .putfield 29, 3), (34, .return_, 1)]
def pm_q107 : List (Nat × Instr × Nat) := [(0, .aload_n 0, 1), (1, .iload_n 1, 1), (2, .putfield 9, 3), (5, .aload_n 0, 1), (6, .iload_n 2, 1), (7, .putfield 15, 3), (10, .aload_n 0, 1), (11, .iload_n 3, 1), (12, .putfield 18, 3), (15, .aload_n 0, 1), (16, .lload 4, 2), (18, .putfield 21, 3), (21, .return_, 1)]
def pm_q108 : List (Nat × Instr × Nat) := [(0, .aload_n 0, 1), (1, .getfield 21, 3), (4, .bipush 8, 2), (6, .iload_n 1, 1), (7, .imul, 1), (8, .lushr, 1), (9, .l2i, 1), (10, .sipush 255, 3), (13, .iand, 1), (14, .ireturn, 1)]
def pm_q109_0 : List (Nat × Instr × Nat) := [(0, .aload_n 0, 1), (1, .invokespecial 3, 3), (4, .aload_n 0, 1), (5, .bipush 6, 2), (7, .newarray .int, 2), (9, .putfield 9, 3), (12, .aload_n 0, 1), (13, .bipush 8, 2), (15, .newarray .int, 2), (17, .putfield 15, 3), (20, .aload_n 0, 1), (21, .bipush 8, 2), (23, .newarray .int, 2), (25, .putfield 18, 3), (28, .aload_n 0, 1), (29, .bipush 16, 2), (31, .newarray .int, 2), (33, .putfield 21, 3), (36, .aload_n 0, 1), (37, .new 24, 3), (40, .dup, 1), (41, .invokespecial 26, 3), (44, .putfield 27, 3), (47, .aload_n 0, 1), (48, .iconst 0, 1), (49, .putfield 31, 3), (52, .aload_n 0, 1), (53, .iconst (-1), 1), (54, .putfield 35, 3), (57, .aload_n 0, 1), (58, .iconst 0, 1), (59, .putfield 38, 3), (62, .aload_n 0, 1), (63, .iconst 0, 1), (64, .putfield 41, 3), (67, .aload_n 0, 1), (68, .iconst 0, 1), (69, .putfield 44, 3), (72, .aload_n 0, 1), (73, .iconst 0, 1)]
def pm_q109_1 : List (Nat × Instr × Nat) := [(74, .putfield 47, 3), (77, .aload_n 0, 1), (78, .iconst 0, 1), (79, .putfield 50, 3), (82, .aload_n 0, 1), (83, .iconst 0, 1), (84, .putfield 53, 3), (87, .aload_n 0, 1), (88, .iconst 0, 1), (89, .putfield 56, 3), (92, .aload_n 0, 1), (93, .iconst 0, 1), (94, .putfield 59, 3), (97, .aload_n 0, 1), (98, .iload_n 1, 1), (99, .putfield 63, 3), (102, .return_, 1)]
def pm_q109 : List (Nat × Instr × Nat) := pm_q109_0 ++ (pm_q109_1)
def pm_q110_0 : List (Nat × Instr × Nat) := [(0, .iconst 0, 1), (1, .istore_n 2, 1), (2, .iload_n 2, 1), (3, .bipush 6, 2), (5, .if_icmp .ge 21, 3), (8, .aload_n 0, 1), (9, .getfield 9, 3), (12, .iload_n 2, 1), (13, .aload_n 1, 1), (14, .getfield 9, 3), (17, .iload_n 2, 1), (18, .iaload, 1), (19, .iastore, 1), (20, .iinc 2 1, 3), (23, .goto (-21), 3), (26, .iconst 1, 1), (27, .istore_n 2, 1), (28, .iload_n 2, 1), (29, .bipush 7, 2), (31, .if_icmp .gt 21, 3), (34, .aload_n 0, 1), (35, .getfield 15, 3), (38, .iload_n 2, 1), (39, .aload_n 1, 1), (40, .getfield 15, 3), (43, .iload_n 2, 1), (44, .iaload, 1), (45, .iastore, 1), (46, .iinc 2 1, 3), (49, .goto (-21), 3), (52, .aload_n 0, 1), (53, .iconst 1, 1), (54, .putfield 31, 3), (57, .aload_n 0, 1), (58, .aload_n 1, 1), (59, .getfield 63, 3), (62, .putfield 35, 3), (65, .aload_n 0, 1), (66, .aload_n 1, 1), (67, .getfield 38, 3)]
def pm_q110_1 : List (Nat × Instr × Nat) := [(70, .putfield 38, 3), (73, .aload_n 0, 1), (74, .aload_n 1, 1), (75, .getfield 41, 3), (78, .putfield 41, 3), (81, .aload_n 0, 1), (82, .iconst 0, 1), (83, .putfield 44, 3), (86, .aload_n 0, 1), (87, .iconst 0, 1), (88, .putfield 47, 3), (91, .aload_n 0, 1), (92, .iconst 0, 1), (93, .putfield 50, 3), (96, .aload_n 0, 1), (97, .iconst 0, 1), (98, .putfield 53, 3), (101, .return_, 1)]
def pm_q110 : List (Nat × Instr × Nat) := pm_q110_0 ++ (pm_q110_1)
def pm_q111 : List (Nat × Instr × Nat) := [(0, .iconst 0, 1), (1, .istore_n 2, 1), (2, .iload_n 2, 1), (3, .bipush 6, 2), (5, .if_icmp .ge 16, 3), (8, .aload_n 0, 1), (9, .getfield 9, 3), (12, .iload_n 2, 1), (13, .iconst 0, 1), (14, .iastore, 1), (15, .iinc 2 1, 3), (18, .goto (-16), 3), (21, .aload_n 0, 1), (22, .getfield 27, 3), (25, .iconst 0, 1), (26, .putfield 66, 3), (29, .aload_n 0, 1), (30, .iconst 0, 1), (31, .putfield 44, 3), (34, .aload_n 0, 1), (35, .iload_n 1, 1), (36, .putfield 56, 3), (39, .return_, 1)]
def pm_q112 : List (Nat × Instr × Nat) := [(0, .aload_n 0, 1), (1, .getfield 31, 3), (4, .ifCond .eq 15, 3), (7, .aload_n 0, 1), (8, .getfield 31, 3), (11, .iconst 4, 1), (12, .if_icmp .eq 7, 3), (15, .iconst 1, 1), (16, .goto 4, 3), (19, .iconst 0, 1), (20, .ireturn, 1)]
def pm_q113 : List (Nat × Instr × Nat) := [(0, .iload_n 1, 1), (1, .ifCond .lt 18, 3), (4, .iload_n 1, 1), (5, .bipush 6, 2), (7, .if_icmp .ge 12, 3), (10, .aload_n 0, 1), (11, .getfield 9, 3), (14, .iload_n 1, 1), (15, .iaload, 1), (16, .goto 4, 3), (19, .iconst 0, 1), (20, .ireturn, 1)]
def pm_q114 : List (Nat × Instr × Nat) := [(0, .iload_n 1, 1), (1, .istore_n 2, 1), (2, .iload_n 2, 1), (3, .bipush 6, 2), (5, .if_icmp .ge 20, 3), (8, .aload_n 0, 1), (9, .getfield 9, 3), (12, .iload_n 2, 1), (13, .iaload, 1), (14, .ifCond .ne 5, 3), (17, .iload_n 2, 1), (18, .ireturn, 1), (19, .iinc 2 1, 3), (22, .goto (-20), 3), (25, .bipush 6, 2), (27, .ireturn, 1)]
def pm_q115 : List (Nat × Instr × Nat) := [(0, .aload_n 0, 1), (1, .getfield 41, 3), (4, .iconst 1, 1), (5, .iload_n 1, 1), (6, .ishl, 1), (7, .iand, 1), (8, .ifCond .eq 7, 3), (11, .iconst 1, 1), (12, .goto 4, 3), (15, .iconst 0, 1), (16, .ireturn, 1)]
def pm_q116 : List (Nat × Instr × Nat) := [(0, .aload_n 0, 1), (1, .getfield 44, 3), (4, .iconst 1, 1), (5, .iload_n 1, 1), (6, .ishl, 1), (7, .iand, 1), (8, .ifCond .eq 15, 3), (11, .aload_n 0, 1), (12, .iload_n 1, 1), (13, .invokevirtual 69, 3), (16, .ifCond .ne 7, 3), (19, .iconst 1, 1), (20, .goto 4, 3), (23, .iconst 0, 1), (24, .ireturn, 1)]
def pm_q117 : List (Nat × Instr × Nat) := [(0, .aload_n 0, 1), (1, .dup, 1), (2, .getfield 44, 3), (5, .iconst 1, 1), (6, .iload_n 1, 1), (7, .ishl, 1), (8, .iconst (-1), 1), (9, .ixor, 1), (10, .iand, 1), (11, .putfield 44, 3), (14, .return_, 1)]
def pm_q118_0 : List (Nat × Instr × Nat) := [(0, .iload_n 1, 1), (1, .bipush 6, 2), (3, .if_icmp .ne 43, 3), (6, .aload_n 0, 1), (7, .iconst 4, 1), (8, .invokevirtual 73, 3), (11, .aload_n 0, 1), (12, .iconst 5, 1), (13, .invokevirtual 73, 3), (16, .aload_n 0, 1), (17, .getfield 31, 3), (20, .iconst 3, 1), (21, .if_icmp .ne 41, 3), (24, .aload_n 0, 1), (25, .aload_n 0, 1), (26, .getfield 27, 3), (29, .getfield 66, 3), (32, .ifCond .ne 7, 3), (35, .iconst 1, 1), (36, .goto 4, 3), (39, .iconst 2, 1), (40, .putfield 31, 3), (43, .goto 19, 3), (46, .iload_n 1, 1), (47, .iconst 4, 1), (48, .if_icmp .eq 8, 3), (51, .iload_n 1, 1), (52, .iconst 5, 1), (53, .if_icmp .ne 9, 3), (56, .aload_n 0, 1), (57, .bipush 6, 2), (59, .invokevirtual 73, 3), (62, .iload_n 1, 1), (63, .iconst 1, 1), (64, .if_icmp .lt 29, 3), (67, .iload_n 1, 1), (68, .bipush 7, 2), (70, .if_icmp .gt 23, 3), (73, .aload_n 0, 1), (74, .iload_n 1, 1)]
def pm_q118_1 : List (Nat × Instr × Nat) := [(75, .invokevirtual 77, 3), (78, .ifCond .eq 15, 3), (81, .aload_n 0, 1), (82, .dup, 1), (83, .getfield 44, 3), (86, .iconst 1, 1), (87, .iload_n 1, 1), (88, .ishl, 1), (89, .ior, 1), (90, .putfield 44, 3), (93, .return_, 1)]
def pm_q118 : List (Nat × Instr × Nat) := pm_q118_0 ++ (pm_q118_1)
def pm_q119 : List (Nat × Instr × Nat) := [(0, .aload_n 0, 1), (1, .getfield 15, 3), (4, .iload_n 1, 1), (5, .iaload, 1), (6, .iconst 2, 1), (7, .if_icmp .eq 17, 3), (10, .aload_n 0, 1), (11, .getfield 15, 3), (14, .iload_n 1, 1), (15, .iaload, 1), (16, .ifCond .ne 12, 3), (19, .iload_n 1, 1), (20, .iconst 5, 1), (21, .if_icmp .gt 7, 3), (24, .iconst 1, 1), (25, .goto 4, 3), (28, .iconst 0, 1), (29, .ireturn, 1)]
def pm_q120 : List (Nat × Instr × Nat) := [(0, .aload_n 0, 1), (1, .getfield 21, 3), (4, .aload_n 0, 1), (5, .getfield 53, 3), (8, .bipush 16, 2), (10, .irem, 1), (11, .iload_n 1, 1), (12, .iastore, 1), (13, .aload_n 0, 1), (14, .dup, 1), (15, .getfield 53, 3), (18, .iconst 1, 1), (19, .iadd, 1), (20, .putfield 53, 3), (23, .aload_n 0, 1), (24, .getfield 31, 3), (27, .iconst 2, 1), (28, .if_icmp .ne 9, 3), (31, .aload_n 0, 1), (32, .bipush (-4), 2), (34, .invokevirtual 80, 3), (37, .return_, 1)]
def pm_q121 : List (Nat × Instr × Nat) := [(0, .aload_n 0, 1), (1, .iconst 2, 1), (2, .putfield 31, 3), (5, .aload_n 0, 1), (6, .bipush (-9), 2), (8, .putfield 47, 3), (11, .aload_n 0, 1), (12, .getfield 27, 3), (15, .iload_n 1, 1), (16, .putfield 83, 3), (19, .return_, 1)]
def pm_q122 : List (Nat × Instr × Nat) := [(0, .aload_n 0, 1), (1, .iconst 1, 1), (2, .putfield 31, 3), (5, .aload_n 0, 1), (6, .iload_n 1, 1), (7, .putfield 47, 3), (10, .aload_n 0, 1), (11, .getfield 27, 3), (14, .iconst 0, 1), (15, .putfield 66, 3), (18, .return_, 1)]
def pm_q123 : List (Nat × Instr × Nat) := [(0, .aload_n 0, 1), (1, .invokespecial 3, 3), (4, .aload_n 0, 1), (5, .new 9, 3), (8, .dup, 1), (9, .bipush 24, 2), (11, .invokespecial 11, 3), (14, .putfield 14, 3), (17, .aload_n 0, 1), (18, .bipush 8, 2), (20, .newarray .int, 2), (22, .putfield 20, 3), (25, .aload_n 0, 1), (26, .bipush 64, 2), (28, .newarray .int, 2), (30, .putfield 24, 3), (33, .aload_n 0, 1), (34, .iconst 0, 1), (35, .putfield 27, 3), (38, .aload_n 0, 1), (39, .iconst 0, 1), (40, .putfield 31, 3), (43, .aload_n 0, 1), (44, .iconst 0, 1), (45, .putfield 34, 3), (48, .aload_n 0, 1), (49, .iconst 0, 1), (50, .putfield 37, 3), (53, .return_, 1)]
def pm_q124 : List (Nat × Instr × Nat) := [(0, .aload_n 0, 1), (1, .getfield 24, 3), (4, .aload_n 0, 1), (5, .getfield 37, 3), (8, .bipush 64, 2), (10, .irem, 1), (11, .iload_n 1, 1), (12, .iastore, 1), (13, .aload_n 0, 1), (14, .dup, 1), (15, .getfield 37, 3), (18, .iconst 1, 1), (19, .iadd, 1), (20, .putfield 37, 3), (23, .return_, 1)]
def pm_q125_0 : List (Nat × Instr × Nat) := [(0, .iload_n 1, 1), (1, .bipush 8, 2), (3, .if_icmp .ne 18, 3), (6, .aload_n 0, 1), (7, .iconst 1, 1), (8, .aload_n 0, 1), (9, .getfield 31, 3), (12, .invokestatic 40, 3), (15, .invokevirtual 46, 3), (18, .goto 86, 3), (21, .iload_n 1, 1), (22, .bipush 21, 2), (24, .if_icmp .ne 14, 3), (27, .aload_n 0, 1), (28, .aload_n 0, 1), (29, .getfield 31, 3), (32, .invokevirtual 46, 3), (35, .goto 69, 3), (38, .iload_n 1, 1), (39, .iconst 4, 1), (40, .if_icmp .ne 10, 3), (43, .aload_n 0, 1), (44, .invokevirtual 49, 3), (47, .goto 57, 3), (50, .iload_n 1, 1), (51, .bipush 10, 2), (53, .if_icmp .ne 34, 3), (56, .aload_n 0, 1), (57, .getfield 27, 3), (60, .bipush 8, 2), (62, .if_icmp .ge 42, 3), (65, .aload_n 0, 1), (66, .getfield 14, 3), (69, .invokevirtual 52, 3), (72, .ifCond .le 32, 3), (75, .aload_n 0, 1), (76, .iload_n 1, 1), (77, .invokevirtual 56, 3), (80, .aload_n 0, 1), (81, .invokevirtual 49, 3)]
def pm_q125_1 : List (Nat × Instr × Nat) := [(84, .goto 20, 3), (87, .iload_n 1, 1), (88, .bipush 32, 2), (90, .if_icmp .lt 14, 3), (93, .iload_n 1, 1), (94, .bipush 126, 2), (96, .if_icmp .gt 8, 3), (99, .aload_n 0, 1), (100, .iload_n 1, 1), (101, .invokevirtual 56, 3), (104, .return_, 1)]
def pm_q125 : List (Nat × Instr × Nat) := pm_q125_0 ++ (pm_q125_1)
def pm_q126 : List (Nat × Instr × Nat) := [(0, .aload_n 0, 1), (1, .getfield 14, 3), (4, .invokevirtual 52, 3), (7, .ifCond .le 21, 3), (10, .aload_n 0, 1), (11, .getfield 14, 3), (14, .iload_n 1, 1), (15, .invokevirtual 59, 3), (18, .aload_n 0, 1), (19, .dup, 1), (20, .getfield 31, 3), (23, .iconst 1, 1), (24, .iadd, 1), (25, .putfield 31, 3), (28, .return_, 1)]
def pm_q127 : List (Nat × Instr × Nat) := [(0, .aload_n 0, 1), (1, .getfield 14, 3), (4, .dup, 1), (5, .getfield 62, 3), (8, .iload_n 1, 1), (9, .isub, 1), (10, .putfield 62, 3), (13, .aload_n 0, 1), (14, .dup, 1), (15, .getfield 31, 3), (18, .iload_n 1, 1), (19, .isub, 1), (20, .putfield 31, 3), (23, .return_, 1)]
def pm_q128 : List (Nat × Instr × Nat) := [(0, .aload_n 0, 1), (1, .getfield 27, 3), (4, .bipush 8, 2), (6, .if_icmp .ge 31, 3), (9, .aload_n 0, 1), (10, .getfield 20, 3), (13, .aload_n 0, 1), (14, .getfield 27, 3), (17, .aload_n 0, 1), (18, .getfield 31, 3), (21, .iastore, 1), (22, .aload_n 0, 1), (23, .dup, 1), (24, .getfield 27, 3), (27, .iconst 1, 1), (28, .iadd, 1), (29, .putfield 27, 3), (32, .aload_n 0, 1), (33, .iconst 0, 1), (34, .putfield 31, 3), (37, .return_, 1)]
def pm_q129 : List (Nat × Instr × Nat) := [(0, .aload_n 0, 1), (1, .getfield 14, 3), (4, .iconst 0, 1), (5, .putfield 62, 3), (8, .aload_n 0, 1), (9, .iconst 0, 1), (10, .putfield 27, 3), (13, .aload_n 0, 1), (14, .iconst 0, 1), (15, .putfield 31, 3), (18, .return_, 1)]
def pm_q130 : List (Nat × Instr × Nat) := [(0, .aload_n 0, 1), (1, .getfield 14, 3), (4, .iload_n 1, 1), (5, .aload_n 0, 1), (6, .getfield 20, 3), (9, .iconst 0, 1), (10, .iaload, 1), (11, .invokestatic 40, 3), (14, .aload_n 2, 1), (15, .invokevirtual 65, 3), (18, .istore_n 3, 1), (19, .aload_n 0, 1), (20, .getfield 20, 3), (23, .iconst 0, 1), (24, .dup2, 1), (25, .iaload, 1), (26, .iload_n 3, 1), (27, .isub, 1), (28, .iastore, 1), (29, .aload_n 0, 1), (30, .getfield 20, 3), (33, .iconst 0, 1), (34, .iaload, 1), (35, .ifCond .ne 7, 3), (38, .aload_n 0, 1), (39, .invokevirtual 69, 3), (42, .iload_n 3, 1), (43, .ireturn, 1)]
def pm_q131 : List (Nat × Instr × Nat) := [(0, .iconst 1, 1), (1, .istore_n 1, 1), (2, .iload_n 1, 1), (3, .aload_n 0, 1), (4, .getfield 27, 3), (7, .if_icmp .ge 23, 3), (10, .aload_n 0, 1), (11, .getfield 20, 3), (14, .iload_n 1, 1), (15, .iconst 1, 1), (16, .isub, 1), (17, .aload_n 0, 1), (18, .getfield 20, 3), (21, .iload_n 1, 1), (22, .iaload, 1), (23, .iastore, 1), (24, .iinc 1 1, 3), (27, .goto (-25), 3), (30, .aload_n 0, 1), (31, .dup, 1), (32, .getfield 27, 3), (35, .iconst 1, 1), (36, .isub, 1), (37, .putfield 27, 3), (40, .return_, 1)]
def pm_q132 : List (Nat × Instr × Nat) := [(0, .aload_n 2, 1), (1, .iconst 0, 1), (2, .aload_n 0, 1), (3, .iload_n 1, 1), (4, .invokevirtual 7, 3), (7, .i2l, 1), (8, .lastore, 1), (9, .goto 6, 3), (12, .astore_n 3, 1), (13, .iconst 1, 1), (14, .ireturn, 1), (15, .iconst 0, 1), (16, .ireturn, 1)]
def pm_q133 : List (Nat × Instr × Nat) := [(0, .aload_n 3, 1), (1, .iconst 0, 1), (2, .aload_n 0, 1), (3, .iload_n 1, 1), (4, .iload_n 2, 1), (5, .invokevirtual 15, 3), (8, .i2l, 1), (9, .lastore, 1), (10, .goto 7, 3), (13, .astore 4, 2), (15, .iconst 1, 1), (16, .ireturn, 1), (17, .iconst 0, 1), (18, .ireturn, 1)]
def pm_q134 : List (Nat × Instr × Nat) := [(0, .aload_n 2, 1), (1, .iconst 0, 1), (2, .aload_n 0, 1), (3, .iload_n 1, 1), (4, .invokevirtual 19, 3), (7, .i2l, 1), (8, .lastore, 1), (9, .goto 6, 3), (12, .astore_n 3, 1), (13, .iconst 1, 1), (14, .ireturn, 1), (15, .iconst 0, 1), (16, .ireturn, 1)]
def pm_q135 : List (Nat × Instr × Nat) := [(0, .aload 4, 2), (2, .iconst 0, 1), (3, .aload_n 0, 1), (4, .iload_n 1, 1), (5, .iload_n 2, 1), (6, .iload_n 3, 1), (7, .invokevirtual 22, 3), (10, .i2l, 1), (11, .lastore, 1), (12, .goto 7, 3), (15, .astore 5, 2), (17, .iconst 1, 1), (18, .ireturn, 1), (19, .iconst 0, 1), (20, .ireturn, 1)]
def pm_q136 : List (Nat × Instr × Nat) := [(0, .aload_n 3, 1), (1, .iconst 0, 1), (2, .aload_n 0, 1), (3, .iload_n 1, 1), (4, .iload_n 2, 1), (5, .invokevirtual 26, 3), (8, .i2l, 1), (9, .lastore, 1), (10, .goto 7, 3), (13, .astore 4, 2), (15, .iconst 1, 1), (16, .ireturn, 1), (17, .iconst 0, 1), (18, .ireturn, 1)]
def pm_q137 : List (Nat × Instr × Nat) := [(0, .aload 4, 2), (2, .iconst 0, 1), (3, .aload_n 0, 1), (4, .iload_n 1, 1), (5, .iload_n 2, 1), (6, .iload_n 3, 1), (7, .invokevirtual 29, 3), (10, .i2l, 1), (11, .lastore, 1), (12, .goto 11, 3), (15, .astore 5, 2), (17, .iconst 1, 1), (18, .ireturn, 1), (19, .astore 5, 2), (21, .iconst 2, 1), (22, .ireturn, 1), (23, .iconst 0, 1), (24, .ireturn, 1)]
def pm_q138 : List (Nat × Instr × Nat) := [(0, .aload 6, 2), (2, .iconst 0, 1), (3, .aload_n 0, 1), (4, .iload_n 1, 1), (5, .iload_n 2, 1), (6, .lload_n 3, 1), (7, .iload 5, 2), (9, .invokevirtual 34, 3), (12, .i2l, 1), (13, .lastore, 1), (14, .goto 11, 3), (17, .astore 7, 2), (19, .iconst 1, 1), (20, .ireturn, 1), (21, .astore 7, 2), (23, .iconst 2, 1), (24, .ireturn, 1), (25, .iconst 0, 1), (26, .ireturn, 1)]
def pm_q139 : List (Nat × Instr × Nat) := [(0, .aload_n 3, 1), (1, .iconst 0, 1), (2, .aload_n 0, 1), (3, .iload_n 1, 1), (4, .iload_n 2, 1), (5, .invokevirtual 38, 3), (8, .i2l, 1), (9, .lastore, 1), (10, .goto 7, 3), (13, .astore 4, 2), (15, .iconst 1, 1), (16, .ireturn, 1), (17, .iconst 0, 1), (18, .ireturn, 1)]
def pm_q140 : List (Nat × Instr × Nat) := [(0, .aload_n 2, 1), (1, .iconst 0, 1), (2, .aload_n 0, 1), (3, .iload_n 1, 1), (4, .invokevirtual 42, 3), (7, .i2l, 1), (8, .lastore, 1), (9, .goto 6, 3), (12, .astore_n 3, 1), (13, .iconst 1, 1), (14, .ireturn, 1), (15, .iconst 0, 1), (16, .ireturn, 1)]
def pm_q141 : List (Nat × Instr × Nat) := [(0, .aload 4, 2), (2, .iconst 0, 1), (3, .aload_n 0, 1), (4, .iload_n 1, 1), (5, .iload_n 2, 1), (6, .iload_n 3, 1), (7, .invokevirtual 45, 3), (10, .i2l, 1), (11, .lastore, 1), (12, .goto 11, 3), (15, .astore 5, 2), (17, .iconst 1, 1), (18, .ireturn, 1), (19, .astore 5, 2), (21, .iconst 2, 1), (22, .ireturn, 1), (23, .iconst 0, 1), (24, .ireturn, 1)]
def pm_q142 : List (Nat × Instr × Nat) := [(0, .aload 4, 2), (2, .iconst 0, 1), (3, .aload_n 0, 1), (4, .iload_n 1, 1), (5, .iload_n 2, 1), (6, .iload_n 3, 1), (7, .invokevirtual 48, 3), (10, .i2l, 1), (11, .lastore, 1), (12, .goto 11, 3), (15, .astore 5, 2), (17, .iconst 1, 1), (18, .ireturn, 1), (19, .astore 5, 2), (21, .iconst 2, 1), (22, .ireturn, 1), (23, .iconst 0, 1), (24, .ireturn, 1)]
def pm_q143 : List (Nat × Instr × Nat) := [(0, .aload_n 3, 1), (1, .iconst 0, 1), (2, .aload_n 0, 1), (3, .iload_n 1, 1), (4, .iload_n 2, 1), (5, .invokevirtual 51, 3), (8, .i2l, 1), (9, .lastore, 1), (10, .goto 7, 3), (13, .astore 4, 2), (15, .iconst 1, 1), (16, .ireturn, 1), (17, .iconst 0, 1), (18, .ireturn, 1)]
def pm_q144 : List (Nat × Instr × Nat) := [(0, .aload 4, 2), (2, .iconst 0, 1), (3, .aload_n 0, 1), (4, .iload_n 1, 1), (5, .iload_n 2, 1), (6, .iload_n 3, 1), (7, .invokevirtual 54, 3), (10, .i2l, 1), (11, .lastore, 1), (12, .goto 7, 3), (15, .astore 5, 2), (17, .iconst 1, 1), (18, .ireturn, 1), (19, .iconst 0, 1), (20, .ireturn, 1)]
def pm_q145 : List (Nat × Instr × Nat) := [(0, .aload_n 3, 1), (1, .iconst 0, 1), (2, .aload_n 0, 1), (3, .iload_n 1, 1), (4, .iload_n 2, 1), (5, .invokevirtual 57, 3), (8, .i2l, 1), (9, .lastore, 1), (10, .goto 7, 3), (13, .astore 4, 2), (15, .iconst 1, 1), (16, .ireturn, 1), (17, .iconst 0, 1), (18, .ireturn, 1)]
def pm_q146_0 : List (Nat × Instr × Nat) := [(0, .new 8, 3), (3, .dup, 1), (4, .invokespecial 60, 3), (7, .astore_n 1, 1), (8, .new 61, 3), (11, .dup, 1), (12, .invokespecial 63, 3), (15, .astore_n 2, 1), (16, .iconst 1, 1), (17, .newarray .long, 2), (19, .astore_n 3, 1), (20, .iconst 0, 1), (21, .istore 4, 2), (23, .iload 4, 2), (25, .aload_n 0, 1), (26, .arraylength, 1), (27, .bipush 6, 2), (29, .isub, 1), (30, .if_icmp .gt 1315, 3), (33, .aload_n 0, 1), (34, .iload 4, 2), (36, .iaload, 1), (37, .bipush 31, 2), (39, .iand, 1), (40, .tableswitch 1299 0 18 #[92, 115, 171, 239, 295, 375, 443, 523, 647, 731, 787, 867, 947, 1015, 1095, 1163, 1200, 1237, 1274], 92), (132, .aload_n 1, 1), (133, .aload_n 0, 1), (134, .iload 4, 2), (136, .iconst 1, 1), (137, .iadd, 1), (138, .iaload, 1), (139, .invokevirtual 64, 3), (142, .aload_n 2, 1), (143, .aload_n 0, 1), (144, .iload 4, 2), (146, .iconst 1, 1), (147, .iadd, 1), (148, .iaload, 1), (149, .invokevirtual 68, 3), (152, .goto 1187, 3)]
def pm_q146_1 : List (Nat × Instr × Nat) := [(155, .aload_n 1, 1), (156, .aload_n 0, 1), (157, .iload 4, 2), (159, .iconst 1, 1), (160, .iadd, 1), (161, .iaload, 1), (162, .aload_n 3, 1), (163, .invokestatic 69, 3), (166, .istore 5, 2), (168, .aload_n 2, 1), (169, .aload_n 0, 1), (170, .iload 4, 2), (172, .iconst 1, 1), (173, .iadd, 1), (174, .iaload, 1), (175, .invokevirtual 74, 3), (178, .istore 6, 2), (180, .aload_n 2, 1), (181, .invokevirtual 75, 3), (184, .iload 5, 2), (186, .if_icmp .eq 5, 3), (189, .iconst 0, 1), (190, .ireturn, 1), (191, .iload 5, 2), (193, .ifCond .ne 15, 3), (196, .aload_n 3, 1), (197, .iconst 0, 1), (198, .laload, 1), (199, .iload 6, 2), (201, .i2l, 1), (202, .lcmp, 1), (203, .ifCond .eq 5, 3), (206, .iconst 0, 1), (207, .ireturn, 1), (208, .goto 1131, 3), (211, .aload_n 1, 1), (212, .aload_n 0, 1), (213, .iload 4, 2), (215, .iconst 1, 1), (216, .iadd, 1)]
def pm_q146_2 : List (Nat × Instr × Nat) := [(217, .iaload, 1), (218, .aload_n 0, 1), (219, .iload 4, 2), (221, .iconst 2, 1), (222, .iadd, 1), (223, .iaload, 1), (224, .aload_n 3, 1), (225, .invokestatic 79, 3), (228, .istore 5, 2), (230, .aload_n 2, 1), (231, .aload_n 0, 1), (232, .iload 4, 2), (234, .iconst 1, 1), (235, .iadd, 1), (236, .iaload, 1), (237, .aload_n 0, 1), (238, .iload 4, 2), (240, .iconst 2, 1), (241, .iadd, 1), (242, .iaload, 1), (243, .invokevirtual 82, 3), (246, .istore 6, 2), (248, .aload_n 2, 1), (249, .invokevirtual 75, 3), (252, .iload 5, 2), (254, .if_icmp .eq 5, 3), (257, .iconst 0, 1), (258, .ireturn, 1), (259, .iload 5, 2), (261, .ifCond .ne 15, 3), (264, .aload_n 3, 1), (265, .iconst 0, 1), (266, .laload, 1), (267, .iload 6, 2), (269, .i2l, 1), (270, .lcmp, 1), (271, .ifCond .eq 5, 3), (274, .iconst 0, 1), (275, .ireturn, 1), (276, .goto 1063, 3)]
def pm_q146_3 : List (Nat × Instr × Nat) := [(279, .aload_n 1, 1), (280, .aload_n 0, 1), (281, .iload 4, 2), (283, .iconst 1, 1), (284, .iadd, 1), (285, .iaload, 1), (286, .aload_n 3, 1), (287, .invokestatic 83, 3), (290, .istore 5, 2), (292, .aload_n 2, 1), (293, .aload_n 0, 1), (294, .iload 4, 2), (296, .iconst 1, 1), (297, .iadd, 1), (298, .iaload, 1), (299, .invokevirtual 85, 3), (302, .istore 6, 2), (304, .aload_n 2, 1), (305, .invokevirtual 75, 3), (308, .iload 5, 2), (310, .if_icmp .eq 5, 3), (313, .iconst 0, 1), (314, .ireturn, 1), (315, .iload 5, 2), (317, .ifCond .ne 15, 3), (320, .aload_n 3, 1), (321, .iconst 0, 1), (322, .laload, 1), (323, .iload 6, 2), (325, .i2l, 1), (326, .lcmp, 1), (327, .ifCond .eq 5, 3), (330, .iconst 0, 1), (331, .ireturn, 1), (332, .goto 1007, 3), (335, .aload_n 1, 1), (336, .aload_n 0, 1), (337, .iload 4, 2), (339, .iconst 1, 1), (340, .iadd, 1)]
def pm_q146_4 : List (Nat × Instr × Nat) := [(341, .iaload, 1), (342, .aload_n 0, 1), (343, .iload 4, 2), (345, .iconst 2, 1), (346, .iadd, 1), (347, .iaload, 1), (348, .aload_n 0, 1), (349, .iload 4, 2), (351, .iconst 3, 1), (352, .iadd, 1), (353, .iaload, 1), (354, .aload_n 3, 1), (355, .invokestatic 86, 3), (358, .istore 5, 2), (360, .aload_n 2, 1), (361, .aload_n 0, 1), (362, .iload 4, 2), (364, .iconst 1, 1), (365, .iadd, 1), (366, .iaload, 1), (367, .aload_n 0, 1), (368, .iload 4, 2), (370, .iconst 2, 1), (371, .iadd, 1), (372, .iaload, 1), (373, .aload_n 0, 1), (374, .iload 4, 2), (376, .iconst 3, 1), (377, .iadd, 1), (378, .iaload, 1), (379, .invokevirtual 89, 3), (382, .istore 6, 2), (384, .aload_n 2, 1), (385, .invokevirtual 75, 3), (388, .iload 5, 2), (390, .if_icmp .eq 5, 3), (393, .iconst 0, 1), (394, .ireturn, 1), (395, .iload 5, 2), (397, .ifCond .ne 15, 3)]
def pm_q146_5 : List (Nat × Instr × Nat) := [(400, .aload_n 3, 1), (401, .iconst 0, 1), (402, .laload, 1), (403, .iload 6, 2), (405, .i2l, 1), (406, .lcmp, 1), (407, .ifCond .eq 5, 3), (410, .iconst 0, 1), (411, .ireturn, 1), (412, .goto 927, 3), (415, .aload_n 1, 1), (416, .aload_n 0, 1), (417, .iload 4, 2), (419, .iconst 1, 1), (420, .iadd, 1), (421, .iaload, 1), (422, .aload_n 0, 1), (423, .iload 4, 2), (425, .iconst 2, 1), (426, .iadd, 1), (427, .iaload, 1), (428, .aload_n 3, 1), (429, .invokestatic 90, 3), (432, .istore 5, 2), (434, .aload_n 2, 1), (435, .aload_n 0, 1), (436, .iload 4, 2), (438, .iconst 1, 1), (439, .iadd, 1), (440, .iaload, 1), (441, .aload_n 0, 1), (442, .iload 4, 2), (444, .iconst 2, 1), (445, .iadd, 1), (446, .iaload, 1), (447, .invokevirtual 92, 3), (450, .istore 6, 2), (452, .aload_n 2, 1), (453, .invokevirtual 75, 3), (456, .iload 5, 2)]
def pm_q146_6 : List (Nat × Instr × Nat) := [(458, .if_icmp .eq 5, 3), (461, .iconst 0, 1), (462, .ireturn, 1), (463, .iload 5, 2), (465, .ifCond .ne 15, 3), (468, .aload_n 3, 1), (469, .iconst 0, 1), (470, .laload, 1), (471, .iload 6, 2), (473, .i2l, 1), (474, .lcmp, 1), (475, .ifCond .eq 5, 3), (478, .iconst 0, 1), (479, .ireturn, 1), (480, .goto 859, 3), (483, .aload_n 1, 1), (484, .aload_n 0, 1), (485, .iload 4, 2), (487, .iconst 1, 1), (488, .iadd, 1), (489, .iaload, 1), (490, .aload_n 0, 1), (491, .iload 4, 2), (493, .iconst 2, 1), (494, .iadd, 1), (495, .iaload, 1), (496, .aload_n 0, 1), (497, .iload 4, 2), (499, .iconst 3, 1), (500, .iadd, 1), (501, .iaload, 1), (502, .aload_n 3, 1), (503, .invokestatic 93, 3), (506, .istore 5, 2), (508, .aload_n 2, 1), (509, .aload_n 0, 1), (510, .iload 4, 2), (512, .iconst 1, 1), (513, .iadd, 1), (514, .iaload, 1)]
def pm_q146_7 : List (Nat × Instr × Nat) := [(515, .aload_n 0, 1), (516, .iload 4, 2), (518, .iconst 2, 1), (519, .iadd, 1), (520, .iaload, 1), (521, .aload_n 0, 1), (522, .iload 4, 2), (524, .iconst 3, 1), (525, .iadd, 1), (526, .iaload, 1), (527, .invokevirtual 95, 3), (530, .istore 6, 2), (532, .aload_n 2, 1), (533, .invokevirtual 75, 3), (536, .iload 5, 2), (538, .if_icmp .eq 5, 3), (541, .iconst 0, 1), (542, .ireturn, 1), (543, .iload 5, 2), (545, .ifCond .ne 15, 3), (548, .aload_n 3, 1), (549, .iconst 0, 1), (550, .laload, 1), (551, .iload 6, 2), (553, .i2l, 1), (554, .lcmp, 1), (555, .ifCond .eq 5, 3), (558, .iconst 0, 1), (559, .ireturn, 1), (560, .goto 779, 3), (563, .aload_n 1, 1), (564, .aload_n 0, 1), (565, .iload 4, 2), (567, .iconst 1, 1), (568, .iadd, 1), (569, .iaload, 1), (570, .aload_n 0, 1), (571, .iload 4, 2), (573, .iconst 2, 1), (574, .iadd, 1)]
def pm_q146_8 : List (Nat × Instr × Nat) := [(575, .iaload, 1), (576, .aload_n 0, 1), (577, .iload 4, 2), (579, .iconst 3, 1), (580, .iadd, 1), (581, .iaload, 1), (582, .i2l, 1), (583, .bipush 32, 2), (585, .lshl, 1), (586, .aload_n 0, 1), (587, .iload 4, 2), (589, .iconst 4, 1), (590, .iadd, 1), (591, .iaload, 1), (592, .i2l, 1), (593, .ldc2_w 96, 3), (596, .land, 1), (597, .lor, 1), (598, .aload_n 0, 1), (599, .iload 4, 2), (601, .iconst 5, 1), (602, .iadd, 1), (603, .iaload, 1), (604, .aload_n 3, 1), (605, .invokestatic 98, 3), (608, .istore 5, 2), (610, .aload_n 2, 1), (611, .aload_n 0, 1), (612, .iload 4, 2), (614, .iconst 1, 1), (615, .iadd, 1), (616, .iaload, 1), (617, .aload_n 0, 1), (618, .iload 4, 2), (620, .iconst 2, 1), (621, .iadd, 1), (622, .iaload, 1), (623, .aload_n 0, 1), (624, .iload 4, 2), (626, .iconst 3, 1)]
def pm_q146_9 : List (Nat × Instr × Nat) := [(627, .iadd, 1), (628, .iaload, 1), (629, .i2l, 1), (630, .bipush 32, 2), (632, .lshl, 1), (633, .aload_n 0, 1), (634, .iload 4, 2), (636, .iconst 4, 1), (637, .iadd, 1), (638, .iaload, 1), (639, .i2l, 1), (640, .ldc2_w 96, 3), (643, .land, 1), (644, .lor, 1), (645, .aload_n 0, 1), (646, .iload 4, 2), (648, .iconst 5, 1), (649, .iadd, 1), (650, .iaload, 1), (651, .invokevirtual 101, 3), (654, .istore 6, 2), (656, .aload_n 2, 1), (657, .invokevirtual 75, 3), (660, .iload 5, 2), (662, .if_icmp .eq 5, 3), (665, .iconst 0, 1), (666, .ireturn, 1), (667, .iload 5, 2), (669, .ifCond .ne 15, 3), (672, .aload_n 3, 1), (673, .iconst 0, 1), (674, .laload, 1), (675, .iload 6, 2), (677, .i2l, 1), (678, .lcmp, 1), (679, .ifCond .eq 5, 3), (682, .iconst 0, 1), (683, .ireturn, 1), (684, .goto 655, 3), (687, .aload_n 1, 1)]
def pm_q146_10 : List (Nat × Instr × Nat) := [(688, .aload_n 0, 1), (689, .iload 4, 2), (691, .iconst 1, 1), (692, .iadd, 1), (693, .iaload, 1), (694, .aload_n 0, 1), (695, .iload 4, 2), (697, .iconst 2, 1), (698, .iadd, 1), (699, .iaload, 1), (700, .ifCond .eq 7, 3), (703, .iconst 1, 1), (704, .goto 4, 3), (707, .iconst 0, 1), (708, .aload_n 3, 1), (709, .invokestatic 102, 3), (712, .istore 5, 2), (714, .aload_n 2, 1), (715, .aload_n 0, 1), (716, .iload 4, 2), (718, .iconst 1, 1), (719, .iadd, 1), (720, .iaload, 1), (721, .aload_n 0, 1), (722, .iload 4, 2), (724, .iconst 2, 1), (725, .iadd, 1), (726, .iaload, 1), (727, .ifCond .eq 7, 3), (730, .iconst 1, 1), (731, .goto 4, 3), (734, .iconst 0, 1), (735, .invokevirtual 105, 3), (738, .istore 6, 2), (740, .aload_n 2, 1), (741, .invokevirtual 75, 3), (744, .iload 5, 2), (746, .if_icmp .eq 5, 3), (749, .iconst 0, 1), (750, .ireturn, 1)]
def pm_q146_11 : List (Nat × Instr × Nat) := [(751, .iload 5, 2), (753, .ifCond .ne 15, 3), (756, .aload_n 3, 1), (757, .iconst 0, 1), (758, .laload, 1), (759, .iload 6, 2), (761, .i2l, 1), (762, .lcmp, 1), (763, .ifCond .eq 5, 3), (766, .iconst 0, 1), (767, .ireturn, 1), (768, .goto 571, 3), (771, .aload_n 1, 1), (772, .aload_n 0, 1), (773, .iload 4, 2), (775, .iconst 1, 1), (776, .iadd, 1), (777, .iaload, 1), (778, .aload_n 3, 1), (779, .invokestatic 106, 3), (782, .istore 5, 2), (784, .aload_n 2, 1), (785, .aload_n 0, 1), (786, .iload 4, 2), (788, .iconst 1, 1), (789, .iadd, 1), (790, .iaload, 1), (791, .invokevirtual 108, 3), (794, .istore 6, 2), (796, .aload_n 2, 1), (797, .invokevirtual 75, 3), (800, .iload 5, 2), (802, .if_icmp .eq 5, 3), (805, .iconst 0, 1), (806, .ireturn, 1), (807, .iload 5, 2), (809, .ifCond .ne 15, 3), (812, .aload_n 3, 1), (813, .iconst 0, 1), (814, .laload, 1)]
def pm_q146_12 : List (Nat × Instr × Nat) := [(815, .iload 6, 2), (817, .i2l, 1), (818, .lcmp, 1), (819, .ifCond .eq 5, 3), (822, .iconst 0, 1), (823, .ireturn, 1), (824, .goto 515, 3), (827, .aload_n 1, 1), (828, .aload_n 0, 1), (829, .iload 4, 2), (831, .iconst 1, 1), (832, .iadd, 1), (833, .iaload, 1), (834, .aload_n 0, 1), (835, .iload 4, 2), (837, .iconst 2, 1), (838, .iadd, 1), (839, .iaload, 1), (840, .aload_n 0, 1), (841, .iload 4, 2), (843, .iconst 3, 1), (844, .iadd, 1), (845, .iaload, 1), (846, .aload_n 3, 1), (847, .invokestatic 109, 3), (850, .istore 5, 2), (852, .aload_n 2, 1), (853, .aload_n 0, 1), (854, .iload 4, 2), (856, .iconst 1, 1), (857, .iadd, 1), (858, .iaload, 1), (859, .aload_n 0, 1), (860, .iload 4, 2), (862, .iconst 2, 1), (863, .iadd, 1), (864, .iaload, 1), (865, .aload_n 0, 1), (866, .iload 4, 2), (868, .iconst 3, 1)]
def pm_q146_13 : List (Nat × Instr × Nat) := [(869, .iadd, 1), (870, .iaload, 1), (871, .invokevirtual 111, 3), (874, .istore 6, 2), (876, .aload_n 2, 1), (877, .invokevirtual 75, 3), (880, .iload 5, 2), (882, .if_icmp .eq 5, 3), (885, .iconst 0, 1), (886, .ireturn, 1), (887, .iload 5, 2), (889, .ifCond .ne 15, 3), (892, .aload_n 3, 1), (893, .iconst 0, 1), (894, .laload, 1), (895, .iload 6, 2), (897, .i2l, 1), (898, .lcmp, 1), (899, .ifCond .eq 5, 3), (902, .iconst 0, 1), (903, .ireturn, 1), (904, .goto 435, 3), (907, .aload_n 1, 1), (908, .aload_n 0, 1), (909, .iload 4, 2), (911, .iconst 1, 1), (912, .iadd, 1), (913, .iaload, 1), (914, .aload_n 0, 1), (915, .iload 4, 2), (917, .iconst 2, 1), (918, .iadd, 1), (919, .iaload, 1), (920, .aload_n 0, 1), (921, .iload 4, 2), (923, .iconst 3, 1), (924, .iadd, 1), (925, .iaload, 1), (926, .aload_n 3, 1), (927, .invokestatic 112, 3)]
def pm_q146_14 : List (Nat × Instr × Nat) := [(930, .istore 5, 2), (932, .aload_n 2, 1), (933, .aload_n 0, 1), (934, .iload 4, 2), (936, .iconst 1, 1), (937, .iadd, 1), (938, .iaload, 1), (939, .aload_n 0, 1), (940, .iload 4, 2), (942, .iconst 2, 1), (943, .iadd, 1), (944, .iaload, 1), (945, .aload_n 0, 1), (946, .iload 4, 2), (948, .iconst 3, 1), (949, .iadd, 1), (950, .iaload, 1), (951, .invokevirtual 114, 3), (954, .istore 6, 2), (956, .aload_n 2, 1), (957, .invokevirtual 75, 3), (960, .iload 5, 2), (962, .if_icmp .eq 5, 3), (965, .iconst 0, 1), (966, .ireturn, 1), (967, .iload 5, 2), (969, .ifCond .ne 15, 3), (972, .aload_n 3, 1), (973, .iconst 0, 1), (974, .laload, 1), (975, .iload 6, 2), (977, .i2l, 1), (978, .lcmp, 1), (979, .ifCond .eq 5, 3), (982, .iconst 0, 1), (983, .ireturn, 1), (984, .goto 355, 3), (987, .aload_n 1, 1), (988, .aload_n 0, 1), (989, .iload 4, 2)]
def pm_q146_15 : List (Nat × Instr × Nat) := [(991, .iconst 1, 1), (992, .iadd, 1), (993, .iaload, 1), (994, .aload_n 0, 1), (995, .iload 4, 2), (997, .iconst 2, 1), (998, .iadd, 1), (999, .iaload, 1), (1000, .aload_n 3, 1), (1001, .invokestatic 115, 3), (1004, .istore 5, 2), (1006, .aload_n 2, 1), (1007, .aload_n 0, 1), (1008, .iload 4, 2), (1010, .iconst 1, 1), (1011, .iadd, 1), (1012, .iaload, 1), (1013, .aload_n 0, 1), (1014, .iload 4, 2), (1016, .iconst 2, 1), (1017, .iadd, 1), (1018, .iaload, 1), (1019, .invokevirtual 117, 3), (1022, .istore 6, 2), (1024, .aload_n 2, 1), (1025, .invokevirtual 75, 3), (1028, .iload 5, 2), (1030, .if_icmp .eq 5, 3), (1033, .iconst 0, 1), (1034, .ireturn, 1), (1035, .iload 5, 2), (1037, .ifCond .ne 15, 3), (1040, .aload_n 3, 1), (1041, .iconst 0, 1), (1042, .laload, 1), (1043, .iload 6, 2), (1045, .i2l, 1), (1046, .lcmp, 1), (1047, .ifCond .eq 5, 3), (1050, .iconst 0, 1)]
def pm_q146_16 : List (Nat × Instr × Nat) := [(1051, .ireturn, 1), (1052, .goto 287, 3), (1055, .aload_n 1, 1), (1056, .aload_n 0, 1), (1057, .iload 4, 2), (1059, .iconst 1, 1), (1060, .iadd, 1), (1061, .iaload, 1), (1062, .aload_n 0, 1), (1063, .iload 4, 2), (1065, .iconst 2, 1), (1066, .iadd, 1), (1067, .iaload, 1), (1068, .aload_n 0, 1), (1069, .iload 4, 2), (1071, .iconst 3, 1), (1072, .iadd, 1), (1073, .iaload, 1), (1074, .aload_n 3, 1), (1075, .invokestatic 118, 3), (1078, .istore 5, 2), (1080, .aload_n 2, 1), (1081, .aload_n 0, 1), (1082, .iload 4, 2), (1084, .iconst 1, 1), (1085, .iadd, 1), (1086, .iaload, 1), (1087, .aload_n 0, 1), (1088, .iload 4, 2), (1090, .iconst 2, 1), (1091, .iadd, 1), (1092, .iaload, 1), (1093, .aload_n 0, 1), (1094, .iload 4, 2), (1096, .iconst 3, 1), (1097, .iadd, 1), (1098, .iaload, 1), (1099, .invokevirtual 120, 3), (1102, .istore 6, 2), (1104, .aload_n 2, 1)]
def pm_q146_17 : List (Nat × Instr × Nat) := [(1105, .invokevirtual 75, 3), (1108, .iload 5, 2), (1110, .if_icmp .eq 5, 3), (1113, .iconst 0, 1), (1114, .ireturn, 1), (1115, .iload 5, 2), (1117, .ifCond .ne 15, 3), (1120, .aload_n 3, 1), (1121, .iconst 0, 1), (1122, .laload, 1), (1123, .iload 6, 2), (1125, .i2l, 1), (1126, .lcmp, 1), (1127, .ifCond .eq 5, 3), (1130, .iconst 0, 1), (1131, .ireturn, 1), (1132, .goto 207, 3), (1135, .aload_n 1, 1), (1136, .aload_n 0, 1), (1137, .iload 4, 2), (1139, .iconst 1, 1), (1140, .iadd, 1), (1141, .iaload, 1), (1142, .aload_n 0, 1), (1143, .iload 4, 2), (1145, .iconst 2, 1), (1146, .iadd, 1), (1147, .iaload, 1), (1148, .aload_n 3, 1), (1149, .invokestatic 121, 3), (1152, .istore 5, 2), (1154, .aload_n 2, 1), (1155, .aload_n 0, 1), (1156, .iload 4, 2), (1158, .iconst 1, 1), (1159, .iadd, 1), (1160, .iaload, 1), (1161, .aload_n 0, 1), (1162, .iload 4, 2), (1164, .iconst 2, 1)]
def pm_q146_18 : List (Nat × Instr × Nat) := [(1165, .iadd, 1), (1166, .iaload, 1), (1167, .invokevirtual 123, 3), (1170, .istore 6, 2), (1172, .aload_n 2, 1), (1173, .invokevirtual 75, 3), (1176, .iload 5, 2), (1178, .if_icmp .eq 5, 3), (1181, .iconst 0, 1), (1182, .ireturn, 1), (1183, .iload 5, 2), (1185, .ifCond .ne 15, 3), (1188, .aload_n 3, 1), (1189, .iconst 0, 1), (1190, .laload, 1), (1191, .iload 6, 2), (1193, .i2l, 1), (1194, .lcmp, 1), (1195, .ifCond .eq 5, 3), (1198, .iconst 0, 1), (1199, .ireturn, 1), (1200, .goto 139, 3), (1203, .aload_n 1, 1), (1204, .aload_n 0, 1), (1205, .iload 4, 2), (1207, .iconst 1, 1), (1208, .iadd, 1), (1209, .iaload, 1), (1210, .aload_n 0, 1), (1211, .iload 4, 2), (1213, .iconst 2, 1), (1214, .iadd, 1), (1215, .iaload, 1), (1216, .invokevirtual 124, 3), (1219, .aload_n 2, 1), (1220, .aload_n 0, 1), (1221, .iload 4, 2), (1223, .iconst 1, 1), (1224, .iadd, 1), (1225, .iaload, 1)]
def pm_q146_19 : List (Nat × Instr × Nat) := [(1226, .aload_n 0, 1), (1227, .iload 4, 2), (1229, .iconst 2, 1), (1230, .iadd, 1), (1231, .iaload, 1), (1232, .invokevirtual 127, 3), (1235, .if_icmp .eq 104, 3), (1238, .iconst 0, 1), (1239, .ireturn, 1), (1240, .aload_n 1, 1), (1241, .aload_n 0, 1), (1242, .iload 4, 2), (1244, .iconst 1, 1), (1245, .iadd, 1), (1246, .iaload, 1), (1247, .aload_n 0, 1), (1248, .iload 4, 2), (1250, .iconst 2, 1), (1251, .iadd, 1), (1252, .iaload, 1), (1253, .invokevirtual 128, 3), (1256, .aload_n 2, 1), (1257, .aload_n 0, 1), (1258, .iload 4, 2), (1260, .iconst 1, 1), (1261, .iadd, 1), (1262, .iaload, 1), (1263, .aload_n 0, 1), (1264, .iload 4, 2), (1266, .iconst 2, 1), (1267, .iadd, 1), (1268, .iaload, 1), (1269, .invokevirtual 131, 3), (1272, .if_icmp .eq 67, 3), (1275, .iconst 0, 1), (1276, .ireturn, 1), (1277, .aload_n 1, 1), (1278, .aload_n 0, 1), (1279, .iload 4, 2), (1281, .iconst 1, 1)]
def pm_q146_20 : List (Nat × Instr × Nat) := [(1282, .iadd, 1), (1283, .iaload, 1), (1284, .aload_n 0, 1), (1285, .iload 4, 2), (1287, .iconst 2, 1), (1288, .iadd, 1), (1289, .iaload, 1), (1290, .invokevirtual 132, 3), (1293, .aload_n 2, 1), (1294, .aload_n 0, 1), (1295, .iload 4, 2), (1297, .iconst 1, 1), (1298, .iadd, 1), (1299, .iaload, 1), (1300, .aload_n 0, 1), (1301, .iload 4, 2), (1303, .iconst 2, 1), (1304, .iadd, 1), (1305, .iaload, 1), (1306, .invokevirtual 135, 3), (1309, .if_icmp .eq 30, 3), (1312, .iconst 0, 1), (1313, .ireturn, 1), (1314, .aload_n 1, 1), (1315, .aload_n 0, 1), (1316, .iload 4, 2), (1318, .iconst 1, 1), (1319, .iadd, 1), (1320, .iaload, 1), (1321, .invokevirtual 136, 3), (1324, .aload_n 2, 1), (1325, .aload_n 0, 1), (1326, .iload 4, 2), (1328, .iconst 1, 1), (1329, .iadd, 1), (1330, .iaload, 1), (1331, .invokevirtual 139, 3), (1334, .if_icmp .eq 5, 3), (1337, .iconst 0, 1), (1338, .ireturn, 1)]
def pm_q146_21 : List (Nat × Instr × Nat) := [(1339, .iinc 4 6, 3), (1342, .goto (-1319), 3), (1345, .iconst 1, 1), (1346, .ireturn, 1)]
def pm_q146 : List (Nat × Instr × Nat) := pm_q146_0 ++ (pm_q146_1 ++ (pm_q146_2 ++ (pm_q146_3 ++ (pm_q146_4 ++ (pm_q146_5 ++ (pm_q146_6 ++ (pm_q146_7 ++ (pm_q146_8 ++ (pm_q146_9 ++ (pm_q146_10 ++ (pm_q146_11 ++ (pm_q146_12 ++ (pm_q146_13 ++ (pm_q146_14 ++ (pm_q146_15 ++ (pm_q146_16 ++ (pm_q146_17 ++ (pm_q146_18 ++ (pm_q146_19 ++ (pm_q146_20 ++ (pm_q146_21)))))))))))))))))))))
def pm_ll_0 : List (List (Nat × Instr × Nat)) := [pm_q0, pm_q1, pm_q2, pm_q3, pm_q4, pm_q5, pm_q6, pm_q7, pm_q8, pm_q9, pm_q10, pm_q11, pm_q12, pm_q13, pm_q14, pm_q15, pm_q16, pm_q17, pm_q18, pm_q19, pm_q20, pm_q21, pm_q22, pm_q23, pm_q24, pm_q25, pm_q26, pm_q27, pm_q28, pm_q29, pm_q30, pm_q31, pm_q32, pm_q33, pm_q34, pm_q35, pm_q36, pm_q37, pm_q38, pm_q39]
def pm_ll_1 : List (List (Nat × Instr × Nat)) := [pm_q40, pm_q41, pm_q42, pm_q43, pm_q44, pm_q45, pm_q46, pm_q47, pm_q48, pm_q49, pm_q50, pm_q51, pm_q52, pm_q53, pm_q54, pm_q55, pm_q56, pm_q57, pm_q58, pm_q59, pm_q60, pm_q61, pm_q62, pm_q63, pm_q64, pm_q65, pm_q66, pm_q67, pm_q68, pm_q69, pm_q70, pm_q71, pm_q72, pm_q73, pm_q74, pm_q75, pm_q76, pm_q77, pm_q78, pm_q79]
def pm_ll_2 : List (List (Nat × Instr × Nat)) := [pm_q80, pm_q81, pm_q82, pm_q83, pm_q84, pm_q85, pm_q86, pm_q87, pm_q88, pm_q89, pm_q90, pm_q91, pm_q92, pm_q93, pm_q94, pm_q95, pm_q96, pm_q97, pm_q98, pm_q99, pm_q100, pm_q101, pm_q102, pm_q103, pm_q104, pm_q105, pm_q106, pm_q107, pm_q108, pm_q109, pm_q110, pm_q111, pm_q112, pm_q113, pm_q114, pm_q115, pm_q116, pm_q117, pm_q118, pm_q119]
def pm_ll_3 : List (List (Nat × Instr × Nat)) := [pm_q120, pm_q121, pm_q122, pm_q123, pm_q124, pm_q125, pm_q126, pm_q127, pm_q128, pm_q129, pm_q130, pm_q131, pm_q132, pm_q133, pm_q134, pm_q135, pm_q136, pm_q137, pm_q138, pm_q139, pm_q140, pm_q141, pm_q142, pm_q143, pm_q144, pm_q145, pm_q146]
def pm_ll : List (List (Nat × Instr × Nat)) := pm_ll_0 ++ (pm_ll_1 ++ (pm_ll_2 ++ (pm_ll_3)))
def pm_list (mi : Nat) : List (Nat × Instr × Nat) := pm_ll.getD mi []
def pm_tbl (mi pc : Nat) : Option (Instr × Nat) := pm_fi pc (pm_list mi)
end
section
/-! the places of the words in lw_tbl: printed by program -/
def pm_fps_0 : List Nat := [235, 236, 237, 238, 182, 172, 114, 170, 98, 180, 145, 152, 174, 188, 184, 186, 190, 192, 194, 196, 198, 176, 178, 106, 111, 116, 109, 200, 155, 147, 149, 171, 173, 175, 177, 179, 181, 183, 185, 187]
def pm_fps_1 : List Nat := [189, 191, 193, 195, 197, 199, 169, 144, 154, 143, 146, 148, 150, 151, 153, 96, 95, 105, 107, 108, 110, 112, 113, 115, 97, 663, 664, 665, 666, 667, 668, 669, 670, 671, 672, 673, 674, 675, 676, 677]
def pm_fps_2 : List Nat := [678, 679, 680, 681, 683, 684, 685, 686, 691, 692, 693, 662, 687, 688, 690, 682, 689]
def pm_fps : List Nat := pm_fps_0 ++ (pm_fps_1 ++ (pm_fps_2))
def pm_mps_0 : List Nat := [76, 85, 133, 234, 252, 256, 317, 344, 452, 518, 280, 260, 536, 540, 360, 566, 418, 584, 588, 304, 292, 264, 645, 414, 429, 436, 284, 382, 440, 268, 296, 305, 313, 288, 352, 592, 348, 405, 409, 356]
def pm_mps_1 : List Nat := [387, 401, 364, 386, 368, 369, 391, 395, 399, 400, 136, 139, 300, 272, 276, 309, 142, 94, 377, 88, 91, 321, 324, 328, 332, 336, 340, 373, 378, 661, 841, 897, 773, 793, 789, 785, 781, 805, 809, 801]
def pm_mps_2 : List Nat := [797, 777, 837, 845, 857, 861, 865, 869, 833, 769, 849, 853, 829, 817, 813, 821, 825, 885, 881, 877, 905, 917, 921, 941, 965, 980, 448, 525, 532, 547, 554, 562, 599, 606, 613, 620, 627, 634, 641, 652]
def pm_mps_3 : List Nat := [73, 658, 248, 765, 444, 873, 761, 522, 889, 529, 893, 544, 901, 551, 909, 558, 913, 596, 925, 603, 929, 610, 933, 617, 937, 624, 945, 631, 949, 638, 953, 649, 957, 410, 961, 421, 968, 425, 972, 432]
def pm_mps_4 : List Nat := [976]
def pm_mps : List Nat := pm_mps_0 ++ (pm_mps_1 ++ (pm_mps_2 ++ (pm_mps_3 ++ (pm_mps_4))))
def pm_mws_0 : List (Nat × Nat × Nat × Nat) := [(75, 59, 74, 0), (251, 59, 249, 250), (451, 59, 449, 450), (528, 59, 526, 527), (535, 59, 533, 534), (550, 59, 548, 549), (557, 59, 555, 556), (565, 59, 563, 564), (602, 59, 600, 601), (609, 59, 607, 608), (616, 59, 614, 615), (623, 59, 621, 622), (630, 59, 628, 629), (637, 59, 635, 636), (644, 59, 642, 643), (655, 59, 653, 654), (413, 59, 411, 412), (424, 59, 422, 423), (428, 59, 426, 427), (435, 59, 433, 434), (431, 59, 430, 0), (420, 59, 419, 0), (568, 59, 567, 0), (455, 59, 454, 18), (417, 59, 416, 15), (287, 59, 286, 3), (648, 59, 647, 22), (316, 59, 315, 5), (385, 59, 384, 11), (443, 59, 442, 17), (543, 59, 542, 20), (439, 59, 438, 16), (259, 59, 258, 0), (263, 59, 262, 1), (295, 59, 294, 4), (283, 59, 282, 2), (591, 59, 590, 21), (347, 59, 346, 6), (351, 59, 350, 7), (408, 59, 407, 14)]
def pm_mws_1 : List (Nat × Nat × Nat × Nat) := [(355, 59, 354, 8), (359, 59, 358, 9), (367, 59, 366, 10), (390, 59, 389, 12), (404, 59, 403, 13), (660, 64, 659, 0), (764, 64, 762, 763), (888, 64, 887, 51), (776, 64, 775, 24), (844, 64, 843, 41), (900, 64, 899, 52), (983, 64, 982, 57), (908, 64, 907, 53), (944, 64, 943, 56), (808, 64, 807, 32), (796, 64, 795, 29), (792, 64, 791, 28), (788, 64, 787, 27), (812, 64, 811, 33), (784, 64, 783, 26), (804, 64, 803, 31), (800, 64, 799, 30), (780, 64, 779, 25), (772, 64, 771, 23), (840, 64, 839, 40), (848, 64, 847, 42), (836, 64, 835, 39), (872, 64, 871, 48), (868, 64, 867, 47), (864, 64, 863, 46), (860, 64, 859, 45), (856, 64, 855, 44), (832, 64, 831, 38), (852, 64, 851, 43), (924, 64, 923, 55), (816, 64, 815, 34), (820, 64, 819, 35), (824, 64, 823, 36), (828, 64, 827, 37), (768, 64, 766, 767)]
def pm_mws_2 : List (Nat × Nat × Nat × Nat) := [(884, 64, 883, 50), (880, 64, 879, 49), (876, 64, 874, 875), (892, 64, 890, 891), (896, 64, 894, 895), (904, 64, 902, 903), (912, 64, 910, 911), (920, 64, 919, 54), (916, 64, 914, 915), (928, 64, 926, 927), (932, 64, 930, 931), (936, 64, 934, 935), (940, 64, 938, 939), (948, 64, 946, 947), (952, 64, 950, 951), (956, 64, 954, 955), (960, 64, 958, 959), (967, 64, 966, 0), (964, 64, 962, 963), (971, 64, 969, 970), (975, 64, 973, 974), (979, 64, 977, 978), (93, 61, 92, 0), (335, 61, 333, 334), (343, 61, 341, 342), (376, 61, 374, 375), (141, 63, 140, 0), (587, 63, 585, 586), (394, 63, 392, 393), (135, 62, 134, 0), (521, 62, 519, 520), (291, 62, 289, 290), (267, 62, 265, 266), (363, 62, 361, 362), (539, 62, 537, 538), (303, 62, 301, 302), (299, 62, 297, 298), (275, 62, 273, 274), (271, 62, 269, 270), (279, 62, 277, 278)]
def pm_mws_3 : List (Nat × Nat × Nat × Nat) := [(308, 62, 306, 307), (595, 62, 593, 594), (312, 62, 310, 311), (87, 60, 86, 0), (398, 60, 396, 397), (320, 60, 318, 319), (339, 60, 337, 338), (327, 60, 325, 326), (331, 60, 329, 330), (255, 60, 253, 254), (372, 60, 370, 371), (381, 60, 379, 380), (446, 58, 445, 0), (524, 58, 523, 0), (531, 58, 530, 0), (546, 58, 545, 0), (553, 58, 552, 0), (560, 58, 559, 0), (598, 58, 597, 0), (605, 58, 604, 0), (612, 58, 611, 0), (619, 58, 618, 0), (626, 58, 625, 0), (633, 58, 632, 0), (640, 58, 639, 0), (651, 58, 650, 0)]
def pm_mws : List (Nat × Nat × Nat × Nat) := pm_mws_0 ++ (pm_mws_1 ++ (pm_mws_2 ++ (pm_mws_3)))
def pm_np : Nat := 58
end
section
/-- how long an instruction is -/
def pm_len : Instr → Nat
  | .bipush _ => 2
  | .sipush _ => 3
  | .ldc2_w _ => 3
  | .iload _ => 2
  | .lload _ => 2
  | .aload _ => 2
  | .istore _ => 2
  | .lstore _ => 2
  | .astore _ => 2
  | .iinc _ _ => 3
  | .if_icmp _ _ => 3
  | .ifCond _ _ => 3
  | .ifnull _ => 3
  | .ifnonnull _ => 3
  | .goto _ => 3
  | .getfield _ => 3
  | .putfield _ => 3
  | .new _ => 3
  | .newarray _ => 2
  | .anewarray _ => 3
  | .invokestatic _ => 3
  | .invokevirtual _ => 3
  | .invokespecial _ => 3
  | _ => 1
/-! facts of the tables, decided -/
theorem pm_fi_mem {α : Type} {a : Nat} {v : α} : ∀ {l : List (Nat × α)}, pm_fi a l = some v → (a, v) ∈ l
  | [], h => by cases h
  | q :: r, h => by
    unfold pm_fi at h
    cases hq : (q.1 == a) with
    | true =>
      rw [hq, cond_true] at h
      cases h
      rw [beq_iff_eq] at hq
      rw [← hq]
      exact List.mem_cons_self
    | false =>
      rw [hq, cond_false] at h
      exact List.mem_cons_of_mem _ (pm_fi_mem h)
theorem pm_lk_mem {α : Type} {a b : Nat} {v : α} : ∀ {l : List (Nat × Nat × α)}, pm_lk a b l = some v → (a, b, v) ∈ l
  | [], h => by cases h
  | q :: r, h => by
    unfold pm_lk at h
    cases hq : (q.1 == a && q.2.1 == b) with
    | true =>
      rw [hq, cond_true] at h
      cases h
      rw [Bool.and_eq_true, beq_iff_eq, beq_iff_eq] at hq
      obtain ⟨rfl, rfl⟩ := hq
      exact List.mem_cons_self
    | false =>
      rw [hq, cond_false] at h
      exact List.mem_cons_of_mem _ (pm_lk_mem h)
theorem pm_plan_low : ∀ f, f < 61 → ∀ i, i < pm_cnt f → pm_pidx f i < pm_tot ∧ pm_plan (pm_pidx f i) = (f, i) := by decide +kernel
theorem pm_fam_low : ∀ q ∈ pm_fam, q.1 < 61 := by decide +kernel
theorem pm_plan_ok (f i : Nat) (h : i < pm_cnt f) (hf : f ≠ 99) : pm_pidx f i < pm_tot ∧ pm_plan (pm_pidx f i) = (f, i) := by
  refine pm_plan_low f ?_ i h
  unfold pm_cnt at h
  split at h
  · rename_i q hq
    exact pm_fam_low _ (pm_fi_mem hq)
  · rw [if_neg hf] at h
    cases h
theorem pm_pidx_plan : ∀ k, k < pm_tot → pm_pidx (pm_plan k).1 (pm_plan k).2 = k := by decide +kernel
def pm_isw : Instr → Bool
  | .tableswitch _ _ _ _ => true
  | _ => false
def pm_dok (b : ByteArray) (q : Nat × Instr × Nat) : Bool := decide (decode b q.1 = .ok q.2) && (pm_isw q.2.1 || q.2.2 == pm_len q.2.1)
theorem pm_d0 : ((pm_ll.zip pm_codes).take 45).all (fun p => p.1.all (pm_dok p.2)) = true := by decide +kernel
end
section
theorem pm_d1 : (((pm_ll.zip pm_codes).drop 45).take 37).all (fun p => p.1.all (pm_dok p.2)) = true := by decide +kernel
end
section
theorem pm_d2 : (((pm_ll.zip pm_codes).drop 82).take 64).all (fun p => p.1.all (pm_dok p.2)) = true := by decide +kernel
end
section
theorem pm_e0 : pm_q146_0.all (pm_dok code) = true := by decide +kernel
theorem pm_e1 : pm_q146_1.all (pm_dok code) = true := by decide +kernel
theorem pm_e2 : pm_q146_2.all (pm_dok code) = true := by decide +kernel
theorem pm_e3 : pm_q146_3.all (pm_dok code) = true := by decide +kernel
end
section
theorem pm_e4 : pm_q146_4.all (pm_dok code) = true := by decide +kernel
theorem pm_e5 : pm_q146_5.all (pm_dok code) = true := by decide +kernel
theorem pm_e6 : pm_q146_6.all (pm_dok code) = true := by decide +kernel
theorem pm_e7 : pm_q146_7.all (pm_dok code) = true := by decide +kernel
end
section
theorem pm_e8 : pm_q146_8.all (pm_dok code) = true := by decide +kernel
theorem pm_e9 : pm_q146_9.all (pm_dok code) = true := by decide +kernel
theorem pm_e10 : pm_q146_10.all (pm_dok code) = true := by decide +kernel
theorem pm_e11 : pm_q146_11.all (pm_dok code) = true := by decide +kernel
end
section
theorem pm_e12 : pm_q146_12.all (pm_dok code) = true := by decide +kernel
theorem pm_e13 : pm_q146_13.all (pm_dok code) = true := by decide +kernel
theorem pm_e14 : pm_q146_14.all (pm_dok code) = true := by decide +kernel
theorem pm_e15 : pm_q146_15.all (pm_dok code) = true := by decide +kernel
end
section
theorem pm_e16 : pm_q146_16.all (pm_dok code) = true := by decide +kernel
theorem pm_e17 : pm_q146_17.all (pm_dok code) = true := by decide +kernel
theorem pm_e18 : pm_q146_18.all (pm_dok code) = true := by decide +kernel
theorem pm_e19 : pm_q146_19.all (pm_dok code) = true := by decide +kernel
end
section
theorem pm_e20 : pm_q146_20.all (pm_dok code) = true := by decide +kernel
theorem pm_e21 : pm_q146_21.all (pm_dok code) = true := by decide +kernel
end
section
/-! the words: which of them stay true when the tables grow warm; where the program's rows lie among them -/
theorem pm_d3 : ((pm_ll.zip pm_codes).drop 146).all (fun p => p.1.all (pm_dok p.2)) = true := by
  have h : (pm_ll.zip pm_codes).drop 146 = [(pm_q146, code)] := rfl
  rw [h]
  show (pm_q146.all (pm_dok code) && true) = true
  rw [Bool.and_true]
  unfold pm_q146
  simp only [List.all_append, pm_e0, pm_e1, pm_e2, pm_e3, pm_e4, pm_e5, pm_e6, pm_e7, pm_e8, pm_e9, pm_e10, pm_e11, pm_e12, pm_e13, pm_e14, pm_e15, pm_e16, pm_e17, pm_e18, pm_e19, pm_e20, pm_e21, Bool.and_self]
theorem pm_dall : (pm_ll.zip pm_codes).all (fun p => p.1.all (pm_dok p.2)) = true := by
  have h : pm_ll.zip pm_codes = (pm_ll.zip pm_codes).take 45 ++ (((pm_ll.zip pm_codes).drop 45).take 37 ++ (((pm_ll.zip pm_codes).drop 82).take 64 ++ (pm_ll.zip pm_codes).drop 146)) := by
    have h1 : (pm_ll.zip pm_codes).drop 82 = ((pm_ll.zip pm_codes).drop 45).drop 37 := by rw [List.drop_drop]
    have h2 : (pm_ll.zip pm_codes).drop 146 = ((pm_ll.zip pm_codes).drop 82).drop 64 := by rw [List.drop_drop]
    rw [h2, List.take_append_drop, h1, List.take_append_drop, List.take_append_drop]
  rw [h, List.all_append, List.all_append, List.all_append, pm_d0, pm_d1, pm_d2, pm_d3]
  rfl
theorem pm_dec {mi pc n : Nat} {i : Instr} (h : pm_tbl mi pc = some (i, n)) : decode (pm_code mi) pc = .ok (i, n) ∧ (pm_isw i = true ∨ n = pm_len i) := by
  have hm := pm_fi_mem h
  by_cases hlt : mi < 147
  · have hz : (pm_ll.zip pm_codes)[mi]? = some (pm_list mi, pm_code mi) := by
      have hl1 : pm_ll.length = 147 := by decide +kernel
      have hl2 : pm_codes.length = 147 := by decide +kernel
      rw [List.getElem?_zip_eq_some]
      refine ⟨?_, ?_⟩
      · unfold pm_list
        rw [List.getD_eq_getElem?_getD, List.getElem?_eq_getElem (by omega)]; rfl
      · unfold pm_code
        rw [List.getD_eq_getElem?_getD, List.getElem?_eq_getElem (by omega)]; rfl
    have h1 := List.all_eq_true.mp pm_dall _ (List.mem_of_getElem? hz)
    have h2 := List.all_eq_true.mp h1 _ hm
    simp only [pm_dok, Bool.and_eq_true, Bool.or_eq_true, decide_eq_true_eq, beq_iff_eq] at h2
    exact h2
  · have hl1 : pm_ll.length = 147 := by decide +kernel
    have h0 : pm_list mi = [] := by
      unfold pm_list
      rw [List.getD_eq_getElem?_getD, List.getElem?_eq_none (by omega)]; rfl
    rw [h0] at hm
    cases hm
def pm_pc : Cond → Bool
  | .castable _ _ => true
  | .methodLinkNest _ _ _ _ => true
  | .arrayOver (.object _) => true
  | .declares _ => true
  | _ => false
def pm_pb (w : Cond) : Bool := goodWord w || pm_pc w
def pm_Tl : List Cond := lw_tbl.filter pm_pb
theorem pm_warm {w : Cond} (h : pm_pb w = true) {args a' : Array Value} {s U : State} (hW : s.WarmedH U.vm) (hb : w.before args s = true) : w.before a' U = true := by
  unfold pm_pb at h
  rw [Bool.or_eq_true] at h
  rcases h with h | h
  · exact word_at hW (good_of_word h) hb
  · match w, h, hb with
    | .methodLinkNest _ _ _ _, _, hb => exact va_Nw.use rfl (va_Nw.warmM hW (va_Nw.of rfl hb))
    | .castable _ _, _, hb =>
      simp only [Cond.before, Cond.holds, Cond.value, hW.alike.findClass, hW.alike.assignable] at hb ⊢
      exact hb
    | .declares y, _, hb =>
      have h1 : (Cond.declares y).before args (s.setVm U.vm) = true := by rw [Cond.declares_setVm hW.alike]; exact hb
      exact va_tabs rfl (rfl : (s.setVm U.vm).vm = U.vm) h1
    | .arrayOver (.object C), _, hb => exact va_AO.use (va_AO.moved hW.alike (va_AO.of hb))
end
section
/-! where the program's fields, classes and methods lie among the words -/
def pm_tb (w : Cond) : Bool := decide (w ∈ tables_1) && pm_pb w
theorem pm_in {w : Cond} (h : pm_tb w = true) : w ∈ pm_Tl := by
  unfold pm_tb at h
  rw [Bool.and_eq_true, decide_eq_true_eq] at h
  exact List.mem_filter.mpr ⟨List.mem_append_right _ h.1, h.2⟩
def pm_ti (i : Nat) (w : Cond) : Bool := decide (lw_tbl[i]? = some w) && pm_pb w
theorem pm_ini' {i : Nat} {w : Cond} (h : pm_ti i w = true) : w ∈ pm_Tl := by
  unfold pm_ti at h
  rw [Bool.and_eq_true, decide_eq_true_eq] at h
  exact List.mem_filter.mpr ⟨List.mem_of_getElem? h.1, h.2⟩
theorem pm_zip_all {α β : Type} {l : List α} {m : List β} {f : α × β → Bool} (h : (l.zip m).all f = true) (hl : l.length ≤ m.length) {a : α} (ha : a ∈ l) : ∃ b, f (a, b) = true := by
  obtain ⟨i, hi, rfl⟩ := List.getElem_of_mem ha
  refine ⟨m[i], List.all_eq_true.mp h _ ?_⟩
  refine List.mem_of_getElem? (i := i) ?_
  rw [List.getElem?_zip_eq_some]
  exact ⟨List.getElem?_eq_getElem hi, List.getElem?_eq_getElem (by omega)⟩
def pm_isr (t : FieldType) : Bool := match t with
  | .object _ => true
  | .array _ => true
  | _ => false
/-- the code of a field's type and the type -/
def pm_tok (t : Nat) (ty : FieldType) : Bool := (t == 0 && decide (ty = .int)) || (t == 1 && decide (ty = .long)) || (t == 3 && decide (ty = .boolean)) || (t == 2 && pm_isr ty)
def pm_fck (x : (Nat × Nat × Nat × Nat × Nat × Bool) × Nat) : Bool := match pm_K[x.1.2.2.1]? with
  | some (_, T, N) => decide (x.1.2.2.2.1 < N) && decide ((pm_cty x.1.2.2.1)[x.1.2.2.2.1]? = some x.1.2.2.2.2.1) && decide ((T x.1.2.2.2.1).2.2.2 = x.1.2.2.2.2.2) && pm_ti x.2 (Cond.fieldLink (pm_nm x.1.1) x.1.2.1 (T x.1.2.2.2.1).1 (T x.1.2.2.2.1).2.1 (T x.1.2.2.2.1).2.2.1)
  | none => false
theorem pm_fcks : (pm_flds.zip pm_fps).all pm_fck = true := by decide +kernel
theorem pm_fld_ok {o idx ci fk ty : Nat} {fin : Bool} (h : pm_fld o idx = some (ci, fk, ty, fin)) : ∃ (C : String) (T : u_T) (N : Nat), pm_K[ci]? = some (C, T, N) ∧ fk < N ∧ (pm_cty ci)[fk]? = some ty ∧ (T fk).2.2.2 = fin ∧ Cond.fieldLink (pm_nm o) idx (T fk).1 (T fk).2.1 (T fk).2.2.1 ∈ pm_Tl := by
  obtain ⟨b, h1⟩ := pm_zip_all pm_fcks (by decide +kernel) (pm_lk_mem h)
  unfold pm_fck at h1
  dsimp only at h1
  split at h1
  · rename_i C T N hK
    simp only [Bool.and_eq_true, decide_eq_true_eq] at h1
    exact ⟨C, T, N, hK, h1.1.1.1, h1.1.1.2, h1.1.2, pm_ini' h1.2⟩
  · cases h1
def pm_cck (ci : Nat) : Bool := match pm_K[ci]? with
  | some (C, T, N) => (u_ws C T N).all pm_tb && decide (∀ k, k < N → parseFieldDescriptor (T k).2.2.1 = some (pm_kt ci k)) && decide (∀ a, a < N → ∀ b, b < N → a ≠ b → (T a).2.1 ≠ (T b).2.1) && decide ((pm_cty ci).length = N) && decide (C = pm_nm ci) && decide (∀ k, k < N → (T k).1 = C ∧ pm_tok ((pm_cty ci).getD k 9) (pm_kt ci k) = true) && pm_tb (.instantiable C N) && pm_tb (.initialized C)
  | none => true
theorem pm_ccks : ∀ ci, ci < 6 → pm_cck ci = true := by decide +kernel
theorem pm_cl_ok {ci N : Nat} {C : String} {T : u_T} (h : pm_K[ci]? = some (C, T, N)) : (∀ w ∈ u_ws C T N, w ∈ pm_Tl) ∧ (∀ k, k < N → parseFieldDescriptor (T k).2.2.1 = some (pm_kt ci k)) ∧ (∀ a, a < N → ∀ b, b < N → a ≠ b → (T a).2.1 ≠ (T b).2.1) ∧ (pm_cty ci).length = N ∧ C = pm_nm ci ∧ (∀ k, k < N → (T k).1 = C ∧ pm_tok ((pm_cty ci).getD k 9) (pm_kt ci k) = true) ∧ Cond.instantiable C N ∈ pm_Tl ∧ Cond.initialized C ∈ pm_Tl := by
  have hl : ci < 6 := (List.getElem?_eq_some_iff.mp h).1
  have h1 := pm_ccks ci hl
  unfold pm_cck at h1
  rw [h] at h1
  simp only [Bool.and_eq_true, decide_eq_true_eq] at h1
  obtain ⟨⟨⟨⟨⟨⟨⟨a1, a2⟩, a3⟩, a4⟩, a5⟩, a6⟩, a7⟩, a8⟩ := h1
  exact ⟨fun w hw => pm_in (List.all_eq_true.mp a1 w hw), a2, a3, a4, a5, a6, pm_in a7, pm_in a8⟩
theorem pm_shps : pm_fam.all (fun q => q.2.2.1 != 0 || decide (q.2.2.2.2 = pm_cty q.2.2.2.1)) = true := by decide +kernel
theorem pm_shp_obj {ns f ci : Nat} {tys : List Nat} (h : pm_shp ns f = (0, ci, tys)) : f ≠ 99 ∧ tys = pm_cty ci := by
  unfold pm_shp at h
  split at h
  · rename_i q hq
    have h1 := pm_fi_mem hq
    have h2 := List.all_eq_true.mp pm_shps _ h1
    rw [h] at h2
    refine ⟨fun q9 => ?_, by simpa using h2⟩
    have := pm_fam_low _ h1
    simp [q9] at this
  · split at h <;> cases h
theorem pm_shp_99 {ns f : Nat} (h : f ≠ 99) (ns' : Nat) : pm_shp ns f = pm_shp ns' f := by
  unfold pm_shp
  split
  · rfl
  · rw [if_neg h, if_neg h]
/-- the word of a method's code -/
def pm_hw (mi : Nat) : Cond := match pm_hnr mi with
  | [] => .code (pm_y mi) (pm_code mi) (pm_maxL mi) (pm_rt mi)
  | hs => .codeWith (pm_y mi) (pm_code mi) (pm_maxL mi) (pm_rt mi) hs
/-- a link's row -/
def pm_lck (x : (Nat × Nat × Nat × Nat × Nat) × Nat) : Bool := match x.1.2.2.2.2 with
  | 3 => decide (x.1.2.2.2.1 = 1) && pm_ti x.2 (.methodLink (pm_nm x.1.1) x.1.2.1 Lib.objectInit)
  | 4 => decide (x.1.2.2.2.1 = 2) && pm_ti x.2 (.methodLink (pm_nm x.1.1) x.1.2.1 Lib.Math.min.name)
  | 5 => decide (x.1.2.2.1 < 146) && pm_ti x.2 (.methodLinkNest (pm_nm x.1.1) x.1.2.1 (pm_y x.1.2.2.1) "JobLayer")
  | _ => decide (x.1.2.2.1 < 146) && pm_ti x.2 (.methodLink (pm_nm x.1.1) x.1.2.1 (pm_y x.1.2.2.1))
theorem pm_lcks : (pm_mths.zip pm_mps).all pm_lck = true := by decide +kernel
/-- a method's row -/
def pm_mck (mi : Nat) : Bool := match pm_mws[mi]? with
  | some (_, b, _, _) => pm_ti b (.initialized (pm_y mi).cls) && decide ((pm_y mi).cls = pm_nm (pm_mcl mi)) && decide (plainName (pm_y mi).cls = true) && decide ((pm_y mi).cls ≠ "java/lang/invoke/MethodHandle") && decide ((pm_y mi).cls ≠ "java/lang/invoke/VarHandle")
  | none => false
theorem pm_mcks : ∀ mi, mi < 146 → pm_mck mi = true := by decide +kernel
/-- what a kind of call needs of its method -/
def pm_nck (q : Nat × Nat × Nat × Nat × Nat) : Bool := match pm_mws[q.2.2.1]? with
  | some (_, _, c, d) => decide ((parseMethodDescriptor (pm_y q.2.2.1).desc).map (fun z => z.parameters.length + (if q.2.2.2.2 = 0 then 0 else 1)) = some q.2.2.2.1) && (match q.2.2.2.2 with
      | 0 => pm_ti c (.static (pm_y q.2.2.1))
      | 1 => pm_ti c (.instanceMethod (pm_y q.2.2.1)) && pm_ti d (.selects (pm_y q.2.2.1).cls (pm_y q.2.2.1) (pm_y q.2.2.1)) && decide (pm_hnr q.2.2.1 = [])
      | _ => pm_ti c (.instanceMethod (pm_y q.2.2.1)) && decide ((pm_y q.2.2.1).name = "<init>") && decide (pm_hnr q.2.2.1 = []) && decide (pm_rt q.2.2.1 = none))
  | none => decide (q.2.2.2.2 = 3) || decide (q.2.2.2.2 = 4)
theorem pm_ncks : pm_mths.all pm_nck = true := by decide +kernel
theorem pm_oi : pm_tb (.instanceMethod Lib.objectInit) = true ∧ pm_tb (.code Lib.objectInit ⟨#[0xb1]⟩ 1 none) = true := by decide +kernel
theorem pm_mm : pm_tb (.static Lib.Math.min.name) = true ∧ pm_tb (.initialized "java/lang/Math") = true ∧ pm_tb (.code Lib.Math.min.name Lib.Math.min.code 2 (some .int)) = true := by decide +kernel
theorem pm_ar3 : pm_tb (.arrayClass .int) = true ∧ pm_tb (.arrayClass .boolean) = true ∧ pm_tb (.arrayClass .long) = true := by decide +kernel
end
section
set_option maxRecDepth 100000 in
theorem pm_cw0 : pm_hw 0 ∈ lw_tbl := List.mem_of_getElem? (i := 75) rfl
set_option maxRecDepth 100000 in
theorem pm_cw1 : pm_hw 1 ∈ lw_tbl := List.mem_of_getElem? (i := 251) rfl
set_option maxRecDepth 100000 in
theorem pm_cw2 : pm_hw 2 ∈ lw_tbl := List.mem_of_getElem? (i := 451) rfl
set_option maxRecDepth 100000 in
theorem pm_cw3 : pm_hw 3 ∈ lw_tbl := List.mem_of_getElem? (i := 528) rfl
set_option maxRecDepth 100000 in
theorem pm_cw4 : pm_hw 4 ∈ lw_tbl := List.mem_of_getElem? (i := 535) rfl
set_option maxRecDepth 100000 in
theorem pm_cw5 : pm_hw 5 ∈ lw_tbl := List.mem_of_getElem? (i := 550) rfl
set_option maxRecDepth 100000 in
theorem pm_cw6 : pm_hw 6 ∈ lw_tbl := List.mem_of_getElem? (i := 557) rfl
set_option maxRecDepth 100000 in
theorem pm_cw7 : pm_hw 7 ∈ lw_tbl := List.mem_of_getElem? (i := 565) rfl
set_option maxRecDepth 100000 in
theorem pm_cw8 : pm_hw 8 ∈ lw_tbl := List.mem_of_getElem? (i := 602) rfl
set_option maxRecDepth 100000 in
theorem pm_cw9 : pm_hw 9 ∈ lw_tbl := List.mem_of_getElem? (i := 609) rfl
set_option maxRecDepth 100000 in
theorem pm_cw10 : pm_hw 10 ∈ lw_tbl := List.mem_of_getElem? (i := 616) rfl
set_option maxRecDepth 100000 in
theorem pm_cw11 : pm_hw 11 ∈ lw_tbl := List.mem_of_getElem? (i := 623) rfl
set_option maxRecDepth 100000 in
theorem pm_cw12 : pm_hw 12 ∈ lw_tbl := List.mem_of_getElem? (i := 630) rfl
set_option maxRecDepth 100000 in
theorem pm_cw13 : pm_hw 13 ∈ lw_tbl := List.mem_of_getElem? (i := 637) rfl
set_option maxRecDepth 100000 in
theorem pm_cw14 : pm_hw 14 ∈ lw_tbl := List.mem_of_getElem? (i := 644) rfl
set_option maxRecDepth 100000 in
theorem pm_cw15 : pm_hw 15 ∈ lw_tbl := List.mem_of_getElem? (i := 655) rfl
set_option maxRecDepth 100000 in
theorem pm_cw16 : pm_hw 16 ∈ lw_tbl := List.mem_of_getElem? (i := 413) rfl
set_option maxRecDepth 100000 in
theorem pm_cw17 : pm_hw 17 ∈ lw_tbl := List.mem_of_getElem? (i := 424) rfl
set_option maxRecDepth 100000 in
theorem pm_cw18 : pm_hw 18 ∈ lw_tbl := List.mem_of_getElem? (i := 428) rfl
set_option maxRecDepth 100000 in
theorem pm_cw19 : pm_hw 19 ∈ lw_tbl := List.mem_of_getElem? (i := 435) rfl
set_option maxRecDepth 100000 in
theorem pm_cw20 : pm_hw 20 ∈ lw_tbl := List.mem_of_getElem? (i := 431) rfl
set_option maxRecDepth 100000 in
theorem pm_cw21 : pm_hw 21 ∈ lw_tbl := List.mem_of_getElem? (i := 420) rfl
set_option maxRecDepth 100000 in
theorem pm_cw22 : pm_hw 22 ∈ lw_tbl := List.mem_of_getElem? (i := 568) rfl
set_option maxRecDepth 100000 in
theorem pm_cw23 : pm_hw 23 ∈ lw_tbl := List.mem_of_getElem? (i := 455) rfl
set_option maxRecDepth 100000 in
theorem pm_cw24 : pm_hw 24 ∈ lw_tbl := List.mem_of_getElem? (i := 417) rfl
set_option maxRecDepth 100000 in
theorem pm_cw25 : pm_hw 25 ∈ lw_tbl := List.mem_of_getElem? (i := 287) rfl
set_option maxRecDepth 100000 in
theorem pm_cw26 : pm_hw 26 ∈ lw_tbl := List.mem_of_getElem? (i := 648) rfl
set_option maxRecDepth 100000 in
theorem pm_cw27 : pm_hw 27 ∈ lw_tbl := List.mem_of_getElem? (i := 316) rfl
set_option maxRecDepth 100000 in
theorem pm_cw28 : pm_hw 28 ∈ lw_tbl := List.mem_of_getElem? (i := 385) rfl
set_option maxRecDepth 100000 in
theorem pm_cw29 : pm_hw 29 ∈ lw_tbl := List.mem_of_getElem? (i := 443) rfl
set_option maxRecDepth 100000 in
theorem pm_cw30 : pm_hw 30 ∈ lw_tbl := List.mem_of_getElem? (i := 543) rfl
set_option maxRecDepth 100000 in
theorem pm_cw31 : pm_hw 31 ∈ lw_tbl := List.mem_of_getElem? (i := 439) rfl
set_option maxRecDepth 100000 in
theorem pm_cw32 : pm_hw 32 ∈ lw_tbl := List.mem_of_getElem? (i := 259) rfl
set_option maxRecDepth 100000 in
theorem pm_cw33 : pm_hw 33 ∈ lw_tbl := List.mem_of_getElem? (i := 263) rfl
set_option maxRecDepth 100000 in
theorem pm_cw34 : pm_hw 34 ∈ lw_tbl := List.mem_of_getElem? (i := 295) rfl
set_option maxRecDepth 100000 in
theorem pm_cw35 : pm_hw 35 ∈ lw_tbl := List.mem_of_getElem? (i := 283) rfl
set_option maxRecDepth 100000 in
theorem pm_cw36 : pm_hw 36 ∈ lw_tbl := List.mem_of_getElem? (i := 591) rfl
set_option maxRecDepth 100000 in
theorem pm_cw37 : pm_hw 37 ∈ lw_tbl := List.mem_of_getElem? (i := 347) rfl
set_option maxRecDepth 100000 in
theorem pm_cw38 : pm_hw 38 ∈ lw_tbl := List.mem_of_getElem? (i := 351) rfl
set_option maxRecDepth 100000 in
theorem pm_cw39 : pm_hw 39 ∈ lw_tbl := List.mem_of_getElem? (i := 408) rfl
set_option maxRecDepth 100000 in
theorem pm_cw40 : pm_hw 40 ∈ lw_tbl := List.mem_of_getElem? (i := 355) rfl
set_option maxRecDepth 100000 in
theorem pm_cw41 : pm_hw 41 ∈ lw_tbl := List.mem_of_getElem? (i := 359) rfl
set_option maxRecDepth 100000 in
theorem pm_cw42 : pm_hw 42 ∈ lw_tbl := List.mem_of_getElem? (i := 367) rfl
set_option maxRecDepth 100000 in
theorem pm_cw43 : pm_hw 43 ∈ lw_tbl := List.mem_of_getElem? (i := 390) rfl
set_option maxRecDepth 100000 in
theorem pm_cw44 : pm_hw 44 ∈ lw_tbl := List.mem_of_getElem? (i := 404) rfl
set_option maxRecDepth 100000 in
theorem pm_cw45 : pm_hw 45 ∈ lw_tbl := List.mem_of_getElem? (i := 660) rfl
set_option maxRecDepth 100000 in
theorem pm_cw46 : pm_hw 46 ∈ lw_tbl := List.mem_of_getElem? (i := 764) rfl
set_option maxRecDepth 100000 in
theorem pm_cw47 : pm_hw 47 ∈ lw_tbl := List.mem_of_getElem? (i := 888) rfl
set_option maxRecDepth 100000 in
theorem pm_cw48 : pm_hw 48 ∈ lw_tbl := List.mem_of_getElem? (i := 776) rfl
set_option maxRecDepth 100000 in
theorem pm_cw49 : pm_hw 49 ∈ lw_tbl := List.mem_of_getElem? (i := 844) rfl
set_option maxRecDepth 100000 in
theorem pm_cw50 : pm_hw 50 ∈ lw_tbl := List.mem_of_getElem? (i := 900) rfl
set_option maxRecDepth 100000 in
theorem pm_cw51 : pm_hw 51 ∈ lw_tbl := List.mem_of_getElem? (i := 983) rfl
set_option maxRecDepth 100000 in
theorem pm_cw52 : pm_hw 52 ∈ lw_tbl := List.mem_of_getElem? (i := 908) rfl
set_option maxRecDepth 100000 in
theorem pm_cw53 : pm_hw 53 ∈ lw_tbl := List.mem_of_getElem? (i := 944) rfl
set_option maxRecDepth 100000 in
theorem pm_cw54 : pm_hw 54 ∈ lw_tbl := List.mem_of_getElem? (i := 808) rfl
set_option maxRecDepth 100000 in
theorem pm_cw55 : pm_hw 55 ∈ lw_tbl := List.mem_of_getElem? (i := 796) rfl
set_option maxRecDepth 100000 in
theorem pm_cw56 : pm_hw 56 ∈ lw_tbl := List.mem_of_getElem? (i := 792) rfl
set_option maxRecDepth 100000 in
theorem pm_cw57 : pm_hw 57 ∈ lw_tbl := List.mem_of_getElem? (i := 788) rfl
set_option maxRecDepth 100000 in
theorem pm_cw58 : pm_hw 58 ∈ lw_tbl := List.mem_of_getElem? (i := 812) rfl
set_option maxRecDepth 100000 in
theorem pm_cw59 : pm_hw 59 ∈ lw_tbl := List.mem_of_getElem? (i := 784) rfl
set_option maxRecDepth 100000 in
theorem pm_cw60 : pm_hw 60 ∈ lw_tbl := List.mem_of_getElem? (i := 804) rfl
set_option maxRecDepth 100000 in
theorem pm_cw61 : pm_hw 61 ∈ lw_tbl := List.mem_of_getElem? (i := 800) rfl
set_option maxRecDepth 100000 in
theorem pm_cw62 : pm_hw 62 ∈ lw_tbl := List.mem_of_getElem? (i := 780) rfl
set_option maxRecDepth 100000 in
theorem pm_cw63 : pm_hw 63 ∈ lw_tbl := List.mem_of_getElem? (i := 772) rfl
set_option maxRecDepth 100000 in
theorem pm_cw64 : pm_hw 64 ∈ lw_tbl := List.mem_of_getElem? (i := 840) rfl
set_option maxRecDepth 100000 in
theorem pm_cw65 : pm_hw 65 ∈ lw_tbl := List.mem_of_getElem? (i := 848) rfl
set_option maxRecDepth 100000 in
theorem pm_cw66 : pm_hw 66 ∈ lw_tbl := List.mem_of_getElem? (i := 836) rfl
set_option maxRecDepth 100000 in
theorem pm_cw67 : pm_hw 67 ∈ lw_tbl := List.mem_of_getElem? (i := 872) rfl
set_option maxRecDepth 100000 in
theorem pm_cw68 : pm_hw 68 ∈ lw_tbl := List.mem_of_getElem? (i := 868) rfl
set_option maxRecDepth 100000 in
theorem pm_cw69 : pm_hw 69 ∈ lw_tbl := List.mem_of_getElem? (i := 864) rfl
set_option maxRecDepth 100000 in
theorem pm_cw70 : pm_hw 70 ∈ lw_tbl := List.mem_of_getElem? (i := 860) rfl
set_option maxRecDepth 100000 in
theorem pm_cw71 : pm_hw 71 ∈ lw_tbl := List.mem_of_getElem? (i := 856) rfl
set_option maxRecDepth 100000 in
theorem pm_cw72 : pm_hw 72 ∈ lw_tbl := List.mem_of_getElem? (i := 832) rfl
set_option maxRecDepth 100000 in
theorem pm_cw73 : pm_hw 73 ∈ lw_tbl := List.mem_of_getElem? (i := 852) rfl
set_option maxRecDepth 100000 in
theorem pm_cw74 : pm_hw 74 ∈ lw_tbl := List.mem_of_getElem? (i := 924) rfl
set_option maxRecDepth 100000 in
theorem pm_cw75 : pm_hw 75 ∈ lw_tbl := List.mem_of_getElem? (i := 816) rfl
set_option maxRecDepth 100000 in
theorem pm_cw76 : pm_hw 76 ∈ lw_tbl := List.mem_of_getElem? (i := 820) rfl
set_option maxRecDepth 100000 in
theorem pm_cw77 : pm_hw 77 ∈ lw_tbl := List.mem_of_getElem? (i := 824) rfl
set_option maxRecDepth 100000 in
theorem pm_cw78 : pm_hw 78 ∈ lw_tbl := List.mem_of_getElem? (i := 828) rfl
set_option maxRecDepth 100000 in
theorem pm_cw79 : pm_hw 79 ∈ lw_tbl := List.mem_of_getElem? (i := 768) rfl
set_option maxRecDepth 100000 in
theorem pm_cw80 : pm_hw 80 ∈ lw_tbl := List.mem_of_getElem? (i := 884) rfl
set_option maxRecDepth 100000 in
theorem pm_cw81 : pm_hw 81 ∈ lw_tbl := List.mem_of_getElem? (i := 880) rfl
set_option maxRecDepth 100000 in
theorem pm_cw82 : pm_hw 82 ∈ lw_tbl := List.mem_of_getElem? (i := 876) rfl
set_option maxRecDepth 100000 in
theorem pm_cw83 : pm_hw 83 ∈ lw_tbl := List.mem_of_getElem? (i := 892) rfl
set_option maxRecDepth 100000 in
theorem pm_cw84 : pm_hw 84 ∈ lw_tbl := List.mem_of_getElem? (i := 896) rfl
set_option maxRecDepth 100000 in
theorem pm_cw85 : pm_hw 85 ∈ lw_tbl := List.mem_of_getElem? (i := 904) rfl
set_option maxRecDepth 100000 in
theorem pm_cw86 : pm_hw 86 ∈ lw_tbl := List.mem_of_getElem? (i := 912) rfl
set_option maxRecDepth 100000 in
theorem pm_cw87 : pm_hw 87 ∈ lw_tbl := List.mem_of_getElem? (i := 920) rfl
set_option maxRecDepth 100000 in
theorem pm_cw88 : pm_hw 88 ∈ lw_tbl := List.mem_of_getElem? (i := 916) rfl
set_option maxRecDepth 100000 in
theorem pm_cw89 : pm_hw 89 ∈ lw_tbl := List.mem_of_getElem? (i := 928) rfl
set_option maxRecDepth 100000 in
theorem pm_cw90 : pm_hw 90 ∈ lw_tbl := List.mem_of_getElem? (i := 932) rfl
set_option maxRecDepth 100000 in
theorem pm_cw91 : pm_hw 91 ∈ lw_tbl := List.mem_of_getElem? (i := 936) rfl
set_option maxRecDepth 100000 in
theorem pm_cw92 : pm_hw 92 ∈ lw_tbl := List.mem_of_getElem? (i := 940) rfl
set_option maxRecDepth 100000 in
theorem pm_cw93 : pm_hw 93 ∈ lw_tbl := List.mem_of_getElem? (i := 948) rfl
set_option maxRecDepth 100000 in
theorem pm_cw94 : pm_hw 94 ∈ lw_tbl := List.mem_of_getElem? (i := 952) rfl
set_option maxRecDepth 100000 in
theorem pm_cw95 : pm_hw 95 ∈ lw_tbl := List.mem_of_getElem? (i := 956) rfl
set_option maxRecDepth 100000 in
theorem pm_cw96 : pm_hw 96 ∈ lw_tbl := List.mem_of_getElem? (i := 960) rfl
set_option maxRecDepth 100000 in
theorem pm_cw97 : pm_hw 97 ∈ lw_tbl := List.mem_of_getElem? (i := 967) rfl
set_option maxRecDepth 100000 in
theorem pm_cw98 : pm_hw 98 ∈ lw_tbl := List.mem_of_getElem? (i := 964) rfl
set_option maxRecDepth 100000 in
theorem pm_cw99 : pm_hw 99 ∈ lw_tbl := List.mem_of_getElem? (i := 971) rfl
set_option maxRecDepth 100000 in
theorem pm_cw100 : pm_hw 100 ∈ lw_tbl := List.mem_of_getElem? (i := 975) rfl
set_option maxRecDepth 100000 in
theorem pm_cw101 : pm_hw 101 ∈ lw_tbl := List.mem_of_getElem? (i := 979) rfl
set_option maxRecDepth 100000 in
theorem pm_cw102 : pm_hw 102 ∈ lw_tbl := List.mem_of_getElem? (i := 93) rfl
set_option maxRecDepth 100000 in
theorem pm_cw103 : pm_hw 103 ∈ lw_tbl := List.mem_of_getElem? (i := 335) rfl
set_option maxRecDepth 100000 in
theorem pm_cw104 : pm_hw 104 ∈ lw_tbl := List.mem_of_getElem? (i := 343) rfl
set_option maxRecDepth 100000 in
theorem pm_cw105 : pm_hw 105 ∈ lw_tbl := List.mem_of_getElem? (i := 376) rfl
set_option maxRecDepth 100000 in
theorem pm_cw106 : pm_hw 106 ∈ lw_tbl := List.mem_of_getElem? (i := 141) rfl
set_option maxRecDepth 100000 in
theorem pm_cw107 : pm_hw 107 ∈ lw_tbl := List.mem_of_getElem? (i := 587) rfl
set_option maxRecDepth 100000 in
theorem pm_cw108 : pm_hw 108 ∈ lw_tbl := List.mem_of_getElem? (i := 394) rfl
set_option maxRecDepth 100000 in
theorem pm_cw109 : pm_hw 109 ∈ lw_tbl := List.mem_of_getElem? (i := 135) rfl
set_option maxRecDepth 100000 in
theorem pm_cw110 : pm_hw 110 ∈ lw_tbl := List.mem_of_getElem? (i := 521) rfl
set_option maxRecDepth 100000 in
theorem pm_cw111 : pm_hw 111 ∈ lw_tbl := List.mem_of_getElem? (i := 291) rfl
set_option maxRecDepth 100000 in
theorem pm_cw112 : pm_hw 112 ∈ lw_tbl := List.mem_of_getElem? (i := 267) rfl
set_option maxRecDepth 100000 in
theorem pm_cw113 : pm_hw 113 ∈ lw_tbl := List.mem_of_getElem? (i := 363) rfl
set_option maxRecDepth 100000 in
theorem pm_cw114 : pm_hw 114 ∈ lw_tbl := List.mem_of_getElem? (i := 539) rfl
set_option maxRecDepth 100000 in
theorem pm_cw115 : pm_hw 115 ∈ lw_tbl := List.mem_of_getElem? (i := 303) rfl
set_option maxRecDepth 100000 in
theorem pm_cw116 : pm_hw 116 ∈ lw_tbl := List.mem_of_getElem? (i := 299) rfl
set_option maxRecDepth 100000 in
theorem pm_cw117 : pm_hw 117 ∈ lw_tbl := List.mem_of_getElem? (i := 275) rfl
set_option maxRecDepth 100000 in
theorem pm_cw118 : pm_hw 118 ∈ lw_tbl := List.mem_of_getElem? (i := 271) rfl
set_option maxRecDepth 100000 in
theorem pm_cw119 : pm_hw 119 ∈ lw_tbl := List.mem_of_getElem? (i := 279) rfl
set_option maxRecDepth 100000 in
theorem pm_cw120 : pm_hw 120 ∈ lw_tbl := List.mem_of_getElem? (i := 308) rfl
set_option maxRecDepth 100000 in
theorem pm_cw121 : pm_hw 121 ∈ lw_tbl := List.mem_of_getElem? (i := 595) rfl
set_option maxRecDepth 100000 in
theorem pm_cw122 : pm_hw 122 ∈ lw_tbl := List.mem_of_getElem? (i := 312) rfl
set_option maxRecDepth 100000 in
theorem pm_cw123 : pm_hw 123 ∈ lw_tbl := List.mem_of_getElem? (i := 87) rfl
set_option maxRecDepth 100000 in
theorem pm_cw124 : pm_hw 124 ∈ lw_tbl := List.mem_of_getElem? (i := 398) rfl
set_option maxRecDepth 100000 in
theorem pm_cw125 : pm_hw 125 ∈ lw_tbl := List.mem_of_getElem? (i := 320) rfl
set_option maxRecDepth 100000 in
theorem pm_cw126 : pm_hw 126 ∈ lw_tbl := List.mem_of_getElem? (i := 339) rfl
set_option maxRecDepth 100000 in
theorem pm_cw127 : pm_hw 127 ∈ lw_tbl := List.mem_of_getElem? (i := 327) rfl
set_option maxRecDepth 100000 in
theorem pm_cw128 : pm_hw 128 ∈ lw_tbl := List.mem_of_getElem? (i := 331) rfl
set_option maxRecDepth 100000 in
theorem pm_cw129 : pm_hw 129 ∈ lw_tbl := List.mem_of_getElem? (i := 255) rfl
set_option maxRecDepth 100000 in
theorem pm_cw130 : pm_hw 130 ∈ lw_tbl := List.mem_of_getElem? (i := 372) rfl
set_option maxRecDepth 100000 in
theorem pm_cw131 : pm_hw 131 ∈ lw_tbl := List.mem_of_getElem? (i := 381) rfl
set_option maxRecDepth 100000 in
theorem pm_cw132 : pm_hw 132 ∈ lw_tbl := List.mem_of_getElem? (i := 446) rfl
set_option maxRecDepth 100000 in
theorem pm_cw133 : pm_hw 133 ∈ lw_tbl := List.mem_of_getElem? (i := 524) rfl
set_option maxRecDepth 100000 in
theorem pm_cw134 : pm_hw 134 ∈ lw_tbl := List.mem_of_getElem? (i := 531) rfl
set_option maxRecDepth 100000 in
theorem pm_cw135 : pm_hw 135 ∈ lw_tbl := List.mem_of_getElem? (i := 546) rfl
set_option maxRecDepth 100000 in
theorem pm_cw136 : pm_hw 136 ∈ lw_tbl := List.mem_of_getElem? (i := 553) rfl
set_option maxRecDepth 100000 in
theorem pm_cw137 : pm_hw 137 ∈ lw_tbl := List.mem_of_getElem? (i := 560) rfl
set_option maxRecDepth 100000 in
theorem pm_cw138 : pm_hw 138 ∈ lw_tbl := List.mem_of_getElem? (i := 598) rfl
set_option maxRecDepth 100000 in
theorem pm_cw139 : pm_hw 139 ∈ lw_tbl := List.mem_of_getElem? (i := 605) rfl
set_option maxRecDepth 100000 in
theorem pm_cw140 : pm_hw 140 ∈ lw_tbl := List.mem_of_getElem? (i := 612) rfl
set_option maxRecDepth 100000 in
theorem pm_cw141 : pm_hw 141 ∈ lw_tbl := List.mem_of_getElem? (i := 619) rfl
set_option maxRecDepth 100000 in
theorem pm_cw142 : pm_hw 142 ∈ lw_tbl := List.mem_of_getElem? (i := 626) rfl
set_option maxRecDepth 100000 in
theorem pm_cw143 : pm_hw 143 ∈ lw_tbl := List.mem_of_getElem? (i := 633) rfl
set_option maxRecDepth 100000 in
theorem pm_cw144 : pm_hw 144 ∈ lw_tbl := List.mem_of_getElem? (i := 640) rfl
set_option maxRecDepth 100000 in
theorem pm_cw145 : pm_hw 145 ∈ lw_tbl := List.mem_of_getElem? (i := 651) rfl
theorem pm_ch20 : ∀ a, a < 20 → pm_hw a ∈ lw_tbl := lt_s (lt_s (lt_s (lt_s (lt_s (lt_s (lt_s (lt_s (lt_s (lt_s (lt_s (lt_s (lt_s (lt_s (lt_s (lt_s (lt_s (lt_s (lt_s (lt_s (lt_0) pm_cw0) pm_cw1) pm_cw2) pm_cw3) pm_cw4) pm_cw5) pm_cw6) pm_cw7) pm_cw8) pm_cw9) pm_cw10) pm_cw11) pm_cw12) pm_cw13) pm_cw14) pm_cw15) pm_cw16) pm_cw17) pm_cw18) pm_cw19
theorem pm_ch40 : ∀ a, a < 40 → pm_hw a ∈ lw_tbl := lt_s (lt_s (lt_s (lt_s (lt_s (lt_s (lt_s (lt_s (lt_s (lt_s (lt_s (lt_s (lt_s (lt_s (lt_s (lt_s (lt_s (lt_s (lt_s (lt_s (pm_ch20) pm_cw20) pm_cw21) pm_cw22) pm_cw23) pm_cw24) pm_cw25) pm_cw26) pm_cw27) pm_cw28) pm_cw29) pm_cw30) pm_cw31) pm_cw32) pm_cw33) pm_cw34) pm_cw35) pm_cw36) pm_cw37) pm_cw38) pm_cw39
theorem pm_ch60 : ∀ a, a < 60 → pm_hw a ∈ lw_tbl := lt_s (lt_s (lt_s (lt_s (lt_s (lt_s (lt_s (lt_s (lt_s (lt_s (lt_s (lt_s (lt_s (lt_s (lt_s (lt_s (lt_s (lt_s (lt_s (lt_s (pm_ch40) pm_cw40) pm_cw41) pm_cw42) pm_cw43) pm_cw44) pm_cw45) pm_cw46) pm_cw47) pm_cw48) pm_cw49) pm_cw50) pm_cw51) pm_cw52) pm_cw53) pm_cw54) pm_cw55) pm_cw56) pm_cw57) pm_cw58) pm_cw59
theorem pm_ch80 : ∀ a, a < 80 → pm_hw a ∈ lw_tbl := lt_s (lt_s (lt_s (lt_s (lt_s (lt_s (lt_s (lt_s (lt_s (lt_s (lt_s (lt_s (lt_s (lt_s (lt_s (lt_s (lt_s (lt_s (lt_s (lt_s (pm_ch60) pm_cw60) pm_cw61) pm_cw62) pm_cw63) pm_cw64) pm_cw65) pm_cw66) pm_cw67) pm_cw68) pm_cw69) pm_cw70) pm_cw71) pm_cw72) pm_cw73) pm_cw74) pm_cw75) pm_cw76) pm_cw77) pm_cw78) pm_cw79
theorem pm_ch100 : ∀ a, a < 100 → pm_hw a ∈ lw_tbl := lt_s (lt_s (lt_s (lt_s (lt_s (lt_s (lt_s (lt_s (lt_s (lt_s (lt_s (lt_s (lt_s (lt_s (lt_s (lt_s (lt_s (lt_s (lt_s (lt_s (pm_ch80) pm_cw80) pm_cw81) pm_cw82) pm_cw83) pm_cw84) pm_cw85) pm_cw86) pm_cw87) pm_cw88) pm_cw89) pm_cw90) pm_cw91) pm_cw92) pm_cw93) pm_cw94) pm_cw95) pm_cw96) pm_cw97) pm_cw98) pm_cw99
theorem pm_ch120 : ∀ a, a < 120 → pm_hw a ∈ lw_tbl := lt_s (lt_s (lt_s (lt_s (lt_s (lt_s (lt_s (lt_s (lt_s (lt_s (lt_s (lt_s (lt_s (lt_s (lt_s (lt_s (lt_s (lt_s (lt_s (lt_s (pm_ch100) pm_cw100) pm_cw101) pm_cw102) pm_cw103) pm_cw104) pm_cw105) pm_cw106) pm_cw107) pm_cw108) pm_cw109) pm_cw110) pm_cw111) pm_cw112) pm_cw113) pm_cw114) pm_cw115) pm_cw116) pm_cw117) pm_cw118) pm_cw119
theorem pm_ch140 : ∀ a, a < 140 → pm_hw a ∈ lw_tbl := lt_s (lt_s (lt_s (lt_s (lt_s (lt_s (lt_s (lt_s (lt_s (lt_s (lt_s (lt_s (lt_s (lt_s (lt_s (lt_s (lt_s (lt_s (lt_s (lt_s (pm_ch120) pm_cw120) pm_cw121) pm_cw122) pm_cw123) pm_cw124) pm_cw125) pm_cw126) pm_cw127) pm_cw128) pm_cw129) pm_cw130) pm_cw131) pm_cw132) pm_cw133) pm_cw134) pm_cw135) pm_cw136) pm_cw137) pm_cw138) pm_cw139
theorem pm_ch146 : ∀ a, a < 146 → pm_hw a ∈ lw_tbl := lt_s (lt_s (lt_s (lt_s (lt_s (lt_s (pm_ch140) pm_cw140) pm_cw141) pm_cw142) pm_cw143) pm_cw144) pm_cw145
def pm_cg (w : Cond) : Bool := match w with
  | .code _ _ _ _ => true
  | .codeWith _ _ _ _ _ => true
  | _ => false
theorem pm_hw_pb (mi : Nat) : pm_pb (pm_hw mi) = true := by
  unfold pm_hw
  split <;> rfl
theorem pm_hw_in {mi : Nat} (h : mi < 146) : pm_hw mi ∈ pm_Tl := List.mem_filter.mpr ⟨pm_ch146 mi h, pm_hw_pb mi⟩
end
section
/-! THE PURE MACHINE. A value: an int, a long, or a reference (null, or the object i of the family f). The memory: ints, longs, references by family, object, place; how many of the planned cells are made; how many exceptions were made. Locals by place. An end: a return, or an exception's number. -/
abbrev pm_V : Type := Int32 ⊕ (Int64 ⊕ Option (Nat × Nat))
abbrev pm_i (x : Int32) : pm_V := Sum.inl x
abbrev pm_l (x : Int64) : pm_V := Sum.inr (Sum.inl x)
abbrev pm_a (q : Option (Nat × Nat)) : pm_V := Sum.inr (Sum.inr q)
abbrev pm_r (f i : Nat) : pm_V := Sum.inr (Sum.inr (some (f, i)))
abbrev pm_M : Type := (Nat → Nat → Nat → Int32) × (Nat → Nat → Nat → Int64) × (Nat → Nat → Nat → Option (Nat × Nat)) × Nat × Nat
abbrev pm_L : Type := List (Option pm_V)
abbrev pm_O : Type := Option pm_V ⊕ Nat
abbrev pm_R : Type := Option (pm_O × pm_M)
def pm_cat : pm_V → Nat
  | .inr (.inl _) => 2
  | _ => 1
def pm_c (n : Int) : Int32 := match n with
  | .ofNat k => nI k
  | .negSucc k => - nI (k + 1)
def pm_u {α : Type} (F : Nat → Nat → Nat → α) (f i k : Nat) (v : α) : Nat → Nat → Nat → α := fun f' i' k' => if f' = f ∧ i' = i ∧ k' = k then v else F f' i' k'
def pm_z {α : Type} (F : Nat → Nat → Nat → α) (f i : Nat) (v : α) : Nat → Nat → Nat → α := fun f' i' k' => if f' = f ∧ i' = i then v else F f' i' k'
/-- a cell is made: all its places are zero -/
def pm_new (M : pm_M) (q : Nat × Nat) : pm_M := (pm_z M.1 q.1 q.2 0, pm_z M.2.1 q.1 q.2 0, pm_z M.2.2.1 q.1 q.2 none, M.2.2.2.1 + 1, M.2.2.2.2)
def pm_ok (M : pm_M) (f i : Nat) : Bool := decide (i < pm_cnt f) && (f == 99 || (M.2.2.2.1 == pm_tot || decide (pm_pidx f i < M.2.2.2.1)))
def pm_g (M : pm_M) (f i : Nat) (a : pm_R) : pm_R := if pm_ok M f i = true then a else none
def pm_i1 (S : List pm_V) (g : Int32 → List pm_V → pm_R) : pm_R := match S with
  | .inl x :: r => g x r
  | _ => none
def pm_i2 (S : List pm_V) (g : Int32 → Int32 → List pm_V → pm_R) : pm_R := match S with
  | .inl y :: .inl x :: r => g x y r
  | _ => none
def pm_l1 (S : List pm_V) (g : Int64 → List pm_V → pm_R) : pm_R := match S with
  | .inr (.inl x) :: r => g x r
  | _ => none
def pm_l2 (S : List pm_V) (g : Int64 → Int64 → List pm_V → pm_R) : pm_R := match S with
  | .inr (.inl y) :: .inr (.inl x) :: r => g x y r
  | _ => none
def pm_li (S : List pm_V) (g : Int64 → Int32 → List pm_V → pm_R) : pm_R := match S with
  | .inl y :: .inr (.inl x) :: r => g x y r
  | _ => none
def pm_a1 (S : List pm_V) (g : Option (Nat × Nat) → List pm_V → pm_R) : pm_R := match S with
  | .inr (.inr q) :: r => g q r
  | _ => none
def pm_r1 (M : pm_M) (S : List pm_V) (g : Nat → Nat → List pm_V → pm_R) : pm_R := match S with
  | .inr (.inr (some (f, i))) :: r => pm_g M f i (g f i r)
  | _ => none
def pm_ir (M : pm_M) (S : List pm_V) (g : Int32 → Nat → Nat → List pm_V → pm_R) : pm_R := match S with
  | .inl x :: .inr (.inr (some (f, i))) :: r => pm_g M f i (g x f i r)
  | _ => none
def pm_vr (M : pm_M) (S : List pm_V) (g : pm_V → Nat → Nat → List pm_V → pm_R) : pm_R := match S with
  | v :: .inr (.inr (some (f, i))) :: r => pm_g M f i (g v f i r)
  | _ => none
def pm_vir (M : pm_M) (S : List pm_V) (g : pm_V → Int32 → Nat → Nat → List pm_V → pm_R) : pm_R := match S with
  | v :: .inl x :: .inr (.inr (some (f, i))) :: r => pm_g M f i (g v x f i r)
  | _ => none
def pm_ix (x : Int32) (n : Nat) (g : Nat → pm_R) : pm_R := if x < 0 ∨ n ≤ x.toNatClampNeg then none else g x.toNatClampNeg
def pm_j (pc : Nat) (off : Int) (g : Nat → pm_R) : pm_R := match (pc : Int) + off with
  | .ofNat t => g t
  | .negSucc _ => none
def pm_cmp (cd : Jvm.ClassFile.Cond) (x y : Int32) (a b : pm_R) : pm_R := match cd with
  | .eq => if x = y then a else b
  | .ne => if x = y then b else a
  | .lt => if x < y then a else b
  | .ge => if y ≤ x then a else b
  | .gt => if y < x then a else b
  | .le => if x ≤ y then a else b
def pm_ldi (L : pm_L) (i : Nat) (g : Int32 → pm_R) : pm_R := match L[i]? with
  | some (some (.inl x)) => g x
  | _ => none
def pm_ldl (L : pm_L) (i : Nat) (g : Int64 → pm_R) : pm_R := match L[i]? with
  | some (some (.inr (.inl x))) => g x
  | _ => none
def pm_lda (L : pm_L) (i : Nat) (g : Option (Nat × Nat) → pm_R) : pm_R := match L[i]? with
  | some (some (.inr (.inr q))) => g q
  | _ => none
/-- no long stands in the place before -/
def pm_pre (L : pm_L) (i : Nat) : Bool := match i with
  | 0 => true
  | j + 1 => match L[j]? with
    | some (some (.inr (.inl _))) => false
    | _ => true
def pm_st (L : pm_L) (i : Nat) (v : pm_V) (g : pm_L → pm_R) : pm_R := if i < L.length ∧ pm_pre L i = true then g (L.set i (some v)) else none
def pm_sti (L : pm_L) (S : List pm_V) (i : Nat) (g : pm_L → List pm_V → pm_R) : pm_R := pm_i1 S fun x r => pm_st L i (pm_i x) fun L' => g L' r
def pm_sta (L : pm_L) (S : List pm_V) (i : Nat) (g : pm_L → List pm_V → pm_R) : pm_R := pm_a1 S fun q r => pm_st L i (pm_a q) fun L' => g L' r
/-- a switch: the rows from lo on, then the default -/
def pm_sw (x : Int) (lo : Int) (offs : List Int) (d : Int) (g : Int → pm_R) : pm_R := match offs with
  | [] => g d
  | o :: r => if x = lo then g o else pm_sw x (lo + 1) r d g
/-- an int that a boolean place can hold -/
def pm_bo (x : Int32) (a : pm_R) : pm_R := if x = 0 ∨ x = 1 then a else none
def pm_gf (ns : Nat) (M : pm_M) (q : Nat × Nat × Nat × Bool) (f i : Nat) (g : pm_V → pm_R) : pm_R := match pm_shp ns f with
  | (0, cj, _) => if q.1 = cj then (match q.2.2.1 with
    | 1 => g (pm_l (M.2.1 f i q.2.1))
    | 2 => g (pm_a (M.2.2.1 f i q.2.1))
    | _ => g (pm_i (M.1 f i q.2.1))) else none
  | _ => none
def pm_pf (ns : Nat) (ini : Bool) (M : pm_M) (q : Nat × Nat × Nat × Bool) (v : pm_V) (f i : Nat) (g : pm_M → pm_R) : pm_R := match pm_shp ns f with
  | (0, cj, _) => if q.1 = cj ∧ (q.2.2.2 = true → ini = true) then (match q.2.2.1, v with
    | 0, .inl x => g (pm_u M.1 f i q.2.1 x, M.2)
    | 3, .inl x => pm_bo x (g (pm_u M.1 f i q.2.1 x, M.2))
    | 1, .inr (.inl x) => g (M.1, pm_u M.2.1 f i q.2.1 x, M.2.2)
    | 2, .inr (.inr x) => g (M.1, M.2.1, pm_u M.2.2.1 f i q.2.1 x, M.2.2.2)
    | _, _ => none) else none
  | _ => none
/-- the length of an array of the kind t -/
def pm_ar (ns t f : Nat) (g : Nat → pm_R) : pm_R := match pm_shp ns f with
  | (t', n, _) => if t' = t ∧ f ≠ 99 then g n else none
def pm_ari (ns f : Nat) (g : Nat → pm_R) : pm_R := match pm_shp ns f with
  | (1, n, _) => g n
  | _ => none
/-- a planned cell of the kind (t, n, cs) is made -/
def pm_mk (ns : Nat) (M : pm_M) (t n : Nat) (b : List Nat → Bool) (g : Nat → Nat → pm_M → pm_R) : pm_R :=
  if M.2.2.2.1 < pm_tot then (match pm_shp ns (pm_plan M.2.2.2.1).1 with
    | (t', n', c') => if t' = t ∧ n' = n ∧ b c' = true then g (pm_plan M.2.2.2.1).1 (pm_plan M.2.2.2.1).2 (pm_new M (pm_plan M.2.2.2.1)) else none) else none
/-- the row of the table that takes the exception x at pc, and what stands behind its handler's first instruction -/
def pm_hd (hs : List (Nat × Nat × Nat × Nat)) (pc x : Nat) : Option Nat := match hs with
  | [] => none
  | h :: r => if h.1 ≤ pc ∧ pc < h.2.1 ∧ h.2.2.2 = x then some h.2.2.1 else pm_hd r pc x
def pm_ct (mi : Nat) (k : Nat → pm_L → List pm_V → pm_M → pm_R) (pc x : Nat) (L : pm_L) (M : pm_M) : pm_R := match pm_hd (pm_hnd mi) pc x with
  | none => if pm_hnd mi = [] then some (Sum.inr x, M) else none
  | some h => match pm_tbl mi h with
    | some (.astore_n j, 1) => if (j : Nat) < L.length ∧ pm_pre L j = true then k (h + 1) (L.set j none) [] M else none
    | some (.astore j, 2) => if j < L.length ∧ pm_pre L j = true then k (h + 2) (L.set j none) [] M else none
    | _ => none
/-- the receiver of a call: an object of the class that has the method -/
def pm_rc (ns : Nat) (M : pm_M) (cl : Nat) (a : List pm_V) (g : pm_R) : pm_R := match a with
  | .inr (.inr (some (f, i))) :: _ => pm_g M f i (match pm_shp ns f with
    | (0, cj, _) => if cl = cj then g else none
    | _ => none)
  | _ => none
def pm_cl (call : Nat → List pm_V → pm_M → pm_R) (mi : Nat) (k : Nat → pm_L → List pm_V → pm_M → pm_R) (pc mj : Nat) (a r : List pm_V) (L : pm_L) (M : pm_M) : pm_R := match call mj a M with
  | some (.inl v, M') => k (pc + 3) L (v.toList ++ r) M'
  | some (.inr x, M') => pm_ct mi k pc x L M'
  | none => none
/-- by which instruction a kind is called: 0 static, 1 virtual, 2 special -/
def pm_kop : Nat → Nat
  | 0 => 0
  | 1 => 1
  | 4 => 0
  | _ => 2
def pm_inv (call : Nat → List pm_V → pm_M → pm_R) (ns mi : Nat) (k : Nat → pm_L → List pm_V → pm_M → pm_R) (op idx pc : Nat) (L : pm_L) (S : List pm_V) (M : pm_M) : pm_R := match pm_mth (pm_own mi) idx with
  | some (mj, na, kd) => if pm_kop kd = op then (match kd with
      | 3 => pm_r1 M S fun _ _ r => if (r.map pm_cat).sum ≤ 8 then k (pc + 3) L r M else none
      | 4 => pm_i2 S fun x y r => if (r.map pm_cat).sum ≤ 8 then k (pc + 3) L (pm_i (if y < x then y else x) :: r) M else none
      | 0 => if na ≤ S.length ∧ ((S.drop na).map pm_cat).sum ≤ 8 then pm_cl call mi k pc mj (S.take na).reverse (S.drop na) L M else none
      | _ => if na ≤ S.length ∧ ((S.drop na).map pm_cat).sum ≤ 8 then pm_rc ns M (pm_mcl mj) (S.take na).reverse (pm_cl call mi k pc mj (S.take na).reverse (S.drop na) L M) else none) else none
  | none => none
/-- 'throw new E()': the four instructions at once -/
def pm_th (dd mi pc x : Nat) (S : List pm_V) (M : pm_M) : pm_R :=
  if 6 ≤ dd ∧ S.length = 0 ∧ M.2.2.2.1 = pm_tot ∧ M.2.2.2.2 < 600 ∧ pm_tbl mi (pc + 3) = some (.dup, 1) ∧ pm_tbl mi (pc + 4) = some (.invokespecial (pm_exi (pm_own mi) x), 3) ∧ pm_tbl mi (pc + 7) = some (.athrow, 1) ∧ pm_hnd mi = [] then some (Sum.inr x, (M.1, M.2.1, M.2.2.1, M.2.2.2.1, M.2.2.2.2 + 1)) else none
def pm_nw (ns dd mi : Nat) (k : Nat → pm_L → List pm_V → pm_M → pm_R) (idx pc : Nat) (L : pm_L) (S : List pm_V) (M : pm_M) : pm_R := match pm_cls (pm_own mi) idx with
  | some (.inl ci) => pm_mk ns M 0 ci (fun _ => true) fun f i M' => k (pc + 3) L (pm_r f i :: S) M'
  | some (.inr x) => pm_th dd mi pc x S M
  | none => none
def pm_na (ns : Nat) (k : Nat → pm_L → List pm_V → pm_M → pm_R) (t w pc : Nat) (b : List Nat → Bool) (L : pm_L) (S : List pm_V) (M : pm_M) : pm_R :=
  pm_i1 S fun x r => if ¬ x < 0 then pm_mk ns M t x.toNatClampNeg b fun f i M' => k (pc + w) L (pm_r f i :: r) M' else none
def pm_step (call : Nat → List pm_V → pm_M → pm_R) (ns dd mi : Nat) (k : Nat → pm_L → List pm_V → pm_M → pm_R) (ins : Instr) (pc : Nat) (L : pm_L) (S : List pm_V) (M : pm_M) : pm_R := match ins with
  | .iconst n => k (pc + 1) L (pm_i (pm_c n) :: S) M
  | .bipush n => if -128 ≤ n ∧ n ≤ 127 then k (pc + 2) L (pm_i (pm_c n) :: S) M else none
  | .sipush n => if -32768 ≤ n ∧ n ≤ 32767 then k (pc + 3) L (pm_i (pm_c n) :: S) M else none
  | .lconst n => k (pc + 1) L (pm_l (Int64.ofNat n) :: S) M
  | .ldc2_w idx => (match pm_lng (pm_own mi) idx with
    | some v => k (pc + 3) L (pm_l v :: S) M
    | none => none)
  | .aconst_null => k (pc + 1) L (pm_a none :: S) M
  | .iload_n j => pm_ldi L j fun x => k (pc + 1) L (pm_i x :: S) M
  | .iload j => pm_ldi L j fun x => k (pc + 2) L (pm_i x :: S) M
  | .lload_n j => pm_ldl L j fun x => k (pc + 1) L (pm_l x :: S) M
  | .lload j => pm_ldl L j fun x => k (pc + 2) L (pm_l x :: S) M
  | .aload_n j => pm_lda L j fun q => k (pc + 1) L (pm_a q :: S) M
  | .aload j => pm_lda L j fun q => k (pc + 2) L (pm_a q :: S) M
  | .istore_n j => pm_sti L S j fun L' r => k (pc + 1) L' r M
  | .istore j => pm_sti L S j fun L' r => k (pc + 2) L' r M
  | .astore_n j => pm_sta L S j fun L' r => k (pc + 1) L' r M
  | .astore j => pm_sta L S j fun L' r => k (pc + 2) L' r M
  | .iinc j n => pm_ldi L j fun x => pm_st L j (pm_i (x + pm_c n)) fun L' => k (pc + 3) L' S M
  | .iadd => pm_i2 S fun x y r => k (pc + 1) L (pm_i (x + y) :: r) M
  | .isub => pm_i2 S fun x y r => k (pc + 1) L (pm_i (x - y) :: r) M
  | .imul => pm_i2 S fun x y r => k (pc + 1) L (pm_i (x * y) :: r) M
  | .idiv => pm_i2 S fun x y r => if y = 0 then none else k (pc + 1) L (pm_i (x / y) :: r) M
  | .irem => pm_i2 S fun x y r => if y = 0 then none else k (pc + 1) L (pm_i (x - x / y * y) :: r) M
  | .iand => pm_i2 S fun x y r => k (pc + 1) L (pm_i (x &&& y) :: r) M
  | .ior => pm_i2 S fun x y r => k (pc + 1) L (pm_i (x ||| y) :: r) M
  | .ixor => pm_i2 S fun x y r => k (pc + 1) L (pm_i (x ^^^ y) :: r) M
  | .ishl => pm_i2 S fun x y r => k (pc + 1) L (pm_i (x <<< (y &&& 31)) :: r) M
  | .ishr => pm_i2 S fun x y r => k (pc + 1) L (pm_i (x >>> (y &&& 31)) :: r) M
  | .i2l => pm_i1 S fun x r => k (pc + 1) L (pm_l x.toInt64 :: r) M
  | .l2i => pm_l1 S fun x r => k (pc + 1) L (pm_i x.toInt32 :: r) M
  | .land => pm_l2 S fun x y r => k (pc + 1) L (pm_l (x &&& y) :: r) M
  | .lor => pm_l2 S fun x y r => k (pc + 1) L (pm_l (x ||| y) :: r) M
  | .lcmp => pm_l2 S fun x y r => k (pc + 1) L (pm_i (lg_cmp x y) :: r) M
  | .lshl => pm_li S fun x y r => k (pc + 1) L (pm_l (x <<< (y.toInt64 &&& 63)) :: r) M
  | .lshr => pm_li S fun x y r => k (pc + 1) L (pm_l (x >>> (y.toInt64 &&& 63)) :: r) M
  | .lushr => pm_li S fun x y r => k (pc + 1) L (pm_l (x.toUInt64 >>> (y.toInt64.toUInt64 &&& Int64.toUInt64 63)).toInt64 :: r) M
  | .dup => (match S with
    | v :: r => if pm_cat v = 1 then k (pc + 1) L (v :: v :: r) M else none
    | _ => none)
  | .dup2 => (match S with
    | v :: w :: r => if pm_cat v = 1 ∧ pm_cat w = 1 then k (pc + 1) L (v :: w :: v :: w :: r) M else none
    | _ => none)
  | .pop => (match S with
    | v :: r => if pm_cat v = 1 then k (pc + 1) L r M else none
    | _ => none)
  | .if_icmp cd off => pm_i2 S fun x y r => pm_j pc off fun t => pm_cmp cd x y (k t L r M) (k (pc + 3) L r M)
  | .ifCond cd off => pm_i1 S fun x r => pm_j pc off fun t => pm_cmp cd x 0 (k t L r M) (k (pc + 3) L r M)
  | .ifnull off => pm_a1 S fun q r => (match q with
    | none => pm_j pc off fun t => k t L r M
    | some _ => k (pc + 3) L r M)
  | .ifnonnull off => pm_a1 S fun q r => (match q with
    | some _ => pm_j pc off fun t => k t L r M
    | none => k (pc + 3) L r M)
  | .goto off => pm_j pc off fun t => k t L S M
  | .tableswitch d lo hi offs => pm_i1 S fun x r => if hi + 1 = lo + offs.toList.length then pm_sw x.toInt lo offs.toList d fun o => pm_j pc o fun t => k t L r M else none
  | .getfield idx => (match pm_fld (pm_own mi) idx with
    | some q => pm_r1 M S fun f i r => pm_gf ns M q f i fun v => k (pc + 3) L (v :: r) M
    | none => none)
  | .putfield idx => (match pm_fld (pm_own mi) idx with
    | some q => pm_vr M S fun v f i r => pm_pf ns (pm_ini mi && pm_own mi == q.1) M q v f i fun M' => k (pc + 3) L r M'
    | none => none)
  | .iaload => pm_ir M S fun x f i r => pm_ari ns f fun n => pm_ix x n fun j => k (pc + 1) L (pm_i (M.1 f i j) :: r) M
  | .baload => pm_ir M S fun x f i r => pm_ar ns 2 f fun n => pm_ix x n fun j => k (pc + 1) L (pm_i (M.1 f i j) :: r) M
  | .laload => pm_ir M S fun x f i r => pm_ar ns 3 f fun n => pm_ix x n fun j => k (pc + 1) L (pm_l (M.2.1 f i j) :: r) M
  | .aaload => pm_ir M S fun x f i r => pm_ar ns 4 f fun n => pm_ix x n fun j => k (pc + 1) L (pm_a (M.2.2.1 f i j) :: r) M
  | .iastore => pm_vir M S fun v x f i r => pm_ar ns 1 f fun n => pm_ix x n fun j => (match v with
    | .inl y => k (pc + 1) L r (pm_u M.1 f i j y, M.2)
    | _ => none)
  | .bastore => pm_vir M S fun v x f i r => pm_ar ns 2 f fun n => pm_ix x n fun j => (match v with
    | .inl y => pm_bo y (k (pc + 1) L r (pm_u M.1 f i j y, M.2))
    | _ => none)
  | .lastore => pm_vir M S fun v x f i r => pm_ar ns 3 f fun n => pm_ix x n fun j => (match v with
    | .inr (.inl y) => k (pc + 1) L r (M.1, pm_u M.2.1 f i j y, M.2.2)
    | _ => none)
  | .aastore => pm_vir M S fun v x f i r => pm_ar ns 4 f fun n => pm_ix x n fun j => (match v with
    | .inr (.inr (some q)) => pm_g M q.1 q.2 (match pm_shp ns q.1, pm_shp ns f with
      | (0, cj, _), (_, _, [ck]) => if cj = ck then k (pc + 1) L r (M.1, M.2.1, pm_u M.2.2.1 f i j (some q), M.2.2.2) else none
      | _, _ => none)
    | _ => none)
  | .arraylength => pm_r1 M S fun f _ r => pm_ari ns f fun n => k (pc + 1) L (pm_i (nI n) :: r) M
  | .new idx => pm_nw ns dd mi k idx pc L S M
  | .newarray ty => (match ty with
    | .int => pm_na ns k 1 2 pc (fun _ => true) L S M
    | .boolean => pm_na ns k 2 2 pc (fun _ => true) L S M
    | .long => pm_na ns k 3 2 pc (fun _ => true) L S M
    | _ => none)
  | .anewarray idx => (match pm_cls (pm_own mi) idx with
    | some (.inl ci) => pm_na ns k 4 3 pc (fun c => c == [ci]) L S M
    | _ => none)
  | .invokestatic idx => pm_inv call ns mi k 0 idx pc L S M
  | .invokevirtual idx => pm_inv call ns mi k 1 idx pc L S M
  | .invokespecial idx => pm_inv call ns mi k 2 idx pc L S M
  | .ireturn => (match S with
    | [.inl x] => (match pm_ret mi with
      | 0 => some (Sum.inl (some (pm_i x)), M)
      | 3 => pm_bo x (some (Sum.inl (some (pm_i x)), M))
      | _ => none)
    | _ => none)
  | .areturn => (match S with
    | [.inr (.inr q)] => if pm_ret mi = 2 then some (Sum.inl (some (pm_a q)), M) else none
    | _ => none)
  | .return_ => (match S with
    | [] => if pm_ret mi = 1 then some (Sum.inl none, M) else none
    | _ => none)
  | _ => none
def pm_go (call : Nat → List pm_V → pm_M → pm_R) (ns dd mi : Nat) : Nat → Nat → pm_L → List pm_V → pm_M → pm_R
  | 0, _, _, _, _ => none
  | n + 1, pc, L, S, M => match pm_tbl mi pc with
    | some (ins, _) => pm_step call ns dd mi (pm_go call ns dd mi n) ins pc L S M
    | none => none
/-- the locals at a method's entry -/
def pm_ent : List pm_V → pm_L
  | [] => []
  | v :: r => if pm_cat v = 2 then some v :: none :: pm_ent r else some v :: pm_ent r
def pm_call (fu ns : Nat) : Nat → Nat → List pm_V → pm_M → pm_R
  | 0, _, _, _ => none
  | d + 1, mi, a, M => if mi < 146 ∧ (pm_ent a).length ≤ pm_maxL mi then pm_go (pm_call fu ns d) ns d mi fu 0 (pm_ent a ++ List.replicate (pm_maxL mi - (pm_ent a).length) none) [] M else none
end
section
/-! how the pure machine's values, locals and memory stand for the machine's own; the rows that the kit has in another form -/
abbrev pm_G : Type := Nat × Nat × Nat × va_G × (Nat → ClassId)
def pm_ad (g : pm_G) (f i : Nat) : Nat := if f = 99 then g.2.1 else g.1 + pm_pidx f i
def pm_cv (g : pm_G) : pm_V → Value
  | .inl x => .int x
  | .inr (.inl x) => .long x
  | .inr (.inr none) => .null
  | .inr (.inr (some q)) => .ref (pm_ad g q.1 q.2)
theorem pm_cat_cv (g : pm_G) (v : pm_V) : (pm_cv g v).category = pm_cat v := by
  rcases v with x | x | _ | q <;> rfl
theorem pm_sum_cv (g : pm_G) (S : List pm_V) : ((S.map (pm_cv g)).map fun v => v.category).sum = (S.map pm_cat).sum := by
  congr 1
  rw [List.map_map]
  exact List.map_congr_left fun v _ => pm_cat_cv g v
def pm_LR (g : pm_G) (L : pm_L) (ls : Array Slot) : Prop := ls.size = L.length ∧ lv_wf ls ∧ ∀ (i : Nat) (v : pm_V), L[i]? = some (some v) → ls[i]? = some (.val (pm_cv g v))
theorem pm_pre_cat {L : pm_L} {j : Nat} {w : pm_V} (h : pm_pre L (j + 1) = true) (hw : L[j]? = some (some w)) : pm_cat w = 1 := by
  rcases w with x | x | q
  · rfl
  · simp [pm_pre, hw] at h
  · rfl
theorem pm_LR_st {g : pm_G} {L : pm_L} {ls : Array Slot} {i : Nat} {v : Value} (h : pm_LR g L ls) (hi : i < L.length) (hp : pm_pre L i = true) (hc : v.category = 1) :
    ∃ ls', storeLocals ls i v = some ls' ∧ ls'.size = L.length ∧ lv_wf ls' ∧ ls'[i]? = some (.val v) ∧ ∀ (j : Nat) (w : pm_V), j ≠ i → L[j]? = some (some w) → ls'[j]? = some (.val (pm_cv g w)) := by
  obtain ⟨h1, h2, h3⟩ := h
  obtain ⟨ls', e', q1, q2, q3⟩ := lv_store1 (l := []) (v := v) (i := i) (nL := L.length) ⟨h1, h2, fun _ h => by cases h⟩ hi hc
  refine ⟨ls', e', q1, q2, q3 (i, v) List.mem_cons_self, fun j w hj hw => ?_⟩
  obtain ⟨ls2, e2, r1, r2, r3⟩ := lv_store1 (l := [(j, pm_cv g w)]) (v := v) (i := i) (nL := L.length) ⟨h1, h2, fun q hq => by
    rw [List.mem_singleton] at hq
    rw [hq]; exact h3 j w hw⟩ hi hc
  have e3 : ls2 = ls' := Option.some.inj (e2.symm.trans e')
  subst e3
  refine r3 (j, pm_cv g w) (List.mem_cons_of_mem _ ?_)
  rw [List.mem_filter]
  refine ⟨List.mem_cons_self, ?_⟩
  by_cases hji : j + 1 = i
  · subst hji
    have := pm_pre_cat hp hw
    simp [pm_cat_cv, this]
  · simp [hj, hji]
theorem pm_LR_set {g : pm_G} {L : pm_L} {ls : Array Slot} {i : Nat} {v : pm_V} (h : pm_LR g L ls) (hi : i < L.length) (hp : pm_pre L i = true) (hc : pm_cat v = 1) :
    ∃ ls', storeLocals ls i (pm_cv g v) = some ls' ∧ pm_LR g (L.set i (some v)) ls' := by
  obtain ⟨ls', e', q1, q2, q3, q4⟩ := pm_LR_st (v := pm_cv g v) h hi hp (by rw [pm_cat_cv]; exact hc)
  refine ⟨ls', e', by rw [q1, List.length_set], q2, fun j w hw => ?_⟩
  by_cases hj : j = i
  · subst hj
    rw [List.getElem?_set_self hi] at hw
    cases hw
    exact q3
  · rw [List.getElem?_set_ne (Ne.symm hj)] at hw
    exact q4 j w hj hw
theorem pm_LR_none {g : pm_G} {L : pm_L} {ls : Array Slot} {i : Nat} {v : Value} (h : pm_LR g L ls) (hi : i < L.length) (hp : pm_pre L i = true) (hc : v.category = 1) :
    ∃ ls', storeLocals ls i v = some ls' ∧ pm_LR g (L.set i none) ls' := by
  obtain ⟨ls', e', q1, q2, q3, q4⟩ := pm_LR_st (v := v) h hi hp hc
  refine ⟨ls', e', by rw [q1, List.length_set], q2, fun j w hw => ?_⟩
  by_cases hj : j = i
  · subst hj
    rw [List.getElem?_set_self hi] at hw
    cases hw
  · rw [List.getElem?_set_ne (Ne.symm hj)] at hw
    exact q4 j w hj hw
theorem pm_c_eq (n : Int) : Int32.ofInt n = pm_c n := by
  cases n with
  | ofNat k => rfl
  | negSucc k => 
    show Int32.ofInt (Int.negSucc k) = - Int32.ofNat (k + 1)
    rw [Int.negSucc_eq, Int32.ofInt_neg]
    rfl
theorem pm_c8 {n : Int} (h1 : -128 ≤ n) (h2 : n ≤ 127) : (Int8.ofInt n).toInt32 = pm_c n := by
  rw [← pm_c_eq, ← Int32.toInt_inj, Int8.toInt_toInt32, Int8.toInt_ofInt, Int32.toInt_ofInt]
  rw [Int.bmod_eq_of_le (by show -(((256 : Nat) : Int) / 2) ≤ n; omega) (by show n < (((256 : Nat) : Int) + 1) / 2; omega), Int.bmod_eq_of_le (by show -(((4294967296 : Nat) : Int) / 2) ≤ n; omega) (by show n < (((4294967296 : Nat) : Int) + 1) / 2; omega)]
theorem pm_c16 {n : Int} (h1 : -32768 ≤ n) (h2 : n ≤ 32767) : (Int16.ofInt n).toInt32 = pm_c n := by
  rw [← pm_c_eq, ← Int32.toInt_inj, Int16.toInt_toInt32, Int16.toInt_ofInt, Int32.toInt_ofInt]
  rw [Int.bmod_eq_of_le (by show -(((65536 : Nat) : Int) / 2) ≤ n; omega) (by show n < (((65536 : Nat) : Int) + 1) / 2; omega), Int.bmod_eq_of_le (by show -(((4294967296 : Nat) : Int) / 2) ≤ n; omega) (by show n < (((4294967296 : Nat) : Int) + 1) / 2; omega)]
section PMR
variable {p : Program} {l : Launch} {e : Env} {R : Room} {s : State} {m : MethodId} {args : Array Value} {below : List Frame} {meth : Method} {c : Code} {H : Heap} {locs : List Loc} {cells slots : Nat} {Q : State → Prop}
variable {cc : ByteArray} {pc : Nat} {ls : Array Slot} {rest : List Value}
theorem pm_w_istore_n (hexec : p.tables.exec = Jvm.exec) (hb : c.code = cc) {k : Fin 4} {x : Int32} {ls' : Array Slot} (hdg : decode cc pc = .ok (.istore_n k, 1)) (e' : storeLocals ls (k : Nat) (.int x) = some ls')
    (kk : W p l e R s m args below meth c H locs cells slots Q (F0 m (pc + 1) ls' rest)) : W p l e R s m args below meth c H locs cells slots Q (F0 m pc ls (.int x :: rest)) := by
  intro T hT X
  obtain ⟨t, a, b⟩ := kk T hT X
  refine ⟨t, ?_, b⟩
  jvm_step X.here [X.here.top, ↓top_set X.here.top, hexec, hb, hdg, e']
  exact a
theorem pm_w_istore (hexec : p.tables.exec = Jvm.exec) (hb : c.code = cc) {i : Nat} {x : Int32} {ls' : Array Slot} (hdg : decode cc pc = .ok (.istore i, 2)) (e' : storeLocals ls i (.int x) = some ls')
    (kk : W p l e R s m args below meth c H locs cells slots Q (F0 m (pc + 2) ls' rest)) : W p l e R s m args below meth c H locs cells slots Q (F0 m pc ls (.int x :: rest)) := by
  intro T hT X
  obtain ⟨t, a, b⟩ := kk T hT X
  refine ⟨t, ?_, b⟩
  jvm_step X.here [X.here.top, ↓top_set X.here.top, hexec, hb, hdg, e']
  exact a
theorem pm_w_astore_n (hexec : p.tables.exec = Jvm.exec) (hb : c.code = cc) {k : Fin 4} {v : Value} (hv : v = .null ∨ ∃ a, v = .ref a) {ls' : Array Slot} (hdg : decode cc pc = .ok (.astore_n k, 1)) (e' : storeLocals ls (k : Nat) v = some ls')
    (kk : W p l e R s m args below meth c H locs cells slots Q (F0 m (pc + 1) ls' rest)) : W p l e R s m args below meth c H locs cells slots Q (F0 m pc ls (v :: rest)) := by
  intro T hT X
  obtain ⟨t, a, b⟩ := kk T hT X
  refine ⟨t, ?_, b⟩
  rcases hv with rfl | ⟨q, rfl⟩
  · jvm_step X.here [X.here.top, ↓top_set X.here.top, hexec, hb, hdg, e', Value.isRef]
    exact a
  · jvm_step X.here [X.here.top, ↓top_set X.here.top, hexec, hb, hdg, e', Value.isRef]
    exact a
theorem pm_w_astore (hexec : p.tables.exec = Jvm.exec) (hb : c.code = cc) {i : Nat} {v : Value} (hv : v = .null ∨ ∃ a, v = .ref a) {ls' : Array Slot} (hdg : decode cc pc = .ok (.astore i, 2)) (e' : storeLocals ls i v = some ls')
    (kk : W p l e R s m args below meth c H locs cells slots Q (F0 m (pc + 2) ls' rest)) : W p l e R s m args below meth c H locs cells slots Q (F0 m pc ls (v :: rest)) := by
  intro T hT X
  obtain ⟨t, a, b⟩ := kk T hT X
  refine ⟨t, ?_, b⟩
  rcases hv with rfl | ⟨q, rfl⟩
  · jvm_step X.here [X.here.top, ↓top_set X.here.top, hexec, hb, hdg, e', Value.isRef]
    exact a
  · jvm_step X.here [X.here.top, ↓top_set X.here.top, hexec, hb, hdg, e', Value.isRef]
    exact a
theorem pm_w_iinc (hexec : p.tables.exec = Jvm.exec) (hb : c.code = cc) {i : Nat} {n : Int} {x : Int32} {ls' : Array Slot} (hdg : decode cc pc = .ok (.iinc i n, 3)) (hg : ls[i]? = some (.val (.int x))) (e' : storeLocals ls i (.int (x + Int32.ofInt n)) = some ls')
    (kk : W p l e R s m args below meth c H locs cells slots Q (F0 m (pc + 3) ls' rest)) : W p l e R s m args below meth c H locs cells slots Q (F0 m pc ls rest) := by
  intro T hT X
  obtain ⟨t, a, b⟩ := kk T hT X
  refine ⟨t, ?_, b⟩
  jvm_step X.here [X.here.top, ↓top_set X.here.top, hexec, hb, hdg, hg, e']
  exact a
theorem pm_cv_ref (g : pm_G) (q : Option (Nat × Nat)) : pm_cv g (pm_a q) = .null ∨ ∃ a, pm_cv g (pm_a q) = .ref a := by
  cases q with
  | none => exact Or.inl rfl
  | some q => exact Or.inr ⟨_, rfl⟩
theorem pm_w_aload_n (hexec : p.tables.exec = Jvm.exec) (hb : c.code = cc) {k : Fin 4} {v : Value} (hv : v = .null ∨ ∃ a, v = .ref a) (hdg : decode cc pc = .ok (.aload_n k, 1)) (hl : ls[(k : Nat)]? = some (.val v))
    (kk : W p l e R s m args below meth c H locs cells slots Q (F0 m (pc + 1) ls (v :: rest))) : W p l e R s m args below meth c H locs cells slots Q (F0 m pc ls rest) := by
  rcases hv with rfl | ⟨a, rfl⟩
  · exact lv_aload_nN hexec hb hdg rfl hl kk
  · exact lv_aload_n hexec hb hdg rfl hl kk
theorem pm_w_aload (hexec : p.tables.exec = Jvm.exec) (hb : c.code = cc) {i : Nat} {v : Value} (hv : v = .null ∨ ∃ a, v = .ref a) (hdg : decode cc pc = .ok (.aload i, 2)) (hl : ls[i]? = some (.val v))
    (kk : W p l e R s m args below meth c H locs cells slots Q (F0 m (pc + 2) ls (v :: rest))) : W p l e R s m args below meth c H locs cells slots Q (F0 m pc ls rest) := by
  rcases hv with rfl | ⟨a, rfl⟩
  · exact lv_aloadN hexec hb hdg hl kk
  · exact lv_aload hexec hb hdg hl kk
/-- a return: what holds at the end -/
theorem pm_w_iret (hexec : p.tables.exec = Jvm.exec) (hb : c.code = cc) {ty : FieldType} (hr : meth.sig.returnType = some ty) {v : Int32} (hn : narrow ty (.int v) = .int v) (hlocks : meth.locks = false)
    (hq : ∀ t : State, t.heap = H → t.status = .running → Ended t below (.returned (some (.int v))) → s.WarmedH t.vm → s.sameButNew ({ t with vm := s.vm } : State) locs cells slots → Q t)
    (hdg : decode cc pc = .ok (.ireturn, 1)) : W p l e R s m args below meth c H locs cells slots Q (F0 m pc ls [.int v]) := by
  intro T hT X
  obtain ⟨fs, hret, hrun, hended, hW, hframe⟩ := X.leave (v := some (.int v)) (fun h => by rw [hr] at h; cases h)
  have hmeth' : T.vm.method? m = some meth := X.method'
  refine ⟨T.setFrames fs, ?_, hq _ hT hrun hended hW hframe⟩
  jvm_step X.here [X.here.top, hexec, hb, hdg, hmeth', hr, hn]
  (try refine ⟨rfl, ?_⟩); (try refine ⟨rfl, ?_⟩)
  first | (intro acts; rw [hret _ acts rfl rfl rfl]) | rw [hret _ _ rfl rfl rfl]
  exact Steps.refl _
theorem pm_w_vret (hexec : p.tables.exec = Jvm.exec) (hb : c.code = cc) (hr : meth.sig.returnType = none) (hlocks : meth.locks = false)
    (hq : ∀ t : State, t.heap = H → t.status = .running → Ended t below (.returned none) → s.WarmedH t.vm → s.sameButNew ({ t with vm := s.vm } : State) locs cells slots → Q t)
    (hdg : decode cc pc = .ok (.return_, 1)) : W p l e R s m args below meth c H locs cells slots Q (F0 m pc ls []) := by
  intro T hT X
  obtain ⟨fs, hret, hrun, hended, hW, hframe⟩ := X.leave (v := none) (fun _ => rfl)
  have hmeth' : T.vm.method? m = some meth := X.method'
  refine ⟨T.setFrames fs, ?_, hq _ hT hrun hended hW hframe⟩
  jvm_step X.here [X.here.top, hexec, hb, hdg, hmeth', hr]
  (try refine ⟨rfl, ?_⟩); (try refine ⟨rfl, ?_⟩)
  first | (intro acts; rw [hret _ acts rfl rfl rfl]) | rw [hret _ _ rfl rfl rfl]
  exact Steps.refl _
theorem pm_w_aret (hexec : p.tables.exec = Jvm.exec) (hb : c.code = cc) {nm : String} (hr : meth.sig.returnType = some (.object nm)) {v : Value} (hv : v = .null ∨ ∃ a, v = .ref a) (hlocks : meth.locks = false)
    (hq : ∀ t : State, t.heap = H → t.status = .running → Ended t below (.returned (some v)) → s.WarmedH t.vm → s.sameButNew ({ t with vm := s.vm } : State) locs cells slots → Q t)
    (hdg : decode cc pc = .ok (.areturn, 1)) : W p l e R s m args below meth c H locs cells slots Q (F0 m pc ls [v]) := by
  intro T hT X
  obtain ⟨fs, hret, hrun, hended, hW, hframe⟩ := X.leave (v := some v) (fun h => by rw [hr] at h; cases h)
  have hmeth' : T.vm.method? m = some meth := X.method'
  refine ⟨T.setFrames fs, ?_, hq _ hT hrun hended hW hframe⟩
  rcases hv with rfl | ⟨a, rfl⟩ <;>
    (jvm_step X.here [X.here.top, hexec, hb, hdg, hmeth', hr]
     (try refine ⟨rfl, ?_⟩); (try refine ⟨rfl, ?_⟩)
     first | (intro acts; rw [hret _ acts rfl rfl rfl]) | rw [hret _ _ rfl rfl rfl]
     exact Steps.refl _)
end PMR
end
section
/-! calls by contract that come back or throw; exceptions that are caught or go on -/
section PMC
variable {p : Program} {l : Launch} {e : Env} {R : Room} {s : State} {m : MethodId} {args : Array Value} {below : List Frame} {meth : Method} {c : Code} {T : State} {locs : List Loc} {cells slots : Nat}
theorem pm_after (X : Stand p l e R s m args below meth c T locs cells slots) {g : JFrame} (hg : g.method = m) (hsize : g.locals.size = c.maxLocals) {ig : Instr} {len : Nat} (hdg : decode c.code g.pc = .ok (ig, len))
    {y : MethodName} {S : Spec} {P : Array Value → State → Prop} {Q : Array Value → State → Outcome → State → Prop} (hM : MetFree l y S P (fun _ _ _ _ _ => True) Q)
    {mk : MethodId} {a : Array Value} (hn : T.methodNamed? y = some mk) {methY : Method} {cY : Code} (hmY : T.vm.method? mk = some methY) (hcY : methY.code = some cY) {kY : Class} (hkY : T.vm.classes[mk.cls]? = some kY) (hinit : kY.init = .initialized)
    (hframes : S.room.frames + 1 ≤ R.frames) (hlocals : 2 * g.monitorRoom + (g.stack.map fun v => v.category).sum + (cY.maxLocals + 11) + S.room.locals ≤ R.locals) (hcells : cells + S.room.cells ≤ R.cells) (hslots : slots + S.room.slots ≤ R.slots)
    (hpre : S.pre.before a T = true) (hP : P a (T.calling g mk a)) :
    ∃ o s₂, Steps p.tables e below (doInvoke e (T.setTop g) [] mk a).1 s₂ ∧ Ended s₂ (.java g :: below) o ∧ Q a (T.calling g mk a) o s₂ := by
  have h : At T g.method c below := by rw [hg]; exact X.here
  have happ : S.appliesLoose y e.platform (T.calling g mk a) = true :=
    Spec.appliesLoose_calling (g := g) h hdg hn hkY hinit (X.room_calling (g := g) (R' := S.room) hsize hmY hcY hframes hlocals hcells hslots) hpre
  obtain ⟨mid, hmid⟩ := h.above
  have hfr : (T.setTop g).frames = (.java g :: mid) ++ below := by rw [State.frames_setTop' g h.top, hmid]; rfl
  obtain ⟨o, s₂, hsteps, -, hend, hq⟩ := Steps.callFree hM p X.admits X.cas X.clock (acts := []) hfr happ hP trivial
  rw [State.frames_setTop' g h.top, X.tail] at hend
  exact ⟨o, s₂, hsteps, hend, hq⟩
theorem pm_came (X : Stand p l e R s m args below meth c T locs cells slots) {g : JFrame} (hg : g.method = m) {ig : Instr} {len : Nat} (hdg : decode c.code g.pc = .ok (ig, len))
    {mk : MethodId} {a : Array Value} {t : State} {v : Option Value} {L : List Loc} {k n : Nat} (hend : Ended t (.java g :: below) (.returned v)) (hW : (T.calling g mk a).WarmedH t.vm)
    (hsame : (T.calling g mk a).sameButNew ({ t with vm := (T.calling g mk a).vm } : State) L k n) :
    ∃ T', Stand p l e R s m args below meth c T' (locs ++ L) (cells + k) (slots + n) ∧ T'.heap = t.heap ∧ T'.vm = t.vm ∧ t = T'.setTop { g with pc := g.pc + len, stack := v.toList ++ g.stack } := by
  subst hg
  have htop := X.here.top
  obtain ⟨e2, q2, q3, q4, q5, q6⟩ := hsame
  have e3 : t = ({ (T.calling g mk a).setFrames t.frames with heap := t.heap, slotsUsed := t.slotsUsed } : State).setVm t.vm := by
    have : t = ({ t with vm := (T.calling g mk a).vm } : State).setVm t.vm := rfl
    rw [e2] at this
    exact this
  obtain ⟨c₂, i₂, len₂, hc₂, hd₂, hf₂⟩ := hend
  have hW' : T.WarmedH t.vm := hW
  have hcc : c₂ = c := by
    have h1 : t.code? g.method = T.code? g.method := by
      rw [State.code?_eq, State.code?_eq, hW'.alike.method?]
    exact Option.some.inj (hc₂.symm.trans (h1.trans X.here.code))
  subst hcc
  have hlen : len₂ = len := by rw [hdg] at hd₂; cases hd₂; rfl
  subst hlen
  obtain ⟨g₀, hr⟩ := X.frames_eq
  have ht : t = (({ T with heap := t.heap, slotsUsed := t.slotsUsed } : State).setVm t.vm).setTop { g with pc := g.pc + len₂, stack := v.toList ++ g.stack } := by
    have hr' : (({ T with heap := t.heap, slotsUsed := t.slotsUsed } : State).setVm t.vm).frames = .java g₀ :: below := hr
    refine e3.trans ?_
    rw [hf₂, State.calling_eq htop, State.setFrames_setFrames, State.setTop_of_frames _ hr']
    rfl
  have hB : T.sameButNew ({ T with heap := t.heap, slotsUsed := t.slotsUsed } : State) L k n := by
    refine ⟨?_, q2, q3, q4, q5, q6⟩
    obtain ⟨th, hth, -⟩ := State.frames_cons hr
    show ({ T with heap := t.heap, slotsUsed := t.slotsUsed } : State) = { T.setFrames T.frames with heap := t.heap, slotsUsed := t.slotsUsed }
    rw [State.setFrames_self hth]
  exact ⟨({ T with heap := t.heap, slotsUsed := t.slotsUsed } : State).setVm t.vm,
    ⟨X.admits, X.cas, X.clock, X.frames, X.room, X.hears, X.method, X.code, (X.here.setHeapUsed t.heap t.slotsUsed).setVm hW'.alike, X.tail, State.WarmedH.trans X.warmed hW', X.limits, X.bytes, X.same.trans (hB.setVm s.vm)⟩, rfl, rfl, ht⟩
end PMC
/-- the search for a handler ends at h; the tables are then vm' -/
def pm_Finds (e : Env) (s : State) (f : JFrame) (a : Addr) (h : Handler) (vm' : Vm) : Prop :=
  ∀ (Q : Handler → Pre) (E : CtlPost) (d : Bool) (acts : List Action), wp (findHandler f a) Q E e d acts s ↔ Q h d acts (s.setVm vm')
section PMH
variable {Q : Handler → Pre} {E : CtlPost} {e : Env} {d : Bool} {acts : List Action} {s : State} {f : JFrame} {a : Addr}
theorem pm_go_link {x : ExceptionTableEntry} {t : List ExceptionTableEntry} {c : ClassId} {cell : Cell} (hx : covers x f.pc = true) (h0 : x.catchType ≠ 0)
    (hl : s.vm.ClassLinks e.platform f.method.cls x.catchType c) (hcell : s.heap[a]? = some cell) (hobj : ∀ k, cell.vm ≠ .statics k)
    (hk : ∃ k, s.vm.classes[cell.cls]? = some k) (hc : ∃ k, s.vm.classes[c]? = some k) :
    wp (findHandler.go f a (x :: t)) Q E e d acts s ↔ (if s.vm.assignable cell.cls c = true then Q (.found x.handlerPc) d acts (s.setVm (s.vm.noted f.method.cls x.catchType (.cls c)))
      else wp (findHandler.go f a t) Q E e d acts (s.setVm (s.vm.noted f.method.cls x.catchType (.cls c)))) := by
  simp only [covers] at hx
  obtain ⟨ha, ht⟩ := (resolveClass_links e.toSetting hl).op (op := VmOp.resolveClass f.method.cls x.catchType) rfl
  have hal : s.vm.Alike (s.vm.noted f.method.cls x.catchType (.cls c)) := (Vm.Alike.refl s.vm).noted _ _ _
  obtain ⟨k1, hk1⟩ := hk
  obtain ⟨k2, hk2⟩ := hc
  obtain ⟨k1', hk1', -⟩ := hal.2.2 _ _ hk1
  obtain ⟨k2', hk2', -⟩ := hal.2.2 _ _ hk2
  cases hfit : s.vm.assignable cell.cls c with
  | true =>
    have hfit' : (s.vm.noted f.method.cls x.catchType (.cls c)).assignable cell.cls c = true := by rw [hal.assignable]; exact hfit
    simp [findHandler.go, hx, h0, ha, ht, hcell, hobj, hk1', hk2', hfit', VmOp.dirties, VmOp.acts]
  | false =>
    have hfit' : (s.vm.noted f.method.cls x.catchType (.cls c)).assignable cell.cls c = false := by rw [hal.assignable]; exact hfit
    simp [findHandler.go, hx, h0, ha, ht, hcell, hobj, hk1', hk2', hfit', VmOp.dirties, VmOp.acts]
end PMH
/-- every row that covers the place names a class that can be linked; the first that takes the object is x -/
theorem pm_search {e : Env} {s₀ : State} {f : JFrame} {a : Addr} {cell : Cell} (hobj : ∀ k, cell.vm ≠ .statics k) (hk0 : ∃ k, s₀.vm.classes[cell.cls]? = some k)
    (x : ExceptionTableEntry) (rest : List ExceptionTableEntry) (hx : covers x f.pc = true) (h0 : x.catchType ≠ 0) {cx : ClassId} (hlx : s₀.vm.ClassLinks e.platform f.method.cls x.catchType cx) (hfx : s₀.vm.assignable cell.cls cx = true) :
    ∀ (pre : List ExceptionTableEntry) (S : State), s₀.WarmedH S.vm → S.heap[a]? = some cell → (∀ y ∈ pre, covers y f.pc = false ∨ (y.catchType ≠ 0 ∧ ∃ cy, s₀.vm.ClassLinks e.platform f.method.cls y.catchType cy ∧ s₀.vm.assignable cell.cls cy = false)) →
      ∃ vm', s₀.WarmedH vm' ∧ ∀ (Q : Handler → Pre) (E : CtlPost) (d : Bool) (acts : List Action), wp (findHandler.go f a (pre ++ x :: rest)) Q E e d acts S ↔ Q (.found x.handlerPc) d acts (S.setVm vm') := by
  obtain ⟨k0, hk0⟩ := hk0
  intro pre
  induction pre with
  | nil =>
    intro S hW hcell _
    obtain ⟨k0', hk0', -⟩ := hW.alike.2.2 _ _ hk0
    obtain ⟨dk, _, _, kt, hd, _, _, _, _, hkt, _, hopen⟩ := hlx.here
    obtain ⟨kt', hkt', -⟩ := hW.alike.2.2 _ _ hkt
    refine ⟨_, hW.noted hd hopen (State.rightAt_cls hlx), fun Q E d acts => ?_⟩
    rw [List.nil_append, pm_go_link hx h0 (hW.classLinks hlx) hcell hobj ⟨k0', hk0'⟩ ⟨kt', hkt'⟩, if_pos (by rw [hW.alike.assignable]; exact hfx)]
  | cons y ys ih =>
    intro S hW hcell hpass
    obtain ⟨k0', hk0', -⟩ := hW.alike.2.2 _ _ hk0
    have hrest := fun z hz => hpass z (List.mem_cons_of_mem _ hz)
    by_cases hcov : covers y f.pc = true
    · rcases hpass y List.mem_cons_self with h | ⟨hy0, cy, hl, hno⟩
      · rw [h] at hcov; cases hcov
      · obtain ⟨dk, _, _, kt, hd, _, _, _, _, hkt, _, hopen⟩ := hl.here
        obtain ⟨kt', hkt', -⟩ := hW.alike.2.2 _ _ hkt
        obtain ⟨vm', hW', hq⟩ := ih (S.setVm (S.vm.noted f.method.cls y.catchType (.cls cy))) (hW.noted hd hopen (State.rightAt_cls hl)) hcell hrest
        refine ⟨vm', hW', fun Q E d acts => ?_⟩
        rw [List.cons_append, pm_go_link hcov hy0 (hW.classLinks hl) hcell hobj ⟨k0', hk0'⟩ ⟨kt', hkt'⟩, if_neg (by rw [hW.alike.assignable, hno]; decide)]
        exact hq Q E d acts
    · obtain ⟨vm', hW', hq⟩ := ih S hW hcell hrest
      refine ⟨vm', hW', fun Q E d acts => ?_⟩
      rw [List.cons_append, W.findHandler_go_skip (by simpa using hcov)]
      exact hq Q E d acts
theorem pm_step_catch {e : Env} {s : State} {a : Addr} {f : JFrame} {r : List Frame} {pc : Nat} {vm' : Vm} (hfind : pm_Finds e s f a (.found pc) vm') :
    (stepThrowing e s a (.java f :: r)).Is ((s.setVm vm').setFrames (.java { f with pc := pc, stack := [.ref a] } :: r)) [] := by
  simp only [stepThrowing, searchFrame, vmDo]
  generalize hr : Sem.go _ e false [] s = res
  obtain ⟨as, rfl, ha⟩ := Sem.eq_ok_of hr (a := Handler.found pc) (s' := s.setVm vm') (acts' := []) (by simp [hfind _ _ _ _])
  exact ⟨rfl, ha⟩
theorem pm_frames2 (u : State) (vm' : Vm) (F G : List Frame) : ((u.setFrames F).setVm vm').setFrames G = (u.setVm vm').setFrames G := by
  have h1 : (u.setFrames F).setVm vm' = (u.setVm vm').setFrames F := rfl
  rw [h1, State.setFrames_setFrames]
theorem pm_steps_catch {tb : Tables} {e : Env} {s target : State} {g : JFrame} {c : Code} {below : List Frame} {a : Addr} (h : At s g.method c below) {pc : Nat} {vm' : Vm}
    (hfind : pm_Finds e ((s.setTop g).pushFrame (.throwing a)) g a (.found pc) vm') (hrest : Steps tb e below ((s.setVm vm').setTop { g with pc := pc, stack := [.ref a] }) target) :
    Steps tb e below ((s.setTop g).pushFrame (.throwing a)) target := by
  obtain ⟨hgo, hw⟩ := h.throwing a
  refine Steps.head hgo hw ?_
  rw [stepThread_throwing (frames_entered h.top _), (pm_step_catch (s := (s.setTop g).pushFrame (.throwing a)) hfind).1]
  obtain ⟨g₀, hg⟩ := Option.isSome_iff_exists.mp h.top
  obtain ⟨r, hr⟩ := State.topJava?_eq_some.mp hg
  have hr' : (s.setVm vm').frames = .java g₀ :: r := hr
  rw [State.setTop_of_frames _ hr'] at hrest
  rw [hr, List.tail_cons, State.pushFrame, pm_frames2, State.setTop_of_frames _ hr, pm_frames2]
  exact hrest
section PMK
variable {p : Program} {l : Launch} {e : Env} {R : Room} {s : State} {m : MethodId} {args : Array Value} {below : List Frame} {meth : Method} {c : Code} {T : State} {locs : List Loc} {cells slots : Nat}
theorem pm_caught (X : Stand p l e R s m args below meth c T locs cells slots) (a : Addr) {g : JFrame} (hg : g.method = m) {cell : Cell} (hcell : T.heap[a]? = some cell) (hobj : cell.vm = .none)
    (hk0 : ∃ k, s.vm.classes[cell.cls]? = some k) (pre : List ExceptionTableEntry) (x : ExceptionTableEntry) (rest : List ExceptionTableEntry) (hsplit : c.exceptionTable.toList = pre ++ x :: rest)
    (hpass : ∀ y ∈ pre, covers y g.pc = false ∨ (y.catchType ≠ 0 ∧ ∃ cy, s.vm.ClassLinks e.platform m.cls y.catchType cy ∧ s.vm.assignable cell.cls cy = false)) (hx : covers x g.pc = true) (h0 : x.catchType ≠ 0)
    {cx : ClassId} (hlx : s.vm.ClassLinks e.platform m.cls x.catchType cx) (hfx : s.vm.assignable cell.cls cx = true) :
    ∃ vm', Stand p l e R s m args below meth c (T.setVm vm') locs cells slots ∧
      ∀ target, Steps p.tables e below ((T.setVm vm').setTop { g with pc := x.handlerPc, stack := [.ref a] }) target → Steps p.tables e below ((T.setTop g).pushFrame (.throwing a)) target := by
  subst hg
  obtain ⟨vm', hW', hq⟩ := pm_search (e := e) (s₀ := s) (f := g) (a := a) (cell := cell) (fun k h => by rw [hobj] at h; cases h) hk0 x rest hx h0 hlx hfx pre ((T.setTop g).pushFrame (.throwing a)) X.warmed hcell hpass
  have hf : pm_Finds e ((T.setTop g).pushFrame (.throwing a)) g a (.found x.handlerPc) vm' := fun Q E d acts => by
    rw [W.findHandler_eq (s := (T.setTop g).pushFrame (.throwing a)) (meth := meth) (code := c) X.method' X.code, hsplit]; exact hq Q E d acts
  exact ⟨vm', X.noted hW', fun target hrest => pm_steps_catch X.here hf hrest⟩
end PMK
end
section
/-! 'throw new E()' without a stack trace: what it needs of java.lang.Throwable's statics; the frame seen anew in its present heap -/
def pm_Z1 (n d : String) (B : Nat) (U : State) (H : Heap) : Prop := ∃ (c : ClassId) (k : Class) (i : Nat) (f : Field) (a : Nat) (cell : Cell) (v : Value), U.vm.findClass Bundle.tN = some c ∧ U.fieldFound? Bundle.tN n d = some (c, k, i, f) ∧ f.isStatic = true ∧ k.statics = some a ∧ H[a]? = some cell ∧ cell.vm.isStatics = true ∧ cell.cls = c ∧ f.slot < cell.slots.size ∧ k.staticTypes[f.slot]? = some f.type ∧ cell.slots[f.slot]? = some v ∧ v.isRef = true ∧ a < B
theorem pm_Z1.moved {n d : String} {B : Nat} {u U : State} {H H1 : Heap} (h : pm_Z1 n d B u H) (hvm : u.vm.Alike U.vm) (hq : ∀ a : Nat, a < B → H1[a]? = H[a]?) : pm_Z1 n d B U H1 := by
  obtain ⟨c, k, i, f, a, cell, v, h1, h2, h3, h4, h5, h6, h7, h8, h9, h10, h11, h12⟩ := h
  obtain ⟨k', hi', he⟩ := State.fieldFound?_setVm hvm h2
  exact ⟨c, k', i, f, a, cell, v, by rw [hvm.findClass]; exact h1, hi', h3, by rw [he]; exact h4, by rw [hq a h12]; exact h5, h6, h7, h8, by rw [he]; exact h9, h10, h11, h12⟩
theorem pm_Z1.lays {n d : String} {B : Nat} {s : State} {args : Array Value} (h : pm_Z1 n d B s s.heap) : (Cond.laysStatic Bundle.tN n d).before args s = true := by
  obtain ⟨c, k, i, f, a, cell, v, h1, h2, h3, h4, h5, h6, h7, h8, h9, -⟩ := h
  show (Cond.laysStatic Bundle.tN n d).holds args s none s [] = true
  exact Cond.laysStatic_of h1 h2 h3 h4 h5 h6 h7 h8 h9
theorem pm_Z1.ref {n d : String} {B : Nat} {s : State} {args : Array Value} (h : pm_Z1 n d B s s.heap) : (Cond.isRef (.static Bundle.tN n d)).before args s = true := by
  obtain ⟨c, k, i, f, a, cell, v, h1, h2, h3, h4, h5, h6, h7, h8, h9, h10, h11, -⟩ := h
  have he : (Term.static Bundle.tN n d).eval args s none [] s = some v := by
    simp [Term.eval, State.fieldNamed?, h2, h3, h4, h5, h6, h10]
  simp only [Cond.before, Cond.holds, Cond.value, he]
  cases v <;> simp_all [Value.isRef]
theorem pm_Z1.of {args : Array Value} {s : State} {n d : String} (hl : (Cond.laysStatic Bundle.tN n d).before args s = true) (h : (Cond.isRef (.static Bundle.tN n d)).before args s = true) : pm_Z1 n d s.heap.size s s.heap := by
  obtain ⟨c, k, i, f, a, cell, h1, h2, h3, h4, h5, h6, h7, h8, h9⟩ := Cond.laysStatic_spec hl
  obtain ⟨v, hv⟩ := Cond.staticRefV h2 h3 h4 h5 h6 h
  exact ⟨c, k, i, f, a, cell, v.v, h1, h2, h3, h4, h5, h6, h7, h8, h9, hv, v.ok, (Array.getElem?_eq_some_iff.mp h5).1⟩
section PMA
variable {p : Program} {l : Launch} {e : Env} {R : Room} {s : State} {m : MethodId} {args : Array Value} {below : List Frame} {meth : Method} {c : Code} {H : Heap} {locs : List Loc} {cells slots : Nat} {Q : State → Prop}
/-- a frame that stands at T stands there too as if it had been called at T: a start s' with T's heap; what then holds from s' holds from s -/
theorem pm_again {T : State} (X : Stand p l e R s m args below meth c T locs cells slots) (R' : Room) (hroom : R'.frames ≤ R.frames ∧ R'.locals ≤ R.locals ∧ cells + R'.cells ≤ R.cells ∧ slots + R'.slots ≤ R.slots) :
    ∃ s' : State, s'.vm = s.vm ∧ s'.heap = T.heap ∧ Stand p l e R' s' m args below meth c T [] 0 0 ∧
      ∀ (U : State) (k n : Nat), s'.sameButNew ({ U with vm := s'.vm } : State) [] k n → s.sameButNew ({ U with vm := s.vm } : State) locs (cells + k) (slots + n) := by
  obtain ⟨g₀, hfr⟩ := X.frames_eq
  obtain ⟨th, hth, -⟩ := State.frames_cons hfr
  have hcur : T.cur < T.threads.size := State.cur_lt_of_frames hfr
  have hF : ((T.setVm s.vm).setFrames (.invoking m args :: below)).frames = .invoking m args :: below := State.frames_setFrames (s := T.setVm s.vm) _ hcur
  have hlim : e.platform.stackLimits ((T.setVm s.vm).setFrames (.invoking m args :: below)).me = e.platform.stackLimits s.me := by
    rw [State.stackLimits_setFrames]; exact X.limits
  have hby : ((T.setVm s.vm).setFrames (.invoking m args :: below)).me.stackBytes = s.me.stackBytes := by
    rw [State.stackBytes_setFrames]; exact X.bytes
  have hus : ((T.setVm s.vm).setFrames (.invoking m args :: below)).localsInUse = s.localsInUse :=
    (State.localsInUse_invoking hF (meth := meth) (c := c) X.method X.code).trans (State.localsInUse_invoking X.frames X.method X.code).symm
  have hself : (T.setVm s.vm).setFrames T.frames = T.setVm s.vm := State.setFrames_self (s := T.setVm s.vm) hth
  have hno : T.heap.toList.drop T.heap.size = [] := List.drop_eq_nil_of_le (by simp)
  have hrm : ((T.setVm s.vm).setFrames (.invoking m args :: below)).hasRoom e.platform R' = true := by
    have h0 := X.room
    have a1 := X.heapSize
    have a2 := X.used
    obtain ⟨b1, b2, b3, b4⟩ := hroom
    simp only [State.hasRoom, Bool.and_eq_true, decide_eq_true_eq, hF, hus, hlim, hby, List.length_cons, X.frames] at h0 ⊢
    have e1 : ((T.setVm s.vm).setFrames (.invoking m args :: below)).heap.size = T.heap.size := rfl
    have e2 : ((T.setVm s.vm).setFrames (.invoking m args :: below)).slotsUsed = T.slotsUsed := rfl
    have e3 : ((T.setVm s.vm).setFrames (.invoking m args :: below)).slotsTrue = true := X.book
    rw [e1, e2, e3]
    refine ⟨⟨⟨⟨?_, ?_, ?_, ?_, ?_, h0.1.1.1.2.2.2.2.2⟩, ?_⟩, ?_⟩, rfl⟩ <;> omega
  have hsm : ((T.setVm s.vm).setFrames (.invoking m args :: below)).sameButNew (T.setVm s.vm) [] 0 0 := by
    refine ⟨?_, Nat.le_refl _, Nat.le_refl _, ?_, ?_, fun a c9 h9 => ⟨c9, h9, rfl, rfl, fun _ _ => rfl⟩⟩
    · have h1 : (((T.setVm s.vm).setFrames (.invoking m args :: below)).setFrames (T.setVm s.vm).frames) = T.setVm s.vm := by
        rw [State.setFrames_setFrames]; exact hself
      rw [h1]
    · show T.slotsUsed = T.slotsUsed + ((T.heap.toList.drop T.heap.size).map (·.slots.size)).sum
      rw [hno]; rfl
    · show ((T.heap.toList.drop T.heap.size).map (·.slots.size)).sum ≤ 0
      rw [hno]; exact Nat.le_refl _
  refine ⟨(T.setVm s.vm).setFrames (.invoking m args :: below), rfl, rfl, ⟨X.admits, X.cas, X.clock, hF, hrm, X.hears, X.method, X.code, X.here, X.tail, X.warmed, hlim.symm ▸ X.limits, hby.symm ▸ X.bytes, hsm⟩, fun U k n hU => ?_⟩
  obtain ⟨q1, q2⟩ := hU
  rw [State.setFrames_setFrames] at q1
  have h2 : (T.setVm s.vm).sameButNew ({ U with vm := s.vm } : State) [] k n := ⟨q1, q2⟩
  have h3 := X.same.trans h2
  rw [List.append_nil] at h3
  exact h3
theorem pm_tab {w : Cond} (hc : w.onTables = true) {A A' : Array Value} {u U : State} (h : u.vm = U.vm) (hb : w.before A u = true) : w.before A' U = true := va_tabs hc h hb
/-- the words of a throw that speak of the heap -/
def pm_hp (w : Cond) : Bool := decide (w = .isRef (.static Bundle.tN "UNASSIGNED_STACK" Bundle.steD)) || decide (w = .isRef (.static Bundle.tN "SUPPRESSED_SENTINEL" Bundle.listD)) || decide (w = .laysStatic Bundle.tN "UNASSIGNED_STACK" Bundle.steD) || decide (w = .laysStatic Bundle.tN "SUPPRESSED_SENTINEL" Bundle.listD)
theorem pm_hp_of {B : Nat} {s : State} {args : Array Value} (h1 : pm_Z1 "UNASSIGNED_STACK" Bundle.steD B s s.heap) (h2 : pm_Z1 "SUPPRESSED_SENTINEL" Bundle.listD B s s.heap) {w : Cond} (h : pm_hp w = true) : w.before args s = true := by
  simp only [pm_hp, Bool.or_eq_true, decide_eq_true_eq] at h
  rcases h with ((h | h) | h) | h <;> subst h
  · exact h1.ref
  · exact h2.ref
  · exact h1.lays
  · exact h2.lays
theorem pm_frame {U : State} {k n : Nat} (h : s.sameButNew ({ U with vm := s.vm } : State) [] k n) : s.heap.size ≤ U.heap.size ∧ ∀ q : Nat, q < s.heap.size → U.heap[q]? = s.heap[q]? := by
  obtain ⟨-, h2, -, -, -, h6⟩ := h
  refine ⟨h2, fun q hq => ?_⟩
  obtain ⟨c9, e1, e2, e3, e4⟩ := h6 q _ (Array.getElem?_eq_getElem hq)
  have hs : c9.slots = (s.heap[q]).slots := Array.ext_getElem? fun i => e4 i fun hm => nomatch hm
  have h9 : c9 = s.heap[q] := by
    rw [hs] at e2
    exact e2
  have e5 : U.heap[q]? = some c9 := e1
  rw [e5, h9, Array.getElem?_eq_getElem hq]
theorem pm_throw {cc : ByteArray} {pc : Nat} {ls : Array Slot} {rest : List Value} (hexec : p.tables.exec = Jvm.exec) (hb : c.code = cc) (hl : l.stackTraces = false) {own cls : String} {names : List String} {ik ic B : Nat}
    (hown : s.vm.findClass own = some m.cls) (hcls : Bundle.fit cls = true) (hnames : ∀ n ∈ names, Bundle.fit n = true)
    (hk : (Cond.classLink own ik cls).before args s = true) (hini : (Cond.initialized cls).before args s = true)
    (hat : ∀ w ∈ Bundle.ownAtoms0 own ic cls names, pm_hp w = true ∨ (w.onTables = true ∧ w.before args s = true))
    (hot : (Cond.classLink own ik cls).onTables = true ∧ (Cond.initialized cls).onTables = true)
    (h1 : pm_Z1 "UNASSIGNED_STACK" Bundle.steD B s H) (h2 : pm_Z1 "SUPPRESSED_SENTINEL" Bundle.listD B s H) (hsize : ls.size = c.maxLocals)
    (d0 : decode cc pc = .ok (.new ik, 3)) (d3 : decode cc (pc + 3) = .ok (.dup, 1)) (d4 : decode cc (pc + 4) = .ok (.invokespecial ic, 3)) (d7 : decode cc (pc + 7) = .ok (.athrow, 1))
    (hout : ∀ x ∈ c.exceptionTable.toList, covers x (pc + 7) = false)
    (hRframes : names.length + 3 < R.frames) (hRlocals : (rest.map fun v => v.category).sum + (13 * (names.length + 1) + 42) ≤ R.locals) (hRcells : cells + 1 ≤ R.cells) (hRslots : slots + 6 ≤ R.slots) (hlocks : meth.locks = false)
    (hq : ∀ (t : State) (x : Addr) (ce : Cell), t.status = .running → Ended t below (.threw x) → s.WarmedH t.vm → H.size ≤ t.heap.size → (∀ q : Nat, q < H.size → t.heap[q]? = H[q]?) → t.heap[x]? = some ce → ce.vm = .none → s.vm.findClass cls = some ce.cls → s.sameButNew ({ t with vm := s.vm } : State) locs (cells + 1) (slots + 6) → Q t) :
    W p l e R s m args below meth c H locs cells slots Q (F0 m pc ls rest) := by
  intro T hT X
  subst hT
  have htr : e.platform.stackTraces = false := by
    have h9 : e.platform.stackTraces = l.stackTraces := by rw [X.admits.platform]
    rw [h9]; exact hl
  obtain ⟨s', hvm, hhp, Y, hback⟩ := pm_again X { frames := R.frames, locals := R.locals, cells := 1, slots := 6 } ⟨Nat.le_refl _, Nat.le_refl _, hRcells, hRslots⟩
  have hal : s.vm.Alike s'.vm := by rw [hvm]; exact Vm.Alike.refl _
  have hwords : ∀ w ∈ Bundle.ownAtoms0 own ic cls names, w.before args s' = true := fun w hw => by
    rcases hat w hw with h9 | ⟨h8, h9⟩
    · exact pm_hp_of (by rw [hhp]; exact h1.moved hal fun _ _ => rfl) (by rw [hhp]; exact h2.moved hal fun _ _ => rfl) h9
    · exact pm_tab h8 hvm.symm h9
  have hown' : s'.vm.findClass own = some m.cls := by rw [hvm]; exact hown
  obtain ⟨vm₁, cX, kX, hfX, hkX, -, -, X₁, st1⟩ := Y.newCold hexec (own := own) (C := cls) (index := ik) (n := 6) hown' (pm_tab hot.1 hvm.symm hk) (hwords _ (by simp [Bundle.ownAtoms0])) (pm_tab hot.2 hvm.symm hini)
    (g := F0 m pc ls rest) rfl (by rw [hb]; exact d0) (Nat.le_refl _) (Nat.le_refl _)
  generalize hT1 : (T.setVm vm₁).pushCell { cls := cX, slots := kX.instanceTypes.map defaultValue, vm := .none } = T1 at X₁ st1
  have hcellA : T1.heap[T.heap.size]? = some (freshCell cX kX) := by rw [← hT1]; exact State.heap_pushCell_size _ _
  obtain ⟨U, hsteps, hrun, hend, hW, hsame, ce, hce, hO⟩ := X₁.ctorThrow0 hexec htr (own := own) (cls := cls) (names := names) (ic := ic) hown' hcls hnames hwords (fun x hx => nomatch hx) hfX hkX hcellA (by rw [hhp]; exact Nat.le_refl _)
    (g := F0 m (pc + 4) ls (.ref T.heap.size :: .ref T.heap.size :: rest)) rfl hsize rfl rfl (rest := rest) rfl
    (by rw [hb]; exact d4) (by rw [hb]; exact d7) hout hRframes (by
      simp only [List.map_cons, List.sum_cons, show (Value.ref T.heap.size).category = 1 from rfl, show (F0 m (pc + 4) ls (.ref T.heap.size :: .ref T.heap.size :: rest)).monitorRoom = 0 from rfl]
      omega) hlocks
  obtain ⟨f1, f2⟩ := pm_frame hsame
  rw [hhp] at f1 f2
  have hcl : s.vm.findClass cls = some ce.cls := by rw [← hvm]; exact hO.cls
  have hWs : s.WarmedH U.vm := by
    have h9 : s.WarmedH s'.vm := by rw [hvm]; exact State.WarmedH.refl s
    exact State.WarmedH.trans h9 hW
  have hall := hback U (0 + 1) (0 + 6) hsame
  refine ⟨U, st1 _ ?_, hq U T.heap.size ce hrun hend hWs f1 f2 hce hO.vm hcl (by simpa using hall)⟩
  have d3' : decode c.code (pc + 3) = .ok (.dup, 1) := by rw [hb]; exact d3
  show Steps p.tables e below (T1.setTop (F0 m (pc + 3) ls (.ref T.heap.size :: rest))) _
  jvm_step X₁.here [X₁.here.top, hexec, d3', Value.category]
  exact hsteps
end PMA
end
section
/-! THE WORLD: how the memory lies in the heap; a method's contract; what a frame of the pure machine says of the machine -/
def pm_A (g : pm_G) : Nat → Prop := fun q => g.1 ≤ q ∧ q < g.1 + pm_tot
def pm_ev (g : pm_G) (M : pm_M) (f i t k : Nat) : Value := match t with
  | 1 => .long (M.2.1 f i k)
  | 2 => pm_cv g (pm_a (M.2.2.1 f i k))
  | _ => .int (M.1 f i k)
def pm_fs (g : pm_G) (M : pm_M) (f i : Nat) (tys : List Nat) : List Value := tys.mapIdx fun k t => pm_ev g M f i t k
def pm_en (g : pm_G) (M : pm_M) (f i : Nat) : va_E := match pm_shp g.2.2.1 f with
  | (0, ci, tys) => .inr (ci, pm_fs g M f i tys)
  | (1, n, _) => .inl (g.2.2.2.2 0, n, .inl (M.1 f i))
  | (2, n, _) => .inl (g.2.2.2.2 1, n, .inl (M.1 f i))
  | (3, n, _) => .inl (g.2.2.2.2 2, n, .inr (.inl (M.2.1 f i)))
  | (_, n, cs) => .inl (g.2.2.2.2 (3 + cs.headD 0), n, .inr (.inr (.inr (.inr (fun j => (M.2.2.1 f i j).map fun q => pm_ad g q.1 q.2)))))
def pm_tys (g : pm_G) : List (ClassId × FieldType) := [(g.2.2.2.2 0, .int), (g.2.2.2.2 1, .boolean), (g.2.2.2.2 2, .long), (g.2.2.2.2 4, .object "JobLayer$Task"), (g.2.2.2.2 6, .object "JobLayer$ByteRow")]
/-- an IllegalStateException isn't an IllegalArgumentException -/
def pm_No (s : State) : Prop := ∃ a b, s.vm.findClass (pm_exn 0) = some a ∧ s.vm.findClass (pm_exn 1) = some b ∧ s.vm.assignable a b = false ∧ s.vm.assignable b a = false
def pm_P (g : pm_G) (M : pm_M) (H : Heap) : Prop := ∀ k, k < M.2.2.2.1 → va_at g.2.2.2.1 pm_K (g.1 + k, pm_en g M (pm_plan k).1 (pm_plan k).2) H
/-- what holds of a method's start besides its memory -/
def pm_St (g : pm_G) (s : State) : Prop := va_K g.2.2.2.1 pm_K (pm_tys g) s ∧ g.2.1 < g.1 ∧ g.1 ≤ s.heap.size ∧ pm_Z1 "UNASSIGNED_STACK" Bundle.steD g.1 s s.heap ∧ pm_Z1 "SUPPRESSED_SENTINEL" Bundle.listD g.1 s s.heap ∧ pm_No s
def pm_Wd (g : pm_G) (M : pm_M) (s : State) (H : Heap) : Prop := pm_P g M H ∧ M.2.2.2.1 ≤ pm_tot ∧ M.2.2.2.2 ≤ 600 ∧ g.1 + M.2.2.2.1 ≤ H.size ∧ (M.2.2.2.1 = pm_tot ∨ H.size = g.1 + M.2.2.2.1) ∧ va_X g.2.1 g.2.2.1 (M.1 99 0) s H
def pm_le (M M' : pm_M) : Prop := M.2.2.2.1 ≤ M'.2.2.2.1 ∧ M.2.2.2.2 ≤ M'.2.2.2.2
def pm_cb (M : pm_M) : Nat := M.2.2.2.1 + M.2.2.2.2
def pm_sb (M : pm_M) : Nat := 128 * M.2.2.2.1 + 6 * M.2.2.2.2
def pm_rm (d : Nat) : Room := { frames := d + 1, cells := 1000 * (d + 1), slots := 20000 * (d + 1), locals := 40 * d + 26 }
/-- an end of the pure machine and an end of the machine -/
def pm_out (g : pm_G) (o : pm_O) (s : State) (oc : Outcome) (t : State) : Prop := match o with
  | .inl v => oc = .returned (v.map (pm_cv g))
  | .inr x => ∃ (a : Addr) (ce : Cell), oc = .threw a ∧ t.heap[a]? = some ce ∧ ce.vm = .none ∧ s.vm.findClass (pm_exn x) = some ce.cls
def pm_Pc (g : pm_G) (a : List pm_V) (M : pm_M) : Array Value → State → Prop := fun av s => av = (a.map (pm_cv g)).toArray ∧ pm_St g s ∧ pm_Wd g M s s.heap
def pm_Qc (g : pm_G) (M : pm_M) (r : pm_O × pm_M) : Array Value → State → Outcome → State → Prop := fun _ s oc t =>
  pm_out g r.1 s oc t ∧ pm_Wd g r.2 s t.heap ∧ va_S (pm_A g) s.heap t.heap [] ∧ s.WarmedH t.vm ∧ pm_le M r.2 ∧ ∃ L, s.sameButNew ({ t with vm := s.vm } : State) L (pm_cb r.2 - pm_cb M) (pm_sb r.2 - pm_sb M) ∧ ∀ q ∈ L, pm_A g q.base
/-- the contract of a run of the method mj: it has come to r -/
def pm_Ct (l : Launch) (g : pm_G) (d mj : Nat) (a : List pm_V) (M : pm_M) (r : pm_O × pm_M) : Prop :=
  MetFree l (pm_y mj) (headSpec (pm_hw mj :: pm_Tl) (pm_rm d)) (pm_Pc g a M) (fun _ _ _ _ _ => True) (pm_Qc g M r)
/-- a method's end, over the frames below -/
def pm_Q (below : List Frame) (g : pm_G) (M0 : pm_M) (r : pm_O × pm_M) (av : Array Value) (s : State) : State → Prop := fun t => ∃ oc, t.status = .running ∧ Ended t below oc ∧ pm_Qc g M0 r av s oc t
def pm_W (p : Program) (l : Launch) (e : Env) (R : Room) (s : State) (m : MethodId) (args : Array Value) (below : List Frame) (meth : Method) (c : Code) (Q : State → Prop) (g : pm_G) (M0 : pm_M) (pc : Nat) (L : pm_L) (S : List pm_V) (M : pm_M) : Prop :=
  pm_le M0 M → ∀ (ls : Array Slot) (H : Heap) (locs : List Loc), pm_LR g L ls → L.length = c.maxLocals → pm_Wd g M s H → va_S (pm_A g) s.heap H locs →
    W p l e R s m args below meth c H locs (pm_cb M - pm_cb M0) (pm_sb M - pm_sb M0) Q (F0 m pc ls (S.map (pm_cv g)))
/-- what a frame stands on -/
def pm_Cx (p : Program) (l : Launch) (s : State) (m : MethodId) (args : Array Value) (meth : Method) (c : Code) (mi : Nat) (g : pm_G) : Prop :=
  p.tables.exec = Jvm.exec ∧ c.code = pm_code mi ∧ meth.sig.returnType = pm_rt mi ∧ c.maxLocals = pm_maxL mi ∧ s.vm.findClass (pm_nm (pm_own mi)) = some m.cls ∧ (∀ w ∈ pm_Tl, w.before args s = true) ∧ meth.locks = false ∧ (pm_ini mi = true → meth.name = "<init>") ∧
  c.exceptionTable.toList.map (fun h => (h.startPc, h.endPc, h.handlerPc, h.catchType)) = pm_hnr mi ∧ l.stackTraces = false ∧ pm_St g s
theorem pm_u_ne {α : Type} {F : Nat → Nat → Nat → α} {f i k f' i' : Nat} {v : α} (h : ¬ (f' = f ∧ i' = i)) : pm_u F f i k v f' i' = F f' i' := by
  funext k'
  unfold pm_u
  rw [if_neg (fun q => h ⟨q.1, q.2.1⟩)]
theorem pm_z_ne {α : Type} {F : Nat → Nat → Nat → α} {f i f' i' : Nat} {v : α} (h : ¬ (f' = f ∧ i' = i)) : pm_z F f i v f' i' = F f' i' := by
  funext k'
  unfold pm_z
  rw [if_neg h]
theorem pm_u_at {α : Type} {F : Nat → Nat → Nat → α} {f i k : Nat} {v : α} : pm_u F f i k v f i = fun j => if j = k then v else F f i j := by
  funext k'
  unfold pm_u
  by_cases h : k' = k
  · rw [if_pos ⟨rfl, rfl, h⟩, if_pos h]
  · rw [if_neg (fun q => h q.2.2), if_neg h]
theorem pm_en_eq {g : pm_G} {M M' : pm_M} {f i : Nat} (h1 : M'.1 f i = M.1 f i) (h2 : M'.2.1 f i = M.2.1 f i) (h3 : M'.2.2.1 f i = M.2.2.1 f i) : pm_en g M' f i = pm_en g M f i := by
  unfold pm_en pm_fs pm_ev
  rw [h1, h2, h3]
/-- where a valid reference leads -/
theorem pm_ok_at {g : pm_G} {M : pm_M} {f i : Nat} (h : pm_ok M f i = true) (hf : f ≠ 99) (hn : M.2.2.2.1 ≤ pm_tot) : pm_pidx f i < M.2.2.2.1 ∧ pm_plan (pm_pidx f i) = (f, i) ∧ pm_ad g f i = g.1 + pm_pidx f i := by
  simp only [pm_ok, Bool.and_eq_true, Bool.or_eq_true, decide_eq_true_eq, beq_iff_eq] at h
  obtain ⟨h1, h2⟩ := h
  obtain ⟨q1, q2⟩ := pm_plan_ok f i h1 hf
  refine ⟨?_, q2, by unfold pm_ad; rw [if_neg hf]⟩
  rcases h2 with h2 | h2 | h2
  · exact absurd h2 hf
  · rw [h2]; exact q1
  · exact h2
theorem pm_P_at {g : pm_G} {M : pm_M} {H : Heap} {f i : Nat} (hP : pm_P g M H) (h : pm_ok M f i = true) (hf : f ≠ 99) (hn : M.2.2.2.1 ≤ pm_tot) : va_at g.2.2.2.1 pm_K (pm_ad g f i, pm_en g M f i) H := by
  obtain ⟨q1, q2, q3⟩ := pm_ok_at (g := g) h hf hn
  have := hP _ q1
  rw [q2] at this
  rw [q3]; exact this
theorem pm_P_upd {g : pm_G} {M M' : pm_M} {H H1 : Heap} {f i : Nat} (hP : pm_P g M H) (hn : M'.2.2.2.1 = M.2.2.2.1) (ht : M.2.2.2.1 ≤ pm_tot) (h : pm_ok M f i = true) (hf : f ≠ 99)
    (h1 : va_at g.2.2.2.1 pm_K (pm_ad g f i, pm_en g M' f i) H1) (h2 : ∀ q, q ≠ pm_ad g f i → H1[q]? = H[q]?) (h3 : ∀ f' i', ¬ (f' = f ∧ i' = i) → pm_en g M' f' i' = pm_en g M f' i') : pm_P g M' H1 := by
  obtain ⟨q1, q2, q3⟩ := pm_ok_at (g := g) h hf ht
  intro k hk
  rw [hn] at hk
  by_cases hkf : k = pm_pidx f i
  · subst hkf
    rw [q2, ← q3]; exact h1
  · have hne : ¬ ((pm_plan k).1 = f ∧ (pm_plan k).2 = i) := fun q => hkf (by
      have := pm_pidx_plan k (Nat.lt_of_lt_of_le hk ht)
      rw [q.1, q.2] at this
      exact this.symm)
    rw [h3 _ _ hne]
    refine va_at.kept (hP k hk) (h2 _ ?_)
    rw [q3]
    show g.1 + k ≠ _
    omega
theorem pm_A_ad {g : pm_G} {M : pm_M} {f i : Nat} (h : pm_ok M f i = true) (hf : f ≠ 99) (hn : M.2.2.2.1 ≤ pm_tot) : pm_A g (pm_ad g f i) := by
  obtain ⟨q1, q2, q3⟩ := pm_ok_at (g := g) h hf hn
  rw [q3]
  exact ⟨by omega, by omega⟩
/-- a store in one planned cell: the world behind it -/
theorem pm_Wd_upd {g : pm_G} {M M' : pm_M} {s : State} {H H1 : Heap} {f i : Nat} (hW : pm_Wd g M s H) (hb : g.2.1 < g.1) (hn : M'.2.2.2 = M.2.2.2) (h99 : M'.1 99 0 = M.1 99 0) (h : pm_ok M f i = true) (hf : f ≠ 99)
    (h1 : va_at g.2.2.2.1 pm_K (pm_ad g f i, pm_en g M' f i) H1) (hz : H1.size = H.size) (h2 : ∀ q, q ≠ pm_ad g f i → H1[q]? = H[q]?) (h3 : ∀ f' i', ¬ (f' = f ∧ i' = i) → pm_en g M' f' i' = pm_en g M f' i') : pm_Wd g M' s H1 := by
  obtain ⟨w1, w2, w3, w4, w5, w6⟩ := hW
  refine ⟨pm_P_upd w1 (by rw [hn]) w2 h hf h1 h2 h3, by rw [hn]; exact w2, by rw [hn]; exact w3, by rw [hn, hz]; exact w4, by rw [hn, hz]; exact w5, ?_⟩
  rw [h99]
  refine w6.kept (h2 _ ?_)
  obtain ⟨q1, q2, q3⟩ := pm_ok_at (g := g) h hf w2
  rw [q3]
  omega
theorem pm_S_put {g : pm_G} {M : pm_M} {H0 H H1 : Heap} {locs : List Loc} {f i k : Nat} (hS : va_S (pm_A g) H0 H locs) (h : pm_ok M f i = true) (hf : f ≠ 99) (hn : M.2.2.2.1 ≤ pm_tot) (hz : H1.size = H.size) (h2 : ∀ q, q ≠ pm_ad g f i → H1[q]? = H[q]?) :
    va_S (pm_A g) H0 H1 (locs ++ [⟨pm_ad g f i, k⟩]) := hS.put hz h2 (pm_A_ad h hf hn)
end
section
/-! each instruction of the pure machine is one of the machine -/
theorem pm_i1_inv {S : List pm_V} {f : Int32 → List pm_V → pm_R} {r : pm_O × pm_M} (h : pm_i1 S f = some r) : ∃ x t, S = pm_i x :: t ∧ f x t = some r := by
  unfold pm_i1 at h
  split at h
  · exact ⟨_, _, rfl, h⟩
  · cases h
theorem pm_i2_inv {S : List pm_V} {f : Int32 → Int32 → List pm_V → pm_R} {r : pm_O × pm_M} (h : pm_i2 S f = some r) : ∃ x y t, S = pm_i y :: pm_i x :: t ∧ f x y t = some r := by
  unfold pm_i2 at h
  split at h
  · exact ⟨_, _, _, rfl, h⟩
  · cases h
theorem pm_l1_inv {S : List pm_V} {f : Int64 → List pm_V → pm_R} {r : pm_O × pm_M} (h : pm_l1 S f = some r) : ∃ x t, S = pm_l x :: t ∧ f x t = some r := by
  unfold pm_l1 at h
  split at h
  · exact ⟨_, _, rfl, h⟩
  · cases h
theorem pm_l2_inv {S : List pm_V} {f : Int64 → Int64 → List pm_V → pm_R} {r : pm_O × pm_M} (h : pm_l2 S f = some r) : ∃ x y t, S = pm_l y :: pm_l x :: t ∧ f x y t = some r := by
  unfold pm_l2 at h
  split at h
  · exact ⟨_, _, _, rfl, h⟩
  · cases h
theorem pm_li_inv {S : List pm_V} {f : Int64 → Int32 → List pm_V → pm_R} {r : pm_O × pm_M} (h : pm_li S f = some r) : ∃ x y t, S = pm_i y :: pm_l x :: t ∧ f x y t = some r := by
  unfold pm_li at h
  split at h
  · exact ⟨_, _, _, rfl, h⟩
  · cases h
theorem pm_a1_inv {S : List pm_V} {f : Option (Nat × Nat) → List pm_V → pm_R} {r : pm_O × pm_M} (h : pm_a1 S f = some r) : ∃ q t, S = pm_a q :: t ∧ f q t = some r := by
  unfold pm_a1 at h
  split at h
  · exact ⟨_, _, rfl, h⟩
  · cases h
theorem pm_g_inv {M : pm_M} {f i : Nat} {a : pm_R} {r : pm_O × pm_M} (h : pm_g M f i a = some r) : pm_ok M f i = true ∧ a = some r := by
  unfold pm_g at h
  split at h
  · exact ⟨by assumption, h⟩
  · cases h
theorem pm_r1_inv {M : pm_M} {S : List pm_V} {f : Nat → Nat → List pm_V → pm_R} {r : pm_O × pm_M} (h : pm_r1 M S f = some r) : ∃ a i t, S = pm_r a i :: t ∧ pm_ok M a i = true ∧ f a i t = some r := by
  unfold pm_r1 at h
  split at h
  · exact ⟨_, _, _, rfl, pm_g_inv h⟩
  · cases h
theorem pm_ir_inv {M : pm_M} {S : List pm_V} {f : Int32 → Nat → Nat → List pm_V → pm_R} {r : pm_O × pm_M} (h : pm_ir M S f = some r) : ∃ x a i t, S = pm_i x :: pm_r a i :: t ∧ pm_ok M a i = true ∧ f x a i t = some r := by
  unfold pm_ir at h
  split at h
  · exact ⟨_, _, _, _, rfl, pm_g_inv h⟩
  · cases h
theorem pm_vr_inv {M : pm_M} {S : List pm_V} {f : pm_V → Nat → Nat → List pm_V → pm_R} {r : pm_O × pm_M} (h : pm_vr M S f = some r) : ∃ v a i t, S = v :: pm_r a i :: t ∧ pm_ok M a i = true ∧ f v a i t = some r := by
  unfold pm_vr at h
  split at h
  · exact ⟨_, _, _, _, rfl, pm_g_inv h⟩
  · cases h
theorem pm_vir_inv {M : pm_M} {S : List pm_V} {f : pm_V → Int32 → Nat → Nat → List pm_V → pm_R} {r : pm_O × pm_M} (h : pm_vir M S f = some r) : ∃ v x a i t, S = v :: pm_i x :: pm_r a i :: t ∧ pm_ok M a i = true ∧ f v x a i t = some r := by
  unfold pm_vir at h
  split at h
  · exact ⟨_, _, _, _, _, rfl, pm_g_inv h⟩
  · cases h
theorem pm_ix_inv {x : Int32} {n : Nat} {f : Nat → pm_R} {r : pm_O × pm_M} (h : pm_ix x n f = some r) : vp_in x n ∧ x.toNatClampNeg < n ∧ f x.toNatClampNeg = some r := by
  unfold pm_ix at h
  split at h
  · cases h
  · rename_i hn
    exact ⟨hn, Nat.not_le.mp fun q => hn (Or.inr q), h⟩
theorem pm_j_inv {pc : Nat} {off : Int} {f : Nat → pm_R} {r : pm_O × pm_M} (h : pm_j pc off f = some r) : ∃ t : Nat, (pc : Int) + off = (t : Int) ∧ f t = some r := by
  unfold pm_j at h
  split at h
  · rename_i t ht
    exact ⟨t, ht, h⟩
  · cases h
theorem pm_ldi_inv {L : pm_L} {i : Nat} {f : Int32 → pm_R} {r : pm_O × pm_M} (h : pm_ldi L i f = some r) : ∃ x, L[i]? = some (some (pm_i x)) ∧ f x = some r := by
  unfold pm_ldi at h
  split at h
  · exact ⟨_, by assumption, h⟩
  · cases h
theorem pm_ldl_inv {L : pm_L} {i : Nat} {f : Int64 → pm_R} {r : pm_O × pm_M} (h : pm_ldl L i f = some r) : ∃ x, L[i]? = some (some (pm_l x)) ∧ f x = some r := by
  unfold pm_ldl at h
  split at h
  · exact ⟨_, by assumption, h⟩
  · cases h
theorem pm_lda_inv {L : pm_L} {i : Nat} {f : Option (Nat × Nat) → pm_R} {r : pm_O × pm_M} (h : pm_lda L i f = some r) : ∃ q, L[i]? = some (some (pm_a q)) ∧ f q = some r := by
  unfold pm_lda at h
  split at h
  · exact ⟨_, by assumption, h⟩
  · cases h
theorem pm_st_inv {L : pm_L} {i : Nat} {v : pm_V} {f : pm_L → pm_R} {r : pm_O × pm_M} (h : pm_st L i v f = some r) : i < L.length ∧ pm_pre L i = true ∧ f (L.set i (some v)) = some r := by
  unfold pm_st at h
  split at h
  · rename_i q
    exact ⟨q.1, q.2, h⟩
  · cases h
theorem pm_bo_inv {x : Int32} {a : pm_R} {r : pm_O × pm_M} (h : pm_bo x a = some r) : (x = 0 ∨ x = 1) ∧ a = some r := by
  unfold pm_bo at h
  split at h
  · exact ⟨by assumption, h⟩
  · cases h
section PMS
variable {p : Program} {l : Launch} {e : Env} {R : Room} {s : State} {m : MethodId} {args : Array Value} {below : List Frame} {meth : Method} {c : Code} {Q : State → Prop}
variable {g : pm_G} {M0 : pm_M} {r : pm_O × pm_M} {k : Nat → pm_L → List pm_V → pm_M → pm_R} {pc : Nat} {L : pm_L} {S : List pm_V} {M : pm_M}
theorem pm_s_push (hk : ∀ pc' L' S' M', k pc' L' S' M' = some r → pm_W p l e R s m args below meth c Q g M0 pc' L' S' M') {v : pm_V} {n : Nat} (row : ∀ {ls : Array Slot} {H : Heap} {locs : List Loc} {cells slots : Nat} {rest : List Value} , W p l e R s m args below meth c H locs cells slots Q (F0 m (pc + n) ls (pm_cv g v :: rest)) → W p l e R s m args below meth c H locs cells slots Q (F0 m pc ls rest)) (h : k (pc + n) L (v :: S) M = some r) : pm_W p l e R s m args below meth c Q g M0 pc L S M := by
  intro hle ls H locs hL hlen hW hS
  exact row (hk _ _ _ _ h hle ls H locs hL hlen hW hS)
theorem pm_s_i2 (hk : ∀ pc' L' S' M', k pc' L' S' M' = some r → pm_W p l e R s m args below meth c Q g M0 pc' L' S' M') {f : Int32 → Int32 → Int32} (row : ∀ {ls : Array Slot} {H : Heap} {locs : List Loc} {cells slots : Nat} {rest : List Value} {x y : Int32}, W p l e R s m args below meth c H locs cells slots Q (F0 m (pc + 1) ls (.int (f x y) :: rest)) → W p l e R s m args below meth c H locs cells slots Q (F0 m pc ls (.int y :: .int x :: rest))) (h : (pm_i2 S fun x y t => k (pc + 1) L (pm_i (f x y) :: t) M) = some r) : pm_W p l e R s m args below meth c Q g M0 pc L S M := by
  obtain ⟨x, y, t, hS0, hN⟩ := pm_i2_inv h
  clear h
  subst hS0
  have h := hN
  intro hle ls H locs hL hlen hW hS
  exact row (hk _ _ _ _ h hle ls H locs hL hlen hW hS)
theorem pm_s_i2z (hk : ∀ pc' L' S' M', k pc' L' S' M' = some r → pm_W p l e R s m args below meth c Q g M0 pc' L' S' M') {f : Int32 → Int32 → Int32} (row : ∀ {ls : Array Slot} {H : Heap} {locs : List Loc} {cells slots : Nat} {rest : List Value} {x y : Int32} (_ : ¬ y = 0), W p l e R s m args below meth c H locs cells slots Q (F0 m (pc + 1) ls (.int (f x y) :: rest)) → W p l e R s m args below meth c H locs cells slots Q (F0 m pc ls (.int y :: .int x :: rest))) (h : (pm_i2 S fun x y t => if y = 0 then none else k (pc + 1) L (pm_i (f x y) :: t) M) = some r) : pm_W p l e R s m args below meth c Q g M0 pc L S M := by
  obtain ⟨x, y, t, hS0, hN⟩ := pm_i2_inv h
  clear h
  subst hS0
  have h := hN
  split at h
  · cases h
  · rename_i hy
    intro hle ls H locs hL hlen hW hS
    exact row hy (hk _ _ _ _ h hle ls H locs hL hlen hW hS)
theorem pm_s_i1 (hk : ∀ pc' L' S' M', k pc' L' S' M' = some r → pm_W p l e R s m args below meth c Q g M0 pc' L' S' M') {f : Int32 → Int32} (row : ∀ {ls : Array Slot} {H : Heap} {locs : List Loc} {cells slots : Nat} {rest : List Value} {x : Int32}, W p l e R s m args below meth c H locs cells slots Q (F0 m (pc + 1) ls (.int (f x) :: rest)) → W p l e R s m args below meth c H locs cells slots Q (F0 m pc ls (.int x :: rest))) (h : (pm_i1 S fun x t => k (pc + 1) L (pm_i (f x) :: t) M) = some r) : pm_W p l e R s m args below meth c Q g M0 pc L S M := by
  obtain ⟨x, t, hS0, hN⟩ := pm_i1_inv h
  clear h
  subst hS0
  have h := hN
  intro hle ls H locs hL hlen hW hS
  exact row (hk _ _ _ _ h hle ls H locs hL hlen hW hS)
theorem pm_s_i2l (hk : ∀ pc' L' S' M', k pc' L' S' M' = some r → pm_W p l e R s m args below meth c Q g M0 pc' L' S' M') {f : Int32 → Int64} (row : ∀ {ls : Array Slot} {H : Heap} {locs : List Loc} {cells slots : Nat} {rest : List Value} {x : Int32}, W p l e R s m args below meth c H locs cells slots Q (F0 m (pc + 1) ls (.long (f x) :: rest)) → W p l e R s m args below meth c H locs cells slots Q (F0 m pc ls (.int x :: rest))) (h : (pm_i1 S fun x t => k (pc + 1) L (pm_l (f x) :: t) M) = some r) : pm_W p l e R s m args below meth c Q g M0 pc L S M := by
  obtain ⟨x, t, hS0, hN⟩ := pm_i1_inv h
  clear h
  subst hS0
  have h := hN
  intro hle ls H locs hL hlen hW hS
  exact row (hk _ _ _ _ h hle ls H locs hL hlen hW hS)
theorem pm_s_l2i (hk : ∀ pc' L' S' M', k pc' L' S' M' = some r → pm_W p l e R s m args below meth c Q g M0 pc' L' S' M') {f : Int64 → Int32} (row : ∀ {ls : Array Slot} {H : Heap} {locs : List Loc} {cells slots : Nat} {rest : List Value} {x : Int64}, W p l e R s m args below meth c H locs cells slots Q (F0 m (pc + 1) ls (.int (f x) :: rest)) → W p l e R s m args below meth c H locs cells slots Q (F0 m pc ls (.long x :: rest))) (h : (pm_l1 S fun x t => k (pc + 1) L (pm_i (f x) :: t) M) = some r) : pm_W p l e R s m args below meth c Q g M0 pc L S M := by
  obtain ⟨x, t, hS0, hN⟩ := pm_l1_inv h
  clear h
  subst hS0
  have h := hN
  intro hle ls H locs hL hlen hW hS
  exact row (hk _ _ _ _ h hle ls H locs hL hlen hW hS)
theorem pm_s_l2 (hk : ∀ pc' L' S' M', k pc' L' S' M' = some r → pm_W p l e R s m args below meth c Q g M0 pc' L' S' M') {f : Int64 → Int64 → Int64} (row : ∀ {ls : Array Slot} {H : Heap} {locs : List Loc} {cells slots : Nat} {rest : List Value} {x y : Int64}, W p l e R s m args below meth c H locs cells slots Q (F0 m (pc + 1) ls (.long (f x y) :: rest)) → W p l e R s m args below meth c H locs cells slots Q (F0 m pc ls (.long y :: .long x :: rest))) (h : (pm_l2 S fun x y t => k (pc + 1) L (pm_l (f x y) :: t) M) = some r) : pm_W p l e R s m args below meth c Q g M0 pc L S M := by
  obtain ⟨x, y, t, hS0, hN⟩ := pm_l2_inv h
  clear h
  subst hS0
  have h := hN
  intro hle ls H locs hL hlen hW hS
  exact row (hk _ _ _ _ h hle ls H locs hL hlen hW hS)
theorem pm_s_lc (hk : ∀ pc' L' S' M', k pc' L' S' M' = some r → pm_W p l e R s m args below meth c Q g M0 pc' L' S' M') {f : Int64 → Int64 → Int32} (row : ∀ {ls : Array Slot} {H : Heap} {locs : List Loc} {cells slots : Nat} {rest : List Value} {x y : Int64}, W p l e R s m args below meth c H locs cells slots Q (F0 m (pc + 1) ls (.int (f x y) :: rest)) → W p l e R s m args below meth c H locs cells slots Q (F0 m pc ls (.long y :: .long x :: rest))) (h : (pm_l2 S fun x y t => k (pc + 1) L (pm_i (f x y) :: t) M) = some r) : pm_W p l e R s m args below meth c Q g M0 pc L S M := by
  obtain ⟨x, y, t, hS0, hN⟩ := pm_l2_inv h
  clear h
  subst hS0
  have h := hN
  intro hle ls H locs hL hlen hW hS
  exact row (hk _ _ _ _ h hle ls H locs hL hlen hW hS)
theorem pm_s_li (hk : ∀ pc' L' S' M', k pc' L' S' M' = some r → pm_W p l e R s m args below meth c Q g M0 pc' L' S' M') {f : Int64 → Int32 → Int64} (row : ∀ {ls : Array Slot} {H : Heap} {locs : List Loc} {cells slots : Nat} {rest : List Value} {x : Int64} {y : Int32}, W p l e R s m args below meth c H locs cells slots Q (F0 m (pc + 1) ls (.long (f x y) :: rest)) → W p l e R s m args below meth c H locs cells slots Q (F0 m pc ls (.int y :: .long x :: rest))) (h : (pm_li S fun x y t => k (pc + 1) L (pm_l (f x y) :: t) M) = some r) : pm_W p l e R s m args below meth c Q g M0 pc L S M := by
  obtain ⟨x, y, t, hS0, hN⟩ := pm_li_inv h
  clear h
  subst hS0
  have h := hN
  intro hle ls H locs hL hlen hW hS
  exact row (hk _ _ _ _ h hle ls H locs hL hlen hW hS)
theorem pm_s_ldi (hk : ∀ pc' L' S' M', k pc' L' S' M' = some r → pm_W p l e R s m args below meth c Q g M0 pc' L' S' M') {i n : Nat} (row : ∀ {ls : Array Slot} {H : Heap} {locs : List Loc} {cells slots : Nat} {rest : List Value} {x : Int32} (_ : ls[i]? = some (.val (.int x))), W p l e R s m args below meth c H locs cells slots Q (F0 m (pc + n) ls (.int x :: rest)) → W p l e R s m args below meth c H locs cells slots Q (F0 m pc ls rest)) (h : (pm_ldi L i fun x => k (pc + n) L (pm_i x :: S) M) = some r) : pm_W p l e R s m args below meth c Q g M0 pc L S M := by
  obtain ⟨x, hx, h⟩ := pm_ldi_inv h
  intro hle ls H locs hL hlen hW hS
  exact row (hL.2.2 _ _ hx) (hk _ _ _ _ h hle ls H locs hL hlen hW hS)
theorem pm_s_ldl (hk : ∀ pc' L' S' M', k pc' L' S' M' = some r → pm_W p l e R s m args below meth c Q g M0 pc' L' S' M') {i n : Nat} (row : ∀ {ls : Array Slot} {H : Heap} {locs : List Loc} {cells slots : Nat} {rest : List Value} {x : Int64} (_ : ls[i]? = some (.val (.long x))), W p l e R s m args below meth c H locs cells slots Q (F0 m (pc + n) ls (.long x :: rest)) → W p l e R s m args below meth c H locs cells slots Q (F0 m pc ls rest)) (h : (pm_ldl L i fun x => k (pc + n) L (pm_l x :: S) M) = some r) : pm_W p l e R s m args below meth c Q g M0 pc L S M := by
  obtain ⟨x, hx, h⟩ := pm_ldl_inv h
  intro hle ls H locs hL hlen hW hS
  exact row (hL.2.2 _ _ hx) (hk _ _ _ _ h hle ls H locs hL hlen hW hS)
theorem pm_s_lda (hk : ∀ pc' L' S' M', k pc' L' S' M' = some r → pm_W p l e R s m args below meth c Q g M0 pc' L' S' M') {i n : Nat} (row : ∀ {ls : Array Slot} {H : Heap} {locs : List Loc} {cells slots : Nat} {rest : List Value} {v : Value} (_ : v = .null ∨ ∃ a, v = .ref a) (_ : ls[i]? = some (.val v)), W p l e R s m args below meth c H locs cells slots Q (F0 m (pc + n) ls (v :: rest)) → W p l e R s m args below meth c H locs cells slots Q (F0 m pc ls rest)) (h : (pm_lda L i fun q => k (pc + n) L (pm_a q :: S) M) = some r) : pm_W p l e R s m args below meth c Q g M0 pc L S M := by
  obtain ⟨q, hx, h⟩ := pm_lda_inv h
  intro hle ls H locs hL hlen hW hS
  exact row (pm_cv_ref g q) (hL.2.2 _ _ hx) (hk _ _ _ _ h hle ls H locs hL hlen hW hS)
theorem pm_s_sti (hk : ∀ pc' L' S' M', k pc' L' S' M' = some r → pm_W p l e R s m args below meth c Q g M0 pc' L' S' M') {i n : Nat} (row : ∀ {ls : Array Slot} {H : Heap} {locs : List Loc} {cells slots : Nat} {rest : List Value} {x : Int32} {ls' : Array Slot} (_ : storeLocals ls i (.int x) = some ls'), W p l e R s m args below meth c H locs cells slots Q (F0 m (pc + n) ls' rest) → W p l e R s m args below meth c H locs cells slots Q (F0 m pc ls (.int x :: rest))) (h : (pm_sti L S i fun L' t => k (pc + n) L' t M) = some r) : pm_W p l e R s m args below meth c Q g M0 pc L S M := by
  obtain ⟨x, t, hS0, hN⟩ := pm_i1_inv h
  clear h
  subst hS0
  have h := hN
  obtain ⟨h1, h2, h⟩ := pm_st_inv h
  intro hle ls H locs hL hlen hW hS
  obtain ⟨ls', e', hL'⟩ := pm_LR_set (v := pm_i x) hL h1 h2 rfl
  exact row e' (hk _ _ _ _ h hle ls' H locs hL' (by rw [List.length_set]; exact hlen) hW hS)
theorem pm_s_sta (hk : ∀ pc' L' S' M', k pc' L' S' M' = some r → pm_W p l e R s m args below meth c Q g M0 pc' L' S' M') {i n : Nat} (row : ∀ {ls : Array Slot} {H : Heap} {locs : List Loc} {cells slots : Nat} {rest : List Value} {v : Value} (_ : v = .null ∨ ∃ a, v = .ref a) {ls' : Array Slot} (_ : storeLocals ls i v = some ls'), W p l e R s m args below meth c H locs cells slots Q (F0 m (pc + n) ls' rest) → W p l e R s m args below meth c H locs cells slots Q (F0 m pc ls (v :: rest))) (h : (pm_sta L S i fun L' t => k (pc + n) L' t M) = some r) : pm_W p l e R s m args below meth c Q g M0 pc L S M := by
  obtain ⟨q, t, hS0, hN⟩ := pm_a1_inv h
  clear h
  subst hS0
  have h := hN
  obtain ⟨h1, h2, h⟩ := pm_st_inv h
  intro hle ls H locs hL hlen hW hS
  obtain ⟨ls', e', hL'⟩ := pm_LR_set (v := pm_a q) hL h1 h2 rfl
  exact row (pm_cv_ref g q) e' (hk _ _ _ _ h hle ls' H locs hL' (by rw [List.length_set]; exact hlen) hW hS)
theorem pm_s_iinc (hk : ∀ pc' L' S' M', k pc' L' S' M' = some r → pm_W p l e R s m args below meth c Q g M0 pc' L' S' M') {i : Nat} {n : Int} (row : ∀ {ls : Array Slot} {H : Heap} {locs : List Loc} {cells slots : Nat} {rest : List Value} {x : Int32} {ls' : Array Slot} (_ : ls[i]? = some (.val (.int x))) (_ : storeLocals ls i (.int (x + Int32.ofInt n)) = some ls'), W p l e R s m args below meth c H locs cells slots Q (F0 m (pc + 3) ls' rest) → W p l e R s m args below meth c H locs cells slots Q (F0 m pc ls rest)) (h : (pm_ldi L i fun x => pm_st L i (pm_i (x + pm_c n)) fun L' => k (pc + 3) L' S M) = some r) : pm_W p l e R s m args below meth c Q g M0 pc L S M := by
  obtain ⟨x, hx, h⟩ := pm_ldi_inv h
  obtain ⟨h1, h2, h⟩ := pm_st_inv h
  intro hle ls H locs hL hlen hW hS
  obtain ⟨ls', e', hL'⟩ := pm_LR_set (v := pm_i (x + pm_c n)) hL h1 h2 rfl
  refine row (hL.2.2 _ _ hx) (ls' := ls') ?_ (hk _ _ _ _ h hle ls' H locs hL' (by rw [List.length_set]; exact hlen) hW hS)
  rw [pm_c_eq]; exact e'
theorem pm_s_goto (hk : ∀ pc' L' S' M', k pc' L' S' M' = some r → pm_W p l e R s m args below meth c Q g M0 pc' L' S' M') (hx : p.tables.exec = Jvm.exec) {cc : ByteArray} (hb : c.code = cc) {off : Int} (hd : decode cc pc = .ok (.goto off, 3)) (h : (pm_j pc off fun t => k t L S M) = some r) : pm_W p l e R s m args below meth c Q g M0 pc L S M := by
  obtain ⟨t, ht, h⟩ := pm_j_inv h
  intro hle ls H locs hL hlen hW hS
  exact lv_goto hx hb hd ht (hk _ _ _ _ h hle ls H locs hL hlen hW hS)
theorem pm_s_icmp (hk : ∀ pc' L' S' M', k pc' L' S' M' = some r → pm_W p l e R s m args below meth c Q g M0 pc' L' S' M') (hx : p.tables.exec = Jvm.exec) {cc : ByteArray} (hb : c.code = cc) {cd : Jvm.ClassFile.Cond} {off : Int} (hd : decode cc pc = .ok (.if_icmp cd off, 3)) (h : (pm_i2 S fun x y t => pm_j pc off fun t' => pm_cmp cd x y (k t' L t M) (k (pc + 3) L t M)) = some r) : pm_W p l e R s m args below meth c Q g M0 pc L S M := by
  obtain ⟨x, y, t, hS0, hN⟩ := pm_i2_inv h
  clear h
  subst hS0
  have h := hN
  obtain ⟨t', ht, h⟩ := pm_j_inv h
  intro hle ls H locs hL hlen hW hS
  cases cd with
  | eq =>
    have h : (if x = y then (k t' L t M) else (k (pc + 3) L t M)) = some r := h
    exact lv_icmp_eq hx hb hd ht (fun hc => hk _ _ _ _ (by rw [if_pos hc] at h; exact h) hle ls H locs hL hlen hW hS) (fun hc => hk _ _ _ _ (by rw [if_neg hc] at h; exact h) hle ls H locs hL hlen hW hS)
  | ne =>
    have h : (if x = y then (k (pc + 3) L t M) else (k t' L t M)) = some r := h
    exact lv_icmp_ne hx hb hd ht (fun hc => hk _ _ _ _ (by rw [if_neg hc] at h; exact h) hle ls H locs hL hlen hW hS) (fun hc => hk _ _ _ _ (by rw [if_pos hc] at h; exact h) hle ls H locs hL hlen hW hS)
  | lt =>
    have h : (if x < y then (k t' L t M) else (k (pc + 3) L t M)) = some r := h
    exact lv_icmp_lt hx hb hd ht (fun hc => hk _ _ _ _ (by rw [if_pos hc] at h; exact h) hle ls H locs hL hlen hW hS) (fun hc => hk _ _ _ _ (by rw [if_neg hc] at h; exact h) hle ls H locs hL hlen hW hS)
  | ge =>
    have h : (if y ≤ x then (k t' L t M) else (k (pc + 3) L t M)) = some r := h
    exact lv_icmp_ge hx hb hd ht (fun hc => hk _ _ _ _ (by rw [if_pos hc] at h; exact h) hle ls H locs hL hlen hW hS) (fun hc => hk _ _ _ _ (by rw [if_neg hc] at h; exact h) hle ls H locs hL hlen hW hS)
  | gt =>
    have h : (if y < x then (k t' L t M) else (k (pc + 3) L t M)) = some r := h
    exact lv_icmp_gt hx hb hd ht (fun hc => hk _ _ _ _ (by rw [if_pos hc] at h; exact h) hle ls H locs hL hlen hW hS) (fun hc => hk _ _ _ _ (by rw [if_neg hc] at h; exact h) hle ls H locs hL hlen hW hS)
  | le =>
    have h : (if x ≤ y then (k t' L t M) else (k (pc + 3) L t M)) = some r := h
    exact lv_icmp_le hx hb hd ht (fun hc => hk _ _ _ _ (by rw [if_pos hc] at h; exact h) hle ls H locs hL hlen hW hS) (fun hc => hk _ _ _ _ (by rw [if_neg hc] at h; exact h) hle ls H locs hL hlen hW hS)
theorem pm_s_if (hk : ∀ pc' L' S' M', k pc' L' S' M' = some r → pm_W p l e R s m args below meth c Q g M0 pc' L' S' M') (hx : p.tables.exec = Jvm.exec) {cc : ByteArray} (hb : c.code = cc) {cd : Jvm.ClassFile.Cond} {off : Int} (hd : decode cc pc = .ok (.ifCond cd off, 3)) (h : (pm_i1 S fun x t => pm_j pc off fun t' => pm_cmp cd x 0 (k t' L t M) (k (pc + 3) L t M)) = some r) : pm_W p l e R s m args below meth c Q g M0 pc L S M := by
  obtain ⟨x, t, hS0, hN⟩ := pm_i1_inv h
  clear h
  subst hS0
  have h := hN
  obtain ⟨t', ht, h⟩ := pm_j_inv h
  intro hle ls H locs hL hlen hW hS
  cases cd with
  | eq =>
    have h : (if x = 0 then (k t' L t M) else (k (pc + 3) L t M)) = some r := h
    exact lv_if_eq hx hb hd ht (fun hc => hk _ _ _ _ (by rw [if_pos hc] at h; exact h) hle ls H locs hL hlen hW hS) (fun hc => hk _ _ _ _ (by rw [if_neg hc] at h; exact h) hle ls H locs hL hlen hW hS)
  | ne =>
    have h : (if x = 0 then (k (pc + 3) L t M) else (k t' L t M)) = some r := h
    exact lv_if_ne hx hb hd ht (fun hc => hk _ _ _ _ (by rw [if_neg hc] at h; exact h) hle ls H locs hL hlen hW hS) (fun hc => hk _ _ _ _ (by rw [if_pos hc] at h; exact h) hle ls H locs hL hlen hW hS)
  | lt =>
    have h : (if x < 0 then (k t' L t M) else (k (pc + 3) L t M)) = some r := h
    exact lv_if_lt hx hb hd ht (fun hc => hk _ _ _ _ (by rw [if_pos hc] at h; exact h) hle ls H locs hL hlen hW hS) (fun hc => hk _ _ _ _ (by rw [if_neg hc] at h; exact h) hle ls H locs hL hlen hW hS)
  | ge =>
    have h : (if 0 ≤ x then (k t' L t M) else (k (pc + 3) L t M)) = some r := h
    exact lv_if_ge hx hb hd ht (fun hc => hk _ _ _ _ (by rw [if_pos hc] at h; exact h) hle ls H locs hL hlen hW hS) (fun hc => hk _ _ _ _ (by rw [if_neg hc] at h; exact h) hle ls H locs hL hlen hW hS)
  | gt =>
    have h : (if 0 < x then (k t' L t M) else (k (pc + 3) L t M)) = some r := h
    exact lv_if_gt hx hb hd ht (fun hc => hk _ _ _ _ (by rw [if_pos hc] at h; exact h) hle ls H locs hL hlen hW hS) (fun hc => hk _ _ _ _ (by rw [if_neg hc] at h; exact h) hle ls H locs hL hlen hW hS)
  | le =>
    have h : (if x ≤ 0 then (k t' L t M) else (k (pc + 3) L t M)) = some r := h
    exact lv_if_le hx hb hd ht (fun hc => hk _ _ _ _ (by rw [if_pos hc] at h; exact h) hle ls H locs hL hlen hW hS) (fun hc => hk _ _ _ _ (by rw [if_neg hc] at h; exact h) hle ls H locs hL hlen hW hS)
theorem pm_s_ifnull (hk : ∀ pc' L' S' M', k pc' L' S' M' = some r → pm_W p l e R s m args below meth c Q g M0 pc' L' S' M') (hx : p.tables.exec = Jvm.exec) {cc : ByteArray} (hb : c.code = cc) {off : Int} (hd : decode cc pc = .ok (.ifnull off, 3)) (h : (pm_a1 S fun q t => (match q with | none => pm_j pc off fun t' => k t' L t M | some _ => k (pc + 3) L t M)) = some r) : pm_W p l e R s m args below meth c Q g M0 pc L S M := by
  obtain ⟨q, t, hS0, hN⟩ := pm_a1_inv h
  clear h
  subst hS0
  have h := hN
  intro hle ls H locs hL hlen hW hS
  cases q with
  | none =>
    obtain ⟨t', ht, h⟩ := pm_j_inv h
    exact lv_ifnullN hx hb hd ht (hk _ _ _ _ h hle ls H locs hL hlen hW hS)
  | some q => exact lv_ifnull hx hb hd (hk _ _ _ _ h hle ls H locs hL hlen hW hS)
theorem pm_s_ifnonnull (hk : ∀ pc' L' S' M', k pc' L' S' M' = some r → pm_W p l e R s m args below meth c Q g M0 pc' L' S' M') (hx : p.tables.exec = Jvm.exec) {cc : ByteArray} (hb : c.code = cc) {off : Int} (hd : decode cc pc = .ok (.ifnonnull off, 3)) (h : (pm_a1 S fun q t => (match q with | some _ => pm_j pc off fun t' => k t' L t M | none => k (pc + 3) L t M)) = some r) : pm_W p l e R s m args below meth c Q g M0 pc L S M := by
  obtain ⟨q, t, hS0, hN⟩ := pm_a1_inv h
  clear h
  subst hS0
  have h := hN
  intro hle ls H locs hL hlen hW hS
  cases q with
  | none => exact lv_ifnonnullN hx hb hd (hk _ _ _ _ h hle ls H locs hL hlen hW hS)
  | some q =>
    obtain ⟨t', ht, h⟩ := pm_j_inv h
    exact lv_ifnonnull hx hb hd ht (hk _ _ _ _ h hle ls H locs hL hlen hW hS)
theorem pm_sw_inv {x : Int} {d : Int} {f : Int → pm_R} {r : pm_O × pm_M} : ∀ (offs : List Int) (lo : Int), pm_sw x lo offs d f = some r → (x < lo ∨ lo + offs.length ≤ x) ∧ f d = some r ∨ ∃ o, ¬ x < lo ∧ x < lo + offs.length ∧ offs[(x - lo).toNat]? = some o ∧ f o = some r
  | [], lo, h => Or.inl ⟨by simp; omega, h⟩
  | o :: rs, lo, h => by
    unfold pm_sw at h
    split at h
    · rename_i he
      subst he
      exact Or.inr ⟨o, by omega, by simp; omega, by simp, h⟩
    · rename_i he
      rcases pm_sw_inv rs (lo + 1) h with ⟨h1, h2⟩ | ⟨o', h1, h2, h3, h4⟩
      · exact Or.inl ⟨by simp; omega, h2⟩
      · refine Or.inr ⟨o', by omega, by simp; omega, ?_, h4⟩
        have : (x - lo).toNat = (x - (lo + 1)).toNat + 1 := by omega
        rw [this]
        simpa using h3
theorem pm_s_tsw (hk : ∀ pc' L' S' M', k pc' L' S' M' = some r → pm_W p l e R s m args below meth c Q g M0 pc' L' S' M') (hx : p.tables.exec = Jvm.exec) {cc : ByteArray} (hb : c.code = cc) {d lo hi : Int} {offs : Array Int} {len : Nat} (hd : decode cc pc = .ok (.tableswitch d lo hi offs, len)) (h : (pm_i1 S fun x t => if hi + 1 = lo + offs.toList.length then pm_sw x.toInt lo offs.toList d fun o => pm_j pc o fun t' => k t' L t M else none) = some r) : pm_W p l e R s m args below meth c Q g M0 pc L S M := by
  obtain ⟨x, t, hS0, hN⟩ := pm_i1_inv h
  clear h
  subst hS0
  have h := hN
  split at h
  · rename_i hh
    intro hle ls H locs hL hlen hW hS
    rcases pm_sw_inv _ _ h with ⟨h1, h2⟩ | ⟨o, h1, h2, h3, h4⟩
    · obtain ⟨t', ht, h2⟩ := pm_j_inv h2
      exact lv_tableOut hx hb hd (by omega) ht (hk _ _ _ _ h2 hle ls H locs hL hlen hW hS)
    · obtain ⟨t', ht, h4⟩ := pm_j_inv h4
      exact lv_tableIn hx hb hd h1 (by omega) (by rw [← Array.getElem?_toList]; exact h3) ht (hk _ _ _ _ h4 hle ls H locs hL hlen hW hS)
  · cases h
end PMS
end
section
/-! the instructions that read and write the heap -/
theorem pm_fits {g : pm_G} {ty : FieldType} (h : pm_isr ty = true) (q : Option (Nat × Nat)) : narrow ty (pm_cv g (pm_a q)) = pm_cv g (pm_a q) ∧ fits ty (pm_cv g (pm_a q)) = true := by
  cases ty <;> simp [pm_isr] at h <;> cases q <;> exact ⟨rfl, rfl⟩
theorem pm_nar_b {x : Int32} (h : x = 0 ∨ x = 1) : narrow .boolean (.int x) = .int x := by
  rcases h with rfl | rfl <;> rfl
section PMX
variable {p : Program} {l : Launch} {e : Env} {R : Room} {s : State} {m : MethodId} {args : Array Value} {below : List Frame} {meth : Method} {c : Code} {Q : State → Prop}
variable {g : pm_G} {M0 : pm_M} {r : pm_O × pm_M} {k : Nat → pm_L → List pm_V → pm_M → pm_R} {pc mi : Nat} {L : pm_L} {S : List pm_V} {M : pm_M}
theorem pm_one {D : va_G} {cl : List vw_C} {q : Nat × va_E} {H : Heap} (h : va_at D cl q H) : va_P D cl [q] H := fun k q' hk => by
  have : k = 0 := by
    rcases k with _ | k
    · rfl
    · simp at hk
  subst this
  cases hk
  exact h
theorem pm_fs_get {f i : Nat} {tys : List Nat} {j t : Nat} (h : tys[j]? = some t) : (pm_fs g M f i tys)[j]? = some (pm_ev g M f i t j) := by
  unfold pm_fs
  rw [List.getElem?_mapIdx, h]
  rfl
theorem pm_en_obj {f i ci : Nat} {tys : List Nat} (h : pm_shp g.2.2.1 f = (0, ci, tys)) : pm_en g M f i = .inr (ci, pm_fs g M f i tys) := by
  unfold pm_en
  rw [h]
  rfl
theorem pm_s_getf (C : pm_Cx p l s m args meth c mi g) (hk : ∀ pc' L' S' M', k pc' L' S' M' = some r → pm_W p l e R s m args below meth c Q g M0 pc' L' S' M') {idx : Nat} {q : Nat × Nat × Nat × Bool} (hq : pm_fld (pm_own mi) idx = some q) (hd : decode (pm_code mi) pc = .ok (.getfield idx, 3))
    (h : (pm_r1 M S fun f i t => pm_gf g.2.2.1 M q f i fun v => k (pc + 3) L (v :: t) M) = some r) : pm_W p l e R s m args below meth c Q g M0 pc L S M := by
  obtain ⟨hx, hb, -, -, hown, hts, -, -, -, -, hst⟩ := C
  obtain ⟨f, i, t, hS0, hok, hN⟩ := pm_r1_inv h
  clear h
  subst hS0
  have h := hN
  obtain ⟨ci, fk, ty, fin⟩ := q
  obtain ⟨Cn, T, N, hKc, hkN, hty, -, hlink⟩ := pm_fld_ok hq
  unfold pm_gf at h
  split at h
  · rename_i cj tys hshp
    split at h
    · rename_i hc
      have hc : ci = cj := hc
      subst hc
      obtain ⟨h99, htys⟩ := pm_shp_obj hshp
      subst htys
      intro hle ls H locs hL hlen hW hS
      have hat := pm_P_at (g := g) hW.1 hok h99 hW.2.1
      rw [pm_en_obj hshp] at hat
      have hin := (pm_cl_ok hKc).1
      refine va_get (D := g.2.2.2.1) (ci := ci) (v := pm_ev g M f i ty fk) (C := Cn) (T := T) (N := N) hx hb hts hin hown hst.1 (pm_one hat) 0 rfl hKc fk hkN (hts _ hlink) (fun _ h9 => h9) (pm_fs_get hty) hd ?_
      dsimp only at h
      split at h
      · exact hk _ _ _ _ h hle ls H locs hL hlen hW hS
      · exact hk _ _ _ _ h hle ls H locs hL hlen hW hS
      · rename_i n1 n2
        have hev : pm_ev g M f i ty fk = .int (M.1 f i fk) := by
          unfold pm_ev
          split
          · exact absurd rfl n1
          · exact absurd rfl n2
          · rfl
        rw [hev]
        exact hk _ _ _ _ h hle ls H locs hL hlen hW hS
    · cases h
  · cases h
/-- a field's new value in its cell -/
theorem pm_at_put {ci : Nat} {Cn : String} {T : u_T} {N : Nat} {a : Nat} {H H1 : Heap} {fs : List Value} {fk : Nat} {v : Value} {cell : Cell} {sl : Nat} {D : va_G} (hKc : pm_K[ci]? = some (Cn, T, N)) (q1 : H[a]? = some cell) (q2 : cell.cls = D.1 ci) (q3 : cell.vm = .none)
    (q4 : ∀ k, k < N → cell.slots[D.2 ci k]? = some (vp_V fs k)) (hap : ∀ a b, a < N → b < N → a ≠ b → D.2 ci a ≠ D.2 ci b) (hk : fk < N) (hl : fk < fs.length) (hsl : sl = D.2 ci fk) (e1 : H1[a]? = some (cell.setSlot sl v)) : va_at D pm_K (a, .inr (ci, fs.set fk v)) H1 := by
  subst hsl
  exact ⟨_, hKc, t_OB.to (V := updV (vp_V fs) fk v) ⟨_, e1, q2, q3, t_set q4 hap hk v⟩ (fun j _ => vp_updV_set hl v j)⟩
theorem pm_fs_set {M' : pm_M} {f i : Nat} {tys : List Nat} {j t : Nat} (h : tys[j]? = some t) {v : Value} (hv : pm_ev g M' f i t j = v) (ho : ∀ j' t', j' ≠ j → tys[j']? = some t' → pm_ev g M' f i t' j' = pm_ev g M f i t' j') : pm_fs g M' f i tys = (pm_fs g M f i tys).set j v := by
  have hj : j < tys.length := (List.getElem?_eq_some_iff.mp h).1
  apply List.ext_getElem?
  intro n
  by_cases hn : n = j
  · subst hn
    rw [pm_fs_get h, List.getElem?_set_self (by unfold pm_fs; rw [List.length_mapIdx]; exact hj), hv]
  · rw [List.getElem?_set_ne (Ne.symm hn)]
    cases ht : tys[n]? with
    | none =>
      unfold pm_fs
      rw [List.getElem?_mapIdx, List.getElem?_mapIdx, ht]; rfl
    | some t' => rw [pm_fs_get ht, pm_fs_get ht, ho n t' hn ht]
theorem pm_put_row (C : pm_Cx p l s m args meth c mi g) {idx ci fk ty f i : Nat} {fin : Bool} (hq : pm_fld (pm_own mi) idx = some (ci, fk, ty, fin)) (hd : decode (pm_code mi) pc = .ok (.putfield idx, 3)) (hfin : fin = true → (pm_ini mi && pm_own mi == ci) = true) {tys : List Nat} (hshp : pm_shp g.2.2.1 f = (0, ci, tys)) {v : Value} {M' : pm_M}
    (hv : ∀ fty, pm_tok ty fty = true → narrow fty v = v ∧ fits fty v = true) (hn : M'.2.2.2 = M.2.2.2) (h99 : M'.1 99 0 = M.1 99 0) (hen : ∀ f' i', ¬ (f' = f ∧ i' = i) → pm_en g M' f' i' = pm_en g M f' i')
    (hv' : pm_ev g M' f i ty fk = v) (ho : ∀ j' t', j' ≠ fk → tys[j']? = some t' → pm_ev g M' f i t' j' = pm_ev g M f i t' j') (hok : pm_ok M f i = true)
    {ls : Array Slot} {H : Heap} {locs : List Loc} {cells slots : Nat} {rest : List Value} (hW : pm_Wd g M s H) (hS : va_S (pm_A g) s.heap H locs)
    (kk : ∀ (H1 : Heap) (locs1 : List Loc), pm_Wd g M' s H1 → va_S (pm_A g) s.heap H1 locs1 → W p l e R s m args below meth c H1 locs1 cells slots Q (F0 m (pc + 3) ls rest)) :
    W p l e R s m args below meth c H locs cells slots Q (F0 m pc ls (v :: .ref (pm_ad g f i) :: rest)) := by
  obtain ⟨hx, hb, -, -, hown, hts, -, hini, -, -, hst⟩ := C
  obtain ⟨Cn, T, N, hKc, hkN, hty, hfi, hlink⟩ := pm_fld_ok hq
  obtain ⟨hin, hkt, hnm, hlenN, hCn, hTk, -, -⟩ := pm_cl_ok hKc
  have hpd := hkt fk hkN
  have htok : pm_tok ty (pm_kt ci fk) = true := by
    have h9 := (hTk fk hkN).2
    rw [List.getD_eq_getElem?_getD, hty] at h9
    exact h9
  obtain ⟨hf99, htys⟩ := pm_shp_obj hshp
  subst htys
  have hat := pm_P_at (g := g) hW.1 hok hf99 hW.2.1
  rw [pm_en_obj hshp] at hat
  obtain ⟨r', hr', cell, q1, q2, q3, q4⟩ := hat
  have hr9 : r' = (Cn, T, N) := Option.some.inj (hr'.symm.trans hKc)
  subst hr9
  obtain ⟨hSl, hfc, kC, hkC, hkind⟩ := hst.1.1 ci _ hKc
  obtain ⟨cf, kf, fi, fd, hi, hsl⟩ := hSl fk hkN
  have hap := va_apart (own := pm_nm (pm_own mi)) hts hin (pm_kt ci) hkt hnm hst.1 hKc
  have hlay := hts _ (hin _ (u_in_lay hkN))
  have hfl : fk < (pm_fs g M f i (pm_cty ci)).length := by unfold pm_fs; rw [List.length_mapIdx, hlenN]; exact hkN
  obtain ⟨hnar, hfit⟩ := hv _ htok
  have fin1 : ∀ H1 : Heap, H1[pm_ad g f i]? = some (cell.setSlot fd.slot v) → H1.size = H.size → (∀ q, q ≠ pm_ad g f i → H1[q]? = H[q]?) → W p l e R s m args below meth c H1 (locs ++ [⟨pm_ad g f i, fd.slot⟩]) cells slots Q (F0 m (pc + 3) ls rest) := fun H1 e1 e2 e3 => by
    refine kk H1 _ (pm_Wd_upd hW hst.2.1 hn h99 hok hf99 ?_ e2 e3 hen) (pm_S_put hS hok hf99 hW.2.1 e2 e3)
    rw [pm_en_obj hshp, pm_fs_set (M := M) hty hv' ho]
    exact pm_at_put hKc q1 q2 q3 q4 hap hkN hfl hsl e1
  cases fin with
  | false =>
    unfold u_lay at hlay
    rw [if_neg (by rw [hfi]; decide)] at hlay
    have hstt := (u_facts hfc hkC (u_lays hts hin hkN) hi).1
    have h6 := u_store hfc hkC hkind hlay hi hpd hnar hfit
    exact W.putK hx hb (f := fd) ⟨hown, hts _ hlink, ⟨_, _, _, hi⟩, hstt⟩ (by rw [q2]; exact h6) q1 q3 (by rw [hsl]; exact k2_hasslot (q4 fk hkN)) rfl rfl hd fin1
  | true =>
    unfold u_lay at hlay
    rw [if_pos hfi] at hlay
    have hstt := (u_facts hfc hkC (u_lays hts hin hkN) hi).1
    have h6 := u_fits hfc hkC hkind (Or.inr hlay) hi hpd hnar hfit
    have hf9 := hfin rfl
    rw [Bool.and_eq_true, beq_iff_eq] at hf9
    refine W.putFinK hx hb hown (hts _ hlink) hi hstt ?_ (hini hf9.1) (by rw [q2]; exact h6) q1 q3 (by rw [hsl]; exact k2_hasslot (q4 fk hkN)) rfl rfl hd fin1
    rw [hf9.2, ← hCn] at hown
    rw [(hTk fk hkN).1] at hlay hi
    exact laid_decl hown hlay hi
end PMX
end
section
/-! stores, arrays, new cells -/
section PMY
variable {p : Program} {l : Launch} {e : Env} {R : Room} {s : State} {m : MethodId} {args : Array Value} {below : List Frame} {meth : Method} {c : Code} {Q : State → Prop}
variable {g : pm_G} {M0 : pm_M} {r : pm_O × pm_M} {k : Nat → pm_L → List pm_V → pm_M → pm_R} {pc mi : Nat} {L : pm_L} {S : List pm_V} {M : pm_M}
theorem pm_tok0 {t : FieldType} (h : pm_tok 0 t = true) : t = .int := by simpa [pm_tok] using h
theorem pm_tok1 {t : FieldType} (h : pm_tok 1 t = true) : t = .long := by simpa [pm_tok] using h
theorem pm_tok3 {t : FieldType} (h : pm_tok 3 t = true) : t = .boolean := by simpa [pm_tok] using h
theorem pm_tok2 {t : FieldType} (h : pm_tok 2 t = true) : pm_isr t = true := by simpa [pm_tok] using h
theorem pm_bfit {x : Int32} (h : x = 0 ∨ x = 1) : fits .boolean (.int x) = true := by
  rcases h with rfl | rfl <;> rfl
/-- the memory with one int changed -/
theorem pm_en_i {f i j : Nat} {x : Int32} {f' i' : Nat} (h : ¬ (f' = f ∧ i' = i)) : pm_en g (pm_u M.1 f i j x, M.2) f' i' = pm_en g M f' i' := pm_en_eq (M' := (pm_u M.1 f i j x, M.2)) (pm_u_ne h) rfl rfl
theorem pm_en_l {f i j : Nat} {x : Int64} {f' i' : Nat} (h : ¬ (f' = f ∧ i' = i)) : pm_en g (M.1, pm_u M.2.1 f i j x, M.2.2) f' i' = pm_en g M f' i' := pm_en_eq (M' := (M.1, pm_u M.2.1 f i j x, M.2.2)) rfl (pm_u_ne h) rfl
theorem pm_en_r {f i j : Nat} {x : Option (Nat × Nat)} {f' i' : Nat} (h : ¬ (f' = f ∧ i' = i)) : pm_en g (M.1, M.2.1, pm_u M.2.2.1 f i j x, M.2.2.2) f' i' = pm_en g M f' i' := pm_en_eq (M' := (M.1, M.2.1, pm_u M.2.2.1 f i j x, M.2.2.2)) rfl rfl (pm_u_ne h)
theorem pm_u99 {F : Nat → Nat → Nat → Int32} {f i j : Nat} {x : Int32} (h : f ≠ 99) : pm_u F f i j x 99 0 = F 99 0 := pm_u_ne (fun q => h q.1.symm)
theorem pm_u_o {α : Type} {F : Nat → Nat → Nat → α} {f i k k' : Nat} {v : α} (h : k' ≠ k) : pm_u F f i k v f i k' = F f i k' := by
  rw [pm_u_at]; exact if_neg h
theorem pm_u_s {α : Type} {F : Nat → Nat → Nat → α} {f i k : Nat} {v : α} : pm_u F f i k v f i k = v := by
  rw [pm_u_at]; exact if_pos rfl
theorem pm_ev_i {f i j t j' : Nat} {x : Int32} (h : j' ≠ j) : pm_ev g (pm_u M.1 f i j x, M.2) f i t j' = pm_ev g M f i t j' := by
  unfold pm_ev
  split
  · rfl
  · rfl
  · show Value.int (pm_u M.1 f i j x f i j') = _
    rw [pm_u_o h]
theorem pm_ev_l {f i j t j' : Nat} {x : Int64} (h : j' ≠ j) : pm_ev g (M.1, pm_u M.2.1 f i j x, M.2.2) f i t j' = pm_ev g M f i t j' := by
  unfold pm_ev
  split
  · show Value.long (pm_u M.2.1 f i j x f i j') = _
    rw [pm_u_o h]
  · rfl
  · rfl
theorem pm_ev_r {f i j t j' : Nat} {x : Option (Nat × Nat)} (h : j' ≠ j) : pm_ev g (M.1, M.2.1, pm_u M.2.2.1 f i j x, M.2.2.2) f i t j' = pm_ev g M f i t j' := by
  unfold pm_ev
  split
  · rfl
  · show pm_cv g (pm_a (pm_u M.2.2.1 f i j x f i j')) = _
    rw [pm_u_o h]
  · rfl
theorem pm_s_putf (C : pm_Cx p l s m args meth c mi g) (hk : ∀ pc' L' S' M', k pc' L' S' M' = some r → pm_W p l e R s m args below meth c Q g M0 pc' L' S' M') {idx : Nat} {q : Nat × Nat × Nat × Bool} (hq : pm_fld (pm_own mi) idx = some q) (hd : decode (pm_code mi) pc = .ok (.putfield idx, 3))
    (h : (pm_vr M S fun v f i t => pm_pf g.2.2.1 (pm_ini mi && pm_own mi == q.1) M q v f i fun M' => k (pc + 3) L t M') = some r) : pm_W p l e R s m args below meth c Q g M0 pc L S M := by
  obtain ⟨v, f, i, t, hS0, hok, hN⟩ := pm_vr_inv h
  clear h
  subst hS0
  have h := hN
  obtain ⟨ci, fk, ty, fin⟩ := q
  unfold pm_pf at h
  split at h
  · rename_i cj tys hshp
    split at h
    · rename_i hc
      obtain ⟨hc, hfin⟩ := hc
      have hc : ci = cj := hc
      subst hc
      have h99 := (pm_shp_obj hshp).1
      intro hle ls H locs hL hlen hW hS
      dsimp only at h
      split at h
      · rename_i x
        exact pm_put_row (M := M) (M' := (pm_u M.1 f i fk x, M.2)) C hq hd hfin hshp (fun fty ht => by rw [pm_tok0 ht]; exact ⟨rfl, rfl⟩) rfl (pm_u99 h99) (fun _ _ h => pm_en_i h) (by show Value.int (pm_u M.1 f i fk x f i fk) = _; rw [pm_u_s]; rfl) (fun _ _ hj _ => pm_ev_i hj) hok hW hS fun H1 locs1 hW1 hS1 => hk _ _ _ _ h hle ls H1 locs1 hL hlen hW1 hS1
      · rename_i x
        obtain ⟨hx, h⟩ := pm_bo_inv h
        exact pm_put_row (M := M) (M' := (pm_u M.1 f i fk x, M.2)) C hq hd hfin hshp (fun fty ht => by rw [pm_tok3 ht]; exact ⟨pm_nar_b hx, pm_bfit hx⟩) rfl (pm_u99 h99) (fun _ _ h => pm_en_i h) (by show Value.int (pm_u M.1 f i fk x f i fk) = _; rw [pm_u_s]; rfl) (fun _ _ hj _ => pm_ev_i hj) hok hW hS fun H1 locs1 hW1 hS1 => hk _ _ _ _ h hle ls H1 locs1 hL hlen hW1 hS1
      · rename_i x
        exact pm_put_row (M := M) (M' := (M.1, pm_u M.2.1 f i fk x, M.2.2)) C hq hd hfin hshp (fun fty ht => by rw [pm_tok1 ht]; exact ⟨rfl, rfl⟩) rfl rfl (fun _ _ h => pm_en_l h) (by show Value.long (pm_u M.2.1 f i fk x f i fk) = _; rw [pm_u_s]; rfl) (fun _ _ hj _ => pm_ev_l hj) hok hW hS fun H1 locs1 hW1 hS1 => hk _ _ _ _ h hle ls H1 locs1 hL hlen hW1 hS1
      · rename_i x
        exact pm_put_row (M := M) (M' := (M.1, M.2.1, pm_u M.2.2.1 f i fk x, M.2.2.2)) C hq hd hfin hshp (fun fty ht => pm_fits (pm_tok2 ht) x) rfl rfl (fun _ _ h => pm_en_r h) (by show pm_cv g (pm_a (pm_u M.2.2.1 f i fk x f i fk)) = _; rw [pm_u_s]) (fun _ _ hj _ => pm_ev_r hj) hok hW hS fun H1 locs1 hW1 hS1 => hk _ _ _ _ h hle ls H1 locs1 hL hlen hW1 hS1
      · cases h
    · cases h
  · cases h
theorem pm_en_1 {f i n : Nat} {cs : List Nat} (h : pm_shp g.2.2.1 f = (1, n, cs)) : pm_en g M f i = .inl (g.2.2.2.2 0, n, .inl (M.1 f i)) := by
  unfold pm_en
  rw [h]
  rfl
theorem pm_en_2 {f i n : Nat} {cs : List Nat} (h : pm_shp g.2.2.1 f = (2, n, cs)) : pm_en g M f i = .inl (g.2.2.2.2 1, n, .inl (M.1 f i)) := by
  unfold pm_en
  rw [h]
  rfl
theorem pm_en_3 {f i n : Nat} {cs : List Nat} (h : pm_shp g.2.2.1 f = (3, n, cs)) : pm_en g M f i = .inl (g.2.2.2.2 2, n, .inr (.inl (M.2.1 f i))) := by
  unfold pm_en
  rw [h]
  rfl
theorem pm_en_4 {f i n : Nat} {cs : List Nat} (h : pm_shp g.2.2.1 f = (4, n, cs)) : pm_en g M f i = .inl (g.2.2.2.2 (3 + cs.headD 0), n, .inr (.inr (.inr (.inr (fun j => (M.2.2.1 f i j).map fun q => pm_ad g q.1 q.2))))) := by
  unfold pm_en
  rw [h]
  rfl
theorem pm_ar_inv {ns t f : Nat} {F : Nat → pm_R} (h : pm_ar ns t f F = some r) : ∃ n cs, pm_shp ns f = (t, n, cs) ∧ f ≠ 99 ∧ F n = some r := by
  unfold pm_ar at h
  split at h
  rename_i t' n cs hs
  split at h
  · rename_i hc
    exact ⟨n, cs, by rw [hs, hc.1], hc.2, h⟩
  · cases h
theorem pm_ari_inv {ns f : Nat} {F : Nat → pm_R} (h : pm_ari ns f F = some r) : ∃ n cs, pm_shp ns f = (1, n, cs) ∧ F n = some r := by
  unfold pm_ari at h
  split at h
  · exact ⟨_, _, by assumption, h⟩
  · cases h
theorem pm_99 (ns : Nat) : pm_shp ns 99 = (1, ns, []) := rfl
theorem pm_s_iald (C : pm_Cx p l s m args meth c mi g) (hk : ∀ pc' L' S' M', k pc' L' S' M' = some r → pm_W p l e R s m args below meth c Q g M0 pc' L' S' M') (hd : decode (pm_code mi) pc = .ok (.iaload, 1))
    (h : (pm_ir M S fun x f i t => pm_ari g.2.2.1 f fun n => pm_ix x n fun j => k (pc + 1) L (pm_i (M.1 f i j) :: t) M) = some r) : pm_W p l e R s m args below meth c Q g M0 pc L S M := by
  obtain ⟨hx, hb, -, -, -, -, -, -, -, -, hst⟩ := C
  obtain ⟨x, f, i, t, hS0, hok, hN⟩ := pm_ir_inv h
  clear h
  subst hS0
  obtain ⟨n, cs, hsh, h⟩ := pm_ari_inv hN
  obtain ⟨hin, hlt, hz⟩ := pm_ix_inv h
  intro hle ls H locs hL hlen hW hS
  by_cases h99 : f = 99
  · subst h99
    rw [pm_99] at hsh
    cases hsh
    have hi0 : i = 0 := by
      simp only [pm_ok, Bool.and_eq_true, decide_eq_true_eq] at hok
      have h9 : i < 1 := hok.1
      omega
    subst hi0
    obtain ⟨scr, h1, h2, h3, h4, h5⟩ := hW.2.2.2.2.2
    exact W.iald (v := .int (M.1 99 0 x.toNatClampNeg)) hx hb h1 h2 h3 (by rw [h4]; exact hin) (h5 _ hlt) rfl rfl hd (hk _ _ _ _ hz hle ls H locs hL hlen hW hS)
  · have hat := pm_P_at (g := g) hW.1 hok h99 hW.2.1
    rw [pm_en_1 hsh] at hat
    exact va_iald hx hb hst.1 (pm_one hat) 0 0 rfl rfl hin hd (hk _ _ _ _ hz hle ls H locs hL hlen hW hS)
theorem pm_s_bald (C : pm_Cx p l s m args meth c mi g) (hk : ∀ pc' L' S' M', k pc' L' S' M' = some r → pm_W p l e R s m args below meth c Q g M0 pc' L' S' M') (hd : decode (pm_code mi) pc = .ok (.baload, 1))
    (h : (pm_ir M S fun x f i t => pm_ar g.2.2.1 2 f fun n => pm_ix x n fun j => k (pc + 1) L (pm_i (M.1 f i j) :: t) M) = some r) : pm_W p l e R s m args below meth c Q g M0 pc L S M := by
  obtain ⟨hx, hb, -, -, -, -, -, -, -, -, hst⟩ := C
  obtain ⟨x, f, i, t, hS0, hok, hN⟩ := pm_ir_inv h
  clear h
  subst hS0
  obtain ⟨n, cs, hsh, h99, h⟩ := pm_ar_inv hN
  obtain ⟨hin, hlt, h⟩ := pm_ix_inv h
  intro hle ls H locs hL hlen hW hS
  have hat := pm_P_at (g := g) hW.1 hok h99 hW.2.1
  rw [pm_en_2 hsh] at hat
  exact va_zald hx hb hst.1 (pm_one hat) 0 1 rfl rfl hin hd (hk _ _ _ _ h hle ls H locs hL hlen hW hS)
theorem pm_s_lald (C : pm_Cx p l s m args meth c mi g) (hk : ∀ pc' L' S' M', k pc' L' S' M' = some r → pm_W p l e R s m args below meth c Q g M0 pc' L' S' M') (hd : decode (pm_code mi) pc = .ok (.laload, 1))
    (h : (pm_ir M S fun x f i t => pm_ar g.2.2.1 3 f fun n => pm_ix x n fun j => k (pc + 1) L (pm_l (M.2.1 f i j) :: t) M) = some r) : pm_W p l e R s m args below meth c Q g M0 pc L S M := by
  obtain ⟨hx, hb, -, -, -, -, -, -, -, -, hst⟩ := C
  obtain ⟨x, f, i, t, hS0, hok, hN⟩ := pm_ir_inv h
  clear h
  subst hS0
  obtain ⟨n, cs, hsh, h99, h⟩ := pm_ar_inv hN
  obtain ⟨hin, hlt, h⟩ := pm_ix_inv h
  intro hle ls H locs hL hlen hW hS
  have hat := pm_P_at (g := g) hW.1 hok h99 hW.2.1
  rw [pm_en_3 hsh] at hat
  exact va_lald hx hb hst.1 (pm_one hat) 0 2 rfl rfl hin hd (hk _ _ _ _ h hle ls H locs hL hlen hW hS)
theorem pm_rf_cv (q : Option (Nat × Nat)) : va_rf (q.map fun q => pm_ad g q.1 q.2) = pm_cv g (pm_a q) := by
  cases q <;> rfl
theorem pm_r4 : pm_fam.all (fun q => q.2.2.1 != 4 || decide (q.2.2.2.2 = [1]) || decide (q.2.2.2.2 = [3])) = true := by decide +kernel
theorem pm_shp4 {ns f n : Nat} {cs : List Nat} (h : pm_shp ns f = (4, n, cs)) : cs = [1] ∨ cs = [3] := by
  unfold pm_shp at h
  split at h
  · rename_i q hq
    have h2 := List.all_eq_true.mp pm_r4 _ (pm_fi_mem hq)
    rw [h] at h2
    simpa using h2
  · split at h <;> cases h
/-- the class of an array of references -/
theorem pm_ty4 {f n : Nat} {cs : List Nat} {ns : Nat} (h : pm_shp ns f = (4, n, cs)) : ∃ (t0 ck : Nat) (rc : vw_C), cs = [ck] ∧ pm_K[ck]? = some rc ∧ (pm_tys g)[t0]? = some (g.2.2.2.2 (3 + cs.headD 0), .object rc.1) := by
  rcases pm_shp4 h with rfl | rfl
  · exact ⟨3, 1, _, rfl, rfl, rfl⟩
  · exact ⟨4, 3, _, rfl, rfl, rfl⟩
theorem pm_s_aald (C : pm_Cx p l s m args meth c mi g) (hk : ∀ pc' L' S' M', k pc' L' S' M' = some r → pm_W p l e R s m args below meth c Q g M0 pc' L' S' M') (hd : decode (pm_code mi) pc = .ok (.aaload, 1))
    (h : (pm_ir M S fun x f i t => pm_ar g.2.2.1 4 f fun n => pm_ix x n fun j => k (pc + 1) L (pm_a (M.2.2.1 f i j) :: t) M) = some r) : pm_W p l e R s m args below meth c Q g M0 pc L S M := by
  obtain ⟨hx, hb, -, -, -, -, -, -, -, -, hst⟩ := C
  obtain ⟨x, f, i, t, hS0, hok, hN⟩ := pm_ir_inv h
  clear h
  subst hS0
  obtain ⟨n, cs, hsh, h99, h⟩ := pm_ar_inv hN
  obtain ⟨hin, hlt, h⟩ := pm_ix_inv h
  intro hle ls H locs hL hlen hW hS
  have hat := pm_P_at (g := g) hW.1 hok h99 hW.2.1
  rw [pm_en_4 hsh] at hat
  obtain ⟨t0, ck, rc, hcs, hrc, hty⟩ := pm_ty4 (g := g) hsh
  refine va_aldq (C := rc.1) hx hb hst.1 (pm_one hat) 0 t0 rfl hty hin hd ?_
  rw [pm_rf_cv]
  exact hk _ _ _ _ h hle ls H locs hL hlen hW hS
theorem pm_s_alen (C : pm_Cx p l s m args meth c mi g) (hk : ∀ pc' L' S' M', k pc' L' S' M' = some r → pm_W p l e R s m args below meth c Q g M0 pc' L' S' M') (hd : decode (pm_code mi) pc = .ok (.arraylength, 1))
    (h : (pm_r1 M S fun f _ t => pm_ari g.2.2.1 f fun n => k (pc + 1) L (pm_i (nI n) :: t) M) = some r) : pm_W p l e R s m args below meth c Q g M0 pc L S M := by
  obtain ⟨hx, hb, -, -, -, -, -, -, -, -, hst⟩ := C
  obtain ⟨f, i, t, hS0, hok, hN⟩ := pm_r1_inv h
  clear h
  subst hS0
  obtain ⟨n, cs, hsh, h⟩ := pm_ari_inv hN
  intro hle ls H locs hL hlen hW hS
  by_cases h99 : f = 99
  · subst h99
    rw [pm_99] at hsh
    cases hsh
    obtain ⟨scr, h1, h2, h3, h4, h5⟩ := hW.2.2.2.2.2
    exact W.alen (n := nI g.2.2.1) hx hb h1 h2 (by rw [h4] <;> rfl) rfl rfl hd (hk _ _ _ _ h hle ls H locs hL hlen hW hS)
  · have hat := pm_P_at (g := g) hW.1 hok h99 hW.2.1
    rw [pm_en_1 hsh] at hat
    exact va_alen hx hb hst.1 (pm_one hat) 0 0 rfl rfl rfl hd (hk _ _ _ _ h hle ls H locs hL hlen hW hS)
end PMY
end
section
/-! array stores, new cells -/
section PMZ
variable {p : Program} {l : Launch} {e : Env} {R : Room} {s : State} {m : MethodId} {args : Array Value} {below : List Frame} {meth : Method} {c : Code} {Q : State → Prop}
variable {g : pm_G} {M0 : pm_M} {r : pm_O × pm_M} {k : Nat → pm_L → List pm_V → pm_M → pm_R} {pc mi : Nat} {L : pm_L} {S : List pm_V} {M : pm_M}
theorem pm_arr_upd {cA : ClassId} {n j : Nat} {F : Nat → Value} {v : Value} {F' : Nat → Value} (h1 : F' j = v) (h2 : ∀ q, q ≠ j → F' q = F q) : (arrV cA n F).setSlot j v = arrV cA n F' := by
  rw [arrV_store]
  congr 1
  funext q
  by_cases hq : q = j
  · subst hq
    rw [h1]; simp [updV]
  · rw [h2 q hq]; simp [updV, hq]
theorem pm_s_iast (C : pm_Cx p l s m args meth c mi g) (hk : ∀ pc' L' S' M', k pc' L' S' M' = some r → pm_W p l e R s m args below meth c Q g M0 pc' L' S' M') (hd : decode (pm_code mi) pc = .ok (.iastore, 1))
    (h : (pm_vir M S fun v x f i t => pm_ar g.2.2.1 1 f fun n => pm_ix x n fun j => (match v with
    | .inl y => k (pc + 1) L t (pm_u M.1 f i j y, M.2)
    | _ => none)) = some r) : pm_W p l e R s m args below meth c Q g M0 pc L S M := by
  obtain ⟨hx, hb, -, -, -, -, -, -, -, -, hst⟩ := C
  obtain ⟨v, x, f, i, t, hS0, hok, hN⟩ := pm_vir_inv h
  clear h
  subst hS0
  obtain ⟨n, cs, hsh, h99, h1⟩ := pm_ar_inv hN
  obtain ⟨hin, hlt, h2⟩ := pm_ix_inv h1
  split at h2
  · rename_i y
    skip
    intro hle ls H locs hL hlen hW hS
    have hat := pm_P_at (g := g) hW.1 hok h99 hW.2.1
    rw [pm_en_1 hsh] at hat
    refine W.iast hx hb hat ((hst.1.2 0 _ rfl).1 n (fun j => Value.int (M.1 f i j))) (fun q => by cases q) (by show ¬ (x < 0 ∨ (arrV _ _ _).slots.size ≤ _); rw [arrV_size]; exact hin) rfl rfl hd fun H1 e1 z oq => ?_
    refine hk _ _ _ _ h2 hle ls H1 _ hL hlen (pm_Wd_upd hW hst.2.1 rfl (pm_u99 h99) hok h99 ?_ z oq (fun _ _ h => pm_en_i h)) (pm_S_put hS hok h99 hW.2.1 z oq)
    rw [pm_en_1 hsh]
    show H1[_]? = some (vp_cell _ _)
    rw [e1]
    refine congrArg some (pm_arr_upd (F := fun j => Value.int (M.1 f i j)) (F' := fun j => Value.int (pm_u M.1 f i x.toNatClampNeg y f i j)) ?_ ?_)
    · rw [pm_u_s]
    · intro q hq
      rw [pm_u_o hq]
  · cases h2
theorem pm_s_bast (C : pm_Cx p l s m args meth c mi g) (hk : ∀ pc' L' S' M', k pc' L' S' M' = some r → pm_W p l e R s m args below meth c Q g M0 pc' L' S' M') (hd : decode (pm_code mi) pc = .ok (.bastore, 1))
    (h : (pm_vir M S fun v x f i t => pm_ar g.2.2.1 2 f fun n => pm_ix x n fun j => (match v with
    | .inl y => pm_bo y (k (pc + 1) L t (pm_u M.1 f i j y, M.2))
    | _ => none)) = some r) : pm_W p l e R s m args below meth c Q g M0 pc L S M := by
  obtain ⟨hx, hb, -, -, -, -, -, -, -, -, hst⟩ := C
  obtain ⟨v, x, f, i, t, hS0, hok, hN⟩ := pm_vir_inv h
  clear h
  subst hS0
  obtain ⟨n, cs, hsh, h99, h1⟩ := pm_ar_inv hN
  obtain ⟨hin, hlt, h2⟩ := pm_ix_inv h1
  split at h2
  · rename_i y
    obtain ⟨hbo, h2⟩ := pm_bo_inv h2
    intro hle ls H locs hL hlen hW hS
    have hat := pm_P_at (g := g) hW.1 hok h99 hW.2.1
    rw [pm_en_2 hsh] at hat
    refine W.zast hx hb hat ((hst.1.2 1 _ rfl).1 n (fun j => Value.int (M.1 f i j))) (fun q => by cases q) (by show ¬ (x < 0 ∨ (arrV _ _ _).slots.size ≤ _); rw [arrV_size]; exact hin) rfl rfl hd fun H1 e1 z oq => ?_
    refine hk _ _ _ _ h2 hle ls H1 _ hL hlen (pm_Wd_upd hW hst.2.1 rfl (pm_u99 h99) hok h99 ?_ z oq (fun _ _ h => pm_en_i h)) (pm_S_put hS hok h99 hW.2.1 z oq)
    rw [pm_en_2 hsh]
    show H1[_]? = some (vp_cell _ _)
    rw [e1]
    rw [pm_nar_b hbo]
    refine congrArg some (pm_arr_upd (F := fun j => Value.int (M.1 f i j)) (F' := fun j => Value.int (pm_u M.1 f i x.toNatClampNeg y f i j)) ?_ ?_)
    · rw [pm_u_s]
    · intro q hq
      rw [pm_u_o hq]
  · cases h2
theorem pm_s_last (C : pm_Cx p l s m args meth c mi g) (hk : ∀ pc' L' S' M', k pc' L' S' M' = some r → pm_W p l e R s m args below meth c Q g M0 pc' L' S' M') (hd : decode (pm_code mi) pc = .ok (.lastore, 1))
    (h : (pm_vir M S fun v x f i t => pm_ar g.2.2.1 3 f fun n => pm_ix x n fun j => (match v with
    | .inr (.inl y) => k (pc + 1) L t (M.1, pm_u M.2.1 f i j y, M.2.2)
    | _ => none)) = some r) : pm_W p l e R s m args below meth c Q g M0 pc L S M := by
  obtain ⟨hx, hb, -, -, -, -, -, -, -, -, hst⟩ := C
  obtain ⟨v, x, f, i, t, hS0, hok, hN⟩ := pm_vir_inv h
  clear h
  subst hS0
  obtain ⟨n, cs, hsh, h99, h1⟩ := pm_ar_inv hN
  obtain ⟨hin, hlt, h2⟩ := pm_ix_inv h1
  split at h2
  · rename_i y
    skip
    intro hle ls H locs hL hlen hW hS
    have hat := pm_P_at (g := g) hW.1 hok h99 hW.2.1
    rw [pm_en_3 hsh] at hat
    refine W.last hx hb hat ((hst.1.2 2 _ rfl).1 n (fun j => Value.long (M.2.1 f i j))) (fun q => by cases q) (by show ¬ (x < 0 ∨ (arrV _ _ _).slots.size ≤ _); rw [arrV_size]; exact hin) rfl rfl hd fun H1 e1 z oq => ?_
    refine hk _ _ _ _ h2 hle ls H1 _ hL hlen (pm_Wd_upd hW hst.2.1 rfl rfl hok h99 ?_ z oq (fun _ _ h => pm_en_l h)) (pm_S_put hS hok h99 hW.2.1 z oq)
    rw [pm_en_3 hsh]
    show H1[_]? = some (vp_cell _ _)
    rw [e1]
    refine congrArg some (pm_arr_upd (F := fun j => Value.long (M.2.1 f i j)) (F' := fun j => Value.long (pm_u M.2.1 f i x.toNatClampNeg y f i j)) ?_ ?_)
    · rw [pm_u_s]
    · intro q hq
      rw [pm_u_o hq]
  · cases h2
theorem pm_s_aast (C : pm_Cx p l s m args meth c mi g) (hk : ∀ pc' L' S' M', k pc' L' S' M' = some r → pm_W p l e R s m args below meth c Q g M0 pc' L' S' M') (hd : decode (pm_code mi) pc = .ok (.aastore, 1))
    (h : (pm_vir M S fun v x f i t => pm_ar g.2.2.1 4 f fun n => pm_ix x n fun j => (match v with
    | .inr (.inr (some q)) => pm_g M q.1 q.2 (match pm_shp g.2.2.1 q.1, pm_shp g.2.2.1 f with
      | (0, cj, _), (_, _, [ck]) => if cj = ck then k (pc + 1) L t (M.1, M.2.1, pm_u M.2.2.1 f i j (some q), M.2.2.2) else none
      | _, _ => none)
    | _ => none)) = some r) : pm_W p l e R s m args below meth c Q g M0 pc L S M := by
  obtain ⟨hx, hb, -, -, -, -, -, -, -, -, hst⟩ := C
  obtain ⟨v, x, f, i, t, hS0, hok, hN⟩ := pm_vir_inv h
  clear h
  subst hS0
  obtain ⟨n, cs, hsh, h99, h1⟩ := pm_ar_inv hN
  obtain ⟨hin, hlt, h2⟩ := pm_ix_inv h1
  split at h2
  · rename_i q
    obtain ⟨hoq, h3⟩ := pm_g_inv h2
    split at h3
    · rename_i cj tys a1 b1 ck hq1 hf1
      split at h3
      · rename_i hcc
        subst hcc
        rw [hsh] at hf1
        cases hf1
        intro hle ls H locs hL hlen hW hS
        have hat := pm_P_at (g := g) hW.1 hok h99 hW.2.1
        rw [pm_en_4 hsh] at hat
        have hq99 := (pm_shp_obj hq1).1
        have hav := pm_P_at (g := g) hW.1 hoq hq99 hW.2.1
        rw [pm_en_obj hq1] at hav
        obtain ⟨t0, ck', rc, hcs, hrc, hty⟩ := pm_ty4 (g := g) hsh
        cases hcs
        obtain ⟨r', hr', cellV, g1, g2, g3, -⟩ := hav
        have hcls := (hst.1.1 cj rc hrc).2
        obtain ⟨kA, comp, k1, k2, k3, -⟩ := (hst.1.2 t0 _ hty).2
        have hcomp : comp = g.2.2.2.1.1 cj := Option.some.inj (k3.symm.trans hcls.1)
        subst hcomp
        obtain ⟨kC, hkC, -⟩ := hcls.2
        have h0 : ¬ x < 0 := fun z => hin (Or.inl z)
        refine W.aast hx hb hat (fun q h => by cases h) (fun h => by cases h) k1 k2 rfl hkC ⟨h0, by show _ < (arrV _ _ _).slots.size; rw [arrV_size]; exact hlt⟩ g1 (fun q h => by rw [g3] at h; cases h) (by rw [g2]; exact hkC) (by rw [g2]; exact va_assign hcls) rfl rfl hd fun H1 e1 z oq => ?_
        refine hk _ _ _ _ h3 hle ls H1 _ hL hlen (pm_Wd_upd hW hst.2.1 rfl rfl hok h99 ?_ z oq (fun _ _ h => pm_en_r h)) (pm_S_put hS hok h99 hW.2.1 z oq)
        rw [pm_en_4 hsh]
        show H1[_]? = some (vp_cell _ _)
        rw [e1]
        refine congrArg some (pm_arr_upd (F := fun j => va_rf ((M.2.2.1 f i j).map fun (q : Nat × Nat) => pm_ad g q.1 q.2)) (F' := fun j => va_rf ((pm_u M.2.2.1 f i x.toNatClampNeg (some q) f i j).map fun (q : Nat × Nat) => pm_ad g q.1 q.2)) ?_ ?_)
        · show va_rf ((pm_u M.2.2.1 f i x.toNatClampNeg (some q) f i x.toNatClampNeg).map _) = _
          rw [pm_u_s]; rfl
        · intro q9 hq
          show va_rf ((pm_u M.2.2.1 f i x.toNatClampNeg (some q) f i q9).map _) = _
          rw [pm_u_o hq]
      · cases h3
    · cases h3
  · cases h2
end PMZ
end
section
/-! new cells -/
section PMN
variable {p : Program} {l : Launch} {e : Env} {R : Room} {s : State} {m : MethodId} {args : Array Value} {below : List Frame} {meth : Method} {c : Code} {Q : State → Prop}
variable {g : pm_G} {M0 : pm_M} {r : pm_O × pm_M} {k : Nat → pm_L → List pm_V → pm_M → pm_R} {pc mi : Nat} {L : pm_L} {S : List pm_V} {M : pm_M}
theorem pm_mk_inv {ns t n : Nat} {b : List Nat → Bool} {F : Nat → Nat → pm_M → pm_R} (h : pm_mk ns M t n b F = some r) : ∃ f i cs, M.2.2.2.1 < pm_tot ∧ pm_plan M.2.2.2.1 = (f, i) ∧ pm_shp ns f = (t, n, cs) ∧ b cs = true ∧ F f i (pm_new M (f, i)) = some r := by
  unfold pm_mk at h
  split at h
  · rename_i hlt
    split at h
    rename_i t' n' c' hs
    split at h
    · rename_i hc
      obtain ⟨rfl, rfl, hb⟩ := hc
      exact ⟨_, _, c', hlt, rfl, hs, hb, h⟩
    · cases h
  · cases h
theorem pm_plan99 : ∀ k, k < pm_tot → (pm_plan k).1 ≠ 99 := by decide +kernel
theorem pm_new_ok {f i : Nat} (hlt : M.2.2.2.1 < pm_tot) (hp : pm_plan M.2.2.2.1 = (f, i)) : f ≠ 99 ∧ pm_ad g f i = g.1 + M.2.2.2.1 := by
  have h9 := pm_plan99 _ hlt
  rw [hp] at h9
  have h8 := pm_pidx_plan _ hlt
  rw [hp] at h8
  refine ⟨h9, ?_⟩
  unfold pm_ad
  rw [if_neg h9, h8]
theorem pm_Wd_new {f i : Nat} {H H1 : Heap} (hW : pm_Wd g M s H) (hb : g.2.1 < g.1) (hlt : M.2.2.2.1 < pm_tot) (hp : pm_plan M.2.2.2.1 = (f, i)) (hz : H1.size = H.size + 1) (ho : ∀ q, q < H.size → H1[q]? = H[q]?)
    (hat : va_at g.2.2.2.1 pm_K (pm_ad g f i, pm_en g (pm_new M (f, i)) f i) H1) : pm_Wd g (pm_new M (f, i)) s H1 := by
  obtain ⟨w1, w2, w3, w4, w5, w6⟩ := hW
  obtain ⟨h99, had⟩ := pm_new_ok (g := g) hlt hp
  have hsz : H.size = g.1 + M.2.2.2.1 := by rcases w5 with w5 | w5 <;> omega
  refine ⟨fun k hk => ?_, hlt, w3, ?_, ?_, ?_⟩
  · have hk : k < M.2.2.2.1 + 1 := hk
    by_cases hkn : k = M.2.2.2.1
    · subst hkn
      rw [hp, ← had]; exact hat
    · have hk2 : k < M.2.2.2.1 := by omega
      have hne : ¬ ((pm_plan k).1 = f ∧ (pm_plan k).2 = i) := fun q => hkn (by
        have e1 := pm_pidx_plan k (by omega)
        have e2 := pm_pidx_plan _ hlt
        rw [hp] at e2
        rw [q.1, q.2] at e1
        exact e1.symm.trans e2)
      rw [pm_en_eq (M := M) (M' := pm_new M (f, i)) (pm_z_ne hne) (pm_z_ne hne) (pm_z_ne hne)]
      refine va_at.kept (w1 k hk2) (ho _ ?_)
      show g.1 + k < _
      omega
  · show g.1 + (M.2.2.2.1 + 1) ≤ _
    omega
  · show M.2.2.2.1 + 1 = _ ∨ H1.size = g.1 + (M.2.2.2.1 + 1)
    omega
  · show va_X _ _ (pm_z M.1 f i 0 99 0) _ _
    rw [pm_z_ne (fun q => h99 q.1.symm)]
    exact w6.kept (ho _ (by omega))
theorem pm_S_new {H0 H H1 : Heap} {locs : List Loc} (hS : va_S (pm_A g) H0 H locs) (hz : H1.size = H.size + 1) (ho : ∀ q, q < H.size → H1[q]? = H[q]?) : va_S (pm_A g) H0 H1 locs :=
  ⟨by have := hS.1; omega, fun q h1 h2 => (ho q (Nat.lt_of_lt_of_le h1 hS.1)).trans (hS.2.1 q h1 h2), hS.2.2⟩
theorem pm_z_at {α : Type} {F : Nat → Nat → Nat → α} {f i k : Nat} {v : α} : pm_z F f i v f i k = v := by
  unfold pm_z
  rw [if_pos ⟨rfl, rfl⟩]
theorem pm_z_fn {α : Type} {F : Nat → Nat → Nat → α} {f i : Nat} {v : α} : pm_z F f i v f i = fun _ => v := funext fun _ => pm_z_at
theorem pm_new_le (hle : pm_le M0 M) (q : Nat × Nat) : pm_le M0 (pm_new M q) := ⟨Nat.le_succ_of_le hle.1, hle.2⟩
theorem pm_new_cb (hle : pm_le M0 M) (q : Nat × Nat) : pm_cb (pm_new M q) - pm_cb M0 = pm_cb M - pm_cb M0 + 1 := by
  obtain ⟨h1, h2⟩ := hle
  show (M.2.2.2.1 + 1 + M.2.2.2.2) - (M0.2.2.2.1 + M0.2.2.2.2) = (M.2.2.2.1 + M.2.2.2.2) - (M0.2.2.2.1 + M0.2.2.2.2) + 1
  omega
theorem pm_new_sb (hle : pm_le M0 M) (q : Nat × Nat) : pm_sb (pm_new M q) - pm_sb M0 = pm_sb M - pm_sb M0 + 128 := by
  obtain ⟨h1, h2⟩ := hle
  show (128 * (M.2.2.2.1 + 1) + 6 * M.2.2.2.2) - (128 * M0.2.2.2.1 + 6 * M0.2.2.2.2) = (128 * M.2.2.2.1 + 6 * M.2.2.2.2) - (128 * M0.2.2.2.1 + 6 * M0.2.2.2.2) + 128
  omega
theorem pm_tot96 : pm_tot = 96 := rfl
theorem pm_room (hW : M.2.2.2.1 ≤ pm_tot ∧ M.2.2.2.2 ≤ 600) (hR : 1000 ≤ R.cells ∧ 20000 ≤ R.slots) (hlt : M.2.2.2.1 < pm_tot) : pm_cb M - pm_cb M0 + 1 ≤ R.cells ∧ pm_sb M - pm_sb M0 + 128 ≤ R.slots := by
  have e1 : pm_cb M = M.2.2.2.1 + M.2.2.2.2 := rfl
  have e2 : pm_sb M = 128 * M.2.2.2.1 + 6 * M.2.2.2.2 := rfl
  have e3 := pm_tot96
  omega
theorem pm_clck : pm_clss.all (fun q => match q.2.2 with
  | .inl ci => pm_tb (.classLink (pm_nm q.1) q.2.1 (pm_nm ci)) && decide (ci < 6)
  | .inr x => pm_tb (.classLink (pm_nm q.1) q.2.1 (pm_exn x))) = true := by decide +kernel
theorem pm_aov : pm_tb (.arrayOver (.object "JobLayer$Task")) = true ∧ pm_tb (.arrayOver (.object "JobLayer$ByteRow")) = true := by decide +kernel
theorem pm_s_new (C : pm_Cx p l s m args meth c mi g) (hR : 1000 ≤ R.cells ∧ 20000 ≤ R.slots) (hk : ∀ pc' L' S' M', k pc' L' S' M' = some r → pm_W p l e R s m args below meth c Q g M0 pc' L' S' M') {idx ci : Nat} (hcl : pm_cls (pm_own mi) idx = some (.inl ci)) (hd : decode (pm_code mi) pc = .ok (.new idx, 3))
    (h : (pm_mk g.2.2.1 M 0 ci (fun _ => true) fun f i M' => k (pc + 3) L (pm_r f i :: S) M') = some r) : pm_W p l e R s m args below meth c Q g M0 pc L S M := by
  obtain ⟨hx, hb, -, -, hown, hts, -, -, -, -, hst⟩ := C
  obtain ⟨f, i, tys, hlt, hp, hsh, -, h1⟩ := pm_mk_inv h
  have hck := List.all_eq_true.mp pm_clck _ (pm_lk_mem hcl)
  simp only [Bool.and_eq_true, decide_eq_true_eq] at hck
  obtain ⟨rc, hrc⟩ : ∃ rc, pm_K[ci]? = some rc := ⟨_, List.getElem?_eq_getElem hck.2⟩
  obtain ⟨Cn, T, N⟩ := rc
  obtain ⟨hin, hkt, hnm, hlenN, hCn, hTk, hins, hini⟩ := pm_cl_ok hrc
  subst hCn
  obtain ⟨h99, htys⟩ := pm_shp_obj hsh
  subst htys
  intro hle ls H locs hL hlen hW hS
  obtain ⟨r1, r2⟩ := pm_room (M0 := M0) (R := R) ⟨hW.2.1, hW.2.2.1⟩ hR hlt
  have hN : N ≤ 128 := by
    have h9 : ∀ q ∈ pm_K, q.2.2 ≤ 128 := by decide +kernel
    exact h9 _ (List.mem_of_getElem? hrc)
  have had := (pm_new_ok (g := g) hlt hp).2
  have hsz : H.size = g.1 + M.2.2.2.1 := by rcases hW.2.2.2.2.1 with w5 | w5 <;> omega
  have hKn := hst.1.1 ci _ hrc
  refine W.newcK hx hb hown (hts _ (pm_in hck.1)) (hts _ hins) (hts _ hini) rfl hd r1 (by omega) hKn.2.1 rfl fun H1 kC hkC e1 z1 o1 => ?_
  refine W.widen (k := pm_cb (pm_new M (f, i)) - pm_cb M0) (n := pm_sb (pm_new M (f, i)) - pm_sb M0) (by rw [pm_new_cb hle]; exact Nat.le_refl _) (by rw [pm_new_sb hle]; omega) ?_
  have hwd : pm_Wd g (pm_new M (f, i)) s H1 := by
    refine pm_Wd_new hW hst.2.1 hlt hp z1 o1 ?_
    rw [pm_en_obj hsh, had, ← hsz]
    refine ⟨_, hrc, (u_born (pm_kt ci) hts hin hKn hkC e1 hkt).to fun j hj => ?_⟩
    obtain ⟨t, ht⟩ : ∃ t, (pm_cty ci)[j]? = some t := ⟨_, List.getElem?_eq_getElem (by omega)⟩
    have htok := (hTk j hj).2
    rw [List.getD_eq_getElem?_getD, ht] at htok
    have hv : vp_V (pm_fs g (pm_new M (f, i)) f i (pm_cty ci)) j = pm_ev g (pm_new M (f, i)) f i t j := by
      unfold vp_V
      rw [List.getD_eq_getElem?_getD, pm_fs_get ht]; rfl
    rw [hv]
    have z1 : (pm_new M (f, i)).1 f i j = 0 := pm_z_at
    have z2 : (pm_new M (f, i)).2.1 f i j = 0 := pm_z_at
    have z3 : (pm_new M (f, i)).2.2.1 f i j = none := pm_z_at
    have htok : pm_tok t (pm_kt ci j) = true := htok
    unfold pm_ev
    rw [z1, z2, z3]
    simp only [pm_tok, Bool.or_eq_true, Bool.and_eq_true, beq_iff_eq, decide_eq_true_eq] at htok
    rcases htok with ((⟨rfl, h2⟩ | ⟨rfl, h2⟩) | ⟨rfl, h2⟩) | ⟨rfl, h2⟩
    · rw [h2]; rfl
    · rw [h2]; rfl
    · rw [h2]; rfl
    · revert h2
      cases pm_kt ci j <;> simp [pm_isr, defaultValue, pm_cv]
  have hgo := hk _ _ _ _ h1 (pm_new_le hle (f, i)) ls H1 locs hL hlen hwd (pm_S_new hS z1 o1)
  have ead : pm_cv g (pm_r f i) = .ref H.size := by
    show Value.ref (pm_ad g f i) = _
    rw [had, hsz]
  rw [List.map_cons, ead] at hgo
  exact hgo
theorem pm_arr_eq {cA : ClassId} {n : Nat} {F F' : Nat → Value} (h : ∀ j, F j = F' j) : arrV cA n F = arrV cA n F' := by
  rw [show F = F' from funext h]
theorem pm_fam_n : pm_fam.all (fun q => q.2.2.1 == 0 || decide (q.2.2.2.1 ≤ 128)) = true := by decide +kernel
theorem pm_shp_n {ns f t n : Nat} {cs : List Nat} (h : pm_shp ns f = (t, n, cs)) (ht : t ≠ 0) (hf : f ≠ 99) : n ≤ 128 := by
  unfold pm_shp at h
  split at h
  · rename_i q hq
    have h2 := List.all_eq_true.mp pm_fam_n _ (pm_fi_mem hq)
    rw [h] at h2
    simp only [Bool.or_eq_true, beq_iff_eq, decide_eq_true_eq] at h2
    rcases h2 with h2 | h2
    · exact absurd h2 ht
    · exact h2
  · rw [if_neg hf] at h
    cases h
    omega
/-- what is the same for every new array -/
theorem pm_arr_go (C : pm_Cx p l s m args meth c mi g) (hk : ∀ pc' L' S' M', k pc' L' S' M' = some r → pm_W p l e R s m args below meth c Q g M0 pc' L' S' M') {w f i n : Nat} {t : List pm_V} {H H1 : Heap} {ls : Array Slot} {locs : List Loc} (hlt : M.2.2.2.1 < pm_tot) (hp : pm_plan M.2.2.2.1 = (f, i)) (hn : n ≤ 128)
    (hle : pm_le M0 M) (hL : pm_LR g L ls) (hlen : L.length = c.maxLocals) (hW : pm_Wd g M s H) (hS : va_S (pm_A g) s.heap H locs) (h1 : k (pc + w) L (pm_r f i :: t) (pm_new M (f, i)) = some r)
    (z1 : H1.size = H.size + 1) (o1 : ∀ q, q < H.size → H1[q]? = H[q]?) (hat : va_at g.2.2.2.1 pm_K (pm_ad g f i, pm_en g (pm_new M (f, i)) f i) H1) :
    W p l e R s m args below meth c H1 locs (pm_cb M - pm_cb M0 + 1) (pm_sb M - pm_sb M0 + n) Q (F0 m (pc + w) ls (.ref H.size :: t.map (pm_cv g))) := by
  have hst := C.2.2.2.2.2.2.2.2.2.2
  have had := (pm_new_ok (g := g) hlt hp).2
  have hsz : H.size = g.1 + M.2.2.2.1 := by rcases hW.2.2.2.2.1 with w5 | w5 <;> omega
  refine W.widen (k := pm_cb (pm_new M (f, i)) - pm_cb M0) (n := pm_sb (pm_new M (f, i)) - pm_sb M0) (by rw [pm_new_cb hle]; exact Nat.le_refl _) (by rw [pm_new_sb hle]; omega) ?_
  have hgo := hk _ _ _ _ h1 (pm_new_le hle (f, i)) ls H1 locs hL hlen (pm_Wd_new hW hst.2.1 hlt hp z1 o1 hat) (pm_S_new hS z1 o1)
  have ead : pm_cv g (pm_r f i) = .ref H.size := by
    show Value.ref (pm_ad g f i) = _
    rw [had, hsz]
  rw [List.map_cons, ead] at hgo
  exact hgo
theorem pm_ad_new {f i : Nat} {H : Heap} (hlt : M.2.2.2.1 < pm_tot) (hp : pm_plan M.2.2.2.1 = (f, i)) (hW : pm_Wd g M s H) : pm_ad g f i = H.size := by
  rw [(pm_new_ok (g := g) hlt hp).2]
  rcases hW.2.2.2.2.1 with w5 | w5 <;> omega
theorem pm_s_nai (C : pm_Cx p l s m args meth c mi g) (hR : 1000 ≤ R.cells ∧ 20000 ≤ R.slots) (hk : ∀ pc' L' S' M', k pc' L' S' M' = some r → pm_W p l e R s m args below meth c Q g M0 pc' L' S' M') (hd : decode (pm_code mi) pc = .ok (.newarray .int, 2))
    (h : pm_na g.2.2.1 k 1 2 pc (fun _ => true) L S M = some r) : pm_W p l e R s m args below meth c Q g M0 pc L S M := by
  obtain ⟨x, t, hS0, h1⟩ := pm_i1_inv h
  subst hS0
  split at h1
  · rename_i hx0
    obtain ⟨f, i, cs, hlt, hp, hsh, -, h2⟩ := pm_mk_inv h1
    intro hle ls H locs hL hlen hW hS
    have h99 := (pm_new_ok (g := g) hlt hp).1
    have hn := pm_shp_n hsh (by decide) h99
    obtain ⟨r1, r2⟩ := pm_room (M0 := M0) (R := R) ⟨hW.2.1, hW.2.2.1⟩ hR hlt
    have hst := C.2.2.2.2.2.2.2.2.2.2
    have harr : (Cond.arrayClass (newarray.typeOf ArrayType.int)).before args s = true := C.2.2.2.2.2.1 (Cond.arrayClass .int) (pm_in pm_ar3.1)
    refine va_newaK C.1 C.2.1 harr rfl hd rfl hx0 rfl (by
      have : componentBytes (newarray.typeOf .int) ≤ 8 := by decide
      have := Nat.mul_le_mul hn this
      omega) r1 (by omega) rfl fun H1 cA e1 z1 o1 hAr hNm => ?_
    have hcA : cA = g.2.2.2.2 0 := Option.some.inj (hNm.symm.trans (hst.1.2 0 _ rfl).2)
    subst hcA
    refine pm_arr_go C hk hlt hp hn hle hL hlen hW hS h2 z1 o1 ?_
    rw [pm_en_1 hsh, pm_ad_new hlt hp hW]
    show H1[H.size]? = some (vp_cell _ _)
    rw [e1]
    refine congrArg some (pm_arr_eq (F' := fun j => Value.int ((pm_new M (f, i)).1 f i j)) fun j => ?_)
    have z2 : (pm_new M (f, i)).1 f i j = 0 := pm_z_at
    rw [z2]
    rfl
  · cases h1
theorem pm_s_nab (C : pm_Cx p l s m args meth c mi g) (hR : 1000 ≤ R.cells ∧ 20000 ≤ R.slots) (hk : ∀ pc' L' S' M', k pc' L' S' M' = some r → pm_W p l e R s m args below meth c Q g M0 pc' L' S' M') (hd : decode (pm_code mi) pc = .ok (.newarray .boolean, 2))
    (h : pm_na g.2.2.1 k 2 2 pc (fun _ => true) L S M = some r) : pm_W p l e R s m args below meth c Q g M0 pc L S M := by
  obtain ⟨x, t, hS0, h1⟩ := pm_i1_inv h
  subst hS0
  split at h1
  · rename_i hx0
    obtain ⟨f, i, cs, hlt, hp, hsh, -, h2⟩ := pm_mk_inv h1
    intro hle ls H locs hL hlen hW hS
    have h99 := (pm_new_ok (g := g) hlt hp).1
    have hn := pm_shp_n hsh (by decide) h99
    obtain ⟨r1, r2⟩ := pm_room (M0 := M0) (R := R) ⟨hW.2.1, hW.2.2.1⟩ hR hlt
    have hst := C.2.2.2.2.2.2.2.2.2.2
    have harr : (Cond.arrayClass (newarray.typeOf ArrayType.boolean)).before args s = true := C.2.2.2.2.2.1 (Cond.arrayClass .boolean) (pm_in pm_ar3.2.1)
    refine va_newaK C.1 C.2.1 harr rfl hd rfl hx0 rfl (by
      have : componentBytes (newarray.typeOf .boolean) ≤ 8 := by decide
      have := Nat.mul_le_mul hn this
      omega) r1 (by omega) rfl fun H1 cA e1 z1 o1 hAr hNm => ?_
    have hcA : cA = g.2.2.2.2 1 := Option.some.inj (hNm.symm.trans (hst.1.2 1 _ rfl).2)
    subst hcA
    refine pm_arr_go C hk hlt hp hn hle hL hlen hW hS h2 z1 o1 ?_
    rw [pm_en_2 hsh, pm_ad_new hlt hp hW]
    show H1[H.size]? = some (vp_cell _ _)
    rw [e1]
    refine congrArg some (pm_arr_eq (F' := fun j => Value.int ((pm_new M (f, i)).1 f i j)) fun j => ?_)
    have z2 : (pm_new M (f, i)).1 f i j = 0 := pm_z_at
    rw [z2]
    rfl
  · cases h1
theorem pm_s_nal (C : pm_Cx p l s m args meth c mi g) (hR : 1000 ≤ R.cells ∧ 20000 ≤ R.slots) (hk : ∀ pc' L' S' M', k pc' L' S' M' = some r → pm_W p l e R s m args below meth c Q g M0 pc' L' S' M') (hd : decode (pm_code mi) pc = .ok (.newarray .long, 2))
    (h : pm_na g.2.2.1 k 3 2 pc (fun _ => true) L S M = some r) : pm_W p l e R s m args below meth c Q g M0 pc L S M := by
  obtain ⟨x, t, hS0, h1⟩ := pm_i1_inv h
  subst hS0
  split at h1
  · rename_i hx0
    obtain ⟨f, i, cs, hlt, hp, hsh, -, h2⟩ := pm_mk_inv h1
    intro hle ls H locs hL hlen hW hS
    have h99 := (pm_new_ok (g := g) hlt hp).1
    have hn := pm_shp_n hsh (by decide) h99
    obtain ⟨r1, r2⟩ := pm_room (M0 := M0) (R := R) ⟨hW.2.1, hW.2.2.1⟩ hR hlt
    have hst := C.2.2.2.2.2.2.2.2.2.2
    have harr : (Cond.arrayClass (newarray.typeOf ArrayType.long)).before args s = true := C.2.2.2.2.2.1 (Cond.arrayClass .long) (pm_in pm_ar3.2.2)
    refine va_newaK C.1 C.2.1 harr rfl hd rfl hx0 rfl (by
      have : componentBytes (newarray.typeOf .long) ≤ 8 := by decide
      have := Nat.mul_le_mul hn this
      omega) r1 (by omega) rfl fun H1 cA e1 z1 o1 hAr hNm => ?_
    have hcA : cA = g.2.2.2.2 2 := Option.some.inj (hNm.symm.trans (hst.1.2 2 _ rfl).2)
    subst hcA
    refine pm_arr_go C hk hlt hp hn hle hL hlen hW hS h2 z1 o1 ?_
    rw [pm_en_3 hsh, pm_ad_new hlt hp hW]
    show H1[H.size]? = some (vp_cell _ _)
    rw [e1]
    refine congrArg some (pm_arr_eq (F' := fun j => Value.long ((pm_new M (f, i)).2.1 f i j)) fun j => ?_)
    have z2 : (pm_new M (f, i)).2.1 f i j = 0 := pm_z_at
    rw [z2]
    rfl
  · cases h1
theorem pm_s_naa (C : pm_Cx p l s m args meth c mi g) (hR : 1000 ≤ R.cells ∧ 20000 ≤ R.slots) (hk : ∀ pc' L' S' M', k pc' L' S' M' = some r → pm_W p l e R s m args below meth c Q g M0 pc' L' S' M') {idx ci : Nat} (hcl : pm_cls (pm_own mi) idx = some (.inl ci)) (hd : decode (pm_code mi) pc = .ok (.anewarray idx, 3))
    (h : pm_na g.2.2.1 k 4 3 pc (fun c => c == [ci]) L S M = some r) : pm_W p l e R s m args below meth c Q g M0 pc L S M := by
  obtain ⟨x, t, hS0, h1⟩ := pm_i1_inv h
  subst hS0
  split at h1
  · rename_i hx0
    obtain ⟨f, i, cs, hlt, hp, hsh, hcs, h2⟩ := pm_mk_inv h1
    rw [beq_iff_eq] at hcs
    subst hcs
    intro hle ls H locs hL hlen hW hS
    have h99 := (pm_new_ok (g := g) hlt hp).1
    have hn := pm_shp_n hsh (by decide) h99
    obtain ⟨r1, r2⟩ := pm_room (M0 := M0) (R := R) ⟨hW.2.1, hW.2.2.1⟩ hR hlt
    have hst := C.2.2.2.2.2.2.2.2.2.2
    have hck := List.all_eq_true.mp pm_clck _ (pm_lk_mem hcl)
    simp only [Bool.and_eq_true, decide_eq_true_eq] at hck
    obtain ⟨t0, ck, rc, hck2, hrc, hty⟩ := pm_ty4 (g := g) hsh
    cases hck2
    have hao : Cond.arrayOver (.object (pm_nm ci)) ∈ pm_Tl := by
      rcases pm_shp4 hsh with h9 | h9 <;> cases h9
      · exact pm_in pm_aov.1
      · exact pm_in pm_aov.2
    have hrn : rc.1 = pm_nm ci := by
      obtain ⟨Cn, T, N⟩ := rc
      exact (pm_cl_ok hrc).2.2.2.2.1
    refine W.anew C.1 C.2.1 C.2.2.2.2.1 (C.2.2.2.2.2.1 _ (pm_in hck.1)) (C.2.2.2.2.2.1 _ hao) rfl hd rfl hx0 (by omega) r1 (by omega) fun cA kA comp f1 f2 f3 f4 => ?_
    have hcA : cA = g.2.2.2.2 (3 + [ci].headD 0) := by
      obtain ⟨kA2, comp2, -, -, -, f5⟩ := (hst.1.2 t0 _ hty).2
      rw [hrn] at f5
      exact Option.some.inj (f1.symm.trans f5)
    subst hcA
    refine pm_arr_go C hk hlt hp hn hle hL hlen hW hS h2 (by rw [Array.size_push]) (fun q hq => by rw [Array.getElem?_push, if_neg (Nat.ne_of_lt hq)]) ?_
    rw [pm_en_4 hsh, pm_ad_new hlt hp hW]
    show (Array.push _ _)[H.size]? = some (vp_cell _ _)
    rw [Array.getElem?_push_size]
    rw [arrV_new]
    refine congrArg some (pm_arr_eq (F' := fun j => va_rf (((pm_new M (f, i)).2.2.1 f i j).map fun (q : Nat × Nat) => pm_ad g q.1 q.2)) fun j => ?_)
    have z2 : (pm_new M (f, i)).2.2.1 f i j = none := pm_z_at
    rw [z2]
    rfl
  · cases h1
end PMN
end
section
/-! returns, the throw, small calls -/
section PME
variable {p : Program} {l : Launch} {e : Env} {R : Room} {s : State} {m : MethodId} {args : Array Value} {below : List Frame} {meth : Method} {c : Code} {Q : State → Prop}
variable {g : pm_G} {M0 : pm_M} {r : pm_O × pm_M} {k : Nat → pm_L → List pm_V → pm_M → pm_R} {pc mi d : Nat} {L : pm_L} {S : List pm_V} {M : pm_M}
/-- the room of a frame over which d frames of ours may lie -/
def pm_Rm (d : Nat) (R : Room) : Prop := d + 1 ≤ R.frames ∧ 1000 * (d + 1) ≤ R.cells ∧ 20000 * (d + 1) ≤ R.slots ∧ 40 * d + 26 ≤ R.locals
theorem pm_Rm_ok (d : Nat) : pm_Rm d (pm_rm d) := ⟨Nat.le_refl _, Nat.le_refl _, Nat.le_refl _, Nat.le_refl _⟩
theorem pm_fin {H : Heap} {locs : List Loc} (hle : pm_le M0 M) (hW : pm_Wd g M s H) (hS : va_S (pm_A g) s.heap H locs) {o : pm_O} {oc : Outcome} {t : State} (ht : t.heap = H) (hrun : t.status = .running) (hend : Ended t below oc) (hw : s.WarmedH t.vm)
    (hs : s.sameButNew ({ t with vm := s.vm } : State) locs (pm_cb M - pm_cb M0) (pm_sb M - pm_sb M0)) (ho : pm_out g o s oc t) : pm_Q below g M0 (o, M) args s t := by
  subst ht
  exact ⟨oc, hrun, hend, ho, hW, ⟨hS.1, hS.2.1, fun _ h => by cases h⟩, hw, hle, locs, hs, hS.2.2⟩
def pm_rck (mi : Nat) : Bool := match pm_ret mi with
  | 0 => decide (pm_rt mi = some .int)
  | 1 => decide (pm_rt mi = none)
  | 3 => decide (pm_rt mi = some .boolean)
  | 2 => decide (pm_rt mi = some (.object "JobLayer$Task"))
  | _ => false
theorem pm_rcks : ∀ mi, mi < 147 → pm_rck mi = true := by decide +kernel
theorem pm_rc_ok {v : Nat} (h : pm_ret mi = v) (hv : v < 4) : pm_rck mi = true := by
  refine pm_rcks mi (Nat.lt_of_not_le fun q => ?_)
  have hl : pm_ms.length = 147 := by decide +kernel
  have h9 : pm_mi mi = (0, 0, 9, false) := by
    unfold pm_mi
    rw [List.getD_eq_getElem?_getD, List.getElem?_eq_none (by omega)]; rfl
  unfold pm_ret at h
  rw [h9] at h
  have h : 9 = v := h
  omega
theorem pm_s_iret (C : pm_Cx p l s m args meth c mi g) (hd : decode (pm_code mi) pc = .ok (.ireturn, 1))
    (h : (match S with
    | [.inl x] => (match pm_ret mi with
      | 0 => some (Sum.inl (some (pm_i x)), M)
      | 3 => pm_bo x (some (Sum.inl (some (pm_i x)), M))
      | _ => none)
    | _ => none) = some r) : pm_W p l e R s m args below meth c (pm_Q below g M0 r args s) g M0 pc L S M := by
  split at h
  · rename_i x
    split at h
    · rename_i hr
      have h1 := pm_rc_ok hr (by decide)
      unfold pm_rck at h1
      rw [hr] at h1
      have h1 : decide (pm_rt mi = some .int) = true := h1
      rw [decide_eq_true_eq] at h1
      cases h
      intro hle ls H locs hL hlen hW hS
      exact pm_w_iret C.1 C.2.1 (C.2.2.1.trans h1) rfl C.2.2.2.2.2.2.1 (fun t ht hrun hend hw hs => pm_fin hle hW hS ht hrun hend hw hs rfl) hd
    · rename_i hr
      obtain ⟨hb, h⟩ := pm_bo_inv h
      have h1 := pm_rc_ok hr (by decide)
      unfold pm_rck at h1
      rw [hr] at h1
      have h1 : decide (pm_rt mi = some .boolean) = true := h1
      rw [decide_eq_true_eq] at h1
      cases h
      intro hle ls H locs hL hlen hW hS
      exact pm_w_iret C.1 C.2.1 (C.2.2.1.trans h1) (pm_nar_b hb) C.2.2.2.2.2.2.1 (fun t ht hrun hend hw hs => pm_fin hle hW hS ht hrun hend hw hs rfl) hd
    · cases h
  · cases h
theorem pm_s_aret (C : pm_Cx p l s m args meth c mi g) (hd : decode (pm_code mi) pc = .ok (.areturn, 1))
    (h : (match S with
    | [.inr (.inr q)] => if pm_ret mi = 2 then some (Sum.inl (some (pm_a q)), M) else none
    | _ => none) = some r) : pm_W p l e R s m args below meth c (pm_Q below g M0 r args s) g M0 pc L S M := by
  split at h
  · rename_i q
    split at h
    · rename_i hr
      have h1 := pm_rc_ok hr (by decide)
      unfold pm_rck at h1
      rw [hr] at h1
      have h1 : decide (pm_rt mi = some (.object "JobLayer$Task")) = true := h1
      rw [decide_eq_true_eq] at h1
      cases h
      intro hle ls H locs hL hlen hW hS
      exact pm_w_aret C.1 C.2.1 (C.2.2.1.trans h1) (pm_cv_ref g q) C.2.2.2.2.2.2.1 (fun t ht hrun hend hw hs => pm_fin hle hW hS ht hrun hend hw hs rfl) hd
    · cases h
  · cases h
theorem pm_s_vret (C : pm_Cx p l s m args meth c mi g) (hd : decode (pm_code mi) pc = .ok (.return_, 1))
    (h : (match S with
    | [] => if pm_ret mi = 1 then some (Sum.inl none, M) else none
    | _ => none) = some r) : pm_W p l e R s m args below meth c (pm_Q below g M0 r args s) g M0 pc L S M := by
  split at h
  · split at h
    · rename_i hr
      have h1 := pm_rc_ok hr (by decide)
      unfold pm_rck at h1
      rw [hr] at h1
      have h1 : decide (pm_rt mi = none) = true := h1
      rw [decide_eq_true_eq] at h1
      cases h
      intro hle ls H locs hL hlen hW hS
      exact pm_w_vret C.1 C.2.1 (C.2.2.1.trans h1) C.2.2.2.2.2.2.1 (fun t ht hrun hend hw hs => pm_fin hle hW hS ht hrun hend hw hs rfl) hd
    · cases h
  · cases h
theorem pm_old {H : Heap} {locs : List Loc} (hst : pm_St g s) (hS : va_S (pm_A g) s.heap H locs) : ∀ a : Nat, a < g.1 → H[a]? = s.heap[a]? := fun a ha => hS.2.1 a (by have := hst.2.2.1; omega) (fun q => by have := q.1; omega)
theorem pm_hnls : pm_hnrl.map (·.1) = pm_hndl.map (·.1) ∧ ∀ q ∈ pm_hndl, q.2 ≠ [] := by decide +kernel
theorem pm_fi_none {α β : Type} {a : Nat} : ∀ {l : List (Nat × α)} {l' : List (Nat × β)}, l.map (·.1) = l'.map (·.1) → pm_fi a l' = none → pm_fi a l = none
  | [], _, _, _ => rfl
  | q :: r, [], h, _ => by cases h
  | q :: r, q' :: r', h, hn => by
    simp only [List.map_cons, List.cons.injEq] at h
    unfold pm_fi at hn ⊢
    rw [h.1]
    cases hq : (q'.1 == a) with
    | true => rw [hq, cond_true] at hn; cases hn
    | false =>
      rw [hq, cond_false] at hn
      rw [cond_false]
      exact pm_fi_none h.2 hn
theorem pm_hnr_nil (h : pm_hnd mi = []) : pm_hnr mi = [] := by
  unfold pm_hnd at h
  cases hq : pm_fi mi pm_hndl with
  | some q =>
    rw [hq] at h
    exact absurd h (pm_hnls.2 _ (pm_fi_mem hq))
  | none =>
    unfold pm_hnr
    rw [pm_fi_none pm_hnls.1 hq]
    rfl
def pm_nms : List String := ["java/lang/RuntimeException", "java/lang/Exception"]
theorem pm_thck : ∀ x, x < 2 → (Bundle.ownAtoms0 (pm_nm 0) (pm_exi 0 x) (pm_exn x) pm_nms).all (fun w => pm_hp w || (pm_tb w && w.onTables)) = true := by decide +kernel
theorem pm_thfit : Bundle.fit (pm_exn 0) = true ∧ Bundle.fit (pm_exn 1) = true ∧ ∀ n ∈ pm_nms, Bundle.fit n = true := by decide +kernel
theorem pm_exs : ∀ q ∈ pm_clss, (match q.2.2 with
  | .inr x => decide (q.1 = 0) && decide (x < 2)
  | .inl _ => true) = true := by decide +kernel
theorem pm_exin : pm_tb (.initialized (pm_exn 0)) = true ∧ pm_tb (.initialized (pm_exn 1)) = true := by decide +kernel
theorem pm_s_throw (C : pm_Cx p l s m args meth c mi g) (hR : pm_Rm d R) {idx x : Nat} (hcl : pm_cls (pm_own mi) idx = some (.inr x)) (hd : decode (pm_code mi) pc = .ok (.new idx, 3))
    (h : pm_th d mi pc x S M = some r) : pm_W p l e R s m args below meth c (pm_Q below g M0 r args s) g M0 pc L S M := by
  unfold pm_th at h
  split at h
  · rename_i hc
    obtain ⟨h6, hS0, hn, hx6, d3, d4, d7, hnd⟩ := hc
    cases h
    have hex := pm_exs _ (pm_lk_mem hcl)
    simp only [Bool.and_eq_true, decide_eq_true_eq] at hex
    obtain ⟨ho, hx2⟩ := hex
    have hck := List.all_eq_true.mp pm_clck _ (pm_lk_mem hcl)
    have hat := List.all_eq_true.mp (pm_thck x hx2)
    obtain ⟨q1, q2, q3, q4⟩ := hR
    have hS1 : S = [] := List.eq_nil_of_length_eq_zero hS0
    subst hS1
    intro hle ls H locs hL hlen hW hS
    have hst := C.2.2.2.2.2.2.2.2.2.2
    have e1 : pm_cb M = M.2.2.2.1 + M.2.2.2.2 := rfl
    have e2 : pm_sb M = 128 * M.2.2.2.1 + 6 * M.2.2.2.2 := rfl
    have e3 := pm_tot96
    have hnr : c.exceptionTable.toList = [] := by
      have h9 := C.2.2.2.2.2.2.2.2.1
      have h8 : pm_hnr mi = [] := by
        have := pm_hnr_nil hnd
        exact this
      rw [h8] at h9
      exact List.map_eq_nil_iff.mp h9
    have hfit : Bundle.fit (pm_exn x) = true := by
      rcases x with _ | _ | x
      · exact pm_thfit.1
      · exact pm_thfit.2.1
      · omega
    have hini : Cond.initialized (pm_exn x) ∈ pm_Tl := by
      rcases x with _ | _ | x
      · exact pm_in pm_exin.1
      · exact pm_in pm_exin.2
      · omega
    have hown := C.2.2.2.2.1
    rw [ho] at hown d4
    have hck : pm_tb (.classLink (pm_nm (pm_own mi)) idx (pm_exn x)) = true := hck
    rw [ho] at hck
    refine pm_throw (B := g.1) (names := pm_nms) (ik := idx) (ic := pm_exi 0 x) (own := pm_nm 0) (cls := pm_exn x) C.1 C.2.1 C.2.2.2.2.2.2.2.2.2.1 hown hfit pm_thfit.2.2 (C.2.2.2.2.2.1 _ (pm_in hck)) (C.2.2.2.2.2.1 _ hini) (fun w hw => ?_) ⟨rfl, rfl⟩
      (hst.2.2.2.1.moved (Vm.Alike.refl _) (pm_old hst hS)) (hst.2.2.2.2.1.moved (Vm.Alike.refl _) (pm_old hst hS)) (by rw [hL.1, hlen]) hd (pm_dec d3).1 (pm_dec d4).1 (pm_dec d7).1 (fun z hz => by rw [hnr] at hz; cases hz)
      (by show 2 + 3 < R.frames; omega) (by show 0 + (13 * (2 + 1) + 42) ≤ R.locals; omega) (by omega) (by omega) C.2.2.2.2.2.2.1 ?_
    · have h9 := hat w hw
      simp only [Bool.or_eq_true, Bool.and_eq_true] at h9
      rcases h9 with h9 | h9
      · exact Or.inl h9
      · exact Or.inr ⟨h9.2, C.2.2.2.2.2.1 _ (pm_in h9.1)⟩
    · intro t a ce hrun hend hw hz hk hce hcv hcls hsame
      obtain ⟨w1, w2, w3, w4, w5, w6⟩ := hW
      have hle2 : pm_le M0 (M.1, M.2.1, M.2.2.1, M.2.2.2.1, M.2.2.2.2 + 1) := ⟨hle.1, Nat.le_succ_of_le hle.2⟩
      obtain ⟨l1, l2⟩ := hle
      have hlt : ∀ kk, kk < M.2.2.2.1 → g.1 + kk < H.size := fun kk hkk => by omega
      have hwd : pm_Wd g (M.1, M.2.1, M.2.2.1, M.2.2.2.1, M.2.2.2.2 + 1) s t.heap := by
        refine ⟨fun kk hkk => ?_, w2, hx6, Nat.le_trans w4 hz, Or.inl hn, ?_⟩
        · exact va_at.kept (w1 kk hkk) (hk _ (hlt kk hkk))
        · refine w6.kept (hk _ ?_)
          have := hst.2.1
          omega
      refine ⟨.threw a, hrun, hend, ⟨a, ce, rfl, hce, hcv, hcls⟩, hwd, ⟨Nat.le_trans hS.1 hz, fun q h1 h2 => (hk q (Nat.lt_of_lt_of_le h1 hS.1)).trans (hS.2.1 q h1 h2), fun _ h => by cases h⟩, hw, hle2, locs, ?_, hS.2.2⟩
      have c1 : pm_cb (M.1, M.2.1, M.2.2.1, M.2.2.2.1, M.2.2.2.2 + 1) - pm_cb M0 = pm_cb M - pm_cb M0 + 1 := by
        show (M.2.2.2.1 + (M.2.2.2.2 + 1)) - (M0.2.2.2.1 + M0.2.2.2.2) = (M.2.2.2.1 + M.2.2.2.2) - (M0.2.2.2.1 + M0.2.2.2.2) + 1
        omega
      have c2 : pm_sb (M.1, M.2.1, M.2.2.1, M.2.2.2.1, M.2.2.2.2 + 1) - pm_sb M0 = pm_sb M - pm_sb M0 + 6 := by
        show (128 * M.2.2.2.1 + 6 * (M.2.2.2.2 + 1)) - (128 * M0.2.2.2.1 + 6 * M0.2.2.2.2) = (128 * M.2.2.2.1 + 6 * M.2.2.2.2) - (128 * M0.2.2.2.1 + 6 * M0.2.2.2.2) + 6
        omega
      rw [c1, c2]
      exact hsame
  · cases h
end PME
end
section
/-! calls of the program's own methods -/
section PMV
variable {p : Program} {l : Launch} {e : Env} {R : Room} {s : State} {m : MethodId} {args : Array Value} {below : List Frame} {meth : Method} {c : Code} {Q : State → Prop}
variable {g : pm_G} {M0 : pm_M} {r : pm_O × pm_M} {k : Nat → pm_L → List pm_V → pm_M → pm_R} {pc mi d : Nat} {L : pm_L} {S : List pm_V} {M : pm_M}
theorem pm_No.moved {u U : State} (hvm : u.vm.Alike U.vm) (h : pm_No u) : pm_No U := by
  obtain ⟨a, b, h1, h2, h3, h4⟩ := h
  exact ⟨a, b, by rw [hvm.findClass]; exact h1, by rw [hvm.findClass]; exact h2, by rw [hvm.assignable]; exact h3, by rw [hvm.assignable]; exact h4⟩
theorem pm_St.moved {U : State} {locs : List Loc} (hst : pm_St g s) (hvm : s.vm.Alike U.vm) (hsz : g.1 ≤ U.heap.size) (hS : va_S (pm_A g) s.heap U.heap locs) : pm_St g U :=
  ⟨va_K.moved hvm hst.1, hst.2.1, hsz, hst.2.2.2.1.moved hvm (pm_old hst hS), hst.2.2.2.2.1.moved hvm (pm_old hst hS), pm_No.moved hvm hst.2.2.2.2.2⟩
theorem pm_Wd.moved {U : State} {H : Heap} (hvm : s.vm.Alike U.vm) (h : pm_Wd g M s H) : pm_Wd g M U H := ⟨h.1, h.2.1, h.2.2.1, h.2.2.2.1, h.2.2.2.2.1, va_X.moved hvm h.2.2.2.2.2⟩
theorem pm_maxl : ∀ mj, mj < 146 → pm_maxL mj ≤ 9 := by decide +kernel
theorem pm_hw_spec {mj : Nat} {U : State} {a : Array Value} {mk : MethodId} (hn : U.methodNamed? (pm_y mj) = some mk) (h : (pm_hw mj).before a U = true) : ∃ methY cY, U.vm.method? mk = some methY ∧ methY.code = some cY ∧ cY.code = pm_code mj ∧ cY.maxLocals = pm_maxL mj ∧ methY.sig.returnType = pm_rt mj ∧ methY.locks = false ∧
    cY.exceptionTable.toList.map (fun h => (h.startPc, h.endPc, h.handlerPc, h.catchType)) = pm_hnr mj ∧ parseMethodDescriptor (pm_y mj).desc = some methY.sig := by
  unfold pm_hw at h
  split at h
  · rename_i hh
    obtain ⟨methY, cY, h1, h2, h3, h4, h5, h6, h7, h8⟩ := Cond.code_spec hn h
    refine ⟨methY, cY, h1, h2, h3, h4, h5, h6, ?_, h8⟩
    rw [hh]
    have h0 : cY.exceptionTable.size = 0 := by simpa [Array.isEmpty] using h7
    have h9 : cY.exceptionTable.toList = [] := List.eq_nil_of_length_eq_zero (by simpa using h0)
    rw [h9]
    rfl
  · obtain ⟨m9, methY, cY, hn9, h1, h2, h3, h4, h7, h5, h6, h8⟩ := Cond.codeWith_spec h
    cases hn.symm.trans hn9
    exact ⟨methY, cY, h1, h2, h3, h4, h5, h6, h7, h8⟩
/-- a run of the method mj by its contract: the ends -/
theorem pm_run {T : State} {locs : List Loc} {cells slots : Nat} (C : pm_Cx p l s m args meth c mi g) (hR : pm_Rm (d + 1) R) (X : Stand p l e R s m args below meth c T locs cells slots) (hcs : cells ≤ 1000 ∧ slots ≤ 20000) {ls : Array Slot} (hsz : ls.size = c.maxLocals) {t : List pm_V} (hsum : (t.map pm_cat).sum ≤ 8) {ig : Instr} (hd : decode c.code pc = .ok (ig, 3))
    {mj : Nat} {a : List pm_V} {r' : pm_O × pm_M} (hct : pm_Ct l g d mj a M r') (hmj : mj < 146) (hini : Cond.initialized (pm_y mj).cls ∈ pm_Tl) {mk : MethodId} (hn : T.methodNamed? (pm_y mj) = some mk) (hW : pm_Wd g M s T.heap) (hS : va_S (pm_A g) s.heap T.heap locs) :
    ∃ (oc : Outcome) (s₂ T' : State) (L' : List Loc), Steps p.tables e below (doInvoke e (T.setTop (F0 m pc ls (t.map (pm_cv g)))) [] mk (a.map (pm_cv g)).toArray).1 s₂ ∧ pm_out g r'.1 s oc s₂ ∧ T'.heap = s₂.heap ∧ pm_Wd g r'.2 s T'.heap ∧ va_S (pm_A g) s.heap T'.heap (locs ++ L') ∧ pm_le M r'.2 ∧
      Stand p l e R s m args below meth c T' (locs ++ L') (cells + (pm_cb r'.2 - pm_cb M)) (slots + (pm_sb r'.2 - pm_sb M)) ∧
      ((∃ v, oc = .returned v ∧ s₂ = T'.setTop (F0 m (pc + 3) ls (v.toList ++ t.map (pm_cv g)))) ∨ ∃ x, oc = .threw x ∧ s₂ = (T'.setTop (F0 m pc ls (t.map (pm_cv g)))).pushFrame (.throwing x)) := by
  have hst := C.2.2.2.2.2.2.2.2.2.2
  have hts := C.2.2.2.2.2.1
  have hwords : ∀ w ∈ pm_Tl, ∀ a', w.before a' T = true := fun w hw a' => pm_warm (List.mem_filter.mp hw).2 X.warmed (hts w hw)
  have hhw : pm_hw mj ∈ pm_Tl := pm_hw_in hmj
  obtain ⟨methY, cY, y1, y2, y3, y4, y5, y6, y7, y8⟩ := pm_hw_spec (a := #[]) hn (hwords _ hhw _)
  obtain ⟨kY, hkY, -⟩ := className_of_methodNamed hn
  have hinitY : kY.init = .initialized := Cond.initialized_spec (args := #[]) (findClass_of_methodNamed hn) hkY (hwords _ hini _)
  obtain ⟨q1, q2, q3, q4⟩ := hR
  have hml := pm_maxl mj hmj
  have e1 : (pm_rm d).frames = d + 1 := rfl
  have e2 : (pm_rm d).locals = 40 * d + 26 := rfl
  have e3 : (pm_rm d).cells = 1000 * (d + 1) := rfl
  have e4 : (pm_rm d).slots = 20000 * (d + 1) := rfl
  have hsum' : ((F0 m pc ls (t.map (pm_cv g))).stack.map fun v => v.category).sum ≤ 8 := by
    show ((t.map (pm_cv g)).map fun v => v.category).sum ≤ 8
    rw [pm_sum_cv]; exact hsum
  obtain ⟨oc, s₂, st, hend, ho, hWd, hSS, hwm, hle, L', hsame, hL'⟩ := pm_after (g := F0 m pc ls (t.map (pm_cv g))) X rfl hsz hd hct (a := (a.map (pm_cv g)).toArray) hn y1 y2 hkY hinitY (by show (pm_rm d).frames + 1 ≤ _; omega)
    (by show 2 * 0 + _ + (cY.maxLocals + 11) + (pm_rm d).locals ≤ _; rw [y4]; omega) (by show _ + (pm_rm d).cells ≤ _; omega) (by show _ + (pm_rm d).slots ≤ _; omega)
    (atoms_intro fun w hw => by
      rcases List.mem_cons.mp hw with rfl | hw
      · exact hwords _ hhw _
      · exact hwords _ hw _)
    (by
      have hg1 : g.1 ≤ T.heap.size := by have := hW.2.2.2.1; omega
      have h9 : pm_St g T := hst.moved X.warmed.alike hg1 hS
      have h8 : pm_Wd g M T T.heap := hW.moved X.warmed.alike
      exact ⟨rfl, ⟨va_K.moved (u := T) (Vm.Alike.refl T.vm) h9.1, h9.2.1, h9.2.2.1, h9.2.2.2.1.moved (Vm.Alike.refl T.vm) fun _ _ => rfl, h9.2.2.2.2.1.moved (Vm.Alike.refl T.vm) fun _ _ => rfl, h9.2.2.2.2.2⟩, h8.moved (U := T.calling _ mk _) (Vm.Alike.refl T.vm)⟩)
  have hal : (T.calling (F0 m pc ls (t.map (pm_cv g))) mk (a.map (pm_cv g)).toArray).vm.Alike s.vm := X.warmed.alike.symm
  have hfind : ∀ C0, (T.calling (F0 m pc ls (t.map (pm_cv g))) mk (a.map (pm_cv g)).toArray).vm.findClass C0 = s.vm.findClass C0 := fun C0 => X.warmed.alike.findClass _ _
  have hout : pm_out g r'.1 s oc s₂ := by
    revert ho
    unfold pm_out
    split
    · exact fun h => h
    · rintro ⟨a9, ce, h1, h2, h3, h4⟩
      exact ⟨a9, ce, h1, h2, h3, by rw [← hfind]; exact h4⟩
  have hSfull : va_S (pm_A g) s.heap s₂.heap (locs ++ L') := by
    have h1 : T.heap.size ≤ s₂.heap.size := hSS.1
    refine ⟨Nat.le_trans hS.1 h1, fun q hq hA => ?_, fun z hz => ?_⟩
    · have h2 : s₂.heap[q]? = T.heap[q]? := hSS.2.1 q (Nat.lt_of_lt_of_le hq hS.1) hA
      rw [h2]; exact hS.2.1 q hq hA
    · rcases List.mem_append.mp hz with h | h
      · exact hS.2.2 z h
      · exact hL' z h
  cases oc with
  | returned v =>
    obtain ⟨T', X', e5, e6, e7⟩ := pm_came (g := F0 m pc ls (t.map (pm_cv g))) X rfl hd hend hwm hsame
    refine ⟨.returned v, s₂, T', L', st, hout, e5, by rw [e5]; exact hWd.moved hal, by rw [e5]; exact hSfull, hle, X', Or.inl ⟨v, rfl, e7⟩⟩
  | threw x =>
    obtain ⟨T', X', -, -, e7⟩ := X.outOfThrown (g := F0 m pc ls (t.map (pm_cv g))) rfl hend hwm hsame
    have e5 : T'.heap = s₂.heap := by rw [e7]; rfl
    refine ⟨.threw x, s₂, T', L', st, hout, e5, by rw [e5]; exact hWd.moved hal, by rw [e5]; exact hSfull, hle, X', Or.inr ⟨x, rfl, e7⟩⟩
/-- the rows of a table and their exceptions -/
def pm_hok (o : Nat) (a b : Nat × Nat × Nat × Nat) : Bool := decide (a.1 = b.1) && decide (a.2.1 = b.2.1) && decide (a.2.2.1 = b.2.2.1) && pm_tb (.classLink (pm_nm o) a.2.2.2 (pm_exn b.2.2.2)) && decide (a.2.2.2 ≠ 0) && decide (b.2.2.2 < 2)
def pm_hoks (o : Nat) : List (Nat × Nat × Nat × Nat) → List (Nat × Nat × Nat × Nat) → Bool
  | [], [] => true
  | a :: r, b :: r' => pm_hok o a b && pm_hoks o r r'
  | _, _ => false
theorem pm_hcks : ∀ mi, mi < 147 → pm_hoks (pm_own mi) (pm_hnr mi) (pm_hnd mi) = true := by decide +kernel
theorem pm_hnl : ∀ q ∈ pm_hndl, q.1 < 147 := by decide +kernel
theorem pm_hsearch {o x h : Nat} : ∀ (rows : List ExceptionTableEntry) (hs : List (Nat × Nat × Nat × Nat)), pm_hoks o (rows.map fun h => (h.startPc, h.endPc, h.handlerPc, h.catchType)) hs = true → pm_hd hs pc x = some h →
    ∃ pre z rest, rows = pre ++ z :: rest ∧ (∀ y ∈ pre, covers y pc = false ∨ (y.catchType ≠ 0 ∧ ∃ yx, yx ≠ x ∧ yx < 2 ∧ Cond.classLink (pm_nm o) y.catchType (pm_exn yx) ∈ pm_Tl)) ∧ covers z pc = true ∧ z.catchType ≠ 0 ∧ Cond.classLink (pm_nm o) z.catchType (pm_exn x) ∈ pm_Tl ∧ z.handlerPc = h
  | [], [], _, h => by cases h
  | [], _ :: _, hk, _ => by cases hk
  | _ :: _, [], hk, _ => by cases hk
  | z :: rows, b :: hs, hk, h => by
    simp only [List.map_cons, pm_hoks, pm_hok, Bool.and_eq_true, decide_eq_true_eq] at hk
    obtain ⟨⟨⟨⟨⟨⟨a1, a2⟩, a3⟩, a4⟩, a5⟩, a6⟩, hk⟩ := hk
    unfold pm_hd at h
    split at h
    · rename_i hc
      cases h
      refine ⟨[], z, rows, rfl, (fun y hy => by cases hy), ?_, a5, (by rw [← hc.2.2]; exact pm_in a4), a3⟩
      simp only [covers, Bool.and_eq_true, decide_eq_true_eq]
      omega
    · rename_i hc
      obtain ⟨pre, z', rest, e1, e2, e3⟩ := pm_hsearch rows hs hk h
      refine ⟨z :: pre, z', rest, by rw [e1]; rfl, fun y hy => ?_, e3⟩
      rcases List.mem_cons.mp hy with rfl | hy
      · by_cases hcv : covers y pc = true
        · refine Or.inr ⟨a5, b.2.2.2, fun q => hc ?_, a6, pm_in a4⟩
          simp only [covers, Bool.and_eq_true, decide_eq_true_eq] at hcv
          refine ⟨?_, ?_, q⟩ <;> omega
        · exact Or.inl (by simpa using hcv)
      · exact e2 y hy
theorem pm_cst : pm_tb (.castable (pm_exn 0) (pm_exn 0)) = true ∧ pm_tb (.castable (pm_exn 1) (pm_exn 1)) = true := by decide +kernel
theorem pm_not_cast (hno : pm_No s) {x yx : Nat} (hne : yx ≠ x) (h1 : x < 2) (h2 : yx < 2) {a b : ClassId} (ha : s.vm.findClass (pm_exn x) = some a) (hb : s.vm.findClass (pm_exn yx) = some b) : s.vm.assignable a b = false := by
  obtain ⟨c0, c1, e0, e1, n1, n2⟩ := hno
  rcases x with _ | _ | x
  · rcases yx with _ | _ | yx
    · exact absurd rfl hne
    · cases ha.symm.trans e0
      cases hb.symm.trans e1
      exact n1
    · omega
  · rcases yx with _ | _ | yx
    · cases ha.symm.trans e1
      cases hb.symm.trans e0
      exact n2
    · exact absurd rfl hne
    · omega
  · omega
theorem pm_hd_lt {x h : Nat} (hh : pm_hd (pm_hnd mi) pc x = some h) : mi < 147 := by
  unfold pm_hnd at hh
  cases hq : pm_fi mi pm_hndl with
  | none =>
    rw [hq] at hh
    cases hh
  | some q => exact pm_hnl _ (pm_fi_mem hq)
theorem pm_hd_x {x h : Nat} : ∀ {hs : List (Nat × Nat × Nat × Nat)}, (∀ q ∈ hs, q.2.2.2 < 2) → pm_hd hs pc x = some h → x < 2
  | [], _, h => by cases h
  | q :: r, hq, h => by
    unfold pm_hd at h
    split at h
    · rename_i hc
      rw [← hc.2.2]; exact hq q List.mem_cons_self
    · exact pm_hd_x (fun z hz => hq z (List.mem_cons_of_mem _ hz)) h
theorem pm_hlt : ∀ q ∈ pm_hndl, ∀ z ∈ q.2, z.2.2.2 < 2 := by decide +kernel
theorem pm_hnd_lt : ∀ q ∈ pm_hnd mi, q.2.2.2 < 2 := by
  unfold pm_hnd
  cases hq : pm_fi mi pm_hndl with
  | none => exact fun q h => by cases h
  | some q => exact pm_hlt _ (pm_fi_mem hq)
end PMV
end
section
/-! a call, whatever its end -/
section PMU
variable {p : Program} {l : Launch} {e : Env} {R : Room} {s : State} {m : MethodId} {args : Array Value} {below : List Frame} {meth : Method} {c : Code}
variable {g : pm_G} {M0 : pm_M} {r : pm_O × pm_M} {k : Nat → pm_L → List pm_V → pm_M → pm_R} {pc mi d : Nat} {L : pm_L} {S : List pm_V} {M : pm_M} {call : Nat → List pm_V → pm_M → pm_R}
theorem pm_sums {M' : pm_M} (h1 : pm_le M0 M) (h2 : pm_le M M') : pm_cb M - pm_cb M0 + (pm_cb M' - pm_cb M) = pm_cb M' - pm_cb M0 ∧ pm_sb M - pm_sb M0 + (pm_sb M' - pm_sb M) = pm_sb M' - pm_sb M0 := by
  obtain ⟨a1, a2⟩ := h1
  obtain ⟨b1, b2⟩ := h2
  unfold pm_cb pm_sb
  omega
theorem pm_small (hle : M.2.2.2.1 ≤ pm_tot ∧ M.2.2.2.2 ≤ 600) : pm_cb M - pm_cb M0 ≤ 1000 ∧ pm_sb M - pm_sb M0 ≤ 20000 := by
  have e1 : pm_cb M = M.2.2.2.1 + M.2.2.2.2 := rfl
  have e2 : pm_sb M = 128 * M.2.2.2.1 + 6 * M.2.2.2.2 := rfl
  have e3 := pm_tot96
  omega
theorem pm_le.trans {A B D : pm_M} (h1 : pm_le A B) (h2 : pm_le B D) : pm_le A D := ⟨Nat.le_trans h1.1 h2.1, Nat.le_trans h1.2 h2.2⟩
theorem pm_goes (C : pm_Cx p l s m args meth c mi g) (hR : pm_Rm (d + 1) R) (hk : ∀ pc' L' S' M', k pc' L' S' M' = some r → pm_W p l e R s m args below meth c (pm_Q below g M0 r args s) g M0 pc' L' S' M')
    (hcall : ∀ mj a M r', call mj a M = some r' → pm_Ct l g d mj a M r') {mj : Nat} {a t : List pm_V} (h : pm_cl call mi k pc mj a t L M = some r) (hmj : mj < 146) (hini : Cond.initialized (pm_y mj).cls ∈ pm_Tl) (hsum : (t.map pm_cat).sum ≤ 8) {ig : Instr} (hd : decode c.code pc = .ok (ig, 3))
    (hle : pm_le M0 M) {ls : Array Slot} {locs : List Loc} (hL : pm_LR g L ls) (hlen : L.length = c.maxLocals) {T : State} (X : Stand p l e R s m args below meth c T locs (pm_cb M - pm_cb M0) (pm_sb M - pm_sb M0)) (hW : pm_Wd g M s T.heap) (hS : va_S (pm_A g) s.heap T.heap locs) {mk : MethodId} (hn : T.methodNamed? (pm_y mj) = some mk) :
    ∃ t', Steps p.tables e below (doInvoke e (T.setTop (F0 m pc ls (t.map (pm_cv g)))) [] mk (a.map (pm_cv g)).toArray).1 t' ∧ pm_Q below g M0 r args s t' := by
  unfold pm_cl at h
  cases hcc : call mj a M with
  | none => rw [hcc] at h; cases h
  | some r' =>
    rw [hcc] at h
    obtain ⟨o, M'⟩ := r'
    obtain ⟨oc, s₂, T', L', st, hout, e5, hWd, hSS, hlm, X1, hcase⟩ := pm_run (M := M) C hR X (pm_small ⟨hW.2.1, hW.2.2.1⟩) (by rw [hL.1, hlen]) hsum hd (hcall _ _ _ _ hcc) hmj hini hn hW hS
    obtain ⟨c1, c2⟩ := pm_sums hle hlm
    have hlm : pm_le M M' := hlm
    have hlf : pm_le M0 M' := hle.trans hlm
    have X' : Stand p l e R s m args below meth c T' (locs ++ L') (pm_cb M' - pm_cb M0) (pm_sb M' - pm_sb M0) := by rw [← c1, ← c2]; exact X1
    clear X1
    cases o with
    | inl v =>
      have hout : oc = .returned (v.map (pm_cv g)) := hout
      subst hout
      rcases hcase with ⟨v', hv, e7⟩ | ⟨x, hx, -⟩
      · cases hv
        have h : k (pc + 3) L (v.toList ++ t) M' = some r := h
        obtain ⟨t', a1, b1⟩ := hk _ _ _ _ h hlf ls T'.heap (locs ++ L') hL hlen hWd hSS T' rfl X'
        refine ⟨t', st.trans ?_, b1⟩
        rw [e7]
        have ev : (v.map (pm_cv g)).toList ++ t.map (pm_cv g) = (v.toList ++ t).map (pm_cv g) := by
          cases v <;> rfl
        rw [ev]
        exact a1
      · cases hx
    | inr x =>
      obtain ⟨a9, ce, ho, hce, hcv, hcls⟩ := hout
      subst ho
      rcases hcase with ⟨v', hv, -⟩ | ⟨x', hx, e7⟩
      · cases hv
      · cases hx
        have hce' : T'.heap[a9]? = some ce := by rw [e5]; exact hce
        have h : pm_ct mi k pc x L M' = some r := h
        unfold pm_ct at h
        split at h
        · split at h
          · rename_i hnd
            cases h
            have hnr : c.exceptionTable.toList = [] := by
              have h9 := C.2.2.2.2.2.2.2.2.1
              rw [pm_hnr_nil hnd] at h9
              exact List.map_eq_nil_iff.mp h9
            obtain ⟨st1, hrun, hend, hw, hsm⟩ := X'.leaveThrown a9 (g := F0 m pc ls (t.map (pm_cv g))) rfl rfl rfl (fun z hz => by rw [hnr] at hz; cases hz) C.2.2.2.2.2.2.1
            refine ⟨_, st.trans (by rw [e7]; exact st1), ?_⟩
            exact pm_fin hlf hWd hSS rfl hrun hend hw hsm ⟨a9, ce, rfl, hce', hcv, hcls⟩
          · cases h
        · rename_i hp hhd
          have hpl : e.platform.magicAccessors = ({} : Platform).magicAccessors := by rw [X'.admits.platform]
          have hx2 := pm_hd_x pm_hnd_lt hhd
          have hck := pm_hcks mi (pm_hd_lt hhd)
          rw [← C.2.2.2.2.2.2.2.2.1] at hck
          obtain ⟨pre, z, rest, es, hpass, hcov, hz0, hzl, hzh⟩ := pm_hsearch (pc := pc) _ _ hck hhd
          have hts := C.2.2.2.2.2.1
          obtain ⟨cz, hcz, hlz⟩ := Cond.classLink_spec C.2.2.2.2.1 (hts _ hzl) e.platform hpl
          cases Option.some.inj (hcz.symm.trans hcls)
          have hself : s.vm.assignable ce.cls ce.cls = true := by
            have hw : Cond.castable (pm_exn x) (pm_exn x) ∈ pm_Tl := by
              rcases x with _ | _ | x
              · exact pm_in pm_cst.1
              · exact pm_in pm_cst.2
              · omega
            obtain ⟨c3, c4, h3, h4, h5⟩ := Cond.castable_spec (hts _ hw)
            cases Option.some.inj (h3.symm.trans hcls)
            cases Option.some.inj (h4.symm.trans hcls)
            exact h5
          have hkc : ∃ kk, s.vm.classes[ce.cls]? = some kk := by
            obtain ⟨k9, h9, -⟩ := Vm.findClass_spec hcls
            exact ⟨k9, h9⟩
          obtain ⟨vm', XV, stV⟩ := pm_caught X' a9 (g := F0 m pc ls (t.map (pm_cv g))) rfl hce' hcv hkc pre z rest es (fun y hy => by
            rcases hpass y hy with h9 | ⟨hy0, yx, hne, hy2, hyl⟩
            · exact Or.inl h9
            · obtain ⟨cy, hcy, hly⟩ := Cond.classLink_spec C.2.2.2.2.1 (hts _ hyl) e.platform hpl
              exact Or.inr ⟨hy0, cy, hly, pm_not_cast C.2.2.2.2.2.2.2.2.2.2.2.2.2.2.2 hne hx2 hy2 hcls hcy⟩) hcov hz0 hlz hself
          rw [hzh] at stV
          have hfin : ∀ {j n : Nat} (hj : j < L.length ∧ pm_pre L j = true) (hkk : k (hp + n) (L.set j none) [] M' = some r)
              (row : ∀ {ls' : Array Slot}, storeLocals ls j (.ref a9) = some ls' → W p l e R s m args below meth c T'.heap (locs ++ L') (pm_cb M' - pm_cb M0) (pm_sb M' - pm_sb M0) (pm_Q below g M0 r args s) (F0 m (hp + n) ls' []) → W p l e R s m args below meth c T'.heap (locs ++ L') (pm_cb M' - pm_cb M0) (pm_sb M' - pm_sb M0) (pm_Q below g M0 r args s) (F0 m hp ls [.ref a9])),
              ∃ t', Steps p.tables e below (doInvoke e (T.setTop (F0 m pc ls (t.map (pm_cv g)))) [] mk (a.map (pm_cv g)).toArray).1 t' ∧ pm_Q below g M0 r args s t' := by
            intro j n hj hkk row
            obtain ⟨ls', e', hL'⟩ := pm_LR_none (v := .ref a9) hL hj.1 hj.2 rfl
            obtain ⟨t', a1, b1⟩ := row e' (hk _ _ _ _ hkk hlf ls' T'.heap (locs ++ L') hL' (by rw [List.length_set]; exact hlen) hWd hSS) (T'.setVm vm') rfl XV
            refine ⟨t', st.trans ?_, b1⟩
            rw [e7]
            exact stV _ a1
          split at h
          · rename_i j ht
            split at h
            · rename_i hj
              exact hfin hj h fun e' w => pm_w_astore_n C.1 C.2.1 (Or.inr ⟨_, rfl⟩) (pm_dec ht).1 e' w
            · cases h
          · rename_i j ht
            split at h
            · rename_i hj
              exact hfin hj h fun e' w => pm_w_astore C.1 C.2.1 (Or.inr ⟨_, rfl⟩) (pm_dec ht).1 e' w
            · cases h
          · cases h
end PMU
end
section
/-! the four kinds of calls, and two small ones -/
section PMI
variable {p : Program} {l : Launch} {e : Env} {R : Room} {s : State} {m : MethodId} {args : Array Value} {below : List Frame} {meth : Method} {c : Code}
variable {g : pm_G} {M0 : pm_M} {r : pm_O × pm_M} {k : Nat → pm_L → List pm_V → pm_M → pm_R} {pc mi dd : Nat} {L : pm_L} {S : List pm_V} {M : pm_M} {call : Nat → List pm_V → pm_M → pm_R}
theorem pm_named {mj : Nat} (h : (pm_hw mj).before args s = true) : ∃ mk, s.methodNamed? (pm_y mj) = some mk := by
  unfold pm_hw at h
  split at h
  · exact Cond.code_named h
  · obtain ⟨m9, _, _, hn9, -⟩ := Cond.codeWith_spec h
    exact ⟨m9, hn9⟩
theorem pm_split {na : Nat} (h : na ≤ S.length) : S.map (pm_cv g) = ((S.take na).reverse.map (pm_cv g)).reverse ++ (S.drop na).map (pm_cv g) ∧ ((S.take na).reverse.map (pm_cv g)).length = na := by
  constructor
  · rw [List.map_reverse, List.reverse_reverse, ← List.map_append, List.take_append_drop]
  · simp [h]
/-- what a method's row says -/
theorem pm_mrow {mj : Nat} (h : mj < 146) : Cond.initialized (pm_y mj).cls ∈ pm_Tl ∧ (pm_y mj).cls = pm_nm (pm_mcl mj) ∧ plainName (pm_y mj).cls = true ∧ (pm_y mj).cls ≠ "java/lang/invoke/MethodHandle" ∧ (pm_y mj).cls ≠ "java/lang/invoke/VarHandle" := by
  have h1 := pm_mcks mj h
  unfold pm_mck at h1
  split at h1
  · simp only [Bool.and_eq_true, decide_eq_true_eq] at h1
    obtain ⟨⟨⟨⟨a1, a2⟩, a3⟩, a4⟩, a5⟩ := h1
    exact ⟨pm_ini' a1, a2, a3, a4, a5⟩
  · cases h1
theorem pm_desc {mj na ad : Nat} {sig : MethodDescriptor} (h : (parseMethodDescriptor (pm_y mj).desc).map (fun z => z.parameters.length + ad) = some na) (hs : parseMethodDescriptor (pm_y mj).desc = some sig) : sig.parameters.length + ad = na := by
  rw [hs] at h
  exact Option.some.inj h
theorem pm_mws_len : pm_mws.length = 146 := by decide +kernel
theorem pm_mws_some {mj : Nat} (h : mj < 146) : ∃ q, pm_mws[mj]? = some q := ⟨_, List.getElem?_eq_getElem (by rw [pm_mws_len]; exact h)⟩
theorem pm_s_static (C : pm_Cx p l s m args meth c mi g) (hR : pm_Rm dd R) (hk : ∀ pc' L' S' M', k pc' L' S' M' = some r → pm_W p l e R s m args below meth c (pm_Q below g M0 r args s) g M0 pc' L' S' M') (hcall : ∀ mj a M r', call mj a M = some r' → ∃ d, dd = d + 1 ∧ pm_Ct l g d mj a M r') {idx mj na : Nat} (hm : (pm_own mi, idx, mj, na, 0) ∈ pm_mths) (hd : decode (pm_code mi) pc = .ok (.invokestatic idx, 3))
    (h : (if na ≤ S.length ∧ ((S.drop na).map pm_cat).sum ≤ 8 then pm_cl call mi k pc mj (S.take na).reverse (S.drop na) L M else none) = some r) : pm_W p l e R s m args below meth c (pm_Q below g M0 r args s) g M0 pc L S M := by
  split at h
  · rename_i hc
    obtain ⟨hna, hsum⟩ := hc
    obtain ⟨b9, h1⟩ := pm_zip_all pm_lcks (by decide +kernel) hm
    have h1 : (decide (mj < 146) && pm_ti b9 (.methodLink (pm_nm (pm_own mi)) idx (pm_y mj))) = true := h1
    rw [Bool.and_eq_true, decide_eq_true_eq] at h1
    obtain ⟨hmj, hlk⟩ := h1
    have h2 := List.all_eq_true.mp pm_ncks _ hm
    obtain ⟨q9, hq9⟩ := pm_mws_some hmj
    obtain ⟨x1, x2, x3, x4⟩ := q9
    unfold pm_nck at h2
    dsimp only at h2
    rw [hq9] at h2
    have h2 : (decide ((parseMethodDescriptor (pm_y mj).desc).map (fun z => z.parameters.length + 0) = some na) && pm_ti x3 (.static (pm_y mj))) = true := h2
    rw [Bool.and_eq_true, decide_eq_true_eq] at h2
    obtain ⟨hini, -, -, n1, n2⟩ := pm_mrow hmj
    have hts := C.2.2.2.2.2.1
    obtain ⟨mk, hn⟩ := pm_named (hts _ (pm_hw_in hmj))
    obtain ⟨methY, cY, y1, y2, y3, y4, y5, y6, y7, y8⟩ := pm_hw_spec hn (hts _ (pm_hw_in hmj))
    have hstt : methY.isStatic = true := Cond.static_spec hn y1 (hts _ (pm_ini' h2.2))
    obtain ⟨kY, hkY, -⟩ := className_of_methodNamed hn
    have hinitY : kY.init = .initialized := Cond.initialized_spec (findClass_of_methodNamed hn) hkY (hts _ hini)
    obtain ⟨hsp, hln⟩ := pm_split (g := g) hna
    intro hle ls H locs hL hlen hW hS T hT X
    subst hT
    have hd' : decode c.code pc = .ok (.invokestatic idx, 3) := by rw [C.2.1]; exact hd
    obtain ⟨vm₁, X₁, hst⟩ := X.invokestatic C.1 C.2.2.2.2.1 (hts _ (pm_ini' hlk)) hn y1 hstt hkY hinitY ⟨n1, n2⟩ (g := F0 m pc ls (S.map (pm_cv g))) rfl (argsL := (S.take na).reverse.map (pm_cv g)) (rest := (S.drop na).map (pm_cv g))
      (by rw [hln]; exact (pm_desc h2.1 y8).symm) hsp hd'
    cases hcc : call mj (S.take na).reverse M with
    | none => unfold pm_cl at h; rw [hcc] at h; cases h
    | some r' =>
      obtain ⟨d, rfl, -⟩ := hcall _ _ _ _ hcc
      obtain ⟨t', a1, b1⟩ := pm_goes (T := T.setVm vm₁) C hR hk (fun mj a M r' h => by obtain ⟨d', e9, h9⟩ := hcall mj a M r' h; cases e9; exact h9) h hmj hini hsum hd' hle hL hlen X₁ hW hS (X₁.named hn)
      exact ⟨t', hst _ fun acts => by rw [doInvoke_state]; exact a1, b1⟩
  · cases h
theorem pm_rc_inv {ns cl : Nat} {a : List pm_V} {G : pm_R} (h : pm_rc ns M cl a G = some r) : ∃ f i t tys, a = pm_r f i :: t ∧ pm_ok M f i = true ∧ pm_shp ns f = (0, cl, tys) ∧ G = some r := by
  unfold pm_rc at h
  split at h
  · rename_i f i t
    obtain ⟨h1, h2⟩ := pm_g_inv h
    split at h2
    · rename_i cj tys hs
      split at h2
      · rename_i hc
        subst hc
        exact ⟨f, i, t, tys, rfl, h1, hs, h2⟩
      · cases h2
    · cases h2
  · cases h
/-- what a call on an object needs: its row, its receiver -/
theorem pm_recv {f i cl : Nat} {tys : List Nat} (C : pm_Cx p l s m args meth c mi g) {H : Heap} (hW : pm_Wd g M s H) (hok : pm_ok M f i = true) (hsh : pm_shp g.2.2.1 f = (0, cl, tys)) : ∃ cell, H[pm_ad g f i]? = some cell ∧ cell.vm = .none ∧ s.vm.findClass (pm_nm cl) = some cell.cls := by
  have hst := C.2.2.2.2.2.2.2.2.2.2
  have hat := pm_P_at (g := g) hW.1 hok (pm_shp_obj hsh).1 hW.2.1
  rw [pm_en_obj hsh] at hat
  obtain ⟨r', hr', cell, q1, q2, q3, -⟩ := hat
  obtain ⟨Cn, T, N⟩ := r'
  have e := (pm_cl_ok hr').2.2.2.2.1
  refine ⟨cell, q1, q3, ?_⟩
  rw [← e, q2]
  exact (hst.1.1 cl _ hr').2.1
theorem pm_s_virt (C : pm_Cx p l s m args meth c mi g) (hR : pm_Rm dd R) (hk : ∀ pc' L' S' M', k pc' L' S' M' = some r → pm_W p l e R s m args below meth c (pm_Q below g M0 r args s) g M0 pc' L' S' M') (hcall : ∀ mj a M r', call mj a M = some r' → ∃ d, dd = d + 1 ∧ pm_Ct l g d mj a M r') {idx mj na : Nat} (hm : (pm_own mi, idx, mj, na, 1) ∈ pm_mths) (hd : decode (pm_code mi) pc = .ok (.invokevirtual idx, 3))
    (h : (if na ≤ S.length ∧ ((S.drop na).map pm_cat).sum ≤ 8 then pm_rc g.2.2.1 M (pm_mcl mj) (S.take na).reverse (pm_cl call mi k pc mj (S.take na).reverse (S.drop na) L M) else none) = some r) : pm_W p l e R s m args below meth c (pm_Q below g M0 r args s) g M0 pc L S M := by
  split at h
  · rename_i hc
    obtain ⟨hna, hsum⟩ := hc
    obtain ⟨f, i, as, tys, ha, hok, hsh, h⟩ := pm_rc_inv h
    obtain ⟨b9, h1⟩ := pm_zip_all pm_lcks (by decide +kernel) hm
    have h1 : (decide (mj < 146) && pm_ti b9 (.methodLink (pm_nm (pm_own mi)) idx (pm_y mj))) = true := h1
    rw [Bool.and_eq_true, decide_eq_true_eq] at h1
    obtain ⟨hmj, hlk⟩ := h1
    have h2 := List.all_eq_true.mp pm_ncks _ hm
    obtain ⟨q9, hq9⟩ := pm_mws_some hmj
    obtain ⟨x1, x2, x3, x4⟩ := q9
    unfold pm_nck at h2
    dsimp only at h2
    rw [hq9] at h2
    have h2 : (decide ((parseMethodDescriptor (pm_y mj).desc).map (fun z => z.parameters.length + 1) = some na) && (pm_ti x3 (.instanceMethod (pm_y mj)) && pm_ti x4 (.selects (pm_y mj).cls (pm_y mj) (pm_y mj)) && decide (pm_hnr mj = []))) = true := h2
    simp only [Bool.and_eq_true, decide_eq_true_eq] at h2
    obtain ⟨hdn, ⟨hin, hse⟩, -⟩ := h2
    obtain ⟨hini, hcn, -, n1, n2⟩ := pm_mrow hmj
    have hts := C.2.2.2.2.2.1
    obtain ⟨mk, methM, hnamed, hmethM, hstM, habM⟩ := Cond.instanceMethod_spec (hts _ (pm_ini' hin))
    obtain ⟨methY, cY, y1, y2, y3, y4, y5, y6, y7, y8⟩ := pm_hw_spec hnamed (hts _ (pm_hw_in hmj))
    cases hmethM.symm.trans y1
    obtain ⟨hsp, hln⟩ := pm_split (g := g) hna
    intro hle ls H locs hL hlen hW hS T hT X
    subst hT
    obtain ⟨cellB, hcell, hvm, hcls⟩ := pm_recv C hW hok hsh
    rw [← hcn] at hcls
    obtain ⟨c2, r2, m2, q1, q2, q3, q4, kP, hkP, hkPi⟩ := Cond.selects_spec (hts _ (pm_ini' hse))
    cases hcls.symm.trans q1
    cases (State.methodFound?_of_named hnamed ⟨n1, n2⟩).symm.trans q2
    cases hnamed.symm.trans q3
    have hselP : selectMethod e.platform s.vm cellB.cls mk = .method mk := by rw [Launch.admits_selectMethod X.admits]; exact q4
    have hd' : decode c.code pc = .ok (.invokevirtual idx, 3) := by rw [C.2.1]; exact hd
    rw [ha] at hsp hln
    have hln2 : as.length + 1 = na := by simpa using hln
    obtain ⟨vm₁, X₁, hst⟩ := X.invokevirtual C.1 C.2.2.2.2.1 (hts _ (pm_ini' hlk)) hnamed y1 hstM hkP hkPi ⟨n1, n2⟩ (a := pm_ad g f i) (cell := cellB) hcell
      (fun z h => by rw [hvm] at h; cases h) hselP y1 habM hkP hkPi (g := F0 m pc ls (S.map (pm_cv g))) rfl (argsL := as.map (pm_cv g)) (rest := (S.drop na).map (pm_cv g))
      (by rw [List.length_map]; have := pm_desc hdn y8; omega) (by rw [hsp]; simp [pm_cv]) hd'
    cases hcc : call mj (S.take na).reverse M with
    | none => unfold pm_cl at h; rw [hcc] at h; cases h
    | some r' =>
      obtain ⟨d, rfl, -⟩ := hcall _ _ _ _ hcc
      obtain ⟨t', a1, b1⟩ := pm_goes (T := T.setVm vm₁) C hR hk (fun mj a M r' h => by obtain ⟨d', e9, h9⟩ := hcall mj a M r' h; cases e9; exact h9) h hmj hini hsum hd' hle hL hlen X₁ hW hS (X₁.named hnamed)
      rw [ha] at a1
      exact ⟨t', hst _ fun acts => by rw [doInvoke_state]; exact a1, b1⟩
  · cases h
end PMI
end
section
/-! constructors; Object's own; Math.min -/
section PMJ
variable {p : Program} {l : Launch} {e : Env} {R : Room} {s : State} {m : MethodId} {args : Array Value} {below : List Frame} {meth : Method} {c : Code}
variable {g : pm_G} {M0 : pm_M} {r : pm_O × pm_M} {k : Nat → pm_L → List pm_V → pm_M → pm_R} {pc mi dd : Nat} {L : pm_L} {S : List pm_V} {M : pm_M} {call : Nat → List pm_V → pm_M → pm_R}
theorem pm_s_spec (C : pm_Cx p l s m args meth c mi g) (hR : pm_Rm dd R) (hk : ∀ pc' L' S' M', k pc' L' S' M' = some r → pm_W p l e R s m args below meth c (pm_Q below g M0 r args s) g M0 pc' L' S' M') (hcall : ∀ mj a M r', call mj a M = some r' → ∃ d, dd = d + 1 ∧ pm_Ct l g d mj a M r') {idx mj na : Nat} (hm : (pm_own mi, idx, mj, na, 2) ∈ pm_mths) (hd : decode (pm_code mi) pc = .ok (.invokespecial idx, 3))
    (h : (if na ≤ S.length ∧ ((S.drop na).map pm_cat).sum ≤ 8 then pm_rc g.2.2.1 M (pm_mcl mj) (S.take na).reverse (pm_cl call mi k pc mj (S.take na).reverse (S.drop na) L M) else none) = some r) : pm_W p l e R s m args below meth c (pm_Q below g M0 r args s) g M0 pc L S M := by
  split at h
  · rename_i hc
    obtain ⟨hna, hsum⟩ := hc
    obtain ⟨f, i, as, tys, ha, hok, hsh, h⟩ := pm_rc_inv h
    obtain ⟨b9, h1⟩ := pm_zip_all pm_lcks (by decide +kernel) hm
    have h1 : (decide (mj < 146) && pm_ti b9 (.methodLink (pm_nm (pm_own mi)) idx (pm_y mj))) = true := h1
    rw [Bool.and_eq_true, decide_eq_true_eq] at h1
    obtain ⟨hmj, hlk⟩ := h1
    have h2 := List.all_eq_true.mp pm_ncks _ hm
    obtain ⟨q9, hq9⟩ := pm_mws_some hmj
    obtain ⟨x1, x2, x3, x4⟩ := q9
    unfold pm_nck at h2
    dsimp only at h2
    rw [hq9] at h2
    have h2 : (decide ((parseMethodDescriptor (pm_y mj).desc).map (fun z => z.parameters.length + 1) = some na) && (pm_ti x3 (.instanceMethod (pm_y mj)) && decide ((pm_y mj).name = "<init>") && decide (pm_hnr mj = []) && decide (pm_rt mj = none))) = true := h2
    simp only [Bool.and_eq_true, decide_eq_true_eq] at h2
    obtain ⟨hdn, ⟨⟨hin, hnm⟩, hnr⟩, hrt⟩ := h2
    obtain ⟨hini, hcn, -, n1, n2⟩ := pm_mrow hmj
    have hts := C.2.2.2.2.2.1
    have hcode : (Cond.code (pm_y mj) (pm_code mj) (pm_maxL mj) none).before args s = true := by
      have h9 := hts _ (pm_hw_in hmj)
      unfold pm_hw at h9
      rw [hnr, hrt] at h9
      exact h9
    obtain ⟨hsp, hln⟩ := pm_split (g := g) hna
    intro hle ls H locs hL hlen hW hS T hT X
    subst hT
    have hd' : decode c.code pc = .ok (.invokespecial idx, 3) := by rw [C.2.1]; exact hd
    rw [ha] at hsp hln
    have hln2 : as.length + 1 = na := by simpa using hln
    have hpl : e.platform.magicAccessors = ({} : Platform).magicAccessors := by rw [X.admits.platform]
    obtain ⟨mk, methM, cM, kP, vm₁, hnamed, hmethM, hcodeM, -, hlocalsM, -, hkP, -, hW₁, hst⟩ := Steps.initColdArgs (e := e) X.here C.1 X.warmed hpl C.2.2.2.2.1 hnm ⟨n1, n2⟩ (hts _ (pm_ini' hlk)) (hts _ (pm_ini' hin)) hcode (f := F0 m pc ls (S.map (pm_cv g))) rfl (a := pm_ad g f i) (argsL := as.map (pm_cv g)) (rest := (S.drop na).map (pm_cv g))
      (fun sig h9 => by rw [List.length_map]; have := pm_desc hdn h9; omega) (by rw [hsp]; simp [pm_cv]) hd'
    have X₁ := X.noted hW₁
    cases hcc : call mj (S.take na).reverse M with
    | none => unfold pm_cl at h; rw [hcc] at h; cases h
    | some r' =>
      obtain ⟨d, rfl, -⟩ := hcall _ _ _ _ hcc
      obtain ⟨t', a1, b1⟩ := pm_goes (T := T.setVm vm₁) C hR hk (fun mj a M r' h => by obtain ⟨d', e9, h9⟩ := hcall mj a M r' h; cases e9; exact h9) h hmj hini hsum hd' hle hL hlen X₁ hW hS (X₁.named hnamed)
      rw [ha] at a1
      exact ⟨t', hst _ fun acts => by rw [doInvoke_state]; exact a1, b1⟩
  · cases h
theorem pm_s_nest (C : pm_Cx p l s m args meth c mi g) (hR : pm_Rm dd R) (hk : ∀ pc' L' S' M', k pc' L' S' M' = some r → pm_W p l e R s m args below meth c (pm_Q below g M0 r args s) g M0 pc' L' S' M') (hcall : ∀ mj a M r', call mj a M = some r' → ∃ d, dd = d + 1 ∧ pm_Ct l g d mj a M r') {idx mj na : Nat} (hm : (pm_own mi, idx, mj, na, 5) ∈ pm_mths) (hd : decode (pm_code mi) pc = .ok (.invokespecial idx, 3))
    (h : (if na ≤ S.length ∧ ((S.drop na).map pm_cat).sum ≤ 8 then pm_rc g.2.2.1 M (pm_mcl mj) (S.take na).reverse (pm_cl call mi k pc mj (S.take na).reverse (S.drop na) L M) else none) = some r) : pm_W p l e R s m args below meth c (pm_Q below g M0 r args s) g M0 pc L S M := by
  split at h
  · rename_i hc
    obtain ⟨hna, hsum⟩ := hc
    obtain ⟨f, i, as, tys, ha, hok, hsh, h⟩ := pm_rc_inv h
    obtain ⟨b9, h1⟩ := pm_zip_all pm_lcks (by decide +kernel) hm
    have h1 : (decide (mj < 146) && pm_ti b9 (.methodLinkNest (pm_nm (pm_own mi)) idx (pm_y mj) "JobLayer")) = true := h1
    rw [Bool.and_eq_true, decide_eq_true_eq] at h1
    obtain ⟨hmj, hlk⟩ := h1
    have h2 := List.all_eq_true.mp pm_ncks _ hm
    obtain ⟨q9, hq9⟩ := pm_mws_some hmj
    obtain ⟨x1, x2, x3, x4⟩ := q9
    unfold pm_nck at h2
    dsimp only at h2
    rw [hq9] at h2
    have h2 : (decide ((parseMethodDescriptor (pm_y mj).desc).map (fun z => z.parameters.length + 1) = some na) && (pm_ti x3 (.instanceMethod (pm_y mj)) && decide ((pm_y mj).name = "<init>") && decide (pm_hnr mj = []) && decide (pm_rt mj = none))) = true := h2
    simp only [Bool.and_eq_true, decide_eq_true_eq] at h2
    obtain ⟨hdn, ⟨⟨hin, hnm⟩, hnr⟩, hrt⟩ := h2
    obtain ⟨hini, hcn, -, n1, n2⟩ := pm_mrow hmj
    have hts := C.2.2.2.2.2.1
    have hcode : (Cond.code (pm_y mj) (pm_code mj) (pm_maxL mj) none).before args s = true := by
      have h9 := hts _ (pm_hw_in hmj)
      unfold pm_hw at h9
      rw [hnr, hrt] at h9
      exact h9
    obtain ⟨hsp, hln⟩ := pm_split (g := g) hna
    intro hle ls H locs hL hlen hW hS T hT X
    subst hT
    have hd' : decode c.code pc = .ok (.invokespecial idx, 3) := by rw [C.2.1]; exact hd
    rw [ha] at hsp hln
    have hln2 : as.length + 1 = na := by simpa using hln
    have hpl : e.platform.magicAccessors = ({} : Platform).magicAccessors := by rw [X.admits.platform]
    obtain ⟨mk, methM, cM, kP, vm₁, hnamed, hmethM, hcodeM, -, hlocalsM, -, hkP, -, hW₁, hst⟩ := Steps.initColdArgsNest (e := e) X.here C.1 X.warmed hpl C.2.2.2.2.1 hnm ⟨n1, n2⟩ (hts _ (pm_ini' hlk)) (hts _ (pm_ini' hin)) hcode (f := F0 m pc ls (S.map (pm_cv g))) rfl (a := pm_ad g f i) (argsL := as.map (pm_cv g)) (rest := (S.drop na).map (pm_cv g))
      (fun sig h9 => by rw [List.length_map]; have := pm_desc hdn h9; omega) (by rw [hsp]; simp [pm_cv]) hd'
    have X₁ := X.noted hW₁
    cases hcc : call mj (S.take na).reverse M with
    | none => unfold pm_cl at h; rw [hcc] at h; cases h
    | some r' =>
      obtain ⟨d, rfl, -⟩ := hcall _ _ _ _ hcc
      obtain ⟨t', a1, b1⟩ := pm_goes (T := T.setVm vm₁) C hR hk (fun mj a M r' h => by obtain ⟨d', e9, h9⟩ := hcall mj a M r' h; cases e9; exact h9) h hmj hini hsum hd' hle hL hlen X₁ hW hS (X₁.named hnamed)
      rw [ha] at a1
      exact ⟨t', hst _ fun acts => by rw [doInvoke_state]; exact a1, b1⟩
  · cases h
theorem pm_s_obj (C : pm_Cx p l s m args meth c mi g) (hR : pm_Rm dd R) (hk : ∀ pc' L' S' M', k pc' L' S' M' = some r → pm_W p l e R s m args below meth c (pm_Q below g M0 r args s) g M0 pc' L' S' M') {idx mj na : Nat} (hm : (pm_own mi, idx, mj, na, 3) ∈ pm_mths) (hd : decode (pm_code mi) pc = .ok (.invokespecial idx, 3))
    (h : (pm_r1 M S fun _ _ t => if (t.map pm_cat).sum ≤ 8 then k (pc + 3) L t M else none) = some r) : pm_W p l e R s m args below meth c (pm_Q below g M0 r args s) g M0 pc L S M := by
  obtain ⟨f, i, t, hS0, hok, hN⟩ := pm_r1_inv h
  clear h
  subst hS0
  have h := hN
  split at h
  · rename_i hsum
    obtain ⟨b9, h1⟩ := pm_zip_all pm_lcks (by decide +kernel) hm
    have h1 : (decide (na = 1) && pm_ti b9 (.methodLink (pm_nm (pm_own mi)) idx Lib.objectInit)) = true := h1
    rw [Bool.and_eq_true] at h1
    have hts := C.2.2.2.2.2.1
    obtain ⟨q1, q2, q3, q4⟩ := hR
    intro hle ls H locs hL hlen hW hS
    refine W.objInit C.1 C.2.1 C.2.2.2.2.1 (hts _ (pm_ini' h1.2)) (hts _ (pm_in pm_oi.1)) (hts _ (pm_in pm_oi.2)) rfl (by show ls.size = _; rw [hL.1, hlen]) rfl hd (by omega) ?_ (hk _ _ _ _ h hle ls H locs hL hlen hW hS)
    show 2 * 0 + ((t.map (pm_cv g)).map fun v => v.category).sum + 12 ≤ R.locals
    rw [pm_sum_cv]
    omega
  · cases h
theorem pm_s_min (C : pm_Cx p l s m args meth c mi g) (hR : pm_Rm dd R) (hk : ∀ pc' L' S' M', k pc' L' S' M' = some r → pm_W p l e R s m args below meth c (pm_Q below g M0 r args s) g M0 pc' L' S' M') {idx mj na : Nat} (hm : (pm_own mi, idx, mj, na, 4) ∈ pm_mths) (hd : decode (pm_code mi) pc = .ok (.invokestatic idx, 3))
    (h : (pm_i2 S fun x y t => if (t.map pm_cat).sum ≤ 8 then k (pc + 3) L (pm_i (if y < x then y else x) :: t) M else none) = some r) : pm_W p l e R s m args below meth c (pm_Q below g M0 r args s) g M0 pc L S M := by
  obtain ⟨x, y, t, hS0, hN⟩ := pm_i2_inv h
  clear h
  subst hS0
  have h := hN
  split at h
  · rename_i hsum
    obtain ⟨b9, h1⟩ := pm_zip_all pm_lcks (by decide +kernel) hm
    have h1 : (decide (na = 2) && pm_ti b9 (.methodLink (pm_nm (pm_own mi)) idx Lib.Math.min.name)) = true := h1
    rw [Bool.and_eq_true] at h1
    have hts := C.2.2.2.2.2.1
    obtain ⟨q1, q2, q3, q4⟩ := hR
    intro hle ls H locs hL hlen hW hS
    have hsm := pm_small (M0 := M0) ⟨hW.2.1, hW.2.2.1⟩
    refine va_mmin C.1 C.2.1 (by rw [hL.1, hlen]) C.2.2.2.2.1 (hts _ (pm_ini' h1.2)) (hts _ (pm_in pm_mm.1)) (hts _ (pm_in pm_mm.2.1)) (hts _ (pm_in pm_mm.2.2)) (by omega) ?_ (by omega) (by omega) hd (hk _ _ _ _ h hle ls H locs hL hlen hW hS)
    rw [pm_sum_cv]
    omega
  · cases h
theorem pm_s_inv (C : pm_Cx p l s m args meth c mi g) (hR : pm_Rm dd R) (hk : ∀ pc' L' S' M', k pc' L' S' M' = some r → pm_W p l e R s m args below meth c (pm_Q below g M0 r args s) g M0 pc' L' S' M') (hcall : ∀ mj a M r', call mj a M = some r' → ∃ d, dd = d + 1 ∧ pm_Ct l g d mj a M r') {op idx : Nat} {ig : Instr} (hop : (op = 0 ∧ ig = .invokestatic idx) ∨ (op = 1 ∧ ig = .invokevirtual idx) ∨ (op = 2 ∧ ig = .invokespecial idx)) (hd : decode (pm_code mi) pc = .ok (ig, 3))
    (h : pm_inv call g.2.2.1 mi k op idx pc L S M = some r) : pm_W p l e R s m args below meth c (pm_Q below g M0 r args s) g M0 pc L S M := by
  unfold pm_inv at h
  split at h
  · rename_i mj na kd hq
    have hm := pm_lk_mem hq
    split at h
    · rename_i hko
      have h9 : ∀ q ∈ pm_mths, q.2.2.2.2 ≤ 5 := by decide +kernel
      have h5 : kd ≤ 5 := h9 _ hm
      split at h
      · have h2 : op = 2 := hko.symm
        subst h2
        rcases hop with ⟨h0, -⟩ | ⟨h0, -⟩ | ⟨-, rfl⟩
        · cases h0
        · cases h0
        · exact pm_s_obj C hR hk hm hd h
      · have h2 : op = 0 := hko.symm
        subst h2
        rcases hop with ⟨-, rfl⟩ | ⟨h0, -⟩ | ⟨h0, -⟩
        · exact pm_s_min C hR hk hm hd h
        · cases h0
        · cases h0
      · have h2 : op = 0 := hko.symm
        subst h2
        rcases hop with ⟨-, rfl⟩ | ⟨h0, -⟩ | ⟨h0, -⟩
        · exact pm_s_static C hR hk hcall hm hd h
        · cases h0
        · cases h0
      · rename_i n3 n4 n0
        have h6 : kd = 1 ∨ kd = 2 ∨ kd = 5 := by
          have a3 : kd ≠ 3 := n3
          have a4 : kd ≠ 4 := n4
          have a0 : kd ≠ 0 := n0
          omega
        rcases h6 with rfl | rfl | rfl
        · have h2 : op = 1 := hko.symm
          subst h2
          rcases hop with ⟨h0, -⟩ | ⟨-, rfl⟩ | ⟨h0, -⟩
          · cases h0
          · exact pm_s_virt C hR hk hcall hm hd h
          · cases h0
        · have h2 : op = 2 := hko.symm
          subst h2
          rcases hop with ⟨h0, -⟩ | ⟨h0, -⟩ | ⟨-, rfl⟩
          · cases h0
          · cases h0
          · exact pm_s_spec C hR hk hcall hm hd h
        · have h2 : op = 2 := hko.symm
          subst h2
          rcases hop with ⟨h0, -⟩ | ⟨h0, -⟩ | ⟨-, rfl⟩
          · cases h0
          · cases h0
          · exact pm_s_nest C hR hk hcall hm hd h
    · cases h
  · cases h
theorem pm_lnk : pm_tb (.constantLong "JobLayerLaw" 96 4294967295) = true := by decide +kernel
theorem pm_lng_ok {o idx : Nat} {v : Int64} (h : pm_lng o idx = some v) : Cond.constantLong (pm_nm o) idx v ∈ pm_Tl := by
  have h1 := pm_lk_mem h
  rw [List.mem_singleton] at h1
  cases h1
  exact pm_in pm_lnk
end PMJ
end
section
/-! THE PURE MACHINE IS SOUND -/
section PMT
variable {p : Program} {l : Launch} {e : Env} {R : Room} {s : State} {m : MethodId} {args : Array Value} {below : List Frame} {meth : Method} {c : Code}
variable {g : pm_G} {M0 : pm_M} {r : pm_O × pm_M} {k : Nat → pm_L → List pm_V → pm_M → pm_R} {pc mi dd : Nat} {L : pm_L} {S : List pm_V} {M : pm_M} {call : Nat → List pm_V → pm_M → pm_R}
set_option maxHeartbeats 4000000 in
theorem pm_step_ok (C : pm_Cx p l s m args meth c mi g) (hR : pm_Rm dd R) (hk : ∀ pc' L' S' M', k pc' L' S' M' = some r → pm_W p l e R s m args below meth c (pm_Q below g M0 r args s) g M0 pc' L' S' M') (hcall : ∀ mj a M r', call mj a M = some r' → ∃ d, dd = d + 1 ∧ pm_Ct l g d mj a M r') {ins : Instr} {len : Nat} (hd : decode (pm_code mi) pc = .ok (ins, len)) (hlen : pm_isw ins = true ∨ len = pm_len ins)
    (h : pm_step call g.2.2.1 dd mi k ins pc L S M = some r) : pm_W p l e R s m args below meth c (pm_Q below g M0 r args s) g M0 pc L S M := by
  have hx := C.1
  have hb := C.2.1
  have hR2 : 1000 ≤ R.cells ∧ 20000 ≤ R.slots := by
    obtain ⟨q1, q2, q3, q4⟩ := hR
    omega
  have hl : pm_isw ins = false → len = pm_len ins := fun q => by
    rcases hlen with h9 | h9
    · rw [q] at h9; cases h9
    · exact h9
  unfold pm_step at h
  split at h
  · cases hl rfl
    exact pm_s_push hk (n := 1) (v := pm_i (pm_c _)) (fun w => lv_iconst hx hb hd (pm_c_eq _) w) h
  · cases hl rfl
    split at h
    · rename_i hc
      exact pm_s_push hk (n := 2) (v := pm_i (pm_c _)) (fun w => lv_bipush hx hb hd (pm_c8 hc.1 hc.2) w) h
    · cases h
  · cases hl rfl
    split at h
    · rename_i hc
      exact pm_s_push hk (n := 3) (v := pm_i (pm_c _)) (fun w => lv_sipush hx hb hd (pm_c16 hc.1 hc.2) w) h
    · cases h
  · cases hl rfl
    exact pm_s_push hk (n := 1) (v := pm_l (Int64.ofNat _)) (fun w => lv_lconst hx hb hd rfl w) h
  · cases hl rfl
    split at h
    · rename_i v hv
      exact pm_s_push hk (n := 3) (v := pm_l v) (fun w => lv_ldc2 hx hb C.2.2.2.2.1 (C.2.2.2.2.2.1 _ (pm_lng_ok hv)) hd w) h
    · cases h
  · cases hl rfl
    exact pm_s_push hk (n := 1) (v := pm_a none) (fun w => lv_null hx hb hd w) h
  · cases hl rfl
    exact pm_s_ldi hk (n := 1) (fun q w => lv_iload_n hx hb hd rfl q w) h
  · cases hl rfl
    exact pm_s_ldi hk (n := 2) (fun q w => lv_iload hx hb hd q w) h
  · cases hl rfl
    exact pm_s_ldl hk (n := 1) (fun q w => lv_lload_n hx hb hd rfl q w) h
  · cases hl rfl
    exact pm_s_ldl hk (n := 2) (fun q w => lv_lload hx hb hd q w) h
  · cases hl rfl
    exact pm_s_lda hk (n := 1) (fun q1 q2 w => pm_w_aload_n hx hb q1 hd q2 w) h
  · cases hl rfl
    exact pm_s_lda hk (n := 2) (fun q1 q2 w => pm_w_aload hx hb q1 hd q2 w) h
  · cases hl rfl
    exact pm_s_sti hk (n := 1) (fun q w => pm_w_istore_n hx hb hd q w) h
  · cases hl rfl
    exact pm_s_sti hk (n := 2) (fun q w => pm_w_istore hx hb hd q w) h
  · cases hl rfl
    exact pm_s_sta hk (n := 1) (by intro _ _ _ _ _ _ _ q1 _ q2 w; exact pm_w_astore_n hx hb q1 hd q2 w) h
  · cases hl rfl
    exact pm_s_sta hk (n := 2) (by intro _ _ _ _ _ _ _ q1 _ q2 w; exact pm_w_astore hx hb q1 hd q2 w) h
  · cases hl rfl
    exact pm_s_iinc hk (fun q1 q2 w => pm_w_iinc hx hb hd q1 q2 w) h
  · cases hl rfl
    exact pm_s_i2 hk (fun w => lv_iadd hx hb hd w) h
  · cases hl rfl
    exact pm_s_i2 hk (fun w => lv_isub hx hb hd w) h
  · cases hl rfl
    exact pm_s_i2 hk (fun w => lv_imul hx hb hd w) h
  · cases hl rfl
    exact pm_s_i2z hk (fun q w => lv_idiv hx hb hd q w) h
  · cases hl rfl
    exact pm_s_i2z hk (fun q w => lv_irem hx hb hd q w) h
  · cases hl rfl
    exact pm_s_i2 hk (fun w => lv_iand hx hb hd w) h
  · cases hl rfl
    exact pm_s_i2 hk (fun w => lv_ior hx hb hd w) h
  · cases hl rfl
    exact pm_s_i2 hk (fun w => lv_ixor hx hb hd w) h
  · cases hl rfl
    exact pm_s_i2 hk (fun w => lv_ishl hx hb hd w) h
  · cases hl rfl
    exact pm_s_i2 hk (fun w => lv_ishr hx hb hd w) h
  · cases hl rfl
    exact pm_s_i2l hk (fun w => lv_i2l hx hb hd rfl w) h
  · cases hl rfl
    exact pm_s_l2i hk (fun w => lv_l2i hx hb hd rfl w) h
  · cases hl rfl
    exact pm_s_l2 hk (fun w => lv_land hx hb hd w) h
  · cases hl rfl
    exact pm_s_l2 hk (fun w => lv_lor hx hb hd w) h
  · cases hl rfl
    exact pm_s_lc hk (fun w => W.lcmp hx hb hd w) h
  · cases hl rfl
    exact pm_s_li hk (fun w => lv_lshl hx hb hd rfl w) h
  · cases hl rfl
    exact pm_s_li hk (fun w => lv_lshr hx hb hd rfl w) h
  · cases hl rfl
    exact pm_s_li hk (fun w => lv_lushr hx hb hd rfl w) h
  · cases hl rfl
    split at h
    · rename_i v t
      split at h
      · rename_i hc
        intro hle ls H locs hL hlen hW hS
        exact lv_dup hx hb hd (by rw [pm_cat_cv]; exact hc) (hk _ _ _ _ h hle ls H locs hL hlen hW hS)
      · cases h
    · cases h
  · cases hl rfl
    split at h
    · rename_i v w t
      split at h
      · rename_i hc
        intro hle ls H locs hL hlen hW hS
        exact lv_dup2_11 hx hb hd (by rw [pm_cat_cv]; exact hc.1) (by rw [pm_cat_cv]; exact hc.2) (hk _ _ _ _ h hle ls H locs hL hlen hW hS)
      · cases h
    · cases h
  · cases hl rfl
    split at h
    · rename_i v t
      split at h
      · rename_i hc
        intro hle ls H locs hL hlen hW hS
        exact lv_pop hx hb hd (by rw [pm_cat_cv]; exact hc) (hk _ _ _ _ h hle ls H locs hL hlen hW hS)
      · cases h
    · cases h
  · cases hl rfl
    exact pm_s_icmp hk hx hb hd h
  · cases hl rfl
    exact pm_s_if hk hx hb hd h
  · cases hl rfl
    exact pm_s_ifnull hk hx hb hd h
  · cases hl rfl
    exact pm_s_ifnonnull hk hx hb hd h
  · cases hl rfl
    exact pm_s_goto hk hx hb hd h
  · exact pm_s_tsw hk hx hb hd h
  · cases hl rfl
    split at h
    · rename_i q hq
      exact pm_s_getf C hk hq hd h
    · cases h
  · cases hl rfl
    split at h
    · rename_i q hq
      exact pm_s_putf C hk hq hd h
    · cases h
  · cases hl rfl
    exact pm_s_iald C hk hd h
  · cases hl rfl
    exact pm_s_bald C hk hd h
  · cases hl rfl
    exact pm_s_lald C hk hd h
  · cases hl rfl
    exact pm_s_aald C hk hd h
  · cases hl rfl
    exact pm_s_iast C hk hd h
  · cases hl rfl
    exact pm_s_bast C hk hd h
  · cases hl rfl
    exact pm_s_last C hk hd h
  · cases hl rfl
    exact pm_s_aast C hk hd h
  · cases hl rfl
    exact pm_s_alen C hk hd h
  · cases hl rfl
    unfold pm_nw at h
    split at h
    · rename_i ci hq
      exact pm_s_new C hR2 hk hq hd h
    · rename_i x hq
      exact pm_s_throw C hR hq hd h
    · cases h
  · cases hl rfl
    split at h
    · exact pm_s_nai C hR2 hk hd h
    · exact pm_s_nab C hR2 hk hd h
    · exact pm_s_nal C hR2 hk hd h
    · cases h
  · cases hl rfl
    split at h
    · rename_i ci hq
      exact pm_s_naa C hR2 hk hq hd h
    · cases h
  · cases hl rfl
    exact pm_s_inv C hR hk hcall (Or.inl ⟨rfl, rfl⟩) hd h
  · cases hl rfl
    exact pm_s_inv C hR hk hcall (Or.inr (Or.inl ⟨rfl, rfl⟩)) hd h
  · cases hl rfl
    exact pm_s_inv C hR hk hcall (Or.inr (Or.inr ⟨rfl, rfl⟩)) hd h
  · cases hl rfl
    exact pm_s_iret C hd h
  · cases hl rfl
    exact pm_s_aret C hd h
  · cases hl rfl
    exact pm_s_vret C hd h
  · cases h
theorem pm_go_ok (C : pm_Cx p l s m args meth c mi g) (hR : pm_Rm dd R) (hcall : ∀ mj a M r', call mj a M = some r' → ∃ d, dd = d + 1 ∧ pm_Ct l g d mj a M r') : ∀ (n pc : Nat) (L : pm_L) (S : List pm_V) (M : pm_M), pm_go call g.2.2.1 dd mi n pc L S M = some r → pm_W p l e R s m args below meth c (pm_Q below g M0 r args s) g M0 pc L S M
  | 0, _, _, _, _, h => by cases h
  | n + 1, pc, L, S, M, h => by
    unfold pm_go at h
    split at h
    · rename_i ins len ht
      obtain ⟨hd, hl⟩ := pm_dec ht
      exact pm_step_ok C hR (fun pc' L' S' M' h' => pm_go_ok C hR hcall n pc' L' S' M' h') hcall hd hl h
    · cases h
end PMT
end
section
/-! every run of the pure machine is a contract of the machine -/
section PMR2
variable {l : Launch} {g : pm_G}
theorem pm_ent_at : ∀ (a : List pm_V) (off i : Nat) (v : pm_V), (pm_ent a)[i]? = some (some v) → (off + i, pm_cv g v) ∈ lv_args off (a.map (pm_cv g))
  | [], _, _, _, h => by simp [pm_ent] at h
  | w :: a, off, i, v, h => by
    unfold pm_ent at h
    rw [List.map_cons]
    unfold lv_args
    rw [pm_cat_cv]
    split at h
    · rename_i hc
      rw [if_pos hc]
      rcases i with _ | _ | i
      · simp at h
        subst h
        exact List.mem_cons_self
      · simp at h
      · simp at h
        have := pm_ent_at a (off + 2) i v h
        refine List.mem_cons_of_mem _ ?_
        rw [show off + (i + 1 + 1) = off + 2 + i by omega]
        exact this
    · rename_i hc
      rw [if_neg hc]
      rcases i with _ | i
      · simp at h
        subst h
        exact List.mem_cons_self
      · simp at h
        have := pm_ent_at a (off + 1) i v h
        refine List.mem_cons_of_mem _ ?_
        rw [show off + (i + 1) = off + 1 + i by omega]
        exact this
theorem pm_ent_len : ∀ a : List pm_V, (lg_sl (a.map (pm_cv g))).length = (pm_ent a).length
  | [] => rfl
  | w :: a => by
    have ih := pm_ent_len a
    unfold pm_ent
    rw [List.map_cons]
    have e : lg_sl (pm_cv g w :: a.map (pm_cv g)) = (if (pm_cv g w).category = 2 then [Slot.val (pm_cv g w), .second] else [Slot.val (pm_cv g w)]) ++ lg_sl (a.map (pm_cv g)) := List.flatMap_cons
    rw [e, pm_cat_cv, List.length_append, ih]
    by_cases hc : pm_cat w = 2
    · rw [if_pos hc, if_pos hc]; simp; omega
    · rw [if_neg hc, if_neg hc]; simp; omega
theorem pm_entry (a : List pm_V) {n : Nat} (h : (pm_ent a).length ≤ n) : pm_LR g (pm_ent a ++ List.replicate (n - (pm_ent a).length) none) ((lg_sl (a.map (pm_cv g)) ++ List.replicate (n - (lg_sl (a.map (pm_cv g))).length) Slot.unset).toArray) := by
  obtain ⟨h1, h2, h3⟩ := lv_entry (a.map (pm_cv g)) (n := n) (by rw [pm_ent_len]; exact h)
  refine ⟨by rw [h1]; simp; omega, h2, fun i v hv => ?_⟩
  by_cases hi : i < (pm_ent a).length
  · rw [List.getElem?_append_left hi] at hv
    have := pm_ent_at (g := g) a 0 i v hv
    rw [Nat.zero_add] at this
    exact h3 _ this
  · rw [List.getElem?_append_right (by omega)] at hv
    rw [List.getElem?_replicate] at hv
    split at hv <;> cases hv
theorem pm_inin : ∀ mj, mj < 146 → pm_ini mj = true → (pm_y mj).name = "<init>" := by decide +kernel
/-- what a frame stands on, out of the method's start -/
theorem pm_Cx_of (hl : l.stackTraces = false) {p : Program} {e : Env} {s : State} {m : MethodId} {args : Array Value} {below : List Frame} {meth : Method} {c : Code} {s₁ : State} {mj d : Nat} (hmj : mj < 146) (B : BodyLoose p l (pm_y mj) (headSpec (pm_hw mj :: pm_Tl) (pm_rm d)) (pm_code mj) (pm_maxL mj) (pm_rt mj) e s m args below meth c s₁) (hml : c.maxLocals = pm_maxL mj) (hst : pm_St g s) : pm_Cx p l s m args meth c mj g := by
  have hts := atoms_spec (ws := pm_hw mj :: pm_Tl) B.pre
  obtain ⟨methY, cY, y1, y2, y3, y4, y5, y6, y7, y8⟩ := pm_hw_spec B.named (hts _ List.mem_cons_self)
  cases B.method.symm.trans y1
  have hcode : meth.code = some c := (Stand.of_body B).code
  cases hcode.symm.trans y2
  have hown := findClass_of_methodNamed B.named
  rw [(pm_mrow hmj).2.1] at hown
  exact ⟨B.exec, B.bytes, B.returns, hml, hown, fun w hw => hts w (List.mem_cons_of_mem _ hw), B.notSynchronized, fun h => (name_of_methodNamed B.named B.method).1.trans (pm_inin mj hmj h), y7, hl, hst⟩
theorem pm_le.rfl {M : pm_M} : pm_le M M := ⟨Nat.le_refl _, Nat.le_refl _⟩
theorem pm_call_ok (hl : l.stackTraces = false) (fu : Nat) : ∀ (d mj : Nat) (a : List pm_V) (M : pm_M) (r' : pm_O × pm_M), pm_call fu g.2.2.1 d mj a M = some r' → ∃ d', d = d' + 1 ∧ pm_Ct l g d' mj a M r'
  | 0, _, _, _, _, h => by cases h
  | d + 1, mj, a, M, r', h => by
    refine ⟨d, rfl, ?_⟩
    unfold pm_call at h
    split at h
    · rename_i hc
      obtain ⟨hmj, hlen⟩ := hc
      refine MetFree.of_bodyS (code := pm_code mj) (maxLocals := pm_maxL mj) (ret := pm_rt mj) (pm_mrow hmj).2.2.1 ?_ ?_
      · intro args s m h hn
        obtain ⟨methY, cY, y1, y2, y3, y4, y5, y6, -, -⟩ := pm_hw_spec hn (atoms_spec (ws := pm_hw mj :: pm_Tl) h _ List.mem_cons_self)
        exact ⟨methY, cY, y1, y2, y3, y4, y5, y6⟩
      · intro p e s m args below meth c s₁ B hml hP _
        obtain ⟨rfl, hst, hWd⟩ := hP
        have C := pm_Cx_of hl hmj B hml hst
        have hgo := pm_go_ok (e := e) (R := pm_rm d) (below := below) (M0 := M) C (pm_Rm_ok d) (fun mj a M r' h => pm_call_ok hl fu d mj a M r' h) _ _ _ _ _ h
        have hh0 : s₁.heap = s.heap := by rw [B.state]; rfl
        have hLlen : (pm_ent a ++ List.replicate (pm_maxL mj - (pm_ent a).length) none).length = c.maxLocals := by
          rw [hml]; simp; omega
        have w := hgo pm_le.rfl _ s.heap [] (pm_entry a hlen) hLlen hWd va_S.rf
        rw [Nat.sub_self, Nat.sub_self] at w
        have X := Stand.of_body B
        obtain ⟨t, a1, oc, b1, b2, b3⟩ := w s₁ hh0 X
        refine ⟨t, oc, ?_, b1, b2, b3⟩
        rw [lg_entry_eq]
        exact a1
    · cases h
end PMR2
end
section
/-! THE CLAIM OUT OF ONE WALK OF THE LAW'S BODY. Your part is whole_start (and what it stands on); all else here is the same for every law, but numbers. -/
def R_law : String := "JobLayerLaw"
def lw_P (b : Addr) (xs : List Int32) (args : Array Value) (s : State) : Prop := args = #[.ref b] ∧ s.IntsAt b xs ∧ xs.length ≤ 3072 ∧ (Jvm.Cond.and given_1 narrow_1).before args s = true
def lw_Q (_ : Array Value) (s : State) (o : Outcome) (t : State) : Prop := o = .returned (some (.int 1)) ∧ Framed s o t [] 620651 7234152
def lw_Z (below : List Frame) (a : Array Value) (s : State) : State → Prop := fun t => ∃ o, t.status = .running ∧ Ended t below o ∧ lw_Q a s o t
/-- the memory at the law's start: the script alone -/
def pm_init (xs : Nat → Int32) : pm_M := (fun f i j => if f = 99 ∧ i = 0 then xs j else 0, fun _ _ _ => 0, fun _ _ _ => none, 0, 0)
/-- WHAT IS LEFT TO SHOW, of the pure machine alone: on every script of at most N ints the law comes to its end with 1 -/
def pm_Pure (N : Nat) : Prop := ∀ (ns : Nat) (xs : Nat → Int32), ns ≤ N → ∃ fu n M', pm_go (pm_call fu ns 12) ns 12 146 n 0 [some (pm_r 99 0), none, none, none, none, none, none] [] (pm_init xs) = some (Sum.inl (some (pm_i 1)), M')
theorem pm_knows {args : Array Value} {s : State} (hts : ∀ w ∈ pm_Tl, w.before args s = true) : ∃ (D : va_G) (dA : Nat → ClassId), ∀ (a b n : Nat), va_K D pm_K (pm_tys (a, b, n, D, dA)) s := by
  have hk : ∀ c : Nat, ∃ q : ClassId × (Nat → Nat), ∀ (r : vw_C), pm_K[c]? = some r → u_Kn s r.1 r.2.1 r.2.2 q.1 q.2 := by
    intro c
    cases hc : pm_K[c]? with
    | none => exact ⟨(0, fun _ => 0), fun r h => by cases h⟩
    | some r =>
      obtain ⟨Cn, T, N⟩ := r
      obtain ⟨hin, -, -, -, -, -, hins, -⟩ := pm_cl_ok hc
      obtain ⟨cC, iS, h⟩ := u_known hts hin (hts _ hins)
      exact ⟨(cC, iS), fun r hr => by cases hr; exact h⟩
  obtain ⟨a1, k1, p1, f1, g1, h1⟩ := Cond.arrayClass_spec (hts _ (pm_in pm_ar3.1))
  obtain ⟨a2, k2, p2, f2, g2, h2⟩ := Cond.arrayClass_spec (hts _ (pm_in pm_ar3.2.1))
  obtain ⟨a3, k3, p3, f3, g3, h3⟩ := Cond.arrayClass_spec (hts _ (pm_in pm_ar3.2.2))
  obtain ⟨p4, a4, k4, q4, -, g4, h4, f4⟩ := Cond.arrayOver_spec (hts _ (pm_in pm_aov.1))
  obtain ⟨p5, a5, k5, q5, -, g5, h5, f5⟩ := Cond.arrayOver_spec (hts _ (pm_in pm_aov.2))
  refine ⟨(fun c => (Classical.choose (hk c)).1, fun c => (Classical.choose (hk c)).2), fun k => match k with | 0 => a1 | 1 => a2 | 2 => a3 | 4 => a4 | _ => a5, fun a b n => ⟨fun c q hq => Classical.choose_spec (hk c) q hq, fun k q hq => ?_⟩⟩
  rcases k with _ | _ | _ | _ | _ | k
  · cases hq
    exact ⟨fun n z => ⟨(fun k h => by cases h), k1, g1, p1, h1⟩, f1⟩
  · cases hq
    exact ⟨fun n z => ⟨(fun k h => by cases h), k2, g2, p2, h2⟩, f2⟩
  · cases hq
    exact ⟨fun n z => ⟨(fun k h => by cases h), k3, g3, p3, h3⟩, f3⟩
  · cases hq
    exact ⟨fun n z => ⟨(fun k h => by cases h), k4, g4, p4, h4⟩, k4, p4, g4, h4, q4, f4⟩
  · cases hq
    exact ⟨fun n z => ⟨(fun k h => by cases h), k5, g5, p5, h5⟩, k5, p5, g5, h5, q5, f5⟩
  · cases hq
theorem pm_ls : Cond.laysStatic Bundle.tN "UNASSIGNED_STACK" Bundle.steD ∈ tables_1 ∧ Cond.laysStatic Bundle.tN "SUPPRESSED_SENTINEL" Bundle.listD ∈ tables_1 := by decide +kernel
theorem pm_gn : Cond.isRef (.static Bundle.tN "UNASSIGNED_STACK" Bundle.steD) ∈ flatC (Jvm.Cond.and given_1 narrow_1) ∧ Cond.isRef (.static Bundle.tN "SUPPRESSED_SENTINEL" Bundle.listD) ∈ flatC (Jvm.Cond.and given_1 narrow_1) ∧ Cond.not (.castable (pm_exn 0) (pm_exn 1)) ∈ flatC (Jvm.Cond.and given_1 narrow_1) ∧ Cond.not (.castable (pm_exn 1) (pm_exn 0)) ∈ flatC (Jvm.Cond.and given_1 narrow_1) := by decide +kernel
theorem pm_ncast {args : Array Value} {s : State} {A B : String} (h : (Cond.not (.castable A B)).before args s = true) : ∃ a b, s.vm.findClass A = some a ∧ s.vm.findClass B = some b ∧ s.vm.assignable a b = false := by
  have hv := Cond.holds_not_iff.mp h
  simp only [Cond.value] at hv
  cases ha : s.vm.findClass A with
  | none => simp [ha] at hv
  | some a =>
    cases hb : s.vm.findClass B with
    | none => simp [ha, hb] at hv
    | some b =>
      refine ⟨a, b, rfl, rfl, ?_⟩
      simpa [ha, hb] using hv
/-- what holds at the law's entry -/
def lw_At (p : Program) (s : State) (m : MethodId) (meth : Method) (c : Code) (b L : Nat) (xs : Nat → Int32) : Prop :=
  p.tables.exec = Jvm.exec ∧ c.code = code ∧ meth.sig.returnType = ret ∧ c.maxLocals = 7 ∧ s.vm.findClass R_law = some m.cls ∧ (∀ w ∈ lw_tbl, w.before #[Value.ref b] s = true) ∧ va_X b L xs s s.heap ∧ b < s.heap.size ∧ meth.locks = false ∧ (Jvm.Cond.and given_1 narrow_1).before #[Value.ref b] s = true ∧ c.exceptionTable.isEmpty = true
theorem whole_start {p : Program} {e : Env} {s : State} {m : MethodId} {below : List Frame} {meth : Method} {c : Code} (l : Launch) (hl : l.stackTraces = false) (hpure : pm_Pure 3072) {b L : Nat} {xs : Nat → Int32} (hL : L ≤ 3072) (C0 : lw_At p s m meth c b L xs) : W p l e room_1 s m #[Value.ref b] below meth c s.heap [] 0 0 (lw_Z below #[Value.ref b] s) (entryFrame m ([Value.ref b] : List Value).toArray 7) := by
  obtain ⟨hx, hb, hr, hml, hown, hts, hX, hbl, hlocks, hgv, hex⟩ := C0
  have hts' : ∀ w ∈ pm_Tl, w.before #[Value.ref b] s = true := fun w hw => hts w (List.mem_filter.mp hw).1
  have hfl := flat_of_before _ hgv
  obtain ⟨D, dA, hK⟩ := pm_knows hts'
  obtain ⟨fu, n, M', hgo⟩ := hpure L xs hL
  have hno : pm_No s := by
    obtain ⟨a, b', h1, h2, h3⟩ := pm_ncast (hfl _ pm_gn.2.2.1)
    obtain ⟨a', b'', h4, h5, h6⟩ := pm_ncast (hfl _ pm_gn.2.2.2)
    cases h1.symm.trans h5
    cases h2.symm.trans h4
    exact ⟨a, b', h1, h2, h3, h6⟩
  have hst : pm_St (s.heap.size, b, L, D, dA) s := ⟨hK _ _ _, hbl, Nat.le_refl _, pm_Z1.of (hts _ (List.mem_append_right _ pm_ls.1)) (hfl _ pm_gn.1), pm_Z1.of (hts _ (List.mem_append_right _ pm_ls.2)) (hfl _ pm_gn.2.1), hno⟩
  have hne : c.exceptionTable.toList = [] := by
    have h0 : c.exceptionTable.size = 0 := by simpa [Array.isEmpty] using hex
    exact List.eq_nil_of_length_eq_zero (by simpa using h0)
  have C : pm_Cx p l s m #[Value.ref b] meth c 146 (s.heap.size, b, L, D, dA) := ⟨hx, hb, hr, hml, hown, hts', hlocks, (fun h => by cases h), (by rw [hne]; rfl), hl, hst⟩
  have hRm : pm_Rm 12 room_1 := by
    show 12 + 1 ≤ 13 ∧ 1000 * (12 + 1) ≤ 620651 ∧ 20000 * (12 + 1) ≤ 7234152 ∧ 40 * 12 + 26 ≤ 506
    omega
  have w := pm_go_ok (e := e) (below := below) (M0 := pm_init xs) C hRm (fun mj a M r' h => pm_call_ok hl fu 12 mj a M r' h) _ _ _ _ _ hgo
  have hLR : pm_LR (s.heap.size, b, L, D, dA) [some (pm_r 99 0), none, none, none, none, none, none] _ := pm_entry (g := (s.heap.size, b, L, D, dA)) [pm_r 99 0] (n := 7) (by decide)
  have hWd : pm_Wd (s.heap.size, b, L, D, dA) (pm_init xs) s s.heap := by
    refine ⟨(fun k hk => by cases hk), Nat.zero_le _, Nat.zero_le _, Nat.le_refl _, Or.inr rfl, ?_⟩
    have e1 : (pm_init xs).1 99 0 = xs := by
      funext j
      show (if (99 : Nat) = 99 ∧ (0 : Nat) = 0 then xs j else 0) = xs j
      rw [if_pos ⟨rfl, rfl⟩]
    rw [e1]
    exact hX
  have w2 := w pm_le.rfl _ s.heap [] hLR (by rw [hml]; rfl) hWd va_S.rf
  rw [Nat.sub_self, Nat.sub_self] at w2
  rw [lg_entry_eq]
  intro T hT X
  obtain ⟨t, a1, oc, h1, h2, h3, h4, h5, h6, h7, Ls, h8, h9⟩ := w2 T hT X
  refine ⟨t, a1, oc, h1, h2, h3, ?_⟩
  have h3 : oc = .returned (some (.int 1)) := h3
  refine ⟨⟨_, h3⟩, h6, ?_⟩
  have e1 : pm_cb M' ≤ 1000 ∧ pm_sb M' ≤ 20000 := by
    have q1 : M'.2.2.2.1 ≤ pm_tot := h4.2.1
    have q2 : M'.2.2.2.2 ≤ 600 := h4.2.2.1
    have := pm_tot96
    unfold pm_cb pm_sb
    omega
  refine h8.weaken (fun y hy hlt => ?_) (by show pm_cb M' - _ ≤ _; omega) (by show pm_sb M' - _ ≤ _; omega)
  have := (h9 y hy).1
  exact absurd hlt (Nat.not_lt.mpr this)
set_option maxHeartbeats 4000000 in
theorem lw_walk (l : Launch) (hl : l.stackTraces = false) (hpure : pm_Pure 3072) (b : Addr) (xs : List Int32) : MetFree l x (headSpec (Jvm.Cond.code x code maxLocals ret :: tables_1) room_1) (lw_P b xs) (fun _ _ _ _ _ => True) lw_Q := by
  refine MetFree.of_bodyS (code := code) (maxLocals := maxLocals) (ret := ret) (by decide) ?_ ?_
  · intro args s m h hn
    obtain ⟨meth, c, h1, h2, h3, h4, h5, h6, -, -⟩ := Cond.code_spec hn (atoms_spec (ws := Jvm.Cond.code x code maxLocals ret :: tables_1) h _ List.mem_cons_self)
    exact ⟨meth, c, h1, h2, h3, h4, h5, h6⟩
  · intro p e s m args below meth c s₁ B hml0 hP _
    obtain ⟨rfl, hx, hbd, hgv⟩ := hP
    obtain ⟨scr, harrAt, hlist, hof, hsmall⟩ := hx
    obtain ⟨hcb, hkn, -, -⟩ := State.arrayAt?_spec harrAt
    have hown : s.vm.findClass R_law = some m.cls := findClass_of_methodNamed B.named
    have hts0 : ∀ c ∈ (Jvm.Cond.code x code maxLocals ret :: tables_1), c.before #[Value.ref b] s = true := atoms_spec (ws := Jvm.Cond.code x code maxLocals ret :: tables_1) B.pre
    have hts : ∀ w ∈ lw_tbl, w.before #[Value.ref b] s = true := k2_hts_sels lw_privs (fun w hw => hts0 w (List.mem_cons_of_mem _ hw)) lw_privs_ok
    have hml : c.maxLocals = 7 := B.maxLocals_eq (hts0 _ List.mem_cons_self)
    have X₀ : Stand p l e room_1 s m #[Value.ref b] below meth c s₁ [] 0 0 := Stand.of_body B
    have hh0 : s₁.heap = s.heap := by rw [B.state]; rfl
    have hsz : scr.slots.size = xs.length := by rw [← Array.length_toList, hlist, List.length_map]
    have hval : ∀ j : Nat, j < xs.length → scr.slots[j]? = some (.int (xs.getD j 0)) := fun j hj => by
      rw [← Array.getElem?_toList, hlist]
      simp [hj]
    have hbl : b < s.heap.size := (Array.getElem?_eq_some_iff.mp hcb).1
    have hX : va_X b xs.length (fun j => xs.getD j 0) s s.heap := ⟨scr, hcb, hof, hkn, hsz, hval⟩
    have K : W p l e room_1 s m #[Value.ref b] below meth c s₁.heap [] 0 0 (lw_Z below #[Value.ref b] s) (entryFrame m ([Value.ref b] : List Value).toArray 7) := by
      rw [hh0]
      obtain ⟨meth', c', q1, q2, -, -, -, -, q3, -⟩ := Cond.code_spec B.named (hts0 _ List.mem_cons_self)
      cases B.method.symm.trans q1
      cases X₀.code.symm.trans q2
      exact whole_start l hl hpure hbd ⟨B.exec, B.bytes, B.returns, hml, hown, hts, hX, hbl, B.notSynchronized, hgv, q3⟩
    obtain ⟨t, a1, o, b1, b2, b3⟩ := K s₁ rfl X₀
    exact ⟨t, o, a1, b1, b2, b3⟩
theorem lw_pre_spec {args : Array Value} {s : State} (h : (Jvm.Cond.and given_1 narrow_1).before args s = true) (hr : rest_1_c.before args s = true) : ∃ (b : Addr) (xs : List Int32), lw_P b xs args s := by
  have hs := flat_of_before _ h
  have hq := flat_of_before _ hr
  have hc : (Cond.count 1).before args s = true := hs _ (by decide +kernel)
  have harr : (Cond.arrayOf (.arg 0) .int).before args s = true := hs _ (by decide +kernel)
  have hle : (Cond.le (.length (.arg 0)) (.int 3072)).before args s = true := hs _ (by decide +kernel)
  have hlen : (Cond.isInt (.length (.arg 0))).before args s = true := hq _ (by decide +kernel)
  have hall : (Cond.all (.arg 0) (.isInt (.elem (.arg 0) (.index 0)))).before args s = true := hq _ (by decide +kernel)
  obtain ⟨b, xs, hb, hx⟩ := State.ints_of_pre rfl harr hlen hall
  have hsm : xs.length < 2 ^ 31 := hx.choose_spec.2.2.2
  have hev : (Term.length (.arg 0)).eval args s none [] s = some (.int xs.length.toInt32) := hx.length_eval hb
  have hv := Cond.le_ints hev (show (Term.int 3072).eval args s none [] s = some (.int 3072) from rfl)
  have hd : xs.length.toInt32 ≤ 3072 := by
    simpa [Cond.before, Cond.holds, hv] using hle
  have hN : xs.length ≤ 3072 := (Int32.ofNat_le_ofNat hsm (by decide)).mp (show Int32.ofNat xs.length ≤ Int32.ofNat 3072 from hd)
  exact ⟨b, xs, Cond.one_arg hc (show args[0]? = some (.ref b) from hb), hx, hN, h⟩
theorem lw_comes (l : Launch) (hl : l.stackTraces = false) (hpure : pm_Pure 3072) : Comes l x (Jvm.Cond.code x code maxLocals ret :: tables_1) room_1 (fun tb e args s => Calls_1 tb e args s ∧ rest_1 tb e args s ∧ Pre_1 tb e args s)
    (fun _ _ args s o t => lw_Q args s o t) := by
  intro p e ha hc hk s m args below hf hfit hheap happ hpre
  obtain ⟨b, xs, hP⟩ := lw_pre_spec hpre.2.2 hpre.2.1
  obtain ⟨k, o, h1, h2, h3, hQ⟩   := lw_walk l hl hpure b xs p e ha hc hk s m args below hf ((Spec.applies_iff_loose hf).mp happ).1 hP trivial
  exact ⟨k, o, h1, h2, h3, hQ⟩
theorem lw_frame {s t : State} {o : Outcome} {args : Array Value} (h : Framed s o t [] 620651 7234152) :
    Framed s o t (fieldLocs frame_1_writes args s ++ arrayLocs frame_1_arrays args s ++ staticLocs frame_1_statics s) 620651 7234152 := h
theorem lw_limb (hpure : pm_Pure 3072) (L : Cond) (hL : ∀ (args : Array Value) (s t : State), L.after args s (.returned (some (.int 1))) t = true) :
    ArmFor flags0 classFile x code maxLocals ret World_1 tables_1 room_1 Calls_1 rest_1 Pre_1
      (fun tb e a s o t => postC L tb e a s o t ∧ Framed s o t (fieldLocs frame_1_writes a s ++ arrayLocs frame_1_arrays a s ++ staticLocs frame_1_statics s) 620651 7234152) := by
  intro l hfl _ _ p e ha hc hk s m args below hf hfit hheap happ hpre
  have hl : l.stackTraces = false := by
    show (!l.flags.contains Jvm.noTraceFlag) = false
    rw [hfl]
    decide +kernel
  obtain ⟨k, o, h1, h2, h3, rfl, hF⟩ := lw_comes l hl hpure p e ha hc hk s m args below hf hfit hheap happ hpre
  exact ⟨k, _, h1, h2, h3, hL args s _, lw_frame hF⟩
theorem i_of (hpure : pm_Pure 3072) : Claimed_1_1 ∧ Claimed_1_2 := ⟨lw_limb hpure limb_1_1 (fun args s t => by simp [limb_1_1, Cond.after, Cond.holds, Cond.value]), lw_limb hpure limb_1_2 (fun args s t => Cond.after_iff.mpr (by
  first | (rw [show limb_1_2 = Cond.eq .result (.int 1) from rfl, Cond.eq_ints (x := 1) (y := 1) rfl rfl]; simp; done) | (simp [limb_1_2, Cond.value, Term.eval]; done)))⟩
end
section
/-! @ @ -/
/-! RUNS OF THE PURE MACHINE WITHOUT FUEL. pE: a call ends so, with every fuel that is large enough. pW: from this place on the frame ends with a result of which Q holds. -/
def pE (ns d mi : Nat) (a : List pm_V) (M : pm_M) (r : pm_O × pm_M) : Prop := ∃ N, ∀ fu, N ≤ fu → pm_call fu ns d mi a M = some r
def pW (ns d mi pc : Nat) (L : pm_L) (S : List pm_V) (M : pm_M) (Q : pm_O × pm_M → Prop) : Prop := ∃ r, Q r ∧ ∃ N, ∀ fu, N ≤ fu → ∀ n, N ≤ n → pm_go (pm_call fu ns d) ns d mi n pc L S M = some r
section WP
variable {ns d mi pc pc' pc1 pc2 mj : Nat} {L L' : pm_L} {S S' : List pm_V} {M M' M2 : pm_M} {Q : pm_O × pm_M → Prop}
theorem pW_eq (K : Nat) (h : ∀ call n, pm_go call ns d mi (n + K) pc L S M = pm_go call ns d mi n pc' L' S' M') (k : pW ns d mi pc' L' S' M' Q) : pW ns d mi pc L S M Q := by
  obtain ⟨r, hq, N, hN⟩ := k
  refine ⟨r, hq, N + K, fun fu hf n hn => ?_⟩
  obtain ⟨m, rfl⟩ : ∃ m, n = m + K := ⟨n - K, by omega⟩
  rw [h]
  exact hN fu (by omega) m (by omega)
theorem pW_if (K : Nat) {c : Prop} [Decidable c] (h : ∀ call n, pm_go call ns d mi (n + K) pc L S M = if c then pm_go call ns d mi n pc1 L' S' M' else pm_go call ns d mi n pc2 L' S' M') (k1 : c → pW ns d mi pc1 L' S' M' Q) (k2 : ¬ c → pW ns d mi pc2 L' S' M' Q) : pW ns d mi pc L S M Q := by
  by_cases hc : c
  · exact pW_eq K (fun call n => (h call n).trans (if_pos hc)) (k1 hc)
  · exact pW_eq K (fun call n => (h call n).trans (if_neg hc)) (k2 hc)
theorem pW_ret (K : Nat) {r : pm_O × pm_M} (h : ∀ call n, pm_go call ns d mi (n + K) pc L S M = some r) (k : Q r) : pW ns d mi pc L S M Q := by
  refine ⟨r, k, K, fun fu hf n hn => ?_⟩
  obtain ⟨m, rfl⟩ : ∃ m, n = m + K := ⟨n - K, by omega⟩
  exact h _ m
theorem pW_call (K : Nat) {a r : List pm_V} {v : Option pm_V} (h : ∀ call n, pm_go call ns d mi (n + K) pc L S M = pm_cl call mi (pm_go call ns d mi n) pc' mj a r L' M') (hE : pE ns d mj a M' (.inl v, M2)) (k : pW ns d mi (pc' + 3) L' (v.toList ++ r) M2 Q) : pW ns d mi pc L S M Q := by
  obtain ⟨r', hq, N, hN⟩ := k
  obtain ⟨N2, hN2⟩ := hE
  refine ⟨r', hq, max N N2 + K, fun fu hf n hn => ?_⟩
  obtain ⟨m, rfl⟩ : ∃ m, n = m + K := ⟨n - K, by omega⟩
  rw [h]
  unfold pm_cl
  rw [hN2 fu (by omega)]
  exact hN fu (by omega) m (by omega)
theorem pW_callx (K : Nat) {a r : List pm_V} {e : Nat} (h : ∀ call n, pm_go call ns d mi (n + K) pc L S M = pm_cl call mi (pm_go call ns d mi n) pc' mj a r L' M') (hE : pE ns d mj a M' (.inr e, M2)) (hh : pm_hd (pm_hnd mi) pc' e = none ∧ pm_hnd mi = []) (k : Q (.inr e, M2)) : pW ns d mi pc L S M Q := by
  obtain ⟨N2, hN2⟩ := hE
  refine ⟨_, k, N2 + K, fun fu hf n hn => ?_⟩
  obtain ⟨m, rfl⟩ : ∃ m, n = m + K := ⟨n - K, by omega⟩
  rw [h]
  unfold pm_cl
  rw [hN2 fu (by omega)]
  show pm_ct mi _ pc' e L' M2 = _
  unfold pm_ct
  rw [hh.1, hh.2]
  rfl
theorem pW_callh (K : Nat) {a r : List pm_V} {e : Nat} {L2 : pm_L} (h : ∀ call n, pm_go call ns d mi (n + K) pc L S M = pm_cl call mi (pm_go call ns d mi n) pc' mj a r L' M') (hE : pE ns d mj a M' (.inr e, M2)) (hh : ∀ k : Nat → pm_L → List pm_V → pm_M → pm_R, pm_ct mi k pc' e L' M2 = k pc1 L2 [] M2) (k : pW ns d mi pc1 L2 [] M2 Q) : pW ns d mi pc L S M Q := by
  obtain ⟨r', hq, N, hN⟩ := k
  obtain ⟨N2, hN2⟩ := hE
  refine ⟨r', hq, max N N2 + K, fun fu hf n hn => ?_⟩
  obtain ⟨m, rfl⟩ : ∃ m, n = m + K := ⟨n - K, by omega⟩
  rw [h]
  unfold pm_cl
  rw [hN2 fu (by omega)]
  show pm_ct mi _ pc' e L' M2 = _
  rw [hh]
  exact hN fu (by omega) m (by omega)
theorem pW_E {a : List pm_V} (hl : mi < 146 ∧ (pm_ent a).length ≤ pm_maxL mi) (h : pW ns d mi 0 (pm_ent a ++ List.replicate (pm_maxL mi - (pm_ent a).length) none) [] M Q) : ∃ r, Q r ∧ pE ns (d + 1) mi a M r := by
  obtain ⟨r, hq, N, hN⟩ := h
  refine ⟨r, hq, N, fun fu hf => ?_⟩
  unfold pm_call
  rw [if_pos hl]
  exact hN fu hf fu hf
theorem pW_mono {Q' : pm_O × pm_M → Prop} (h : pW ns d mi pc L S M Q) (hq : ∀ r, Q r → Q' r) : pW ns d mi pc L S M Q' := by
  obtain ⟨r, h1, h2⟩ := h
  exact ⟨r, hq r h1, h2⟩
end WP
theorem en {ns d mi : Nat} {a : List pm_V} {M : pm_M} {r : pm_O × pm_M} (hl : (Nat.ble (mi + 1) 146 && Nat.ble (pm_ent a).length (pm_maxL mi)) = true) (h : pW ns d mi 0 (pm_ent a ++ List.replicate (pm_maxL mi - (pm_ent a).length) none) [] M (fun r' => r' = r)) : pE ns (d + 1) mi a M r := by
  rw [Bool.and_eq_true] at hl
  obtain ⟨r', rfl, hE⟩ := pW_E ⟨Nat.le_of_ble_eq_true hl.1, Nat.le_of_ble_eq_true hl.2⟩ h
  exact hE
theorem enQ {ns d mi : Nat} {a : List pm_V} {M : pm_M} {Q : pm_O × pm_M → Prop} (hl : (Nat.ble (mi + 1) 146 && Nat.ble (pm_ent a).length (pm_maxL mi)) = true) (h : pW ns d mi 0 (pm_ent a ++ List.replicate (pm_maxL mi - (pm_ent a).length) none) [] M Q) : ∃ r, Q r ∧ pE ns (d + 1) mi a M r := by
  rw [Bool.and_eq_true] at hl
  exact pW_E ⟨Nat.le_of_ble_eq_true hl.1, Nat.le_of_ble_eq_true hl.2⟩ h
/-! THE MEMORY AFTER THE CONSTRUCTORS: the class's ints A (families below 20) and its calls' bytes c, the reference's ints G and its bytes g, the long o that the law hands around; R is fixed, x counts the exceptions, Z and Y are the rest (the script is Z 99 0). -/
def mA (Z A : Nat → Nat → Nat → Int32) (G : Nat → Nat → Int32) : Nat → Nat → Nat → Int32 := fun f i k => if f < 20 then A f i k else if f < 60 ∧ i = 0 then G f k else Z f i k
def mB (Y : Nat → Nat → Nat → Int64) (o : Int64) (c g : Nat → Int64) : Nat → Nat → Nat → Int64 := fun f i k => if f = 13 ∧ k = 3 then c i else if f = 37 ∧ i = 0 then g k else if f = 60 ∧ i = 0 ∧ k = 0 then o else Y f i k
abbrev mm (x : Nat) (R : Nat → Nat → Nat → Option (Nat × Nat)) (Z : Nat → Nat → Nat → Int32) (Y : Nat → Nat → Nat → Int64) (o : Int64) (A : Nat → Nat → Nat → Int32) (c : Nat → Int64) (G : Nat → Nat → Int32) (g : Nat → Int64) : pm_M := (mA Z A G, mB Y o c g, R, pm_tot, x)
def pm_v (G : Nat → Nat → Int32) (f k : Nat) (v : Int32) : Nat → Nat → Int32 := fun f' k' => if f' = f ∧ k' = k then v else G f' k'
def pm_w (c : Nat → Int64) (i : Nat) (v : Int64) : Nat → Int64 := fun i' => if i' = i then v else c i'
theorem uA {Z A : Nat → Nat → Nat → Int32} {G : Nat → Nat → Int32} {f i k : Nat} {v : Int32} (h : f < 20) : pm_u (mA Z A G) f i k v = mA Z (pm_u A f i k v) G := by
  funext f' i' k'
  simp only [pm_u, mA]
  by_cases h1 : f' = f ∧ i' = i ∧ k' = k
  · rw [if_pos h1, if_pos (by omega), if_pos h1]
  · rw [if_neg h1, if_neg h1]
theorem uG {Z A : Nat → Nat → Nat → Int32} {G : Nat → Nat → Int32} {f k : Nat} {v : Int32} (h : 20 ≤ f ∧ f < 60) : pm_u (mA Z A G) f 0 k v = mA Z A (pm_v G f k v) := by
  funext f' i' k'
  simp only [pm_u, mA, pm_v]
  by_cases h1 : f' = f ∧ i' = 0 ∧ k' = k
  · rw [if_pos h1, if_neg (by omega), if_pos (by omega), if_pos (by omega)]
  · rw [if_neg h1]
    by_cases h2 : f' < 20
    · rw [if_pos h2, if_pos h2]
    · rw [if_neg h2, if_neg h2]
      by_cases h3 : f' < 60 ∧ i' = 0
      · rw [if_pos h3, if_pos h3, if_neg (by omega)]
      · rw [if_neg h3, if_neg h3]
theorem uC {Y : Nat → Nat → Nat → Int64} {o : Int64} {c g : Nat → Int64} {i : Nat} {v : Int64} : pm_u (mB Y o c g) 13 i 3 v = mB Y o (pm_w c i v) g := by
  funext f' i' k'
  simp only [pm_u, mB, pm_w]
  split <;> split <;> first | rfl | omega | (split <;> first | rfl | omega)
theorem uH {Y : Nat → Nat → Nat → Int64} {o : Int64} {c g : Nat → Int64} {k : Nat} {v : Int64} : pm_u (mB Y o c g) 37 0 k v = mB Y o c (pm_w g k v) := by
  funext f' i' k'
  simp only [pm_u, mB, pm_w]
  by_cases h1 : f' = 13 ∧ k' = 3
  · rw [if_neg (by omega), if_pos h1, if_pos h1]
  · rw [if_neg h1, if_neg h1]
    by_cases h2 : f' = 37 ∧ i' = 0
    · rw [if_pos h2, if_pos h2]
      by_cases h3 : k' = k
      · rw [if_pos (by omega), if_pos h3]
      · rw [if_neg (by omega), if_neg h3]
    · rw [if_neg h2, if_neg h2, if_neg (by omega)]
theorem uO {Y : Nat → Nat → Nat → Int64} {o : Int64} {c g : Nat → Int64} {v : Int64} : pm_u (mB Y o c g) 60 0 0 v = mB Y v c g := by
  funext f' i' k'
  simp only [pm_u, mB]
  by_cases h1 : f' = 60 ∧ i' = 0 ∧ k' = 0
  · rw [if_pos h1, if_neg (by omega), if_neg (by omega), if_pos h1]
  · simp only [if_neg h1]
theorem uO1 {Y : Nat → Nat → Nat → Int64} {o : Int64} {c g : Nat → Int64} {v : Int64} {k : Nat} (h : k < 1) : pm_u (mB Y o c g) 60 0 k v = mB Y v c g := by
  obtain rfl : k = 0 := by omega
  exact uO
/-- where the references lead -/
def RS (R : Nat → Nat → Nat → Option (Nat × Nat)) : Prop :=
  (∀ k, k < 3 → R 0 0 k = some (1 + k, 0)) ∧ (∀ k, k < 8 → R 1 0 k = some (8, k)) ∧ (∀ k, k < 6 → R 2 0 k = some (4, k)) ∧ (R 3 0 0 = some (6, 0) ∧ R 3 0 1 = some (14, 0) ∧ R 3 0 2 = some (15, 0)) ∧ (∀ i, i < 6 → R 4 i 0 = some (5, i)) ∧ R 6 0 0 = some (7, 0) ∧ (∀ i, i < 8 → ∀ k, k < 5 → R 8 i (k + 1) = some (9 + k, i)) ∧ (∀ k, k < 32 → k ≠ 0 → k ≠ 20 → k ≠ 25 → k ≠ 26 → k ≠ 27 → k ≠ 28 → R 20 0 k = some ((if k < 20 then 20 + k else if k < 25 then 19 + k else 15 + k), 0))
theorem g_ok {M : pm_M} {f i : Nat} {a : pm_R} (hi : i < pm_cnt f) (hn : M.2.2.2.1 = pm_tot) : pm_g M f i a = a := by
  unfold pm_g pm_ok
  rw [if_pos]
  rw [hn]
  simp [hi]
theorem ix_ok {e : Int32} {j n : Nat} {g : Nat → pm_R} (he : e = nI j) (hj : j < n) (hn : n < 2 ^ 31) : pm_ix e n g = g j := by
  subst he
  unfold pm_ix
  rw [if_neg (nI_in hj hn), nI_clamp (by omega)]
theorem bo_ok {e : Int32} {a : pm_R} (h : e = 0 ∨ e = 1) : pm_bo e a = a := by
  unfold pm_bo
  rw [if_pos h]
theorem rs_0_0 {R : Nat → Nat → Nat → Option (Nat × Nat)} (h : RS R) : R 0 0 0 = some (1, 0) := h.1 0 (by decide)
theorem rs_0_1 {R : Nat → Nat → Nat → Option (Nat × Nat)} (h : RS R) : R 0 0 1 = some (2, 0) := h.1 1 (by decide)
theorem rs_0_2 {R : Nat → Nat → Nat → Option (Nat × Nat)} (h : RS R) : R 0 0 2 = some (3, 0) := h.1 2 (by decide)
theorem rs_1 {R : Nat → Nat → Nat → Option (Nat × Nat)} (h : RS R) {k : Nat} (hk : k < 8) : R 1 0 k = some (8, k) := h.2.1 k hk
theorem rs_2 {R : Nat → Nat → Nat → Option (Nat × Nat)} (h : RS R) {k : Nat} (hk : k < 6) : R 2 0 k = some (4, k) := h.2.2.1 k hk
theorem rs_3_0 {R : Nat → Nat → Nat → Option (Nat × Nat)} (h : RS R) : R 3 0 0 = some (6, 0) := h.2.2.2.1.1
theorem rs_3_1 {R : Nat → Nat → Nat → Option (Nat × Nat)} (h : RS R) : R 3 0 1 = some (14, 0) := h.2.2.2.1.2.1
theorem rs_3_2 {R : Nat → Nat → Nat → Option (Nat × Nat)} (h : RS R) : R 3 0 2 = some (15, 0) := h.2.2.2.1.2.2
theorem rs_4_0 {R : Nat → Nat → Nat → Option (Nat × Nat)} (h : RS R) {i : Nat} (hi : i < 6) : R 4 i 0 = some (5, i) := h.2.2.2.2.1 i hi
theorem rs_6_0 {R : Nat → Nat → Nat → Option (Nat × Nat)} (h : RS R) : R 6 0 0 = some (7, 0) := h.2.2.2.2.2.1
theorem rs_8_1 {R : Nat → Nat → Nat → Option (Nat × Nat)} (h : RS R) {i : Nat} (hi : i < 8) : R 8 i 1 = some (9, i) := h.2.2.2.2.2.2.1 i hi 0 (by decide)
theorem rs_8_2 {R : Nat → Nat → Nat → Option (Nat × Nat)} (h : RS R) {i : Nat} (hi : i < 8) : R 8 i 2 = some (10, i) := h.2.2.2.2.2.2.1 i hi 1 (by decide)
theorem rs_8_3 {R : Nat → Nat → Nat → Option (Nat × Nat)} (h : RS R) {i : Nat} (hi : i < 8) : R 8 i 3 = some (11, i) := h.2.2.2.2.2.2.1 i hi 2 (by decide)
theorem rs_8_4 {R : Nat → Nat → Nat → Option (Nat × Nat)} (h : RS R) {i : Nat} (hi : i < 8) : R 8 i 4 = some (12, i) := h.2.2.2.2.2.2.1 i hi 3 (by decide)
theorem rs_8_5 {R : Nat → Nat → Nat → Option (Nat × Nat)} (h : RS R) {i : Nat} (hi : i < 8) : R 8 i 5 = some (13, i) := h.2.2.2.2.2.2.1 i hi 4 (by decide)
theorem rs_20_1 {R : Nat → Nat → Nat → Option (Nat × Nat)} (h : RS R) : R 20 0 1 = some (21, 0) := h.2.2.2.2.2.2.2 1 (by decide) (by decide) (by decide) (by decide) (by decide) (by decide) (by decide)
theorem rs_20_2 {R : Nat → Nat → Nat → Option (Nat × Nat)} (h : RS R) : R 20 0 2 = some (22, 0) := h.2.2.2.2.2.2.2 2 (by decide) (by decide) (by decide) (by decide) (by decide) (by decide) (by decide)
theorem rs_20_3 {R : Nat → Nat → Nat → Option (Nat × Nat)} (h : RS R) : R 20 0 3 = some (23, 0) := h.2.2.2.2.2.2.2 3 (by decide) (by decide) (by decide) (by decide) (by decide) (by decide) (by decide)
theorem rs_20_4 {R : Nat → Nat → Nat → Option (Nat × Nat)} (h : RS R) : R 20 0 4 = some (24, 0) := h.2.2.2.2.2.2.2 4 (by decide) (by decide) (by decide) (by decide) (by decide) (by decide) (by decide)
theorem rs_20_5 {R : Nat → Nat → Nat → Option (Nat × Nat)} (h : RS R) : R 20 0 5 = some (25, 0) := h.2.2.2.2.2.2.2 5 (by decide) (by decide) (by decide) (by decide) (by decide) (by decide) (by decide)
theorem rs_20_6 {R : Nat → Nat → Nat → Option (Nat × Nat)} (h : RS R) : R 20 0 6 = some (26, 0) := h.2.2.2.2.2.2.2 6 (by decide) (by decide) (by decide) (by decide) (by decide) (by decide) (by decide)
theorem rs_20_7 {R : Nat → Nat → Nat → Option (Nat × Nat)} (h : RS R) : R 20 0 7 = some (27, 0) := h.2.2.2.2.2.2.2 7 (by decide) (by decide) (by decide) (by decide) (by decide) (by decide) (by decide)
theorem rs_20_8 {R : Nat → Nat → Nat → Option (Nat × Nat)} (h : RS R) : R 20 0 8 = some (28, 0) := h.2.2.2.2.2.2.2 8 (by decide) (by decide) (by decide) (by decide) (by decide) (by decide) (by decide)
theorem rs_20_9 {R : Nat → Nat → Nat → Option (Nat × Nat)} (h : RS R) : R 20 0 9 = some (29, 0) := h.2.2.2.2.2.2.2 9 (by decide) (by decide) (by decide) (by decide) (by decide) (by decide) (by decide)
theorem rs_20_10 {R : Nat → Nat → Nat → Option (Nat × Nat)} (h : RS R) : R 20 0 10 = some (30, 0) := h.2.2.2.2.2.2.2 10 (by decide) (by decide) (by decide) (by decide) (by decide) (by decide) (by decide)
theorem rs_20_11 {R : Nat → Nat → Nat → Option (Nat × Nat)} (h : RS R) : R 20 0 11 = some (31, 0) := h.2.2.2.2.2.2.2 11 (by decide) (by decide) (by decide) (by decide) (by decide) (by decide) (by decide)
theorem rs_20_12 {R : Nat → Nat → Nat → Option (Nat × Nat)} (h : RS R) : R 20 0 12 = some (32, 0) := h.2.2.2.2.2.2.2 12 (by decide) (by decide) (by decide) (by decide) (by decide) (by decide) (by decide)
theorem rs_20_13 {R : Nat → Nat → Nat → Option (Nat × Nat)} (h : RS R) : R 20 0 13 = some (33, 0) := h.2.2.2.2.2.2.2 13 (by decide) (by decide) (by decide) (by decide) (by decide) (by decide) (by decide)
theorem rs_20_14 {R : Nat → Nat → Nat → Option (Nat × Nat)} (h : RS R) : R 20 0 14 = some (34, 0) := h.2.2.2.2.2.2.2 14 (by decide) (by decide) (by decide) (by decide) (by decide) (by decide) (by decide)
theorem rs_20_15 {R : Nat → Nat → Nat → Option (Nat × Nat)} (h : RS R) : R 20 0 15 = some (35, 0) := h.2.2.2.2.2.2.2 15 (by decide) (by decide) (by decide) (by decide) (by decide) (by decide) (by decide)
theorem rs_20_16 {R : Nat → Nat → Nat → Option (Nat × Nat)} (h : RS R) : R 20 0 16 = some (36, 0) := h.2.2.2.2.2.2.2 16 (by decide) (by decide) (by decide) (by decide) (by decide) (by decide) (by decide)
theorem rs_20_17 {R : Nat → Nat → Nat → Option (Nat × Nat)} (h : RS R) : R 20 0 17 = some (37, 0) := h.2.2.2.2.2.2.2 17 (by decide) (by decide) (by decide) (by decide) (by decide) (by decide) (by decide)
theorem rs_20_18 {R : Nat → Nat → Nat → Option (Nat × Nat)} (h : RS R) : R 20 0 18 = some (38, 0) := h.2.2.2.2.2.2.2 18 (by decide) (by decide) (by decide) (by decide) (by decide) (by decide) (by decide)
theorem rs_20_19 {R : Nat → Nat → Nat → Option (Nat × Nat)} (h : RS R) : R 20 0 19 = some (39, 0) := h.2.2.2.2.2.2.2 19 (by decide) (by decide) (by decide) (by decide) (by decide) (by decide) (by decide)
theorem rs_20_21 {R : Nat → Nat → Nat → Option (Nat × Nat)} (h : RS R) : R 20 0 21 = some (40, 0) := h.2.2.2.2.2.2.2 21 (by decide) (by decide) (by decide) (by decide) (by decide) (by decide) (by decide)
theorem rs_20_22 {R : Nat → Nat → Nat → Option (Nat × Nat)} (h : RS R) : R 20 0 22 = some (41, 0) := h.2.2.2.2.2.2.2 22 (by decide) (by decide) (by decide) (by decide) (by decide) (by decide) (by decide)
theorem rs_20_23 {R : Nat → Nat → Nat → Option (Nat × Nat)} (h : RS R) : R 20 0 23 = some (42, 0) := h.2.2.2.2.2.2.2 23 (by decide) (by decide) (by decide) (by decide) (by decide) (by decide) (by decide)
theorem rs_20_24 {R : Nat → Nat → Nat → Option (Nat × Nat)} (h : RS R) : R 20 0 24 = some (43, 0) := h.2.2.2.2.2.2.2 24 (by decide) (by decide) (by decide) (by decide) (by decide) (by decide) (by decide)
theorem rs_20_29 {R : Nat → Nat → Nat → Option (Nat × Nat)} (h : RS R) : R 20 0 29 = some (44, 0) := h.2.2.2.2.2.2.2 29 (by decide) (by decide) (by decide) (by decide) (by decide) (by decide) (by decide)
theorem rs_20_30 {R : Nat → Nat → Nat → Option (Nat × Nat)} (h : RS R) : R 20 0 30 = some (45, 0) := h.2.2.2.2.2.2.2 30 (by decide) (by decide) (by decide) (by decide) (by decide) (by decide) (by decide)
theorem rs_20_31 {R : Nat → Nat → Nat → Option (Nat × Nat)} (h : RS R) : R 20 0 31 = some (46, 0) := h.2.2.2.2.2.2.2 31 (by decide) (by decide) (by decide) (by decide) (by decide) (by decide) (by decide)
end
