/-! @70.wp@ blocks, printed by program (wip/whole/gen/blk.py) -/
section BLK
variable {ns d x : Nat} {R : Nat → Nat → Nat → Option (Nat × Nat)} {Z A : Nat → Nat → Nat → Int32} {Y : Nat → Nat → Nat → Int64} {o : Int64} {c g : Nat → Int64} {G : Nat → Nat → Int32} {Q : pm_O × pm_M → Prop}
/-! 1 JobLayer.key -/
set_option maxRecDepth 20000 in
theorem b1_0 (hR : RS R) {v1 : Int32}   (k1 : v1 = nI 3 → pW ns d 1 11 [some (pm_r 0 0), some (pm_i v1)] [] (mm x R Z Y o A c G g) Q) (k2 : ¬ (v1 = nI 3) → pW ns d 1 5 [some (pm_r 0 0), some (pm_i v1)] [] (mm x R Z Y o A c G g) Q) : pW ns d 1 0 [some (pm_r 0 0), some (pm_i v1)] [] (mm x R Z Y o A c G g) Q := by
  exact pW_if 3 (c := v1 = nI 3) (fun call n => rfl) k1 k2
set_option maxRecDepth 20000 in
theorem b1_11 (hR : RS R) {v1 : Int32}  {x2 : Nat} {o2 : Int64} {A2 : Nat → Nat → Nat → Int32} {c2 : Nat → Int64} {G2 : Nat → Nat → Int32} {g2 : Nat → Int64}  (hE : pE ns d 129 [pm_r 3 0] (mm x R Z Y o A c G g) (.inl (none), (mm x2 R Z Y o2 A2 c2 G2 g2))) (k : pW ns d 1 18 [some (pm_r 0 0), some (pm_i v1)] [] (mm x2 R Z Y o2 A2 c2 G2 g2) Q) : pW ns d 1 11 [some (pm_r 0 0), some (pm_i v1)] [] (mm x R Z Y o A c G g) Q := by
  refine pW_eq 2 (pc' := 15) (L' := [some (pm_r 0 0), some (pm_i v1)]) (S' := [pm_r 3 0]) (M' := (mm x R Z Y o A c G g)) (fun call n => ?_) ?_
  · refine Eq.trans (b := pm_g (mm x R Z Y o A c G g) 0 0 (pm_go call ns d 1 n 15 [some (pm_r 0 0), some (pm_i v1)] [pm_a (R 0 0 2)] (mm x R Z Y o A c G g))) rfl ?_
    refine (g_ok (f := 0) (by decide) rfl).trans ?_
    exact (congrArg (fun z => pm_go call ns d 1 n 15 [some (pm_r 0 0), some (pm_i v1)] [pm_a z] (mm x R Z Y o A c G g)) (rs_0_2 hR))
  refine pW_call (pc' := 15) (r := []) (L' := [some (pm_r 0 0), some (pm_i v1)]) 1 (fun call n => ?_) hE k
  exact Eq.trans (b := pm_g (mm x R Z Y o A c G g) 3 0 (pm_cl call 1 (pm_go call ns d 1 n) 15 129 [pm_r 3 0] [] [some (pm_r 0 0), some (pm_i v1)] (mm x R Z Y o A c G g))) rfl (g_ok (f := 3) (by decide) rfl)
set_option maxRecDepth 20000 in
theorem b1_5 (hR : RS R) {v1 : Int32}   (k1 : v1 = nI 26 → pW ns d 1 11 [some (pm_r 0 0), some (pm_i v1)] [] (mm x R Z Y o A c G g) Q) (k2 : ¬ (v1 = nI 26) → pW ns d 1 43 [some (pm_r 0 0), some (pm_i v1)] [] (mm x R Z Y o A c G g) Q) : pW ns d 1 5 [some (pm_r 0 0), some (pm_i v1)] [] (mm x R Z Y o A c G g) Q := by
  exact pW_if 3 (c := v1 = nI 26) (fun call n => rfl) k1 k2
set_option maxRecDepth 20000 in
theorem b1_18 (hR : RS R) {v1 : Int32}   (k1 : v1 = nI 3 → pW ns d 1 31 [some (pm_r 0 0), some (pm_i v1)] [pm_i (A 3 0 5), pm_r 0 0] (mm x R Z Y o A c G g) Q) (k2 : ¬ (v1 = nI 3) → pW ns d 1 35 [some (pm_r 0 0), some (pm_i v1)] [pm_i (A 3 0 5), pm_r 0 0] (mm x R Z Y o A c G g) Q) : pW ns d 1 18 [some (pm_r 0 0), some (pm_i v1)] [] (mm x R Z Y o A c G g) Q := by
  refine pW_eq 3 (pc' := 23) (L' := [some (pm_r 0 0), some (pm_i v1)]) (S' := [pm_r 3 0, pm_r 0 0]) (M' := (mm x R Z Y o A c G g)) (fun call n => ?_) ?_
  · refine Eq.trans (b := pm_g (mm x R Z Y o A c G g) 0 0 (pm_go call ns d 1 n 23 [some (pm_r 0 0), some (pm_i v1)] [pm_a (R 0 0 2), pm_r 0 0] (mm x R Z Y o A c G g))) rfl ?_
    refine (g_ok (f := 0) (by decide) rfl).trans ?_
    exact (congrArg (fun z => pm_go call ns d 1 n 23 [some (pm_r 0 0), some (pm_i v1)] [pm_a z, pm_r 0 0] (mm x R Z Y o A c G g)) (rs_0_2 hR))
  refine pW_eq 1 (pc' := 26) (L' := [some (pm_r 0 0), some (pm_i v1)]) (S' := [pm_i (A 3 0 5), pm_r 0 0]) (M' := (mm x R Z Y o A c G g)) (fun call n => ?_) ?_
  · refine Eq.trans (b := pm_g (mm x R Z Y o A c G g) 3 0 (pm_go call ns d 1 n 26 [some (pm_r 0 0), some (pm_i v1)] [pm_i (A 3 0 5), pm_r 0 0] (mm x R Z Y o A c G g))) rfl ?_
    refine (g_ok (f := 3) (by decide) rfl).trans ?_
    rfl
  exact pW_if 3 (c := v1 = nI 3) (fun call n => rfl) k1 k2
set_option maxRecDepth 20000 in
theorem b1_43 (hR : RS R) {v1 : Int32}  {x2 : Nat} {o2 : Int64} {A2 : Nat → Nat → Nat → Int32} {c2 : Nat → Int64} {G2 : Nat → Nat → Int32} {g2 : Nat → Int64}  (hE : pE ns d 125 [pm_r 3 0, pm_i v1] (mm x R Z Y o A c G g) (.inl (none), (mm x2 R Z Y o2 A2 c2 G2 g2))) (k : pW ns d 1 51 [some (pm_r 0 0), some (pm_i v1)] [] (mm x2 R Z Y o2 A2 c2 G2 g2) Q) : pW ns d 1 43 [some (pm_r 0 0), some (pm_i v1)] [] (mm x R Z Y o A c G g) Q := by
  refine pW_eq 2 (pc' := 47) (L' := [some (pm_r 0 0), some (pm_i v1)]) (S' := [pm_r 3 0]) (M' := (mm x R Z Y o A c G g)) (fun call n => ?_) ?_
  · refine Eq.trans (b := pm_g (mm x R Z Y o A c G g) 0 0 (pm_go call ns d 1 n 47 [some (pm_r 0 0), some (pm_i v1)] [pm_a (R 0 0 2)] (mm x R Z Y o A c G g))) rfl ?_
    refine (g_ok (f := 0) (by decide) rfl).trans ?_
    exact (congrArg (fun z => pm_go call ns d 1 n 47 [some (pm_r 0 0), some (pm_i v1)] [pm_a z] (mm x R Z Y o A c G g)) (rs_0_2 hR))
  refine pW_call (pc' := 48) (r := []) (L' := [some (pm_r 0 0), some (pm_i v1)]) 2 (fun call n => ?_) hE k
  exact Eq.trans (b := pm_g (mm x R Z Y o A c G g) 3 0 (pm_cl call 1 (pm_go call ns d 1 n) 48 125 [pm_r 3 0, pm_i v1] [] [some (pm_r 0 0), some (pm_i v1)] (mm x R Z Y o A c G g))) rfl (g_ok (f := 3) (by decide) rfl)
set_option maxRecDepth 20000 in
theorem b1_31 (hR : RS R) {u1 : Option pm_V} {vs0 : Int32}  {x2 : Nat} {o2 : Int64} {A2 : Nat → Nat → Nat → Int32} {c2 : Nat → Int64} {G2 : Nat → Nat → Int32} {g2 : Nat → Int64} {y : Int32} (hE : pE ns d 32 [pm_r 0 0, pm_i vs0, pm_i (nI 1)] (mm x R Z Y o A c G g) (.inl (some (pm_i y)), (mm x2 R Z Y o2 A2 c2 G2 g2))) (k : pW ns d 1 39 [some (pm_r 0 0), u1] [pm_i y] (mm x2 R Z Y o2 A2 c2 G2 g2) Q) : pW ns d 1 31 [some (pm_r 0 0), u1] [pm_i vs0, pm_r 0 0] (mm x R Z Y o A c G g) Q := by
  refine pW_call (pc' := 36) (r := []) (L' := [some (pm_r 0 0), u1]) 3 (fun call n => ?_) hE k
  exact Eq.trans (b := pm_g (mm x R Z Y o A c G g) 0 0 (pm_cl call 1 (pm_go call ns d 1 n) 36 32 [pm_r 0 0, pm_i vs0, pm_i (nI 1)] [] [some (pm_r 0 0), u1] (mm x R Z Y o A c G g))) rfl (g_ok (f := 0) (by decide) rfl)
set_option maxRecDepth 20000 in
theorem b1_35 (hR : RS R) {u1 : Option pm_V} {vs0 : Int32}  {x2 : Nat} {o2 : Int64} {A2 : Nat → Nat → Nat → Int32} {c2 : Nat → Int64} {G2 : Nat → Nat → Int32} {g2 : Nat → Int64} {y : Int32} (hE : pE ns d 32 [pm_r 0 0, pm_i vs0, pm_i (nI 4)] (mm x R Z Y o A c G g) (.inl (some (pm_i y)), (mm x2 R Z Y o2 A2 c2 G2 g2))) (k : pW ns d 1 39 [some (pm_r 0 0), u1] [pm_i y] (mm x2 R Z Y o2 A2 c2 G2 g2) Q) : pW ns d 1 35 [some (pm_r 0 0), u1] [pm_i vs0, pm_r 0 0] (mm x R Z Y o A c G g) Q := by
  refine pW_call (pc' := 36) (r := []) (L' := [some (pm_r 0 0), u1]) 2 (fun call n => ?_) hE k
  exact Eq.trans (b := pm_g (mm x R Z Y o A c G g) 0 0 (pm_cl call 1 (pm_go call ns d 1 n) 36 32 [pm_r 0 0, pm_i vs0, pm_i (nI 4)] [] [some (pm_r 0 0), u1] (mm x R Z Y o A c G g))) rfl (g_ok (f := 0) (by decide) rfl)
set_option maxRecDepth 20000 in
theorem b1_51 (hR : RS R) {u1 : Option pm_V}  {x2 : Nat} {o2 : Int64} {A2 : Nat → Nat → Nat → Int32} {c2 : Nat → Int64} {G2 : Nat → Nat → Int32} {g2 : Nat → Int64}  (hE : pE ns d 37 [pm_r 0 0] (mm x R Z Y o A c G g) (.inl (none), (mm x2 R Z Y o2 A2 c2 G2 g2))) (k : pW ns d 1 55 [some (pm_r 0 0), u1] [] (mm x2 R Z Y o2 A2 c2 G2 g2) Q) : pW ns d 1 51 [some (pm_r 0 0), u1] [] (mm x R Z Y o A c G g) Q := by
  refine pW_call (pc' := 52) (r := []) (L' := [some (pm_r 0 0), u1]) 2 (fun call n => ?_) hE k
  exact Eq.trans (b := pm_g (mm x R Z Y o A c G g) 0 0 (pm_cl call 1 (pm_go call ns d 1 n) 52 37 [pm_r 0 0] [] [some (pm_r 0 0), u1] (mm x R Z Y o A c G g))) rfl (g_ok (f := 0) (by decide) rfl)
set_option maxRecDepth 20000 in
theorem b1_39 (hR : RS R) {u1 : Option pm_V} {vs0 : Int32}  {x2 : Nat} {o2 : Int64} {A2 : Nat → Nat → Nat → Int32} {c2 : Nat → Int64} {G2 : Nat → Nat → Int32} {g2 : Nat → Int64}  (hE : pE ns d 37 [pm_r 0 0] (mm x R Z Y o A c G g) (.inl (none), (mm x2 R Z Y o2 A2 c2 G2 g2))) (k : pW ns d 1 55 [some (pm_r 0 0), u1] [] (mm x2 R Z Y o2 A2 c2 G2 g2) Q) : pW ns d 1 39 [some (pm_r 0 0), u1] [pm_i vs0] (mm x R Z Y o A c G g) Q := by
  refine pW_call (pc' := 52) (r := []) (L' := [some (pm_r 0 0), u1]) 4 (fun call n => ?_) hE k
  exact Eq.trans (b := pm_g (mm x R Z Y o A c G g) 0 0 (pm_cl call 1 (pm_go call ns d 1 n) 52 37 [pm_r 0 0] [] [some (pm_r 0 0), u1] (mm x R Z Y o A c G g))) rfl (g_ok (f := 0) (by decide) rfl)
set_option maxRecDepth 20000 in
theorem b1_55 (hR : RS R) {u0 : Option pm_V} {u1 : Option pm_V}   (k : Q (.inl none, (mm x R Z Y o A c G g))) : pW ns d 1 55 [u0, u1] [] (mm x R Z Y o A c G g) Q := by
  refine pW_ret 1 (fun call n => ?_) k
  rfl
set_option maxRecDepth 20000 in
theorem t1_0 (hR : RS R) {v1 : Int32}  (k1 : (v1 = nI 3) → pW ns d 1 11 [some (pm_r 0 0), some (pm_i v1)] [] (mm x R Z Y o A c G g) Q) (k2 : (¬ (v1 = nI 3)) → (v1 = nI 26) → pW ns d 1 11 [some (pm_r 0 0), some (pm_i v1)] [] (mm x R Z Y o A c G g) Q) (k3 : (¬ (v1 = nI 3)) → (¬ (v1 = nI 26)) → pW ns d 1 43 [some (pm_r 0 0), some (pm_i v1)] [] (mm x R Z Y o A c G g) Q) : pW ns d 1 0 [some (pm_r 0 0), some (pm_i v1)] [] (mm x R Z Y o A c G g) Q := by
  refine b1_0 hR  (fun h1 => ?_) (fun h1 => ?_)
  · skip
    exact (k1 h1)
  · skip
    refine b1_5 hR   (fun h2 => ?_) (fun h2 => ?_)
    · skip
      exact (k2 h1 h2)
    · skip
      exact (k3 h1 h2)
set_option maxRecDepth 20000 in
theorem t1_5 (hR : RS R) {v1 : Int32}  (k1 : (v1 = nI 26) → pW ns d 1 11 [some (pm_r 0 0), some (pm_i v1)] [] (mm x R Z Y o A c G g) Q) (k2 : (¬ (v1 = nI 26)) → pW ns d 1 43 [some (pm_r 0 0), some (pm_i v1)] [] (mm x R Z Y o A c G g) Q) : pW ns d 1 5 [some (pm_r 0 0), some (pm_i v1)] [] (mm x R Z Y o A c G g) Q := by
  refine b1_5 hR  (fun h1 => ?_) (fun h1 => ?_)
  · skip
    exact (k1 h1)
  · skip
    exact (k2 h1)
set_option maxRecDepth 20000 in
theorem t1_18 (hR : RS R) {v1 : Int32}  (k1 : (v1 = nI 3) → pW ns d 1 31 [some (pm_r 0 0), some (pm_i v1)] [pm_i (A 3 0 5), pm_r 0 0] (mm x R Z Y o A c G g) Q) (k2 : (¬ (v1 = nI 3)) → pW ns d 1 35 [some (pm_r 0 0), some (pm_i v1)] [pm_i (A 3 0 5), pm_r 0 0] (mm x R Z Y o A c G g) Q) : pW ns d 1 18 [some (pm_r 0 0), some (pm_i v1)] [] (mm x R Z Y o A c G g) Q := by
  refine b1_18 hR  (fun h1 => ?_) (fun h1 => ?_)
  · skip
    exact (k1 h1)
  · skip
    exact (k2 h1)
/-! 2 JobLayer.fork -/
set_option maxRecDepth 20000 in
theorem b2_0 (hR : RS R) {v1 : Int32} {u2 : Option pm_V} {u3 : Option pm_V}  {x2 : Nat} {o2 : Int64} {A2 : Nat → Nat → Nat → Int32} {c2 : Nat → Int64} {G2 : Nat → Nat → Int32} {g2 : Nat → Int64} {j : Nat} (hE : pE ns d 23 [pm_r 0 0, pm_i v1] (mm x R Z Y o A c G g) (.inl (some (pm_r 8 j)), (mm x2 R Z Y o2 A2 c2 G2 g2))) (k : pW ns d 2 5 [some (pm_r 0 0), some (pm_i v1), u2, u3] [pm_r 8 j] (mm x2 R Z Y o2 A2 c2 G2 g2) Q) : pW ns d 2 0 [some (pm_r 0 0), some (pm_i v1), u2, u3] [] (mm x R Z Y o A c G g) Q := by
  refine pW_call (pc' := 2) (r := []) (L' := [some (pm_r 0 0), some (pm_i v1), u2, u3]) 3 (fun call n => ?_) hE k
  exact Eq.trans (b := pm_g (mm x R Z Y o A c G g) 0 0 (pm_cl call 2 (pm_go call ns d 2 n) 2 23 [pm_r 0 0, pm_i v1] [] [some (pm_r 0 0), some (pm_i v1), u2, u3] (mm x R Z Y o A c G g))) rfl (g_ok (f := 0) (by decide) rfl)
set_option maxRecDepth 20000 in
theorem b2_0x (hR : RS R) {v1 : Int32} {u2 : Option pm_V} {u3 : Option pm_V}  {x2 : Nat} {o2 : Int64} {A2 : Nat → Nat → Nat → Int32} {c2 : Nat → Int64} {G2 : Nat → Nat → Int32} {g2 : Nat → Int64} {e : Nat} (hE : pE ns d 23 [pm_r 0 0, pm_i v1] (mm x R Z Y o A c G g) (.inr e, (mm x2 R Z Y o2 A2 c2 G2 g2))) (k : Q (.inr e, (mm x2 R Z Y o2 A2 c2 G2 g2))) : pW ns d 2 0 [some (pm_r 0 0), some (pm_i v1), u2, u3] [] (mm x R Z Y o A c G g) Q := by
  refine pW_callx (pc' := 2) (r := []) (L' := [some (pm_r 0 0), some (pm_i v1), u2, u3]) 3 (fun call n => ?_) hE ⟨rfl, rfl⟩ k
  exact Eq.trans (b := pm_g (mm x R Z Y o A c G g) 0 0 (pm_cl call 2 (pm_go call ns d 2 n) 2 23 [pm_r 0 0, pm_i v1] [] [some (pm_r 0 0), some (pm_i v1), u2, u3] (mm x R Z Y o A c G g))) rfl (g_ok (f := 0) (by decide) rfl)
set_option maxRecDepth 20000 in
theorem b2_5 (hR : RS R) {v1 : Int32} {u2 : Option pm_V} {u3 : Option pm_V} {is0 : Nat} (qs0 : is0 < 8)  (k : pW ns d 2 8 [some (pm_r 0 0), some (pm_i v1), some (pm_r 8 is0), some (pm_i (nI 0))] [] (mm x R Z Y o A c G g) Q) : pW ns d 2 5 [some (pm_r 0 0), some (pm_i v1), u2, u3] [pm_r 8 is0] (mm x R Z Y o A c G g) Q := by
  exact pW_eq 3 (fun call n => rfl) k
set_option maxRecDepth 20000 in
theorem b2_8 (hR : RS R) {u1 : Option pm_V} {i2 : Nat} {v3 : Int32} (q2 : i2 < 8)  (k1 : nI 8 ≤ v3 → pW ns d 2 48 [some (pm_r 0 0), u1, some (pm_r 8 i2), some (pm_i v3)] [] (mm x R Z Y o A c G g) Q) (k2 : ¬ (nI 8 ≤ v3) → pW ns d 2 14 [some (pm_r 0 0), u1, some (pm_r 8 i2), some (pm_i v3)] [] (mm x R Z Y o A c G g) Q) : pW ns d 2 8 [some (pm_r 0 0), u1, some (pm_r 8 i2), some (pm_i v3)] [] (mm x R Z Y o A c G g) Q := by
  exact pW_if 3 (c := nI 8 ≤ v3) (fun call n => rfl) k1 k2
set_option maxRecDepth 20000 in
theorem b2_48 (hR : RS R) {u0 : Option pm_V} {u1 : Option pm_V} {u2 : Option pm_V} {u3 : Option pm_V}   (k : Q (.inl (some (pm_i (-nI 2))), (mm x R Z Y o A c G g))) : pW ns d 2 48 [u0, u1, u2, u3] [] (mm x R Z Y o A c G g) Q := by
  refine pW_ret 2 (fun call n => ?_) k
  rfl
set_option maxRecDepth 20000 in
theorem b2_14 (hR : RS R) {u1 : Option pm_V} {i2 : Nat} {v3 : Int32} {j1 : Nat} (q2 : i2 < 8) (e1 : v3 = nI j1) (l1 : j1 < 8)  (k1 : A 8 j1 6 = 0 → pW ns d 2 26 [some (pm_r 0 0), u1, some (pm_r 8 i2), some (pm_i v3)] [] (mm x R Z Y o A c G g) Q) (k2 : ¬ (A 8 j1 6 = 0) → pW ns d 2 42 [some (pm_r 0 0), u1, some (pm_r 8 i2), some (pm_i v3)] [] (mm x R Z Y o A c G g) Q) : pW ns d 2 14 [some (pm_r 0 0), u1, some (pm_r 8 i2), some (pm_i v3)] [] (mm x R Z Y o A c G g) Q := by
  refine pW_eq 2 (pc' := 18) (L' := [some (pm_r 0 0), u1, some (pm_r 8 i2), some (pm_i v3)]) (S' := [pm_r 1 0]) (M' := (mm x R Z Y o A c G g)) (fun call n => ?_) ?_
  · refine Eq.trans (b := pm_g (mm x R Z Y o A c G g) 0 0 (pm_go call ns d 2 n 18 [some (pm_r 0 0), u1, some (pm_r 8 i2), some (pm_i v3)] [pm_a (R 0 0 0)] (mm x R Z Y o A c G g))) rfl ?_
    refine (g_ok (f := 0) (by decide) rfl).trans ?_
    exact (congrArg (fun z => pm_go call ns d 2 n 18 [some (pm_r 0 0), u1, some (pm_r 8 i2), some (pm_i v3)] [pm_a z] (mm x R Z Y o A c G g)) (rs_0_0 hR))
  refine pW_eq 2 (pc' := 20) (L' := [some (pm_r 0 0), u1, some (pm_r 8 i2), some (pm_i v3)]) (S' := [pm_r 8 j1]) (M' := (mm x R Z Y o A c G g)) (fun call n => ?_) ?_
  · refine Eq.trans (b := pm_g (mm x R Z Y o A c G g) 1 0 (pm_ix (v3) 8 (fun jx => pm_go call ns d 2 n 20 [some (pm_r 0 0), u1, some (pm_r 8 i2), some (pm_i v3)] [pm_a (R 1 0 jx)] (mm x R Z Y o A c G g)))) rfl ?_
    refine (g_ok (f := 1) (by decide) rfl).trans ?_
    refine (ix_ok (j := j1) e1 l1 (by decide)).trans ?_
    exact (congrArg (fun z => pm_go call ns d 2 n 20 [some (pm_r 0 0), u1, some (pm_r 8 i2), some (pm_i v3)] [pm_a z] (mm x R Z Y o A c G g)) (rs_1 hR (k := j1) l1))
  refine pW_eq 1 (pc' := 23) (L' := [some (pm_r 0 0), u1, some (pm_r 8 i2), some (pm_i v3)]) (S' := [pm_i (A 8 j1 6)]) (M' := (mm x R Z Y o A c G g)) (fun call n => ?_) ?_
  · refine Eq.trans (b := pm_g (mm x R Z Y o A c G g) 8 j1 (pm_go call ns d 2 n 23 [some (pm_r 0 0), u1, some (pm_r 8 i2), some (pm_i v3)] [pm_i (A 8 j1 6)] (mm x R Z Y o A c G g))) rfl ?_
    refine (g_ok (f := 8) l1 rfl).trans ?_
    rfl
  exact pW_if 1 (c := A 8 j1 6 = 0) (fun call n => rfl) k1 k2
set_option maxRecDepth 20000 in
theorem b2_26 (hR : RS R) {u1 : Option pm_V} {i2 : Nat} {v3 : Int32} {j1 : Nat} (q2 : i2 < 8) (e1 : v3 = nI j1) (l1 : j1 < 8) {x2 : Nat} {o2 : Int64} {A2 : Nat → Nat → Nat → Int32} {c2 : Nat → Int64} {G2 : Nat → Nat → Int32} {g2 : Nat → Int64}  (hE : pE ns d 110 [pm_r 8 j1, pm_r 8 i2] (mm x R Z Y o A c G g) (.inl (none), (mm x2 R Z Y o2 A2 c2 G2 g2))) (k : pW ns d 2 36 [some (pm_r 0 0), u1, some (pm_r 8 i2), some (pm_i v3)] [] (mm x2 R Z Y o2 A2 c2 G2 g2) Q) : pW ns d 2 26 [some (pm_r 0 0), u1, some (pm_r 8 i2), some (pm_i v3)] [] (mm x R Z Y o A c G g) Q := by
  refine pW_eq 2 (pc' := 30) (L' := [some (pm_r 0 0), u1, some (pm_r 8 i2), some (pm_i v3)]) (S' := [pm_r 1 0]) (M' := (mm x R Z Y o A c G g)) (fun call n => ?_) ?_
  · refine Eq.trans (b := pm_g (mm x R Z Y o A c G g) 0 0 (pm_go call ns d 2 n 30 [some (pm_r 0 0), u1, some (pm_r 8 i2), some (pm_i v3)] [pm_a (R 0 0 0)] (mm x R Z Y o A c G g))) rfl ?_
    refine (g_ok (f := 0) (by decide) rfl).trans ?_
    exact (congrArg (fun z => pm_go call ns d 2 n 30 [some (pm_r 0 0), u1, some (pm_r 8 i2), some (pm_i v3)] [pm_a z] (mm x R Z Y o A c G g)) (rs_0_0 hR))
  refine pW_eq 2 (pc' := 32) (L' := [some (pm_r 0 0), u1, some (pm_r 8 i2), some (pm_i v3)]) (S' := [pm_r 8 j1]) (M' := (mm x R Z Y o A c G g)) (fun call n => ?_) ?_
  · refine Eq.trans (b := pm_g (mm x R Z Y o A c G g) 1 0 (pm_ix (v3) 8 (fun jx => pm_go call ns d 2 n 32 [some (pm_r 0 0), u1, some (pm_r 8 i2), some (pm_i v3)] [pm_a (R 1 0 jx)] (mm x R Z Y o A c G g)))) rfl ?_
    refine (g_ok (f := 1) (by decide) rfl).trans ?_
    refine (ix_ok (j := j1) e1 l1 (by decide)).trans ?_
    exact (congrArg (fun z => pm_go call ns d 2 n 32 [some (pm_r 0 0), u1, some (pm_r 8 i2), some (pm_i v3)] [pm_a z] (mm x R Z Y o A c G g)) (rs_1 hR (k := j1) l1))
  refine pW_call (pc' := 33) (r := []) (L' := [some (pm_r 0 0), u1, some (pm_r 8 i2), some (pm_i v3)]) 2 (fun call n => ?_) hE k
  exact Eq.trans (b := pm_g (mm x R Z Y o A c G g) 8 j1 (pm_cl call 2 (pm_go call ns d 2 n) 33 110 [pm_r 8 j1, pm_r 8 i2] [] [some (pm_r 0 0), u1, some (pm_r 8 i2), some (pm_i v3)] (mm x R Z Y o A c G g))) rfl (g_ok (f := 8) l1 rfl)
set_option maxRecDepth 20000 in
theorem b2_42 (hR : RS R) {u1 : Option pm_V} {i2 : Nat} {v3 : Int32} (q2 : i2 < 8)  (k : pW ns d 2 8 [some (pm_r 0 0), u1, some (pm_r 8 i2), some (pm_i (v3 + (nI 1)))] [] (mm x R Z Y o A c G g) Q) : pW ns d 2 42 [some (pm_r 0 0), u1, some (pm_r 8 i2), some (pm_i v3)] [] (mm x R Z Y o A c G g) Q := by
  exact pW_eq 2 (fun call n => rfl) k
set_option maxRecDepth 20000 in
theorem b2_36 (hR : RS R) {u1 : Option pm_V} {u2 : Option pm_V} {v3 : Int32}  {x2 : Nat} {o2 : Int64} {A2 : Nat → Nat → Nat → Int32} {c2 : Nat → Int64} {G2 : Nat → Nat → Int32} {g2 : Nat → Int64}  (hE : pE ns d 37 [pm_r 0 0] (mm x R Z Y o A c G g) (.inl (none), (mm x2 R Z Y o2 A2 c2 G2 g2))) (k : pW ns d 2 40 [some (pm_r 0 0), u1, u2, some (pm_i v3)] [] (mm x2 R Z Y o2 A2 c2 G2 g2) Q) : pW ns d 2 36 [some (pm_r 0 0), u1, u2, some (pm_i v3)] [] (mm x R Z Y o A c G g) Q := by
  refine pW_call (pc' := 37) (r := []) (L' := [some (pm_r 0 0), u1, u2, some (pm_i v3)]) 2 (fun call n => ?_) hE k
  exact Eq.trans (b := pm_g (mm x R Z Y o A c G g) 0 0 (pm_cl call 2 (pm_go call ns d 2 n) 37 37 [pm_r 0 0] [] [some (pm_r 0 0), u1, u2, some (pm_i v3)] (mm x R Z Y o A c G g))) rfl (g_ok (f := 0) (by decide) rfl)
set_option maxRecDepth 20000 in
theorem b2_40 (hR : RS R) {u0 : Option pm_V} {u1 : Option pm_V} {u2 : Option pm_V} {v3 : Int32}   (k : Q (.inl (some (pm_i v3)), (mm x R Z Y o A c G g))) : pW ns d 2 40 [u0, u1, u2, some (pm_i v3)] [] (mm x R Z Y o A c G g) Q := by
  refine pW_ret 2 (fun call n => ?_) k
  rfl
set_option maxRecDepth 20000 in
theorem t2_8 (hR : RS R) {u1 : Option pm_V} {i2 : Nat} {v3 : Int32} (q2 : i2 < 8) (k1 : (nI 8 ≤ v3) → Q (.inl (some (pm_i (-nI 2))), (mm x R Z Y o A c G g))) (k2 : (¬ (nI 8 ≤ v3)) → pW ns d 2 14 [some (pm_r 0 0), u1, some (pm_r 8 i2), some (pm_i v3)] [] (mm x R Z Y o A c G g) Q) : pW ns d 2 8 [some (pm_r 0 0), u1, some (pm_r 8 i2), some (pm_i v3)] [] (mm x R Z Y o A c G g) Q := by
  refine b2_8 hR q2 (fun h1 => ?_) (fun h1 => ?_)
  · skip
    exact b2_48 hR   (k1 h1)
  · skip
    exact (k2 h1)
set_option maxRecDepth 20000 in
theorem t2_14 (hR : RS R) {u1 : Option pm_V} {i2 : Nat} {v3 : Int32} {j1 : Nat} (q2 : i2 < 8) (e1 : v3 = nI j1) (l1 : j1 < 8) (k1 : (A 8 j1 6 = 0) → pW ns d 2 26 [some (pm_r 0 0), u1, some (pm_r 8 i2), some (pm_i v3)] [] (mm x R Z Y o A c G g) Q) (k2 : (¬ (A 8 j1 6 = 0)) → pW ns d 2 8 [some (pm_r 0 0), u1, some (pm_r 8 i2), some (pm_i (v3 + (nI 1)))] [] (mm x R Z Y o A c G g) Q) : pW ns d 2 14 [some (pm_r 0 0), u1, some (pm_r 8 i2), some (pm_i v3)] [] (mm x R Z Y o A c G g) Q := by
  refine b2_14 hR q2 e1 l1 (fun h1 => ?_) (fun h1 => ?_)
  · skip
    exact (k1 h1)
  · skip
    exact b2_42 hR q2  (k2 h1)
/-! 3 JobLayer.end -/
set_option maxRecDepth 20000 in
theorem b3_0 (hR : RS R) {v1 : Int32} {v2 : Int32} {u3 : Option pm_V} {u4 : Option pm_V}  {x2 : Nat} {o2 : Int64} {A2 : Nat → Nat → Nat → Int32} {c2 : Nat → Int64} {G2 : Nat → Nat → Int32} {g2 : Nat → Int64} {j : Nat} (hE : pE ns d 23 [pm_r 0 0, pm_i v1] (mm x R Z Y o A c G g) (.inl (some (pm_r 8 j)), (mm x2 R Z Y o2 A2 c2 G2 g2))) (k : pW ns d 3 5 [some (pm_r 0 0), some (pm_i v1), some (pm_i v2), u3, u4] [pm_r 8 j] (mm x2 R Z Y o2 A2 c2 G2 g2) Q) : pW ns d 3 0 [some (pm_r 0 0), some (pm_i v1), some (pm_i v2), u3, u4] [] (mm x R Z Y o A c G g) Q := by
  refine pW_call (pc' := 2) (r := []) (L' := [some (pm_r 0 0), some (pm_i v1), some (pm_i v2), u3, u4]) 3 (fun call n => ?_) hE k
  exact Eq.trans (b := pm_g (mm x R Z Y o A c G g) 0 0 (pm_cl call 3 (pm_go call ns d 3 n) 2 23 [pm_r 0 0, pm_i v1] [] [some (pm_r 0 0), some (pm_i v1), some (pm_i v2), u3, u4] (mm x R Z Y o A c G g))) rfl (g_ok (f := 0) (by decide) rfl)
set_option maxRecDepth 20000 in
theorem b3_0x (hR : RS R) {v1 : Int32} {v2 : Int32} {u3 : Option pm_V} {u4 : Option pm_V}  {x2 : Nat} {o2 : Int64} {A2 : Nat → Nat → Nat → Int32} {c2 : Nat → Int64} {G2 : Nat → Nat → Int32} {g2 : Nat → Int64} {e : Nat} (hE : pE ns d 23 [pm_r 0 0, pm_i v1] (mm x R Z Y o A c G g) (.inr e, (mm x2 R Z Y o2 A2 c2 G2 g2))) (k : Q (.inr e, (mm x2 R Z Y o2 A2 c2 G2 g2))) : pW ns d 3 0 [some (pm_r 0 0), some (pm_i v1), some (pm_i v2), u3, u4] [] (mm x R Z Y o A c G g) Q := by
  refine pW_callx (pc' := 2) (r := []) (L' := [some (pm_r 0 0), some (pm_i v1), some (pm_i v2), u3, u4]) 3 (fun call n => ?_) hE ⟨rfl, rfl⟩ k
  exact Eq.trans (b := pm_g (mm x R Z Y o A c G g) 0 0 (pm_cl call 3 (pm_go call ns d 3 n) 2 23 [pm_r 0 0, pm_i v1] [] [some (pm_r 0 0), some (pm_i v1), some (pm_i v2), u3, u4] (mm x R Z Y o A c G g))) rfl (g_ok (f := 0) (by decide) rfl)
set_option maxRecDepth 20000 in
theorem b3_5 (hR : RS R) {u1 : Option pm_V} {v2 : Int32} {u3 : Option pm_V} {u4 : Option pm_V} {is0 : Nat} (qs0 : is0 < 8)  (k1 : A 8 is0 0 = 0 → pW ns d 3 13 [some (pm_r 0 0), u1, some (pm_i v2), some (pm_r 8 is0), u4] [] (mm x R Z Y o A c G g) Q) (k2 : ¬ (A 8 is0 0 = 0) → pW ns d 3 16 [some (pm_r 0 0), u1, some (pm_i v2), some (pm_r 8 is0), u4] [] (mm x R Z Y o A c G g) Q) : pW ns d 3 5 [some (pm_r 0 0), u1, some (pm_i v2), u3, u4] [pm_r 8 is0] (mm x R Z Y o A c G g) Q := by
  refine pW_eq 3 (pc' := 10) (L' := [some (pm_r 0 0), u1, some (pm_i v2), some (pm_r 8 is0), u4]) (S' := [pm_i (A 8 is0 0)]) (M' := (mm x R Z Y o A c G g)) (fun call n => ?_) ?_
  · refine Eq.trans (b := pm_g (mm x R Z Y o A c G g) 8 is0 (pm_go call ns d 3 n 10 [some (pm_r 0 0), u1, some (pm_i v2), some (pm_r 8 is0), u4] [pm_i (A 8 is0 0)] (mm x R Z Y o A c G g))) rfl ?_
    refine (g_ok (f := 8) qs0 rfl).trans ?_
    rfl
  exact pW_if 1 (c := A 8 is0 0 = 0) (fun call n => rfl) k1 k2
set_option maxRecDepth 20000 in
theorem b3_13 (hR : RS R) {u0 : Option pm_V} {u1 : Option pm_V} {u2 : Option pm_V} {u3 : Option pm_V} {u4 : Option pm_V}   (k : Q (.inl (some (pm_i (-nI 7))), (mm x R Z Y o A c G g))) : pW ns d 3 13 [u0, u1, u2, u3, u4] [] (mm x R Z Y o A c G g) Q := by
  refine pW_ret 2 (fun call n => ?_) k
  rfl
set_option maxRecDepth 20000 in
theorem b3_16 (hR : RS R) {u1 : Option pm_V} {v2 : Int32} {i3 : Nat} {u4 : Option pm_V} (q3 : i3 < 8) {x2 : Nat} {o2 : Int64} {A2 : Nat → Nat → Nat → Int32} {c2 : Nat → Int64} {G2 : Nat → Nat → Int32} {g2 : Nat → Int64} {j : Nat} (hE : pE ns d 35 [pm_r 0 0, pm_r 8 i3, pm_i (v2 &&& (nI 63))] (mm x R Z Y o A c G g) (.inl (some (pm_r 8 j)), (mm x2 R Z Y o2 A2 c2 G2 g2))) (k : pW ns d 3 25 [some (pm_r 0 0), u1, some (pm_i v2), some (pm_r 8 i3), u4] [pm_r 8 j] (mm x2 R Z Y o2 A2 c2 G2 g2) Q) : pW ns d 3 16 [some (pm_r 0 0), u1, some (pm_i v2), some (pm_r 8 i3), u4] [] (mm x R Z Y o A c G g) Q := by
  refine pW_call (pc' := 22) (r := []) (L' := [some (pm_r 0 0), u1, some (pm_i v2), some (pm_r 8 i3), u4]) 6 (fun call n => ?_) hE k
  exact Eq.trans (b := pm_g (mm x R Z Y o A c G g) 0 0 (pm_cl call 3 (pm_go call ns d 3 n) 22 35 [pm_r 0 0, pm_r 8 i3, pm_i (v2 &&& (nI 63))] [] [some (pm_r 0 0), u1, some (pm_i v2), some (pm_r 8 i3), u4] (mm x R Z Y o A c G g))) rfl (g_ok (f := 0) (by decide) rfl)
set_option maxRecDepth 20000 in
theorem b3_16n (hR : RS R) {u1 : Option pm_V} {v2 : Int32} {i3 : Nat} {u4 : Option pm_V} (q3 : i3 < 8) {x2 : Nat} {o2 : Int64} {A2 : Nat → Nat → Nat → Int32} {c2 : Nat → Int64} {G2 : Nat → Nat → Int32} {g2 : Nat → Int64}  (hE : pE ns d 35 [pm_r 0 0, pm_r 8 i3, pm_i (v2 &&& (nI 63))] (mm x R Z Y o A c G g) (.inl (some (pm_a none)), (mm x2 R Z Y o2 A2 c2 G2 g2))) (k : pW ns d 3 25 [some (pm_r 0 0), u1, some (pm_i v2), some (pm_r 8 i3), u4] [pm_a none] (mm x2 R Z Y o2 A2 c2 G2 g2) Q) : pW ns d 3 16 [some (pm_r 0 0), u1, some (pm_i v2), some (pm_r 8 i3), u4] [] (mm x R Z Y o A c G g) Q := by
  refine pW_call (pc' := 22) (r := []) (L' := [some (pm_r 0 0), u1, some (pm_i v2), some (pm_r 8 i3), u4]) 6 (fun call n => ?_) hE k
  exact Eq.trans (b := pm_g (mm x R Z Y o A c G g) 0 0 (pm_cl call 3 (pm_go call ns d 3 n) 22 35 [pm_r 0 0, pm_r 8 i3, pm_i (v2 &&& (nI 63))] [] [some (pm_r 0 0), u1, some (pm_i v2), some (pm_r 8 i3), u4] (mm x R Z Y o A c G g))) rfl (g_ok (f := 0) (by decide) rfl)
set_option maxRecDepth 20000 in
theorem b3_25 (hR : RS R) {u1 : Option pm_V} {u2 : Option pm_V} {i3 : Nat} {u4 : Option pm_V} {is0 : Nat} (q3 : i3 < 8) (qs0 : is0 < 8) {x2 : Nat} {o2 : Int64} {A2 : Nat → Nat → Nat → Int32} {c2 : Nat → Int64} {G2 : Nat → Nat → Int32} {g2 : Nat → Int64} {y : Int32} (hE : pE ns d 33 [pm_r 0 0, pm_r 8 is0, pm_i (nI 7)] (mm x R Z Y o A c G g) (.inl (some (pm_i y)), (mm x2 R Z Y o2 A2 c2 G2 g2))) (k : pW ns d 3 35 [some (pm_r 0 0), u1, u2, some (pm_r 8 i3), some (pm_r 8 is0)] [pm_i y] (mm x2 R Z Y o2 A2 c2 G2 g2) Q) : pW ns d 3 25 [some (pm_r 0 0), u1, u2, some (pm_r 8 i3), u4] [pm_r 8 is0] (mm x R Z Y o A c G g) Q := by
  refine pW_call (pc' := 32) (r := []) (L' := [some (pm_r 0 0), u1, u2, some (pm_r 8 i3), some (pm_r 8 is0)]) 5 (fun call n => ?_) hE k
  exact Eq.trans (b := pm_g (mm x R Z Y o A c G g) 0 0 (pm_cl call 3 (pm_go call ns d 3 n) 32 33 [pm_r 0 0, pm_r 8 is0, pm_i (nI 7)] [] [some (pm_r 0 0), u1, u2, some (pm_r 8 i3), some (pm_r 8 is0)] (mm x R Z Y o A c G g))) rfl (g_ok (f := 0) (by decide) rfl)
set_option maxRecDepth 20000 in
theorem b3_25a (hR : RS R) {u1 : Option pm_V} {u2 : Option pm_V} {i3 : Nat} {u4 : Option pm_V} (q3 : i3 < 8) {x2 : Nat} {o2 : Int64} {A2 : Nat → Nat → Nat → Int32} {c2 : Nat → Int64} {G2 : Nat → Nat → Int32} {g2 : Nat → Int64} {y : Int32} (hE : pE ns d 33 [pm_r 0 0, pm_a none, pm_i (nI 7)] (mm x R Z Y o A c G g) (.inl (some (pm_i y)), (mm x2 R Z Y o2 A2 c2 G2 g2))) (k : pW ns d 3 35 [some (pm_r 0 0), u1, u2, some (pm_r 8 i3), some (pm_a none)] [pm_i y] (mm x2 R Z Y o2 A2 c2 G2 g2) Q) : pW ns d 3 25 [some (pm_r 0 0), u1, u2, some (pm_r 8 i3), u4] [pm_a none] (mm x R Z Y o A c G g) Q := by
  refine pW_call (pc' := 32) (r := []) (L' := [some (pm_r 0 0), u1, u2, some (pm_r 8 i3), some (pm_a none)]) 5 (fun call n => ?_) hE k
  exact Eq.trans (b := pm_g (mm x R Z Y o A c G g) 0 0 (pm_cl call 3 (pm_go call ns d 3 n) 32 33 [pm_r 0 0, pm_a none, pm_i (nI 7)] [] [some (pm_r 0 0), u1, u2, some (pm_r 8 i3), some (pm_a none)] (mm x R Z Y o A c G g))) rfl (g_ok (f := 0) (by decide) rfl)
set_option maxRecDepth 20000 in
theorem b3_35 (hR : RS R) {u1 : Option pm_V} {u2 : Option pm_V} {u3 : Option pm_V} {u4 : Option pm_V} {vs0 : Int32}  {x2 : Nat} {o2 : Int64} {A2 : Nat → Nat → Nat → Int32} {c2 : Nat → Int64} {G2 : Nat → Nat → Int32} {g2 : Nat → Int64}  (hE : pE ns d 37 [pm_r 0 0] (mm x R Z Y o A c G g) (.inl (none), (mm x2 R Z Y o2 A2 c2 G2 g2))) (k : pW ns d 3 40 [some (pm_r 0 0), u1, u2, u3, u4] [] (mm x2 R Z Y o2 A2 c2 G2 g2) Q) : pW ns d 3 35 [some (pm_r 0 0), u1, u2, u3, u4] [pm_i vs0] (mm x R Z Y o A c G g) Q := by
  refine pW_call (pc' := 37) (r := []) (L' := [some (pm_r 0 0), u1, u2, u3, u4]) 3 (fun call n => ?_) hE k
  exact Eq.trans (b := pm_g (mm x R Z Y o A c G g) 0 0 (pm_cl call 3 (pm_go call ns d 3 n) 37 37 [pm_r 0 0] [] [some (pm_r 0 0), u1, u2, u3, u4] (mm x R Z Y o A c G g))) rfl (g_ok (f := 0) (by decide) rfl)
set_option maxRecDepth 20000 in
theorem b3_40 (hR : RS R) {u0 : Option pm_V} {u1 : Option pm_V} {u2 : Option pm_V} {u3 : Option pm_V} {u4 : Option pm_V}   (k : Q (.inl (some (pm_i (nI 0))), (mm x R Z Y o A c G g))) : pW ns d 3 40 [u0, u1, u2, u3, u4] [] (mm x R Z Y o A c G g) Q := by
  refine pW_ret 2 (fun call n => ?_) k
  rfl
set_option maxRecDepth 20000 in
theorem t3_5 (hR : RS R) {u1 : Option pm_V} {v2 : Int32} {u3 : Option pm_V} {u4 : Option pm_V} {is0 : Nat} (qs0 : is0 < 8) (k1 : (A 8 is0 0 = 0) → Q (.inl (some (pm_i (-nI 7))), (mm x R Z Y o A c G g))) (k2 : (¬ (A 8 is0 0 = 0)) → pW ns d 3 16 [some (pm_r 0 0), u1, some (pm_i v2), some (pm_r 8 is0), u4] [] (mm x R Z Y o A c G g) Q) : pW ns d 3 5 [some (pm_r 0 0), u1, some (pm_i v2), u3, u4] [pm_r 8 is0] (mm x R Z Y o A c G g) Q := by
  refine b3_5 hR qs0 (fun h1 => ?_) (fun h1 => ?_)
  · skip
    exact b3_13 hR   (k1 h1)
  · skip
    exact (k2 h1)
/-! 4 JobLayer.pipe -/
set_option maxRecDepth 20000 in
theorem b4_0 (hR : RS R) {v1 : Int32} {u2 : Option pm_V} {u3 : Option pm_V} {u4 : Option pm_V} {u5 : Option pm_V}  {x2 : Nat} {o2 : Int64} {A2 : Nat → Nat → Nat → Int32} {c2 : Nat → Int64} {G2 : Nat → Nat → Int32} {g2 : Nat → Int64} {j : Nat} (hE : pE ns d 23 [pm_r 0 0, pm_i v1] (mm x R Z Y o A c G g) (.inl (some (pm_r 8 j)), (mm x2 R Z Y o2 A2 c2 G2 g2))) (k : pW ns d 4 5 [some (pm_r 0 0), some (pm_i v1), u2, u3, u4, u5] [pm_r 8 j] (mm x2 R Z Y o2 A2 c2 G2 g2) Q) : pW ns d 4 0 [some (pm_r 0 0), some (pm_i v1), u2, u3, u4, u5] [] (mm x R Z Y o A c G g) Q := by
  refine pW_call (pc' := 2) (r := []) (L' := [some (pm_r 0 0), some (pm_i v1), u2, u3, u4, u5]) 3 (fun call n => ?_) hE k
  exact Eq.trans (b := pm_g (mm x R Z Y o A c G g) 0 0 (pm_cl call 4 (pm_go call ns d 4 n) 2 23 [pm_r 0 0, pm_i v1] [] [some (pm_r 0 0), some (pm_i v1), u2, u3, u4, u5] (mm x R Z Y o A c G g))) rfl (g_ok (f := 0) (by decide) rfl)
set_option maxRecDepth 20000 in
theorem b4_0x (hR : RS R) {v1 : Int32} {u2 : Option pm_V} {u3 : Option pm_V} {u4 : Option pm_V} {u5 : Option pm_V}  {x2 : Nat} {o2 : Int64} {A2 : Nat → Nat → Nat → Int32} {c2 : Nat → Int64} {G2 : Nat → Nat → Int32} {g2 : Nat → Int64} {e : Nat} (hE : pE ns d 23 [pm_r 0 0, pm_i v1] (mm x R Z Y o A c G g) (.inr e, (mm x2 R Z Y o2 A2 c2 G2 g2))) (k : Q (.inr e, (mm x2 R Z Y o2 A2 c2 G2 g2))) : pW ns d 4 0 [some (pm_r 0 0), some (pm_i v1), u2, u3, u4, u5] [] (mm x R Z Y o A c G g) Q := by
  refine pW_callx (pc' := 2) (r := []) (L' := [some (pm_r 0 0), some (pm_i v1), u2, u3, u4, u5]) 3 (fun call n => ?_) hE ⟨rfl, rfl⟩ k
  exact Eq.trans (b := pm_g (mm x R Z Y o A c G g) 0 0 (pm_cl call 4 (pm_go call ns d 4 n) 2 23 [pm_r 0 0, pm_i v1] [] [some (pm_r 0 0), some (pm_i v1), u2, u3, u4, u5] (mm x R Z Y o A c G g))) rfl (g_ok (f := 0) (by decide) rfl)
set_option maxRecDepth 20000 in
theorem b4_5 (hR : RS R) {v1 : Int32} {u2 : Option pm_V} {u3 : Option pm_V} {u4 : Option pm_V} {u5 : Option pm_V} {is0 : Nat} (qs0 : is0 < 8) {x2 : Nat} {o2 : Int64} {A2 : Nat → Nat → Nat → Int32} {c2 : Nat → Int64} {G2 : Nat → Nat → Int32} {g2 : Nat → Int64} {y : Int32} (hE : pE ns d 114 [pm_r 8 is0, pm_i (nI 0)] (mm x R Z Y o A c G g) (.inl (some (pm_i y)), (mm x2 R Z Y o2 A2 c2 G2 g2))) (k : pW ns d 4 11 [some (pm_r 0 0), some (pm_i v1), some (pm_r 8 is0), u3, u4, u5] [pm_i y] (mm x2 R Z Y o2 A2 c2 G2 g2) Q) : pW ns d 4 5 [some (pm_r 0 0), some (pm_i v1), u2, u3, u4, u5] [pm_r 8 is0] (mm x R Z Y o A c G g) Q := by
  refine pW_call (pc' := 8) (r := []) (L' := [some (pm_r 0 0), some (pm_i v1), some (pm_r 8 is0), u3, u4, u5]) 4 (fun call n => ?_) hE k
  exact Eq.trans (b := pm_g (mm x R Z Y o A c G g) 8 is0 (pm_cl call 4 (pm_go call ns d 4 n) 8 114 [pm_r 8 is0, pm_i (nI 0)] [] [some (pm_r 0 0), some (pm_i v1), some (pm_r 8 is0), u3, u4, u5] (mm x R Z Y o A c G g))) rfl (g_ok (f := 8) qs0 rfl)
set_option maxRecDepth 20000 in
theorem b4_11 (hR : RS R) {u1 : Option pm_V} {i2 : Nat} {u3 : Option pm_V} {u4 : Option pm_V} {u5 : Option pm_V} {vs0 : Int32} (q2 : i2 < 8) {x2 : Nat} {o2 : Int64} {A2 : Nat → Nat → Nat → Int32} {c2 : Nat → Int64} {G2 : Nat → Nat → Int32} {g2 : Nat → Int64} {y : Int32} (hE : pE ns d 114 [pm_r 8 i2, pm_i (vs0 + (nI 1))] (mm x R Z Y o A c G g) (.inl (some (pm_i y)), (mm x2 R Z Y o2 A2 c2 G2 g2))) (k : pW ns d 4 19 [some (pm_r 0 0), u1, some (pm_r 8 i2), some (pm_i vs0), u4, u5] [pm_i y] (mm x2 R Z Y o2 A2 c2 G2 g2) Q) : pW ns d 4 11 [some (pm_r 0 0), u1, some (pm_r 8 i2), u3, u4, u5] [pm_i vs0] (mm x R Z Y o A c G g) Q := by
  refine pW_call (pc' := 16) (r := []) (L' := [some (pm_r 0 0), u1, some (pm_r 8 i2), some (pm_i vs0), u4, u5]) 6 (fun call n => ?_) hE k
  exact Eq.trans (b := pm_g (mm x R Z Y o A c G g) 8 i2 (pm_cl call 4 (pm_go call ns d 4 n) 16 114 [pm_r 8 i2, pm_i (vs0 + (nI 1))] [] [some (pm_r 0 0), u1, some (pm_r 8 i2), some (pm_i vs0), u4, u5] (mm x R Z Y o A c G g))) rfl (g_ok (f := 8) q2 rfl)
set_option maxRecDepth 20000 in
theorem b4_19 (hR : RS R) {u1 : Option pm_V} {i2 : Nat} {v3 : Int32} {u4 : Option pm_V} {u5 : Option pm_V} {vs0 : Int32} (q2 : i2 < 8) {x2 : Nat} {o2 : Int64} {A2 : Nat → Nat → Nat → Int32} {c2 : Nat → Int64} {G2 : Nat → Nat → Int32} {g2 : Nat → Int64} {y : Int32} (hE : pE ns d 30 [pm_r 0 0] (mm x R Z Y o A c G g) (.inl (some (pm_i y)), (mm x2 R Z Y o2 A2 c2 G2 g2))) (k : pW ns d 4 25 [some (pm_r 0 0), u1, some (pm_r 8 i2), some (pm_i v3), some (pm_i vs0), u5] [pm_i y] (mm x2 R Z Y o2 A2 c2 G2 g2) Q) : pW ns d 4 19 [some (pm_r 0 0), u1, some (pm_r 8 i2), some (pm_i v3), u4, u5] [pm_i vs0] (mm x R Z Y o A c G g) Q := by
  refine pW_call (pc' := 22) (r := []) (L' := [some (pm_r 0 0), u1, some (pm_r 8 i2), some (pm_i v3), some (pm_i vs0), u5]) 3 (fun call n => ?_) hE k
  exact Eq.trans (b := pm_g (mm x R Z Y o A c G g) 0 0 (pm_cl call 4 (pm_go call ns d 4 n) 22 30 [pm_r 0 0] [] [some (pm_r 0 0), u1, some (pm_r 8 i2), some (pm_i v3), some (pm_i vs0), u5] (mm x R Z Y o A c G g))) rfl (g_ok (f := 0) (by decide) rfl)
set_option maxRecDepth 20000 in
theorem b4_25 (hR : RS R) {u1 : Option pm_V} {i2 : Nat} {v3 : Int32} {v4 : Int32} {u5 : Option pm_V} {vs0 : Int32} (q2 : i2 < 8)  (k1 : nI 6 ≤ v4 → pW ns d 4 41 [some (pm_r 0 0), u1, some (pm_r 8 i2), some (pm_i v3), some (pm_i v4), some (pm_i vs0)] [] (mm x R Z Y o A c G g) Q) (k2 : ¬ (nI 6 ≤ v4) → pW ns d 4 34 [some (pm_r 0 0), u1, some (pm_r 8 i2), some (pm_i v3), some (pm_i v4), some (pm_i vs0)] [] (mm x R Z Y o A c G g) Q) : pW ns d 4 25 [some (pm_r 0 0), u1, some (pm_r 8 i2), some (pm_i v3), some (pm_i v4), u5] [pm_i vs0] (mm x R Z Y o A c G g) Q := by
  exact pW_if 4 (c := nI 6 ≤ v4) (fun call n => rfl) k1 k2
set_option maxRecDepth 20000 in
theorem b4_41 (hR : RS R) {u0 : Option pm_V} {u1 : Option pm_V} {u2 : Option pm_V} {u3 : Option pm_V} {u4 : Option pm_V} {u5 : Option pm_V}   (k : Q (.inl (some (pm_i (-nI 2))), (mm x R Z Y o A c G g))) : pW ns d 4 41 [u0, u1, u2, u3, u4, u5] [] (mm x R Z Y o A c G g) Q := by
  refine pW_ret 2 (fun call n => ?_) k
  rfl
set_option maxRecDepth 20000 in
theorem b4_34 (hR : RS R) {u1 : Option pm_V} {i2 : Nat} {v3 : Int32} {v4 : Int32} {v5 : Int32} (q2 : i2 < 8)  (k1 : v5 < nI 6 → pW ns d 4 44 [some (pm_r 0 0), u1, some (pm_r 8 i2), some (pm_i v3), some (pm_i v4), some (pm_i v5)] [] (mm x R Z Y o A c G g) Q) (k2 : ¬ (v5 < nI 6) → pW ns d 4 41 [some (pm_r 0 0), u1, some (pm_r 8 i2), some (pm_i v3), some (pm_i v4), some (pm_i v5)] [] (mm x R Z Y o A c G g) Q) : pW ns d 4 34 [some (pm_r 0 0), u1, some (pm_r 8 i2), some (pm_i v3), some (pm_i v4), some (pm_i v5)] [] (mm x R Z Y o A c G g) Q := by
  exact pW_if 3 (c := v5 < nI 6) (fun call n => rfl) k1 k2
set_option maxRecDepth 20000 in
theorem b4_44 (hR : RS R) {u1 : Option pm_V} {i2 : Nat} {v3 : Int32} {v4 : Int32} {v5 : Int32} {j1 : Nat} {j2 : Nat} {j3 : Nat} (q2 : i2 < 8) (e1 : v5 = nI j1) (l1 : j1 < 6) (e2 : v3 = nI j2) (l2 : j2 < 6) (e3 : v4 = nI j3) (l3 : j3 < 6) {x2 : Nat} {o2 : Int64} {A2 : Nat → Nat → Nat → Int32} {c2 : Nat → Int64} {G2 : Nat → Nat → Int32} {g2 : Nat → Int64}  (hE : pE ns d 37 [pm_r 0 0] (mm x R Z Y o (pm_u (pm_u (pm_u A 4 j1 1 (nI 0)) 9 i2 j2 ((nI 2) + ((nI 2) * v5))) 9 i2 j3 ((nI 3) + ((nI 2) * v5))) c G g) (.inl (none), (mm x2 R Z Y o2 A2 c2 G2 g2))) (k : pW ns d 4 84 [some (pm_r 0 0), u1, some (pm_r 8 i2), some (pm_i v3), some (pm_i v4), some (pm_i v5)] [] (mm x2 R Z Y o2 A2 c2 G2 g2) Q) : pW ns d 4 44 [some (pm_r 0 0), u1, some (pm_r 8 i2), some (pm_i v3), some (pm_i v4), some (pm_i v5)] [] (mm x R Z Y o A c G g) Q := by
  refine pW_eq 2 (pc' := 48) (L' := [some (pm_r 0 0), u1, some (pm_r 8 i2), some (pm_i v3), some (pm_i v4), some (pm_i v5)]) (S' := [pm_r 2 0]) (M' := (mm x R Z Y o A c G g)) (fun call n => ?_) ?_
  · refine Eq.trans (b := pm_g (mm x R Z Y o A c G g) 0 0 (pm_go call ns d 4 n 48 [some (pm_r 0 0), u1, some (pm_r 8 i2), some (pm_i v3), some (pm_i v4), some (pm_i v5)] [pm_a (R 0 0 1)] (mm x R Z Y o A c G g))) rfl ?_
    refine (g_ok (f := 0) (by decide) rfl).trans ?_
    exact (congrArg (fun z => pm_go call ns d 4 n 48 [some (pm_r 0 0), u1, some (pm_r 8 i2), some (pm_i v3), some (pm_i v4), some (pm_i v5)] [pm_a z] (mm x R Z Y o A c G g)) (rs_0_1 hR))
  refine pW_eq 2 (pc' := 51) (L' := [some (pm_r 0 0), u1, some (pm_r 8 i2), some (pm_i v3), some (pm_i v4), some (pm_i v5)]) (S' := [pm_r 4 j1]) (M' := (mm x R Z Y o A c G g)) (fun call n => ?_) ?_
  · refine Eq.trans (b := pm_g (mm x R Z Y o A c G g) 2 0 (pm_ix (v5) 6 (fun jx => pm_go call ns d 4 n 51 [some (pm_r 0 0), u1, some (pm_r 8 i2), some (pm_i v3), some (pm_i v4), some (pm_i v5)] [pm_a (R 2 0 jx)] (mm x R Z Y o A c G g)))) rfl ?_
    refine (g_ok (f := 2) (by decide) rfl).trans ?_
    refine (ix_ok (j := j1) e1 l1 (by decide)).trans ?_
    exact (congrArg (fun z => pm_go call ns d 4 n 51 [some (pm_r 0 0), u1, some (pm_r 8 i2), some (pm_i v3), some (pm_i v4), some (pm_i v5)] [pm_a z] (mm x R Z Y o A c G g)) (rs_2 hR (k := j1) l1))
  refine pW_eq 2 (pc' := 55) (L' := [some (pm_r 0 0), u1, some (pm_r 8 i2), some (pm_i v3), some (pm_i v4), some (pm_i v5)]) (S' := []) (M' := (mm x R Z Y o (pm_u A 4 j1 1 (nI 0)) c G g)) (fun call n => ?_) ?_
  · refine Eq.trans (b := pm_g (mm x R Z Y o A c G g) 4 j1 (pm_go call ns d 4 n 55 [some (pm_r 0 0), u1, some (pm_r 8 i2), some (pm_i v3), some (pm_i v4), some (pm_i v5)] [] (pm_u (mA Z A G) 4 j1 1 (nI 0), mB Y o c g, R, pm_tot, x))) rfl ?_
    refine (g_ok (f := 4) l1 rfl).trans ?_
    exact (congrArg (fun z => pm_go call ns d 4 n 55 [some (pm_r 0 0), u1, some (pm_r 8 i2), some (pm_i v3), some (pm_i v4), some (pm_i v5)] [] (z, mB Y o c g, R, pm_tot, x)) (uA (by decide)))
  refine pW_eq 2 (pc' := 59) (L' := [some (pm_r 0 0), u1, some (pm_r 8 i2), some (pm_i v3), some (pm_i v4), some (pm_i v5)]) (S' := [pm_r 9 i2]) (M' := (mm x R Z Y o (pm_u A 4 j1 1 (nI 0)) c G g)) (fun call n => ?_) ?_
  · refine Eq.trans (b := pm_g (mm x R Z Y o (pm_u A 4 j1 1 (nI 0)) c G g) 8 i2 (pm_go call ns d 4 n 59 [some (pm_r 0 0), u1, some (pm_r 8 i2), some (pm_i v3), some (pm_i v4), some (pm_i v5)] [pm_a (R 8 i2 1)] (mm x R Z Y o (pm_u A 4 j1 1 (nI 0)) c G g))) rfl ?_
    refine (g_ok (f := 8) q2 rfl).trans ?_
    exact (congrArg (fun z => pm_go call ns d 4 n 59 [some (pm_r 0 0), u1, some (pm_r 8 i2), some (pm_i v3), some (pm_i v4), some (pm_i v5)] [pm_a z] (mm x R Z Y o (pm_u A 4 j1 1 (nI 0)) c G g)) (rs_8_1 hR q2))
  refine pW_eq 7 (pc' := 67) (L' := [some (pm_r 0 0), u1, some (pm_r 8 i2), some (pm_i v3), some (pm_i v4), some (pm_i v5)]) (S' := []) (M' := (mm x R Z Y o (pm_u (pm_u A 4 j1 1 (nI 0)) 9 i2 j2 ((nI 2) + ((nI 2) * v5))) c G g)) (fun call n => ?_) ?_
  · refine Eq.trans (b := pm_g (mm x R Z Y o (pm_u A 4 j1 1 (nI 0)) c G g) 9 i2 (pm_ix (v3) 6 (fun jx => pm_go call ns d 4 n 67 [some (pm_r 0 0), u1, some (pm_r 8 i2), some (pm_i v3), some (pm_i v4), some (pm_i v5)] [] (pm_u (mA Z (pm_u A 4 j1 1 (nI 0)) G) 9 i2 jx ((nI 2) + ((nI 2) * v5)), mB Y o c g, R, pm_tot, x)))) rfl ?_
    refine (g_ok (f := 9) q2 rfl).trans ?_
    refine (ix_ok (j := j2) e2 l2 (by decide)).trans ?_
    exact (congrArg (fun z => pm_go call ns d 4 n 67 [some (pm_r 0 0), u1, some (pm_r 8 i2), some (pm_i v3), some (pm_i v4), some (pm_i v5)] [] (z, mB Y o c g, R, pm_tot, x)) (uA (by decide)))
  refine pW_eq 2 (pc' := 71) (L' := [some (pm_r 0 0), u1, some (pm_r 8 i2), some (pm_i v3), some (pm_i v4), some (pm_i v5)]) (S' := [pm_r 9 i2]) (M' := (mm x R Z Y o (pm_u (pm_u A 4 j1 1 (nI 0)) 9 i2 j2 ((nI 2) + ((nI 2) * v5))) c G g)) (fun call n => ?_) ?_
  · refine Eq.trans (b := pm_g (mm x R Z Y o (pm_u (pm_u A 4 j1 1 (nI 0)) 9 i2 j2 ((nI 2) + ((nI 2) * v5))) c G g) 8 i2 (pm_go call ns d 4 n 71 [some (pm_r 0 0), u1, some (pm_r 8 i2), some (pm_i v3), some (pm_i v4), some (pm_i v5)] [pm_a (R 8 i2 1)] (mm x R Z Y o (pm_u (pm_u A 4 j1 1 (nI 0)) 9 i2 j2 ((nI 2) + ((nI 2) * v5))) c G g))) rfl ?_
    refine (g_ok (f := 8) q2 rfl).trans ?_
    exact (congrArg (fun z => pm_go call ns d 4 n 71 [some (pm_r 0 0), u1, some (pm_r 8 i2), some (pm_i v3), some (pm_i v4), some (pm_i v5)] [pm_a z] (mm x R Z Y o (pm_u (pm_u A 4 j1 1 (nI 0)) 9 i2 j2 ((nI 2) + ((nI 2) * v5))) c G g)) (rs_8_1 hR q2))
  refine pW_eq 7 (pc' := 80) (L' := [some (pm_r 0 0), u1, some (pm_r 8 i2), some (pm_i v3), some (pm_i v4), some (pm_i v5)]) (S' := []) (M' := (mm x R Z Y o (pm_u (pm_u (pm_u A 4 j1 1 (nI 0)) 9 i2 j2 ((nI 2) + ((nI 2) * v5))) 9 i2 j3 ((nI 3) + ((nI 2) * v5))) c G g)) (fun call n => ?_) ?_
  · refine Eq.trans (b := pm_g (mm x R Z Y o (pm_u (pm_u A 4 j1 1 (nI 0)) 9 i2 j2 ((nI 2) + ((nI 2) * v5))) c G g) 9 i2 (pm_ix (v4) 6 (fun jx => pm_go call ns d 4 n 80 [some (pm_r 0 0), u1, some (pm_r 8 i2), some (pm_i v3), some (pm_i v4), some (pm_i v5)] [] (pm_u (mA Z (pm_u (pm_u A 4 j1 1 (nI 0)) 9 i2 j2 ((nI 2) + ((nI 2) * v5))) G) 9 i2 jx ((nI 3) + ((nI 2) * v5)), mB Y o c g, R, pm_tot, x)))) rfl ?_
    refine (g_ok (f := 9) q2 rfl).trans ?_
    refine (ix_ok (j := j3) e3 l3 (by decide)).trans ?_
    exact (congrArg (fun z => pm_go call ns d 4 n 80 [some (pm_r 0 0), u1, some (pm_r 8 i2), some (pm_i v3), some (pm_i v4), some (pm_i v5)] [] (z, mB Y o c g, R, pm_tot, x)) (uA (by decide)))
  refine pW_call (pc' := 81) (r := []) (L' := [some (pm_r 0 0), u1, some (pm_r 8 i2), some (pm_i v3), some (pm_i v4), some (pm_i v5)]) 2 (fun call n => ?_) hE k
  exact Eq.trans (b := pm_g (mm x R Z Y o (pm_u (pm_u (pm_u A 4 j1 1 (nI 0)) 9 i2 j2 ((nI 2) + ((nI 2) * v5))) 9 i2 j3 ((nI 3) + ((nI 2) * v5))) c G g) 0 0 (pm_cl call 4 (pm_go call ns d 4 n) 81 37 [pm_r 0 0] [] [some (pm_r 0 0), u1, some (pm_r 8 i2), some (pm_i v3), some (pm_i v4), some (pm_i v5)] (mm x R Z Y o (pm_u (pm_u (pm_u A 4 j1 1 (nI 0)) 9 i2 j2 ((nI 2) + ((nI 2) * v5))) 9 i2 j3 ((nI 3) + ((nI 2) * v5))) c G g))) rfl (g_ok (f := 0) (by decide) rfl)
set_option maxRecDepth 20000 in
theorem b4_84 (hR : RS R) {u0 : Option pm_V} {u1 : Option pm_V} {u2 : Option pm_V} {v3 : Int32} {v4 : Int32} {u5 : Option pm_V}   (k : Q (.inl (some (pm_i (v3 + ((nI 8) * v4)))), (mm x R Z Y o A c G g))) : pW ns d 4 84 [u0, u1, u2, some (pm_i v3), some (pm_i v4), u5] [] (mm x R Z Y o A c G g) Q := by
  refine pW_ret 6 (fun call n => ?_) k
  rfl
set_option maxRecDepth 20000 in
theorem t4_25 (hR : RS R) {u1 : Option pm_V} {i2 : Nat} {v3 : Int32} {v4 : Int32} {u5 : Option pm_V} {vs0 : Int32} (q2 : i2 < 8) (k1 : (nI 6 ≤ v4) → Q (.inl (some (pm_i (-nI 2))), (mm x R Z Y o A c G g))) (k2 : (¬ (nI 6 ≤ v4)) → (vs0 < nI 6) → pW ns d 4 44 [some (pm_r 0 0), u1, some (pm_r 8 i2), some (pm_i v3), some (pm_i v4), some (pm_i vs0)] [] (mm x R Z Y o A c G g) Q) (k3 : (¬ (nI 6 ≤ v4)) → (¬ (vs0 < nI 6)) → Q (.inl (some (pm_i (-nI 2))), (mm x R Z Y o A c G g))) : pW ns d 4 25 [some (pm_r 0 0), u1, some (pm_r 8 i2), some (pm_i v3), some (pm_i v4), u5] [pm_i vs0] (mm x R Z Y o A c G g) Q := by
  refine b4_25 hR q2 (fun h1 => ?_) (fun h1 => ?_)
  · skip
    exact b4_41 hR   (k1 h1)
  · skip
    refine b4_34 hR q2  (fun h2 => ?_) (fun h2 => ?_)
    · skip
      exact (k2 h1 h2)
    · skip
      exact b4_41 hR   (k3 h1 h2)
set_option maxRecDepth 20000 in
theorem t4_34 (hR : RS R) {u1 : Option pm_V} {i2 : Nat} {v3 : Int32} {v4 : Int32} {v5 : Int32} (q2 : i2 < 8) (k1 : (v5 < nI 6) → pW ns d 4 44 [some (pm_r 0 0), u1, some (pm_r 8 i2), some (pm_i v3), some (pm_i v4), some (pm_i v5)] [] (mm x R Z Y o A c G g) Q) (k2 : (¬ (v5 < nI 6)) → Q (.inl (some (pm_i (-nI 2))), (mm x R Z Y o A c G g))) : pW ns d 4 34 [some (pm_r 0 0), u1, some (pm_r 8 i2), some (pm_i v3), some (pm_i v4), some (pm_i v5)] [] (mm x R Z Y o A c G g) Q := by
  refine b4_34 hR q2 (fun h1 => ?_) (fun h1 => ?_)
  · skip
    exact (k1 h1)
  · skip
    exact b4_41 hR   (k2 h1)
/-! 5 JobLayer.copy -/
set_option maxRecDepth 20000 in
theorem b5_0 (hR : RS R) {v1 : Int32} {v2 : Int32} {v3 : Int32} {u4 : Option pm_V} {u5 : Option pm_V}  {x2 : Nat} {o2 : Int64} {A2 : Nat → Nat → Nat → Int32} {c2 : Nat → Int64} {G2 : Nat → Nat → Int32} {g2 : Nat → Int64} {j : Nat} (hE : pE ns d 23 [pm_r 0 0, pm_i v1] (mm x R Z Y o A c G g) (.inl (some (pm_r 8 j)), (mm x2 R Z Y o2 A2 c2 G2 g2))) (k : pW ns d 5 5 [some (pm_r 0 0), some (pm_i v1), some (pm_i v2), some (pm_i v3), u4, u5] [pm_r 8 j] (mm x2 R Z Y o2 A2 c2 G2 g2) Q) : pW ns d 5 0 [some (pm_r 0 0), some (pm_i v1), some (pm_i v2), some (pm_i v3), u4, u5] [] (mm x R Z Y o A c G g) Q := by
  refine pW_call (pc' := 2) (r := []) (L' := [some (pm_r 0 0), some (pm_i v1), some (pm_i v2), some (pm_i v3), u4, u5]) 3 (fun call n => ?_) hE k
  exact Eq.trans (b := pm_g (mm x R Z Y o A c G g) 0 0 (pm_cl call 5 (pm_go call ns d 5 n) 2 23 [pm_r 0 0, pm_i v1] [] [some (pm_r 0 0), some (pm_i v1), some (pm_i v2), some (pm_i v3), u4, u5] (mm x R Z Y o A c G g))) rfl (g_ok (f := 0) (by decide) rfl)
set_option maxRecDepth 20000 in
theorem b5_0x (hR : RS R) {v1 : Int32} {v2 : Int32} {v3 : Int32} {u4 : Option pm_V} {u5 : Option pm_V}  {x2 : Nat} {o2 : Int64} {A2 : Nat → Nat → Nat → Int32} {c2 : Nat → Int64} {G2 : Nat → Nat → Int32} {g2 : Nat → Int64} {e : Nat} (hE : pE ns d 23 [pm_r 0 0, pm_i v1] (mm x R Z Y o A c G g) (.inr e, (mm x2 R Z Y o2 A2 c2 G2 g2))) (k : Q (.inr e, (mm x2 R Z Y o2 A2 c2 G2 g2))) : pW ns d 5 0 [some (pm_r 0 0), some (pm_i v1), some (pm_i v2), some (pm_i v3), u4, u5] [] (mm x R Z Y o A c G g) Q := by
  refine pW_callx (pc' := 2) (r := []) (L' := [some (pm_r 0 0), some (pm_i v1), some (pm_i v2), some (pm_i v3), u4, u5]) 3 (fun call n => ?_) hE ⟨rfl, rfl⟩ k
  exact Eq.trans (b := pm_g (mm x R Z Y o A c G g) 0 0 (pm_cl call 5 (pm_go call ns d 5 n) 2 23 [pm_r 0 0, pm_i v1] [] [some (pm_r 0 0), some (pm_i v1), some (pm_i v2), some (pm_i v3), u4, u5] (mm x R Z Y o A c G g))) rfl (g_ok (f := 0) (by decide) rfl)
set_option maxRecDepth 20000 in
theorem b5_5 (hR : RS R) {u1 : Option pm_V} {v2 : Int32} {v3 : Int32} {u4 : Option pm_V} {u5 : Option pm_V} {is0 : Nat} (qs0 : is0 < 8) {x2 : Nat} {o2 : Int64} {A2 : Nat → Nat → Nat → Int32} {c2 : Nat → Int64} {G2 : Nat → Nat → Int32} {g2 : Nat → Int64} {y : Int32} (hE : pE ns d 113 [pm_r 8 is0, pm_i v2] (mm x R Z Y o A c G g) (.inl (some (pm_i y)), (mm x2 R Z Y o2 A2 c2 G2 g2))) (k : pW ns d 5 13 [some (pm_r 0 0), u1, some (pm_i v2), some (pm_i v3), some (pm_r 8 is0), u5] [pm_i y] (mm x2 R Z Y o2 A2 c2 G2 g2) Q) : pW ns d 5 5 [some (pm_r 0 0), u1, some (pm_i v2), some (pm_i v3), u4, u5] [pm_r 8 is0] (mm x R Z Y o A c G g) Q := by
  refine pW_call (pc' := 10) (r := []) (L' := [some (pm_r 0 0), u1, some (pm_i v2), some (pm_i v3), some (pm_r 8 is0), u5]) 4 (fun call n => ?_) hE k
  exact Eq.trans (b := pm_g (mm x R Z Y o A c G g) 8 is0 (pm_cl call 5 (pm_go call ns d 5 n) 10 113 [pm_r 8 is0, pm_i v2] [] [some (pm_r 0 0), u1, some (pm_i v2), some (pm_i v3), some (pm_r 8 is0), u5] (mm x R Z Y o A c G g))) rfl (g_ok (f := 8) qs0 rfl)
set_option maxRecDepth 20000 in
theorem b5_13 (hR : RS R) {u1 : Option pm_V} {u2 : Option pm_V} {v3 : Int32} {i4 : Nat} {u5 : Option pm_V} {vs0 : Int32} (q4 : i4 < 8)  (k1 : vs0 = 0 → pW ns d 5 30 [some (pm_r 0 0), u1, u2, some (pm_i v3), some (pm_r 8 i4), some (pm_i vs0)] [] (mm x R Z Y o A c G g) Q) (k2 : ¬ (vs0 = 0) → pW ns d 5 20 [some (pm_r 0 0), u1, u2, some (pm_i v3), some (pm_r 8 i4), some (pm_i vs0)] [] (mm x R Z Y o A c G g) Q) : pW ns d 5 13 [some (pm_r 0 0), u1, u2, some (pm_i v3), some (pm_r 8 i4), u5] [pm_i vs0] (mm x R Z Y o A c G g) Q := by
  exact pW_if 3 (c := vs0 = 0) (fun call n => rfl) k1 k2
set_option maxRecDepth 20000 in
theorem b5_30 (hR : RS R) {u0 : Option pm_V} {u1 : Option pm_V} {u2 : Option pm_V} {u3 : Option pm_V} {u4 : Option pm_V} {u5 : Option pm_V}   (k : Q (.inl (some (pm_i (-nI 1))), (mm x R Z Y o A c G g))) : pW ns d 5 30 [u0, u1, u2, u3, u4, u5] [] (mm x R Z Y o A c G g) Q := by
  refine pW_ret 2 (fun call n => ?_) k
  rfl
set_option maxRecDepth 20000 in
theorem b5_20 (hR : RS R) {u1 : Option pm_V} {u2 : Option pm_V} {v3 : Int32} {i4 : Nat} {v5 : Int32} (q4 : i4 < 8)  (k1 : v3 < 0 → pW ns d 5 30 [some (pm_r 0 0), u1, u2, some (pm_i v3), some (pm_r 8 i4), some (pm_i v5)] [] (mm x R Z Y o A c G g) Q) (k2 : ¬ (v3 < 0) → pW ns d 5 24 [some (pm_r 0 0), u1, u2, some (pm_i v3), some (pm_r 8 i4), some (pm_i v5)] [] (mm x R Z Y o A c G g) Q) : pW ns d 5 20 [some (pm_r 0 0), u1, u2, some (pm_i v3), some (pm_r 8 i4), some (pm_i v5)] [] (mm x R Z Y o A c G g) Q := by
  exact pW_if 2 (c := v3 < 0) (fun call n => rfl) k1 k2
set_option maxRecDepth 20000 in
theorem b5_24 (hR : RS R) {u1 : Option pm_V} {u2 : Option pm_V} {v3 : Int32} {i4 : Nat} {v5 : Int32} (q4 : i4 < 8)  (k1 : v3 < nI 6 → pW ns d 5 32 [some (pm_r 0 0), u1, u2, some (pm_i v3), some (pm_r 8 i4), some (pm_i v5)] [] (mm x R Z Y o A c G g) Q) (k2 : ¬ (v3 < nI 6) → pW ns d 5 30 [some (pm_r 0 0), u1, u2, some (pm_i v3), some (pm_r 8 i4), some (pm_i v5)] [] (mm x R Z Y o A c G g) Q) : pW ns d 5 24 [some (pm_r 0 0), u1, u2, some (pm_i v3), some (pm_r 8 i4), some (pm_i v5)] [] (mm x R Z Y o A c G g) Q := by
  exact pW_if 3 (c := v3 < nI 6) (fun call n => rfl) k1 k2
set_option maxRecDepth 20000 in
theorem b5_32 (hR : RS R) {u1 : Option pm_V} {u2 : Option pm_V} {v3 : Int32} {i4 : Nat} {v5 : Int32} {j1 : Nat} (q4 : i4 < 8) (e1 : v3 = nI j1) (l1 : j1 < 6) {x2 : Nat} {o2 : Int64} {A2 : Nat → Nat → Nat → Int32} {c2 : Nat → Int64} {G2 : Nat → Nat → Int32} {g2 : Nat → Int64}  (hE : pE ns d 37 [pm_r 0 0] (mm x R Z Y o (pm_u A 9 i4 j1 v5) c G g) (.inl (none), (mm x2 R Z Y o2 A2 c2 G2 g2))) (k : pW ns d 5 45 [some (pm_r 0 0), u1, u2, some (pm_i v3), some (pm_r 8 i4), some (pm_i v5)] [] (mm x2 R Z Y o2 A2 c2 G2 g2) Q) : pW ns d 5 32 [some (pm_r 0 0), u1, u2, some (pm_i v3), some (pm_r 8 i4), some (pm_i v5)] [] (mm x R Z Y o A c G g) Q := by
  refine pW_eq 2 (pc' := 37) (L' := [some (pm_r 0 0), u1, u2, some (pm_i v3), some (pm_r 8 i4), some (pm_i v5)]) (S' := [pm_r 9 i4]) (M' := (mm x R Z Y o A c G g)) (fun call n => ?_) ?_
  · refine Eq.trans (b := pm_g (mm x R Z Y o A c G g) 8 i4 (pm_go call ns d 5 n 37 [some (pm_r 0 0), u1, u2, some (pm_i v3), some (pm_r 8 i4), some (pm_i v5)] [pm_a (R 8 i4 1)] (mm x R Z Y o A c G g))) rfl ?_
    refine (g_ok (f := 8) q4 rfl).trans ?_
    exact (congrArg (fun z => pm_go call ns d 5 n 37 [some (pm_r 0 0), u1, u2, some (pm_i v3), some (pm_r 8 i4), some (pm_i v5)] [pm_a z] (mm x R Z Y o A c G g)) (rs_8_1 hR q4))
  refine pW_eq 3 (pc' := 41) (L' := [some (pm_r 0 0), u1, u2, some (pm_i v3), some (pm_r 8 i4), some (pm_i v5)]) (S' := []) (M' := (mm x R Z Y o (pm_u A 9 i4 j1 v5) c G g)) (fun call n => ?_) ?_
  · refine Eq.trans (b := pm_g (mm x R Z Y o A c G g) 9 i4 (pm_ix (v3) 6 (fun jx => pm_go call ns d 5 n 41 [some (pm_r 0 0), u1, u2, some (pm_i v3), some (pm_r 8 i4), some (pm_i v5)] [] (pm_u (mA Z A G) 9 i4 jx v5, mB Y o c g, R, pm_tot, x)))) rfl ?_
    refine (g_ok (f := 9) q4 rfl).trans ?_
    refine (ix_ok (j := j1) e1 l1 (by decide)).trans ?_
    exact (congrArg (fun z => pm_go call ns d 5 n 41 [some (pm_r 0 0), u1, u2, some (pm_i v3), some (pm_r 8 i4), some (pm_i v5)] [] (z, mB Y o c g, R, pm_tot, x)) (uA (by decide)))
  refine pW_call (pc' := 42) (r := []) (L' := [some (pm_r 0 0), u1, u2, some (pm_i v3), some (pm_r 8 i4), some (pm_i v5)]) 2 (fun call n => ?_) hE k
  exact Eq.trans (b := pm_g (mm x R Z Y o (pm_u A 9 i4 j1 v5) c G g) 0 0 (pm_cl call 5 (pm_go call ns d 5 n) 42 37 [pm_r 0 0] [] [some (pm_r 0 0), u1, u2, some (pm_i v3), some (pm_r 8 i4), some (pm_i v5)] (mm x R Z Y o (pm_u A 9 i4 j1 v5) c G g))) rfl (g_ok (f := 0) (by decide) rfl)
set_option maxRecDepth 20000 in
theorem b5_45 (hR : RS R) {u0 : Option pm_V} {u1 : Option pm_V} {u2 : Option pm_V} {v3 : Int32} {u4 : Option pm_V} {u5 : Option pm_V}   (k : Q (.inl (some (pm_i v3)), (mm x R Z Y o A c G g))) : pW ns d 5 45 [u0, u1, u2, some (pm_i v3), u4, u5] [] (mm x R Z Y o A c G g) Q := by
  refine pW_ret 2 (fun call n => ?_) k
  rfl
set_option maxRecDepth 20000 in
theorem t5_13 (hR : RS R) {u1 : Option pm_V} {u2 : Option pm_V} {v3 : Int32} {i4 : Nat} {u5 : Option pm_V} {vs0 : Int32} (q4 : i4 < 8) (k1 : (vs0 = 0) → Q (.inl (some (pm_i (-nI 1))), (mm x R Z Y o A c G g))) (k2 : (¬ (vs0 = 0)) → (v3 < 0) → Q (.inl (some (pm_i (-nI 1))), (mm x R Z Y o A c G g))) (k3 : (¬ (vs0 = 0)) → (¬ (v3 < 0)) → (v3 < nI 6) → pW ns d 5 32 [some (pm_r 0 0), u1, u2, some (pm_i v3), some (pm_r 8 i4), some (pm_i vs0)] [] (mm x R Z Y o A c G g) Q) (k4 : (¬ (vs0 = 0)) → (¬ (v3 < 0)) → (¬ (v3 < nI 6)) → Q (.inl (some (pm_i (-nI 1))), (mm x R Z Y o A c G g))) : pW ns d 5 13 [some (pm_r 0 0), u1, u2, some (pm_i v3), some (pm_r 8 i4), u5] [pm_i vs0] (mm x R Z Y o A c G g) Q := by
  refine b5_13 hR q4 (fun h1 => ?_) (fun h1 => ?_)
  · skip
    exact b5_30 hR   (k1 h1)
  · skip
    refine b5_20 hR q4  (fun h2 => ?_) (fun h2 => ?_)
    · skip
      exact b5_30 hR   (k2 h1 h2)
    · skip
      refine b5_24 hR q4  (fun h3 => ?_) (fun h3 => ?_)
      · skip
        exact (k3 h1 h2 h3)
      · skip
        exact b5_30 hR   (k4 h1 h2 h3)
set_option maxRecDepth 20000 in
theorem t5_20 (hR : RS R) {u1 : Option pm_V} {u2 : Option pm_V} {v3 : Int32} {i4 : Nat} {v5 : Int32} (q4 : i4 < 8) (k1 : (v3 < 0) → Q (.inl (some (pm_i (-nI 1))), (mm x R Z Y o A c G g))) (k2 : (¬ (v3 < 0)) → (v3 < nI 6) → pW ns d 5 32 [some (pm_r 0 0), u1, u2, some (pm_i v3), some (pm_r 8 i4), some (pm_i v5)] [] (mm x R Z Y o A c G g) Q) (k3 : (¬ (v3 < 0)) → (¬ (v3 < nI 6)) → Q (.inl (some (pm_i (-nI 1))), (mm x R Z Y o A c G g))) : pW ns d 5 20 [some (pm_r 0 0), u1, u2, some (pm_i v3), some (pm_r 8 i4), some (pm_i v5)] [] (mm x R Z Y o A c G g) Q := by
  refine b5_20 hR q4 (fun h1 => ?_) (fun h1 => ?_)
  · skip
    exact b5_30 hR   (k1 h1)
  · skip
    refine b5_24 hR q4  (fun h2 => ?_) (fun h2 => ?_)
    · skip
      exact (k2 h1 h2)
    · skip
      exact b5_30 hR   (k3 h1 h2)
set_option maxRecDepth 20000 in
theorem t5_24 (hR : RS R) {u1 : Option pm_V} {u2 : Option pm_V} {v3 : Int32} {i4 : Nat} {v5 : Int32} (q4 : i4 < 8) (k1 : (v3 < nI 6) → pW ns d 5 32 [some (pm_r 0 0), u1, u2, some (pm_i v3), some (pm_r 8 i4), some (pm_i v5)] [] (mm x R Z Y o A c G g) Q) (k2 : (¬ (v3 < nI 6)) → Q (.inl (some (pm_i (-nI 1))), (mm x R Z Y o A c G g))) : pW ns d 5 24 [some (pm_r 0 0), u1, u2, some (pm_i v3), some (pm_r 8 i4), some (pm_i v5)] [] (mm x R Z Y o A c G g) Q := by
  refine b5_24 hR q4 (fun h1 => ?_) (fun h1 => ?_)
  · skip
    exact (k1 h1)
  · skip
    exact b5_30 hR   (k2 h1)
/-! 6 JobLayer.close -/
set_option maxRecDepth 20000 in
theorem b6_0 (hR : RS R) {v1 : Int32} {v2 : Int32} {u3 : Option pm_V}  {x2 : Nat} {o2 : Int64} {A2 : Nat → Nat → Nat → Int32} {c2 : Nat → Int64} {G2 : Nat → Nat → Int32} {g2 : Nat → Int64} {j : Nat} (hE : pE ns d 23 [pm_r 0 0, pm_i v1] (mm x R Z Y o A c G g) (.inl (some (pm_r 8 j)), (mm x2 R Z Y o2 A2 c2 G2 g2))) (k : pW ns d 6 5 [some (pm_r 0 0), some (pm_i v1), some (pm_i v2), u3] [pm_r 8 j] (mm x2 R Z Y o2 A2 c2 G2 g2) Q) : pW ns d 6 0 [some (pm_r 0 0), some (pm_i v1), some (pm_i v2), u3] [] (mm x R Z Y o A c G g) Q := by
  refine pW_call (pc' := 2) (r := []) (L' := [some (pm_r 0 0), some (pm_i v1), some (pm_i v2), u3]) 3 (fun call n => ?_) hE k
  exact Eq.trans (b := pm_g (mm x R Z Y o A c G g) 0 0 (pm_cl call 6 (pm_go call ns d 6 n) 2 23 [pm_r 0 0, pm_i v1] [] [some (pm_r 0 0), some (pm_i v1), some (pm_i v2), u3] (mm x R Z Y o A c G g))) rfl (g_ok (f := 0) (by decide) rfl)
set_option maxRecDepth 20000 in
theorem b6_0x (hR : RS R) {v1 : Int32} {v2 : Int32} {u3 : Option pm_V}  {x2 : Nat} {o2 : Int64} {A2 : Nat → Nat → Nat → Int32} {c2 : Nat → Int64} {G2 : Nat → Nat → Int32} {g2 : Nat → Int64} {e : Nat} (hE : pE ns d 23 [pm_r 0 0, pm_i v1] (mm x R Z Y o A c G g) (.inr e, (mm x2 R Z Y o2 A2 c2 G2 g2))) (k : Q (.inr e, (mm x2 R Z Y o2 A2 c2 G2 g2))) : pW ns d 6 0 [some (pm_r 0 0), some (pm_i v1), some (pm_i v2), u3] [] (mm x R Z Y o A c G g) Q := by
  refine pW_callx (pc' := 2) (r := []) (L' := [some (pm_r 0 0), some (pm_i v1), some (pm_i v2), u3]) 3 (fun call n => ?_) hE ⟨rfl, rfl⟩ k
  exact Eq.trans (b := pm_g (mm x R Z Y o A c G g) 0 0 (pm_cl call 6 (pm_go call ns d 6 n) 2 23 [pm_r 0 0, pm_i v1] [] [some (pm_r 0 0), some (pm_i v1), some (pm_i v2), u3] (mm x R Z Y o A c G g))) rfl (g_ok (f := 0) (by decide) rfl)
set_option maxRecDepth 20000 in
theorem b6_5 (hR : RS R) {u1 : Option pm_V} {v2 : Int32} {u3 : Option pm_V} {is0 : Nat} (qs0 : is0 < 8) {x2 : Nat} {o2 : Int64} {A2 : Nat → Nat → Nat → Int32} {c2 : Nat → Int64} {G2 : Nat → Nat → Int32} {g2 : Nat → Int64} {y : Int32} (hE : pE ns d 113 [pm_r 8 is0, pm_i v2] (mm x R Z Y o A c G g) (.inl (some (pm_i y)), (mm x2 R Z Y o2 A2 c2 G2 g2))) (k : pW ns d 6 11 [some (pm_r 0 0), u1, some (pm_i v2), some (pm_r 8 is0)] [pm_i y] (mm x2 R Z Y o2 A2 c2 G2 g2) Q) : pW ns d 6 5 [some (pm_r 0 0), u1, some (pm_i v2), u3] [pm_r 8 is0] (mm x R Z Y o A c G g) Q := by
  refine pW_call (pc' := 8) (r := []) (L' := [some (pm_r 0 0), u1, some (pm_i v2), some (pm_r 8 is0)]) 4 (fun call n => ?_) hE k
  exact Eq.trans (b := pm_g (mm x R Z Y o A c G g) 8 is0 (pm_cl call 6 (pm_go call ns d 6 n) 8 113 [pm_r 8 is0, pm_i v2] [] [some (pm_r 0 0), u1, some (pm_i v2), some (pm_r 8 is0)] (mm x R Z Y o A c G g))) rfl (g_ok (f := 8) qs0 rfl)
set_option maxRecDepth 20000 in
theorem b6_11 (hR : RS R) {u1 : Option pm_V} {v2 : Int32} {i3 : Nat} {vs0 : Int32} (q3 : i3 < 8)  (k1 : vs0 = 0 → pW ns d 6 14 [some (pm_r 0 0), u1, some (pm_i v2), some (pm_r 8 i3)] [] (mm x R Z Y o A c G g) Q) (k2 : ¬ (vs0 = 0) → pW ns d 6 16 [some (pm_r 0 0), u1, some (pm_i v2), some (pm_r 8 i3)] [] (mm x R Z Y o A c G g) Q) : pW ns d 6 11 [some (pm_r 0 0), u1, some (pm_i v2), some (pm_r 8 i3)] [pm_i vs0] (mm x R Z Y o A c G g) Q := by
  exact pW_if 1 (c := vs0 = 0) (fun call n => rfl) k1 k2
set_option maxRecDepth 20000 in
theorem b6_14 (hR : RS R) {u0 : Option pm_V} {u1 : Option pm_V} {u2 : Option pm_V} {u3 : Option pm_V}   (k : Q (.inl (some (pm_i (-nI 1))), (mm x R Z Y o A c G g))) : pW ns d 6 14 [u0, u1, u2, u3] [] (mm x R Z Y o A c G g) Q := by
  refine pW_ret 2 (fun call n => ?_) k
  rfl
set_option maxRecDepth 20000 in
theorem b6_16 (hR : RS R) {u1 : Option pm_V} {v2 : Int32} {i3 : Nat} {j1 : Nat} (q3 : i3 < 8) (e1 : v2 = nI j1) (l1 : j1 < 6) {x2 : Nat} {o2 : Int64} {A2 : Nat → Nat → Nat → Int32} {c2 : Nat → Int64} {G2 : Nat → Nat → Int32} {g2 : Nat → Int64}  (hE : pE ns d 37 [pm_r 0 0] (mm x R Z Y o (pm_u A 9 i3 j1 (nI 0)) c G g) (.inl (none), (mm x2 R Z Y o2 A2 c2 G2 g2))) (k : pW ns d 6 27 [some (pm_r 0 0), u1, some (pm_i v2), some (pm_r 8 i3)] [] (mm x2 R Z Y o2 A2 c2 G2 g2) Q) : pW ns d 6 16 [some (pm_r 0 0), u1, some (pm_i v2), some (pm_r 8 i3)] [] (mm x R Z Y o A c G g) Q := by
  refine pW_eq 2 (pc' := 20) (L' := [some (pm_r 0 0), u1, some (pm_i v2), some (pm_r 8 i3)]) (S' := [pm_r 9 i3]) (M' := (mm x R Z Y o A c G g)) (fun call n => ?_) ?_
  · refine Eq.trans (b := pm_g (mm x R Z Y o A c G g) 8 i3 (pm_go call ns d 6 n 20 [some (pm_r 0 0), u1, some (pm_i v2), some (pm_r 8 i3)] [pm_a (R 8 i3 1)] (mm x R Z Y o A c G g))) rfl ?_
    refine (g_ok (f := 8) q3 rfl).trans ?_
    exact (congrArg (fun z => pm_go call ns d 6 n 20 [some (pm_r 0 0), u1, some (pm_i v2), some (pm_r 8 i3)] [pm_a z] (mm x R Z Y o A c G g)) (rs_8_1 hR q3))
  refine pW_eq 3 (pc' := 23) (L' := [some (pm_r 0 0), u1, some (pm_i v2), some (pm_r 8 i3)]) (S' := []) (M' := (mm x R Z Y o (pm_u A 9 i3 j1 (nI 0)) c G g)) (fun call n => ?_) ?_
  · refine Eq.trans (b := pm_g (mm x R Z Y o A c G g) 9 i3 (pm_ix (v2) 6 (fun jx => pm_go call ns d 6 n 23 [some (pm_r 0 0), u1, some (pm_i v2), some (pm_r 8 i3)] [] (pm_u (mA Z A G) 9 i3 jx (nI 0), mB Y o c g, R, pm_tot, x)))) rfl ?_
    refine (g_ok (f := 9) q3 rfl).trans ?_
    refine (ix_ok (j := j1) e1 l1 (by decide)).trans ?_
    exact (congrArg (fun z => pm_go call ns d 6 n 23 [some (pm_r 0 0), u1, some (pm_i v2), some (pm_r 8 i3)] [] (z, mB Y o c g, R, pm_tot, x)) (uA (by decide)))
  refine pW_call (pc' := 24) (r := []) (L' := [some (pm_r 0 0), u1, some (pm_i v2), some (pm_r 8 i3)]) 2 (fun call n => ?_) hE k
  exact Eq.trans (b := pm_g (mm x R Z Y o (pm_u A 9 i3 j1 (nI 0)) c G g) 0 0 (pm_cl call 6 (pm_go call ns d 6 n) 24 37 [pm_r 0 0] [] [some (pm_r 0 0), u1, some (pm_i v2), some (pm_r 8 i3)] (mm x R Z Y o (pm_u A 9 i3 j1 (nI 0)) c G g))) rfl (g_ok (f := 0) (by decide) rfl)
set_option maxRecDepth 20000 in
theorem b6_27 (hR : RS R) {u0 : Option pm_V} {u1 : Option pm_V} {u2 : Option pm_V} {u3 : Option pm_V}   (k : Q (.inl (some (pm_i (nI 0))), (mm x R Z Y o A c G g))) : pW ns d 6 27 [u0, u1, u2, u3] [] (mm x R Z Y o A c G g) Q := by
  refine pW_ret 2 (fun call n => ?_) k
  rfl
set_option maxRecDepth 20000 in
theorem t6_11 (hR : RS R) {u1 : Option pm_V} {v2 : Int32} {i3 : Nat} {vs0 : Int32} (q3 : i3 < 8) (k1 : (vs0 = 0) → Q (.inl (some (pm_i (-nI 1))), (mm x R Z Y o A c G g))) (k2 : (¬ (vs0 = 0)) → pW ns d 6 16 [some (pm_r 0 0), u1, some (pm_i v2), some (pm_r 8 i3)] [] (mm x R Z Y o A c G g) Q) : pW ns d 6 11 [some (pm_r 0 0), u1, some (pm_i v2), some (pm_r 8 i3)] [pm_i vs0] (mm x R Z Y o A c G g) Q := by
  refine b6_11 hR q3 (fun h1 => ?_) (fun h1 => ?_)
  · skip
    exact b6_14 hR   (k1 h1)
  · skip
    exact (k2 h1)
/-! 7 JobLayer.read -/
set_option maxRecDepth 20000 in
theorem b7_0 (hR : RS R) {v1 : Int32} {v2 : Int32} {v3 : Int32} {u4 : Option pm_V} {u5 : Option pm_V} {u6 : Option pm_V}  {x2 : Nat} {o2 : Int64} {A2 : Nat → Nat → Nat → Int32} {c2 : Nat → Int64} {G2 : Nat → Nat → Int32} {g2 : Nat → Int64} {j : Nat} (hE : pE ns d 23 [pm_r 0 0, pm_i v1] (mm x R Z Y o A c G g) (.inl (some (pm_r 8 j)), (mm x2 R Z Y o2 A2 c2 G2 g2))) (k : pW ns d 7 5 [some (pm_r 0 0), some (pm_i v1), some (pm_i v2), some (pm_i v3), u4, u5, u6] [pm_r 8 j] (mm x2 R Z Y o2 A2 c2 G2 g2) Q) : pW ns d 7 0 [some (pm_r 0 0), some (pm_i v1), some (pm_i v2), some (pm_i v3), u4, u5, u6] [] (mm x R Z Y o A c G g) Q := by
  refine pW_call (pc' := 2) (r := []) (L' := [some (pm_r 0 0), some (pm_i v1), some (pm_i v2), some (pm_i v3), u4, u5, u6]) 3 (fun call n => ?_) hE k
  exact Eq.trans (b := pm_g (mm x R Z Y o A c G g) 0 0 (pm_cl call 7 (pm_go call ns d 7 n) 2 23 [pm_r 0 0, pm_i v1] [] [some (pm_r 0 0), some (pm_i v1), some (pm_i v2), some (pm_i v3), u4, u5, u6] (mm x R Z Y o A c G g))) rfl (g_ok (f := 0) (by decide) rfl)
set_option maxRecDepth 20000 in
theorem b7_0x (hR : RS R) {v1 : Int32} {v2 : Int32} {v3 : Int32} {u4 : Option pm_V} {u5 : Option pm_V} {u6 : Option pm_V}  {x2 : Nat} {o2 : Int64} {A2 : Nat → Nat → Nat → Int32} {c2 : Nat → Int64} {G2 : Nat → Nat → Int32} {g2 : Nat → Int64} {e : Nat} (hE : pE ns d 23 [pm_r 0 0, pm_i v1] (mm x R Z Y o A c G g) (.inr e, (mm x2 R Z Y o2 A2 c2 G2 g2))) (k : Q (.inr e, (mm x2 R Z Y o2 A2 c2 G2 g2))) : pW ns d 7 0 [some (pm_r 0 0), some (pm_i v1), some (pm_i v2), some (pm_i v3), u4, u5, u6] [] (mm x R Z Y o A c G g) Q := by
  refine pW_callx (pc' := 2) (r := []) (L' := [some (pm_r 0 0), some (pm_i v1), some (pm_i v2), some (pm_i v3), u4, u5, u6]) 3 (fun call n => ?_) hE ⟨rfl, rfl⟩ k
  exact Eq.trans (b := pm_g (mm x R Z Y o A c G g) 0 0 (pm_cl call 7 (pm_go call ns d 7 n) 2 23 [pm_r 0 0, pm_i v1] [] [some (pm_r 0 0), some (pm_i v1), some (pm_i v2), some (pm_i v3), u4, u5, u6] (mm x R Z Y o A c G g))) rfl (g_ok (f := 0) (by decide) rfl)
set_option maxRecDepth 20000 in
theorem b7_5 (hR : RS R) {u1 : Option pm_V} {v2 : Int32} {v3 : Int32} {u4 : Option pm_V} {u5 : Option pm_V} {u6 : Option pm_V} {is0 : Nat} (qs0 : is0 < 8) {x2 : Nat} {o2 : Int64} {A2 : Nat → Nat → Nat → Int32} {c2 : Nat → Int64} {G2 : Nat → Nat → Int32} {g2 : Nat → Int64}  (hE : pE ns d 22 [pm_i v3] (mm x R Z Y o A c G g) (.inl (none), (mm x2 R Z Y o2 A2 c2 G2 g2))) (k : pW ns d 7 11 [some (pm_r 0 0), u1, some (pm_i v2), some (pm_i v3), some (pm_r 8 is0), u5, u6] [] (mm x2 R Z Y o2 A2 c2 G2 g2) Q) : pW ns d 7 5 [some (pm_r 0 0), u1, some (pm_i v2), some (pm_i v3), u4, u5, u6] [pm_r 8 is0] (mm x R Z Y o A c G g) Q := by
  refine pW_call (pc' := 8) (r := []) (L' := [some (pm_r 0 0), u1, some (pm_i v2), some (pm_i v3), some (pm_r 8 is0), u5, u6]) 3 (fun call n => ?_) hE k
  rfl
set_option maxRecDepth 20000 in
theorem b7_5x (hR : RS R) {u1 : Option pm_V} {v2 : Int32} {v3 : Int32} {u4 : Option pm_V} {u5 : Option pm_V} {u6 : Option pm_V} {is0 : Nat} (qs0 : is0 < 8) {x2 : Nat} {o2 : Int64} {A2 : Nat → Nat → Nat → Int32} {c2 : Nat → Int64} {G2 : Nat → Nat → Int32} {g2 : Nat → Int64} {e : Nat} (hE : pE ns d 22 [pm_i v3] (mm x R Z Y o A c G g) (.inr e, (mm x2 R Z Y o2 A2 c2 G2 g2))) (k : Q (.inr e, (mm x2 R Z Y o2 A2 c2 G2 g2))) : pW ns d 7 5 [some (pm_r 0 0), u1, some (pm_i v2), some (pm_i v3), u4, u5, u6] [pm_r 8 is0] (mm x R Z Y o A c G g) Q := by
  refine pW_callx (pc' := 8) (r := []) (L' := [some (pm_r 0 0), u1, some (pm_i v2), some (pm_i v3), some (pm_r 8 is0), u5, u6]) 3 (fun call n => ?_) hE ⟨rfl, rfl⟩ k
  rfl
set_option maxRecDepth 20000 in
theorem b7_11 (hR : RS R) {u1 : Option pm_V} {v2 : Int32} {v3 : Int32} {i4 : Nat} {u5 : Option pm_V} {u6 : Option pm_V} (q4 : i4 < 8) {x2 : Nat} {o2 : Int64} {A2 : Nat → Nat → Nat → Int32} {c2 : Nat → Int64} {G2 : Nat → Nat → Int32} {g2 : Nat → Int64} {y : Int32} (hE : pE ns d 113 [pm_r 8 i4, pm_i v2] (mm x R Z Y o A c G g) (.inl (some (pm_i y)), (mm x2 R Z Y o2 A2 c2 G2 g2))) (k : pW ns d 7 17 [some (pm_r 0 0), u1, some (pm_i v2), some (pm_i v3), some (pm_r 8 i4), u5, u6] [pm_i y] (mm x2 R Z Y o2 A2 c2 G2 g2) Q) : pW ns d 7 11 [some (pm_r 0 0), u1, some (pm_i v2), some (pm_i v3), some (pm_r 8 i4), u5, u6] [] (mm x R Z Y o A c G g) Q := by
  refine pW_call (pc' := 14) (r := []) (L' := [some (pm_r 0 0), u1, some (pm_i v2), some (pm_i v3), some (pm_r 8 i4), u5, u6]) 3 (fun call n => ?_) hE k
  exact Eq.trans (b := pm_g (mm x R Z Y o A c G g) 8 i4 (pm_cl call 7 (pm_go call ns d 7 n) 14 113 [pm_r 8 i4, pm_i v2] [] [some (pm_r 0 0), u1, some (pm_i v2), some (pm_i v3), some (pm_r 8 i4), u5, u6] (mm x R Z Y o A c G g))) rfl (g_ok (f := 8) q4 rfl)
set_option maxRecDepth 20000 in
theorem b7_17 (hR : RS R) {u1 : Option pm_V} {v2 : Int32} {v3 : Int32} {i4 : Nat} {u5 : Option pm_V} {u6 : Option pm_V} {vs0 : Int32} (q4 : i4 < 8) {x2 : Nat} {o2 : Int64} {A2 : Nat → Nat → Nat → Int32} {c2 : Nat → Int64} {G2 : Nat → Nat → Int32} {g2 : Nat → Int64} {y : Int32} (hE : pE ns d 21 [pm_i vs0] (mm x R Z Y o A c G g) (.inl (some (pm_i y)), (mm x2 R Z Y o2 A2 c2 G2 g2))) (k : pW ns d 7 20 [some (pm_r 0 0), u1, some (pm_i v2), some (pm_i v3), some (pm_r 8 i4), u5, u6] [pm_i y] (mm x2 R Z Y o2 A2 c2 G2 g2) Q) : pW ns d 7 17 [some (pm_r 0 0), u1, some (pm_i v2), some (pm_i v3), some (pm_r 8 i4), u5, u6] [pm_i vs0] (mm x R Z Y o A c G g) Q := by
  refine pW_call (pc' := 17) (r := []) (L' := [some (pm_r 0 0), u1, some (pm_i v2), some (pm_i v3), some (pm_r 8 i4), u5, u6]) 1 (fun call n => ?_) hE k
  rfl
set_option maxRecDepth 20000 in
theorem b7_20 (hR : RS R) {u1 : Option pm_V} {v2 : Int32} {v3 : Int32} {i4 : Nat} {u5 : Option pm_V} {u6 : Option pm_V} {vs0 : Int32} (q4 : i4 < 8)  (k1 : vs0 = 0 → pW ns d 7 33 [some (pm_r 0 0), u1, some (pm_i v2), some (pm_i v3), some (pm_r 8 i4), some (pm_i vs0), u6] [] (mm x R Z Y o A c G g) Q) (k2 : ¬ (vs0 = 0) → pW ns d 7 27 [some (pm_r 0 0), u1, some (pm_i v2), some (pm_i v3), some (pm_r 8 i4), some (pm_i vs0), u6] [] (mm x R Z Y o A c G g) Q) : pW ns d 7 20 [some (pm_r 0 0), u1, some (pm_i v2), some (pm_i v3), some (pm_r 8 i4), u5, u6] [pm_i vs0] (mm x R Z Y o A c G g) Q := by
  exact pW_if 3 (c := vs0 = 0) (fun call n => rfl) k1 k2
set_option maxRecDepth 20000 in
theorem b7_33 (hR : RS R) {u0 : Option pm_V} {u1 : Option pm_V} {u2 : Option pm_V} {u3 : Option pm_V} {u4 : Option pm_V} {u5 : Option pm_V} {u6 : Option pm_V}   (k : Q (.inl (some (pm_i (-nI 1))), (mm x R Z Y o A c G g))) : pW ns d 7 33 [u0, u1, u2, u3, u4, u5, u6] [] (mm x R Z Y o A c G g) Q := by
  refine pW_ret 2 (fun call n => ?_) k
  rfl
set_option maxRecDepth 20000 in
theorem b7_27 (hR : RS R) {u1 : Option pm_V} {v2 : Int32} {v3 : Int32} {i4 : Nat} {v5 : Int32} {u6 : Option pm_V} (q4 : i4 < 8)  (k1 : v5 = nI 3 → pW ns d 7 33 [some (pm_r 0 0), u1, some (pm_i v2), some (pm_i v3), some (pm_r 8 i4), some (pm_i v5), u6] [] (mm x R Z Y o A c G g) Q) (k2 : ¬ (v5 = nI 3) → pW ns d 7 35 [some (pm_r 0 0), u1, some (pm_i v2), some (pm_i v3), some (pm_r 8 i4), some (pm_i v5), u6] [] (mm x R Z Y o A c G g) Q) : pW ns d 7 27 [some (pm_r 0 0), u1, some (pm_i v2), some (pm_i v3), some (pm_r 8 i4), some (pm_i v5), u6] [] (mm x R Z Y o A c G g) Q := by
  exact pW_if 3 (c := v5 = nI 3) (fun call n => rfl) k1 k2
set_option maxRecDepth 20000 in
theorem b7_35 (hR : RS R) {u1 : Option pm_V} {v2 : Int32} {v3 : Int32} {i4 : Nat} {v5 : Int32} {u6 : Option pm_V} (q4 : i4 < 8) {x2 : Nat} {o2 : Int64} {A2 : Nat → Nat → Nat → Int32} {c2 : Nat → Int64} {G2 : Nat → Nat → Int32} {g2 : Nat → Int64}  (hE : pE ns d 107 [pm_r 13 i4, pm_i (nI 1), pm_i v2, pm_i v3, pm_l (Int64.ofNat 0)] (mm x R Z Y o A c G g) (.inl (none), (mm x2 R Z Y o2 A2 c2 G2 g2))) (k : pW ns d 7 47 [some (pm_r 0 0), u1, some (pm_i v2), some (pm_i v3), some (pm_r 8 i4), some (pm_i v5), u6] [] (mm x2 R Z Y o2 A2 c2 G2 g2) Q) : pW ns d 7 35 [some (pm_r 0 0), u1, some (pm_i v2), some (pm_i v3), some (pm_r 8 i4), some (pm_i v5), u6] [] (mm x R Z Y o A c G g) Q := by
  refine pW_eq 2 (pc' := 40) (L' := [some (pm_r 0 0), u1, some (pm_i v2), some (pm_i v3), some (pm_r 8 i4), some (pm_i v5), u6]) (S' := [pm_r 13 i4]) (M' := (mm x R Z Y o A c G g)) (fun call n => ?_) ?_
  · refine Eq.trans (b := pm_g (mm x R Z Y o A c G g) 8 i4 (pm_go call ns d 7 n 40 [some (pm_r 0 0), u1, some (pm_i v2), some (pm_i v3), some (pm_r 8 i4), some (pm_i v5), u6] [pm_a (R 8 i4 5)] (mm x R Z Y o A c G g))) rfl ?_
    refine (g_ok (f := 8) q4 rfl).trans ?_
    exact (congrArg (fun z => pm_go call ns d 7 n 40 [some (pm_r 0 0), u1, some (pm_i v2), some (pm_i v3), some (pm_r 8 i4), some (pm_i v5), u6] [pm_a z] (mm x R Z Y o A c G g)) (rs_8_5 hR q4))
  refine pW_call (pc' := 44) (r := []) (L' := [some (pm_r 0 0), u1, some (pm_i v2), some (pm_i v3), some (pm_r 8 i4), some (pm_i v5), u6]) 5 (fun call n => ?_) hE k
  exact Eq.trans (b := pm_g (mm x R Z Y o A c G g) 13 i4 (pm_cl call 7 (pm_go call ns d 7 n) 44 107 [pm_r 13 i4, pm_i (nI 1), pm_i v2, pm_i v3, pm_l (Int64.ofNat 0)] [] [some (pm_r 0 0), u1, some (pm_i v2), some (pm_i v3), some (pm_r 8 i4), some (pm_i v5), u6] (mm x R Z Y o A c G g))) rfl (g_ok (f := 13) q4 rfl)
set_option maxRecDepth 20000 in
theorem b7_47 (hR : RS R) {u1 : Option pm_V} {u2 : Option pm_V} {u3 : Option pm_V} {i4 : Nat} {v5 : Int32} {u6 : Option pm_V} (q4 : i4 < 8) {x2 : Nat} {o2 : Int64} {A2 : Nat → Nat → Nat → Int32} {c2 : Nat → Int64} {G2 : Nat → Nat → Int32} {g2 : Nat → Int64} {y : Int32} (hE : pE ns d 36 [pm_r 0 0, pm_r 8 i4] (mm x R Z Y o A c G g) (.inl (some (pm_i y)), (mm x2 R Z Y o2 A2 c2 G2 g2))) (k : pW ns d 7 53 [some (pm_r 0 0), u1, u2, u3, some (pm_r 8 i4), some (pm_i v5), u6] [pm_i y] (mm x2 R Z Y o2 A2 c2 G2 g2) Q) : pW ns d 7 47 [some (pm_r 0 0), u1, u2, u3, some (pm_r 8 i4), some (pm_i v5), u6] [] (mm x R Z Y o A c G g) Q := by
  refine pW_call (pc' := 50) (r := []) (L' := [some (pm_r 0 0), u1, u2, u3, some (pm_r 8 i4), some (pm_i v5), u6]) 3 (fun call n => ?_) hE k
  exact Eq.trans (b := pm_g (mm x R Z Y o A c G g) 0 0 (pm_cl call 7 (pm_go call ns d 7 n) 50 36 [pm_r 0 0, pm_r 8 i4] [] [some (pm_r 0 0), u1, u2, u3, some (pm_r 8 i4), some (pm_i v5), u6] (mm x R Z Y o A c G g))) rfl (g_ok (f := 0) (by decide) rfl)
set_option maxRecDepth 20000 in
theorem b7_53 (hR : RS R) {u1 : Option pm_V} {u2 : Option pm_V} {u3 : Option pm_V} {u4 : Option pm_V} {v5 : Int32} {u6 : Option pm_V} {vs0 : Int32}  {x2 : Nat} {o2 : Int64} {A2 : Nat → Nat → Nat → Int32} {c2 : Nat → Int64} {G2 : Nat → Nat → Int32} {g2 : Nat → Int64}  (hE : pE ns d 37 [pm_r 0 0] (mm x R Z Y o A c G g) (.inl (none), (mm x2 R Z Y o2 A2 c2 G2 g2))) (k : pW ns d 7 59 [some (pm_r 0 0), u1, u2, u3, u4, some (pm_i v5), some (pm_i vs0)] [] (mm x2 R Z Y o2 A2 c2 G2 g2) Q) : pW ns d 7 53 [some (pm_r 0 0), u1, u2, u3, u4, some (pm_i v5), u6] [pm_i vs0] (mm x R Z Y o A c G g) Q := by
  refine pW_call (pc' := 56) (r := []) (L' := [some (pm_r 0 0), u1, u2, u3, u4, some (pm_i v5), some (pm_i vs0)]) 3 (fun call n => ?_) hE k
  exact Eq.trans (b := pm_g (mm x R Z Y o A c G g) 0 0 (pm_cl call 7 (pm_go call ns d 7 n) 56 37 [pm_r 0 0] [] [some (pm_r 0 0), u1, u2, u3, u4, some (pm_i v5), some (pm_i vs0)] (mm x R Z Y o A c G g))) rfl (g_ok (f := 0) (by decide) rfl)
set_option maxRecDepth 20000 in
theorem b7_59 (hR : RS R) {u0 : Option pm_V} {u1 : Option pm_V} {u2 : Option pm_V} {u3 : Option pm_V} {u4 : Option pm_V} {u5 : Option pm_V} {v6 : Int32}   (k : Q (.inl (some (pm_i v6)), (mm x R Z Y o A c G g))) : pW ns d 7 59 [u0, u1, u2, u3, u4, u5, some (pm_i v6)] [] (mm x R Z Y o A c G g) Q := by
  refine pW_ret 2 (fun call n => ?_) k
  rfl
set_option maxRecDepth 20000 in
theorem t7_20 (hR : RS R) {u1 : Option pm_V} {v2 : Int32} {v3 : Int32} {i4 : Nat} {u5 : Option pm_V} {u6 : Option pm_V} {vs0 : Int32} (q4 : i4 < 8) (k1 : (vs0 = 0) → Q (.inl (some (pm_i (-nI 1))), (mm x R Z Y o A c G g))) (k2 : (¬ (vs0 = 0)) → (vs0 = nI 3) → Q (.inl (some (pm_i (-nI 1))), (mm x R Z Y o A c G g))) (k3 : (¬ (vs0 = 0)) → (¬ (vs0 = nI 3)) → pW ns d 7 35 [some (pm_r 0 0), u1, some (pm_i v2), some (pm_i v3), some (pm_r 8 i4), some (pm_i vs0), u6] [] (mm x R Z Y o A c G g) Q) : pW ns d 7 20 [some (pm_r 0 0), u1, some (pm_i v2), some (pm_i v3), some (pm_r 8 i4), u5, u6] [pm_i vs0] (mm x R Z Y o A c G g) Q := by
  refine b7_20 hR q4 (fun h1 => ?_) (fun h1 => ?_)
  · skip
    exact b7_33 hR   (k1 h1)
  · skip
    refine b7_27 hR q4  (fun h2 => ?_) (fun h2 => ?_)
    · skip
      exact b7_33 hR   (k2 h1 h2)
    · skip
      exact (k3 h1 h2)
set_option maxRecDepth 20000 in
theorem t7_27 (hR : RS R) {u1 : Option pm_V} {v2 : Int32} {v3 : Int32} {i4 : Nat} {v5 : Int32} {u6 : Option pm_V} (q4 : i4 < 8) (k1 : (v5 = nI 3) → Q (.inl (some (pm_i (-nI 1))), (mm x R Z Y o A c G g))) (k2 : (¬ (v5 = nI 3)) → pW ns d 7 35 [some (pm_r 0 0), u1, some (pm_i v2), some (pm_i v3), some (pm_r 8 i4), some (pm_i v5), u6] [] (mm x R Z Y o A c G g) Q) : pW ns d 7 27 [some (pm_r 0 0), u1, some (pm_i v2), some (pm_i v3), some (pm_r 8 i4), some (pm_i v5), u6] [] (mm x R Z Y o A c G g) Q := by
  refine b7_27 hR q4 (fun h1 => ?_) (fun h1 => ?_)
  · skip
    exact b7_33 hR   (k1 h1)
  · skip
    exact (k2 h1)
/-! 8 JobLayer.write -/
set_option maxRecDepth 20000 in
theorem b8_0 (hR : RS R) {v1 : Int32} {v2 : Int32} {w3 : Int64} {u4 : Option pm_V} {v5 : Int32} {u6 : Option pm_V} {u7 : Option pm_V} {u8 : Option pm_V}  {x2 : Nat} {o2 : Int64} {A2 : Nat → Nat → Nat → Int32} {c2 : Nat → Int64} {G2 : Nat → Nat → Int32} {g2 : Nat → Int64} {j : Nat} (hE : pE ns d 23 [pm_r 0 0, pm_i v1] (mm x R Z Y o A c G g) (.inl (some (pm_r 8 j)), (mm x2 R Z Y o2 A2 c2 G2 g2))) (k : pW ns d 8 5 [some (pm_r 0 0), some (pm_i v1), some (pm_i v2), some (pm_l (w3)), u4, some (pm_i v5), u6, u7, u8] [pm_r 8 j] (mm x2 R Z Y o2 A2 c2 G2 g2) Q) : pW ns d 8 0 [some (pm_r 0 0), some (pm_i v1), some (pm_i v2), some (pm_l (w3)), u4, some (pm_i v5), u6, u7, u8] [] (mm x R Z Y o A c G g) Q := by
  refine pW_call (pc' := 2) (r := []) (L' := [some (pm_r 0 0), some (pm_i v1), some (pm_i v2), some (pm_l (w3)), u4, some (pm_i v5), u6, u7, u8]) 3 (fun call n => ?_) hE k
  exact Eq.trans (b := pm_g (mm x R Z Y o A c G g) 0 0 (pm_cl call 8 (pm_go call ns d 8 n) 2 23 [pm_r 0 0, pm_i v1] [] [some (pm_r 0 0), some (pm_i v1), some (pm_i v2), some (pm_l (w3)), u4, some (pm_i v5), u6, u7, u8] (mm x R Z Y o A c G g))) rfl (g_ok (f := 0) (by decide) rfl)
set_option maxRecDepth 20000 in
theorem b8_0x (hR : RS R) {v1 : Int32} {v2 : Int32} {w3 : Int64} {u4 : Option pm_V} {v5 : Int32} {u6 : Option pm_V} {u7 : Option pm_V} {u8 : Option pm_V}  {x2 : Nat} {o2 : Int64} {A2 : Nat → Nat → Nat → Int32} {c2 : Nat → Int64} {G2 : Nat → Nat → Int32} {g2 : Nat → Int64} {e : Nat} (hE : pE ns d 23 [pm_r 0 0, pm_i v1] (mm x R Z Y o A c G g) (.inr e, (mm x2 R Z Y o2 A2 c2 G2 g2))) (k : Q (.inr e, (mm x2 R Z Y o2 A2 c2 G2 g2))) : pW ns d 8 0 [some (pm_r 0 0), some (pm_i v1), some (pm_i v2), some (pm_l (w3)), u4, some (pm_i v5), u6, u7, u8] [] (mm x R Z Y o A c G g) Q := by
  refine pW_callx (pc' := 2) (r := []) (L' := [some (pm_r 0 0), some (pm_i v1), some (pm_i v2), some (pm_l (w3)), u4, some (pm_i v5), u6, u7, u8]) 3 (fun call n => ?_) hE ⟨rfl, rfl⟩ k
  exact Eq.trans (b := pm_g (mm x R Z Y o A c G g) 0 0 (pm_cl call 8 (pm_go call ns d 8 n) 2 23 [pm_r 0 0, pm_i v1] [] [some (pm_r 0 0), some (pm_i v1), some (pm_i v2), some (pm_l (w3)), u4, some (pm_i v5), u6, u7, u8] (mm x R Z Y o A c G g))) rfl (g_ok (f := 0) (by decide) rfl)
set_option maxRecDepth 20000 in
theorem b8_5 (hR : RS R) {u1 : Option pm_V} {v2 : Int32} {w3 : Int64} {u4 : Option pm_V} {v5 : Int32} {u6 : Option pm_V} {u7 : Option pm_V} {u8 : Option pm_V} {is0 : Nat} (qs0 : is0 < 8) {x2 : Nat} {o2 : Int64} {A2 : Nat → Nat → Nat → Int32} {c2 : Nat → Int64} {G2 : Nat → Nat → Int32} {g2 : Nat → Int64}  (hE : pE ns d 22 [pm_i v5] (mm x R Z Y o A c G g) (.inl (none), (mm x2 R Z Y o2 A2 c2 G2 g2))) (k : pW ns d 8 12 [some (pm_r 0 0), u1, some (pm_i v2), some (pm_l (w3)), u4, some (pm_i v5), some (pm_r 8 is0), u7, u8] [] (mm x2 R Z Y o2 A2 c2 G2 g2) Q) : pW ns d 8 5 [some (pm_r 0 0), u1, some (pm_i v2), some (pm_l (w3)), u4, some (pm_i v5), u6, u7, u8] [pm_r 8 is0] (mm x R Z Y o A c G g) Q := by
  refine pW_call (pc' := 9) (r := []) (L' := [some (pm_r 0 0), u1, some (pm_i v2), some (pm_l (w3)), u4, some (pm_i v5), some (pm_r 8 is0), u7, u8]) 3 (fun call n => ?_) hE k
  rfl
set_option maxRecDepth 20000 in
theorem b8_5x (hR : RS R) {u1 : Option pm_V} {v2 : Int32} {w3 : Int64} {u4 : Option pm_V} {v5 : Int32} {u6 : Option pm_V} {u7 : Option pm_V} {u8 : Option pm_V} {is0 : Nat} (qs0 : is0 < 8) {x2 : Nat} {o2 : Int64} {A2 : Nat → Nat → Nat → Int32} {c2 : Nat → Int64} {G2 : Nat → Nat → Int32} {g2 : Nat → Int64} {e : Nat} (hE : pE ns d 22 [pm_i v5] (mm x R Z Y o A c G g) (.inr e, (mm x2 R Z Y o2 A2 c2 G2 g2))) (k : Q (.inr e, (mm x2 R Z Y o2 A2 c2 G2 g2))) : pW ns d 8 5 [some (pm_r 0 0), u1, some (pm_i v2), some (pm_l (w3)), u4, some (pm_i v5), u6, u7, u8] [pm_r 8 is0] (mm x R Z Y o A c G g) Q := by
  refine pW_callx (pc' := 9) (r := []) (L' := [some (pm_r 0 0), u1, some (pm_i v2), some (pm_l (w3)), u4, some (pm_i v5), some (pm_r 8 is0), u7, u8]) 3 (fun call n => ?_) hE ⟨rfl, rfl⟩ k
  rfl
set_option maxRecDepth 20000 in
theorem b8_12 (hR : RS R) {u1 : Option pm_V} {v2 : Int32} {w3 : Int64} {u4 : Option pm_V} {v5 : Int32} {i6 : Nat} {u7 : Option pm_V} {u8 : Option pm_V} (q6 : i6 < 8) {x2 : Nat} {o2 : Int64} {A2 : Nat → Nat → Nat → Int32} {c2 : Nat → Int64} {G2 : Nat → Nat → Int32} {g2 : Nat → Int64} {y : Int32} (hE : pE ns d 113 [pm_r 8 i6, pm_i v2] (mm x R Z Y o A c G g) (.inl (some (pm_i y)), (mm x2 R Z Y o2 A2 c2 G2 g2))) (k : pW ns d 8 18 [some (pm_r 0 0), u1, some (pm_i v2), some (pm_l (w3)), u4, some (pm_i v5), some (pm_r 8 i6), u7, u8] [pm_i y] (mm x2 R Z Y o2 A2 c2 G2 g2) Q) : pW ns d 8 12 [some (pm_r 0 0), u1, some (pm_i v2), some (pm_l (w3)), u4, some (pm_i v5), some (pm_r 8 i6), u7, u8] [] (mm x R Z Y o A c G g) Q := by
  refine pW_call (pc' := 15) (r := []) (L' := [some (pm_r 0 0), u1, some (pm_i v2), some (pm_l (w3)), u4, some (pm_i v5), some (pm_r 8 i6), u7, u8]) 3 (fun call n => ?_) hE k
  exact Eq.trans (b := pm_g (mm x R Z Y o A c G g) 8 i6 (pm_cl call 8 (pm_go call ns d 8 n) 15 113 [pm_r 8 i6, pm_i v2] [] [some (pm_r 0 0), u1, some (pm_i v2), some (pm_l (w3)), u4, some (pm_i v5), some (pm_r 8 i6), u7, u8] (mm x R Z Y o A c G g))) rfl (g_ok (f := 8) q6 rfl)
set_option maxRecDepth 20000 in
theorem b8_18 (hR : RS R) {u1 : Option pm_V} {v2 : Int32} {w3 : Int64} {u4 : Option pm_V} {v5 : Int32} {i6 : Nat} {u7 : Option pm_V} {u8 : Option pm_V} {vs0 : Int32} (q6 : i6 < 8) {x2 : Nat} {o2 : Int64} {A2 : Nat → Nat → Nat → Int32} {c2 : Nat → Int64} {G2 : Nat → Nat → Int32} {g2 : Nat → Int64} {y : Int32} (hE : pE ns d 21 [pm_i vs0] (mm x R Z Y o A c G g) (.inl (some (pm_i y)), (mm x2 R Z Y o2 A2 c2 G2 g2))) (k : pW ns d 8 21 [some (pm_r 0 0), u1, some (pm_i v2), some (pm_l (w3)), u4, some (pm_i v5), some (pm_r 8 i6), u7, u8] [pm_i y] (mm x2 R Z Y o2 A2 c2 G2 g2) Q) : pW ns d 8 18 [some (pm_r 0 0), u1, some (pm_i v2), some (pm_l (w3)), u4, some (pm_i v5), some (pm_r 8 i6), u7, u8] [pm_i vs0] (mm x R Z Y o A c G g) Q := by
  refine pW_call (pc' := 18) (r := []) (L' := [some (pm_r 0 0), u1, some (pm_i v2), some (pm_l (w3)), u4, some (pm_i v5), some (pm_r 8 i6), u7, u8]) 1 (fun call n => ?_) hE k
  rfl
set_option maxRecDepth 20000 in
theorem b8_21 (hR : RS R) {u1 : Option pm_V} {v2 : Int32} {w3 : Int64} {u4 : Option pm_V} {v5 : Int32} {i6 : Nat} {u7 : Option pm_V} {u8 : Option pm_V} {vs0 : Int32} (q6 : i6 < 8)  (k1 : vs0 = 0 → pW ns d 8 34 [some (pm_r 0 0), u1, some (pm_i v2), some (pm_l (w3)), u4, some (pm_i v5), some (pm_r 8 i6), some (pm_i vs0), u8] [] (mm x R Z Y o A c G g) Q) (k2 : ¬ (vs0 = 0) → pW ns d 8 28 [some (pm_r 0 0), u1, some (pm_i v2), some (pm_l (w3)), u4, some (pm_i v5), some (pm_r 8 i6), some (pm_i vs0), u8] [] (mm x R Z Y o A c G g) Q) : pW ns d 8 21 [some (pm_r 0 0), u1, some (pm_i v2), some (pm_l (w3)), u4, some (pm_i v5), some (pm_r 8 i6), u7, u8] [pm_i vs0] (mm x R Z Y o A c G g) Q := by
  exact pW_if 3 (c := vs0 = 0) (fun call n => rfl) k1 k2
set_option maxRecDepth 20000 in
theorem b8_34 (hR : RS R) {u0 : Option pm_V} {u1 : Option pm_V} {u2 : Option pm_V} {u3 : Option pm_V} {u4 : Option pm_V} {u5 : Option pm_V} {u6 : Option pm_V} {u7 : Option pm_V} {u8 : Option pm_V}   (k : Q (.inl (some (pm_i (-nI 1))), (mm x R Z Y o A c G g))) : pW ns d 8 34 [u0, u1, u2, u3, u4, u5, u6, u7, u8] [] (mm x R Z Y o A c G g) Q := by
  refine pW_ret 2 (fun call n => ?_) k
  rfl
set_option maxRecDepth 20000 in
theorem b8_28 (hR : RS R) {u1 : Option pm_V} {v2 : Int32} {w3 : Int64} {u4 : Option pm_V} {v5 : Int32} {i6 : Nat} {v7 : Int32} {u8 : Option pm_V} (q6 : i6 < 8)  (k1 : v7 = nI 2 → pW ns d 8 34 [some (pm_r 0 0), u1, some (pm_i v2), some (pm_l (w3)), u4, some (pm_i v5), some (pm_r 8 i6), some (pm_i v7), u8] [] (mm x R Z Y o A c G g) Q) (k2 : ¬ (v7 = nI 2) → pW ns d 8 36 [some (pm_r 0 0), u1, some (pm_i v2), some (pm_l (w3)), u4, some (pm_i v5), some (pm_r 8 i6), some (pm_i v7), u8] [] (mm x R Z Y o A c G g) Q) : pW ns d 8 28 [some (pm_r 0 0), u1, some (pm_i v2), some (pm_l (w3)), u4, some (pm_i v5), some (pm_r 8 i6), some (pm_i v7), u8] [] (mm x R Z Y o A c G g) Q := by
  exact pW_if 3 (c := v7 = nI 2) (fun call n => rfl) k1 k2
set_option maxRecDepth 20000 in
theorem b8_36 (hR : RS R) {u1 : Option pm_V} {v2 : Int32} {w3 : Int64} {u4 : Option pm_V} {v5 : Int32} {i6 : Nat} {v7 : Int32} {u8 : Option pm_V} (q6 : i6 < 8) {x2 : Nat} {o2 : Int64} {A2 : Nat → Nat → Nat → Int32} {c2 : Nat → Int64} {G2 : Nat → Nat → Int32} {g2 : Nat → Int64}  (hE : pE ns d 107 [pm_r 13 i6, pm_i (nI 2), pm_i v2, pm_i v5, pm_l (w3)] (mm x R Z Y o A c G g) (.inl (none), (mm x2 R Z Y o2 A2 c2 G2 g2))) (k : pW ns d 8 49 [some (pm_r 0 0), u1, some (pm_i v2), some (pm_l (w3)), u4, some (pm_i v5), some (pm_r 8 i6), some (pm_i v7), u8] [] (mm x2 R Z Y o2 A2 c2 G2 g2) Q) : pW ns d 8 36 [some (pm_r 0 0), u1, some (pm_i v2), some (pm_l (w3)), u4, some (pm_i v5), some (pm_r 8 i6), some (pm_i v7), u8] [] (mm x R Z Y o A c G g) Q := by
  refine pW_eq 2 (pc' := 41) (L' := [some (pm_r 0 0), u1, some (pm_i v2), some (pm_l (w3)), u4, some (pm_i v5), some (pm_r 8 i6), some (pm_i v7), u8]) (S' := [pm_r 13 i6]) (M' := (mm x R Z Y o A c G g)) (fun call n => ?_) ?_
  · refine Eq.trans (b := pm_g (mm x R Z Y o A c G g) 8 i6 (pm_go call ns d 8 n 41 [some (pm_r 0 0), u1, some (pm_i v2), some (pm_l (w3)), u4, some (pm_i v5), some (pm_r 8 i6), some (pm_i v7), u8] [pm_a (R 8 i6 5)] (mm x R Z Y o A c G g))) rfl ?_
    refine (g_ok (f := 8) q6 rfl).trans ?_
    exact (congrArg (fun z => pm_go call ns d 8 n 41 [some (pm_r 0 0), u1, some (pm_i v2), some (pm_l (w3)), u4, some (pm_i v5), some (pm_r 8 i6), some (pm_i v7), u8] [pm_a z] (mm x R Z Y o A c G g)) (rs_8_5 hR q6))
  refine pW_call (pc' := 46) (r := []) (L' := [some (pm_r 0 0), u1, some (pm_i v2), some (pm_l (w3)), u4, some (pm_i v5), some (pm_r 8 i6), some (pm_i v7), u8]) 5 (fun call n => ?_) hE k
  exact Eq.trans (b := pm_g (mm x R Z Y o A c G g) 13 i6 (pm_cl call 8 (pm_go call ns d 8 n) 46 107 [pm_r 13 i6, pm_i (nI 2), pm_i v2, pm_i v5, pm_l (w3)] [] [some (pm_r 0 0), u1, some (pm_i v2), some (pm_l (w3)), u4, some (pm_i v5), some (pm_r 8 i6), some (pm_i v7), u8] (mm x R Z Y o A c G g))) rfl (g_ok (f := 13) q6 rfl)
set_option maxRecDepth 20000 in
theorem b8_49 (hR : RS R) {u1 : Option pm_V} {u2 : Option pm_V} {u3 : Option pm_V} {u4 : Option pm_V} {u5 : Option pm_V} {i6 : Nat} {v7 : Int32} {u8 : Option pm_V} (q6 : i6 < 8) {x2 : Nat} {o2 : Int64} {A2 : Nat → Nat → Nat → Int32} {c2 : Nat → Int64} {G2 : Nat → Nat → Int32} {g2 : Nat → Int64} {y : Int32} (hE : pE ns d 36 [pm_r 0 0, pm_r 8 i6] (mm x R Z Y o A c G g) (.inl (some (pm_i y)), (mm x2 R Z Y o2 A2 c2 G2 g2))) (k : pW ns d 8 55 [some (pm_r 0 0), u1, u2, u3, u4, u5, some (pm_r 8 i6), some (pm_i v7), u8] [pm_i y] (mm x2 R Z Y o2 A2 c2 G2 g2) Q) : pW ns d 8 49 [some (pm_r 0 0), u1, u2, u3, u4, u5, some (pm_r 8 i6), some (pm_i v7), u8] [] (mm x R Z Y o A c G g) Q := by
  refine pW_call (pc' := 52) (r := []) (L' := [some (pm_r 0 0), u1, u2, u3, u4, u5, some (pm_r 8 i6), some (pm_i v7), u8]) 3 (fun call n => ?_) hE k
  exact Eq.trans (b := pm_g (mm x R Z Y o A c G g) 0 0 (pm_cl call 8 (pm_go call ns d 8 n) 52 36 [pm_r 0 0, pm_r 8 i6] [] [some (pm_r 0 0), u1, u2, u3, u4, u5, some (pm_r 8 i6), some (pm_i v7), u8] (mm x R Z Y o A c G g))) rfl (g_ok (f := 0) (by decide) rfl)
set_option maxRecDepth 20000 in
theorem b8_55 (hR : RS R) {u1 : Option pm_V} {u2 : Option pm_V} {u3 : Option pm_V} {u4 : Option pm_V} {u5 : Option pm_V} {u6 : Option pm_V} {v7 : Int32} {u8 : Option pm_V} {vs0 : Int32}  {x2 : Nat} {o2 : Int64} {A2 : Nat → Nat → Nat → Int32} {c2 : Nat → Int64} {G2 : Nat → Nat → Int32} {g2 : Nat → Int64}  (hE : pE ns d 37 [pm_r 0 0] (mm x R Z Y o A c G g) (.inl (none), (mm x2 R Z Y o2 A2 c2 G2 g2))) (k : pW ns d 8 61 [some (pm_r 0 0), u1, u2, u3, u4, u5, u6, some (pm_i v7), some (pm_i vs0)] [] (mm x2 R Z Y o2 A2 c2 G2 g2) Q) : pW ns d 8 55 [some (pm_r 0 0), u1, u2, u3, u4, u5, u6, some (pm_i v7), u8] [pm_i vs0] (mm x R Z Y o A c G g) Q := by
  refine pW_call (pc' := 58) (r := []) (L' := [some (pm_r 0 0), u1, u2, u3, u4, u5, u6, some (pm_i v7), some (pm_i vs0)]) 3 (fun call n => ?_) hE k
  exact Eq.trans (b := pm_g (mm x R Z Y o A c G g) 0 0 (pm_cl call 8 (pm_go call ns d 8 n) 58 37 [pm_r 0 0] [] [some (pm_r 0 0), u1, u2, u3, u4, u5, u6, some (pm_i v7), some (pm_i vs0)] (mm x R Z Y o A c G g))) rfl (g_ok (f := 0) (by decide) rfl)
set_option maxRecDepth 20000 in
theorem b8_61 (hR : RS R) {u0 : Option pm_V} {u1 : Option pm_V} {u2 : Option pm_V} {u3 : Option pm_V} {u4 : Option pm_V} {u5 : Option pm_V} {u6 : Option pm_V} {u7 : Option pm_V} {v8 : Int32}   (k : Q (.inl (some (pm_i v8)), (mm x R Z Y o A c G g))) : pW ns d 8 61 [u0, u1, u2, u3, u4, u5, u6, u7, some (pm_i v8)] [] (mm x R Z Y o A c G g) Q := by
  refine pW_ret 2 (fun call n => ?_) k
  rfl
set_option maxRecDepth 20000 in
theorem t8_21 (hR : RS R) {u1 : Option pm_V} {v2 : Int32} {w3 : Int64} {u4 : Option pm_V} {v5 : Int32} {i6 : Nat} {u7 : Option pm_V} {u8 : Option pm_V} {vs0 : Int32} (q6 : i6 < 8) (k1 : (vs0 = 0) → Q (.inl (some (pm_i (-nI 1))), (mm x R Z Y o A c G g))) (k2 : (¬ (vs0 = 0)) → (vs0 = nI 2) → Q (.inl (some (pm_i (-nI 1))), (mm x R Z Y o A c G g))) (k3 : (¬ (vs0 = 0)) → (¬ (vs0 = nI 2)) → pW ns d 8 36 [some (pm_r 0 0), u1, some (pm_i v2), some (pm_l (w3)), u4, some (pm_i v5), some (pm_r 8 i6), some (pm_i vs0), u8] [] (mm x R Z Y o A c G g) Q) : pW ns d 8 21 [some (pm_r 0 0), u1, some (pm_i v2), some (pm_l (w3)), u4, some (pm_i v5), some (pm_r 8 i6), u7, u8] [pm_i vs0] (mm x R Z Y o A c G g) Q := by
  refine b8_21 hR q6 (fun h1 => ?_) (fun h1 => ?_)
  · skip
    exact b8_34 hR   (k1 h1)
  · skip
    refine b8_28 hR q6  (fun h2 => ?_) (fun h2 => ?_)
    · skip
      exact b8_34 hR   (k2 h1 h2)
    · skip
      exact (k3 h1 h2)
set_option maxRecDepth 20000 in
theorem t8_28 (hR : RS R) {u1 : Option pm_V} {v2 : Int32} {w3 : Int64} {u4 : Option pm_V} {v5 : Int32} {i6 : Nat} {v7 : Int32} {u8 : Option pm_V} (q6 : i6 < 8) (k1 : (v7 = nI 2) → Q (.inl (some (pm_i (-nI 1))), (mm x R Z Y o A c G g))) (k2 : (¬ (v7 = nI 2)) → pW ns d 8 36 [some (pm_r 0 0), u1, some (pm_i v2), some (pm_l (w3)), u4, some (pm_i v5), some (pm_r 8 i6), some (pm_i v7), u8] [] (mm x R Z Y o A c G g) Q) : pW ns d 8 28 [some (pm_r 0 0), u1, some (pm_i v2), some (pm_l (w3)), u4, some (pm_i v5), some (pm_r 8 i6), some (pm_i v7), u8] [] (mm x R Z Y o A c G g) Q := by
  refine b8_28 hR q6 (fun h1 => ?_) (fun h1 => ?_)
  · skip
    exact b8_34 hR   (k1 h1)
  · skip
    exact (k2 h1)
/-! 9 JobLayer.reap -/
set_option maxRecDepth 20000 in
theorem b9_0 (hR : RS R) {v1 : Int32} {v2 : Int32} {u3 : Option pm_V} {u4 : Option pm_V}  {x2 : Nat} {o2 : Int64} {A2 : Nat → Nat → Nat → Int32} {c2 : Nat → Int64} {G2 : Nat → Nat → Int32} {g2 : Nat → Int64} {j : Nat} (hE : pE ns d 23 [pm_r 0 0, pm_i v1] (mm x R Z Y o A c G g) (.inl (some (pm_r 8 j)), (mm x2 R Z Y o2 A2 c2 G2 g2))) (k : pW ns d 9 5 [some (pm_r 0 0), some (pm_i v1), some (pm_i v2), u3, u4] [pm_r 8 j] (mm x2 R Z Y o2 A2 c2 G2 g2) Q) : pW ns d 9 0 [some (pm_r 0 0), some (pm_i v1), some (pm_i v2), u3, u4] [] (mm x R Z Y o A c G g) Q := by
  refine pW_call (pc' := 2) (r := []) (L' := [some (pm_r 0 0), some (pm_i v1), some (pm_i v2), u3, u4]) 3 (fun call n => ?_) hE k
  exact Eq.trans (b := pm_g (mm x R Z Y o A c G g) 0 0 (pm_cl call 9 (pm_go call ns d 9 n) 2 23 [pm_r 0 0, pm_i v1] [] [some (pm_r 0 0), some (pm_i v1), some (pm_i v2), u3, u4] (mm x R Z Y o A c G g))) rfl (g_ok (f := 0) (by decide) rfl)
set_option maxRecDepth 20000 in
theorem b9_0x (hR : RS R) {v1 : Int32} {v2 : Int32} {u3 : Option pm_V} {u4 : Option pm_V}  {x2 : Nat} {o2 : Int64} {A2 : Nat → Nat → Nat → Int32} {c2 : Nat → Int64} {G2 : Nat → Nat → Int32} {g2 : Nat → Int64} {e : Nat} (hE : pE ns d 23 [pm_r 0 0, pm_i v1] (mm x R Z Y o A c G g) (.inr e, (mm x2 R Z Y o2 A2 c2 G2 g2))) (k : Q (.inr e, (mm x2 R Z Y o2 A2 c2 G2 g2))) : pW ns d 9 0 [some (pm_r 0 0), some (pm_i v1), some (pm_i v2), u3, u4] [] (mm x R Z Y o A c G g) Q := by
  refine pW_callx (pc' := 2) (r := []) (L' := [some (pm_r 0 0), some (pm_i v1), some (pm_i v2), u3, u4]) 3 (fun call n => ?_) hE ⟨rfl, rfl⟩ k
  exact Eq.trans (b := pm_g (mm x R Z Y o A c G g) 0 0 (pm_cl call 9 (pm_go call ns d 9 n) 2 23 [pm_r 0 0, pm_i v1] [] [some (pm_r 0 0), some (pm_i v1), some (pm_i v2), u3, u4] (mm x R Z Y o A c G g))) rfl (g_ok (f := 0) (by decide) rfl)
set_option maxRecDepth 20000 in
theorem b9_5 (hR : RS R) {u1 : Option pm_V} {v2 : Int32} {u3 : Option pm_V} {u4 : Option pm_V} {is0 : Nat} (qs0 : is0 < 8) (z1 : v2 = 0 ∨ v2 = 1) {x2 : Nat} {o2 : Int64} {A2 : Nat → Nat → Nat → Int32} {c2 : Nat → Int64} {G2 : Nat → Nat → Int32} {g2 : Nat → Int64} {y : Int32} (hE : pE ns d 36 [pm_r 0 0, pm_r 8 is0] (mm x R Z Y o (pm_u (pm_u A 13 is0 0 (nI 3)) 13 is0 4 v2) c G g) (.inl (some (pm_i y)), (mm x2 R Z Y o2 A2 c2 G2 g2))) (k : pW ns d 9 27 [some (pm_r 0 0), u1, some (pm_i v2), some (pm_r 8 is0), u4] [pm_i y] (mm x2 R Z Y o2 A2 c2 G2 g2) Q) : pW ns d 9 5 [some (pm_r 0 0), u1, some (pm_i v2), u3, u4] [pm_r 8 is0] (mm x R Z Y o A c G g) Q := by
  refine pW_eq 3 (pc' := 10) (L' := [some (pm_r 0 0), u1, some (pm_i v2), some (pm_r 8 is0), u4]) (S' := [pm_r 13 is0]) (M' := (mm x R Z Y o A c G g)) (fun call n => ?_) ?_
  · refine Eq.trans (b := pm_g (mm x R Z Y o A c G g) 8 is0 (pm_go call ns d 9 n 10 [some (pm_r 0 0), u1, some (pm_i v2), some (pm_r 8 is0), u4] [pm_a (R 8 is0 5)] (mm x R Z Y o A c G g))) rfl ?_
    refine (g_ok (f := 8) qs0 rfl).trans ?_
    exact (congrArg (fun z => pm_go call ns d 9 n 10 [some (pm_r 0 0), u1, some (pm_i v2), some (pm_r 8 is0), u4] [pm_a z] (mm x R Z Y o A c G g)) (rs_8_5 hR qs0))
  refine pW_eq 2 (pc' := 14) (L' := [some (pm_r 0 0), u1, some (pm_i v2), some (pm_r 8 is0), u4]) (S' := []) (M' := (mm x R Z Y o (pm_u A 13 is0 0 (nI 3)) c G g)) (fun call n => ?_) ?_
  · refine Eq.trans (b := pm_g (mm x R Z Y o A c G g) 13 is0 (pm_go call ns d 9 n 14 [some (pm_r 0 0), u1, some (pm_i v2), some (pm_r 8 is0), u4] [] (pm_u (mA Z A G) 13 is0 0 (nI 3), mB Y o c g, R, pm_tot, x))) rfl ?_
    refine (g_ok (f := 13) qs0 rfl).trans ?_
    exact (congrArg (fun z => pm_go call ns d 9 n 14 [some (pm_r 0 0), u1, some (pm_i v2), some (pm_r 8 is0), u4] [] (z, mB Y o c g, R, pm_tot, x)) (uA (by decide)))
  refine pW_eq 2 (pc' := 18) (L' := [some (pm_r 0 0), u1, some (pm_i v2), some (pm_r 8 is0), u4]) (S' := [pm_r 13 is0]) (M' := (mm x R Z Y o (pm_u A 13 is0 0 (nI 3)) c G g)) (fun call n => ?_) ?_
  · refine Eq.trans (b := pm_g (mm x R Z Y o (pm_u A 13 is0 0 (nI 3)) c G g) 8 is0 (pm_go call ns d 9 n 18 [some (pm_r 0 0), u1, some (pm_i v2), some (pm_r 8 is0), u4] [pm_a (R 8 is0 5)] (mm x R Z Y o (pm_u A 13 is0 0 (nI 3)) c G g))) rfl ?_
    refine (g_ok (f := 8) qs0 rfl).trans ?_
    exact (congrArg (fun z => pm_go call ns d 9 n 18 [some (pm_r 0 0), u1, some (pm_i v2), some (pm_r 8 is0), u4] [pm_a z] (mm x R Z Y o (pm_u A 13 is0 0 (nI 3)) c G g)) (rs_8_5 hR qs0))
  refine pW_eq 2 (pc' := 22) (L' := [some (pm_r 0 0), u1, some (pm_i v2), some (pm_r 8 is0), u4]) (S' := []) (M' := (mm x R Z Y o (pm_u (pm_u A 13 is0 0 (nI 3)) 13 is0 4 v2) c G g)) (fun call n => ?_) ?_
  · refine Eq.trans (b := pm_g (mm x R Z Y o (pm_u A 13 is0 0 (nI 3)) c G g) 13 is0 (pm_bo (v2) (pm_go call ns d 9 n 22 [some (pm_r 0 0), u1, some (pm_i v2), some (pm_r 8 is0), u4] [] (pm_u (mA Z (pm_u A 13 is0 0 (nI 3)) G) 13 is0 4 v2, mB Y o c g, R, pm_tot, x)))) rfl ?_
    refine (g_ok (f := 13) qs0 rfl).trans ?_
    refine (bo_ok z1).trans ?_
    exact (congrArg (fun z => pm_go call ns d 9 n 22 [some (pm_r 0 0), u1, some (pm_i v2), some (pm_r 8 is0), u4] [] (z, mB Y o c g, R, pm_tot, x)) (uA (by decide)))
  refine pW_call (pc' := 24) (r := []) (L' := [some (pm_r 0 0), u1, some (pm_i v2), some (pm_r 8 is0), u4]) 3 (fun call n => ?_) hE k
  exact Eq.trans (b := pm_g (mm x R Z Y o (pm_u (pm_u A 13 is0 0 (nI 3)) 13 is0 4 v2) c G g) 0 0 (pm_cl call 9 (pm_go call ns d 9 n) 24 36 [pm_r 0 0, pm_r 8 is0] [] [some (pm_r 0 0), u1, some (pm_i v2), some (pm_r 8 is0), u4] (mm x R Z Y o (pm_u (pm_u A 13 is0 0 (nI 3)) 13 is0 4 v2) c G g))) rfl (g_ok (f := 0) (by decide) rfl)
set_option maxRecDepth 20000 in
theorem b9_27 (hR : RS R) {u1 : Option pm_V} {u2 : Option pm_V} {i3 : Nat} {u4 : Option pm_V} {vs0 : Int32} (q3 : i3 < 8) {x2 : Nat} {o2 : Int64} {A2 : Nat → Nat → Nat → Int32} {c2 : Nat → Int64} {G2 : Nat → Nat → Int32} {g2 : Nat → Int64}  (hE : pE ns d 37 [pm_r 0 0] (mm x R Z Y o A c G g) (.inl (none), (mm x2 R Z Y o2 A2 c2 G2 g2))) (k : pW ns d 9 33 [some (pm_r 0 0), u1, u2, some (pm_r 8 i3), some (pm_i vs0)] [] (mm x2 R Z Y o2 A2 c2 G2 g2) Q) : pW ns d 9 27 [some (pm_r 0 0), u1, u2, some (pm_r 8 i3), u4] [pm_i vs0] (mm x R Z Y o A c G g) Q := by
  refine pW_call (pc' := 30) (r := []) (L' := [some (pm_r 0 0), u1, u2, some (pm_r 8 i3), some (pm_i vs0)]) 3 (fun call n => ?_) hE k
  exact Eq.trans (b := pm_g (mm x R Z Y o A c G g) 0 0 (pm_cl call 9 (pm_go call ns d 9 n) 30 37 [pm_r 0 0] [] [some (pm_r 0 0), u1, u2, some (pm_r 8 i3), some (pm_i vs0)] (mm x R Z Y o A c G g))) rfl (g_ok (f := 0) (by decide) rfl)
set_option maxRecDepth 20000 in
theorem b9_33 (hR : RS R) {u0 : Option pm_V} {u1 : Option pm_V} {u2 : Option pm_V} {u3 : Option pm_V} {v4 : Int32}   (k : Q (.inl (some (pm_i v4)), (mm x R Z Y o A c G g))) : pW ns d 9 33 [u0, u1, u2, u3, some (pm_i v4)] [] (mm x R Z Y o A c G g) Q := by
  refine pW_ret 2 (fun call n => ?_) k
  rfl
/-! 10 JobLayer.pause -/
set_option maxRecDepth 20000 in
theorem b10_0 (hR : RS R) {v1 : Int32} {u2 : Option pm_V} {u3 : Option pm_V}  {x2 : Nat} {o2 : Int64} {A2 : Nat → Nat → Nat → Int32} {c2 : Nat → Int64} {G2 : Nat → Nat → Int32} {g2 : Nat → Int64} {j : Nat} (hE : pE ns d 23 [pm_r 0 0, pm_i v1] (mm x R Z Y o A c G g) (.inl (some (pm_r 8 j)), (mm x2 R Z Y o2 A2 c2 G2 g2))) (k : pW ns d 10 5 [some (pm_r 0 0), some (pm_i v1), u2, u3] [pm_r 8 j] (mm x2 R Z Y o2 A2 c2 G2 g2) Q) : pW ns d 10 0 [some (pm_r 0 0), some (pm_i v1), u2, u3] [] (mm x R Z Y o A c G g) Q := by
  refine pW_call (pc' := 2) (r := []) (L' := [some (pm_r 0 0), some (pm_i v1), u2, u3]) 3 (fun call n => ?_) hE k
  exact Eq.trans (b := pm_g (mm x R Z Y o A c G g) 0 0 (pm_cl call 10 (pm_go call ns d 10 n) 2 23 [pm_r 0 0, pm_i v1] [] [some (pm_r 0 0), some (pm_i v1), u2, u3] (mm x R Z Y o A c G g))) rfl (g_ok (f := 0) (by decide) rfl)
set_option maxRecDepth 20000 in
theorem b10_0x (hR : RS R) {v1 : Int32} {u2 : Option pm_V} {u3 : Option pm_V}  {x2 : Nat} {o2 : Int64} {A2 : Nat → Nat → Nat → Int32} {c2 : Nat → Int64} {G2 : Nat → Nat → Int32} {g2 : Nat → Int64} {e : Nat} (hE : pE ns d 23 [pm_r 0 0, pm_i v1] (mm x R Z Y o A c G g) (.inr e, (mm x2 R Z Y o2 A2 c2 G2 g2))) (k : Q (.inr e, (mm x2 R Z Y o2 A2 c2 G2 g2))) : pW ns d 10 0 [some (pm_r 0 0), some (pm_i v1), u2, u3] [] (mm x R Z Y o A c G g) Q := by
  refine pW_callx (pc' := 2) (r := []) (L' := [some (pm_r 0 0), some (pm_i v1), u2, u3]) 3 (fun call n => ?_) hE ⟨rfl, rfl⟩ k
  exact Eq.trans (b := pm_g (mm x R Z Y o A c G g) 0 0 (pm_cl call 10 (pm_go call ns d 10 n) 2 23 [pm_r 0 0, pm_i v1] [] [some (pm_r 0 0), some (pm_i v1), u2, u3] (mm x R Z Y o A c G g))) rfl (g_ok (f := 0) (by decide) rfl)
set_option maxRecDepth 20000 in
theorem b10_5 (hR : RS R) {v1 : Int32} {u2 : Option pm_V} {u3 : Option pm_V} {is0 : Nat} (qs0 : is0 < 8) {x2 : Nat} {o2 : Int64} {A2 : Nat → Nat → Nat → Int32} {c2 : Nat → Int64} {G2 : Nat → Nat → Int32} {g2 : Nat → Int64} {y : Int32} (hE : pE ns d 36 [pm_r 0 0, pm_r 8 is0] (mm x R Z Y o (pm_u A 13 is0 0 (nI 4)) c G g) (.inl (some (pm_i y)), (mm x2 R Z Y o2 A2 c2 G2 g2))) (k : pW ns d 10 19 [some (pm_r 0 0), some (pm_i v1), some (pm_r 8 is0), u3] [pm_i y] (mm x2 R Z Y o2 A2 c2 G2 g2) Q) : pW ns d 10 5 [some (pm_r 0 0), some (pm_i v1), u2, u3] [pm_r 8 is0] (mm x R Z Y o A c G g) Q := by
  refine pW_eq 3 (pc' := 10) (L' := [some (pm_r 0 0), some (pm_i v1), some (pm_r 8 is0), u3]) (S' := [pm_r 13 is0]) (M' := (mm x R Z Y o A c G g)) (fun call n => ?_) ?_
  · refine Eq.trans (b := pm_g (mm x R Z Y o A c G g) 8 is0 (pm_go call ns d 10 n 10 [some (pm_r 0 0), some (pm_i v1), some (pm_r 8 is0), u3] [pm_a (R 8 is0 5)] (mm x R Z Y o A c G g))) rfl ?_
    refine (g_ok (f := 8) qs0 rfl).trans ?_
    exact (congrArg (fun z => pm_go call ns d 10 n 10 [some (pm_r 0 0), some (pm_i v1), some (pm_r 8 is0), u3] [pm_a z] (mm x R Z Y o A c G g)) (rs_8_5 hR qs0))
  refine pW_eq 2 (pc' := 14) (L' := [some (pm_r 0 0), some (pm_i v1), some (pm_r 8 is0), u3]) (S' := []) (M' := (mm x R Z Y o (pm_u A 13 is0 0 (nI 4)) c G g)) (fun call n => ?_) ?_
  · refine Eq.trans (b := pm_g (mm x R Z Y o A c G g) 13 is0 (pm_go call ns d 10 n 14 [some (pm_r 0 0), some (pm_i v1), some (pm_r 8 is0), u3] [] (pm_u (mA Z A G) 13 is0 0 (nI 4), mB Y o c g, R, pm_tot, x))) rfl ?_
    refine (g_ok (f := 13) qs0 rfl).trans ?_
    exact (congrArg (fun z => pm_go call ns d 10 n 14 [some (pm_r 0 0), some (pm_i v1), some (pm_r 8 is0), u3] [] (z, mB Y o c g, R, pm_tot, x)) (uA (by decide)))
  refine pW_call (pc' := 16) (r := []) (L' := [some (pm_r 0 0), some (pm_i v1), some (pm_r 8 is0), u3]) 3 (fun call n => ?_) hE k
  exact Eq.trans (b := pm_g (mm x R Z Y o (pm_u A 13 is0 0 (nI 4)) c G g) 0 0 (pm_cl call 10 (pm_go call ns d 10 n) 16 36 [pm_r 0 0, pm_r 8 is0] [] [some (pm_r 0 0), some (pm_i v1), some (pm_r 8 is0), u3] (mm x R Z Y o (pm_u A 13 is0 0 (nI 4)) c G g))) rfl (g_ok (f := 0) (by decide) rfl)
set_option maxRecDepth 20000 in
theorem b10_19 (hR : RS R) {u1 : Option pm_V} {i2 : Nat} {u3 : Option pm_V} {vs0 : Int32} (q2 : i2 < 8) {x2 : Nat} {o2 : Int64} {A2 : Nat → Nat → Nat → Int32} {c2 : Nat → Int64} {G2 : Nat → Nat → Int32} {g2 : Nat → Int64}  (hE : pE ns d 37 [pm_r 0 0] (mm x R Z Y o A c G g) (.inl (none), (mm x2 R Z Y o2 A2 c2 G2 g2))) (k : pW ns d 10 24 [some (pm_r 0 0), u1, some (pm_r 8 i2), some (pm_i vs0)] [] (mm x2 R Z Y o2 A2 c2 G2 g2) Q) : pW ns d 10 19 [some (pm_r 0 0), u1, some (pm_r 8 i2), u3] [pm_i vs0] (mm x R Z Y o A c G g) Q := by
  refine pW_call (pc' := 21) (r := []) (L' := [some (pm_r 0 0), u1, some (pm_r 8 i2), some (pm_i vs0)]) 3 (fun call n => ?_) hE k
  exact Eq.trans (b := pm_g (mm x R Z Y o A c G g) 0 0 (pm_cl call 10 (pm_go call ns d 10 n) 21 37 [pm_r 0 0] [] [some (pm_r 0 0), u1, some (pm_r 8 i2), some (pm_i vs0)] (mm x R Z Y o A c G g))) rfl (g_ok (f := 0) (by decide) rfl)
set_option maxRecDepth 20000 in
theorem b10_24 (hR : RS R) {u0 : Option pm_V} {u1 : Option pm_V} {u2 : Option pm_V} {v3 : Int32}   (k : Q (.inl (some (pm_i v3)), (mm x R Z Y o A c G g))) : pW ns d 10 24 [u0, u1, u2, some (pm_i v3)] [] (mm x R Z Y o A c G g) Q := by
  refine pW_ret 2 (fun call n => ?_) k
  rfl
/-! 11 JobLayer.signal -/
set_option maxRecDepth 20000 in
theorem b11_0 (hR : RS R) {v1 : Int32} {v2 : Int32} {v3 : Int32} {u4 : Option pm_V}  {x2 : Nat} {o2 : Int64} {A2 : Nat → Nat → Nat → Int32} {c2 : Nat → Int64} {G2 : Nat → Nat → Int32} {g2 : Nat → Int64} {j : Nat} (hE : pE ns d 23 [pm_r 0 0, pm_i v1] (mm x R Z Y o A c G g) (.inl (some (pm_r 8 j)), (mm x2 R Z Y o2 A2 c2 G2 g2))) (k : pW ns d 11 5 [some (pm_r 0 0), some (pm_i v1), some (pm_i v2), some (pm_i v3), u4] [pm_r 8 j] (mm x2 R Z Y o2 A2 c2 G2 g2) Q) : pW ns d 11 0 [some (pm_r 0 0), some (pm_i v1), some (pm_i v2), some (pm_i v3), u4] [] (mm x R Z Y o A c G g) Q := by
  refine pW_call (pc' := 2) (r := []) (L' := [some (pm_r 0 0), some (pm_i v1), some (pm_i v2), some (pm_i v3), u4]) 3 (fun call n => ?_) hE k
  exact Eq.trans (b := pm_g (mm x R Z Y o A c G g) 0 0 (pm_cl call 11 (pm_go call ns d 11 n) 2 23 [pm_r 0 0, pm_i v1] [] [some (pm_r 0 0), some (pm_i v1), some (pm_i v2), some (pm_i v3), u4] (mm x R Z Y o A c G g))) rfl (g_ok (f := 0) (by decide) rfl)
set_option maxRecDepth 20000 in
theorem b11_0x (hR : RS R) {v1 : Int32} {v2 : Int32} {v3 : Int32} {u4 : Option pm_V}  {x2 : Nat} {o2 : Int64} {A2 : Nat → Nat → Nat → Int32} {c2 : Nat → Int64} {G2 : Nat → Nat → Int32} {g2 : Nat → Int64} {e : Nat} (hE : pE ns d 23 [pm_r 0 0, pm_i v1] (mm x R Z Y o A c G g) (.inr e, (mm x2 R Z Y o2 A2 c2 G2 g2))) (k : Q (.inr e, (mm x2 R Z Y o2 A2 c2 G2 g2))) : pW ns d 11 0 [some (pm_r 0 0), some (pm_i v1), some (pm_i v2), some (pm_i v3), u4] [] (mm x R Z Y o A c G g) Q := by
  refine pW_callx (pc' := 2) (r := []) (L' := [some (pm_r 0 0), some (pm_i v1), some (pm_i v2), some (pm_i v3), u4]) 3 (fun call n => ?_) hE ⟨rfl, rfl⟩ k
  exact Eq.trans (b := pm_g (mm x R Z Y o A c G g) 0 0 (pm_cl call 11 (pm_go call ns d 11 n) 2 23 [pm_r 0 0, pm_i v1] [] [some (pm_r 0 0), some (pm_i v1), some (pm_i v2), some (pm_i v3), u4] (mm x R Z Y o A c G g))) rfl (g_ok (f := 0) (by decide) rfl)
set_option maxRecDepth 20000 in
theorem b11_5 (hR : RS R) {u1 : Option pm_V} {v2 : Int32} {v3 : Int32} {u4 : Option pm_V} {is0 : Nat} (qs0 : is0 < 8)  (k1 : v3 < nI 1 → pW ns d 11 29 [some (pm_r 0 0), u1, some (pm_i v2), some (pm_i v3), u4] [] (mm x R Z Y o A c G g) Q) (k2 : ¬ (v3 < nI 1) → pW ns d 11 11 [some (pm_r 0 0), u1, some (pm_i v2), some (pm_i v3), u4] [] (mm x R Z Y o A c G g) Q) : pW ns d 11 5 [some (pm_r 0 0), u1, some (pm_i v2), some (pm_i v3), u4] [pm_r 8 is0] (mm x R Z Y o A c G g) Q := by
  exact pW_if 4 (c := v3 < nI 1) (fun call n => rfl) k1 k2
set_option maxRecDepth 20000 in
theorem b11_29 (hR : RS R) {u0 : Option pm_V} {u1 : Option pm_V} {u2 : Option pm_V} {u3 : Option pm_V} {u4 : Option pm_V}  (hd : 6 ≤ d) (hx : x < 600) (k : Q (.inr 1, (mm (x + 1) R Z Y o A c G g))) : pW ns d 11 29 [u0, u1, u2, u3, u4] [] (mm x R Z Y o A c G g) Q := by
  refine pW_ret 1 (fun call n => ?_) k
  exact Eq.trans (b := pm_th d 11 29 1 [] (mm x R Z Y o A c G g)) rfl (if_pos ⟨hd, rfl, rfl, hx, rfl, rfl, rfl, rfl⟩)
set_option maxRecDepth 20000 in
theorem b11_11 (hR : RS R) {u1 : Option pm_V} {v2 : Int32} {v3 : Int32} {u4 : Option pm_V}   (k1 : nI 8 < v3 → pW ns d 11 29 [some (pm_r 0 0), u1, some (pm_i v2), some (pm_i v3), u4] [] (mm x R Z Y o A c G g) Q) (k2 : ¬ (nI 8 < v3) → pW ns d 11 17 [some (pm_r 0 0), u1, some (pm_i v2), some (pm_i v3), u4] [] (mm x R Z Y o A c G g) Q) : pW ns d 11 11 [some (pm_r 0 0), u1, some (pm_i v2), some (pm_i v3), u4] [] (mm x R Z Y o A c G g) Q := by
  exact pW_if 3 (c := nI 8 < v3) (fun call n => rfl) k1 k2
set_option maxRecDepth 20000 in
theorem b11_17 (hR : RS R) {u1 : Option pm_V} {v2 : Int32} {v3 : Int32} {u4 : Option pm_V}   (k1 : v2 < -nI 8 → pW ns d 11 29 [some (pm_r 0 0), u1, some (pm_i v2), some (pm_i v3), u4] [] (mm x R Z Y o A c G g) Q) (k2 : ¬ (v2 < -nI 8) → pW ns d 11 23 [some (pm_r 0 0), u1, some (pm_i v2), some (pm_i v3), u4] [] (mm x R Z Y o A c G g) Q) : pW ns d 11 17 [some (pm_r 0 0), u1, some (pm_i v2), some (pm_i v3), u4] [] (mm x R Z Y o A c G g) Q := by
  exact pW_if 3 (c := v2 < -nI 8) (fun call n => rfl) k1 k2
set_option maxRecDepth 20000 in
theorem b11_23 (hR : RS R) {u1 : Option pm_V} {v2 : Int32} {v3 : Int32} {u4 : Option pm_V}   (k1 : v2 < nI 8 → pW ns d 11 37 [some (pm_r 0 0), u1, some (pm_i v2), some (pm_i v3), u4] [] (mm x R Z Y o A c G g) Q) (k2 : ¬ (v2 < nI 8) → pW ns d 11 29 [some (pm_r 0 0), u1, some (pm_i v2), some (pm_i v3), u4] [] (mm x R Z Y o A c G g) Q) : pW ns d 11 23 [some (pm_r 0 0), u1, some (pm_i v2), some (pm_i v3), u4] [] (mm x R Z Y o A c G g) Q := by
  exact pW_if 3 (c := v2 < nI 8) (fun call n => rfl) k1 k2
set_option maxRecDepth 20000 in
theorem b11_37 (hR : RS R) {u1 : Option pm_V} {v2 : Int32} {v3 : Int32} {u4 : Option pm_V}   (k1 : v2 < 0 → pW ns d 11 55 [some (pm_r 0 0), u1, some (pm_i v2), some (pm_i v3), u4] [] (mm x R Z Y o A c G g) Q) (k2 : ¬ (v2 < 0) → pW ns d 11 41 [some (pm_r 0 0), u1, some (pm_i v2), some (pm_i v3), u4] [] (mm x R Z Y o A c G g) Q) : pW ns d 11 37 [some (pm_r 0 0), u1, some (pm_i v2), some (pm_i v3), u4] [] (mm x R Z Y o A c G g) Q := by
  exact pW_if 2 (c := v2 < 0) (fun call n => rfl) k1 k2
set_option maxRecDepth 20000 in
theorem b11_55 (hR : RS R) {u1 : Option pm_V} {v2 : Int32} {v3 : Int32} {u4 : Option pm_V}  {x2 : Nat} {o2 : Int64} {A2 : Nat → Nat → Nat → Int32} {c2 : Nat → Int64} {G2 : Nat → Nat → Int32} {g2 : Nat → Int64} {y : Int32} (hE : pE ns d 32 [pm_r 0 0, pm_i ((-nI 1) - v2), pm_i v3] (mm x R Z Y o A c G g) (.inl (some (pm_i y)), (mm x2 R Z Y o2 A2 c2 G2 g2))) (k : pW ns d 11 63 [some (pm_r 0 0), u1, some (pm_i v2), some (pm_i v3), u4] [pm_i y] (mm x2 R Z Y o2 A2 c2 G2 g2) Q) : pW ns d 11 55 [some (pm_r 0 0), u1, some (pm_i v2), some (pm_i v3), u4] [] (mm x R Z Y o A c G g) Q := by
  refine pW_call (pc' := 60) (r := []) (L' := [some (pm_r 0 0), u1, some (pm_i v2), some (pm_i v3), u4]) 6 (fun call n => ?_) hE k
  exact Eq.trans (b := pm_g (mm x R Z Y o A c G g) 0 0 (pm_cl call 11 (pm_go call ns d 11 n) 60 32 [pm_r 0 0, pm_i ((-nI 1) - v2), pm_i v3] [] [some (pm_r 0 0), u1, some (pm_i v2), some (pm_i v3), u4] (mm x R Z Y o A c G g))) rfl (g_ok (f := 0) (by decide) rfl)
set_option maxRecDepth 20000 in
theorem b11_41 (hR : RS R) {u1 : Option pm_V} {v2 : Int32} {v3 : Int32} {u4 : Option pm_V} {j1 : Nat} (e1 : v2 = nI j1) (l1 : j1 < 8) {x2 : Nat} {o2 : Int64} {A2 : Nat → Nat → Nat → Int32} {c2 : Nat → Int64} {G2 : Nat → Nat → Int32} {g2 : Nat → Int64} {y : Int32} (hE : pE ns d 33 [pm_r 0 0, pm_r 8 j1, pm_i v3] (mm x R Z Y o A c G g) (.inl (some (pm_i y)), (mm x2 R Z Y o2 A2 c2 G2 g2))) (k : pW ns d 11 52 [some (pm_r 0 0), u1, some (pm_i v2), some (pm_i v3), u4] [pm_i y] (mm x2 R Z Y o2 A2 c2 G2 g2) Q) : pW ns d 11 41 [some (pm_r 0 0), u1, some (pm_i v2), some (pm_i v3), u4] [] (mm x R Z Y o A c G g) Q := by
  refine pW_eq 3 (pc' := 46) (L' := [some (pm_r 0 0), u1, some (pm_i v2), some (pm_i v3), u4]) (S' := [pm_r 1 0, pm_r 0 0]) (M' := (mm x R Z Y o A c G g)) (fun call n => ?_) ?_
  · refine Eq.trans (b := pm_g (mm x R Z Y o A c G g) 0 0 (pm_go call ns d 11 n 46 [some (pm_r 0 0), u1, some (pm_i v2), some (pm_i v3), u4] [pm_a (R 0 0 0), pm_r 0 0] (mm x R Z Y o A c G g))) rfl ?_
    refine (g_ok (f := 0) (by decide) rfl).trans ?_
    exact (congrArg (fun z => pm_go call ns d 11 n 46 [some (pm_r 0 0), u1, some (pm_i v2), some (pm_i v3), u4] [pm_a z, pm_r 0 0] (mm x R Z Y o A c G g)) (rs_0_0 hR))
  refine pW_eq 2 (pc' := 48) (L' := [some (pm_r 0 0), u1, some (pm_i v2), some (pm_i v3), u4]) (S' := [pm_r 8 j1, pm_r 0 0]) (M' := (mm x R Z Y o A c G g)) (fun call n => ?_) ?_
  · refine Eq.trans (b := pm_g (mm x R Z Y o A c G g) 1 0 (pm_ix (v2) 8 (fun jx => pm_go call ns d 11 n 48 [some (pm_r 0 0), u1, some (pm_i v2), some (pm_i v3), u4] [pm_a (R 1 0 jx), pm_r 0 0] (mm x R Z Y o A c G g)))) rfl ?_
    refine (g_ok (f := 1) (by decide) rfl).trans ?_
    refine (ix_ok (j := j1) e1 l1 (by decide)).trans ?_
    exact (congrArg (fun z => pm_go call ns d 11 n 48 [some (pm_r 0 0), u1, some (pm_i v2), some (pm_i v3), u4] [pm_a z, pm_r 0 0] (mm x R Z Y o A c G g)) (rs_1 hR (k := j1) l1))
  refine pW_call (pc' := 49) (r := []) (L' := [some (pm_r 0 0), u1, some (pm_i v2), some (pm_i v3), u4]) 2 (fun call n => ?_) hE k
  exact Eq.trans (b := pm_g (mm x R Z Y o A c G g) 0 0 (pm_cl call 11 (pm_go call ns d 11 n) 49 33 [pm_r 0 0, pm_r 8 j1, pm_i v3] [] [some (pm_r 0 0), u1, some (pm_i v2), some (pm_i v3), u4] (mm x R Z Y o A c G g))) rfl (g_ok (f := 0) (by decide) rfl)
set_option maxRecDepth 20000 in
theorem b11_63 (hR : RS R) {u1 : Option pm_V} {u2 : Option pm_V} {v3 : Int32} {u4 : Option pm_V} {vs0 : Int32}  {x2 : Nat} {o2 : Int64} {A2 : Nat → Nat → Nat → Int32} {c2 : Nat → Int64} {G2 : Nat → Nat → Int32} {g2 : Nat → Int64}  (hE : pE ns d 37 [pm_r 0 0] (mm x R Z Y o A c G g) (.inl (none), (mm x2 R Z Y o2 A2 c2 G2 g2))) (k : pW ns d 11 69 [some (pm_r 0 0), u1, u2, some (pm_i v3), some (pm_i vs0)] [] (mm x2 R Z Y o2 A2 c2 G2 g2) Q) : pW ns d 11 63 [some (pm_r 0 0), u1, u2, some (pm_i v3), u4] [pm_i vs0] (mm x R Z Y o A c G g) Q := by
  refine pW_call (pc' := 66) (r := []) (L' := [some (pm_r 0 0), u1, u2, some (pm_i v3), some (pm_i vs0)]) 3 (fun call n => ?_) hE k
  exact Eq.trans (b := pm_g (mm x R Z Y o A c G g) 0 0 (pm_cl call 11 (pm_go call ns d 11 n) 66 37 [pm_r 0 0] [] [some (pm_r 0 0), u1, u2, some (pm_i v3), some (pm_i vs0)] (mm x R Z Y o A c G g))) rfl (g_ok (f := 0) (by decide) rfl)
set_option maxRecDepth 20000 in
theorem b11_52 (hR : RS R) {u1 : Option pm_V} {u2 : Option pm_V} {v3 : Int32} {u4 : Option pm_V} {vs0 : Int32}  {x2 : Nat} {o2 : Int64} {A2 : Nat → Nat → Nat → Int32} {c2 : Nat → Int64} {G2 : Nat → Nat → Int32} {g2 : Nat → Int64}  (hE : pE ns d 37 [pm_r 0 0] (mm x R Z Y o A c G g) (.inl (none), (mm x2 R Z Y o2 A2 c2 G2 g2))) (k : pW ns d 11 69 [some (pm_r 0 0), u1, u2, some (pm_i v3), some (pm_i vs0)] [] (mm x2 R Z Y o2 A2 c2 G2 g2) Q) : pW ns d 11 52 [some (pm_r 0 0), u1, u2, some (pm_i v3), u4] [pm_i vs0] (mm x R Z Y o A c G g) Q := by
  refine pW_call (pc' := 66) (r := []) (L' := [some (pm_r 0 0), u1, u2, some (pm_i v3), some (pm_i vs0)]) 4 (fun call n => ?_) hE k
  exact Eq.trans (b := pm_g (mm x R Z Y o A c G g) 0 0 (pm_cl call 11 (pm_go call ns d 11 n) 66 37 [pm_r 0 0] [] [some (pm_r 0 0), u1, u2, some (pm_i v3), some (pm_i vs0)] (mm x R Z Y o A c G g))) rfl (g_ok (f := 0) (by decide) rfl)
set_option maxRecDepth 20000 in
theorem b11_69 (hR : RS R) {u0 : Option pm_V} {u1 : Option pm_V} {u2 : Option pm_V} {u3 : Option pm_V} {v4 : Int32}   (k1 : v4 = 0 → pW ns d 11 78 [u0, u1, u2, u3, some (pm_i v4)] [] (mm x R Z Y o A c G g) Q) (k2 : ¬ (v4 = 0) → pW ns d 11 74 [u0, u1, u2, u3, some (pm_i v4)] [] (mm x R Z Y o A c G g) Q) : pW ns d 11 69 [u0, u1, u2, u3, some (pm_i v4)] [] (mm x R Z Y o A c G g) Q := by
  exact pW_if 2 (c := v4 = 0) (fun call n => rfl) k1 k2
set_option maxRecDepth 20000 in
theorem b11_78 (hR : RS R) {u0 : Option pm_V} {u1 : Option pm_V} {u2 : Option pm_V} {u3 : Option pm_V} {u4 : Option pm_V}   (k : Q (.inl (some (pm_i (-nI 8))), (mm x R Z Y o A c G g))) : pW ns d 11 78 [u0, u1, u2, u3, u4] [] (mm x R Z Y o A c G g) Q := by
  refine pW_ret 2 (fun call n => ?_) k
  rfl
set_option maxRecDepth 20000 in
theorem b11_74 (hR : RS R) {u0 : Option pm_V} {u1 : Option pm_V} {u2 : Option pm_V} {u3 : Option pm_V} {u4 : Option pm_V}   (k : Q (.inl (some (pm_i (nI 0))), (mm x R Z Y o A c G g))) : pW ns d 11 74 [u0, u1, u2, u3, u4] [] (mm x R Z Y o A c G g) Q := by
  refine pW_ret 3 (fun call n => ?_) k
  rfl
set_option maxRecDepth 20000 in
theorem t11_5 (hR : RS R) {u1 : Option pm_V} {v2 : Int32} {v3 : Int32} {u4 : Option pm_V} {is0 : Nat} (qs0 : is0 < 8) (k1 : (v3 < nI 1) → pW ns d 11 29 [some (pm_r 0 0), u1, some (pm_i v2), some (pm_i v3), u4] [] (mm x R Z Y o A c G g) Q) (k2 : (¬ (v3 < nI 1)) → (nI 8 < v3) → pW ns d 11 29 [some (pm_r 0 0), u1, some (pm_i v2), some (pm_i v3), u4] [] (mm x R Z Y o A c G g) Q) (k3 : (¬ (v3 < nI 1)) → (¬ (nI 8 < v3)) → (v2 < -nI 8) → pW ns d 11 29 [some (pm_r 0 0), u1, some (pm_i v2), some (pm_i v3), u4] [] (mm x R Z Y o A c G g) Q) (k4 : (¬ (v3 < nI 1)) → (¬ (nI 8 < v3)) → (¬ (v2 < -nI 8)) → (v2 < nI 8) → (v2 < 0) → pW ns d 11 55 [some (pm_r 0 0), u1, some (pm_i v2), some (pm_i v3), u4] [] (mm x R Z Y o A c G g) Q) (k5 : (¬ (v3 < nI 1)) → (¬ (nI 8 < v3)) → (¬ (v2 < -nI 8)) → (v2 < nI 8) → (¬ (v2 < 0)) → pW ns d 11 41 [some (pm_r 0 0), u1, some (pm_i v2), some (pm_i v3), u4] [] (mm x R Z Y o A c G g) Q) (k6 : (¬ (v3 < nI 1)) → (¬ (nI 8 < v3)) → (¬ (v2 < -nI 8)) → (¬ (v2 < nI 8)) → pW ns d 11 29 [some (pm_r 0 0), u1, some (pm_i v2), some (pm_i v3), u4] [] (mm x R Z Y o A c G g) Q) : pW ns d 11 5 [some (pm_r 0 0), u1, some (pm_i v2), some (pm_i v3), u4] [pm_r 8 is0] (mm x R Z Y o A c G g) Q := by
  refine b11_5 hR qs0 (fun h1 => ?_) (fun h1 => ?_)
  · skip
    exact (k1 h1)
  · skip
    refine b11_11 hR   (fun h2 => ?_) (fun h2 => ?_)
    · skip
      exact (k2 h1 h2)
    · skip
      refine b11_17 hR   (fun h3 => ?_) (fun h3 => ?_)
      · skip
        exact (k3 h1 h2 h3)
      · skip
        refine b11_23 hR   (fun h4 => ?_) (fun h4 => ?_)
        · skip
          refine b11_37 hR   (fun h5 => ?_) (fun h5 => ?_)
          · skip
            exact (k4 h1 h2 h3 h4 h5)
          · skip
            exact (k5 h1 h2 h3 h4 h5)
        · skip
          exact (k6 h1 h2 h3 h4)
set_option maxRecDepth 20000 in
theorem t11_11 (hR : RS R) {u1 : Option pm_V} {v2 : Int32} {v3 : Int32} {u4 : Option pm_V}  (k1 : (nI 8 < v3) → pW ns d 11 29 [some (pm_r 0 0), u1, some (pm_i v2), some (pm_i v3), u4] [] (mm x R Z Y o A c G g) Q) (k2 : (¬ (nI 8 < v3)) → (v2 < -nI 8) → pW ns d 11 29 [some (pm_r 0 0), u1, some (pm_i v2), some (pm_i v3), u4] [] (mm x R Z Y o A c G g) Q) (k3 : (¬ (nI 8 < v3)) → (¬ (v2 < -nI 8)) → (v2 < nI 8) → (v2 < 0) → pW ns d 11 55 [some (pm_r 0 0), u1, some (pm_i v2), some (pm_i v3), u4] [] (mm x R Z Y o A c G g) Q) (k4 : (¬ (nI 8 < v3)) → (¬ (v2 < -nI 8)) → (v2 < nI 8) → (¬ (v2 < 0)) → pW ns d 11 41 [some (pm_r 0 0), u1, some (pm_i v2), some (pm_i v3), u4] [] (mm x R Z Y o A c G g) Q) (k5 : (¬ (nI 8 < v3)) → (¬ (v2 < -nI 8)) → (¬ (v2 < nI 8)) → pW ns d 11 29 [some (pm_r 0 0), u1, some (pm_i v2), some (pm_i v3), u4] [] (mm x R Z Y o A c G g) Q) : pW ns d 11 11 [some (pm_r 0 0), u1, some (pm_i v2), some (pm_i v3), u4] [] (mm x R Z Y o A c G g) Q := by
  refine b11_11 hR  (fun h1 => ?_) (fun h1 => ?_)
  · skip
    exact (k1 h1)
  · skip
    refine b11_17 hR   (fun h2 => ?_) (fun h2 => ?_)
    · skip
      exact (k2 h1 h2)
    · skip
      refine b11_23 hR   (fun h3 => ?_) (fun h3 => ?_)
      · skip
        refine b11_37 hR   (fun h4 => ?_) (fun h4 => ?_)
        · skip
          exact (k3 h1 h2 h3 h4)
        · skip
          exact (k4 h1 h2 h3 h4)
      · skip
        exact (k5 h1 h2 h3)
set_option maxRecDepth 20000 in
theorem t11_17 (hR : RS R) {u1 : Option pm_V} {v2 : Int32} {v3 : Int32} {u4 : Option pm_V}  (k1 : (v2 < -nI 8) → pW ns d 11 29 [some (pm_r 0 0), u1, some (pm_i v2), some (pm_i v3), u4] [] (mm x R Z Y o A c G g) Q) (k2 : (¬ (v2 < -nI 8)) → (v2 < nI 8) → (v2 < 0) → pW ns d 11 55 [some (pm_r 0 0), u1, some (pm_i v2), some (pm_i v3), u4] [] (mm x R Z Y o A c G g) Q) (k3 : (¬ (v2 < -nI 8)) → (v2 < nI 8) → (¬ (v2 < 0)) → pW ns d 11 41 [some (pm_r 0 0), u1, some (pm_i v2), some (pm_i v3), u4] [] (mm x R Z Y o A c G g) Q) (k4 : (¬ (v2 < -nI 8)) → (¬ (v2 < nI 8)) → pW ns d 11 29 [some (pm_r 0 0), u1, some (pm_i v2), some (pm_i v3), u4] [] (mm x R Z Y o A c G g) Q) : pW ns d 11 17 [some (pm_r 0 0), u1, some (pm_i v2), some (pm_i v3), u4] [] (mm x R Z Y o A c G g) Q := by
  refine b11_17 hR  (fun h1 => ?_) (fun h1 => ?_)
  · skip
    exact (k1 h1)
  · skip
    refine b11_23 hR   (fun h2 => ?_) (fun h2 => ?_)
    · skip
      refine b11_37 hR   (fun h3 => ?_) (fun h3 => ?_)
      · skip
        exact (k2 h1 h2 h3)
      · skip
        exact (k3 h1 h2 h3)
    · skip
      exact (k4 h1 h2)
set_option maxRecDepth 20000 in
theorem t11_23 (hR : RS R) {u1 : Option pm_V} {v2 : Int32} {v3 : Int32} {u4 : Option pm_V}  (k1 : (v2 < nI 8) → (v2 < 0) → pW ns d 11 55 [some (pm_r 0 0), u1, some (pm_i v2), some (pm_i v3), u4] [] (mm x R Z Y o A c G g) Q) (k2 : (v2 < nI 8) → (¬ (v2 < 0)) → pW ns d 11 41 [some (pm_r 0 0), u1, some (pm_i v2), some (pm_i v3), u4] [] (mm x R Z Y o A c G g) Q) (k3 : (¬ (v2 < nI 8)) → pW ns d 11 29 [some (pm_r 0 0), u1, some (pm_i v2), some (pm_i v3), u4] [] (mm x R Z Y o A c G g) Q) : pW ns d 11 23 [some (pm_r 0 0), u1, some (pm_i v2), some (pm_i v3), u4] [] (mm x R Z Y o A c G g) Q := by
  refine b11_23 hR  (fun h1 => ?_) (fun h1 => ?_)
  · skip
    refine b11_37 hR   (fun h2 => ?_) (fun h2 => ?_)
    · skip
      exact (k1 h1 h2)
    · skip
      exact (k2 h1 h2)
  · skip
    exact (k3 h1)
set_option maxRecDepth 20000 in
theorem t11_37 (hR : RS R) {u1 : Option pm_V} {v2 : Int32} {v3 : Int32} {u4 : Option pm_V}  (k1 : (v2 < 0) → pW ns d 11 55 [some (pm_r 0 0), u1, some (pm_i v2), some (pm_i v3), u4] [] (mm x R Z Y o A c G g) Q) (k2 : (¬ (v2 < 0)) → pW ns d 11 41 [some (pm_r 0 0), u1, some (pm_i v2), some (pm_i v3), u4] [] (mm x R Z Y o A c G g) Q) : pW ns d 11 37 [some (pm_r 0 0), u1, some (pm_i v2), some (pm_i v3), u4] [] (mm x R Z Y o A c G g) Q := by
  refine b11_37 hR  (fun h1 => ?_) (fun h1 => ?_)
  · skip
    exact (k1 h1)
  · skip
    exact (k2 h1)
set_option maxRecDepth 20000 in
theorem t11_69 (hR : RS R) {u0 : Option pm_V} {u1 : Option pm_V} {u2 : Option pm_V} {u3 : Option pm_V} {v4 : Int32}  (k1 : (v4 = 0) → Q (.inl (some (pm_i (-nI 8))), (mm x R Z Y o A c G g))) (k2 : (¬ (v4 = 0)) → Q (.inl (some (pm_i (nI 0))), (mm x R Z Y o A c G g))) : pW ns d 11 69 [u0, u1, u2, u3, some (pm_i v4)] [] (mm x R Z Y o A c G g) Q := by
  refine b11_69 hR  (fun h1 => ?_) (fun h1 => ?_)
  · skip
    exact b11_78 hR   (k1 h1)
  · skip
    exact b11_74 hR   (k2 h1)
/-! 12 JobLayer.action -/
set_option maxRecDepth 20000 in
theorem b12_0 (hR : RS R) {v1 : Int32} {v2 : Int32} {v3 : Int32} {u4 : Option pm_V} {u5 : Option pm_V}  {x2 : Nat} {o2 : Int64} {A2 : Nat → Nat → Nat → Int32} {c2 : Nat → Int64} {G2 : Nat → Nat → Int32} {g2 : Nat → Int64} {j : Nat} (hE : pE ns d 23 [pm_r 0 0, pm_i v1] (mm x R Z Y o A c G g) (.inl (some (pm_r 8 j)), (mm x2 R Z Y o2 A2 c2 G2 g2))) (k : pW ns d 12 5 [some (pm_r 0 0), some (pm_i v1), some (pm_i v2), some (pm_i v3), u4, u5] [pm_r 8 j] (mm x2 R Z Y o2 A2 c2 G2 g2) Q) : pW ns d 12 0 [some (pm_r 0 0), some (pm_i v1), some (pm_i v2), some (pm_i v3), u4, u5] [] (mm x R Z Y o A c G g) Q := by
  refine pW_call (pc' := 2) (r := []) (L' := [some (pm_r 0 0), some (pm_i v1), some (pm_i v2), some (pm_i v3), u4, u5]) 3 (fun call n => ?_) hE k
  exact Eq.trans (b := pm_g (mm x R Z Y o A c G g) 0 0 (pm_cl call 12 (pm_go call ns d 12 n) 2 23 [pm_r 0 0, pm_i v1] [] [some (pm_r 0 0), some (pm_i v1), some (pm_i v2), some (pm_i v3), u4, u5] (mm x R Z Y o A c G g))) rfl (g_ok (f := 0) (by decide) rfl)
set_option maxRecDepth 20000 in
theorem b12_0x (hR : RS R) {v1 : Int32} {v2 : Int32} {v3 : Int32} {u4 : Option pm_V} {u5 : Option pm_V}  {x2 : Nat} {o2 : Int64} {A2 : Nat → Nat → Nat → Int32} {c2 : Nat → Int64} {G2 : Nat → Nat → Int32} {g2 : Nat → Int64} {e : Nat} (hE : pE ns d 23 [pm_r 0 0, pm_i v1] (mm x R Z Y o A c G g) (.inr e, (mm x2 R Z Y o2 A2 c2 G2 g2))) (k : Q (.inr e, (mm x2 R Z Y o2 A2 c2 G2 g2))) : pW ns d 12 0 [some (pm_r 0 0), some (pm_i v1), some (pm_i v2), some (pm_i v3), u4, u5] [] (mm x R Z Y o A c G g) Q := by
  refine pW_callx (pc' := 2) (r := []) (L' := [some (pm_r 0 0), some (pm_i v1), some (pm_i v2), some (pm_i v3), u4, u5]) 3 (fun call n => ?_) hE ⟨rfl, rfl⟩ k
  exact Eq.trans (b := pm_g (mm x R Z Y o A c G g) 0 0 (pm_cl call 12 (pm_go call ns d 12 n) 2 23 [pm_r 0 0, pm_i v1] [] [some (pm_r 0 0), some (pm_i v1), some (pm_i v2), some (pm_i v3), u4, u5] (mm x R Z Y o A c G g))) rfl (g_ok (f := 0) (by decide) rfl)
set_option maxRecDepth 20000 in
theorem b12_5 (hR : RS R) {u1 : Option pm_V} {v2 : Int32} {v3 : Int32} {u4 : Option pm_V} {u5 : Option pm_V} {is0 : Nat} (qs0 : is0 < 8)  (k1 : v2 < nI 1 → pW ns d 12 27 [some (pm_r 0 0), u1, some (pm_i v2), some (pm_i v3), some (pm_r 8 is0), u5] [] (mm x R Z Y o A c G g) Q) (k2 : ¬ (v2 < nI 1) → pW ns d 12 12 [some (pm_r 0 0), u1, some (pm_i v2), some (pm_i v3), some (pm_r 8 is0), u5] [] (mm x R Z Y o A c G g) Q) : pW ns d 12 5 [some (pm_r 0 0), u1, some (pm_i v2), some (pm_i v3), u4, u5] [pm_r 8 is0] (mm x R Z Y o A c G g) Q := by
  exact pW_if 4 (c := v2 < nI 1) (fun call n => rfl) k1 k2
set_option maxRecDepth 20000 in
theorem b12_27 (hR : RS R) {u0 : Option pm_V} {u1 : Option pm_V} {u2 : Option pm_V} {u3 : Option pm_V} {u4 : Option pm_V} {u5 : Option pm_V}  (hd : 6 ≤ d) (hx : x < 600) (k : Q (.inr 1, (mm (x + 1) R Z Y o A c G g))) : pW ns d 12 27 [u0, u1, u2, u3, u4, u5] [] (mm x R Z Y o A c G g) Q := by
  refine pW_ret 1 (fun call n => ?_) k
  exact Eq.trans (b := pm_th d 12 27 1 [] (mm x R Z Y o A c G g)) rfl (if_pos ⟨hd, rfl, rfl, hx, rfl, rfl, rfl, rfl⟩)
set_option maxRecDepth 20000 in
theorem b12_12 (hR : RS R) {u1 : Option pm_V} {v2 : Int32} {v3 : Int32} {i4 : Nat} {u5 : Option pm_V} (q4 : i4 < 8)  (k1 : nI 7 < v2 → pW ns d 12 27 [some (pm_r 0 0), u1, some (pm_i v2), some (pm_i v3), some (pm_r 8 i4), u5] [] (mm x R Z Y o A c G g) Q) (k2 : ¬ (nI 7 < v2) → pW ns d 12 18 [some (pm_r 0 0), u1, some (pm_i v2), some (pm_i v3), some (pm_r 8 i4), u5] [] (mm x R Z Y o A c G g) Q) : pW ns d 12 12 [some (pm_r 0 0), u1, some (pm_i v2), some (pm_i v3), some (pm_r 8 i4), u5] [] (mm x R Z Y o A c G g) Q := by
  exact pW_if 3 (c := nI 7 < v2) (fun call n => rfl) k1 k2
set_option maxRecDepth 20000 in
theorem b12_18 (hR : RS R) {u1 : Option pm_V} {v2 : Int32} {v3 : Int32} {i4 : Nat} {u5 : Option pm_V} (q4 : i4 < 8)  (k1 : v3 < 0 → pW ns d 12 27 [some (pm_r 0 0), u1, some (pm_i v2), some (pm_i v3), some (pm_r 8 i4), u5] [] (mm x R Z Y o A c G g) Q) (k2 : ¬ (v3 < 0) → pW ns d 12 22 [some (pm_r 0 0), u1, some (pm_i v2), some (pm_i v3), some (pm_r 8 i4), u5] [] (mm x R Z Y o A c G g) Q) : pW ns d 12 18 [some (pm_r 0 0), u1, some (pm_i v2), some (pm_i v3), some (pm_r 8 i4), u5] [] (mm x R Z Y o A c G g) Q := by
  exact pW_if 2 (c := v3 < 0) (fun call n => rfl) k1 k2
set_option maxRecDepth 20000 in
theorem b12_22 (hR : RS R) {u1 : Option pm_V} {v2 : Int32} {v3 : Int32} {i4 : Nat} {u5 : Option pm_V} (q4 : i4 < 8)  (k1 : v3 ≤ nI 2 → pW ns d 12 35 [some (pm_r 0 0), u1, some (pm_i v2), some (pm_i v3), some (pm_r 8 i4), u5] [] (mm x R Z Y o A c G g) Q) (k2 : ¬ (v3 ≤ nI 2) → pW ns d 12 27 [some (pm_r 0 0), u1, some (pm_i v2), some (pm_i v3), some (pm_r 8 i4), u5] [] (mm x R Z Y o A c G g) Q) : pW ns d 12 22 [some (pm_r 0 0), u1, some (pm_i v2), some (pm_i v3), some (pm_r 8 i4), u5] [] (mm x R Z Y o A c G g) Q := by
  exact pW_if 3 (c := v3 ≤ nI 2) (fun call n => rfl) k1 k2
set_option maxRecDepth 20000 in
theorem b12_35 (hR : RS R) {u1 : Option pm_V} {v2 : Int32} {v3 : Int32} {i4 : Nat} {u5 : Option pm_V} {j1 : Nat} (q4 : i4 < 8) (e1 : v2 = nI j1) (l1 : j1 < 8)  (k1 : v3 = nI 1 → pW ns d 12 57 [some (pm_r 0 0), u1, some (pm_i v2), some (pm_i v3), some (pm_r 8 i4), some (pm_i (A 10 i4 j1))] [] (mm x R Z Y o (pm_u A 10 i4 j1 v3) c G g) Q) (k2 : ¬ (v3 = nI 1) → pW ns d 12 63 [some (pm_r 0 0), u1, some (pm_i v2), some (pm_i v3), some (pm_r 8 i4), some (pm_i (A 10 i4 j1))] [] (mm x R Z Y o (pm_u A 10 i4 j1 v3) c G g) Q) : pW ns d 12 35 [some (pm_r 0 0), u1, some (pm_i v2), some (pm_i v3), some (pm_r 8 i4), u5] [] (mm x R Z Y o A c G g) Q := by
  refine pW_eq 2 (pc' := 40) (L' := [some (pm_r 0 0), u1, some (pm_i v2), some (pm_i v3), some (pm_r 8 i4), u5]) (S' := [pm_r 10 i4]) (M' := (mm x R Z Y o A c G g)) (fun call n => ?_) ?_
  · refine Eq.trans (b := pm_g (mm x R Z Y o A c G g) 8 i4 (pm_go call ns d 12 n 40 [some (pm_r 0 0), u1, some (pm_i v2), some (pm_i v3), some (pm_r 8 i4), u5] [pm_a (R 8 i4 2)] (mm x R Z Y o A c G g))) rfl ?_
    refine (g_ok (f := 8) q4 rfl).trans ?_
    exact (congrArg (fun z => pm_go call ns d 12 n 40 [some (pm_r 0 0), u1, some (pm_i v2), some (pm_i v3), some (pm_r 8 i4), u5] [pm_a z] (mm x R Z Y o A c G g)) (rs_8_2 hR q4))
  refine pW_eq 2 (pc' := 42) (L' := [some (pm_r 0 0), u1, some (pm_i v2), some (pm_i v3), some (pm_r 8 i4), u5]) (S' := [pm_i (A 10 i4 j1)]) (M' := (mm x R Z Y o A c G g)) (fun call n => ?_) ?_
  · refine Eq.trans (b := pm_g (mm x R Z Y o A c G g) 10 i4 (pm_ix (v2) 8 (fun jx => pm_go call ns d 12 n 42 [some (pm_r 0 0), u1, some (pm_i v2), some (pm_i v3), some (pm_r 8 i4), u5] [pm_i (A 10 i4 jx)] (mm x R Z Y o A c G g)))) rfl ?_
    refine (g_ok (f := 10) q4 rfl).trans ?_
    refine (ix_ok (j := j1) e1 l1 (by decide)).trans ?_
    rfl
  refine pW_eq 3 (pc' := 49) (L' := [some (pm_r 0 0), u1, some (pm_i v2), some (pm_i v3), some (pm_r 8 i4), some (pm_i (A 10 i4 j1))]) (S' := [pm_r 10 i4]) (M' := (mm x R Z Y o A c G g)) (fun call n => ?_) ?_
  · refine Eq.trans (b := pm_g (mm x R Z Y o A c G g) 8 i4 (pm_go call ns d 12 n 49 [some (pm_r 0 0), u1, some (pm_i v2), some (pm_i v3), some (pm_r 8 i4), some (pm_i (A 10 i4 j1))] [pm_a (R 8 i4 2)] (mm x R Z Y o A c G g))) rfl ?_
    refine (g_ok (f := 8) q4 rfl).trans ?_
    exact (congrArg (fun z => pm_go call ns d 12 n 49 [some (pm_r 0 0), u1, some (pm_i v2), some (pm_i v3), some (pm_r 8 i4), some (pm_i (A 10 i4 j1))] [pm_a z] (mm x R Z Y o A c G g)) (rs_8_2 hR q4))
  refine pW_eq 3 (pc' := 52) (L' := [some (pm_r 0 0), u1, some (pm_i v2), some (pm_i v3), some (pm_r 8 i4), some (pm_i (A 10 i4 j1))]) (S' := []) (M' := (mm x R Z Y o (pm_u A 10 i4 j1 v3) c G g)) (fun call n => ?_) ?_
  · refine Eq.trans (b := pm_g (mm x R Z Y o A c G g) 10 i4 (pm_ix (v2) 8 (fun jx => pm_go call ns d 12 n 52 [some (pm_r 0 0), u1, some (pm_i v2), some (pm_i v3), some (pm_r 8 i4), some (pm_i (A 10 i4 j1))] [] (pm_u (mA Z A G) 10 i4 jx v3, mB Y o c g, R, pm_tot, x)))) rfl ?_
    refine (g_ok (f := 10) q4 rfl).trans ?_
    refine (ix_ok (j := j1) e1 l1 (by decide)).trans ?_
    exact (congrArg (fun z => pm_go call ns d 12 n 52 [some (pm_r 0 0), u1, some (pm_i v2), some (pm_i v3), some (pm_r 8 i4), some (pm_i (A 10 i4 j1))] [] (z, mB Y o c g, R, pm_tot, x)) (uA (by decide)))
  exact pW_if 3 (c := v3 = nI 1) (fun call n => rfl) k1 k2
set_option maxRecDepth 20000 in
theorem b12_57 (hR : RS R) {u1 : Option pm_V} {v2 : Int32} {u3 : Option pm_V} {i4 : Nat} {v5 : Int32} (q4 : i4 < 8) {x2 : Nat} {o2 : Int64} {A2 : Nat → Nat → Nat → Int32} {c2 : Nat → Int64} {G2 : Nat → Nat → Int32} {g2 : Nat → Int64}  (hE : pE ns d 117 [pm_r 8 i4, pm_i v2] (mm x R Z Y o A c G g) (.inl (none), (mm x2 R Z Y o2 A2 c2 G2 g2))) (k : pW ns d 12 63 [some (pm_r 0 0), u1, some (pm_i v2), u3, some (pm_r 8 i4), some (pm_i v5)] [] (mm x2 R Z Y o2 A2 c2 G2 g2) Q) : pW ns d 12 57 [some (pm_r 0 0), u1, some (pm_i v2), u3, some (pm_r 8 i4), some (pm_i v5)] [] (mm x R Z Y o A c G g) Q := by
  refine pW_call (pc' := 60) (r := []) (L' := [some (pm_r 0 0), u1, some (pm_i v2), u3, some (pm_r 8 i4), some (pm_i v5)]) 3 (fun call n => ?_) hE k
  exact Eq.trans (b := pm_g (mm x R Z Y o A c G g) 8 i4 (pm_cl call 12 (pm_go call ns d 12 n) 60 117 [pm_r 8 i4, pm_i v2] [] [some (pm_r 0 0), u1, some (pm_i v2), u3, some (pm_r 8 i4), some (pm_i v5)] (mm x R Z Y o A c G g))) rfl (g_ok (f := 8) q4 rfl)
set_option maxRecDepth 20000 in
theorem b12_63 (hR : RS R) {u1 : Option pm_V} {u2 : Option pm_V} {u3 : Option pm_V} {u4 : Option pm_V} {v5 : Int32}  {x2 : Nat} {o2 : Int64} {A2 : Nat → Nat → Nat → Int32} {c2 : Nat → Int64} {G2 : Nat → Nat → Int32} {g2 : Nat → Int64}  (hE : pE ns d 37 [pm_r 0 0] (mm x R Z Y o A c G g) (.inl (none), (mm x2 R Z Y o2 A2 c2 G2 g2))) (k : pW ns d 12 67 [some (pm_r 0 0), u1, u2, u3, u4, some (pm_i v5)] [] (mm x2 R Z Y o2 A2 c2 G2 g2) Q) : pW ns d 12 63 [some (pm_r 0 0), u1, u2, u3, u4, some (pm_i v5)] [] (mm x R Z Y o A c G g) Q := by
  refine pW_call (pc' := 64) (r := []) (L' := [some (pm_r 0 0), u1, u2, u3, u4, some (pm_i v5)]) 2 (fun call n => ?_) hE k
  exact Eq.trans (b := pm_g (mm x R Z Y o A c G g) 0 0 (pm_cl call 12 (pm_go call ns d 12 n) 64 37 [pm_r 0 0] [] [some (pm_r 0 0), u1, u2, u3, u4, some (pm_i v5)] (mm x R Z Y o A c G g))) rfl (g_ok (f := 0) (by decide) rfl)
set_option maxRecDepth 20000 in
theorem b12_67 (hR : RS R) {u0 : Option pm_V} {u1 : Option pm_V} {u2 : Option pm_V} {u3 : Option pm_V} {u4 : Option pm_V} {v5 : Int32}   (k : Q (.inl (some (pm_i v5)), (mm x R Z Y o A c G g))) : pW ns d 12 67 [u0, u1, u2, u3, u4, some (pm_i v5)] [] (mm x R Z Y o A c G g) Q := by
  refine pW_ret 2 (fun call n => ?_) k
  rfl
set_option maxRecDepth 20000 in
theorem t12_5 (hR : RS R) {u1 : Option pm_V} {v2 : Int32} {v3 : Int32} {u4 : Option pm_V} {u5 : Option pm_V} {is0 : Nat} (qs0 : is0 < 8) (k1 : (v2 < nI 1) → pW ns d 12 27 [some (pm_r 0 0), u1, some (pm_i v2), some (pm_i v3), some (pm_r 8 is0), u5] [] (mm x R Z Y o A c G g) Q) (k2 : (¬ (v2 < nI 1)) → (nI 7 < v2) → pW ns d 12 27 [some (pm_r 0 0), u1, some (pm_i v2), some (pm_i v3), some (pm_r 8 is0), u5] [] (mm x R Z Y o A c G g) Q) (k3 : (¬ (v2 < nI 1)) → (¬ (nI 7 < v2)) → (v3 < 0) → pW ns d 12 27 [some (pm_r 0 0), u1, some (pm_i v2), some (pm_i v3), some (pm_r 8 is0), u5] [] (mm x R Z Y o A c G g) Q) (k4 : (¬ (v2 < nI 1)) → (¬ (nI 7 < v2)) → (¬ (v3 < 0)) → (v3 ≤ nI 2) → pW ns d 12 35 [some (pm_r 0 0), u1, some (pm_i v2), some (pm_i v3), some (pm_r 8 is0), u5] [] (mm x R Z Y o A c G g) Q) (k5 : (¬ (v2 < nI 1)) → (¬ (nI 7 < v2)) → (¬ (v3 < 0)) → (¬ (v3 ≤ nI 2)) → pW ns d 12 27 [some (pm_r 0 0), u1, some (pm_i v2), some (pm_i v3), some (pm_r 8 is0), u5] [] (mm x R Z Y o A c G g) Q) : pW ns d 12 5 [some (pm_r 0 0), u1, some (pm_i v2), some (pm_i v3), u4, u5] [pm_r 8 is0] (mm x R Z Y o A c G g) Q := by
  refine b12_5 hR qs0 (fun h1 => ?_) (fun h1 => ?_)
  · skip
    exact (k1 h1)
  · skip
    refine b12_12 hR qs0  (fun h2 => ?_) (fun h2 => ?_)
    · skip
      exact (k2 h1 h2)
    · skip
      refine b12_18 hR qs0  (fun h3 => ?_) (fun h3 => ?_)
      · skip
        exact (k3 h1 h2 h3)
      · skip
        refine b12_22 hR qs0  (fun h4 => ?_) (fun h4 => ?_)
        · skip
          exact (k4 h1 h2 h3 h4)
        · skip
          exact (k5 h1 h2 h3 h4)
set_option maxRecDepth 20000 in
theorem t12_12 (hR : RS R) {u1 : Option pm_V} {v2 : Int32} {v3 : Int32} {i4 : Nat} {u5 : Option pm_V} (q4 : i4 < 8) (k1 : (nI 7 < v2) → pW ns d 12 27 [some (pm_r 0 0), u1, some (pm_i v2), some (pm_i v3), some (pm_r 8 i4), u5] [] (mm x R Z Y o A c G g) Q) (k2 : (¬ (nI 7 < v2)) → (v3 < 0) → pW ns d 12 27 [some (pm_r 0 0), u1, some (pm_i v2), some (pm_i v3), some (pm_r 8 i4), u5] [] (mm x R Z Y o A c G g) Q) (k3 : (¬ (nI 7 < v2)) → (¬ (v3 < 0)) → (v3 ≤ nI 2) → pW ns d 12 35 [some (pm_r 0 0), u1, some (pm_i v2), some (pm_i v3), some (pm_r 8 i4), u5] [] (mm x R Z Y o A c G g) Q) (k4 : (¬ (nI 7 < v2)) → (¬ (v3 < 0)) → (¬ (v3 ≤ nI 2)) → pW ns d 12 27 [some (pm_r 0 0), u1, some (pm_i v2), some (pm_i v3), some (pm_r 8 i4), u5] [] (mm x R Z Y o A c G g) Q) : pW ns d 12 12 [some (pm_r 0 0), u1, some (pm_i v2), some (pm_i v3), some (pm_r 8 i4), u5] [] (mm x R Z Y o A c G g) Q := by
  refine b12_12 hR q4 (fun h1 => ?_) (fun h1 => ?_)
  · skip
    exact (k1 h1)
  · skip
    refine b12_18 hR q4  (fun h2 => ?_) (fun h2 => ?_)
    · skip
      exact (k2 h1 h2)
    · skip
      refine b12_22 hR q4  (fun h3 => ?_) (fun h3 => ?_)
      · skip
        exact (k3 h1 h2 h3)
      · skip
        exact (k4 h1 h2 h3)
set_option maxRecDepth 20000 in
theorem t12_18 (hR : RS R) {u1 : Option pm_V} {v2 : Int32} {v3 : Int32} {i4 : Nat} {u5 : Option pm_V} (q4 : i4 < 8) (k1 : (v3 < 0) → pW ns d 12 27 [some (pm_r 0 0), u1, some (pm_i v2), some (pm_i v3), some (pm_r 8 i4), u5] [] (mm x R Z Y o A c G g) Q) (k2 : (¬ (v3 < 0)) → (v3 ≤ nI 2) → pW ns d 12 35 [some (pm_r 0 0), u1, some (pm_i v2), some (pm_i v3), some (pm_r 8 i4), u5] [] (mm x R Z Y o A c G g) Q) (k3 : (¬ (v3 < 0)) → (¬ (v3 ≤ nI 2)) → pW ns d 12 27 [some (pm_r 0 0), u1, some (pm_i v2), some (pm_i v3), some (pm_r 8 i4), u5] [] (mm x R Z Y o A c G g) Q) : pW ns d 12 18 [some (pm_r 0 0), u1, some (pm_i v2), some (pm_i v3), some (pm_r 8 i4), u5] [] (mm x R Z Y o A c G g) Q := by
  refine b12_18 hR q4 (fun h1 => ?_) (fun h1 => ?_)
  · skip
    exact (k1 h1)
  · skip
    refine b12_22 hR q4  (fun h2 => ?_) (fun h2 => ?_)
    · skip
      exact (k2 h1 h2)
    · skip
      exact (k3 h1 h2)
set_option maxRecDepth 20000 in
theorem t12_22 (hR : RS R) {u1 : Option pm_V} {v2 : Int32} {v3 : Int32} {i4 : Nat} {u5 : Option pm_V} (q4 : i4 < 8) (k1 : (v3 ≤ nI 2) → pW ns d 12 35 [some (pm_r 0 0), u1, some (pm_i v2), some (pm_i v3), some (pm_r 8 i4), u5] [] (mm x R Z Y o A c G g) Q) (k2 : (¬ (v3 ≤ nI 2)) → pW ns d 12 27 [some (pm_r 0 0), u1, some (pm_i v2), some (pm_i v3), some (pm_r 8 i4), u5] [] (mm x R Z Y o A c G g) Q) : pW ns d 12 22 [some (pm_r 0 0), u1, some (pm_i v2), some (pm_i v3), some (pm_r 8 i4), u5] [] (mm x R Z Y o A c G g) Q := by
  refine b12_22 hR q4 (fun h1 => ?_) (fun h1 => ?_)
  · skip
    exact (k1 h1)
  · skip
    exact (k2 h1)
set_option maxRecDepth 20000 in
theorem t12_35 (hR : RS R) {u1 : Option pm_V} {v2 : Int32} {v3 : Int32} {i4 : Nat} {u5 : Option pm_V} {j1 : Nat} (q4 : i4 < 8) (e1 : v2 = nI j1) (l1 : j1 < 8) (k1 : (v3 = nI 1) → pW ns d 12 57 [some (pm_r 0 0), u1, some (pm_i v2), some (pm_i v3), some (pm_r 8 i4), some (pm_i (A 10 i4 j1))] [] (mm x R Z Y o (pm_u A 10 i4 j1 v3) c G g) Q) (k2 : (¬ (v3 = nI 1)) → pW ns d 12 63 [some (pm_r 0 0), u1, some (pm_i v2), some (pm_i v3), some (pm_r 8 i4), some (pm_i (A 10 i4 j1))] [] (mm x R Z Y o (pm_u A 10 i4 j1 v3) c G g) Q) : pW ns d 12 35 [some (pm_r 0 0), u1, some (pm_i v2), some (pm_i v3), some (pm_r 8 i4), u5] [] (mm x R Z Y o A c G g) Q := by
  refine b12_35 hR q4 e1 l1 (fun h1 => ?_) (fun h1 => ?_)
  · skip
    exact (k1 h1)
  · skip
    exact (k2 h1)
/-! 13 JobLayer.mask -/
set_option maxRecDepth 20000 in
theorem b13_0 (hR : RS R) {v1 : Int32} {v2 : Int32} {u3 : Option pm_V} {u4 : Option pm_V} {u5 : Option pm_V}  {x2 : Nat} {o2 : Int64} {A2 : Nat → Nat → Nat → Int32} {c2 : Nat → Int64} {G2 : Nat → Nat → Int32} {g2 : Nat → Int64} {j : Nat} (hE : pE ns d 23 [pm_r 0 0, pm_i v1] (mm x R Z Y o A c G g) (.inl (some (pm_r 8 j)), (mm x2 R Z Y o2 A2 c2 G2 g2))) (k : pW ns d 13 5 [some (pm_r 0 0), some (pm_i v1), some (pm_i v2), u3, u4, u5] [pm_r 8 j] (mm x2 R Z Y o2 A2 c2 G2 g2) Q) : pW ns d 13 0 [some (pm_r 0 0), some (pm_i v1), some (pm_i v2), u3, u4, u5] [] (mm x R Z Y o A c G g) Q := by
  refine pW_call (pc' := 2) (r := []) (L' := [some (pm_r 0 0), some (pm_i v1), some (pm_i v2), u3, u4, u5]) 3 (fun call n => ?_) hE k
  exact Eq.trans (b := pm_g (mm x R Z Y o A c G g) 0 0 (pm_cl call 13 (pm_go call ns d 13 n) 2 23 [pm_r 0 0, pm_i v1] [] [some (pm_r 0 0), some (pm_i v1), some (pm_i v2), u3, u4, u5] (mm x R Z Y o A c G g))) rfl (g_ok (f := 0) (by decide) rfl)
set_option maxRecDepth 20000 in
theorem b13_0x (hR : RS R) {v1 : Int32} {v2 : Int32} {u3 : Option pm_V} {u4 : Option pm_V} {u5 : Option pm_V}  {x2 : Nat} {o2 : Int64} {A2 : Nat → Nat → Nat → Int32} {c2 : Nat → Int64} {G2 : Nat → Nat → Int32} {g2 : Nat → Int64} {e : Nat} (hE : pE ns d 23 [pm_r 0 0, pm_i v1] (mm x R Z Y o A c G g) (.inr e, (mm x2 R Z Y o2 A2 c2 G2 g2))) (k : Q (.inr e, (mm x2 R Z Y o2 A2 c2 G2 g2))) : pW ns d 13 0 [some (pm_r 0 0), some (pm_i v1), some (pm_i v2), u3, u4, u5] [] (mm x R Z Y o A c G g) Q := by
  refine pW_callx (pc' := 2) (r := []) (L' := [some (pm_r 0 0), some (pm_i v1), some (pm_i v2), u3, u4, u5]) 3 (fun call n => ?_) hE ⟨rfl, rfl⟩ k
  exact Eq.trans (b := pm_g (mm x R Z Y o A c G g) 0 0 (pm_cl call 13 (pm_go call ns d 13 n) 2 23 [pm_r 0 0, pm_i v1] [] [some (pm_r 0 0), some (pm_i v1), some (pm_i v2), u3, u4, u5] (mm x R Z Y o A c G g))) rfl (g_ok (f := 0) (by decide) rfl)
set_option maxRecDepth 20000 in
theorem b13_5 (hR : RS R) {u1 : Option pm_V} {v2 : Int32} {u3 : Option pm_V} {u4 : Option pm_V} {u5 : Option pm_V} {is0 : Nat} (qs0 : is0 < 8) {x2 : Nat} {o2 : Int64} {A2 : Nat → Nat → Nat → Int32} {c2 : Nat → Int64} {G2 : Nat → Nat → Int32} {g2 : Nat → Int64} {j : Nat} (hE : pE ns d 34 [pm_r 0 0, pm_r 8 is0] (mm x R Z Y o (pm_u A 8 is0 9 (v2 &&& (nI 254))) c G g) (.inl (some (pm_r 8 j)), (mm x2 R Z Y o2 A2 c2 G2 g2))) (k : pW ns d 13 26 [some (pm_r 0 0), u1, some (pm_i v2), some (pm_r 8 is0), some (pm_i (A 8 is0 9)), u5] [pm_r 8 j] (mm x2 R Z Y o2 A2 c2 G2 g2) Q) : pW ns d 13 5 [some (pm_r 0 0), u1, some (pm_i v2), u3, u4, u5] [pm_r 8 is0] (mm x R Z Y o A c G g) Q := by
  refine pW_eq 3 (pc' := 10) (L' := [some (pm_r 0 0), u1, some (pm_i v2), some (pm_r 8 is0), u4, u5]) (S' := [pm_i (A 8 is0 9)]) (M' := (mm x R Z Y o A c G g)) (fun call n => ?_) ?_
  · refine Eq.trans (b := pm_g (mm x R Z Y o A c G g) 8 is0 (pm_go call ns d 13 n 10 [some (pm_r 0 0), u1, some (pm_i v2), some (pm_r 8 is0), u4, u5] [pm_i (A 8 is0 9)] (mm x R Z Y o A c G g))) rfl ?_
    refine (g_ok (f := 8) qs0 rfl).trans ?_
    rfl
  refine pW_eq 6 (pc' := 21) (L' := [some (pm_r 0 0), u1, some (pm_i v2), some (pm_r 8 is0), some (pm_i (A 8 is0 9)), u5]) (S' := []) (M' := (mm x R Z Y o (pm_u A 8 is0 9 (v2 &&& (nI 254))) c G g)) (fun call n => ?_) ?_
  · refine Eq.trans (b := pm_g (mm x R Z Y o A c G g) 8 is0 (pm_go call ns d 13 n 21 [some (pm_r 0 0), u1, some (pm_i v2), some (pm_r 8 is0), some (pm_i (A 8 is0 9)), u5] [] (pm_u (mA Z A G) 8 is0 9 (v2 &&& (nI 254)), mB Y o c g, R, pm_tot, x))) rfl ?_
    refine (g_ok (f := 8) qs0 rfl).trans ?_
    exact (congrArg (fun z => pm_go call ns d 13 n 21 [some (pm_r 0 0), u1, some (pm_i v2), some (pm_r 8 is0), some (pm_i (A 8 is0 9)), u5] [] (z, mB Y o c g, R, pm_tot, x)) (uA (by decide)))
  refine pW_call (pc' := 23) (r := []) (L' := [some (pm_r 0 0), u1, some (pm_i v2), some (pm_r 8 is0), some (pm_i (A 8 is0 9)), u5]) 3 (fun call n => ?_) hE k
  exact Eq.trans (b := pm_g (mm x R Z Y o (pm_u A 8 is0 9 (v2 &&& (nI 254))) c G g) 0 0 (pm_cl call 13 (pm_go call ns d 13 n) 23 34 [pm_r 0 0, pm_r 8 is0] [] [some (pm_r 0 0), u1, some (pm_i v2), some (pm_r 8 is0), some (pm_i (A 8 is0 9)), u5] (mm x R Z Y o (pm_u A 8 is0 9 (v2 &&& (nI 254))) c G g))) rfl (g_ok (f := 0) (by decide) rfl)
set_option maxRecDepth 20000 in
theorem b13_5n (hR : RS R) {u1 : Option pm_V} {v2 : Int32} {u3 : Option pm_V} {u4 : Option pm_V} {u5 : Option pm_V} {is0 : Nat} (qs0 : is0 < 8) {x2 : Nat} {o2 : Int64} {A2 : Nat → Nat → Nat → Int32} {c2 : Nat → Int64} {G2 : Nat → Nat → Int32} {g2 : Nat → Int64}  (hE : pE ns d 34 [pm_r 0 0, pm_r 8 is0] (mm x R Z Y o (pm_u A 8 is0 9 (v2 &&& (nI 254))) c G g) (.inl (some (pm_a none)), (mm x2 R Z Y o2 A2 c2 G2 g2))) (k : pW ns d 13 26 [some (pm_r 0 0), u1, some (pm_i v2), some (pm_r 8 is0), some (pm_i (A 8 is0 9)), u5] [pm_a none] (mm x2 R Z Y o2 A2 c2 G2 g2) Q) : pW ns d 13 5 [some (pm_r 0 0), u1, some (pm_i v2), u3, u4, u5] [pm_r 8 is0] (mm x R Z Y o A c G g) Q := by
  refine pW_eq 3 (pc' := 10) (L' := [some (pm_r 0 0), u1, some (pm_i v2), some (pm_r 8 is0), u4, u5]) (S' := [pm_i (A 8 is0 9)]) (M' := (mm x R Z Y o A c G g)) (fun call n => ?_) ?_
  · refine Eq.trans (b := pm_g (mm x R Z Y o A c G g) 8 is0 (pm_go call ns d 13 n 10 [some (pm_r 0 0), u1, some (pm_i v2), some (pm_r 8 is0), u4, u5] [pm_i (A 8 is0 9)] (mm x R Z Y o A c G g))) rfl ?_
    refine (g_ok (f := 8) qs0 rfl).trans ?_
    rfl
  refine pW_eq 6 (pc' := 21) (L' := [some (pm_r 0 0), u1, some (pm_i v2), some (pm_r 8 is0), some (pm_i (A 8 is0 9)), u5]) (S' := []) (M' := (mm x R Z Y o (pm_u A 8 is0 9 (v2 &&& (nI 254))) c G g)) (fun call n => ?_) ?_
  · refine Eq.trans (b := pm_g (mm x R Z Y o A c G g) 8 is0 (pm_go call ns d 13 n 21 [some (pm_r 0 0), u1, some (pm_i v2), some (pm_r 8 is0), some (pm_i (A 8 is0 9)), u5] [] (pm_u (mA Z A G) 8 is0 9 (v2 &&& (nI 254)), mB Y o c g, R, pm_tot, x))) rfl ?_
    refine (g_ok (f := 8) qs0 rfl).trans ?_
    exact (congrArg (fun z => pm_go call ns d 13 n 21 [some (pm_r 0 0), u1, some (pm_i v2), some (pm_r 8 is0), some (pm_i (A 8 is0 9)), u5] [] (z, mB Y o c g, R, pm_tot, x)) (uA (by decide)))
  refine pW_call (pc' := 23) (r := []) (L' := [some (pm_r 0 0), u1, some (pm_i v2), some (pm_r 8 is0), some (pm_i (A 8 is0 9)), u5]) 3 (fun call n => ?_) hE k
  exact Eq.trans (b := pm_g (mm x R Z Y o (pm_u A 8 is0 9 (v2 &&& (nI 254))) c G g) 0 0 (pm_cl call 13 (pm_go call ns d 13 n) 23 34 [pm_r 0 0, pm_r 8 is0] [] [some (pm_r 0 0), u1, some (pm_i v2), some (pm_r 8 is0), some (pm_i (A 8 is0 9)), u5] (mm x R Z Y o (pm_u A 8 is0 9 (v2 &&& (nI 254))) c G g))) rfl (g_ok (f := 0) (by decide) rfl)
set_option maxRecDepth 20000 in
theorem b13_26 (hR : RS R) {u1 : Option pm_V} {u2 : Option pm_V} {u3 : Option pm_V} {v4 : Int32} {u5 : Option pm_V} {is0 : Nat} (qs0 : is0 < 8) {x2 : Nat} {o2 : Int64} {A2 : Nat → Nat → Nat → Int32} {c2 : Nat → Int64} {G2 : Nat → Nat → Int32} {g2 : Nat → Int64} {y : Int32} (hE : pE ns d 33 [pm_r 0 0, pm_r 8 is0, pm_i (nI 7)] (mm x R Z Y o A c G g) (.inl (some (pm_i y)), (mm x2 R Z Y o2 A2 c2 G2 g2))) (k : pW ns d 13 36 [some (pm_r 0 0), u1, u2, u3, some (pm_i v4), some (pm_r 8 is0)] [pm_i y] (mm x2 R Z Y o2 A2 c2 G2 g2) Q) : pW ns d 13 26 [some (pm_r 0 0), u1, u2, u3, some (pm_i v4), u5] [pm_r 8 is0] (mm x R Z Y o A c G g) Q := by
  refine pW_call (pc' := 33) (r := []) (L' := [some (pm_r 0 0), u1, u2, u3, some (pm_i v4), some (pm_r 8 is0)]) 5 (fun call n => ?_) hE k
  exact Eq.trans (b := pm_g (mm x R Z Y o A c G g) 0 0 (pm_cl call 13 (pm_go call ns d 13 n) 33 33 [pm_r 0 0, pm_r 8 is0, pm_i (nI 7)] [] [some (pm_r 0 0), u1, u2, u3, some (pm_i v4), some (pm_r 8 is0)] (mm x R Z Y o A c G g))) rfl (g_ok (f := 0) (by decide) rfl)
set_option maxRecDepth 20000 in
theorem b13_26a (hR : RS R) {u1 : Option pm_V} {u2 : Option pm_V} {u3 : Option pm_V} {v4 : Int32} {u5 : Option pm_V}  {x2 : Nat} {o2 : Int64} {A2 : Nat → Nat → Nat → Int32} {c2 : Nat → Int64} {G2 : Nat → Nat → Int32} {g2 : Nat → Int64} {y : Int32} (hE : pE ns d 33 [pm_r 0 0, pm_a none, pm_i (nI 7)] (mm x R Z Y o A c G g) (.inl (some (pm_i y)), (mm x2 R Z Y o2 A2 c2 G2 g2))) (k : pW ns d 13 36 [some (pm_r 0 0), u1, u2, u3, some (pm_i v4), some (pm_a none)] [pm_i y] (mm x2 R Z Y o2 A2 c2 G2 g2) Q) : pW ns d 13 26 [some (pm_r 0 0), u1, u2, u3, some (pm_i v4), u5] [pm_a none] (mm x R Z Y o A c G g) Q := by
  refine pW_call (pc' := 33) (r := []) (L' := [some (pm_r 0 0), u1, u2, u3, some (pm_i v4), some (pm_a none)]) 5 (fun call n => ?_) hE k
  exact Eq.trans (b := pm_g (mm x R Z Y o A c G g) 0 0 (pm_cl call 13 (pm_go call ns d 13 n) 33 33 [pm_r 0 0, pm_a none, pm_i (nI 7)] [] [some (pm_r 0 0), u1, u2, u3, some (pm_i v4), some (pm_a none)] (mm x R Z Y o A c G g))) rfl (g_ok (f := 0) (by decide) rfl)
set_option maxRecDepth 20000 in
theorem b13_36 (hR : RS R) {u1 : Option pm_V} {u2 : Option pm_V} {u3 : Option pm_V} {v4 : Int32} {u5 : Option pm_V} {vs0 : Int32}  {x2 : Nat} {o2 : Int64} {A2 : Nat → Nat → Nat → Int32} {c2 : Nat → Int64} {G2 : Nat → Nat → Int32} {g2 : Nat → Int64}  (hE : pE ns d 37 [pm_r 0 0] (mm x R Z Y o A c G g) (.inl (none), (mm x2 R Z Y o2 A2 c2 G2 g2))) (k : pW ns d 13 41 [some (pm_r 0 0), u1, u2, u3, some (pm_i v4), u5] [] (mm x2 R Z Y o2 A2 c2 G2 g2) Q) : pW ns d 13 36 [some (pm_r 0 0), u1, u2, u3, some (pm_i v4), u5] [pm_i vs0] (mm x R Z Y o A c G g) Q := by
  refine pW_call (pc' := 38) (r := []) (L' := [some (pm_r 0 0), u1, u2, u3, some (pm_i v4), u5]) 3 (fun call n => ?_) hE k
  exact Eq.trans (b := pm_g (mm x R Z Y o A c G g) 0 0 (pm_cl call 13 (pm_go call ns d 13 n) 38 37 [pm_r 0 0] [] [some (pm_r 0 0), u1, u2, u3, some (pm_i v4), u5] (mm x R Z Y o A c G g))) rfl (g_ok (f := 0) (by decide) rfl)
set_option maxRecDepth 20000 in
theorem b13_41 (hR : RS R) {u0 : Option pm_V} {u1 : Option pm_V} {u2 : Option pm_V} {u3 : Option pm_V} {v4 : Int32} {u5 : Option pm_V}   (k : Q (.inl (some (pm_i v4)), (mm x R Z Y o A c G g))) : pW ns d 13 41 [u0, u1, u2, u3, some (pm_i v4), u5] [] (mm x R Z Y o A c G g) Q := by
  refine pW_ret 2 (fun call n => ?_) k
  rfl
/-! 14 JobLayer.group -/
set_option maxRecDepth 20000 in
theorem b14_0 (hR : RS R) {v1 : Int32} {v2 : Int32} {v3 : Int32} {u4 : Option pm_V}  {x2 : Nat} {o2 : Int64} {A2 : Nat → Nat → Nat → Int32} {c2 : Nat → Int64} {G2 : Nat → Nat → Int32} {g2 : Nat → Int64} {j : Nat} (hE : pE ns d 23 [pm_r 0 0, pm_i v1] (mm x R Z Y o A c G g) (.inl (some (pm_r 8 j)), (mm x2 R Z Y o2 A2 c2 G2 g2))) (k : pW ns d 14 5 [some (pm_r 0 0), some (pm_i v1), some (pm_i v2), some (pm_i v3), u4] [pm_r 8 j] (mm x2 R Z Y o2 A2 c2 G2 g2) Q) : pW ns d 14 0 [some (pm_r 0 0), some (pm_i v1), some (pm_i v2), some (pm_i v3), u4] [] (mm x R Z Y o A c G g) Q := by
  refine pW_call (pc' := 2) (r := []) (L' := [some (pm_r 0 0), some (pm_i v1), some (pm_i v2), some (pm_i v3), u4]) 3 (fun call n => ?_) hE k
  exact Eq.trans (b := pm_g (mm x R Z Y o A c G g) 0 0 (pm_cl call 14 (pm_go call ns d 14 n) 2 23 [pm_r 0 0, pm_i v1] [] [some (pm_r 0 0), some (pm_i v1), some (pm_i v2), some (pm_i v3), u4] (mm x R Z Y o A c G g))) rfl (g_ok (f := 0) (by decide) rfl)
set_option maxRecDepth 20000 in
theorem b14_0x (hR : RS R) {v1 : Int32} {v2 : Int32} {v3 : Int32} {u4 : Option pm_V}  {x2 : Nat} {o2 : Int64} {A2 : Nat → Nat → Nat → Int32} {c2 : Nat → Int64} {G2 : Nat → Nat → Int32} {g2 : Nat → Int64} {e : Nat} (hE : pE ns d 23 [pm_r 0 0, pm_i v1] (mm x R Z Y o A c G g) (.inr e, (mm x2 R Z Y o2 A2 c2 G2 g2))) (k : Q (.inr e, (mm x2 R Z Y o2 A2 c2 G2 g2))) : pW ns d 14 0 [some (pm_r 0 0), some (pm_i v1), some (pm_i v2), some (pm_i v3), u4] [] (mm x R Z Y o A c G g) Q := by
  refine pW_callx (pc' := 2) (r := []) (L' := [some (pm_r 0 0), some (pm_i v1), some (pm_i v2), some (pm_i v3), u4]) 3 (fun call n => ?_) hE ⟨rfl, rfl⟩ k
  exact Eq.trans (b := pm_g (mm x R Z Y o A c G g) 0 0 (pm_cl call 14 (pm_go call ns d 14 n) 2 23 [pm_r 0 0, pm_i v1] [] [some (pm_r 0 0), some (pm_i v1), some (pm_i v2), some (pm_i v3), u4] (mm x R Z Y o A c G g))) rfl (g_ok (f := 0) (by decide) rfl)
set_option maxRecDepth 20000 in
theorem b14_5 (hR : RS R) {v1 : Int32} {v2 : Int32} {v3 : Int32} {u4 : Option pm_V} {is0 : Nat} (qs0 : is0 < 8)  (k1 : v2 ≤ 0 → pW ns d 14 28 [some (pm_r 0 0), some (pm_i v1), some (pm_i v2), some (pm_i v3), u4] [] (mm x R Z Y o A c G g) Q) (k2 : ¬ (v2 ≤ 0) → pW ns d 14 10 [some (pm_r 0 0), some (pm_i v1), some (pm_i v2), some (pm_i v3), u4] [] (mm x R Z Y o A c G g) Q) : pW ns d 14 5 [some (pm_r 0 0), some (pm_i v1), some (pm_i v2), some (pm_i v3), u4] [pm_r 8 is0] (mm x R Z Y o A c G g) Q := by
  exact pW_if 3 (c := v2 ≤ 0) (fun call n => rfl) k1 k2
set_option maxRecDepth 20000 in
theorem b14_28 (hR : RS R) {u0 : Option pm_V} {u1 : Option pm_V} {u2 : Option pm_V} {u3 : Option pm_V} {u4 : Option pm_V}   (k : Q (.inl (some (pm_i (-nI 7))), (mm x R Z Y o A c G g))) : pW ns d 14 28 [u0, u1, u2, u3, u4] [] (mm x R Z Y o A c G g) Q := by
  refine pW_ret 2 (fun call n => ?_) k
  rfl
set_option maxRecDepth 20000 in
theorem b14_10 (hR : RS R) {v1 : Int32} {v2 : Int32} {v3 : Int32} {u4 : Option pm_V}   (k1 : nI 8 ≤ v2 → pW ns d 14 28 [some (pm_r 0 0), some (pm_i v1), some (pm_i v2), some (pm_i v3), u4] [] (mm x R Z Y o A c G g) Q) (k2 : ¬ (nI 8 ≤ v2) → pW ns d 14 16 [some (pm_r 0 0), some (pm_i v1), some (pm_i v2), some (pm_i v3), u4] [] (mm x R Z Y o A c G g) Q) : pW ns d 14 10 [some (pm_r 0 0), some (pm_i v1), some (pm_i v2), some (pm_i v3), u4] [] (mm x R Z Y o A c G g) Q := by
  exact pW_if 3 (c := nI 8 ≤ v2) (fun call n => rfl) k1 k2
set_option maxRecDepth 20000 in
theorem b14_16 (hR : RS R) {v1 : Int32} {v2 : Int32} {v3 : Int32} {u4 : Option pm_V} {j1 : Nat} (e1 : v2 = nI j1) (l1 : j1 < 8) {x2 : Nat} {o2 : Int64} {A2 : Nat → Nat → Nat → Int32} {c2 : Nat → Int64} {G2 : Nat → Nat → Int32} {g2 : Nat → Int64} {y : Int32} (hE : pE ns d 112 [pm_r 8 j1] (mm x R Z Y o A c G g) (.inl (some (pm_i y)), (mm x2 R Z Y o2 A2 c2 G2 g2))) (k : pW ns d 14 25 [some (pm_r 0 0), some (pm_i v1), some (pm_i v2), some (pm_i v3), u4] [pm_i y] (mm x2 R Z Y o2 A2 c2 G2 g2) Q) : pW ns d 14 16 [some (pm_r 0 0), some (pm_i v1), some (pm_i v2), some (pm_i v3), u4] [] (mm x R Z Y o A c G g) Q := by
  refine pW_eq 2 (pc' := 20) (L' := [some (pm_r 0 0), some (pm_i v1), some (pm_i v2), some (pm_i v3), u4]) (S' := [pm_r 1 0]) (M' := (mm x R Z Y o A c G g)) (fun call n => ?_) ?_
  · refine Eq.trans (b := pm_g (mm x R Z Y o A c G g) 0 0 (pm_go call ns d 14 n 20 [some (pm_r 0 0), some (pm_i v1), some (pm_i v2), some (pm_i v3), u4] [pm_a (R 0 0 0)] (mm x R Z Y o A c G g))) rfl ?_
    refine (g_ok (f := 0) (by decide) rfl).trans ?_
    exact (congrArg (fun z => pm_go call ns d 14 n 20 [some (pm_r 0 0), some (pm_i v1), some (pm_i v2), some (pm_i v3), u4] [pm_a z] (mm x R Z Y o A c G g)) (rs_0_0 hR))
  refine pW_eq 2 (pc' := 22) (L' := [some (pm_r 0 0), some (pm_i v1), some (pm_i v2), some (pm_i v3), u4]) (S' := [pm_r 8 j1]) (M' := (mm x R Z Y o A c G g)) (fun call n => ?_) ?_
  · refine Eq.trans (b := pm_g (mm x R Z Y o A c G g) 1 0 (pm_ix (v2) 8 (fun jx => pm_go call ns d 14 n 22 [some (pm_r 0 0), some (pm_i v1), some (pm_i v2), some (pm_i v3), u4] [pm_a (R 1 0 jx)] (mm x R Z Y o A c G g)))) rfl ?_
    refine (g_ok (f := 1) (by decide) rfl).trans ?_
    refine (ix_ok (j := j1) e1 l1 (by decide)).trans ?_
    exact (congrArg (fun z => pm_go call ns d 14 n 22 [some (pm_r 0 0), some (pm_i v1), some (pm_i v2), some (pm_i v3), u4] [pm_a z] (mm x R Z Y o A c G g)) (rs_1 hR (k := j1) l1))
  refine pW_call (pc' := 22) (r := []) (L' := [some (pm_r 0 0), some (pm_i v1), some (pm_i v2), some (pm_i v3), u4]) 1 (fun call n => ?_) hE k
  exact Eq.trans (b := pm_g (mm x R Z Y o A c G g) 8 j1 (pm_cl call 14 (pm_go call ns d 14 n) 22 112 [pm_r 8 j1] [] [some (pm_r 0 0), some (pm_i v1), some (pm_i v2), some (pm_i v3), u4] (mm x R Z Y o A c G g))) rfl (g_ok (f := 8) l1 rfl)
set_option maxRecDepth 20000 in
theorem b14_25 (hR : RS R) {v1 : Int32} {v2 : Int32} {v3 : Int32} {u4 : Option pm_V} {vs0 : Int32}   (k1 : vs0 = 0 → pW ns d 14 28 [some (pm_r 0 0), some (pm_i v1), some (pm_i v2), some (pm_i v3), u4] [] (mm x R Z Y o A c G g) Q) (k2 : ¬ (vs0 = 0) → pW ns d 14 31 [some (pm_r 0 0), some (pm_i v1), some (pm_i v2), some (pm_i v3), u4] [] (mm x R Z Y o A c G g) Q) : pW ns d 14 25 [some (pm_r 0 0), some (pm_i v1), some (pm_i v2), some (pm_i v3), u4] [pm_i vs0] (mm x R Z Y o A c G g) Q := by
  exact pW_if 1 (c := vs0 = 0) (fun call n => rfl) k1 k2
set_option maxRecDepth 20000 in
theorem b14_31 (hR : RS R) {v1 : Int32} {v2 : Int32} {v3 : Int32} {u4 : Option pm_V} {j1 : Nat} (e1 : v2 = nI j1) (l1 : j1 < 8)  (k1 : v2 = v1 → pW ns d 14 53 [some (pm_r 0 0), some (pm_i v1), some (pm_i v2), some (pm_i v3), some (pm_r 8 j1)] [] (mm x R Z Y o A c G g) Q) (k2 : ¬ (v2 = v1) → pW ns d 14 44 [some (pm_r 0 0), some (pm_i v1), some (pm_i v2), some (pm_i v3), some (pm_r 8 j1)] [] (mm x R Z Y o A c G g) Q) : pW ns d 14 31 [some (pm_r 0 0), some (pm_i v1), some (pm_i v2), some (pm_i v3), u4] [] (mm x R Z Y o A c G g) Q := by
  refine pW_eq 2 (pc' := 35) (L' := [some (pm_r 0 0), some (pm_i v1), some (pm_i v2), some (pm_i v3), u4]) (S' := [pm_r 1 0]) (M' := (mm x R Z Y o A c G g)) (fun call n => ?_) ?_
  · refine Eq.trans (b := pm_g (mm x R Z Y o A c G g) 0 0 (pm_go call ns d 14 n 35 [some (pm_r 0 0), some (pm_i v1), some (pm_i v2), some (pm_i v3), u4] [pm_a (R 0 0 0)] (mm x R Z Y o A c G g))) rfl ?_
    refine (g_ok (f := 0) (by decide) rfl).trans ?_
    exact (congrArg (fun z => pm_go call ns d 14 n 35 [some (pm_r 0 0), some (pm_i v1), some (pm_i v2), some (pm_i v3), u4] [pm_a z] (mm x R Z Y o A c G g)) (rs_0_0 hR))
  refine pW_eq 2 (pc' := 37) (L' := [some (pm_r 0 0), some (pm_i v1), some (pm_i v2), some (pm_i v3), u4]) (S' := [pm_r 8 j1]) (M' := (mm x R Z Y o A c G g)) (fun call n => ?_) ?_
  · refine Eq.trans (b := pm_g (mm x R Z Y o A c G g) 1 0 (pm_ix (v2) 8 (fun jx => pm_go call ns d 14 n 37 [some (pm_r 0 0), some (pm_i v1), some (pm_i v2), some (pm_i v3), u4] [pm_a (R 1 0 jx)] (mm x R Z Y o A c G g)))) rfl ?_
    refine (g_ok (f := 1) (by decide) rfl).trans ?_
    refine (ix_ok (j := j1) e1 l1 (by decide)).trans ?_
    exact (congrArg (fun z => pm_go call ns d 14 n 37 [some (pm_r 0 0), some (pm_i v1), some (pm_i v2), some (pm_i v3), u4] [pm_a z] (mm x R Z Y o A c G g)) (rs_1 hR (k := j1) l1))
  exact pW_if 4 (c := v2 = v1) (fun call n => rfl) k1 k2
set_option maxRecDepth 20000 in
theorem b14_53 (hR : RS R) {u1 : Option pm_V} {v2 : Int32} {v3 : Int32} {i4 : Nat} (q4 : i4 < 8)  (k1 : v3 = v2 → pW ns d 14 69 [some (pm_r 0 0), u1, some (pm_i v2), some (pm_i v3), some (pm_r 8 i4)] [] (mm x R Z Y o A c G g) Q) (k2 : ¬ (v3 = v2) → pW ns d 14 58 [some (pm_r 0 0), u1, some (pm_i v2), some (pm_i v3), some (pm_r 8 i4)] [] (mm x R Z Y o A c G g) Q) : pW ns d 14 53 [some (pm_r 0 0), u1, some (pm_i v2), some (pm_i v3), some (pm_r 8 i4)] [] (mm x R Z Y o A c G g) Q := by
  exact pW_if 3 (c := v3 = v2) (fun call n => rfl) k1 k2
set_option maxRecDepth 20000 in
theorem b14_44 (hR : RS R) {v1 : Int32} {v2 : Int32} {v3 : Int32} {i4 : Nat} (q4 : i4 < 8)  (k1 : A 8 i4 7 = v1 → pW ns d 14 53 [some (pm_r 0 0), some (pm_i v1), some (pm_i v2), some (pm_i v3), some (pm_r 8 i4)] [] (mm x R Z Y o A c G g) Q) (k2 : ¬ (A 8 i4 7 = v1) → pW ns d 14 66 [some (pm_r 0 0), some (pm_i v1), some (pm_i v2), some (pm_i v3), some (pm_r 8 i4)] [] (mm x R Z Y o A c G g) Q) : pW ns d 14 44 [some (pm_r 0 0), some (pm_i v1), some (pm_i v2), some (pm_i v3), some (pm_r 8 i4)] [] (mm x R Z Y o A c G g) Q := by
  refine pW_eq 2 (pc' := 49) (L' := [some (pm_r 0 0), some (pm_i v1), some (pm_i v2), some (pm_i v3), some (pm_r 8 i4)]) (S' := [pm_i (A 8 i4 7)]) (M' := (mm x R Z Y o A c G g)) (fun call n => ?_) ?_
  · refine Eq.trans (b := pm_g (mm x R Z Y o A c G g) 8 i4 (pm_go call ns d 14 n 49 [some (pm_r 0 0), some (pm_i v1), some (pm_i v2), some (pm_i v3), some (pm_r 8 i4)] [pm_i (A 8 i4 7)] (mm x R Z Y o A c G g))) rfl ?_
    refine (g_ok (f := 8) q4 rfl).trans ?_
    rfl
  exact pW_if 2 (c := A 8 i4 7 = v1) (fun call n => rfl) k1 k2
set_option maxRecDepth 20000 in
theorem b14_69 (hR : RS R) {u1 : Option pm_V} {u2 : Option pm_V} {v3 : Int32} {i4 : Nat} (q4 : i4 < 8) {x2 : Nat} {o2 : Int64} {A2 : Nat → Nat → Nat → Int32} {c2 : Nat → Int64} {G2 : Nat → Nat → Int32} {g2 : Nat → Int64}  (hE : pE ns d 37 [pm_r 0 0] (mm x R Z Y o (pm_u A 8 i4 8 v3) c G g) (.inl (none), (mm x2 R Z Y o2 A2 c2 G2 g2))) (k : pW ns d 14 79 [some (pm_r 0 0), u1, u2, some (pm_i v3), some (pm_r 8 i4)] [] (mm x2 R Z Y o2 A2 c2 G2 g2) Q) : pW ns d 14 69 [some (pm_r 0 0), u1, u2, some (pm_i v3), some (pm_r 8 i4)] [] (mm x R Z Y o A c G g) Q := by
  refine pW_eq 3 (pc' := 75) (L' := [some (pm_r 0 0), u1, u2, some (pm_i v3), some (pm_r 8 i4)]) (S' := []) (M' := (mm x R Z Y o (pm_u A 8 i4 8 v3) c G g)) (fun call n => ?_) ?_
  · refine Eq.trans (b := pm_g (mm x R Z Y o A c G g) 8 i4 (pm_go call ns d 14 n 75 [some (pm_r 0 0), u1, u2, some (pm_i v3), some (pm_r 8 i4)] [] (pm_u (mA Z A G) 8 i4 8 v3, mB Y o c g, R, pm_tot, x))) rfl ?_
    refine (g_ok (f := 8) q4 rfl).trans ?_
    exact (congrArg (fun z => pm_go call ns d 14 n 75 [some (pm_r 0 0), u1, u2, some (pm_i v3), some (pm_r 8 i4)] [] (z, mB Y o c g, R, pm_tot, x)) (uA (by decide)))
  refine pW_call (pc' := 76) (r := []) (L' := [some (pm_r 0 0), u1, u2, some (pm_i v3), some (pm_r 8 i4)]) 2 (fun call n => ?_) hE k
  exact Eq.trans (b := pm_g (mm x R Z Y o (pm_u A 8 i4 8 v3) c G g) 0 0 (pm_cl call 14 (pm_go call ns d 14 n) 76 37 [pm_r 0 0] [] [some (pm_r 0 0), u1, u2, some (pm_i v3), some (pm_r 8 i4)] (mm x R Z Y o (pm_u A 8 i4 8 v3) c G g))) rfl (g_ok (f := 0) (by decide) rfl)
set_option maxRecDepth 20000 in
theorem b14_58 (hR : RS R) {u1 : Option pm_V} {u2 : Option pm_V} {v3 : Int32} {i4 : Nat} (q4 : i4 < 8) {x2 : Nat} {o2 : Int64} {A2 : Nat → Nat → Nat → Int32} {c2 : Nat → Int64} {G2 : Nat → Nat → Int32} {g2 : Nat → Int64} {y : Int32} (hE : pE ns d 26 [pm_r 0 0, pm_i v3] (mm x R Z Y o A c G g) (.inl (some (pm_i y)), (mm x2 R Z Y o2 A2 c2 G2 g2))) (k : pW ns d 14 63 [some (pm_r 0 0), u1, u2, some (pm_i v3), some (pm_r 8 i4)] [pm_i y] (mm x2 R Z Y o2 A2 c2 G2 g2) Q) : pW ns d 14 58 [some (pm_r 0 0), u1, u2, some (pm_i v3), some (pm_r 8 i4)] [] (mm x R Z Y o A c G g) Q := by
  refine pW_call (pc' := 60) (r := []) (L' := [some (pm_r 0 0), u1, u2, some (pm_i v3), some (pm_r 8 i4)]) 3 (fun call n => ?_) hE k
  exact Eq.trans (b := pm_g (mm x R Z Y o A c G g) 0 0 (pm_cl call 14 (pm_go call ns d 14 n) 60 26 [pm_r 0 0, pm_i v3] [] [some (pm_r 0 0), u1, u2, some (pm_i v3), some (pm_r 8 i4)] (mm x R Z Y o A c G g))) rfl (g_ok (f := 0) (by decide) rfl)
set_option maxRecDepth 20000 in
theorem b14_66 (hR : RS R) {u0 : Option pm_V} {u1 : Option pm_V} {u2 : Option pm_V} {u3 : Option pm_V} {u4 : Option pm_V}   (k : Q (.inl (some (pm_i (-nI 7))), (mm x R Z Y o A c G g))) : pW ns d 14 66 [u0, u1, u2, u3, u4] [] (mm x R Z Y o A c G g) Q := by
  refine pW_ret 2 (fun call n => ?_) k
  rfl
set_option maxRecDepth 20000 in
theorem b14_79 (hR : RS R) {u0 : Option pm_V} {u1 : Option pm_V} {u2 : Option pm_V} {u3 : Option pm_V} {u4 : Option pm_V}   (k : Q (.inl (some (pm_i (nI 0))), (mm x R Z Y o A c G g))) : pW ns d 14 79 [u0, u1, u2, u3, u4] [] (mm x R Z Y o A c G g) Q := by
  refine pW_ret 2 (fun call n => ?_) k
  rfl
set_option maxRecDepth 20000 in
theorem b14_63 (hR : RS R) {u1 : Option pm_V} {u2 : Option pm_V} {v3 : Int32} {i4 : Nat} {vs0 : Int32} (q4 : i4 < 8)  (k1 : vs0 = 0 → pW ns d 14 66 [some (pm_r 0 0), u1, u2, some (pm_i v3), some (pm_r 8 i4)] [] (mm x R Z Y o A c G g) Q) (k2 : ¬ (vs0 = 0) → pW ns d 14 69 [some (pm_r 0 0), u1, u2, some (pm_i v3), some (pm_r 8 i4)] [] (mm x R Z Y o A c G g) Q) : pW ns d 14 63 [some (pm_r 0 0), u1, u2, some (pm_i v3), some (pm_r 8 i4)] [pm_i vs0] (mm x R Z Y o A c G g) Q := by
  exact pW_if 1 (c := vs0 = 0) (fun call n => rfl) k1 k2
set_option maxRecDepth 20000 in
theorem t14_5 (hR : RS R) {v1 : Int32} {v2 : Int32} {v3 : Int32} {u4 : Option pm_V} {is0 : Nat} (qs0 : is0 < 8) (k1 : (v2 ≤ 0) → Q (.inl (some (pm_i (-nI 7))), (mm x R Z Y o A c G g))) (k2 : (¬ (v2 ≤ 0)) → (nI 8 ≤ v2) → Q (.inl (some (pm_i (-nI 7))), (mm x R Z Y o A c G g))) (k3 : (¬ (v2 ≤ 0)) → (¬ (nI 8 ≤ v2)) → pW ns d 14 16 [some (pm_r 0 0), some (pm_i v1), some (pm_i v2), some (pm_i v3), u4] [] (mm x R Z Y o A c G g) Q) : pW ns d 14 5 [some (pm_r 0 0), some (pm_i v1), some (pm_i v2), some (pm_i v3), u4] [pm_r 8 is0] (mm x R Z Y o A c G g) Q := by
  refine b14_5 hR qs0 (fun h1 => ?_) (fun h1 => ?_)
  · skip
    exact b14_28 hR   (k1 h1)
  · skip
    refine b14_10 hR   (fun h2 => ?_) (fun h2 => ?_)
    · skip
      exact b14_28 hR   (k2 h1 h2)
    · skip
      exact (k3 h1 h2)
set_option maxRecDepth 20000 in
theorem t14_10 (hR : RS R) {v1 : Int32} {v2 : Int32} {v3 : Int32} {u4 : Option pm_V}  (k1 : (nI 8 ≤ v2) → Q (.inl (some (pm_i (-nI 7))), (mm x R Z Y o A c G g))) (k2 : (¬ (nI 8 ≤ v2)) → pW ns d 14 16 [some (pm_r 0 0), some (pm_i v1), some (pm_i v2), some (pm_i v3), u4] [] (mm x R Z Y o A c G g) Q) : pW ns d 14 10 [some (pm_r 0 0), some (pm_i v1), some (pm_i v2), some (pm_i v3), u4] [] (mm x R Z Y o A c G g) Q := by
  refine b14_10 hR  (fun h1 => ?_) (fun h1 => ?_)
  · skip
    exact b14_28 hR   (k1 h1)
  · skip
    exact (k2 h1)
set_option maxRecDepth 20000 in
theorem t14_25 (hR : RS R) {v1 : Int32} {v2 : Int32} {v3 : Int32} {u4 : Option pm_V} {vs0 : Int32}  (k1 : (vs0 = 0) → Q (.inl (some (pm_i (-nI 7))), (mm x R Z Y o A c G g))) (k2 : (¬ (vs0 = 0)) → pW ns d 14 31 [some (pm_r 0 0), some (pm_i v1), some (pm_i v2), some (pm_i v3), u4] [] (mm x R Z Y o A c G g) Q) : pW ns d 14 25 [some (pm_r 0 0), some (pm_i v1), some (pm_i v2), some (pm_i v3), u4] [pm_i vs0] (mm x R Z Y o A c G g) Q := by
  refine b14_25 hR  (fun h1 => ?_) (fun h1 => ?_)
  · skip
    exact b14_28 hR   (k1 h1)
  · skip
    exact (k2 h1)
set_option maxRecDepth 20000 in
theorem t14_31 (hR : RS R) {v1 : Int32} {v2 : Int32} {v3 : Int32} {u4 : Option pm_V} {j1 : Nat} (e1 : v2 = nI j1) (l1 : j1 < 8) (k1 : (v2 = v1) → (v3 = v2) → pW ns d 14 69 [some (pm_r 0 0), some (pm_i v1), some (pm_i v2), some (pm_i v3), some (pm_r 8 j1)] [] (mm x R Z Y o A c G g) Q) (k2 : (v2 = v1) → (¬ (v3 = v2)) → pW ns d 14 58 [some (pm_r 0 0), some (pm_i v1), some (pm_i v2), some (pm_i v3), some (pm_r 8 j1)] [] (mm x R Z Y o A c G g) Q) (k3 : (¬ (v2 = v1)) → (A 8 j1 7 = v1) → (v3 = v2) → pW ns d 14 69 [some (pm_r 0 0), some (pm_i v1), some (pm_i v2), some (pm_i v3), some (pm_r 8 j1)] [] (mm x R Z Y o A c G g) Q) (k4 : (¬ (v2 = v1)) → (A 8 j1 7 = v1) → (¬ (v3 = v2)) → pW ns d 14 58 [some (pm_r 0 0), some (pm_i v1), some (pm_i v2), some (pm_i v3), some (pm_r 8 j1)] [] (mm x R Z Y o A c G g) Q) (k5 : (¬ (v2 = v1)) → (¬ (A 8 j1 7 = v1)) → Q (.inl (some (pm_i (-nI 7))), (mm x R Z Y o A c G g))) : pW ns d 14 31 [some (pm_r 0 0), some (pm_i v1), some (pm_i v2), some (pm_i v3), u4] [] (mm x R Z Y o A c G g) Q := by
  refine b14_31 hR e1 l1 (fun h1 => ?_) (fun h1 => ?_)
  · skip
    refine b14_53 hR l1  (fun h2 => ?_) (fun h2 => ?_)
    · skip
      exact (k1 h1 h2)
    · skip
      exact (k2 h1 h2)
  · skip
    refine b14_44 hR l1  (fun h2 => ?_) (fun h2 => ?_)
    · skip
      refine b14_53 hR l1  (fun h3 => ?_) (fun h3 => ?_)
      · skip
        exact (k3 h1 h2 h3)
      · skip
        exact (k4 h1 h2 h3)
    · skip
      exact b14_66 hR   (k5 h1 h2)
set_option maxRecDepth 20000 in
theorem t14_53 (hR : RS R) {u1 : Option pm_V} {v2 : Int32} {v3 : Int32} {i4 : Nat} (q4 : i4 < 8) (k1 : (v3 = v2) → pW ns d 14 69 [some (pm_r 0 0), u1, some (pm_i v2), some (pm_i v3), some (pm_r 8 i4)] [] (mm x R Z Y o A c G g) Q) (k2 : (¬ (v3 = v2)) → pW ns d 14 58 [some (pm_r 0 0), u1, some (pm_i v2), some (pm_i v3), some (pm_r 8 i4)] [] (mm x R Z Y o A c G g) Q) : pW ns d 14 53 [some (pm_r 0 0), u1, some (pm_i v2), some (pm_i v3), some (pm_r 8 i4)] [] (mm x R Z Y o A c G g) Q := by
  refine b14_53 hR q4 (fun h1 => ?_) (fun h1 => ?_)
  · skip
    exact (k1 h1)
  · skip
    exact (k2 h1)
set_option maxRecDepth 20000 in
theorem t14_44 (hR : RS R) {v1 : Int32} {v2 : Int32} {v3 : Int32} {i4 : Nat} (q4 : i4 < 8) (k1 : (A 8 i4 7 = v1) → (v3 = v2) → pW ns d 14 69 [some (pm_r 0 0), some (pm_i v1), some (pm_i v2), some (pm_i v3), some (pm_r 8 i4)] [] (mm x R Z Y o A c G g) Q) (k2 : (A 8 i4 7 = v1) → (¬ (v3 = v2)) → pW ns d 14 58 [some (pm_r 0 0), some (pm_i v1), some (pm_i v2), some (pm_i v3), some (pm_r 8 i4)] [] (mm x R Z Y o A c G g) Q) (k3 : (¬ (A 8 i4 7 = v1)) → Q (.inl (some (pm_i (-nI 7))), (mm x R Z Y o A c G g))) : pW ns d 14 44 [some (pm_r 0 0), some (pm_i v1), some (pm_i v2), some (pm_i v3), some (pm_r 8 i4)] [] (mm x R Z Y o A c G g) Q := by
  refine b14_44 hR q4 (fun h1 => ?_) (fun h1 => ?_)
  · skip
    refine b14_53 hR q4  (fun h2 => ?_) (fun h2 => ?_)
    · skip
      exact (k1 h1 h2)
    · skip
      exact (k2 h1 h2)
  · skip
    exact b14_66 hR   (k3 h1)
set_option maxRecDepth 20000 in
theorem t14_63 (hR : RS R) {u1 : Option pm_V} {u2 : Option pm_V} {v3 : Int32} {i4 : Nat} {vs0 : Int32} (q4 : i4 < 8) (k1 : (vs0 = 0) → Q (.inl (some (pm_i (-nI 7))), (mm x R Z Y o A c G g))) (k2 : (¬ (vs0 = 0)) → pW ns d 14 69 [some (pm_r 0 0), u1, u2, some (pm_i v3), some (pm_r 8 i4)] [] (mm x R Z Y o A c G g) Q) : pW ns d 14 63 [some (pm_r 0 0), u1, u2, some (pm_i v3), some (pm_r 8 i4)] [pm_i vs0] (mm x R Z Y o A c G g) Q := by
  refine b14_63 hR q4 (fun h1 => ?_) (fun h1 => ?_)
  · skip
    exact b14_66 hR   (k1 h1)
  · skip
    exact (k2 h1)
/-! 15 JobLayer.foreground -/
set_option maxRecDepth 20000 in
theorem b15_0 (hR : RS R) {v1 : Int32} {v2 : Int32} {u3 : Option pm_V}  {x2 : Nat} {o2 : Int64} {A2 : Nat → Nat → Nat → Int32} {c2 : Nat → Int64} {G2 : Nat → Nat → Int32} {g2 : Nat → Int64} {j : Nat} (hE : pE ns d 23 [pm_r 0 0, pm_i v1] (mm x R Z Y o A c G g) (.inl (some (pm_r 8 j)), (mm x2 R Z Y o2 A2 c2 G2 g2))) (k : pW ns d 15 5 [some (pm_r 0 0), some (pm_i v1), some (pm_i v2), u3] [pm_r 8 j] (mm x2 R Z Y o2 A2 c2 G2 g2) Q) : pW ns d 15 0 [some (pm_r 0 0), some (pm_i v1), some (pm_i v2), u3] [] (mm x R Z Y o A c G g) Q := by
  refine pW_call (pc' := 2) (r := []) (L' := [some (pm_r 0 0), some (pm_i v1), some (pm_i v2), u3]) 3 (fun call n => ?_) hE k
  exact Eq.trans (b := pm_g (mm x R Z Y o A c G g) 0 0 (pm_cl call 15 (pm_go call ns d 15 n) 2 23 [pm_r 0 0, pm_i v1] [] [some (pm_r 0 0), some (pm_i v1), some (pm_i v2), u3] (mm x R Z Y o A c G g))) rfl (g_ok (f := 0) (by decide) rfl)
set_option maxRecDepth 20000 in
theorem b15_0x (hR : RS R) {v1 : Int32} {v2 : Int32} {u3 : Option pm_V}  {x2 : Nat} {o2 : Int64} {A2 : Nat → Nat → Nat → Int32} {c2 : Nat → Int64} {G2 : Nat → Nat → Int32} {g2 : Nat → Int64} {e : Nat} (hE : pE ns d 23 [pm_r 0 0, pm_i v1] (mm x R Z Y o A c G g) (.inr e, (mm x2 R Z Y o2 A2 c2 G2 g2))) (k : Q (.inr e, (mm x2 R Z Y o2 A2 c2 G2 g2))) : pW ns d 15 0 [some (pm_r 0 0), some (pm_i v1), some (pm_i v2), u3] [] (mm x R Z Y o A c G g) Q := by
  refine pW_callx (pc' := 2) (r := []) (L' := [some (pm_r 0 0), some (pm_i v1), some (pm_i v2), u3]) 3 (fun call n => ?_) hE ⟨rfl, rfl⟩ k
  exact Eq.trans (b := pm_g (mm x R Z Y o A c G g) 0 0 (pm_cl call 15 (pm_go call ns d 15 n) 2 23 [pm_r 0 0, pm_i v1] [] [some (pm_r 0 0), some (pm_i v1), some (pm_i v2), u3] (mm x R Z Y o A c G g))) rfl (g_ok (f := 0) (by decide) rfl)
set_option maxRecDepth 20000 in
theorem b15_5 (hR : RS R) {v1 : Int32} {v2 : Int32} {u3 : Option pm_V} {is0 : Nat} (qs0 : is0 < 8) {x2 : Nat} {o2 : Int64} {A2 : Nat → Nat → Nat → Int32} {c2 : Nat → Int64} {G2 : Nat → Nat → Int32} {g2 : Nat → Int64} {y : Int32} (hE : pE ns d 26 [pm_r 0 0, pm_i v2] (mm x R Z Y o A c G g) (.inl (some (pm_i y)), (mm x2 R Z Y o2 A2 c2 G2 g2))) (k : pW ns d 15 11 [some (pm_r 0 0), some (pm_i v1), some (pm_i v2), some (pm_r 8 is0)] [pm_i y] (mm x2 R Z Y o2 A2 c2 G2 g2) Q) : pW ns d 15 5 [some (pm_r 0 0), some (pm_i v1), some (pm_i v2), u3] [pm_r 8 is0] (mm x R Z Y o A c G g) Q := by
  refine pW_call (pc' := 8) (r := []) (L' := [some (pm_r 0 0), some (pm_i v1), some (pm_i v2), some (pm_r 8 is0)]) 4 (fun call n => ?_) hE k
  exact Eq.trans (b := pm_g (mm x R Z Y o A c G g) 0 0 (pm_cl call 15 (pm_go call ns d 15 n) 8 26 [pm_r 0 0, pm_i v2] [] [some (pm_r 0 0), some (pm_i v1), some (pm_i v2), some (pm_r 8 is0)] (mm x R Z Y o A c G g))) rfl (g_ok (f := 0) (by decide) rfl)
set_option maxRecDepth 20000 in
theorem b15_11 (hR : RS R) {v1 : Int32} {v2 : Int32} {i3 : Nat} {vs0 : Int32} (q3 : i3 < 8)  (k1 : vs0 = 0 → pW ns d 15 32 [some (pm_r 0 0), some (pm_i v1), some (pm_i v2), some (pm_r 8 i3)] [] (mm x R Z Y o A c G g) Q) (k2 : ¬ (vs0 = 0) → pW ns d 15 14 [some (pm_r 0 0), some (pm_i v1), some (pm_i v2), some (pm_r 8 i3)] [] (mm x R Z Y o A c G g) Q) : pW ns d 15 11 [some (pm_r 0 0), some (pm_i v1), some (pm_i v2), some (pm_r 8 i3)] [pm_i vs0] (mm x R Z Y o A c G g) Q := by
  exact pW_if 1 (c := vs0 = 0) (fun call n => rfl) k1 k2
set_option maxRecDepth 20000 in
theorem b15_32 (hR : RS R) {u0 : Option pm_V} {u1 : Option pm_V} {u2 : Option pm_V} {u3 : Option pm_V}   (k : Q (.inl (some (pm_i (-nI 7))), (mm x R Z Y o A c G g))) : pW ns d 15 32 [u0, u1, u2, u3] [] (mm x R Z Y o A c G g) Q := by
  refine pW_ret 2 (fun call n => ?_) k
  rfl
set_option maxRecDepth 20000 in
theorem b15_14 (hR : RS R) {v1 : Int32} {v2 : Int32} {i3 : Nat} (q3 : i3 < 8)  (k1 : v1 = 0 → pW ns d 15 35 [some (pm_r 0 0), some (pm_i v1), some (pm_i v2), some (pm_r 8 i3)] [] (mm x R Z Y o A c G g) Q) (k2 : ¬ (v1 = 0) → pW ns d 15 18 [some (pm_r 0 0), some (pm_i v1), some (pm_i v2), some (pm_r 8 i3)] [] (mm x R Z Y o A c G g) Q) : pW ns d 15 14 [some (pm_r 0 0), some (pm_i v1), some (pm_i v2), some (pm_r 8 i3)] [] (mm x R Z Y o A c G g) Q := by
  exact pW_if 2 (c := v1 = 0) (fun call n => rfl) k1 k2
set_option maxRecDepth 20000 in
theorem b15_35 (hR : RS R) {u1 : Option pm_V} {v2 : Int32} {u3 : Option pm_V}  {x2 : Nat} {o2 : Int64} {A2 : Nat → Nat → Nat → Int32} {c2 : Nat → Int64} {G2 : Nat → Nat → Int32} {g2 : Nat → Int64}  (hE : pE ns d 37 [pm_r 0 0] (mm x R Z Y o (pm_u A 3 0 5 v2) c G g) (.inl (none), (mm x2 R Z Y o2 A2 c2 G2 g2))) (k : pW ns d 15 47 [some (pm_r 0 0), u1, some (pm_i v2), u3] [] (mm x2 R Z Y o2 A2 c2 G2 g2) Q) : pW ns d 15 35 [some (pm_r 0 0), u1, some (pm_i v2), u3] [] (mm x R Z Y o A c G g) Q := by
  refine pW_eq 2 (pc' := 39) (L' := [some (pm_r 0 0), u1, some (pm_i v2), u3]) (S' := [pm_r 3 0]) (M' := (mm x R Z Y o A c G g)) (fun call n => ?_) ?_
  · refine Eq.trans (b := pm_g (mm x R Z Y o A c G g) 0 0 (pm_go call ns d 15 n 39 [some (pm_r 0 0), u1, some (pm_i v2), u3] [pm_a (R 0 0 2)] (mm x R Z Y o A c G g))) rfl ?_
    refine (g_ok (f := 0) (by decide) rfl).trans ?_
    exact (congrArg (fun z => pm_go call ns d 15 n 39 [some (pm_r 0 0), u1, some (pm_i v2), u3] [pm_a z] (mm x R Z Y o A c G g)) (rs_0_2 hR))
  refine pW_eq 2 (pc' := 43) (L' := [some (pm_r 0 0), u1, some (pm_i v2), u3]) (S' := []) (M' := (mm x R Z Y o (pm_u A 3 0 5 v2) c G g)) (fun call n => ?_) ?_
  · refine Eq.trans (b := pm_g (mm x R Z Y o A c G g) 3 0 (pm_go call ns d 15 n 43 [some (pm_r 0 0), u1, some (pm_i v2), u3] [] (pm_u (mA Z A G) 3 0 5 v2, mB Y o c g, R, pm_tot, x))) rfl ?_
    refine (g_ok (f := 3) (by decide) rfl).trans ?_
    exact (congrArg (fun z => pm_go call ns d 15 n 43 [some (pm_r 0 0), u1, some (pm_i v2), u3] [] (z, mB Y o c g, R, pm_tot, x)) (uA (by decide)))
  refine pW_call (pc' := 44) (r := []) (L' := [some (pm_r 0 0), u1, some (pm_i v2), u3]) 2 (fun call n => ?_) hE k
  exact Eq.trans (b := pm_g (mm x R Z Y o (pm_u A 3 0 5 v2) c G g) 0 0 (pm_cl call 15 (pm_go call ns d 15 n) 44 37 [pm_r 0 0] [] [some (pm_r 0 0), u1, some (pm_i v2), u3] (mm x R Z Y o (pm_u A 3 0 5 v2) c G g))) rfl (g_ok (f := 0) (by decide) rfl)
set_option maxRecDepth 20000 in
theorem b15_18 (hR : RS R) {u1 : Option pm_V} {v2 : Int32} {i3 : Nat} (q3 : i3 < 8)  (k1 : A 8 i3 8 = A 3 0 5 → pW ns d 15 35 [some (pm_r 0 0), u1, some (pm_i v2), some (pm_r 8 i3)] [] (mm x R Z Y o A c G g) Q) (k2 : ¬ (A 8 i3 8 = A 3 0 5) → pW ns d 15 32 [some (pm_r 0 0), u1, some (pm_i v2), some (pm_r 8 i3)] [] (mm x R Z Y o A c G g) Q) : pW ns d 15 18 [some (pm_r 0 0), u1, some (pm_i v2), some (pm_r 8 i3)] [] (mm x R Z Y o A c G g) Q := by
  refine pW_eq 2 (pc' := 22) (L' := [some (pm_r 0 0), u1, some (pm_i v2), some (pm_r 8 i3)]) (S' := [pm_i (A 8 i3 8)]) (M' := (mm x R Z Y o A c G g)) (fun call n => ?_) ?_
  · refine Eq.trans (b := pm_g (mm x R Z Y o A c G g) 8 i3 (pm_go call ns d 15 n 22 [some (pm_r 0 0), u1, some (pm_i v2), some (pm_r 8 i3)] [pm_i (A 8 i3 8)] (mm x R Z Y o A c G g))) rfl ?_
    refine (g_ok (f := 8) q3 rfl).trans ?_
    rfl
  refine pW_eq 2 (pc' := 26) (L' := [some (pm_r 0 0), u1, some (pm_i v2), some (pm_r 8 i3)]) (S' := [pm_r 3 0, pm_i (A 8 i3 8)]) (M' := (mm x R Z Y o A c G g)) (fun call n => ?_) ?_
  · refine Eq.trans (b := pm_g (mm x R Z Y o A c G g) 0 0 (pm_go call ns d 15 n 26 [some (pm_r 0 0), u1, some (pm_i v2), some (pm_r 8 i3)] [pm_a (R 0 0 2), pm_i (A 8 i3 8)] (mm x R Z Y o A c G g))) rfl ?_
    refine (g_ok (f := 0) (by decide) rfl).trans ?_
    exact (congrArg (fun z => pm_go call ns d 15 n 26 [some (pm_r 0 0), u1, some (pm_i v2), some (pm_r 8 i3)] [pm_a z, pm_i (A 8 i3 8)] (mm x R Z Y o A c G g)) (rs_0_2 hR))
  refine pW_eq 1 (pc' := 29) (L' := [some (pm_r 0 0), u1, some (pm_i v2), some (pm_r 8 i3)]) (S' := [pm_i (A 3 0 5), pm_i (A 8 i3 8)]) (M' := (mm x R Z Y o A c G g)) (fun call n => ?_) ?_
  · refine Eq.trans (b := pm_g (mm x R Z Y o A c G g) 3 0 (pm_go call ns d 15 n 29 [some (pm_r 0 0), u1, some (pm_i v2), some (pm_r 8 i3)] [pm_i (A 3 0 5), pm_i (A 8 i3 8)] (mm x R Z Y o A c G g))) rfl ?_
    refine (g_ok (f := 3) (by decide) rfl).trans ?_
    rfl
  exact pW_if 1 (c := A 8 i3 8 = A 3 0 5) (fun call n => rfl) k1 k2
set_option maxRecDepth 20000 in
theorem b15_47 (hR : RS R) {u0 : Option pm_V} {u1 : Option pm_V} {u2 : Option pm_V} {u3 : Option pm_V}   (k : Q (.inl (some (pm_i (nI 0))), (mm x R Z Y o A c G g))) : pW ns d 15 47 [u0, u1, u2, u3] [] (mm x R Z Y o A c G g) Q := by
  refine pW_ret 2 (fun call n => ?_) k
  rfl
set_option maxRecDepth 20000 in
theorem t15_11 (hR : RS R) {v1 : Int32} {v2 : Int32} {i3 : Nat} {vs0 : Int32} (q3 : i3 < 8) (k1 : (vs0 = 0) → Q (.inl (some (pm_i (-nI 7))), (mm x R Z Y o A c G g))) (k2 : (¬ (vs0 = 0)) → (v1 = 0) → pW ns d 15 35 [some (pm_r 0 0), some (pm_i v1), some (pm_i v2), some (pm_r 8 i3)] [] (mm x R Z Y o A c G g) Q) (k3 : (¬ (vs0 = 0)) → (¬ (v1 = 0)) → (A 8 i3 8 = A 3 0 5) → pW ns d 15 35 [some (pm_r 0 0), some (pm_i v1), some (pm_i v2), some (pm_r 8 i3)] [] (mm x R Z Y o A c G g) Q) (k4 : (¬ (vs0 = 0)) → (¬ (v1 = 0)) → (¬ (A 8 i3 8 = A 3 0 5)) → Q (.inl (some (pm_i (-nI 7))), (mm x R Z Y o A c G g))) : pW ns d 15 11 [some (pm_r 0 0), some (pm_i v1), some (pm_i v2), some (pm_r 8 i3)] [pm_i vs0] (mm x R Z Y o A c G g) Q := by
  refine b15_11 hR q3 (fun h1 => ?_) (fun h1 => ?_)
  · skip
    exact b15_32 hR   (k1 h1)
  · skip
    refine b15_14 hR q3  (fun h2 => ?_) (fun h2 => ?_)
    · skip
      exact (k2 h1 h2)
    · skip
      refine b15_18 hR q3  (fun h3 => ?_) (fun h3 => ?_)
      · skip
        exact (k3 h1 h2 h3)
      · skip
        exact b15_32 hR   (k4 h1 h2 h3)
set_option maxRecDepth 20000 in
theorem t15_14 (hR : RS R) {v1 : Int32} {v2 : Int32} {i3 : Nat} (q3 : i3 < 8) (k1 : (v1 = 0) → pW ns d 15 35 [some (pm_r 0 0), some (pm_i v1), some (pm_i v2), some (pm_r 8 i3)] [] (mm x R Z Y o A c G g) Q) (k2 : (¬ (v1 = 0)) → (A 8 i3 8 = A 3 0 5) → pW ns d 15 35 [some (pm_r 0 0), some (pm_i v1), some (pm_i v2), some (pm_r 8 i3)] [] (mm x R Z Y o A c G g) Q) (k3 : (¬ (v1 = 0)) → (¬ (A 8 i3 8 = A 3 0 5)) → Q (.inl (some (pm_i (-nI 7))), (mm x R Z Y o A c G g))) : pW ns d 15 14 [some (pm_r 0 0), some (pm_i v1), some (pm_i v2), some (pm_r 8 i3)] [] (mm x R Z Y o A c G g) Q := by
  refine b15_14 hR q3 (fun h1 => ?_) (fun h1 => ?_)
  · skip
    exact (k1 h1)
  · skip
    refine b15_18 hR q3  (fun h2 => ?_) (fun h2 => ?_)
    · skip
      exact (k2 h1 h2)
    · skip
      exact b15_32 hR   (k3 h1 h2)
set_option maxRecDepth 20000 in
theorem t15_18 (hR : RS R) {u1 : Option pm_V} {v2 : Int32} {i3 : Nat} (q3 : i3 < 8) (k1 : (A 8 i3 8 = A 3 0 5) → pW ns d 15 35 [some (pm_r 0 0), u1, some (pm_i v2), some (pm_r 8 i3)] [] (mm x R Z Y o A c G g) Q) (k2 : (¬ (A 8 i3 8 = A 3 0 5)) → Q (.inl (some (pm_i (-nI 7))), (mm x R Z Y o A c G g))) : pW ns d 15 18 [some (pm_r 0 0), u1, some (pm_i v2), some (pm_r 8 i3)] [] (mm x R Z Y o A c G g) Q := by
  refine b15_18 hR q3 (fun h1 => ?_) (fun h1 => ?_)
  · skip
    exact (k1 h1)
  · skip
    exact b15_32 hR   (k2 h1)
/-! 16 JobLayer.process -/
set_option maxRecDepth 20000 in
theorem b16_0 (hR : RS R) {v1 : Int32} {v2 : Int32} {u3 : Option pm_V}  {x2 : Nat} {o2 : Int64} {A2 : Nat → Nat → Nat → Int32} {c2 : Nat → Int64} {G2 : Nat → Nat → Int32} {g2 : Nat → Int64} {y : Int32} (hE : pE ns d 24 [pm_r 0 0, pm_i v1] (mm x R Z Y o A c G g) (.inl (some (pm_i y)), (mm x2 R Z Y o2 A2 c2 G2 g2))) (k : pW ns d 16 5 [some (pm_r 0 0), some (pm_i v1), some (pm_i v2), u3] [pm_i y] (mm x2 R Z Y o2 A2 c2 G2 g2) Q) : pW ns d 16 0 [some (pm_r 0 0), some (pm_i v1), some (pm_i v2), u3] [] (mm x R Z Y o A c G g) Q := by
  refine pW_call (pc' := 2) (r := []) (L' := [some (pm_r 0 0), some (pm_i v1), some (pm_i v2), u3]) 3 (fun call n => ?_) hE k
  exact Eq.trans (b := pm_g (mm x R Z Y o A c G g) 0 0 (pm_cl call 16 (pm_go call ns d 16 n) 2 24 [pm_r 0 0, pm_i v1] [] [some (pm_r 0 0), some (pm_i v1), some (pm_i v2), u3] (mm x R Z Y o A c G g))) rfl (g_ok (f := 0) (by decide) rfl)
set_option maxRecDepth 20000 in
theorem b16_5 (hR : RS R) {v1 : Int32} {v2 : Int32} {u3 : Option pm_V} {vs0 : Int32}   (k1 : vs0 = 0 → pW ns d 16 8 [some (pm_r 0 0), some (pm_i v1), some (pm_i v2), u3] [] (mm x R Z Y o A c G g) Q) (k2 : ¬ (vs0 = 0) → pW ns d 16 10 [some (pm_r 0 0), some (pm_i v1), some (pm_i v2), u3] [] (mm x R Z Y o A c G g) Q) : pW ns d 16 5 [some (pm_r 0 0), some (pm_i v1), some (pm_i v2), u3] [pm_i vs0] (mm x R Z Y o A c G g) Q := by
  exact pW_if 1 (c := vs0 = 0) (fun call n => rfl) k1 k2
set_option maxRecDepth 20000 in
theorem b16_8 (hR : RS R) {u0 : Option pm_V} {u1 : Option pm_V} {u2 : Option pm_V} {u3 : Option pm_V}   (k : Q (.inl (some (pm_i (-nI 1))), (mm x R Z Y o A c G g))) : pW ns d 16 8 [u0, u1, u2, u3] [] (mm x R Z Y o A c G g) Q := by
  refine pW_ret 2 (fun call n => ?_) k
  rfl
set_option maxRecDepth 20000 in
theorem b16_10 (hR : RS R) {v1 : Int32} {v2 : Int32} {u3 : Option pm_V} {j1 : Nat} (e1 : v1 = nI j1) (l1 : j1 < 8)  (k1 : v2 < nI 10 → pW ns d 16 42 [some (pm_r 0 0), some (pm_i v1), some (pm_i v2), some (pm_r 8 j1)] [] (mm x R Z Y o A c G g) Q) (k2 : ¬ (v2 < nI 10) → pW ns d 16 23 [some (pm_r 0 0), some (pm_i v1), some (pm_i v2), some (pm_r 8 j1)] [] (mm x R Z Y o A c G g) Q) : pW ns d 16 10 [some (pm_r 0 0), some (pm_i v1), some (pm_i v2), u3] [] (mm x R Z Y o A c G g) Q := by
  refine pW_eq 2 (pc' := 14) (L' := [some (pm_r 0 0), some (pm_i v1), some (pm_i v2), u3]) (S' := [pm_r 1 0]) (M' := (mm x R Z Y o A c G g)) (fun call n => ?_) ?_
  · refine Eq.trans (b := pm_g (mm x R Z Y o A c G g) 0 0 (pm_go call ns d 16 n 14 [some (pm_r 0 0), some (pm_i v1), some (pm_i v2), u3] [pm_a (R 0 0 0)] (mm x R Z Y o A c G g))) rfl ?_
    refine (g_ok (f := 0) (by decide) rfl).trans ?_
    exact (congrArg (fun z => pm_go call ns d 16 n 14 [some (pm_r 0 0), some (pm_i v1), some (pm_i v2), u3] [pm_a z] (mm x R Z Y o A c G g)) (rs_0_0 hR))
  refine pW_eq 2 (pc' := 16) (L' := [some (pm_r 0 0), some (pm_i v1), some (pm_i v2), u3]) (S' := [pm_r 8 j1]) (M' := (mm x R Z Y o A c G g)) (fun call n => ?_) ?_
  · refine Eq.trans (b := pm_g (mm x R Z Y o A c G g) 1 0 (pm_ix (v1) 8 (fun jx => pm_go call ns d 16 n 16 [some (pm_r 0 0), some (pm_i v1), some (pm_i v2), u3] [pm_a (R 1 0 jx)] (mm x R Z Y o A c G g)))) rfl ?_
    refine (g_ok (f := 1) (by decide) rfl).trans ?_
    refine (ix_ok (j := j1) e1 l1 (by decide)).trans ?_
    exact (congrArg (fun z => pm_go call ns d 16 n 16 [some (pm_r 0 0), some (pm_i v1), some (pm_i v2), u3] [pm_a z] (mm x R Z Y o A c G g)) (rs_1 hR (k := j1) l1))
  exact pW_if 4 (c := v2 < nI 10) (fun call n => rfl) k1 k2
set_option maxRecDepth 20000 in
theorem b16_42 (hR : RS R) {u0 : Option pm_V} {u1 : Option pm_V} {v2 : Int32} {i3 : Nat} (q3 : i3 < 8)  (k1 : v2 < nI 21 → pW ns d 16 64 [u0, u1, some (pm_i v2), some (pm_r 8 i3)] [] (mm x R Z Y o A c G g) Q) (k2 : ¬ (v2 < nI 21) → pW ns d 16 48 [u0, u1, some (pm_i v2), some (pm_r 8 i3)] [] (mm x R Z Y o A c G g) Q) : pW ns d 16 42 [u0, u1, some (pm_i v2), some (pm_r 8 i3)] [] (mm x R Z Y o A c G g) Q := by
  exact pW_if 3 (c := v2 < nI 21) (fun call n => rfl) k1 k2
set_option maxRecDepth 20000 in
theorem b16_23 (hR : RS R) {u0 : Option pm_V} {u1 : Option pm_V} {v2 : Int32} {i3 : Nat} (q3 : i3 < 8)  (k1 : nI 16 ≤ v2 → pW ns d 16 42 [u0, u1, some (pm_i v2), some (pm_r 8 i3)] [] (mm x R Z Y o A c G g) Q) (k2 : ¬ (nI 16 ≤ v2) → pW ns d 16 29 [u0, u1, some (pm_i v2), some (pm_r 8 i3)] [] (mm x R Z Y o A c G g) Q) : pW ns d 16 23 [u0, u1, some (pm_i v2), some (pm_r 8 i3)] [] (mm x R Z Y o A c G g) Q := by
  exact pW_if 3 (c := nI 16 ≤ v2) (fun call n => rfl) k1 k2
set_option maxRecDepth 20000 in
theorem b16_64 (hR : RS R) {u0 : Option pm_V} {u1 : Option pm_V} {v2 : Int32} {i3 : Nat} (q3 : i3 < 8)  (k0 : v2.toInt = 0 → pW ns d 16 116 [u0, u1, some (pm_i v2), some (pm_r 8 i3)] [] (mm x R Z Y o A c G g) Q) (k1 : v2.toInt = 1 → pW ns d 16 121 [u0, u1, some (pm_i v2), some (pm_r 8 i3)] [] (mm x R Z Y o A c G g) Q) (k2 : v2.toInt = 2 → pW ns d 16 126 [u0, u1, some (pm_i v2), some (pm_r 8 i3)] [] (mm x R Z Y o A c G g) Q) (k3 : v2.toInt = 3 → pW ns d 16 131 [u0, u1, some (pm_i v2), some (pm_r 8 i3)] [] (mm x R Z Y o A c G g) Q) (k4 : v2.toInt = 4 → pW ns d 16 136 [u0, u1, some (pm_i v2), some (pm_r 8 i3)] [] (mm x R Z Y o A c G g) Q) (k5 : v2.toInt = 5 → pW ns d 16 141 [u0, u1, some (pm_i v2), some (pm_r 8 i3)] [] (mm x R Z Y o A c G g) Q) (k6 : v2.toInt = 6 → pW ns d 16 146 [u0, u1, some (pm_i v2), some (pm_r 8 i3)] [] (mm x R Z Y o A c G g) Q) (k7 : v2.toInt = 7 → pW ns d 16 151 [u0, u1, some (pm_i v2), some (pm_r 8 i3)] [] (mm x R Z Y o A c G g) Q) (k8 : v2.toInt = 8 → pW ns d 16 156 [u0, u1, some (pm_i v2), some (pm_r 8 i3)] [] (mm x R Z Y o A c G g) Q) (kd : ¬ v2.toInt = 0 → ¬ v2.toInt = 1 → ¬ v2.toInt = 2 → ¬ v2.toInt = 3 → ¬ v2.toInt = 4 → ¬ v2.toInt = 5 → ¬ v2.toInt = 6 → ¬ v2.toInt = 7 → ¬ v2.toInt = 8 → pW ns d 16 173 [u0, u1, some (pm_i v2), some (pm_r 8 i3)] [] (mm x R Z Y o A c G g) Q) : pW ns d 16 64 [u0, u1, some (pm_i v2), some (pm_r 8 i3)] [] (mm x R Z Y o A c G g) Q := by
  by_cases h0 : v2.toInt = 0
  · refine pW_eq 2 (fun call n => ?_) (k0 h0)
    refine Eq.trans (b := pm_sw (v2.toInt) (0) [51, 56, 61, 66, 71, 76, 81, 86, 91] 108 (fun oo => pm_j 65 oo fun tt => pm_go call ns d 16 n tt [u0, u1, some (pm_i v2), some (pm_r 8 i3)] [] (mm x R Z Y o A c G g))) rfl ?_
    rw [h0]
    rfl
  by_cases h1 : v2.toInt = 1
  · refine pW_eq 2 (fun call n => ?_) (k1 h1)
    refine Eq.trans (b := pm_sw (v2.toInt) (0) [51, 56, 61, 66, 71, 76, 81, 86, 91] 108 (fun oo => pm_j 65 oo fun tt => pm_go call ns d 16 n tt [u0, u1, some (pm_i v2), some (pm_r 8 i3)] [] (mm x R Z Y o A c G g))) rfl ?_
    rw [h1]
    rfl
  by_cases h2 : v2.toInt = 2
  · refine pW_eq 2 (fun call n => ?_) (k2 h2)
    refine Eq.trans (b := pm_sw (v2.toInt) (0) [51, 56, 61, 66, 71, 76, 81, 86, 91] 108 (fun oo => pm_j 65 oo fun tt => pm_go call ns d 16 n tt [u0, u1, some (pm_i v2), some (pm_r 8 i3)] [] (mm x R Z Y o A c G g))) rfl ?_
    rw [h2]
    rfl
  by_cases h3 : v2.toInt = 3
  · refine pW_eq 2 (fun call n => ?_) (k3 h3)
    refine Eq.trans (b := pm_sw (v2.toInt) (0) [51, 56, 61, 66, 71, 76, 81, 86, 91] 108 (fun oo => pm_j 65 oo fun tt => pm_go call ns d 16 n tt [u0, u1, some (pm_i v2), some (pm_r 8 i3)] [] (mm x R Z Y o A c G g))) rfl ?_
    rw [h3]
    rfl
  by_cases h4 : v2.toInt = 4
  · refine pW_eq 2 (fun call n => ?_) (k4 h4)
    refine Eq.trans (b := pm_sw (v2.toInt) (0) [51, 56, 61, 66, 71, 76, 81, 86, 91] 108 (fun oo => pm_j 65 oo fun tt => pm_go call ns d 16 n tt [u0, u1, some (pm_i v2), some (pm_r 8 i3)] [] (mm x R Z Y o A c G g))) rfl ?_
    rw [h4]
    rfl
  by_cases h5 : v2.toInt = 5
  · refine pW_eq 2 (fun call n => ?_) (k5 h5)
    refine Eq.trans (b := pm_sw (v2.toInt) (0) [51, 56, 61, 66, 71, 76, 81, 86, 91] 108 (fun oo => pm_j 65 oo fun tt => pm_go call ns d 16 n tt [u0, u1, some (pm_i v2), some (pm_r 8 i3)] [] (mm x R Z Y o A c G g))) rfl ?_
    rw [h5]
    rfl
  by_cases h6 : v2.toInt = 6
  · refine pW_eq 2 (fun call n => ?_) (k6 h6)
    refine Eq.trans (b := pm_sw (v2.toInt) (0) [51, 56, 61, 66, 71, 76, 81, 86, 91] 108 (fun oo => pm_j 65 oo fun tt => pm_go call ns d 16 n tt [u0, u1, some (pm_i v2), some (pm_r 8 i3)] [] (mm x R Z Y o A c G g))) rfl ?_
    rw [h6]
    rfl
  by_cases h7 : v2.toInt = 7
  · refine pW_eq 2 (fun call n => ?_) (k7 h7)
    refine Eq.trans (b := pm_sw (v2.toInt) (0) [51, 56, 61, 66, 71, 76, 81, 86, 91] 108 (fun oo => pm_j 65 oo fun tt => pm_go call ns d 16 n tt [u0, u1, some (pm_i v2), some (pm_r 8 i3)] [] (mm x R Z Y o A c G g))) rfl ?_
    rw [h7]
    rfl
  by_cases h8 : v2.toInt = 8
  · refine pW_eq 2 (fun call n => ?_) (k8 h8)
    refine Eq.trans (b := pm_sw (v2.toInt) (0) [51, 56, 61, 66, 71, 76, 81, 86, 91] 108 (fun oo => pm_j 65 oo fun tt => pm_go call ns d 16 n tt [u0, u1, some (pm_i v2), some (pm_r 8 i3)] [] (mm x R Z Y o A c G g))) rfl ?_
    rw [h8]
    rfl
  refine pW_eq 2 (fun call n => ?_) (kd h0 h1 h2 h3 h4 h5 h6 h7 h8)
  refine Eq.trans (b := pm_sw (v2.toInt) (0) [51, 56, 61, 66, 71, 76, 81, 86, 91] 108 (fun oo => pm_j 65 oo fun tt => pm_go call ns d 16 n tt [u0, u1, some (pm_i v2), some (pm_r 8 i3)] [] (mm x R Z Y o A c G g))) rfl ?_
  refine (if_neg h0).trans ?_
  refine (if_neg h1).trans ?_
  refine (if_neg h2).trans ?_
  refine (if_neg h3).trans ?_
  refine (if_neg h4).trans ?_
  refine (if_neg h5).trans ?_
  refine (if_neg h6).trans ?_
  refine (if_neg h7).trans ?_
  refine (if_neg h8).trans ?_
  rfl
set_option maxRecDepth 20000 in
theorem b16_48 (hR : RS R) {u0 : Option pm_V} {u1 : Option pm_V} {v2 : Int32} {i3 : Nat} (q3 : i3 < 8)  (k1 : nI 27 < v2 → pW ns d 16 64 [u0, u1, some (pm_i v2), some (pm_r 8 i3)] [] (mm x R Z Y o A c G g) Q) (k2 : ¬ (nI 27 < v2) → pW ns d 16 54 [u0, u1, some (pm_i v2), some (pm_r 8 i3)] [] (mm x R Z Y o A c G g) Q) : pW ns d 16 48 [u0, u1, some (pm_i v2), some (pm_r 8 i3)] [] (mm x R Z Y o A c G g) Q := by
  exact pW_if 3 (c := nI 27 < v2) (fun call n => rfl) k1 k2
set_option maxRecDepth 20000 in
theorem b16_29 (hR : RS R) {u0 : Option pm_V} {u1 : Option pm_V} {v2 : Int32} {i3 : Nat} {j1 : Nat} (q3 : i3 < 8) (e1 : v2 - (nI 10) = nI j1) (l1 : j1 < 6) {x2 : Nat} {o2 : Int64} {A2 : Nat → Nat → Nat → Int32} {c2 : Nat → Int64} {G2 : Nat → Nat → Int32} {g2 : Nat → Int64} {y : Int32} (hE : pE ns d 21 [pm_i (A 9 i3 j1)] (mm x R Z Y o A c G g) (.inl (some (pm_i y)), (mm x2 R Z Y o2 A2 c2 G2 g2))) (k : pW ns d 16 41 [u0, u1, some (pm_i v2), some (pm_r 8 i3)] [pm_i y] (mm x2 R Z Y o2 A2 c2 G2 g2) Q) : pW ns d 16 29 [u0, u1, some (pm_i v2), some (pm_r 8 i3)] [] (mm x R Z Y o A c G g) Q := by
  refine pW_eq 2 (pc' := 33) (L' := [u0, u1, some (pm_i v2), some (pm_r 8 i3)]) (S' := [pm_r 9 i3]) (M' := (mm x R Z Y o A c G g)) (fun call n => ?_) ?_
  · refine Eq.trans (b := pm_g (mm x R Z Y o A c G g) 8 i3 (pm_go call ns d 16 n 33 [u0, u1, some (pm_i v2), some (pm_r 8 i3)] [pm_a (R 8 i3 1)] (mm x R Z Y o A c G g))) rfl ?_
    refine (g_ok (f := 8) q3 rfl).trans ?_
    exact (congrArg (fun z => pm_go call ns d 16 n 33 [u0, u1, some (pm_i v2), some (pm_r 8 i3)] [pm_a z] (mm x R Z Y o A c G g)) (rs_8_1 hR q3))
  refine pW_eq 4 (pc' := 38) (L' := [u0, u1, some (pm_i v2), some (pm_r 8 i3)]) (S' := [pm_i (A 9 i3 j1)]) (M' := (mm x R Z Y o A c G g)) (fun call n => ?_) ?_
  · refine Eq.trans (b := pm_g (mm x R Z Y o A c G g) 9 i3 (pm_ix (v2 - (nI 10)) 6 (fun jx => pm_go call ns d 16 n 38 [u0, u1, some (pm_i v2), some (pm_r 8 i3)] [pm_i (A 9 i3 jx)] (mm x R Z Y o A c G g)))) rfl ?_
    refine (g_ok (f := 9) q3 rfl).trans ?_
    refine (ix_ok (j := j1) e1 l1 (by decide)).trans ?_
    rfl
  refine pW_call (pc' := 38) (r := []) (L' := [u0, u1, some (pm_i v2), some (pm_r 8 i3)]) 1 (fun call n => ?_) hE k
  rfl
set_option maxRecDepth 20000 in
theorem b16_116 (hR : RS R) {u0 : Option pm_V} {u1 : Option pm_V} {u2 : Option pm_V} {i3 : Nat} (q3 : i3 < 8)  (k : Q (.inl (some (pm_i (A 8 i3 6))), (mm x R Z Y o A c G g))) : pW ns d 16 116 [u0, u1, u2, some (pm_r 8 i3)] [] (mm x R Z Y o A c G g) Q := by
  refine pW_eq 2 (pc' := 120) (L' := [u0, u1, u2, some (pm_r 8 i3)]) (S' := [pm_i (A 8 i3 6)]) (M' := (mm x R Z Y o A c G g)) (fun call n => ?_) ?_
  · refine Eq.trans (b := pm_g (mm x R Z Y o A c G g) 8 i3 (pm_go call ns d 16 n 120 [u0, u1, u2, some (pm_r 8 i3)] [pm_i (A 8 i3 6)] (mm x R Z Y o A c G g))) rfl ?_
    refine (g_ok (f := 8) q3 rfl).trans ?_
    rfl
  refine pW_ret 1 (fun call n => ?_) k
  rfl
set_option maxRecDepth 20000 in
theorem b16_121 (hR : RS R) {u0 : Option pm_V} {u1 : Option pm_V} {u2 : Option pm_V} {i3 : Nat} (q3 : i3 < 8)  (k : Q (.inl (some (pm_i (A 8 i3 7))), (mm x R Z Y o A c G g))) : pW ns d 16 121 [u0, u1, u2, some (pm_r 8 i3)] [] (mm x R Z Y o A c G g) Q := by
  refine pW_eq 2 (pc' := 125) (L' := [u0, u1, u2, some (pm_r 8 i3)]) (S' := [pm_i (A 8 i3 7)]) (M' := (mm x R Z Y o A c G g)) (fun call n => ?_) ?_
  · refine Eq.trans (b := pm_g (mm x R Z Y o A c G g) 8 i3 (pm_go call ns d 16 n 125 [u0, u1, u2, some (pm_r 8 i3)] [pm_i (A 8 i3 7)] (mm x R Z Y o A c G g))) rfl ?_
    refine (g_ok (f := 8) q3 rfl).trans ?_
    rfl
  refine pW_ret 1 (fun call n => ?_) k
  rfl
set_option maxRecDepth 20000 in
theorem b16_126 (hR : RS R) {u0 : Option pm_V} {u1 : Option pm_V} {u2 : Option pm_V} {i3 : Nat} (q3 : i3 < 8)  (k : Q (.inl (some (pm_i (A 8 i3 8))), (mm x R Z Y o A c G g))) : pW ns d 16 126 [u0, u1, u2, some (pm_r 8 i3)] [] (mm x R Z Y o A c G g) Q := by
  refine pW_eq 2 (pc' := 130) (L' := [u0, u1, u2, some (pm_r 8 i3)]) (S' := [pm_i (A 8 i3 8)]) (M' := (mm x R Z Y o A c G g)) (fun call n => ?_) ?_
  · refine Eq.trans (b := pm_g (mm x R Z Y o A c G g) 8 i3 (pm_go call ns d 16 n 130 [u0, u1, u2, some (pm_r 8 i3)] [pm_i (A 8 i3 8)] (mm x R Z Y o A c G g))) rfl ?_
    refine (g_ok (f := 8) q3 rfl).trans ?_
    rfl
  refine pW_ret 1 (fun call n => ?_) k
  rfl
set_option maxRecDepth 20000 in
theorem b16_131 (hR : RS R) {u0 : Option pm_V} {u1 : Option pm_V} {u2 : Option pm_V} {i3 : Nat} (q3 : i3 < 8)  (k : Q (.inl (some (pm_i (A 8 i3 9))), (mm x R Z Y o A c G g))) : pW ns d 16 131 [u0, u1, u2, some (pm_r 8 i3)] [] (mm x R Z Y o A c G g) Q := by
  refine pW_eq 2 (pc' := 135) (L' := [u0, u1, u2, some (pm_r 8 i3)]) (S' := [pm_i (A 8 i3 9)]) (M' := (mm x R Z Y o A c G g)) (fun call n => ?_) ?_
  · refine Eq.trans (b := pm_g (mm x R Z Y o A c G g) 8 i3 (pm_go call ns d 16 n 135 [u0, u1, u2, some (pm_r 8 i3)] [pm_i (A 8 i3 9)] (mm x R Z Y o A c G g))) rfl ?_
    refine (g_ok (f := 8) q3 rfl).trans ?_
    rfl
  refine pW_ret 1 (fun call n => ?_) k
  rfl
set_option maxRecDepth 20000 in
theorem b16_136 (hR : RS R) {u0 : Option pm_V} {u1 : Option pm_V} {u2 : Option pm_V} {i3 : Nat} (q3 : i3 < 8)  (k : Q (.inl (some (pm_i (A 8 i3 10))), (mm x R Z Y o A c G g))) : pW ns d 16 136 [u0, u1, u2, some (pm_r 8 i3)] [] (mm x R Z Y o A c G g) Q := by
  refine pW_eq 2 (pc' := 140) (L' := [u0, u1, u2, some (pm_r 8 i3)]) (S' := [pm_i (A 8 i3 10)]) (M' := (mm x R Z Y o A c G g)) (fun call n => ?_) ?_
  · refine Eq.trans (b := pm_g (mm x R Z Y o A c G g) 8 i3 (pm_go call ns d 16 n 140 [u0, u1, u2, some (pm_r 8 i3)] [pm_i (A 8 i3 10)] (mm x R Z Y o A c G g))) rfl ?_
    refine (g_ok (f := 8) q3 rfl).trans ?_
    rfl
  refine pW_ret 1 (fun call n => ?_) k
  rfl
set_option maxRecDepth 20000 in
theorem b16_141 (hR : RS R) {u0 : Option pm_V} {u1 : Option pm_V} {u2 : Option pm_V} {i3 : Nat} (q3 : i3 < 8)  (k : Q (.inl (some (pm_i (A 8 i3 11))), (mm x R Z Y o A c G g))) : pW ns d 16 141 [u0, u1, u2, some (pm_r 8 i3)] [] (mm x R Z Y o A c G g) Q := by
  refine pW_eq 2 (pc' := 145) (L' := [u0, u1, u2, some (pm_r 8 i3)]) (S' := [pm_i (A 8 i3 11)]) (M' := (mm x R Z Y o A c G g)) (fun call n => ?_) ?_
  · refine Eq.trans (b := pm_g (mm x R Z Y o A c G g) 8 i3 (pm_go call ns d 16 n 145 [u0, u1, u2, some (pm_r 8 i3)] [pm_i (A 8 i3 11)] (mm x R Z Y o A c G g))) rfl ?_
    refine (g_ok (f := 8) q3 rfl).trans ?_
    rfl
  refine pW_ret 1 (fun call n => ?_) k
  rfl
set_option maxRecDepth 20000 in
theorem b16_146 (hR : RS R) {u0 : Option pm_V} {u1 : Option pm_V} {u2 : Option pm_V} {i3 : Nat} (q3 : i3 < 8)  (k : Q (.inl (some (pm_i (A 8 i3 12))), (mm x R Z Y o A c G g))) : pW ns d 16 146 [u0, u1, u2, some (pm_r 8 i3)] [] (mm x R Z Y o A c G g) Q := by
  refine pW_eq 2 (pc' := 150) (L' := [u0, u1, u2, some (pm_r 8 i3)]) (S' := [pm_i (A 8 i3 12)]) (M' := (mm x R Z Y o A c G g)) (fun call n => ?_) ?_
  · refine Eq.trans (b := pm_g (mm x R Z Y o A c G g) 8 i3 (pm_go call ns d 16 n 150 [u0, u1, u2, some (pm_r 8 i3)] [pm_i (A 8 i3 12)] (mm x R Z Y o A c G g))) rfl ?_
    refine (g_ok (f := 8) q3 rfl).trans ?_
    rfl
  refine pW_ret 1 (fun call n => ?_) k
  rfl
set_option maxRecDepth 20000 in
theorem b16_151 (hR : RS R) {u0 : Option pm_V} {u1 : Option pm_V} {u2 : Option pm_V} {i3 : Nat} (q3 : i3 < 8)  (k : Q (.inl (some (pm_i (A 8 i3 13))), (mm x R Z Y o A c G g))) : pW ns d 16 151 [u0, u1, u2, some (pm_r 8 i3)] [] (mm x R Z Y o A c G g) Q := by
  refine pW_eq 2 (pc' := 155) (L' := [u0, u1, u2, some (pm_r 8 i3)]) (S' := [pm_i (A 8 i3 13)]) (M' := (mm x R Z Y o A c G g)) (fun call n => ?_) ?_
  · refine Eq.trans (b := pm_g (mm x R Z Y o A c G g) 8 i3 (pm_go call ns d 16 n 155 [u0, u1, u2, some (pm_r 8 i3)] [pm_i (A 8 i3 13)] (mm x R Z Y o A c G g))) rfl ?_
    refine (g_ok (f := 8) q3 rfl).trans ?_
    rfl
  refine pW_ret 1 (fun call n => ?_) k
  rfl
set_option maxRecDepth 20000 in
theorem b16_156 (hR : RS R) {u0 : Option pm_V} {u1 : Option pm_V} {u2 : Option pm_V} {i3 : Nat} (q3 : i3 < 8)  (k1 : A 8 i3 6 = nI 4 → pW ns d 16 164 [u0, u1, u2, some (pm_r 8 i3)] [] (mm x R Z Y o A c G g) Q) (k2 : ¬ (A 8 i3 6 = nI 4) → pW ns d 16 171 [u0, u1, u2, some (pm_r 8 i3)] [] (mm x R Z Y o A c G g) Q) : pW ns d 16 156 [u0, u1, u2, some (pm_r 8 i3)] [] (mm x R Z Y o A c G g) Q := by
  refine pW_eq 2 (pc' := 160) (L' := [u0, u1, u2, some (pm_r 8 i3)]) (S' := [pm_i (A 8 i3 6)]) (M' := (mm x R Z Y o A c G g)) (fun call n => ?_) ?_
  · refine Eq.trans (b := pm_g (mm x R Z Y o A c G g) 8 i3 (pm_go call ns d 16 n 160 [u0, u1, u2, some (pm_r 8 i3)] [pm_i (A 8 i3 6)] (mm x R Z Y o A c G g))) rfl ?_
    refine (g_ok (f := 8) q3 rfl).trans ?_
    rfl
  exact pW_if 2 (c := A 8 i3 6 = nI 4) (fun call n => rfl) k1 k2
set_option maxRecDepth 20000 in
theorem b16_173 (hR : RS R) {u0 : Option pm_V} {u1 : Option pm_V} {u2 : Option pm_V} {u3 : Option pm_V}   (k : Q (.inl (some (pm_i (-nI 1))), (mm x R Z Y o A c G g))) : pW ns d 16 173 [u0, u1, u2, u3] [] (mm x R Z Y o A c G g) Q := by
  refine pW_ret 2 (fun call n => ?_) k
  rfl
set_option maxRecDepth 20000 in
theorem b16_54 (hR : RS R) {u0 : Option pm_V} {u1 : Option pm_V} {v2 : Int32} {i3 : Nat} {j1 : Nat} (q3 : i3 < 8) (e1 : v2 - (nI 20) = nI j1) (l1 : j1 < 8)  (k : Q (.inl (some (pm_i (A 10 i3 j1))), (mm x R Z Y o A c G g))) : pW ns d 16 54 [u0, u1, some (pm_i v2), some (pm_r 8 i3)] [] (mm x R Z Y o A c G g) Q := by
  refine pW_eq 2 (pc' := 58) (L' := [u0, u1, some (pm_i v2), some (pm_r 8 i3)]) (S' := [pm_r 10 i3]) (M' := (mm x R Z Y o A c G g)) (fun call n => ?_) ?_
  · refine Eq.trans (b := pm_g (mm x R Z Y o A c G g) 8 i3 (pm_go call ns d 16 n 58 [u0, u1, some (pm_i v2), some (pm_r 8 i3)] [pm_a (R 8 i3 2)] (mm x R Z Y o A c G g))) rfl ?_
    refine (g_ok (f := 8) q3 rfl).trans ?_
    exact (congrArg (fun z => pm_go call ns d 16 n 58 [u0, u1, some (pm_i v2), some (pm_r 8 i3)] [pm_a z] (mm x R Z Y o A c G g)) (rs_8_2 hR q3))
  refine pW_eq 4 (pc' := 63) (L' := [u0, u1, some (pm_i v2), some (pm_r 8 i3)]) (S' := [pm_i (A 10 i3 j1)]) (M' := (mm x R Z Y o A c G g)) (fun call n => ?_) ?_
  · refine Eq.trans (b := pm_g (mm x R Z Y o A c G g) 10 i3 (pm_ix (v2 - (nI 20)) 8 (fun jx => pm_go call ns d 16 n 63 [u0, u1, some (pm_i v2), some (pm_r 8 i3)] [pm_i (A 10 i3 jx)] (mm x R Z Y o A c G g)))) rfl ?_
    refine (g_ok (f := 10) q3 rfl).trans ?_
    refine (ix_ok (j := j1) e1 l1 (by decide)).trans ?_
    rfl
  refine pW_ret 1 (fun call n => ?_) k
  rfl
set_option maxRecDepth 20000 in
theorem b16_41 (hR : RS R) {u0 : Option pm_V} {u1 : Option pm_V} {u2 : Option pm_V} {u3 : Option pm_V} {vs0 : Int32}   (k : Q (.inl (some (pm_i vs0)), (mm x R Z Y o A c G g))) : pW ns d 16 41 [u0, u1, u2, u3] [pm_i vs0] (mm x R Z Y o A c G g) Q := by
  refine pW_ret 1 (fun call n => ?_) k
  rfl
set_option maxRecDepth 20000 in
theorem b16_164 (hR : RS R) {u0 : Option pm_V} {u1 : Option pm_V} {u2 : Option pm_V} {i3 : Nat} (q3 : i3 < 8)  (k : Q (.inl (some (pm_i (A 8 i3 14))), (mm x R Z Y o A c G g))) : pW ns d 16 164 [u0, u1, u2, some (pm_r 8 i3)] [] (mm x R Z Y o A c G g) Q := by
  refine pW_eq 2 (pc' := 168) (L' := [u0, u1, u2, some (pm_r 8 i3)]) (S' := [pm_i (A 8 i3 14)]) (M' := (mm x R Z Y o A c G g)) (fun call n => ?_) ?_
  · refine Eq.trans (b := pm_g (mm x R Z Y o A c G g) 8 i3 (pm_go call ns d 16 n 168 [u0, u1, u2, some (pm_r 8 i3)] [pm_i (A 8 i3 14)] (mm x R Z Y o A c G g))) rfl ?_
    refine (g_ok (f := 8) q3 rfl).trans ?_
    rfl
  refine pW_ret 2 (fun call n => ?_) k
  rfl
set_option maxRecDepth 20000 in
theorem b16_171 (hR : RS R) {u0 : Option pm_V} {u1 : Option pm_V} {u2 : Option pm_V} {u3 : Option pm_V}   (k : Q (.inl (some (pm_i (-nI 1))), (mm x R Z Y o A c G g))) : pW ns d 16 171 [u0, u1, u2, u3] [] (mm x R Z Y o A c G g) Q := by
  refine pW_ret 2 (fun call n => ?_) k
  rfl
set_option maxRecDepth 20000 in
theorem t16_5 (hR : RS R) {v1 : Int32} {v2 : Int32} {u3 : Option pm_V} {vs0 : Int32}  (k1 : (vs0 = 0) → Q (.inl (some (pm_i (-nI 1))), (mm x R Z Y o A c G g))) (k2 : (¬ (vs0 = 0)) → pW ns d 16 10 [some (pm_r 0 0), some (pm_i v1), some (pm_i v2), u3] [] (mm x R Z Y o A c G g) Q) : pW ns d 16 5 [some (pm_r 0 0), some (pm_i v1), some (pm_i v2), u3] [pm_i vs0] (mm x R Z Y o A c G g) Q := by
  refine b16_5 hR  (fun h1 => ?_) (fun h1 => ?_)
  · skip
    exact b16_8 hR   (k1 h1)
  · skip
    exact (k2 h1)
set_option maxRecDepth 20000 in
theorem t16_10 (hR : RS R) {v1 : Int32} {v2 : Int32} {u3 : Option pm_V} {j1 : Nat} (e1 : v1 = nI j1) (l1 : j1 < 8) (k1 : (v2 < nI 10) → (v2 < nI 21) → pW ns d 16 64 [some (pm_r 0 0), some (pm_i v1), some (pm_i v2), some (pm_r 8 j1)] [] (mm x R Z Y o A c G g) Q) (k2 : (v2 < nI 10) → (¬ (v2 < nI 21)) → (nI 27 < v2) → pW ns d 16 64 [some (pm_r 0 0), some (pm_i v1), some (pm_i v2), some (pm_r 8 j1)] [] (mm x R Z Y o A c G g) Q) (k3 : (v2 < nI 10) → (¬ (v2 < nI 21)) → (¬ (nI 27 < v2)) → pW ns d 16 54 [some (pm_r 0 0), some (pm_i v1), some (pm_i v2), some (pm_r 8 j1)] [] (mm x R Z Y o A c G g) Q) (k4 : (¬ (v2 < nI 10)) → (nI 16 ≤ v2) → (v2 < nI 21) → pW ns d 16 64 [some (pm_r 0 0), some (pm_i v1), some (pm_i v2), some (pm_r 8 j1)] [] (mm x R Z Y o A c G g) Q) (k5 : (¬ (v2 < nI 10)) → (nI 16 ≤ v2) → (¬ (v2 < nI 21)) → (nI 27 < v2) → pW ns d 16 64 [some (pm_r 0 0), some (pm_i v1), some (pm_i v2), some (pm_r 8 j1)] [] (mm x R Z Y o A c G g) Q) (k6 : (¬ (v2 < nI 10)) → (nI 16 ≤ v2) → (¬ (v2 < nI 21)) → (¬ (nI 27 < v2)) → pW ns d 16 54 [some (pm_r 0 0), some (pm_i v1), some (pm_i v2), some (pm_r 8 j1)] [] (mm x R Z Y o A c G g) Q) (k7 : (¬ (v2 < nI 10)) → (¬ (nI 16 ≤ v2)) → pW ns d 16 29 [some (pm_r 0 0), some (pm_i v1), some (pm_i v2), some (pm_r 8 j1)] [] (mm x R Z Y o A c G g) Q) : pW ns d 16 10 [some (pm_r 0 0), some (pm_i v1), some (pm_i v2), u3] [] (mm x R Z Y o A c G g) Q := by
  refine b16_10 hR e1 l1 (fun h1 => ?_) (fun h1 => ?_)
  · skip
    refine b16_42 hR l1  (fun h2 => ?_) (fun h2 => ?_)
    · skip
      exact (k1 h1 h2)
    · skip
      refine b16_48 hR l1  (fun h3 => ?_) (fun h3 => ?_)
      · skip
        exact (k2 h1 h2 h3)
      · skip
        exact (k3 h1 h2 h3)
  · skip
    refine b16_23 hR l1  (fun h2 => ?_) (fun h2 => ?_)
    · skip
      refine b16_42 hR l1  (fun h3 => ?_) (fun h3 => ?_)
      · skip
        exact (k4 h1 h2 h3)
      · skip
        refine b16_48 hR l1  (fun h4 => ?_) (fun h4 => ?_)
        · skip
          exact (k5 h1 h2 h3 h4)
        · skip
          exact (k6 h1 h2 h3 h4)
    · skip
      exact (k7 h1 h2)
set_option maxRecDepth 20000 in
theorem t16_42 (hR : RS R) {u0 : Option pm_V} {u1 : Option pm_V} {v2 : Int32} {i3 : Nat} (q3 : i3 < 8) (k1 : (v2 < nI 21) → pW ns d 16 64 [u0, u1, some (pm_i v2), some (pm_r 8 i3)] [] (mm x R Z Y o A c G g) Q) (k2 : (¬ (v2 < nI 21)) → (nI 27 < v2) → pW ns d 16 64 [u0, u1, some (pm_i v2), some (pm_r 8 i3)] [] (mm x R Z Y o A c G g) Q) (k3 : (¬ (v2 < nI 21)) → (¬ (nI 27 < v2)) → pW ns d 16 54 [u0, u1, some (pm_i v2), some (pm_r 8 i3)] [] (mm x R Z Y o A c G g) Q) : pW ns d 16 42 [u0, u1, some (pm_i v2), some (pm_r 8 i3)] [] (mm x R Z Y o A c G g) Q := by
  refine b16_42 hR q3 (fun h1 => ?_) (fun h1 => ?_)
  · skip
    exact (k1 h1)
  · skip
    refine b16_48 hR q3  (fun h2 => ?_) (fun h2 => ?_)
    · skip
      exact (k2 h1 h2)
    · skip
      exact (k3 h1 h2)
set_option maxRecDepth 20000 in
theorem t16_23 (hR : RS R) {u0 : Option pm_V} {u1 : Option pm_V} {v2 : Int32} {i3 : Nat} (q3 : i3 < 8) (k1 : (nI 16 ≤ v2) → (v2 < nI 21) → pW ns d 16 64 [u0, u1, some (pm_i v2), some (pm_r 8 i3)] [] (mm x R Z Y o A c G g) Q) (k2 : (nI 16 ≤ v2) → (¬ (v2 < nI 21)) → (nI 27 < v2) → pW ns d 16 64 [u0, u1, some (pm_i v2), some (pm_r 8 i3)] [] (mm x R Z Y o A c G g) Q) (k3 : (nI 16 ≤ v2) → (¬ (v2 < nI 21)) → (¬ (nI 27 < v2)) → pW ns d 16 54 [u0, u1, some (pm_i v2), some (pm_r 8 i3)] [] (mm x R Z Y o A c G g) Q) (k4 : (¬ (nI 16 ≤ v2)) → pW ns d 16 29 [u0, u1, some (pm_i v2), some (pm_r 8 i3)] [] (mm x R Z Y o A c G g) Q) : pW ns d 16 23 [u0, u1, some (pm_i v2), some (pm_r 8 i3)] [] (mm x R Z Y o A c G g) Q := by
  refine b16_23 hR q3 (fun h1 => ?_) (fun h1 => ?_)
  · skip
    refine b16_42 hR q3  (fun h2 => ?_) (fun h2 => ?_)
    · skip
      exact (k1 h1 h2)
    · skip
      refine b16_48 hR q3  (fun h3 => ?_) (fun h3 => ?_)
      · skip
        exact (k2 h1 h2 h3)
      · skip
        exact (k3 h1 h2 h3)
  · skip
    exact (k4 h1)
set_option maxRecDepth 20000 in
theorem t16_48 (hR : RS R) {u0 : Option pm_V} {u1 : Option pm_V} {v2 : Int32} {i3 : Nat} (q3 : i3 < 8) (k1 : (nI 27 < v2) → pW ns d 16 64 [u0, u1, some (pm_i v2), some (pm_r 8 i3)] [] (mm x R Z Y o A c G g) Q) (k2 : (¬ (nI 27 < v2)) → pW ns d 16 54 [u0, u1, some (pm_i v2), some (pm_r 8 i3)] [] (mm x R Z Y o A c G g) Q) : pW ns d 16 48 [u0, u1, some (pm_i v2), some (pm_r 8 i3)] [] (mm x R Z Y o A c G g) Q := by
  refine b16_48 hR q3 (fun h1 => ?_) (fun h1 => ?_)
  · skip
    exact (k1 h1)
  · skip
    exact (k2 h1)
set_option maxRecDepth 20000 in
theorem t16_156 (hR : RS R) {u0 : Option pm_V} {u1 : Option pm_V} {u2 : Option pm_V} {i3 : Nat} (q3 : i3 < 8) (k1 : (A 8 i3 6 = nI 4) → Q (.inl (some (pm_i (A 8 i3 14))), (mm x R Z Y o A c G g))) (k2 : (¬ (A 8 i3 6 = nI 4)) → Q (.inl (some (pm_i (-nI 1))), (mm x R Z Y o A c G g))) : pW ns d 16 156 [u0, u1, u2, some (pm_r 8 i3)] [] (mm x R Z Y o A c G g) Q := by
  refine b16_156 hR q3 (fun h1 => ?_) (fun h1 => ?_)
  · skip
    exact b16_164 hR q3  (k1 h1)
  · skip
    exact b16_171 hR   (k2 h1)
/-! 17 JobLayer.taken -/
set_option maxRecDepth 20000 in
theorem b17_0 (hR : RS R) {v1 : Int32} {v2 : Int32}  {x2 : Nat} {o2 : Int64} {A2 : Nat → Nat → Nat → Int32} {c2 : Nat → Int64} {G2 : Nat → Nat → Int32} {g2 : Nat → Int64} {y : Int32} (hE : pE ns d 24 [pm_r 0 0, pm_i v1] (mm x R Z Y o A c G g) (.inl (some (pm_i y)), (mm x2 R Z Y o2 A2 c2 G2 g2))) (k : pW ns d 17 5 [some (pm_r 0 0), some (pm_i v1), some (pm_i v2)] [pm_i y] (mm x2 R Z Y o2 A2 c2 G2 g2) Q) : pW ns d 17 0 [some (pm_r 0 0), some (pm_i v1), some (pm_i v2)] [] (mm x R Z Y o A c G g) Q := by
  refine pW_call (pc' := 2) (r := []) (L' := [some (pm_r 0 0), some (pm_i v1), some (pm_i v2)]) 3 (fun call n => ?_) hE k
  exact Eq.trans (b := pm_g (mm x R Z Y o A c G g) 0 0 (pm_cl call 17 (pm_go call ns d 17 n) 2 24 [pm_r 0 0, pm_i v1] [] [some (pm_r 0 0), some (pm_i v1), some (pm_i v2)] (mm x R Z Y o A c G g))) rfl (g_ok (f := 0) (by decide) rfl)
set_option maxRecDepth 20000 in
theorem b17_5 (hR : RS R) {v1 : Int32} {v2 : Int32} {vs0 : Int32}   (k1 : vs0 = 0 → pW ns d 17 25 [some (pm_r 0 0), some (pm_i v1), some (pm_i v2)] [] (mm x R Z Y o A c G g) Q) (k2 : ¬ (vs0 = 0) → pW ns d 17 8 [some (pm_r 0 0), some (pm_i v1), some (pm_i v2)] [] (mm x R Z Y o A c G g) Q) : pW ns d 17 5 [some (pm_r 0 0), some (pm_i v1), some (pm_i v2)] [pm_i vs0] (mm x R Z Y o A c G g) Q := by
  exact pW_if 1 (c := vs0 = 0) (fun call n => rfl) k1 k2
set_option maxRecDepth 20000 in
theorem b17_25 (hR : RS R) {u0 : Option pm_V} {u1 : Option pm_V} {u2 : Option pm_V}   (k : Q (.inl (some (pm_i (-nI 1))), (mm x R Z Y o A c G g))) : pW ns d 17 25 [u0, u1, u2] [] (mm x R Z Y o A c G g) Q := by
  refine pW_ret 2 (fun call n => ?_) k
  rfl
set_option maxRecDepth 20000 in
theorem b17_8 (hR : RS R) {v1 : Int32} {v2 : Int32}   (k1 : v2 < 0 → pW ns d 17 25 [some (pm_r 0 0), some (pm_i v1), some (pm_i v2)] [] (mm x R Z Y o A c G g) Q) (k2 : ¬ (v2 < 0) → pW ns d 17 12 [some (pm_r 0 0), some (pm_i v1), some (pm_i v2)] [] (mm x R Z Y o A c G g) Q) : pW ns d 17 8 [some (pm_r 0 0), some (pm_i v1), some (pm_i v2)] [] (mm x R Z Y o A c G g) Q := by
  exact pW_if 2 (c := v2 < 0) (fun call n => rfl) k1 k2
set_option maxRecDepth 20000 in
theorem b17_12 (hR : RS R) {v1 : Int32} {v2 : Int32} {j1 : Nat} (e1 : v1 = nI j1) (l1 : j1 < 8)  (k1 : v2 < A 8 j1 12 → pW ns d 17 27 [some (pm_r 0 0), some (pm_i v1), some (pm_i v2)] [] (mm x R Z Y o A c G g) Q) (k2 : ¬ (v2 < A 8 j1 12) → pW ns d 17 25 [some (pm_r 0 0), some (pm_i v1), some (pm_i v2)] [] (mm x R Z Y o A c G g) Q) : pW ns d 17 12 [some (pm_r 0 0), some (pm_i v1), some (pm_i v2)] [] (mm x R Z Y o A c G g) Q := by
  refine pW_eq 3 (pc' := 17) (L' := [some (pm_r 0 0), some (pm_i v1), some (pm_i v2)]) (S' := [pm_r 1 0, pm_i v2]) (M' := (mm x R Z Y o A c G g)) (fun call n => ?_) ?_
  · refine Eq.trans (b := pm_g (mm x R Z Y o A c G g) 0 0 (pm_go call ns d 17 n 17 [some (pm_r 0 0), some (pm_i v1), some (pm_i v2)] [pm_a (R 0 0 0), pm_i v2] (mm x R Z Y o A c G g))) rfl ?_
    refine (g_ok (f := 0) (by decide) rfl).trans ?_
    exact (congrArg (fun z => pm_go call ns d 17 n 17 [some (pm_r 0 0), some (pm_i v1), some (pm_i v2)] [pm_a z, pm_i v2] (mm x R Z Y o A c G g)) (rs_0_0 hR))
  refine pW_eq 2 (pc' := 19) (L' := [some (pm_r 0 0), some (pm_i v1), some (pm_i v2)]) (S' := [pm_r 8 j1, pm_i v2]) (M' := (mm x R Z Y o A c G g)) (fun call n => ?_) ?_
  · refine Eq.trans (b := pm_g (mm x R Z Y o A c G g) 1 0 (pm_ix (v1) 8 (fun jx => pm_go call ns d 17 n 19 [some (pm_r 0 0), some (pm_i v1), some (pm_i v2)] [pm_a (R 1 0 jx), pm_i v2] (mm x R Z Y o A c G g)))) rfl ?_
    refine (g_ok (f := 1) (by decide) rfl).trans ?_
    refine (ix_ok (j := j1) e1 l1 (by decide)).trans ?_
    exact (congrArg (fun z => pm_go call ns d 17 n 19 [some (pm_r 0 0), some (pm_i v1), some (pm_i v2)] [pm_a z, pm_i v2] (mm x R Z Y o A c G g)) (rs_1 hR (k := j1) l1))
  refine pW_eq 1 (pc' := 22) (L' := [some (pm_r 0 0), some (pm_i v1), some (pm_i v2)]) (S' := [pm_i (A 8 j1 12), pm_i v2]) (M' := (mm x R Z Y o A c G g)) (fun call n => ?_) ?_
  · refine Eq.trans (b := pm_g (mm x R Z Y o A c G g) 8 j1 (pm_go call ns d 17 n 22 [some (pm_r 0 0), some (pm_i v1), some (pm_i v2)] [pm_i (A 8 j1 12), pm_i v2] (mm x R Z Y o A c G g))) rfl ?_
    refine (g_ok (f := 8) l1 rfl).trans ?_
    rfl
  exact pW_if 1 (c := v2 < A 8 j1 12) (fun call n => rfl) k1 k2
set_option maxRecDepth 20000 in
theorem b17_27 (hR : RS R) {v1 : Int32} {v2 : Int32} {j1 : Nat} {j2 : Nat} (e1 : v1 = nI j1) (l1 : j1 < 8) (e2 : v2 = nI j2) (l2 : j2 < 8)  (k : Q (.inl (some (pm_i (A 11 j1 j2))), (mm x R Z Y o A c G g))) : pW ns d 17 27 [some (pm_r 0 0), some (pm_i v1), some (pm_i v2)] [] (mm x R Z Y o A c G g) Q := by
  refine pW_eq 2 (pc' := 31) (L' := [some (pm_r 0 0), some (pm_i v1), some (pm_i v2)]) (S' := [pm_r 1 0]) (M' := (mm x R Z Y o A c G g)) (fun call n => ?_) ?_
  · refine Eq.trans (b := pm_g (mm x R Z Y o A c G g) 0 0 (pm_go call ns d 17 n 31 [some (pm_r 0 0), some (pm_i v1), some (pm_i v2)] [pm_a (R 0 0 0)] (mm x R Z Y o A c G g))) rfl ?_
    refine (g_ok (f := 0) (by decide) rfl).trans ?_
    exact (congrArg (fun z => pm_go call ns d 17 n 31 [some (pm_r 0 0), some (pm_i v1), some (pm_i v2)] [pm_a z] (mm x R Z Y o A c G g)) (rs_0_0 hR))
  refine pW_eq 2 (pc' := 33) (L' := [some (pm_r 0 0), some (pm_i v1), some (pm_i v2)]) (S' := [pm_r 8 j1]) (M' := (mm x R Z Y o A c G g)) (fun call n => ?_) ?_
  · refine Eq.trans (b := pm_g (mm x R Z Y o A c G g) 1 0 (pm_ix (v1) 8 (fun jx => pm_go call ns d 17 n 33 [some (pm_r 0 0), some (pm_i v1), some (pm_i v2)] [pm_a (R 1 0 jx)] (mm x R Z Y o A c G g)))) rfl ?_
    refine (g_ok (f := 1) (by decide) rfl).trans ?_
    refine (ix_ok (j := j1) e1 l1 (by decide)).trans ?_
    exact (congrArg (fun z => pm_go call ns d 17 n 33 [some (pm_r 0 0), some (pm_i v1), some (pm_i v2)] [pm_a z] (mm x R Z Y o A c G g)) (rs_1 hR (k := j1) l1))
  refine pW_eq 1 (pc' := 36) (L' := [some (pm_r 0 0), some (pm_i v1), some (pm_i v2)]) (S' := [pm_r 11 j1]) (M' := (mm x R Z Y o A c G g)) (fun call n => ?_) ?_
  · refine Eq.trans (b := pm_g (mm x R Z Y o A c G g) 8 j1 (pm_go call ns d 17 n 36 [some (pm_r 0 0), some (pm_i v1), some (pm_i v2)] [pm_a (R 8 j1 3)] (mm x R Z Y o A c G g))) rfl ?_
    refine (g_ok (f := 8) l1 rfl).trans ?_
    exact (congrArg (fun z => pm_go call ns d 17 n 36 [some (pm_r 0 0), some (pm_i v1), some (pm_i v2)] [pm_a z] (mm x R Z Y o A c G g)) (rs_8_3 hR l1))
  refine pW_eq 2 (pc' := 38) (L' := [some (pm_r 0 0), some (pm_i v1), some (pm_i v2)]) (S' := [pm_i (A 11 j1 j2)]) (M' := (mm x R Z Y o A c G g)) (fun call n => ?_) ?_
  · refine Eq.trans (b := pm_g (mm x R Z Y o A c G g) 11 j1 (pm_ix (v2) 8 (fun jx => pm_go call ns d 17 n 38 [some (pm_r 0 0), some (pm_i v1), some (pm_i v2)] [pm_i (A 11 j1 jx)] (mm x R Z Y o A c G g)))) rfl ?_
    refine (g_ok (f := 11) l1 rfl).trans ?_
    refine (ix_ok (j := j2) e2 l2 (by decide)).trans ?_
    rfl
  refine pW_ret 1 (fun call n => ?_) k
  rfl
set_option maxRecDepth 20000 in
theorem t17_5 (hR : RS R) {v1 : Int32} {v2 : Int32} {vs0 : Int32}  (k1 : (vs0 = 0) → Q (.inl (some (pm_i (-nI 1))), (mm x R Z Y o A c G g))) (k2 : (¬ (vs0 = 0)) → (v2 < 0) → Q (.inl (some (pm_i (-nI 1))), (mm x R Z Y o A c G g))) (k3 : (¬ (vs0 = 0)) → (¬ (v2 < 0)) → pW ns d 17 12 [some (pm_r 0 0), some (pm_i v1), some (pm_i v2)] [] (mm x R Z Y o A c G g) Q) : pW ns d 17 5 [some (pm_r 0 0), some (pm_i v1), some (pm_i v2)] [pm_i vs0] (mm x R Z Y o A c G g) Q := by
  refine b17_5 hR  (fun h1 => ?_) (fun h1 => ?_)
  · skip
    exact b17_25 hR   (k1 h1)
  · skip
    refine b17_8 hR   (fun h2 => ?_) (fun h2 => ?_)
    · skip
      exact b17_25 hR   (k2 h1 h2)
    · skip
      exact (k3 h1 h2)
set_option maxRecDepth 20000 in
theorem t17_8 (hR : RS R) {v1 : Int32} {v2 : Int32}  (k1 : (v2 < 0) → Q (.inl (some (pm_i (-nI 1))), (mm x R Z Y o A c G g))) (k2 : (¬ (v2 < 0)) → pW ns d 17 12 [some (pm_r 0 0), some (pm_i v1), some (pm_i v2)] [] (mm x R Z Y o A c G g) Q) : pW ns d 17 8 [some (pm_r 0 0), some (pm_i v1), some (pm_i v2)] [] (mm x R Z Y o A c G g) Q := by
  refine b17_8 hR  (fun h1 => ?_) (fun h1 => ?_)
  · skip
    exact b17_25 hR   (k1 h1)
  · skip
    exact (k2 h1)
set_option maxRecDepth 20000 in
theorem t17_12 (hR : RS R) {v1 : Int32} {v2 : Int32} {j1 : Nat} (e1 : v1 = nI j1) (l1 : j1 < 8) (k1 : (v2 < A 8 j1 12) → pW ns d 17 27 [some (pm_r 0 0), some (pm_i v1), some (pm_i v2)] [] (mm x R Z Y o A c G g) Q) (k2 : (¬ (v2 < A 8 j1 12)) → Q (.inl (some (pm_i (-nI 1))), (mm x R Z Y o A c G g))) : pW ns d 17 12 [some (pm_r 0 0), some (pm_i v1), some (pm_i v2)] [] (mm x R Z Y o A c G g) Q := by
  refine b17_12 hR e1 l1 (fun h1 => ?_) (fun h1 => ?_)
  · skip
    exact (k1 h1)
  · skip
    exact b17_25 hR   (k2 h1)
/-! 18 JobLayer.heard -/
set_option maxRecDepth 20000 in
theorem b18_0 (hR : RS R) {v1 : Int32} {v2 : Int32}  {x2 : Nat} {o2 : Int64} {A2 : Nat → Nat → Nat → Int32} {c2 : Nat → Int64} {G2 : Nat → Nat → Int32} {g2 : Nat → Int64} {y : Int32} (hE : pE ns d 24 [pm_r 0 0, pm_i v1] (mm x R Z Y o A c G g) (.inl (some (pm_i y)), (mm x2 R Z Y o2 A2 c2 G2 g2))) (k : pW ns d 18 5 [some (pm_r 0 0), some (pm_i v1), some (pm_i v2)] [pm_i y] (mm x2 R Z Y o2 A2 c2 G2 g2) Q) : pW ns d 18 0 [some (pm_r 0 0), some (pm_i v1), some (pm_i v2)] [] (mm x R Z Y o A c G g) Q := by
  refine pW_call (pc' := 2) (r := []) (L' := [some (pm_r 0 0), some (pm_i v1), some (pm_i v2)]) 3 (fun call n => ?_) hE k
  exact Eq.trans (b := pm_g (mm x R Z Y o A c G g) 0 0 (pm_cl call 18 (pm_go call ns d 18 n) 2 24 [pm_r 0 0, pm_i v1] [] [some (pm_r 0 0), some (pm_i v1), some (pm_i v2)] (mm x R Z Y o A c G g))) rfl (g_ok (f := 0) (by decide) rfl)
set_option maxRecDepth 20000 in
theorem b18_5 (hR : RS R) {v1 : Int32} {v2 : Int32} {vs0 : Int32}   (k1 : vs0 = 0 → pW ns d 18 8 [some (pm_r 0 0), some (pm_i v1), some (pm_i v2)] [] (mm x R Z Y o A c G g) Q) (k2 : ¬ (vs0 = 0) → pW ns d 18 10 [some (pm_r 0 0), some (pm_i v1), some (pm_i v2)] [] (mm x R Z Y o A c G g) Q) : pW ns d 18 5 [some (pm_r 0 0), some (pm_i v1), some (pm_i v2)] [pm_i vs0] (mm x R Z Y o A c G g) Q := by
  exact pW_if 1 (c := vs0 = 0) (fun call n => rfl) k1 k2
set_option maxRecDepth 20000 in
theorem b18_8 (hR : RS R) {u0 : Option pm_V} {u1 : Option pm_V} {u2 : Option pm_V}   (k : Q (.inl (some (pm_i (-nI 1))), (mm x R Z Y o A c G g))) : pW ns d 18 8 [u0, u1, u2] [] (mm x R Z Y o A c G g) Q := by
  refine pW_ret 2 (fun call n => ?_) k
  rfl
set_option maxRecDepth 20000 in
theorem b18_10 (hR : RS R) {v1 : Int32} {v2 : Int32} {j1 : Nat} (e1 : v1 = nI j1) (l1 : j1 < 8) {x2 : Nat} {o2 : Int64} {A2 : Nat → Nat → Nat → Int32} {c2 : Nat → Int64} {G2 : Nat → Nat → Int32} {g2 : Nat → Int64} {y : Int32} (hE : pE ns d 20 [pm_r 12 j1, pm_i (A 8 j1 13), pm_i v2] (mm x R Z Y o A c G g) (.inl (some (pm_i y)), (mm x2 R Z Y o2 A2 c2 G2 g2))) (k : pW ns d 18 32 [some (pm_r 0 0), some (pm_i v1), some (pm_i v2)] [pm_i y] (mm x2 R Z Y o2 A2 c2 G2 g2) Q) : pW ns d 18 10 [some (pm_r 0 0), some (pm_i v1), some (pm_i v2)] [] (mm x R Z Y o A c G g) Q := by
  refine pW_eq 2 (pc' := 14) (L' := [some (pm_r 0 0), some (pm_i v1), some (pm_i v2)]) (S' := [pm_r 1 0]) (M' := (mm x R Z Y o A c G g)) (fun call n => ?_) ?_
  · refine Eq.trans (b := pm_g (mm x R Z Y o A c G g) 0 0 (pm_go call ns d 18 n 14 [some (pm_r 0 0), some (pm_i v1), some (pm_i v2)] [pm_a (R 0 0 0)] (mm x R Z Y o A c G g))) rfl ?_
    refine (g_ok (f := 0) (by decide) rfl).trans ?_
    exact (congrArg (fun z => pm_go call ns d 18 n 14 [some (pm_r 0 0), some (pm_i v1), some (pm_i v2)] [pm_a z] (mm x R Z Y o A c G g)) (rs_0_0 hR))
  refine pW_eq 2 (pc' := 16) (L' := [some (pm_r 0 0), some (pm_i v1), some (pm_i v2)]) (S' := [pm_r 8 j1]) (M' := (mm x R Z Y o A c G g)) (fun call n => ?_) ?_
  · refine Eq.trans (b := pm_g (mm x R Z Y o A c G g) 1 0 (pm_ix (v1) 8 (fun jx => pm_go call ns d 18 n 16 [some (pm_r 0 0), some (pm_i v1), some (pm_i v2)] [pm_a (R 1 0 jx)] (mm x R Z Y o A c G g)))) rfl ?_
    refine (g_ok (f := 1) (by decide) rfl).trans ?_
    refine (ix_ok (j := j1) e1 l1 (by decide)).trans ?_
    exact (congrArg (fun z => pm_go call ns d 18 n 16 [some (pm_r 0 0), some (pm_i v1), some (pm_i v2)] [pm_a z] (mm x R Z Y o A c G g)) (rs_1 hR (k := j1) l1))
  refine pW_eq 1 (pc' := 19) (L' := [some (pm_r 0 0), some (pm_i v1), some (pm_i v2)]) (S' := [pm_r 12 j1]) (M' := (mm x R Z Y o A c G g)) (fun call n => ?_) ?_
  · refine Eq.trans (b := pm_g (mm x R Z Y o A c G g) 8 j1 (pm_go call ns d 18 n 19 [some (pm_r 0 0), some (pm_i v1), some (pm_i v2)] [pm_a (R 8 j1 4)] (mm x R Z Y o A c G g))) rfl ?_
    refine (g_ok (f := 8) l1 rfl).trans ?_
    exact (congrArg (fun z => pm_go call ns d 18 n 19 [some (pm_r 0 0), some (pm_i v1), some (pm_i v2)] [pm_a z] (mm x R Z Y o A c G g)) (rs_8_4 hR l1))
  refine pW_eq 2 (pc' := 23) (L' := [some (pm_r 0 0), some (pm_i v1), some (pm_i v2)]) (S' := [pm_r 1 0, pm_r 12 j1]) (M' := (mm x R Z Y o A c G g)) (fun call n => ?_) ?_
  · refine Eq.trans (b := pm_g (mm x R Z Y o A c G g) 0 0 (pm_go call ns d 18 n 23 [some (pm_r 0 0), some (pm_i v1), some (pm_i v2)] [pm_a (R 0 0 0), pm_r 12 j1] (mm x R Z Y o A c G g))) rfl ?_
    refine (g_ok (f := 0) (by decide) rfl).trans ?_
    exact (congrArg (fun z => pm_go call ns d 18 n 23 [some (pm_r 0 0), some (pm_i v1), some (pm_i v2)] [pm_a z, pm_r 12 j1] (mm x R Z Y o A c G g)) (rs_0_0 hR))
  refine pW_eq 2 (pc' := 25) (L' := [some (pm_r 0 0), some (pm_i v1), some (pm_i v2)]) (S' := [pm_r 8 j1, pm_r 12 j1]) (M' := (mm x R Z Y o A c G g)) (fun call n => ?_) ?_
  · refine Eq.trans (b := pm_g (mm x R Z Y o A c G g) 1 0 (pm_ix (v1) 8 (fun jx => pm_go call ns d 18 n 25 [some (pm_r 0 0), some (pm_i v1), some (pm_i v2)] [pm_a (R 1 0 jx), pm_r 12 j1] (mm x R Z Y o A c G g)))) rfl ?_
    refine (g_ok (f := 1) (by decide) rfl).trans ?_
    refine (ix_ok (j := j1) e1 l1 (by decide)).trans ?_
    exact (congrArg (fun z => pm_go call ns d 18 n 25 [some (pm_r 0 0), some (pm_i v1), some (pm_i v2)] [pm_a z, pm_r 12 j1] (mm x R Z Y o A c G g)) (rs_1 hR (k := j1) l1))
  refine pW_eq 1 (pc' := 28) (L' := [some (pm_r 0 0), some (pm_i v1), some (pm_i v2)]) (S' := [pm_i (A 8 j1 13), pm_r 12 j1]) (M' := (mm x R Z Y o A c G g)) (fun call n => ?_) ?_
  · refine Eq.trans (b := pm_g (mm x R Z Y o A c G g) 8 j1 (pm_go call ns d 18 n 28 [some (pm_r 0 0), some (pm_i v1), some (pm_i v2)] [pm_i (A 8 j1 13), pm_r 12 j1] (mm x R Z Y o A c G g))) rfl ?_
    refine (g_ok (f := 8) l1 rfl).trans ?_
    rfl
  refine pW_call (pc' := 29) (r := []) (L' := [some (pm_r 0 0), some (pm_i v1), some (pm_i v2)]) 2 (fun call n => ?_) hE k
  rfl
set_option maxRecDepth 20000 in
theorem b18_32 (hR : RS R) {u0 : Option pm_V} {u1 : Option pm_V} {u2 : Option pm_V} {vs0 : Int32}   (k : Q (.inl (some (pm_i vs0)), (mm x R Z Y o A c G g))) : pW ns d 18 32 [u0, u1, u2] [pm_i vs0] (mm x R Z Y o A c G g) Q := by
  refine pW_ret 1 (fun call n => ?_) k
  rfl
set_option maxRecDepth 20000 in
theorem t18_5 (hR : RS R) {v1 : Int32} {v2 : Int32} {vs0 : Int32}  (k1 : (vs0 = 0) → Q (.inl (some (pm_i (-nI 1))), (mm x R Z Y o A c G g))) (k2 : (¬ (vs0 = 0)) → pW ns d 18 10 [some (pm_r 0 0), some (pm_i v1), some (pm_i v2)] [] (mm x R Z Y o A c G g) Q) : pW ns d 18 5 [some (pm_r 0 0), some (pm_i v1), some (pm_i v2)] [pm_i vs0] (mm x R Z Y o A c G g) Q := by
  refine b18_5 hR  (fun h1 => ?_) (fun h1 => ?_)
  · skip
    exact b18_8 hR   (k1 h1)
  · skip
    exact (k2 h1)
/-! 19 JobLayer.terminal -/
set_option maxRecDepth 20000 in
theorem b19_0 (hR : RS R) {v1 : Int32}   (k0 : v1.toInt = -5 → pW ns d 19 71 [some (pm_r 0 0), some (pm_i v1)] [] (mm x R Z Y o A c G g) Q) (k1 : v1.toInt = -4 → pW ns d 19 63 [some (pm_r 0 0), some (pm_i v1)] [] (mm x R Z Y o A c G g) Q) (k2 : v1.toInt = -3 → pW ns d 19 55 [some (pm_r 0 0), some (pm_i v1)] [] (mm x R Z Y o A c G g) Q) (k3 : v1.toInt = -2 → pW ns d 19 44 [some (pm_r 0 0), some (pm_i v1)] [] (mm x R Z Y o A c G g) Q) (k4 : v1.toInt = -1 → pW ns d 19 36 [some (pm_r 0 0), some (pm_i v1)] [] (mm x R Z Y o A c G g) Q) (kd : ¬ v1.toInt = -5 → ¬ v1.toInt = -4 → ¬ v1.toInt = -3 → ¬ v1.toInt = -2 → ¬ v1.toInt = -1 → pW ns d 19 76 [some (pm_r 0 0), some (pm_i v1)] [] (mm x R Z Y o A c G g) Q) : pW ns d 19 0 [some (pm_r 0 0), some (pm_i v1)] [] (mm x R Z Y o A c G g) Q := by
  by_cases h0 : v1.toInt = -5
  · refine pW_eq 2 (fun call n => ?_) (k0 h0)
    refine Eq.trans (b := pm_sw (v1.toInt) (-5) [70, 62, 54, 43, 35] 75 (fun oo => pm_j 1 oo fun tt => pm_go call ns d 19 n tt [some (pm_r 0 0), some (pm_i v1)] [] (mm x R Z Y o A c G g))) rfl ?_
    rw [h0]
    rfl
  by_cases h1 : v1.toInt = -4
  · refine pW_eq 2 (fun call n => ?_) (k1 h1)
    refine Eq.trans (b := pm_sw (v1.toInt) (-5) [70, 62, 54, 43, 35] 75 (fun oo => pm_j 1 oo fun tt => pm_go call ns d 19 n tt [some (pm_r 0 0), some (pm_i v1)] [] (mm x R Z Y o A c G g))) rfl ?_
    rw [h1]
    rfl
  by_cases h2 : v1.toInt = -3
  · refine pW_eq 2 (fun call n => ?_) (k2 h2)
    refine Eq.trans (b := pm_sw (v1.toInt) (-5) [70, 62, 54, 43, 35] 75 (fun oo => pm_j 1 oo fun tt => pm_go call ns d 19 n tt [some (pm_r 0 0), some (pm_i v1)] [] (mm x R Z Y o A c G g))) rfl ?_
    rw [h2]
    rfl
  by_cases h3 : v1.toInt = -2
  · refine pW_eq 2 (fun call n => ?_) (k3 h3)
    refine Eq.trans (b := pm_sw (v1.toInt) (-5) [70, 62, 54, 43, 35] 75 (fun oo => pm_j 1 oo fun tt => pm_go call ns d 19 n tt [some (pm_r 0 0), some (pm_i v1)] [] (mm x R Z Y o A c G g))) rfl ?_
    rw [h3]
    rfl
  by_cases h4 : v1.toInt = -1
  · refine pW_eq 2 (fun call n => ?_) (k4 h4)
    refine Eq.trans (b := pm_sw (v1.toInt) (-5) [70, 62, 54, 43, 35] 75 (fun oo => pm_j 1 oo fun tt => pm_go call ns d 19 n tt [some (pm_r 0 0), some (pm_i v1)] [] (mm x R Z Y o A c G g))) rfl ?_
    rw [h4]
    rfl
  refine pW_eq 2 (fun call n => ?_) (kd h0 h1 h2 h3 h4)
  refine Eq.trans (b := pm_sw (v1.toInt) (-5) [70, 62, 54, 43, 35] 75 (fun oo => pm_j 1 oo fun tt => pm_go call ns d 19 n tt [some (pm_r 0 0), some (pm_i v1)] [] (mm x R Z Y o A c G g))) rfl ?_
  refine (if_neg h0).trans ?_
  refine (if_neg h1).trans ?_
  refine (if_neg h2).trans ?_
  refine (if_neg h3).trans ?_
  refine (if_neg h4).trans ?_
  rfl
set_option maxRecDepth 20000 in
theorem b19_71 (hR : RS R) {u1 : Option pm_V}  {x2 : Nat} {o2 : Int64} {A2 : Nat → Nat → Nat → Int32} {c2 : Nat → Int64} {G2 : Nat → Nat → Int32} {g2 : Nat → Int64} {y : Int32} (hE : pE ns d 31 [pm_r 0 0] (mm x R Z Y o A c G g) (.inl (some (pm_i y)), (mm x2 R Z Y o2 A2 c2 G2 g2))) (k : pW ns d 19 75 [some (pm_r 0 0), u1] [pm_i y] (mm x2 R Z Y o2 A2 c2 G2 g2) Q) : pW ns d 19 71 [some (pm_r 0 0), u1] [] (mm x R Z Y o A c G g) Q := by
  refine pW_call (pc' := 72) (r := []) (L' := [some (pm_r 0 0), u1]) 2 (fun call n => ?_) hE k
  exact Eq.trans (b := pm_g (mm x R Z Y o A c G g) 0 0 (pm_cl call 19 (pm_go call ns d 19 n) 72 31 [pm_r 0 0] [] [some (pm_r 0 0), u1] (mm x R Z Y o A c G g))) rfl (g_ok (f := 0) (by decide) rfl)
set_option maxRecDepth 20000 in
theorem b19_63 (hR : RS R) {u1 : Option pm_V}   (k : Q (.inl (some (pm_i (A 3 0 6))), (mm x R Z Y o A c G g))) : pW ns d 19 63 [some (pm_r 0 0), u1] [] (mm x R Z Y o A c G g) Q := by
  refine pW_eq 2 (pc' := 67) (L' := [some (pm_r 0 0), u1]) (S' := [pm_r 3 0]) (M' := (mm x R Z Y o A c G g)) (fun call n => ?_) ?_
  · refine Eq.trans (b := pm_g (mm x R Z Y o A c G g) 0 0 (pm_go call ns d 19 n 67 [some (pm_r 0 0), u1] [pm_a (R 0 0 2)] (mm x R Z Y o A c G g))) rfl ?_
    refine (g_ok (f := 0) (by decide) rfl).trans ?_
    exact (congrArg (fun z => pm_go call ns d 19 n 67 [some (pm_r 0 0), u1] [pm_a z] (mm x R Z Y o A c G g)) (rs_0_2 hR))
  refine pW_eq 1 (pc' := 70) (L' := [some (pm_r 0 0), u1]) (S' := [pm_i (A 3 0 6)]) (M' := (mm x R Z Y o A c G g)) (fun call n => ?_) ?_
  · refine Eq.trans (b := pm_g (mm x R Z Y o A c G g) 3 0 (pm_go call ns d 19 n 70 [some (pm_r 0 0), u1] [pm_i (A 3 0 6)] (mm x R Z Y o A c G g))) rfl ?_
    refine (g_ok (f := 3) (by decide) rfl).trans ?_
    rfl
  refine pW_ret 1 (fun call n => ?_) k
  rfl
set_option maxRecDepth 20000 in
theorem b19_55 (hR : RS R) {u1 : Option pm_V}   (k : Q (.inl (some (pm_i (A 3 0 3))), (mm x R Z Y o A c G g))) : pW ns d 19 55 [some (pm_r 0 0), u1] [] (mm x R Z Y o A c G g) Q := by
  refine pW_eq 2 (pc' := 59) (L' := [some (pm_r 0 0), u1]) (S' := [pm_r 3 0]) (M' := (mm x R Z Y o A c G g)) (fun call n => ?_) ?_
  · refine Eq.trans (b := pm_g (mm x R Z Y o A c G g) 0 0 (pm_go call ns d 19 n 59 [some (pm_r 0 0), u1] [pm_a (R 0 0 2)] (mm x R Z Y o A c G g))) rfl ?_
    refine (g_ok (f := 0) (by decide) rfl).trans ?_
    exact (congrArg (fun z => pm_go call ns d 19 n 59 [some (pm_r 0 0), u1] [pm_a z] (mm x R Z Y o A c G g)) (rs_0_2 hR))
  refine pW_eq 1 (pc' := 62) (L' := [some (pm_r 0 0), u1]) (S' := [pm_i (A 3 0 3)]) (M' := (mm x R Z Y o A c G g)) (fun call n => ?_) ?_
  · refine Eq.trans (b := pm_g (mm x R Z Y o A c G g) 3 0 (pm_go call ns d 19 n 62 [some (pm_r 0 0), u1] [pm_i (A 3 0 3)] (mm x R Z Y o A c G g))) rfl ?_
    refine (g_ok (f := 3) (by decide) rfl).trans ?_
    rfl
  refine pW_ret 1 (fun call n => ?_) k
  rfl
set_option maxRecDepth 20000 in
theorem b19_44 (hR : RS R) {u1 : Option pm_V}   (k : Q (.inl (some (pm_i (A 6 0 1))), (mm x R Z Y o A c G g))) : pW ns d 19 44 [some (pm_r 0 0), u1] [] (mm x R Z Y o A c G g) Q := by
  refine pW_eq 2 (pc' := 48) (L' := [some (pm_r 0 0), u1]) (S' := [pm_r 3 0]) (M' := (mm x R Z Y o A c G g)) (fun call n => ?_) ?_
  · refine Eq.trans (b := pm_g (mm x R Z Y o A c G g) 0 0 (pm_go call ns d 19 n 48 [some (pm_r 0 0), u1] [pm_a (R 0 0 2)] (mm x R Z Y o A c G g))) rfl ?_
    refine (g_ok (f := 0) (by decide) rfl).trans ?_
    exact (congrArg (fun z => pm_go call ns d 19 n 48 [some (pm_r 0 0), u1] [pm_a z] (mm x R Z Y o A c G g)) (rs_0_2 hR))
  refine pW_eq 1 (pc' := 51) (L' := [some (pm_r 0 0), u1]) (S' := [pm_r 6 0]) (M' := (mm x R Z Y o A c G g)) (fun call n => ?_) ?_
  · refine Eq.trans (b := pm_g (mm x R Z Y o A c G g) 3 0 (pm_go call ns d 19 n 51 [some (pm_r 0 0), u1] [pm_a (R 3 0 0)] (mm x R Z Y o A c G g))) rfl ?_
    refine (g_ok (f := 3) (by decide) rfl).trans ?_
    exact (congrArg (fun z => pm_go call ns d 19 n 51 [some (pm_r 0 0), u1] [pm_a z] (mm x R Z Y o A c G g)) (rs_3_0 hR))
  refine pW_eq 1 (pc' := 54) (L' := [some (pm_r 0 0), u1]) (S' := [pm_i (A 6 0 1)]) (M' := (mm x R Z Y o A c G g)) (fun call n => ?_) ?_
  · refine Eq.trans (b := pm_g (mm x R Z Y o A c G g) 6 0 (pm_go call ns d 19 n 54 [some (pm_r 0 0), u1] [pm_i (A 6 0 1)] (mm x R Z Y o A c G g))) rfl ?_
    refine (g_ok (f := 6) (by decide) rfl).trans ?_
    rfl
  refine pW_ret 1 (fun call n => ?_) k
  rfl
set_option maxRecDepth 20000 in
theorem b19_36 (hR : RS R) {u1 : Option pm_V}   (k : Q (.inl (some (pm_i (A 3 0 5))), (mm x R Z Y o A c G g))) : pW ns d 19 36 [some (pm_r 0 0), u1] [] (mm x R Z Y o A c G g) Q := by
  refine pW_eq 2 (pc' := 40) (L' := [some (pm_r 0 0), u1]) (S' := [pm_r 3 0]) (M' := (mm x R Z Y o A c G g)) (fun call n => ?_) ?_
  · refine Eq.trans (b := pm_g (mm x R Z Y o A c G g) 0 0 (pm_go call ns d 19 n 40 [some (pm_r 0 0), u1] [pm_a (R 0 0 2)] (mm x R Z Y o A c G g))) rfl ?_
    refine (g_ok (f := 0) (by decide) rfl).trans ?_
    exact (congrArg (fun z => pm_go call ns d 19 n 40 [some (pm_r 0 0), u1] [pm_a z] (mm x R Z Y o A c G g)) (rs_0_2 hR))
  refine pW_eq 1 (pc' := 43) (L' := [some (pm_r 0 0), u1]) (S' := [pm_i (A 3 0 5)]) (M' := (mm x R Z Y o A c G g)) (fun call n => ?_) ?_
  · refine Eq.trans (b := pm_g (mm x R Z Y o A c G g) 3 0 (pm_go call ns d 19 n 43 [some (pm_r 0 0), u1] [pm_i (A 3 0 5)] (mm x R Z Y o A c G g))) rfl ?_
    refine (g_ok (f := 3) (by decide) rfl).trans ?_
    rfl
  refine pW_ret 1 (fun call n => ?_) k
  rfl
set_option maxRecDepth 20000 in
theorem b19_76 (hR : RS R) {v1 : Int32}  {x2 : Nat} {o2 : Int64} {A2 : Nat → Nat → Nat → Int32} {c2 : Nat → Int64} {G2 : Nat → Nat → Int32} {g2 : Nat → Int64} {y : Int32} (hE : pE ns d 20 [pm_r 15 0, pm_i (A 3 0 6), pm_i v1] (mm x R Z Y o A c G g) (.inl (some (pm_i y)), (mm x2 R Z Y o2 A2 c2 G2 g2))) (k : pW ns d 19 94 [some (pm_r 0 0), some (pm_i v1)] [pm_i y] (mm x2 R Z Y o2 A2 c2 G2 g2) Q) : pW ns d 19 76 [some (pm_r 0 0), some (pm_i v1)] [] (mm x R Z Y o A c G g) Q := by
  refine pW_eq 2 (pc' := 80) (L' := [some (pm_r 0 0), some (pm_i v1)]) (S' := [pm_r 3 0]) (M' := (mm x R Z Y o A c G g)) (fun call n => ?_) ?_
  · refine Eq.trans (b := pm_g (mm x R Z Y o A c G g) 0 0 (pm_go call ns d 19 n 80 [some (pm_r 0 0), some (pm_i v1)] [pm_a (R 0 0 2)] (mm x R Z Y o A c G g))) rfl ?_
    refine (g_ok (f := 0) (by decide) rfl).trans ?_
    exact (congrArg (fun z => pm_go call ns d 19 n 80 [some (pm_r 0 0), some (pm_i v1)] [pm_a z] (mm x R Z Y o A c G g)) (rs_0_2 hR))
  refine pW_eq 1 (pc' := 83) (L' := [some (pm_r 0 0), some (pm_i v1)]) (S' := [pm_r 15 0]) (M' := (mm x R Z Y o A c G g)) (fun call n => ?_) ?_
  · refine Eq.trans (b := pm_g (mm x R Z Y o A c G g) 3 0 (pm_go call ns d 19 n 83 [some (pm_r 0 0), some (pm_i v1)] [pm_a (R 3 0 2)] (mm x R Z Y o A c G g))) rfl ?_
    refine (g_ok (f := 3) (by decide) rfl).trans ?_
    exact (congrArg (fun z => pm_go call ns d 19 n 83 [some (pm_r 0 0), some (pm_i v1)] [pm_a z] (mm x R Z Y o A c G g)) (rs_3_2 hR))
  refine pW_eq 2 (pc' := 87) (L' := [some (pm_r 0 0), some (pm_i v1)]) (S' := [pm_r 3 0, pm_r 15 0]) (M' := (mm x R Z Y o A c G g)) (fun call n => ?_) ?_
  · refine Eq.trans (b := pm_g (mm x R Z Y o A c G g) 0 0 (pm_go call ns d 19 n 87 [some (pm_r 0 0), some (pm_i v1)] [pm_a (R 0 0 2), pm_r 15 0] (mm x R Z Y o A c G g))) rfl ?_
    refine (g_ok (f := 0) (by decide) rfl).trans ?_
    exact (congrArg (fun z => pm_go call ns d 19 n 87 [some (pm_r 0 0), some (pm_i v1)] [pm_a z, pm_r 15 0] (mm x R Z Y o A c G g)) (rs_0_2 hR))
  refine pW_eq 1 (pc' := 90) (L' := [some (pm_r 0 0), some (pm_i v1)]) (S' := [pm_i (A 3 0 6), pm_r 15 0]) (M' := (mm x R Z Y o A c G g)) (fun call n => ?_) ?_
  · refine Eq.trans (b := pm_g (mm x R Z Y o A c G g) 3 0 (pm_go call ns d 19 n 90 [some (pm_r 0 0), some (pm_i v1)] [pm_i (A 3 0 6), pm_r 15 0] (mm x R Z Y o A c G g))) rfl ?_
    refine (g_ok (f := 3) (by decide) rfl).trans ?_
    rfl
  refine pW_call (pc' := 91) (r := []) (L' := [some (pm_r 0 0), some (pm_i v1)]) 2 (fun call n => ?_) hE k
  rfl
set_option maxRecDepth 20000 in
theorem b19_75 (hR : RS R) {u0 : Option pm_V} {u1 : Option pm_V} {vs0 : Int32}   (k : Q (.inl (some (pm_i vs0)), (mm x R Z Y o A c G g))) : pW ns d 19 75 [u0, u1] [pm_i vs0] (mm x R Z Y o A c G g) Q := by
  refine pW_ret 1 (fun call n => ?_) k
  rfl
set_option maxRecDepth 20000 in
theorem b19_94 (hR : RS R) {u0 : Option pm_V} {u1 : Option pm_V} {vs0 : Int32}   (k : Q (.inl (some (pm_i vs0)), (mm x R Z Y o A c G g))) : pW ns d 19 94 [u0, u1] [pm_i vs0] (mm x R Z Y o A c G g) Q := by
  refine pW_ret 1 (fun call n => ?_) k
  rfl
end BLK
