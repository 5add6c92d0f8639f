/-! @70.wp@ blocks, printed by program (wip/whole/gen/blk.py) -/
section BLK
variable {ns d x : Nat} {R : Nat → Nat → Nat → Option (Nat × Nat)} {Z A : Nat → Nat → Nat → Int32} {Y : Nat → Nat → Nat → Int64} {o : Int64} {c g : Nat → Int64} {G : Nat → Nat → Int32} {Q : pm_O × pm_M → Prop}
/-! 73 JobLayerModel.answer -/
set_option maxRecDepth 20000 in
theorem b73_0 (hR : RS R) {v1 : Int32} {v2 : Int32} {u3 : Option pm_V}  {x2 : Nat} {o2 : Int64} {A2 : Nat → Nat → Nat → Int32} {c2 : Nat → Int64} {G2 : Nat → Nat → Int32} {g2 : Nat → Int64} {y : Int32} (hE : pE ns d 71 [pm_r 20 0, pm_i v1] (mm x R Z Y o A c G g) (.inl (some (pm_i y)), (mm x2 R Z Y o2 A2 c2 G2 g2))) (k : pW ns d 73 5 [some (pm_r 20 0), some (pm_i v1), some (pm_i v2), u3] [pm_i y] (mm x2 R Z Y o2 A2 c2 G2 g2) Q) : pW ns d 73 0 [some (pm_r 20 0), some (pm_i v1), some (pm_i v2), u3] [] (mm x R Z Y o A c G g) Q := by
  refine pW_call (pc' := 2) (r := []) (L' := [some (pm_r 20 0), some (pm_i v1), some (pm_i v2), u3]) 3 (fun call n => ?_) hE k
  exact Eq.trans (b := pm_g (mm x R Z Y o A c G g) 20 0 (pm_cl call 73 (pm_go call ns d 73 n) 2 71 [pm_r 20 0, pm_i v1] [] [some (pm_r 20 0), some (pm_i v1), some (pm_i v2), u3] (mm x R Z Y o A c G g))) rfl (g_ok (f := 20) (by decide) rfl)
set_option maxRecDepth 20000 in
theorem b73_5 (hR : RS R) {v1 : Int32} {v2 : Int32} {u3 : Option pm_V} {vs0 : Int32}   (k1 : v2 = 0 → pW ns d 73 16 [some (pm_r 20 0), some (pm_i v1), some (pm_i v2), some (pm_i vs0)] [] (mm x R Z Y o A c G g) Q) (k2 : ¬ (v2 = 0) → pW ns d 73 10 [some (pm_r 20 0), some (pm_i v1), some (pm_i v2), some (pm_i vs0)] [] (mm x R Z Y o A c G g) Q) : pW ns d 73 5 [some (pm_r 20 0), some (pm_i v1), some (pm_i v2), u3] [pm_i vs0] (mm x R Z Y o A c G g) Q := by
  exact pW_if 3 (c := v2 = 0) (fun call n => rfl) k1 k2
set_option maxRecDepth 20000 in
theorem b73_16 (hR : RS R) {v1 : Int32} {u2 : Option pm_V} {v3 : Int32} {j1 : Nat} (e1 : v1 = nI j1) (l1 : j1 < 8)  (k1 : v3 = -nI 6 → pW ns d 73 29 [some (pm_r 20 0), some (pm_i v1), u2, some (pm_i v3)] [] (mm x R Z Y o A c (pm_v G 34 j1 (nI 0)) g) Q) (k2 : ¬ (v3 = -nI 6) → pW ns d 73 35 [some (pm_r 20 0), some (pm_i v1), u2, some (pm_i v3)] [] (mm x R Z Y o A c (pm_v G 34 j1 (nI 0)) g) Q) : pW ns d 73 16 [some (pm_r 20 0), some (pm_i v1), u2, some (pm_i v3)] [] (mm x R Z Y o A c G g) Q := by
  refine pW_eq 2 (pc' := 20) (L' := [some (pm_r 20 0), some (pm_i v1), u2, some (pm_i v3)]) (S' := [pm_r 34 0]) (M' := (mm x R Z Y o A c G g)) (fun call n => ?_) ?_
  · refine Eq.trans (b := pm_g (mm x R Z Y o A c G g) 20 0 (pm_go call ns d 73 n 20 [some (pm_r 20 0), some (pm_i v1), u2, some (pm_i v3)] [pm_a (R 20 0 14)] (mm x R Z Y o A c G g))) rfl ?_
    refine (g_ok (f := 20) (by decide) rfl).trans ?_
    exact (congrArg (fun z => pm_go call ns d 73 n 20 [some (pm_r 20 0), some (pm_i v1), u2, some (pm_i v3)] [pm_a z] (mm x R Z Y o A c G g)) (rs_20_14 hR))
  refine pW_eq 3 (pc' := 23) (L' := [some (pm_r 20 0), some (pm_i v1), u2, some (pm_i v3)]) (S' := []) (M' := (mm x R Z Y o A c (pm_v G 34 j1 (nI 0)) g)) (fun call n => ?_) ?_
  · refine Eq.trans (b := pm_g (mm x R Z Y o A c G g) 34 0 (pm_ix (v1) 8 (fun jx => pm_go call ns d 73 n 23 [some (pm_r 20 0), some (pm_i v1), u2, some (pm_i v3)] [] (pm_u (mA Z A G) 34 0 jx (nI 0), mB Y o c g, R, pm_tot, x)))) rfl ?_
    refine (g_ok (f := 34) (by decide) rfl).trans ?_
    refine (ix_ok (j := j1) e1 l1 (by decide)).trans ?_
    exact (congrArg (fun z => pm_go call ns d 73 n 23 [some (pm_r 20 0), some (pm_i v1), u2, some (pm_i v3)] [] (z, mB Y o c g, R, pm_tot, x)) (uG (by decide)))
  exact pW_if 3 (c := v3 = -nI 6) (fun call n => rfl) k1 k2
set_option maxRecDepth 20000 in
theorem b73_10 (hR : RS R) {v1 : Int32} {u2 : Option pm_V} {v3 : Int32}  {x2 : Nat} {o2 : Int64} {A2 : Nat → Nat → Nat → Int32} {c2 : Nat → Int64} {G2 : Nat → Nat → Int32} {g2 : Nat → Int64}  (hE : pE ns d 55 [pm_r 20 0, pm_i v1, pm_i v3] (mm x R Z Y o A c G g) (.inl (none), (mm x2 R Z Y o2 A2 c2 G2 g2))) (k : pW ns d 73 16 [some (pm_r 20 0), some (pm_i v1), u2, some (pm_i v3)] [] (mm x2 R Z Y o2 A2 c2 G2 g2) Q) : pW ns d 73 10 [some (pm_r 20 0), some (pm_i v1), u2, some (pm_i v3)] [] (mm x R Z Y o A c G g) Q := by
  refine pW_call (pc' := 13) (r := []) (L' := [some (pm_r 20 0), some (pm_i v1), u2, some (pm_i v3)]) 4 (fun call n => ?_) hE k
  exact Eq.trans (b := pm_g (mm x R Z Y o A c G g) 20 0 (pm_cl call 73 (pm_go call ns d 73 n) 13 55 [pm_r 20 0, pm_i v1, pm_i v3] [] [some (pm_r 20 0), some (pm_i v1), u2, some (pm_i v3)] (mm x R Z Y o A c G g))) rfl (g_ok (f := 20) (by decide) rfl)
set_option maxRecDepth 20000 in
theorem b73_29 (hR : RS R) {v1 : Int32} {u2 : Option pm_V} {v3 : Int32}  {x2 : Nat} {o2 : Int64} {A2 : Nat → Nat → Nat → Int32} {c2 : Nat → Int64} {G2 : Nat → Nat → Int32} {g2 : Nat → Int64}  (hE : pE ns d 62 [pm_r 20 0, pm_i v1, pm_i (nI 2)] (mm x R Z Y o A c G g) (.inl (none), (mm x2 R Z Y o2 A2 c2 G2 g2))) (k : pW ns d 73 35 [some (pm_r 20 0), some (pm_i v1), u2, some (pm_i v3)] [] (mm x2 R Z Y o2 A2 c2 G2 g2) Q) : pW ns d 73 29 [some (pm_r 20 0), some (pm_i v1), u2, some (pm_i v3)] [] (mm x R Z Y o A c G g) Q := by
  refine pW_call (pc' := 32) (r := []) (L' := [some (pm_r 20 0), some (pm_i v1), u2, some (pm_i v3)]) 4 (fun call n => ?_) hE k
  exact Eq.trans (b := pm_g (mm x R Z Y o A c G g) 20 0 (pm_cl call 73 (pm_go call ns d 73 n) 32 62 [pm_r 20 0, pm_i v1, pm_i (nI 2)] [] [some (pm_r 20 0), some (pm_i v1), u2, some (pm_i v3)] (mm x R Z Y o A c G g))) rfl (g_ok (f := 20) (by decide) rfl)
set_option maxRecDepth 20000 in
theorem b73_35 (hR : RS R) {u0 : Option pm_V} {u1 : Option pm_V} {u2 : Option pm_V} {v3 : Int32}   (k : Q (.inl (some (pm_i v3)), (mm x R Z Y o A c G g))) : pW ns d 73 35 [u0, u1, u2, some (pm_i v3)] [] (mm x R Z Y o A c G g) Q := by
  refine pW_ret 2 (fun call n => ?_) k
  rfl
set_option maxRecDepth 20000 in
theorem t73_5 (hR : RS R) {v1 : Int32} {v2 : Int32} {u3 : Option pm_V} {vs0 : Int32}  (k1 : (v2 = 0) → pW ns d 73 16 [some (pm_r 20 0), some (pm_i v1), some (pm_i v2), some (pm_i vs0)] [] (mm x R Z Y o A c G g) Q) (k2 : (¬ (v2 = 0)) → pW ns d 73 10 [some (pm_r 20 0), some (pm_i v1), some (pm_i v2), some (pm_i vs0)] [] (mm x R Z Y o A c G g) Q) : pW ns d 73 5 [some (pm_r 20 0), some (pm_i v1), some (pm_i v2), u3] [pm_i vs0] (mm x R Z Y o A c G g) Q := by
  refine b73_5 hR  (fun h1 => ?_) (fun h1 => ?_)
  · skip
    exact (k1 h1)
  · skip
    exact (k2 h1)
set_option maxRecDepth 20000 in
theorem t73_16 (hR : RS R) {v1 : Int32} {u2 : Option pm_V} {v3 : Int32} {j1 : Nat} (e1 : v1 = nI j1) (l1 : j1 < 8) (k1 : (v3 = -nI 6) → pW ns d 73 29 [some (pm_r 20 0), some (pm_i v1), u2, some (pm_i v3)] [] (mm x R Z Y o A c (pm_v G 34 j1 (nI 0)) g) Q) (k2 : (¬ (v3 = -nI 6)) → Q (.inl (some (pm_i v3)), (mm x R Z Y o A c (pm_v G 34 j1 (nI 0)) g))) : pW ns d 73 16 [some (pm_r 20 0), some (pm_i v1), u2, some (pm_i v3)] [] (mm x R Z Y o A c G g) Q := by
  refine b73_16 hR e1 l1 (fun h1 => ?_) (fun h1 => ?_)
  · skip
    exact (k1 h1)
  · skip
    exact b73_35 hR   (k2 h1)
/-! 74 JobLayerModel.begin -/
set_option maxRecDepth 20000 in
theorem b74_0 (hR : RS R) {v1 : Int32} {v2 : Int32} {u3 : Option pm_V} {j1 : Nat} (e1 : v1 = nI j1) (l1 : j1 < 8) {x2 : Nat} {o2 : Int64} {A2 : Nat → Nat → Nat → Int32} {c2 : Nat → Int64} {G2 : Nat → Nat → Int32} {g2 : Nat → Int64} {y : Int32} (hE : pE ns d 66 [pm_r 20 0, pm_i v1] (mm x R Z Y o A c (pm_v G 34 j1 v2) g) (.inl (some (pm_i y)), (mm x2 R Z Y o2 A2 c2 G2 g2))) (k : pW ns d 74 15 [some (pm_r 20 0), some (pm_i v1), some (pm_i v2), some (pm_i (-nI 9))] [pm_i y] (mm x2 R Z Y o2 A2 c2 G2 g2) Q) : pW ns d 74 0 [some (pm_r 20 0), some (pm_i v1), some (pm_i v2), u3] [] (mm x R Z Y o A c G g) Q := by
  refine pW_eq 2 (pc' := 4) (L' := [some (pm_r 20 0), some (pm_i v1), some (pm_i v2), u3]) (S' := [pm_r 34 0]) (M' := (mm x R Z Y o A c G g)) (fun call n => ?_) ?_
  · refine Eq.trans (b := pm_g (mm x R Z Y o A c G g) 20 0 (pm_go call ns d 74 n 4 [some (pm_r 20 0), some (pm_i v1), some (pm_i v2), u3] [pm_a (R 20 0 14)] (mm x R Z Y o A c G g))) rfl ?_
    refine (g_ok (f := 20) (by decide) rfl).trans ?_
    exact (congrArg (fun z => pm_go call ns d 74 n 4 [some (pm_r 20 0), some (pm_i v1), some (pm_i v2), u3] [pm_a z] (mm x R Z Y o A c G g)) (rs_20_14 hR))
  refine pW_eq 3 (pc' := 7) (L' := [some (pm_r 20 0), some (pm_i v1), some (pm_i v2), u3]) (S' := []) (M' := (mm x R Z Y o A c (pm_v G 34 j1 v2) g)) (fun call n => ?_) ?_
  · refine Eq.trans (b := pm_g (mm x R Z Y o A c G g) 34 0 (pm_ix (v1) 8 (fun jx => pm_go call ns d 74 n 7 [some (pm_r 20 0), some (pm_i v1), some (pm_i v2), u3] [] (pm_u (mA Z A G) 34 0 jx v2, mB Y o c g, R, pm_tot, x)))) rfl ?_
    refine (g_ok (f := 34) (by decide) rfl).trans ?_
    refine (ix_ok (j := j1) e1 l1 (by decide)).trans ?_
    exact (congrArg (fun z => pm_go call ns d 74 n 7 [some (pm_r 20 0), some (pm_i v1), some (pm_i v2), u3] [] (z, mB Y o c g, R, pm_tot, x)) (uG (by decide)))
  refine pW_call (pc' := 12) (r := []) (L' := [some (pm_r 20 0), some (pm_i v1), some (pm_i v2), some (pm_i (-nI 9))]) 5 (fun call n => ?_) hE k
  exact Eq.trans (b := pm_g (mm x R Z Y o A c (pm_v G 34 j1 v2) g) 20 0 (pm_cl call 74 (pm_go call ns d 74 n) 12 66 [pm_r 20 0, pm_i v1] [] [some (pm_r 20 0), some (pm_i v1), some (pm_i v2), some (pm_i (-nI 9))] (mm x R Z Y o A c (pm_v G 34 j1 v2) g))) rfl (g_ok (f := 20) (by decide) rfl)
set_option maxRecDepth 20000 in
theorem b74_15 (hR : RS R) {v1 : Int32} {v2 : Int32} {v3 : Int32} {vs0 : Int32}   (k1 : vs0 = nI 1 → pW ns d 74 19 [some (pm_r 20 0), some (pm_i v1), some (pm_i v2), some (pm_i v3)] [] (mm x R Z Y o A c G g) Q) (k2 : ¬ (vs0 = nI 1) → pW ns d 74 29 [some (pm_r 20 0), some (pm_i v1), some (pm_i v2), some (pm_i v3)] [] (mm x R Z Y o A c G g) Q) : pW ns d 74 15 [some (pm_r 20 0), some (pm_i v1), some (pm_i v2), some (pm_i v3)] [pm_i vs0] (mm x R Z Y o A c G g) Q := by
  exact pW_if 2 (c := vs0 = nI 1) (fun call n => rfl) k1 k2
set_option maxRecDepth 20000 in
theorem b74_19 (hR : RS R) {v1 : Int32} {v2 : Int32} {u3 : Option pm_V}  {x2 : Nat} {o2 : Int64} {A2 : Nat → Nat → Nat → Int32} {c2 : Nat → Int64} {G2 : Nat → Nat → Int32} {g2 : Nat → Int64} {y : Int32} (hE : pE ns d 73 [pm_r 20 0, pm_i v1, pm_i (nI 0)] (mm x R Z Y o A c G g) (.inl (some (pm_i y)), (mm x2 R Z Y o2 A2 c2 G2 g2))) (k : pW ns d 74 25 [some (pm_r 20 0), some (pm_i v1), some (pm_i v2), u3] [pm_i y] (mm x2 R Z Y o2 A2 c2 G2 g2) Q) : pW ns d 74 19 [some (pm_r 20 0), some (pm_i v1), some (pm_i v2), u3] [] (mm x R Z Y o A c G g) Q := by
  refine pW_call (pc' := 22) (r := []) (L' := [some (pm_r 20 0), some (pm_i v1), some (pm_i v2), u3]) 4 (fun call n => ?_) hE k
  exact Eq.trans (b := pm_g (mm x R Z Y o A c G g) 20 0 (pm_cl call 74 (pm_go call ns d 74 n) 22 73 [pm_r 20 0, pm_i v1, pm_i (nI 0)] [] [some (pm_r 20 0), some (pm_i v1), some (pm_i v2), u3] (mm x R Z Y o A c G g))) rfl (g_ok (f := 20) (by decide) rfl)
set_option maxRecDepth 20000 in
theorem b74_29 (hR : RS R) {v1 : Int32} {u2 : Option pm_V} {v3 : Int32} {j1 : Nat} (e1 : v1 = nI j1) (l1 : j1 < 8) {x2 : Nat} {o2 : Int64} {A2 : Nat → Nat → Nat → Int32} {c2 : Nat → Int64} {G2 : Nat → Nat → Int32} {g2 : Nat → Int64}  (hE : pE ns d 72 [pm_r 20 0] (mm x R Z Y o A c (pm_v (pm_v (pm_v (pm_v G 21 j1 (nI 2)) 26 j1 (-nI 9)) 39 j1 ((pm_v (pm_v G 21 j1 (nI 2)) 26 j1 (-nI 9)) 20 20)) 20 20 (((pm_v (pm_v (pm_v G 21 j1 (nI 2)) 26 j1 (-nI 9)) 39 j1 ((pm_v (pm_v G 21 j1 (nI 2)) 26 j1 (-nI 9)) 20 20)) 20 20) + (nI 1))) g) (.inl (none), (mm x2 R Z Y o2 A2 c2 G2 g2))) (k : pW ns d 74 68 [some (pm_r 20 0), some (pm_i v1), u2, some (pm_i v3)] [] (mm x2 R Z Y o2 A2 c2 G2 g2) Q) : pW ns d 74 29 [some (pm_r 20 0), some (pm_i v1), u2, some (pm_i v3)] [] (mm x R Z Y o A c G g) Q := by
  refine pW_eq 2 (pc' := 33) (L' := [some (pm_r 20 0), some (pm_i v1), u2, some (pm_i v3)]) (S' := [pm_r 21 0]) (M' := (mm x R Z Y o A c G g)) (fun call n => ?_) ?_
  · refine Eq.trans (b := pm_g (mm x R Z Y o A c G g) 20 0 (pm_go call ns d 74 n 33 [some (pm_r 20 0), some (pm_i v1), u2, some (pm_i v3)] [pm_a (R 20 0 1)] (mm x R Z Y o A c G g))) rfl ?_
    refine (g_ok (f := 20) (by decide) rfl).trans ?_
    exact (congrArg (fun z => pm_go call ns d 74 n 33 [some (pm_r 20 0), some (pm_i v1), u2, some (pm_i v3)] [pm_a z] (mm x R Z Y o A c G g)) (rs_20_1 hR))
  refine pW_eq 3 (pc' := 36) (L' := [some (pm_r 20 0), some (pm_i v1), u2, some (pm_i v3)]) (S' := []) (M' := (mm x R Z Y o A c (pm_v G 21 j1 (nI 2)) g)) (fun call n => ?_) ?_
  · refine Eq.trans (b := pm_g (mm x R Z Y o A c G g) 21 0 (pm_ix (v1) 8 (fun jx => pm_go call ns d 74 n 36 [some (pm_r 20 0), some (pm_i v1), u2, some (pm_i v3)] [] (pm_u (mA Z A G) 21 0 jx (nI 2), mB Y o c g, R, pm_tot, x)))) rfl ?_
    refine (g_ok (f := 21) (by decide) rfl).trans ?_
    refine (ix_ok (j := j1) e1 l1 (by decide)).trans ?_
    exact (congrArg (fun z => pm_go call ns d 74 n 36 [some (pm_r 20 0), some (pm_i v1), u2, some (pm_i v3)] [] (z, mB Y o c g, R, pm_tot, x)) (uG (by decide)))
  refine pW_eq 2 (pc' := 40) (L' := [some (pm_r 20 0), some (pm_i v1), u2, some (pm_i v3)]) (S' := [pm_r 26 0]) (M' := (mm x R Z Y o A c (pm_v G 21 j1 (nI 2)) g)) (fun call n => ?_) ?_
  · refine Eq.trans (b := pm_g (mm x R Z Y o A c (pm_v G 21 j1 (nI 2)) g) 20 0 (pm_go call ns d 74 n 40 [some (pm_r 20 0), some (pm_i v1), u2, some (pm_i v3)] [pm_a (R 20 0 6)] (mm x R Z Y o A c (pm_v G 21 j1 (nI 2)) g))) rfl ?_
    refine (g_ok (f := 20) (by decide) rfl).trans ?_
    exact (congrArg (fun z => pm_go call ns d 74 n 40 [some (pm_r 20 0), some (pm_i v1), u2, some (pm_i v3)] [pm_a z] (mm x R Z Y o A c (pm_v G 21 j1 (nI 2)) g)) (rs_20_6 hR))
  refine pW_eq 3 (pc' := 44) (L' := [some (pm_r 20 0), some (pm_i v1), u2, some (pm_i v3)]) (S' := []) (M' := (mm x R Z Y o A c (pm_v (pm_v G 21 j1 (nI 2)) 26 j1 (-nI 9)) g)) (fun call n => ?_) ?_
  · refine Eq.trans (b := pm_g (mm x R Z Y o A c (pm_v G 21 j1 (nI 2)) g) 26 0 (pm_ix (v1) 8 (fun jx => pm_go call ns d 74 n 44 [some (pm_r 20 0), some (pm_i v1), u2, some (pm_i v3)] [] (pm_u (mA Z A (pm_v G 21 j1 (nI 2))) 26 0 jx (-nI 9), mB Y o c g, R, pm_tot, x)))) rfl ?_
    refine (g_ok (f := 26) (by decide) rfl).trans ?_
    refine (ix_ok (j := j1) e1 l1 (by decide)).trans ?_
    exact (congrArg (fun z => pm_go call ns d 74 n 44 [some (pm_r 20 0), some (pm_i v1), u2, some (pm_i v3)] [] (z, mB Y o c g, R, pm_tot, x)) (uG (by decide)))
  refine pW_eq 2 (pc' := 48) (L' := [some (pm_r 20 0), some (pm_i v1), u2, some (pm_i v3)]) (S' := [pm_r 39 0]) (M' := (mm x R Z Y o A c (pm_v (pm_v G 21 j1 (nI 2)) 26 j1 (-nI 9)) g)) (fun call n => ?_) ?_
  · refine Eq.trans (b := pm_g (mm x R Z Y o A c (pm_v (pm_v G 21 j1 (nI 2)) 26 j1 (-nI 9)) g) 20 0 (pm_go call ns d 74 n 48 [some (pm_r 20 0), some (pm_i v1), u2, some (pm_i v3)] [pm_a (R 20 0 19)] (mm x R Z Y o A c (pm_v (pm_v G 21 j1 (nI 2)) 26 j1 (-nI 9)) g))) rfl ?_
    refine (g_ok (f := 20) (by decide) rfl).trans ?_
    exact (congrArg (fun z => pm_go call ns d 74 n 48 [some (pm_r 20 0), some (pm_i v1), u2, some (pm_i v3)] [pm_a z] (mm x R Z Y o A c (pm_v (pm_v G 21 j1 (nI 2)) 26 j1 (-nI 9)) g)) (rs_20_19 hR))
  refine pW_eq 3 (pc' := 53) (L' := [some (pm_r 20 0), some (pm_i v1), u2, some (pm_i v3)]) (S' := [pm_i ((pm_v (pm_v G 21 j1 (nI 2)) 26 j1 (-nI 9)) 20 20), pm_i v1, pm_r 39 0]) (M' := (mm x R Z Y o A c (pm_v (pm_v G 21 j1 (nI 2)) 26 j1 (-nI 9)) g)) (fun call n => ?_) ?_
  · refine Eq.trans (b := pm_g (mm x R Z Y o A c (pm_v (pm_v G 21 j1 (nI 2)) 26 j1 (-nI 9)) g) 20 0 (pm_go call ns d 74 n 53 [some (pm_r 20 0), some (pm_i v1), u2, some (pm_i v3)] [pm_i ((pm_v (pm_v G 21 j1 (nI 2)) 26 j1 (-nI 9)) 20 20), pm_i v1, pm_r 39 0] (mm x R Z Y o A c (pm_v (pm_v G 21 j1 (nI 2)) 26 j1 (-nI 9)) g))) rfl ?_
    refine (g_ok (f := 20) (by decide) rfl).trans ?_
    rfl
  refine pW_eq 1 (pc' := 54) (L' := [some (pm_r 20 0), some (pm_i v1), u2, some (pm_i v3)]) (S' := []) (M' := (mm x R Z Y o A c (pm_v (pm_v (pm_v G 21 j1 (nI 2)) 26 j1 (-nI 9)) 39 j1 ((pm_v (pm_v G 21 j1 (nI 2)) 26 j1 (-nI 9)) 20 20)) g)) (fun call n => ?_) ?_
  · refine Eq.trans (b := pm_g (mm x R Z Y o A c (pm_v (pm_v G 21 j1 (nI 2)) 26 j1 (-nI 9)) g) 39 0 (pm_ix (v1) 8 (fun jx => pm_go call ns d 74 n 54 [some (pm_r 20 0), some (pm_i v1), u2, some (pm_i v3)] [] (pm_u (mA Z A (pm_v (pm_v G 21 j1 (nI 2)) 26 j1 (-nI 9))) 39 0 jx ((pm_v (pm_v G 21 j1 (nI 2)) 26 j1 (-nI 9)) 20 20), mB Y o c g, R, pm_tot, x)))) rfl ?_
    refine (g_ok (f := 39) (by decide) rfl).trans ?_
    refine (ix_ok (j := j1) e1 l1 (by decide)).trans ?_
    exact (congrArg (fun z => pm_go call ns d 74 n 54 [some (pm_r 20 0), some (pm_i v1), u2, some (pm_i v3)] [] (z, mB Y o c g, R, pm_tot, x)) (uG (by decide)))
  refine pW_eq 3 (pc' := 59) (L' := [some (pm_r 20 0), some (pm_i v1), u2, some (pm_i v3)]) (S' := [pm_i ((pm_v (pm_v (pm_v G 21 j1 (nI 2)) 26 j1 (-nI 9)) 39 j1 ((pm_v (pm_v G 21 j1 (nI 2)) 26 j1 (-nI 9)) 20 20)) 20 20), pm_r 20 0]) (M' := (mm x R Z Y o A c (pm_v (pm_v (pm_v G 21 j1 (nI 2)) 26 j1 (-nI 9)) 39 j1 ((pm_v (pm_v G 21 j1 (nI 2)) 26 j1 (-nI 9)) 20 20)) g)) (fun call n => ?_) ?_
  · refine Eq.trans (b := pm_g (mm x R Z Y o A c (pm_v (pm_v (pm_v G 21 j1 (nI 2)) 26 j1 (-nI 9)) 39 j1 ((pm_v (pm_v G 21 j1 (nI 2)) 26 j1 (-nI 9)) 20 20)) g) 20 0 (pm_go call ns d 74 n 59 [some (pm_r 20 0), some (pm_i v1), u2, some (pm_i v3)] [pm_i ((pm_v (pm_v (pm_v G 21 j1 (nI 2)) 26 j1 (-nI 9)) 39 j1 ((pm_v (pm_v G 21 j1 (nI 2)) 26 j1 (-nI 9)) 20 20)) 20 20), pm_r 20 0] (mm x R Z Y o A c (pm_v (pm_v (pm_v G 21 j1 (nI 2)) 26 j1 (-nI 9)) 39 j1 ((pm_v (pm_v G 21 j1 (nI 2)) 26 j1 (-nI 9)) 20 20)) g))) rfl ?_
    refine (g_ok (f := 20) (by decide) rfl).trans ?_
    rfl
  refine pW_eq 3 (pc' := 64) (L' := [some (pm_r 20 0), some (pm_i v1), u2, some (pm_i v3)]) (S' := []) (M' := (mm x R Z Y o A c (pm_v (pm_v (pm_v (pm_v G 21 j1 (nI 2)) 26 j1 (-nI 9)) 39 j1 ((pm_v (pm_v G 21 j1 (nI 2)) 26 j1 (-nI 9)) 20 20)) 20 20 (((pm_v (pm_v (pm_v G 21 j1 (nI 2)) 26 j1 (-nI 9)) 39 j1 ((pm_v (pm_v G 21 j1 (nI 2)) 26 j1 (-nI 9)) 20 20)) 20 20) + (nI 1))) g)) (fun call n => ?_) ?_
  · refine Eq.trans (b := pm_g (mm x R Z Y o A c (pm_v (pm_v (pm_v G 21 j1 (nI 2)) 26 j1 (-nI 9)) 39 j1 ((pm_v (pm_v G 21 j1 (nI 2)) 26 j1 (-nI 9)) 20 20)) g) 20 0 (pm_go call ns d 74 n 64 [some (pm_r 20 0), some (pm_i v1), u2, some (pm_i v3)] [] (pm_u (mA Z A (pm_v (pm_v (pm_v G 21 j1 (nI 2)) 26 j1 (-nI 9)) 39 j1 ((pm_v (pm_v G 21 j1 (nI 2)) 26 j1 (-nI 9)) 20 20))) 20 0 20 (((pm_v (pm_v (pm_v G 21 j1 (nI 2)) 26 j1 (-nI 9)) 39 j1 ((pm_v (pm_v G 21 j1 (nI 2)) 26 j1 (-nI 9)) 20 20)) 20 20) + (nI 1)), mB Y o c g, R, pm_tot, x))) rfl ?_
    refine (g_ok (f := 20) (by decide) rfl).trans ?_
    exact (congrArg (fun z => pm_go call ns d 74 n 64 [some (pm_r 20 0), some (pm_i v1), u2, some (pm_i v3)] [] (z, mB Y o c g, R, pm_tot, x)) (uG (by decide)))
  refine pW_call (pc' := 65) (r := []) (L' := [some (pm_r 20 0), some (pm_i v1), u2, some (pm_i v3)]) 2 (fun call n => ?_) hE k
  exact Eq.trans (b := pm_g (mm x R Z Y o A c (pm_v (pm_v (pm_v (pm_v G 21 j1 (nI 2)) 26 j1 (-nI 9)) 39 j1 ((pm_v (pm_v G 21 j1 (nI 2)) 26 j1 (-nI 9)) 20 20)) 20 20 (((pm_v (pm_v (pm_v G 21 j1 (nI 2)) 26 j1 (-nI 9)) 39 j1 ((pm_v (pm_v G 21 j1 (nI 2)) 26 j1 (-nI 9)) 20 20)) 20 20) + (nI 1))) g) 20 0 (pm_cl call 74 (pm_go call ns d 74 n) 65 72 [pm_r 20 0] [] [some (pm_r 20 0), some (pm_i v1), u2, some (pm_i v3)] (mm x R Z Y o A c (pm_v (pm_v (pm_v (pm_v G 21 j1 (nI 2)) 26 j1 (-nI 9)) 39 j1 ((pm_v (pm_v G 21 j1 (nI 2)) 26 j1 (-nI 9)) 20 20)) 20 20 (((pm_v (pm_v (pm_v G 21 j1 (nI 2)) 26 j1 (-nI 9)) 39 j1 ((pm_v (pm_v G 21 j1 (nI 2)) 26 j1 (-nI 9)) 20 20)) 20 20) + (nI 1))) g))) rfl (g_ok (f := 20) (by decide) rfl)
set_option maxRecDepth 20000 in
theorem b74_25 (hR : RS R) {u1 : Option pm_V} {v2 : Int32} {u3 : Option pm_V} {vs0 : Int32}  {x2 : Nat} {o2 : Int64} {A2 : Nat → Nat → Nat → Int32} {c2 : Nat → Int64} {G2 : Nat → Nat → Int32} {g2 : Nat → Int64}  (hE : pE ns d 72 [pm_r 20 0] (mm x R Z Y o A c G g) (.inl (none), (mm x2 R Z Y o2 A2 c2 G2 g2))) (k : pW ns d 74 68 [some (pm_r 20 0), u1, some (pm_i v2), some (pm_i vs0)] [] (mm x2 R Z Y o2 A2 c2 G2 g2) Q) : pW ns d 74 25 [some (pm_r 20 0), u1, some (pm_i v2), u3] [pm_i vs0] (mm x R Z Y o A c G g) Q := by
  refine pW_call (pc' := 65) (r := []) (L' := [some (pm_r 20 0), u1, some (pm_i v2), some (pm_i vs0)]) 4 (fun call n => ?_) hE k
  exact Eq.trans (b := pm_g (mm x R Z Y o A c G g) 20 0 (pm_cl call 74 (pm_go call ns d 74 n) 65 72 [pm_r 20 0] [] [some (pm_r 20 0), u1, some (pm_i v2), some (pm_i vs0)] (mm x R Z Y o A c G g))) rfl (g_ok (f := 20) (by decide) rfl)
set_option maxRecDepth 20000 in
theorem b74_68 (hR : RS R) {u0 : Option pm_V} {u1 : Option pm_V} {u2 : Option pm_V} {v3 : Int32}   (k : Q (.inl (some (pm_i v3)), (mm x R Z Y o A c G g))) : pW ns d 74 68 [u0, u1, u2, some (pm_i v3)] [] (mm x R Z Y o A c G g) Q := by
  refine pW_ret 2 (fun call n => ?_) k
  rfl
set_option maxRecDepth 20000 in
theorem t74_15 (hR : RS R) {v1 : Int32} {v2 : Int32} {v3 : Int32} {vs0 : Int32}  (k1 : (vs0 = nI 1) → pW ns d 74 19 [some (pm_r 20 0), some (pm_i v1), some (pm_i v2), some (pm_i v3)] [] (mm x R Z Y o A c G g) Q) (k2 : (¬ (vs0 = nI 1)) → pW ns d 74 29 [some (pm_r 20 0), some (pm_i v1), some (pm_i v2), some (pm_i v3)] [] (mm x R Z Y o A c G g) Q) : pW ns d 74 15 [some (pm_r 20 0), some (pm_i v1), some (pm_i v2), some (pm_i v3)] [pm_i vs0] (mm x R Z Y o A c G g) Q := by
  refine b74_15 hR  (fun h1 => ?_) (fun h1 => ?_)
  · skip
    exact (k1 h1)
  · skip
    exact (k2 h1)
/-! 75 JobLayerModel.isLine -/
set_option maxRecDepth 20000 in
theorem b75_0 (hR : RS R) {v1 : Int32}   (k1 : v1 = nI 10 → pW ns d 75 6 [some (pm_r 20 0), some (pm_i v1)] [] (mm x R Z Y o A c G g) Q) (k2 : ¬ (v1 = nI 10) → pW ns d 75 32 [some (pm_r 20 0), some (pm_i v1)] [] (mm x R Z Y o A c G g) Q) : pW ns d 75 0 [some (pm_r 20 0), some (pm_i v1)] [] (mm x R Z Y o A c G g) Q := by
  exact pW_if 3 (c := v1 = nI 10) (fun call n => rfl) k1 k2
set_option maxRecDepth 20000 in
theorem b75_6 (hR : RS R) {u1 : Option pm_V}   (k1 : nI 8 ≤ G 20 26 → pW ns d 75 28 [some (pm_r 20 0), u1] [] (mm x R Z Y o A c G g) Q) (k2 : ¬ (nI 8 ≤ G 20 26) → pW ns d 75 15 [some (pm_r 20 0), u1] [] (mm x R Z Y o A c G g) Q) : pW ns d 75 6 [some (pm_r 20 0), u1] [] (mm x R Z Y o A c G g) Q := by
  refine pW_eq 2 (pc' := 10) (L' := [some (pm_r 20 0), u1]) (S' := [pm_i (G 20 26)]) (M' := (mm x R Z Y o A c G g)) (fun call n => ?_) ?_
  · refine Eq.trans (b := pm_g (mm x R Z Y o A c G g) 20 0 (pm_go call ns d 75 n 10 [some (pm_r 20 0), u1] [pm_i (G 20 26)] (mm x R Z Y o A c G g))) rfl ?_
    refine (g_ok (f := 20) (by decide) rfl).trans ?_
    rfl
  exact pW_if 2 (c := nI 8 ≤ G 20 26) (fun call n => rfl) k1 k2
set_option maxRecDepth 20000 in
theorem b75_32 (hR : RS R) {u1 : Option pm_V}   (k1 : nI 8 ≤ G 20 26 → pW ns d 75 45 [some (pm_r 20 0), u1] [] (mm x R Z Y o A c G g) Q) (k2 : ¬ (nI 8 ≤ G 20 26) → pW ns d 75 41 [some (pm_r 20 0), u1] [] (mm x R Z Y o A c G g) Q) : pW ns d 75 32 [some (pm_r 20 0), u1] [] (mm x R Z Y o A c G g) Q := by
  refine pW_eq 2 (pc' := 36) (L' := [some (pm_r 20 0), u1]) (S' := [pm_i (G 20 26)]) (M' := (mm x R Z Y o A c G g)) (fun call n => ?_) ?_
  · refine Eq.trans (b := pm_g (mm x R Z Y o A c G g) 20 0 (pm_go call ns d 75 n 36 [some (pm_r 20 0), u1] [pm_i (G 20 26)] (mm x R Z Y o A c G g))) rfl ?_
    refine (g_ok (f := 20) (by decide) rfl).trans ?_
    rfl
  exact pW_if 2 (c := nI 8 ≤ G 20 26) (fun call n => rfl) k1 k2
set_option maxRecDepth 20000 in
theorem b75_28 (hR : RS R) {u0 : Option pm_V} {u1 : Option pm_V}   (k : Q (.inl (some (pm_i (nI 0))), (mm x R Z Y o A c G g))) : pW ns d 75 28 [u0, u1] [] (mm x R Z Y o A c G g) Q := by
  refine pW_ret 3 (fun call n => ?_) k
  exact Eq.trans (b := pm_bo (nI 0) (some (.inl (some (pm_i (nI 0))), (mm x R Z Y o A c G g)))) rfl (bo_ok (by decide))
set_option maxRecDepth 20000 in
theorem b75_15 (hR : RS R) {u1 : Option pm_V}  {x2 : Nat} {o2 : Int64} {A2 : Nat → Nat → Nat → Int32} {c2 : Nat → Int64} {G2 : Nat → Nat → Int32} {g2 : Nat → Int64} {y : Int32} (hE : pE ns d 76 [pm_r 20 0] (mm x R Z Y o A c G g) (.inl (some (pm_i y)), (mm x2 R Z Y o2 A2 c2 G2 g2))) (k : pW ns d 75 19 [some (pm_r 20 0), u1] [pm_i y] (mm x2 R Z Y o2 A2 c2 G2 g2) Q) : pW ns d 75 15 [some (pm_r 20 0), u1] [] (mm x R Z Y o A c G g) Q := by
  refine pW_call (pc' := 16) (r := []) (L' := [some (pm_r 20 0), u1]) 2 (fun call n => ?_) hE k
  exact Eq.trans (b := pm_g (mm x R Z Y o A c G g) 20 0 (pm_cl call 75 (pm_go call ns d 75 n) 16 76 [pm_r 20 0] [] [some (pm_r 20 0), u1] (mm x R Z Y o A c G g))) rfl (g_ok (f := 20) (by decide) rfl)
set_option maxRecDepth 20000 in
theorem b75_45 (hR : RS R) {u0 : Option pm_V} {u1 : Option pm_V}   (k : Q (.inl (some (pm_i (nI 0))), (mm x R Z Y o A c G g))) : pW ns d 75 45 [u0, u1] [] (mm x R Z Y o A c G g) Q := by
  refine pW_ret 2 (fun call n => ?_) k
  exact Eq.trans (b := pm_bo (nI 0) (some (.inl (some (pm_i (nI 0))), (mm x R Z Y o A c G g)))) rfl (bo_ok (by decide))
set_option maxRecDepth 20000 in
theorem b75_41 (hR : RS R) {u0 : Option pm_V} {u1 : Option pm_V}   (k : Q (.inl (some (pm_i (nI 1))), (mm x R Z Y o A c G g))) : pW ns d 75 41 [u0, u1] [] (mm x R Z Y o A c G g) Q := by
  refine pW_ret 3 (fun call n => ?_) k
  exact Eq.trans (b := pm_bo (nI 1) (some (.inl (some (pm_i (nI 1))), (mm x R Z Y o A c G g)))) rfl (bo_ok (by decide))
set_option maxRecDepth 20000 in
theorem b75_19 (hR : RS R) {u0 : Option pm_V} {u1 : Option pm_V} {vs0 : Int32}   (k1 : nI 24 ≤ vs0 → pW ns d 75 28 [u0, u1] [] (mm x R Z Y o A c G g) Q) (k2 : ¬ (nI 24 ≤ vs0) → pW ns d 75 24 [u0, u1] [] (mm x R Z Y o A c G g) Q) : pW ns d 75 19 [u0, u1] [pm_i vs0] (mm x R Z Y o A c G g) Q := by
  exact pW_if 2 (c := nI 24 ≤ vs0) (fun call n => rfl) k1 k2
set_option maxRecDepth 20000 in
theorem b75_24 (hR : RS R) {u0 : Option pm_V} {u1 : Option pm_V}   (k : Q (.inl (some (pm_i (nI 1))), (mm x R Z Y o A c G g))) : pW ns d 75 24 [u0, u1] [] (mm x R Z Y o A c G g) Q := by
  refine pW_ret 3 (fun call n => ?_) k
  exact Eq.trans (b := pm_bo (nI 1) (some (.inl (some (pm_i (nI 1))), (mm x R Z Y o A c G g)))) rfl (bo_ok (by decide))
set_option maxRecDepth 20000 in
theorem t75_0 (hR : RS R) {v1 : Int32}  (k1 : (v1 = nI 10) → (nI 8 ≤ G 20 26) → Q (.inl (some (pm_i (nI 0))), (mm x R Z Y o A c G g))) (k2 : (v1 = nI 10) → (¬ (nI 8 ≤ G 20 26)) → pW ns d 75 15 [some (pm_r 20 0), some (pm_i v1)] [] (mm x R Z Y o A c G g) Q) (k3 : (¬ (v1 = nI 10)) → (nI 8 ≤ G 20 26) → Q (.inl (some (pm_i (nI 0))), (mm x R Z Y o A c G g))) (k4 : (¬ (v1 = nI 10)) → (¬ (nI 8 ≤ G 20 26)) → Q (.inl (some (pm_i (nI 1))), (mm x R Z Y o A c G g))) : pW ns d 75 0 [some (pm_r 20 0), some (pm_i v1)] [] (mm x R Z Y o A c G g) Q := by
  refine b75_0 hR  (fun h1 => ?_) (fun h1 => ?_)
  · skip
    refine b75_6 hR   (fun h2 => ?_) (fun h2 => ?_)
    · skip
      exact b75_28 hR   (k1 h1 h2)
    · skip
      exact (k2 h1 h2)
  · skip
    refine b75_32 hR   (fun h2 => ?_) (fun h2 => ?_)
    · skip
      exact b75_45 hR   (k3 h1 h2)
    · skip
      exact b75_41 hR   (k4 h1 h2)
set_option maxRecDepth 20000 in
theorem t75_6 (hR : RS R) {u1 : Option pm_V}  (k1 : (nI 8 ≤ G 20 26) → Q (.inl (some (pm_i (nI 0))), (mm x R Z Y o A c G g))) (k2 : (¬ (nI 8 ≤ G 20 26)) → pW ns d 75 15 [some (pm_r 20 0), u1] [] (mm x R Z Y o A c G g) Q) : pW ns d 75 6 [some (pm_r 20 0), u1] [] (mm x R Z Y o A c G g) Q := by
  refine b75_6 hR  (fun h1 => ?_) (fun h1 => ?_)
  · skip
    exact b75_28 hR   (k1 h1)
  · skip
    exact (k2 h1)
set_option maxRecDepth 20000 in
theorem t75_32 (hR : RS R) {u1 : Option pm_V}  (k1 : (nI 8 ≤ G 20 26) → Q (.inl (some (pm_i (nI 0))), (mm x R Z Y o A c G g))) (k2 : (¬ (nI 8 ≤ G 20 26)) → Q (.inl (some (pm_i (nI 1))), (mm x R Z Y o A c G g))) : pW ns d 75 32 [some (pm_r 20 0), u1] [] (mm x R Z Y o A c G g) Q := by
  refine b75_32 hR  (fun h1 => ?_) (fun h1 => ?_)
  · skip
    exact b75_45 hR   (k1 h1)
  · skip
    exact b75_41 hR   (k2 h1)
set_option maxRecDepth 20000 in
theorem t75_19 (hR : RS R) {u0 : Option pm_V} {u1 : Option pm_V} {vs0 : Int32}  (k1 : (nI 24 ≤ vs0) → Q (.inl (some (pm_i (nI 0))), (mm x R Z Y o A c G g))) (k2 : (¬ (nI 24 ≤ vs0)) → Q (.inl (some (pm_i (nI 1))), (mm x R Z Y o A c G g))) : pW ns d 75 19 [u0, u1] [pm_i vs0] (mm x R Z Y o A c G g) Q := by
  refine b75_19 hR  (fun h1 => ?_) (fun h1 => ?_)
  · skip
    exact b75_28 hR   (k1 h1)
  · skip
    exact b75_24 hR   (k2 h1)
/-! 76 JobLayerModel.used -/
set_option maxRecDepth 20000 in
theorem b76_0 (hR : RS R) {u1 : Option pm_V} {u2 : Option pm_V}   (k : pW ns d 76 7 [some (pm_r 20 0), some (pm_i (G 20 27)), some (pm_i (nI 0))] [] (mm x R Z Y o A c G g) Q) : pW ns d 76 0 [some (pm_r 20 0), u1, u2] [] (mm x R Z Y o A c G g) Q := by
  refine pW_eq 2 (pc' := 4) (L' := [some (pm_r 20 0), u1, u2]) (S' := [pm_i (G 20 27)]) (M' := (mm x R Z Y o A c G g)) (fun call n => ?_) ?_
  · refine Eq.trans (b := pm_g (mm x R Z Y o A c G g) 20 0 (pm_go call ns d 76 n 4 [some (pm_r 20 0), u1, u2] [pm_i (G 20 27)] (mm x R Z Y o A c G g))) rfl ?_
    refine (g_ok (f := 20) (by decide) rfl).trans ?_
    rfl
  exact pW_eq 3 (fun call n => rfl) k
set_option maxRecDepth 20000 in
theorem b76_7 (hR : RS R) {v1 : Int32} {v2 : Int32}   (k1 : G 20 26 ≤ v2 → pW ns d 76 30 [some (pm_r 20 0), some (pm_i v1), some (pm_i v2)] [] (mm x R Z Y o A c G g) Q) (k2 : ¬ (G 20 26 ≤ v2) → pW ns d 76 15 [some (pm_r 20 0), some (pm_i v1), some (pm_i v2)] [] (mm x R Z Y o A c G g) Q) : pW ns d 76 7 [some (pm_r 20 0), some (pm_i v1), some (pm_i v2)] [] (mm x R Z Y o A c G g) Q := by
  refine pW_eq 3 (pc' := 12) (L' := [some (pm_r 20 0), some (pm_i v1), some (pm_i v2)]) (S' := [pm_i (G 20 26), pm_i v2]) (M' := (mm x R Z Y o A c G g)) (fun call n => ?_) ?_
  · refine Eq.trans (b := pm_g (mm x R Z Y o A c G g) 20 0 (pm_go call ns d 76 n 12 [some (pm_r 20 0), some (pm_i v1), some (pm_i v2)] [pm_i (G 20 26), pm_i v2] (mm x R Z Y o A c G g))) rfl ?_
    refine (g_ok (f := 20) (by decide) rfl).trans ?_
    rfl
  exact pW_if 1 (c := G 20 26 ≤ v2) (fun call n => rfl) k1 k2
set_option maxRecDepth 20000 in
theorem b76_30 (hR : RS R) {u0 : Option pm_V} {v1 : Int32} {u2 : Option pm_V}   (k : Q (.inl (some (pm_i v1)), (mm x R Z Y o A c G g))) : pW ns d 76 30 [u0, some (pm_i v1), u2] [] (mm x R Z Y o A c G g) Q := by
  refine pW_ret 2 (fun call n => ?_) k
  rfl
set_option maxRecDepth 20000 in
theorem b76_15 (hR : RS R) {v1 : Int32} {v2 : Int32} {j1 : Nat} (e1 : v2 = nI j1) (l1 : j1 < 8)  (k : pW ns d 76 7 [some (pm_r 20 0), some (pm_i (v1 + (G 45 j1))), some (pm_i (v2 + (nI 1)))] [] (mm x R Z Y o A c G g) Q) : pW ns d 76 15 [some (pm_r 20 0), some (pm_i v1), some (pm_i v2)] [] (mm x R Z Y o A c G g) Q := by
  refine pW_eq 3 (pc' := 20) (L' := [some (pm_r 20 0), some (pm_i v1), some (pm_i v2)]) (S' := [pm_r 45 0, pm_i v1]) (M' := (mm x R Z Y o A c G g)) (fun call n => ?_) ?_
  · refine Eq.trans (b := pm_g (mm x R Z Y o A c G g) 20 0 (pm_go call ns d 76 n 20 [some (pm_r 20 0), some (pm_i v1), some (pm_i v2)] [pm_a (R 20 0 30), pm_i v1] (mm x R Z Y o A c G g))) rfl ?_
    refine (g_ok (f := 20) (by decide) rfl).trans ?_
    exact (congrArg (fun z => pm_go call ns d 76 n 20 [some (pm_r 20 0), some (pm_i v1), some (pm_i v2)] [pm_a z, pm_i v1] (mm x R Z Y o A c G g)) (rs_20_30 hR))
  refine pW_eq 2 (pc' := 22) (L' := [some (pm_r 20 0), some (pm_i v1), some (pm_i v2)]) (S' := [pm_i (G 45 j1), pm_i v1]) (M' := (mm x R Z Y o A c G g)) (fun call n => ?_) ?_
  · refine Eq.trans (b := pm_g (mm x R Z Y o A c G g) 45 0 (pm_ix (v2) 8 (fun jx => pm_go call ns d 76 n 22 [some (pm_r 20 0), some (pm_i v1), some (pm_i v2)] [pm_i (G 45 jx), pm_i v1] (mm x R Z Y o A c G g)))) rfl ?_
    refine (g_ok (f := 45) (by decide) rfl).trans ?_
    refine (ix_ok (j := j1) e1 l1 (by decide)).trans ?_
    rfl
  exact pW_eq 4 (fun call n => rfl) k
set_option maxRecDepth 20000 in
theorem t76_7 (hR : RS R) {v1 : Int32} {v2 : Int32}  (k1 : (G 20 26 ≤ v2) → Q (.inl (some (pm_i v1)), (mm x R Z Y o A c G g))) (k2 : (¬ (G 20 26 ≤ v2)) → pW ns d 76 15 [some (pm_r 20 0), some (pm_i v1), some (pm_i v2)] [] (mm x R Z Y o A c G g) Q) : pW ns d 76 7 [some (pm_r 20 0), some (pm_i v1), some (pm_i v2)] [] (mm x R Z Y o A c G g) Q := by
  refine b76_7 hR  (fun h1 => ?_) (fun h1 => ?_)
  · skip
    exact b76_30 hR   (k1 h1)
  · skip
    exact (k2 h1)
/-! 77 JobLayerModel.put -/
set_option maxRecDepth 20000 in
theorem b77_0 (hR : RS R) {v1 : Int32}  {x2 : Nat} {o2 : Int64} {A2 : Nat → Nat → Nat → Int32} {c2 : Nat → Int64} {G2 : Nat → Nat → Int32} {g2 : Nat → Int64} {y : Int32} (hE : pE ns d 76 [pm_r 20 0] (mm x R Z Y o A c G g) (.inl (some (pm_i y)), (mm x2 R Z Y o2 A2 c2 G2 g2))) (k : pW ns d 77 4 [some (pm_r 20 0), some (pm_i v1)] [pm_i y] (mm x2 R Z Y o2 A2 c2 G2 g2) Q) : pW ns d 77 0 [some (pm_r 20 0), some (pm_i v1)] [] (mm x R Z Y o A c G g) Q := by
  refine pW_call (pc' := 1) (r := []) (L' := [some (pm_r 20 0), some (pm_i v1)]) 2 (fun call n => ?_) hE k
  exact Eq.trans (b := pm_g (mm x R Z Y o A c G g) 20 0 (pm_cl call 77 (pm_go call ns d 77 n) 1 76 [pm_r 20 0] [] [some (pm_r 20 0), some (pm_i v1)] (mm x R Z Y o A c G g))) rfl (g_ok (f := 20) (by decide) rfl)
set_option maxRecDepth 20000 in
theorem b77_4 (hR : RS R) {v1 : Int32} {vs0 : Int32}   (k1 : vs0 = nI 24 → pW ns d 77 9 [some (pm_r 20 0), some (pm_i v1)] [] (mm x R Z Y o A c G g) Q) (k2 : ¬ (vs0 = nI 24) → pW ns d 77 10 [some (pm_r 20 0), some (pm_i v1)] [] (mm x R Z Y o A c G g) Q) : pW ns d 77 4 [some (pm_r 20 0), some (pm_i v1)] [pm_i vs0] (mm x R Z Y o A c G g) Q := by
  exact pW_if 2 (c := vs0 = nI 24) (fun call n => rfl) k1 k2
set_option maxRecDepth 20000 in
theorem b77_9 (hR : RS R) {u0 : Option pm_V} {u1 : Option pm_V}   (k : Q (.inl none, (mm x R Z Y o A c G g))) : pW ns d 77 9 [u0, u1] [] (mm x R Z Y o A c G g) Q := by
  refine pW_ret 1 (fun call n => ?_) k
  rfl
set_option maxRecDepth 20000 in
theorem b77_10 (hR : RS R) {v1 : Int32}  {x2 : Nat} {o2 : Int64} {A2 : Nat → Nat → Nat → Int32} {c2 : Nat → Int64} {G2 : Nat → Nat → Int32} {g2 : Nat → Int64} {y : Int32} (hE : pE ns d 76 [pm_r 20 0] (mm x R Z Y o A c G g) (.inl (some (pm_i y)), (mm x2 R Z Y o2 A2 c2 G2 g2))) (k : pW ns d 77 18 [some (pm_r 20 0), some (pm_i v1)] [pm_i y, pm_r 44 0] (mm x2 R Z Y o2 A2 c2 G2 g2) Q) : pW ns d 77 10 [some (pm_r 20 0), some (pm_i v1)] [] (mm x R Z Y o A c G g) Q := by
  refine pW_eq 2 (pc' := 14) (L' := [some (pm_r 20 0), some (pm_i v1)]) (S' := [pm_r 44 0]) (M' := (mm x R Z Y o A c G g)) (fun call n => ?_) ?_
  · refine Eq.trans (b := pm_g (mm x R Z Y o A c G g) 20 0 (pm_go call ns d 77 n 14 [some (pm_r 20 0), some (pm_i v1)] [pm_a (R 20 0 29)] (mm x R Z Y o A c G g))) rfl ?_
    refine (g_ok (f := 20) (by decide) rfl).trans ?_
    exact (congrArg (fun z => pm_go call ns d 77 n 14 [some (pm_r 20 0), some (pm_i v1)] [pm_a z] (mm x R Z Y o A c G g)) (rs_20_29 hR))
  refine pW_call (pc' := 15) (r := [pm_r 44 0]) (L' := [some (pm_r 20 0), some (pm_i v1)]) 2 (fun call n => ?_) hE k
  exact Eq.trans (b := pm_g (mm x R Z Y o A c G g) 20 0 (pm_cl call 77 (pm_go call ns d 77 n) 15 76 [pm_r 20 0] [pm_r 44 0] [some (pm_r 20 0), some (pm_i v1)] (mm x R Z Y o A c G g))) rfl (g_ok (f := 20) (by decide) rfl)
set_option maxRecDepth 20000 in
theorem b77_18 (hR : RS R) {v1 : Int32} {vs0 : Int32} {j1 : Nat} (e1 : vs0 = nI j1) (l1 : j1 < 24)  (k : Q (.inl none, (mm x R Z Y o A c (pm_v (pm_v G 44 j1 v1) 20 27 (((pm_v G 44 j1 v1) 20 27) + (nI 1))) g))) : pW ns d 77 18 [some (pm_r 20 0), some (pm_i v1)] [pm_i vs0, pm_r 44 0] (mm x R Z Y o A c G g) Q := by
  refine pW_eq 2 (pc' := 20) (L' := [some (pm_r 20 0), some (pm_i v1)]) (S' := []) (M' := (mm x R Z Y o A c (pm_v G 44 j1 v1) g)) (fun call n => ?_) ?_
  · refine Eq.trans (b := pm_g (mm x R Z Y o A c G g) 44 0 (pm_ix (vs0) 24 (fun jx => pm_go call ns d 77 n 20 [some (pm_r 20 0), some (pm_i v1)] [] (pm_u (mA Z A G) 44 0 jx v1, mB Y o c g, R, pm_tot, x)))) rfl ?_
    refine (g_ok (f := 44) (by decide) rfl).trans ?_
    refine (ix_ok (j := j1) e1 l1 (by decide)).trans ?_
    exact (congrArg (fun z => pm_go call ns d 77 n 20 [some (pm_r 20 0), some (pm_i v1)] [] (z, mB Y o c g, R, pm_tot, x)) (uG (by decide)))
  refine pW_eq 3 (pc' := 25) (L' := [some (pm_r 20 0), some (pm_i v1)]) (S' := [pm_i ((pm_v G 44 j1 v1) 20 27), pm_r 20 0]) (M' := (mm x R Z Y o A c (pm_v G 44 j1 v1) g)) (fun call n => ?_) ?_
  · refine Eq.trans (b := pm_g (mm x R Z Y o A c (pm_v G 44 j1 v1) g) 20 0 (pm_go call ns d 77 n 25 [some (pm_r 20 0), some (pm_i v1)] [pm_i ((pm_v G 44 j1 v1) 20 27), pm_r 20 0] (mm x R Z Y o A c (pm_v G 44 j1 v1) g))) rfl ?_
    refine (g_ok (f := 20) (by decide) rfl).trans ?_
    rfl
  refine pW_eq 3 (pc' := 30) (L' := [some (pm_r 20 0), some (pm_i v1)]) (S' := []) (M' := (mm x R Z Y o A c (pm_v (pm_v G 44 j1 v1) 20 27 (((pm_v G 44 j1 v1) 20 27) + (nI 1))) g)) (fun call n => ?_) ?_
  · refine Eq.trans (b := pm_g (mm x R Z Y o A c (pm_v G 44 j1 v1) g) 20 0 (pm_go call ns d 77 n 30 [some (pm_r 20 0), some (pm_i v1)] [] (pm_u (mA Z A (pm_v G 44 j1 v1)) 20 0 27 (((pm_v G 44 j1 v1) 20 27) + (nI 1)), mB Y o c g, R, pm_tot, x))) rfl ?_
    refine (g_ok (f := 20) (by decide) rfl).trans ?_
    exact (congrArg (fun z => pm_go call ns d 77 n 30 [some (pm_r 20 0), some (pm_i v1)] [] (z, mB Y o c g, R, pm_tot, x)) (uG (by decide)))
  refine pW_ret 1 (fun call n => ?_) k
  rfl
set_option maxRecDepth 20000 in
theorem t77_4 (hR : RS R) {v1 : Int32} {vs0 : Int32}  (k1 : (vs0 = nI 24) → Q (.inl none, (mm x R Z Y o A c G g))) (k2 : (¬ (vs0 = nI 24)) → pW ns d 77 10 [some (pm_r 20 0), some (pm_i v1)] [] (mm x R Z Y o A c G g) Q) : pW ns d 77 4 [some (pm_r 20 0), some (pm_i v1)] [pm_i vs0] (mm x R Z Y o A c G g) Q := by
  refine b77_4 hR  (fun h1 => ?_) (fun h1 => ?_)
  · skip
    exact b77_9 hR   (k1 h1)
  · skip
    exact (k2 h1)
/-! 78 JobLayerModel.lineDone -/
set_option maxRecDepth 20000 in
theorem b78_0 (hR : RS R) {j1 : Nat} (e1 : G 20 26 = nI j1) (l1 : j1 < 8)  (k : Q (.inl none, (mm x R Z Y o A c (pm_v (pm_v (pm_v G 45 j1 (G 20 27)) 20 26 (((pm_v G 45 j1 (G 20 27)) 20 26) + (nI 1))) 20 27 (nI 0)) g))) : pW ns d 78 0 [some (pm_r 20 0)] [] (mm x R Z Y o A c G g) Q := by
  refine pW_eq 2 (pc' := 4) (L' := [some (pm_r 20 0)]) (S' := [pm_r 45 0]) (M' := (mm x R Z Y o A c G g)) (fun call n => ?_) ?_
  · refine Eq.trans (b := pm_g (mm x R Z Y o A c G g) 20 0 (pm_go call ns d 78 n 4 [some (pm_r 20 0)] [pm_a (R 20 0 30)] (mm x R Z Y o A c G g))) rfl ?_
    refine (g_ok (f := 20) (by decide) rfl).trans ?_
    exact (congrArg (fun z => pm_go call ns d 78 n 4 [some (pm_r 20 0)] [pm_a z] (mm x R Z Y o A c G g)) (rs_20_30 hR))
  refine pW_eq 2 (pc' := 8) (L' := [some (pm_r 20 0)]) (S' := [pm_i (G 20 26), pm_r 45 0]) (M' := (mm x R Z Y o A c G g)) (fun call n => ?_) ?_
  · refine Eq.trans (b := pm_g (mm x R Z Y o A c G g) 20 0 (pm_go call ns d 78 n 8 [some (pm_r 20 0)] [pm_i (G 20 26), pm_r 45 0] (mm x R Z Y o A c G g))) rfl ?_
    refine (g_ok (f := 20) (by decide) rfl).trans ?_
    rfl
  refine pW_eq 2 (pc' := 12) (L' := [some (pm_r 20 0)]) (S' := [pm_i (G 20 27), pm_i (G 20 26), pm_r 45 0]) (M' := (mm x R Z Y o A c G g)) (fun call n => ?_) ?_
  · refine Eq.trans (b := pm_g (mm x R Z Y o A c G g) 20 0 (pm_go call ns d 78 n 12 [some (pm_r 20 0)] [pm_i (G 20 27), pm_i (G 20 26), pm_r 45 0] (mm x R Z Y o A c G g))) rfl ?_
    refine (g_ok (f := 20) (by decide) rfl).trans ?_
    rfl
  refine pW_eq 1 (pc' := 13) (L' := [some (pm_r 20 0)]) (S' := []) (M' := (mm x R Z Y o A c (pm_v G 45 j1 (G 20 27)) g)) (fun call n => ?_) ?_
  · refine Eq.trans (b := pm_g (mm x R Z Y o A c G g) 45 0 (pm_ix (G 20 26) 8 (fun jx => pm_go call ns d 78 n 13 [some (pm_r 20 0)] [] (pm_u (mA Z A G) 45 0 jx (G 20 27), mB Y o c g, R, pm_tot, x)))) rfl ?_
    refine (g_ok (f := 45) (by decide) rfl).trans ?_
    refine (ix_ok (j := j1) e1 l1 (by decide)).trans ?_
    exact (congrArg (fun z => pm_go call ns d 78 n 13 [some (pm_r 20 0)] [] (z, mB Y o c g, R, pm_tot, x)) (uG (by decide)))
  refine pW_eq 3 (pc' := 18) (L' := [some (pm_r 20 0)]) (S' := [pm_i ((pm_v G 45 j1 (G 20 27)) 20 26), pm_r 20 0]) (M' := (mm x R Z Y o A c (pm_v G 45 j1 (G 20 27)) g)) (fun call n => ?_) ?_
  · refine Eq.trans (b := pm_g (mm x R Z Y o A c (pm_v G 45 j1 (G 20 27)) g) 20 0 (pm_go call ns d 78 n 18 [some (pm_r 20 0)] [pm_i ((pm_v G 45 j1 (G 20 27)) 20 26), pm_r 20 0] (mm x R Z Y o A c (pm_v G 45 j1 (G 20 27)) g))) rfl ?_
    refine (g_ok (f := 20) (by decide) rfl).trans ?_
    rfl
  refine pW_eq 3 (pc' := 23) (L' := [some (pm_r 20 0)]) (S' := []) (M' := (mm x R Z Y o A c (pm_v (pm_v G 45 j1 (G 20 27)) 20 26 (((pm_v G 45 j1 (G 20 27)) 20 26) + (nI 1))) g)) (fun call n => ?_) ?_
  · refine Eq.trans (b := pm_g (mm x R Z Y o A c (pm_v G 45 j1 (G 20 27)) g) 20 0 (pm_go call ns d 78 n 23 [some (pm_r 20 0)] [] (pm_u (mA Z A (pm_v G 45 j1 (G 20 27))) 20 0 26 (((pm_v G 45 j1 (G 20 27)) 20 26) + (nI 1)), mB Y o c g, R, pm_tot, x))) rfl ?_
    refine (g_ok (f := 20) (by decide) rfl).trans ?_
    exact (congrArg (fun z => pm_go call ns d 78 n 23 [some (pm_r 20 0)] [] (z, mB Y o c g, R, pm_tot, x)) (uG (by decide)))
  refine pW_eq 3 (pc' := 28) (L' := [some (pm_r 20 0)]) (S' := []) (M' := (mm x R Z Y o A c (pm_v (pm_v (pm_v G 45 j1 (G 20 27)) 20 26 (((pm_v G 45 j1 (G 20 27)) 20 26) + (nI 1))) 20 27 (nI 0)) g)) (fun call n => ?_) ?_
  · refine Eq.trans (b := pm_g (mm x R Z Y o A c (pm_v (pm_v G 45 j1 (G 20 27)) 20 26 (((pm_v G 45 j1 (G 20 27)) 20 26) + (nI 1))) g) 20 0 (pm_go call ns d 78 n 28 [some (pm_r 20 0)] [] (pm_u (mA Z A (pm_v (pm_v G 45 j1 (G 20 27)) 20 26 (((pm_v G 45 j1 (G 20 27)) 20 26) + (nI 1)))) 20 0 27 (nI 0), mB Y o c g, R, pm_tot, x))) rfl ?_
    refine (g_ok (f := 20) (by decide) rfl).trans ?_
    exact (congrArg (fun z => pm_go call ns d 78 n 28 [some (pm_r 20 0)] [] (z, mB Y o c g, R, pm_tot, x)) (uG (by decide)))
  refine pW_ret 1 (fun call n => ?_) k
  rfl
/-! 79 JobLayerModel.key -/
set_option maxRecDepth 20000 in
theorem b79_0 (hR : RS R) {v1 : Int32}   (k1 : v1 = nI 3 → pW ns d 79 16 [some (pm_r 20 0), some (pm_i v1)] [] (mm x R Z Y o A c (pm_v G 20 0 (nI 0)) g) Q) (k2 : ¬ (v1 = nI 3) → pW ns d 79 10 [some (pm_r 20 0), some (pm_i v1)] [] (mm x R Z Y o A c (pm_v G 20 0 (nI 0)) g) Q) : pW ns d 79 0 [some (pm_r 20 0), some (pm_i v1)] [] (mm x R Z Y o A c G g) Q := by
  refine pW_eq 3 (pc' := 5) (L' := [some (pm_r 20 0), some (pm_i v1)]) (S' := []) (M' := (mm x R Z Y o A c (pm_v G 20 0 (nI 0)) g)) (fun call n => ?_) ?_
  · refine Eq.trans (b := pm_g (mm x R Z Y o A c G g) 20 0 (pm_go call ns d 79 n 5 [some (pm_r 20 0), some (pm_i v1)] [] (pm_u (mA Z A G) 20 0 0 (nI 0), mB Y o c g, R, pm_tot, x))) rfl ?_
    refine (g_ok (f := 20) (by decide) rfl).trans ?_
    exact (congrArg (fun z => pm_go call ns d 79 n 5 [some (pm_r 20 0), some (pm_i v1)] [] (z, mB Y o c g, R, pm_tot, x)) (uG (by decide)))
  exact pW_if 3 (c := v1 = nI 3) (fun call n => rfl) k1 k2
set_option maxRecDepth 20000 in
theorem b79_16 (hR : RS R) {v1 : Int32}   (k1 : v1 = nI 3 → pW ns d 79 36 [some (pm_r 20 0), some (pm_i v1)] [pm_i ((pm_v (pm_v G 20 26 (nI 0)) 20 27 (nI 0)) 20 25), pm_r 20 0] (mm x R Z Y o A c (pm_v (pm_v G 20 26 (nI 0)) 20 27 (nI 0)) g) Q) (k2 : ¬ (v1 = nI 3) → pW ns d 79 40 [some (pm_r 20 0), some (pm_i v1)] [pm_i ((pm_v (pm_v G 20 26 (nI 0)) 20 27 (nI 0)) 20 25), pm_r 20 0] (mm x R Z Y o A c (pm_v (pm_v G 20 26 (nI 0)) 20 27 (nI 0)) g) Q) : pW ns d 79 16 [some (pm_r 20 0), some (pm_i v1)] [] (mm x R Z Y o A c G g) Q := by
  refine pW_eq 3 (pc' := 21) (L' := [some (pm_r 20 0), some (pm_i v1)]) (S' := []) (M' := (mm x R Z Y o A c (pm_v G 20 26 (nI 0)) g)) (fun call n => ?_) ?_
  · refine Eq.trans (b := pm_g (mm x R Z Y o A c G g) 20 0 (pm_go call ns d 79 n 21 [some (pm_r 20 0), some (pm_i v1)] [] (pm_u (mA Z A G) 20 0 26 (nI 0), mB Y o c g, R, pm_tot, x))) rfl ?_
    refine (g_ok (f := 20) (by decide) rfl).trans ?_
    exact (congrArg (fun z => pm_go call ns d 79 n 21 [some (pm_r 20 0), some (pm_i v1)] [] (z, mB Y o c g, R, pm_tot, x)) (uG (by decide)))
  refine pW_eq 3 (pc' := 26) (L' := [some (pm_r 20 0), some (pm_i v1)]) (S' := []) (M' := (mm x R Z Y o A c (pm_v (pm_v G 20 26 (nI 0)) 20 27 (nI 0)) g)) (fun call n => ?_) ?_
  · refine Eq.trans (b := pm_g (mm x R Z Y o A c (pm_v G 20 26 (nI 0)) g) 20 0 (pm_go call ns d 79 n 26 [some (pm_r 20 0), some (pm_i v1)] [] (pm_u (mA Z A (pm_v G 20 26 (nI 0))) 20 0 27 (nI 0), mB Y o c g, R, pm_tot, x))) rfl ?_
    refine (g_ok (f := 20) (by decide) rfl).trans ?_
    exact (congrArg (fun z => pm_go call ns d 79 n 26 [some (pm_r 20 0), some (pm_i v1)] [] (z, mB Y o c g, R, pm_tot, x)) (uG (by decide)))
  refine pW_eq 3 (pc' := 31) (L' := [some (pm_r 20 0), some (pm_i v1)]) (S' := [pm_i ((pm_v (pm_v G 20 26 (nI 0)) 20 27 (nI 0)) 20 25), pm_r 20 0]) (M' := (mm x R Z Y o A c (pm_v (pm_v G 20 26 (nI 0)) 20 27 (nI 0)) g)) (fun call n => ?_) ?_
  · refine Eq.trans (b := pm_g (mm x R Z Y o A c (pm_v (pm_v G 20 26 (nI 0)) 20 27 (nI 0)) g) 20 0 (pm_go call ns d 79 n 31 [some (pm_r 20 0), some (pm_i v1)] [pm_i ((pm_v (pm_v G 20 26 (nI 0)) 20 27 (nI 0)) 20 25), pm_r 20 0] (mm x R Z Y o A c (pm_v (pm_v G 20 26 (nI 0)) 20 27 (nI 0)) g))) rfl ?_
    refine (g_ok (f := 20) (by decide) rfl).trans ?_
    rfl
  exact pW_if 3 (c := v1 = nI 3) (fun call n => rfl) k1 k2
set_option maxRecDepth 20000 in
theorem b79_10 (hR : RS R) {v1 : Int32}   (k1 : v1 = nI 26 → pW ns d 79 16 [some (pm_r 20 0), some (pm_i v1)] [] (mm x R Z Y o A c G g) Q) (k2 : ¬ (v1 = nI 26) → pW ns d 79 44 [some (pm_r 20 0), some (pm_i v1)] [] (mm x R Z Y o A c G g) Q) : pW ns d 79 10 [some (pm_r 20 0), some (pm_i v1)] [] (mm x R Z Y o A c G g) Q := by
  exact pW_if 3 (c := v1 = nI 26) (fun call n => rfl) k1 k2
set_option maxRecDepth 20000 in
theorem b79_36 (hR : RS R) {v1 : Int32} {vs0 : Int32}  {x2 : Nat} {o2 : Int64} {A2 : Nat → Nat → Nat → Int32} {c2 : Nat → Int64} {G2 : Nat → Nat → Int32} {g2 : Nat → Int64}  (hE : pE ns d 63 [pm_r 20 0, pm_i vs0, pm_i (nI 1)] (mm x R Z Y o A c G g) (.inl (none), (mm x2 R Z Y o2 A2 c2 G2 g2))) (k : pW ns d 79 44 [some (pm_r 20 0), some (pm_i v1)] [] (mm x2 R Z Y o2 A2 c2 G2 g2) Q) : pW ns d 79 36 [some (pm_r 20 0), some (pm_i v1)] [pm_i vs0, pm_r 20 0] (mm x R Z Y o A c G g) Q := by
  refine pW_call (pc' := 41) (r := []) (L' := [some (pm_r 20 0), some (pm_i v1)]) 3 (fun call n => ?_) hE k
  exact Eq.trans (b := pm_g (mm x R Z Y o A c G g) 20 0 (pm_cl call 79 (pm_go call ns d 79 n) 41 63 [pm_r 20 0, pm_i vs0, pm_i (nI 1)] [] [some (pm_r 20 0), some (pm_i v1)] (mm x R Z Y o A c G g))) rfl (g_ok (f := 20) (by decide) rfl)
set_option maxRecDepth 20000 in
theorem b79_40 (hR : RS R) {v1 : Int32} {vs0 : Int32}  {x2 : Nat} {o2 : Int64} {A2 : Nat → Nat → Nat → Int32} {c2 : Nat → Int64} {G2 : Nat → Nat → Int32} {g2 : Nat → Int64}  (hE : pE ns d 63 [pm_r 20 0, pm_i vs0, pm_i (nI 4)] (mm x R Z Y o A c G g) (.inl (none), (mm x2 R Z Y o2 A2 c2 G2 g2))) (k : pW ns d 79 44 [some (pm_r 20 0), some (pm_i v1)] [] (mm x2 R Z Y o2 A2 c2 G2 g2) Q) : pW ns d 79 40 [some (pm_r 20 0), some (pm_i v1)] [pm_i vs0, pm_r 20 0] (mm x R Z Y o A c G g) Q := by
  refine pW_call (pc' := 41) (r := []) (L' := [some (pm_r 20 0), some (pm_i v1)]) 2 (fun call n => ?_) hE k
  exact Eq.trans (b := pm_g (mm x R Z Y o A c G g) 20 0 (pm_cl call 79 (pm_go call ns d 79 n) 41 63 [pm_r 20 0, pm_i vs0, pm_i (nI 4)] [] [some (pm_r 20 0), some (pm_i v1)] (mm x R Z Y o A c G g))) rfl (g_ok (f := 20) (by decide) rfl)
set_option maxRecDepth 20000 in
theorem b79_44 (hR : RS R) {v1 : Int32}   (k1 : v1 = nI 8 → pW ns d 79 50 [some (pm_r 20 0), some (pm_i v1)] [] (mm x R Z Y o A c G g) Q) (k2 : ¬ (v1 = nI 8) → pW ns d 79 67 [some (pm_r 20 0), some (pm_i v1)] [] (mm x R Z Y o A c G g) Q) : pW ns d 79 44 [some (pm_r 20 0), some (pm_i v1)] [] (mm x R Z Y o A c G g) Q := by
  exact pW_if 3 (c := v1 = nI 8) (fun call n => rfl) k1 k2
set_option maxRecDepth 20000 in
theorem b79_50 (hR : RS R) {v1 : Int32}   (k1 : G 20 27 ≤ 0 → pW ns d 79 67 [some (pm_r 20 0), some (pm_i v1)] [] (mm x R Z Y o A c G g) Q) (k2 : ¬ (G 20 27 ≤ 0) → pW ns d 79 57 [some (pm_r 20 0), some (pm_i v1)] [] (mm x R Z Y o A c G g) Q) : pW ns d 79 50 [some (pm_r 20 0), some (pm_i v1)] [] (mm x R Z Y o A c G g) Q := by
  refine pW_eq 2 (pc' := 54) (L' := [some (pm_r 20 0), some (pm_i v1)]) (S' := [pm_i (G 20 27)]) (M' := (mm x R Z Y o A c G g)) (fun call n => ?_) ?_
  · refine Eq.trans (b := pm_g (mm x R Z Y o A c G g) 20 0 (pm_go call ns d 79 n 54 [some (pm_r 20 0), some (pm_i v1)] [pm_i (G 20 27)] (mm x R Z Y o A c G g))) rfl ?_
    refine (g_ok (f := 20) (by decide) rfl).trans ?_
    rfl
  exact pW_if 1 (c := G 20 27 ≤ 0) (fun call n => rfl) k1 k2
set_option maxRecDepth 20000 in
theorem b79_67 (hR : RS R) {v1 : Int32}   (k1 : v1 = nI 21 → pW ns d 79 73 [some (pm_r 20 0), some (pm_i v1)] [] (mm x R Z Y o A c G g) Q) (k2 : ¬ (v1 = nI 21) → pW ns d 79 78 [some (pm_r 20 0), some (pm_i v1)] [] (mm x R Z Y o A c G g) Q) : pW ns d 79 67 [some (pm_r 20 0), some (pm_i v1)] [] (mm x R Z Y o A c G g) Q := by
  exact pW_if 3 (c := v1 = nI 21) (fun call n => rfl) k1 k2
set_option maxRecDepth 20000 in
theorem b79_57 (hR : RS R) {v1 : Int32}   (k1 : v1 = nI 21 → pW ns d 79 73 [some (pm_r 20 0), some (pm_i v1)] [] (mm x R Z Y o A c (pm_v G 20 27 ((G 20 27) - (nI 1))) g) Q) (k2 : ¬ (v1 = nI 21) → pW ns d 79 78 [some (pm_r 20 0), some (pm_i v1)] [] (mm x R Z Y o A c (pm_v G 20 27 ((G 20 27) - (nI 1))) g) Q) : pW ns d 79 57 [some (pm_r 20 0), some (pm_i v1)] [] (mm x R Z Y o A c G g) Q := by
  refine pW_eq 3 (pc' := 62) (L' := [some (pm_r 20 0), some (pm_i v1)]) (S' := [pm_i (G 20 27), pm_r 20 0]) (M' := (mm x R Z Y o A c G g)) (fun call n => ?_) ?_
  · refine Eq.trans (b := pm_g (mm x R Z Y o A c G g) 20 0 (pm_go call ns d 79 n 62 [some (pm_r 20 0), some (pm_i v1)] [pm_i (G 20 27), pm_r 20 0] (mm x R Z Y o A c G g))) rfl ?_
    refine (g_ok (f := 20) (by decide) rfl).trans ?_
    rfl
  refine pW_eq 3 (pc' := 67) (L' := [some (pm_r 20 0), some (pm_i v1)]) (S' := []) (M' := (mm x R Z Y o A c (pm_v G 20 27 ((G 20 27) - (nI 1))) g)) (fun call n => ?_) ?_
  · refine Eq.trans (b := pm_g (mm x R Z Y o A c G g) 20 0 (pm_go call ns d 79 n 67 [some (pm_r 20 0), some (pm_i v1)] [] (pm_u (mA Z A G) 20 0 27 ((G 20 27) - (nI 1)), mB Y o c g, R, pm_tot, x))) rfl ?_
    refine (g_ok (f := 20) (by decide) rfl).trans ?_
    exact (congrArg (fun z => pm_go call ns d 79 n 67 [some (pm_r 20 0), some (pm_i v1)] [] (z, mB Y o c g, R, pm_tot, x)) (uG (by decide)))
  exact pW_if 3 (c := v1 = nI 21) (fun call n => rfl) k1 k2
set_option maxRecDepth 20000 in
theorem b79_73 (hR : RS R) {v1 : Int32}   (k1 : v1 = nI 10 → pW ns d 79 84 [some (pm_r 20 0), some (pm_i v1)] [] (mm x R Z Y o A c (pm_v G 20 27 (nI 0)) g) Q) (k2 : ¬ (v1 = nI 10) → pW ns d 79 101 [some (pm_r 20 0), some (pm_i v1)] [] (mm x R Z Y o A c (pm_v G 20 27 (nI 0)) g) Q) : pW ns d 79 73 [some (pm_r 20 0), some (pm_i v1)] [] (mm x R Z Y o A c G g) Q := by
  refine pW_eq 3 (pc' := 78) (L' := [some (pm_r 20 0), some (pm_i v1)]) (S' := []) (M' := (mm x R Z Y o A c (pm_v G 20 27 (nI 0)) g)) (fun call n => ?_) ?_
  · refine Eq.trans (b := pm_g (mm x R Z Y o A c G g) 20 0 (pm_go call ns d 79 n 78 [some (pm_r 20 0), some (pm_i v1)] [] (pm_u (mA Z A G) 20 0 27 (nI 0), mB Y o c g, R, pm_tot, x))) rfl ?_
    refine (g_ok (f := 20) (by decide) rfl).trans ?_
    exact (congrArg (fun z => pm_go call ns d 79 n 78 [some (pm_r 20 0), some (pm_i v1)] [] (z, mB Y o c g, R, pm_tot, x)) (uG (by decide)))
  exact pW_if 3 (c := v1 = nI 10) (fun call n => rfl) k1 k2
set_option maxRecDepth 20000 in
theorem b79_78 (hR : RS R) {v1 : Int32}   (k1 : v1 = nI 10 → pW ns d 79 84 [some (pm_r 20 0), some (pm_i v1)] [] (mm x R Z Y o A c G g) Q) (k2 : ¬ (v1 = nI 10) → pW ns d 79 101 [some (pm_r 20 0), some (pm_i v1)] [] (mm x R Z Y o A c G g) Q) : pW ns d 79 78 [some (pm_r 20 0), some (pm_i v1)] [] (mm x R Z Y o A c G g) Q := by
  exact pW_if 3 (c := v1 = nI 10) (fun call n => rfl) k1 k2
set_option maxRecDepth 20000 in
theorem b79_84 (hR : RS R) {v1 : Int32}  {x2 : Nat} {o2 : Int64} {A2 : Nat → Nat → Nat → Int32} {c2 : Nat → Int64} {G2 : Nat → Nat → Int32} {g2 : Nat → Int64} {y : Int32} (hE : pE ns d 75 [pm_r 20 0, pm_i v1] (mm x R Z Y o A c G g) (.inl (some (pm_i y)), (mm x2 R Z Y o2 A2 c2 G2 g2))) (k : pW ns d 79 89 [some (pm_r 20 0), some (pm_i v1)] [pm_i y] (mm x2 R Z Y o2 A2 c2 G2 g2) Q) : pW ns d 79 84 [some (pm_r 20 0), some (pm_i v1)] [] (mm x R Z Y o A c G g) Q := by
  refine pW_call (pc' := 86) (r := []) (L' := [some (pm_r 20 0), some (pm_i v1)]) 3 (fun call n => ?_) hE k
  exact Eq.trans (b := pm_g (mm x R Z Y o A c G g) 20 0 (pm_cl call 79 (pm_go call ns d 79 n) 86 75 [pm_r 20 0, pm_i v1] [] [some (pm_r 20 0), some (pm_i v1)] (mm x R Z Y o A c G g))) rfl (g_ok (f := 20) (by decide) rfl)
set_option maxRecDepth 20000 in
theorem b79_101 (hR : RS R) {v1 : Int32}   (k1 : v1 = nI 4 → pW ns d 79 106 [some (pm_r 20 0), some (pm_i v1)] [] (mm x R Z Y o A c G g) Q) (k2 : ¬ (v1 = nI 4) → pW ns d 79 118 [some (pm_r 20 0), some (pm_i v1)] [] (mm x R Z Y o A c G g) Q) : pW ns d 79 101 [some (pm_r 20 0), some (pm_i v1)] [] (mm x R Z Y o A c G g) Q := by
  exact pW_if 3 (c := v1 = nI 4) (fun call n => rfl) k1 k2
set_option maxRecDepth 20000 in
theorem b79_89 (hR : RS R) {v1 : Int32} {vs0 : Int32}   (k1 : vs0 = 0 → pW ns d 79 101 [some (pm_r 20 0), some (pm_i v1)] [] (mm x R Z Y o A c G g) Q) (k2 : ¬ (vs0 = 0) → pW ns d 79 92 [some (pm_r 20 0), some (pm_i v1)] [] (mm x R Z Y o A c G g) Q) : pW ns d 79 89 [some (pm_r 20 0), some (pm_i v1)] [pm_i vs0] (mm x R Z Y o A c G g) Q := by
  exact pW_if 1 (c := vs0 = 0) (fun call n => rfl) k1 k2
set_option maxRecDepth 20000 in
theorem b79_106 (hR : RS R) {v1 : Int32}  {x2 : Nat} {o2 : Int64} {A2 : Nat → Nat → Nat → Int32} {c2 : Nat → Int64} {G2 : Nat → Nat → Int32} {g2 : Nat → Int64} {y : Int32} (hE : pE ns d 75 [pm_r 20 0, pm_i v1] (mm x R Z Y o A c G g) (.inl (some (pm_i y)), (mm x2 R Z Y o2 A2 c2 G2 g2))) (k : pW ns d 79 111 [some (pm_r 20 0), some (pm_i v1)] [pm_i y] (mm x2 R Z Y o2 A2 c2 G2 g2) Q) : pW ns d 79 106 [some (pm_r 20 0), some (pm_i v1)] [] (mm x R Z Y o A c G g) Q := by
  refine pW_call (pc' := 108) (r := []) (L' := [some (pm_r 20 0), some (pm_i v1)]) 3 (fun call n => ?_) hE k
  exact Eq.trans (b := pm_g (mm x R Z Y o A c G g) 20 0 (pm_cl call 79 (pm_go call ns d 79 n) 108 75 [pm_r 20 0, pm_i v1] [] [some (pm_r 20 0), some (pm_i v1)] (mm x R Z Y o A c G g))) rfl (g_ok (f := 20) (by decide) rfl)
set_option maxRecDepth 20000 in
theorem b79_118 (hR : RS R) {v1 : Int32}   (k1 : v1 < nI 32 → pW ns d 79 135 [some (pm_r 20 0), some (pm_i v1)] [] (mm x R Z Y o A c G g) Q) (k2 : ¬ (v1 < nI 32) → pW ns d 79 124 [some (pm_r 20 0), some (pm_i v1)] [] (mm x R Z Y o A c G g) Q) : pW ns d 79 118 [some (pm_r 20 0), some (pm_i v1)] [] (mm x R Z Y o A c G g) Q := by
  exact pW_if 3 (c := v1 < nI 32) (fun call n => rfl) k1 k2
set_option maxRecDepth 20000 in
theorem b79_92 (hR : RS R) {v1 : Int32}  {x2 : Nat} {o2 : Int64} {A2 : Nat → Nat → Nat → Int32} {c2 : Nat → Int64} {G2 : Nat → Nat → Int32} {g2 : Nat → Int64}  (hE : pE ns d 77 [pm_r 20 0, pm_i v1] (mm x R Z Y o A c G g) (.inl (none), (mm x2 R Z Y o2 A2 c2 G2 g2))) (k : pW ns d 79 97 [some (pm_r 20 0), some (pm_i v1)] [] (mm x2 R Z Y o2 A2 c2 G2 g2) Q) : pW ns d 79 92 [some (pm_r 20 0), some (pm_i v1)] [] (mm x R Z Y o A c G g) Q := by
  refine pW_call (pc' := 94) (r := []) (L' := [some (pm_r 20 0), some (pm_i v1)]) 3 (fun call n => ?_) hE k
  exact Eq.trans (b := pm_g (mm x R Z Y o A c G g) 20 0 (pm_cl call 79 (pm_go call ns d 79 n) 94 77 [pm_r 20 0, pm_i v1] [] [some (pm_r 20 0), some (pm_i v1)] (mm x R Z Y o A c G g))) rfl (g_ok (f := 20) (by decide) rfl)
set_option maxRecDepth 20000 in
theorem b79_111 (hR : RS R) {v1 : Int32} {vs0 : Int32}   (k1 : vs0 = 0 → pW ns d 79 118 [some (pm_r 20 0), some (pm_i v1)] [] (mm x R Z Y o A c G g) Q) (k2 : ¬ (vs0 = 0) → pW ns d 79 114 [some (pm_r 20 0), some (pm_i v1)] [] (mm x R Z Y o A c G g) Q) : pW ns d 79 111 [some (pm_r 20 0), some (pm_i v1)] [pm_i vs0] (mm x R Z Y o A c G g) Q := by
  exact pW_if 1 (c := vs0 = 0) (fun call n => rfl) k1 k2
set_option maxRecDepth 20000 in
theorem b79_135 (hR : RS R) {u1 : Option pm_V}  {x2 : Nat} {o2 : Int64} {A2 : Nat → Nat → Nat → Int32} {c2 : Nat → Int64} {G2 : Nat → Nat → Int32} {g2 : Nat → Int64}  (hE : pE ns d 72 [pm_r 20 0] (mm x R Z Y o A c G g) (.inl (none), (mm x2 R Z Y o2 A2 c2 G2 g2))) (k : pW ns d 79 139 [some (pm_r 20 0), u1] [] (mm x2 R Z Y o2 A2 c2 G2 g2) Q) : pW ns d 79 135 [some (pm_r 20 0), u1] [] (mm x R Z Y o A c G g) Q := by
  refine pW_call (pc' := 136) (r := []) (L' := [some (pm_r 20 0), u1]) 2 (fun call n => ?_) hE k
  exact Eq.trans (b := pm_g (mm x R Z Y o A c G g) 20 0 (pm_cl call 79 (pm_go call ns d 79 n) 136 72 [pm_r 20 0] [] [some (pm_r 20 0), u1] (mm x R Z Y o A c G g))) rfl (g_ok (f := 20) (by decide) rfl)
set_option maxRecDepth 20000 in
theorem b79_124 (hR : RS R) {v1 : Int32}   (k1 : nI 126 < v1 → pW ns d 79 135 [some (pm_r 20 0), some (pm_i v1)] [] (mm x R Z Y o A c G g) Q) (k2 : ¬ (nI 126 < v1) → pW ns d 79 130 [some (pm_r 20 0), some (pm_i v1)] [] (mm x R Z Y o A c G g) Q) : pW ns d 79 124 [some (pm_r 20 0), some (pm_i v1)] [] (mm x R Z Y o A c G g) Q := by
  exact pW_if 3 (c := nI 126 < v1) (fun call n => rfl) k1 k2
set_option maxRecDepth 20000 in
theorem b79_97 (hR : RS R) {v1 : Int32}  {x2 : Nat} {o2 : Int64} {A2 : Nat → Nat → Nat → Int32} {c2 : Nat → Int64} {G2 : Nat → Nat → Int32} {g2 : Nat → Int64}  (hE : pE ns d 78 [pm_r 20 0] (mm x R Z Y o A c G g) (.inl (none), (mm x2 R Z Y o2 A2 c2 G2 g2))) (k : pW ns d 79 101 [some (pm_r 20 0), some (pm_i v1)] [] (mm x2 R Z Y o2 A2 c2 G2 g2) Q) : pW ns d 79 97 [some (pm_r 20 0), some (pm_i v1)] [] (mm x R Z Y o A c G g) Q := by
  refine pW_call (pc' := 98) (r := []) (L' := [some (pm_r 20 0), some (pm_i v1)]) 2 (fun call n => ?_) hE k
  exact Eq.trans (b := pm_g (mm x R Z Y o A c G g) 20 0 (pm_cl call 79 (pm_go call ns d 79 n) 98 78 [pm_r 20 0] [] [some (pm_r 20 0), some (pm_i v1)] (mm x R Z Y o A c G g))) rfl (g_ok (f := 20) (by decide) rfl)
set_option maxRecDepth 20000 in
theorem b79_114 (hR : RS R) {v1 : Int32}  {x2 : Nat} {o2 : Int64} {A2 : Nat → Nat → Nat → Int32} {c2 : Nat → Int64} {G2 : Nat → Nat → Int32} {g2 : Nat → Int64}  (hE : pE ns d 78 [pm_r 20 0] (mm x R Z Y o A c G g) (.inl (none), (mm x2 R Z Y o2 A2 c2 G2 g2))) (k : pW ns d 79 118 [some (pm_r 20 0), some (pm_i v1)] [] (mm x2 R Z Y o2 A2 c2 G2 g2) Q) : pW ns d 79 114 [some (pm_r 20 0), some (pm_i v1)] [] (mm x R Z Y o A c G g) Q := by
  refine pW_call (pc' := 115) (r := []) (L' := [some (pm_r 20 0), some (pm_i v1)]) 2 (fun call n => ?_) hE k
  exact Eq.trans (b := pm_g (mm x R Z Y o A c G g) 20 0 (pm_cl call 79 (pm_go call ns d 79 n) 115 78 [pm_r 20 0] [] [some (pm_r 20 0), some (pm_i v1)] (mm x R Z Y o A c G g))) rfl (g_ok (f := 20) (by decide) rfl)
set_option maxRecDepth 20000 in
theorem b79_139 (hR : RS R) {u0 : Option pm_V} {u1 : Option pm_V}   (k : Q (.inl none, (mm x R Z Y o A c G g))) : pW ns d 79 139 [u0, u1] [] (mm x R Z Y o A c G g) Q := by
  refine pW_ret 1 (fun call n => ?_) k
  rfl
set_option maxRecDepth 20000 in
theorem b79_130 (hR : RS R) {v1 : Int32}  {x2 : Nat} {o2 : Int64} {A2 : Nat → Nat → Nat → Int32} {c2 : Nat → Int64} {G2 : Nat → Nat → Int32} {g2 : Nat → Int64}  (hE : pE ns d 77 [pm_r 20 0, pm_i v1] (mm x R Z Y o A c G g) (.inl (none), (mm x2 R Z Y o2 A2 c2 G2 g2))) (k : pW ns d 79 135 [some (pm_r 20 0), some (pm_i v1)] [] (mm x2 R Z Y o2 A2 c2 G2 g2) Q) : pW ns d 79 130 [some (pm_r 20 0), some (pm_i v1)] [] (mm x R Z Y o A c G g) Q := by
  refine pW_call (pc' := 132) (r := []) (L' := [some (pm_r 20 0), some (pm_i v1)]) 3 (fun call n => ?_) hE k
  exact Eq.trans (b := pm_g (mm x R Z Y o A c G g) 20 0 (pm_cl call 79 (pm_go call ns d 79 n) 132 77 [pm_r 20 0, pm_i v1] [] [some (pm_r 20 0), some (pm_i v1)] (mm x R Z Y o A c G g))) rfl (g_ok (f := 20) (by decide) rfl)
set_option maxRecDepth 20000 in
theorem t79_0 (hR : RS R) {v1 : Int32}  (k1 : (v1 = nI 3) → (v1 = nI 3) → pW ns d 79 36 [some (pm_r 20 0), some (pm_i v1)] [pm_i ((pm_v (pm_v (pm_v G 20 0 (nI 0)) 20 26 (nI 0)) 20 27 (nI 0)) 20 25), pm_r 20 0] (mm x R Z Y o A c (pm_v (pm_v (pm_v G 20 0 (nI 0)) 20 26 (nI 0)) 20 27 (nI 0)) g) Q) (k2 : (v1 = nI 3) → (¬ (v1 = nI 3)) → pW ns d 79 40 [some (pm_r 20 0), some (pm_i v1)] [pm_i ((pm_v (pm_v (pm_v G 20 0 (nI 0)) 20 26 (nI 0)) 20 27 (nI 0)) 20 25), pm_r 20 0] (mm x R Z Y o A c (pm_v (pm_v (pm_v G 20 0 (nI 0)) 20 26 (nI 0)) 20 27 (nI 0)) g) Q) (k3 : (¬ (v1 = nI 3)) → (v1 = nI 26) → (v1 = nI 3) → pW ns d 79 36 [some (pm_r 20 0), some (pm_i v1)] [pm_i ((pm_v (pm_v (pm_v G 20 0 (nI 0)) 20 26 (nI 0)) 20 27 (nI 0)) 20 25), pm_r 20 0] (mm x R Z Y o A c (pm_v (pm_v (pm_v G 20 0 (nI 0)) 20 26 (nI 0)) 20 27 (nI 0)) g) Q) (k4 : (¬ (v1 = nI 3)) → (v1 = nI 26) → (¬ (v1 = nI 3)) → pW ns d 79 40 [some (pm_r 20 0), some (pm_i v1)] [pm_i ((pm_v (pm_v (pm_v G 20 0 (nI 0)) 20 26 (nI 0)) 20 27 (nI 0)) 20 25), pm_r 20 0] (mm x R Z Y o A c (pm_v (pm_v (pm_v G 20 0 (nI 0)) 20 26 (nI 0)) 20 27 (nI 0)) g) Q) (k5 : (¬ (v1 = nI 3)) → (¬ (v1 = nI 26)) → (v1 = nI 8) → ((pm_v G 20 0 (nI 0)) 20 27 ≤ 0) → (v1 = nI 21) → (v1 = nI 10) → pW ns d 79 84 [some (pm_r 20 0), some (pm_i v1)] [] (mm x R Z Y o A c (pm_v (pm_v G 20 0 (nI 0)) 20 27 (nI 0)) g) Q) (k6 : (¬ (v1 = nI 3)) → (¬ (v1 = nI 26)) → (v1 = nI 8) → ((pm_v G 20 0 (nI 0)) 20 27 ≤ 0) → (v1 = nI 21) → (¬ (v1 = nI 10)) → (v1 = nI 4) → pW ns d 79 106 [some (pm_r 20 0), some (pm_i v1)] [] (mm x R Z Y o A c (pm_v (pm_v G 20 0 (nI 0)) 20 27 (nI 0)) g) Q) (k7 : (¬ (v1 = nI 3)) → (¬ (v1 = nI 26)) → (v1 = nI 8) → ((pm_v G 20 0 (nI 0)) 20 27 ≤ 0) → (v1 = nI 21) → (¬ (v1 = nI 10)) → (¬ (v1 = nI 4)) → (v1 < nI 32) → pW ns d 79 135 [some (pm_r 20 0), some (pm_i v1)] [] (mm x R Z Y o A c (pm_v (pm_v G 20 0 (nI 0)) 20 27 (nI 0)) g) Q) (k8 : (¬ (v1 = nI 3)) → (¬ (v1 = nI 26)) → (v1 = nI 8) → ((pm_v G 20 0 (nI 0)) 20 27 ≤ 0) → (v1 = nI 21) → (¬ (v1 = nI 10)) → (¬ (v1 = nI 4)) → (¬ (v1 < nI 32)) → (nI 126 < v1) → pW ns d 79 135 [some (pm_r 20 0), some (pm_i v1)] [] (mm x R Z Y o A c (pm_v (pm_v G 20 0 (nI 0)) 20 27 (nI 0)) g) Q) (k9 : (¬ (v1 = nI 3)) → (¬ (v1 = nI 26)) → (v1 = nI 8) → ((pm_v G 20 0 (nI 0)) 20 27 ≤ 0) → (v1 = nI 21) → (¬ (v1 = nI 10)) → (¬ (v1 = nI 4)) → (¬ (v1 < nI 32)) → (¬ (nI 126 < v1)) → pW ns d 79 130 [some (pm_r 20 0), some (pm_i v1)] [] (mm x R Z Y o A c (pm_v (pm_v G 20 0 (nI 0)) 20 27 (nI 0)) g) Q) (k10 : (¬ (v1 = nI 3)) → (¬ (v1 = nI 26)) → (v1 = nI 8) → ((pm_v G 20 0 (nI 0)) 20 27 ≤ 0) → (¬ (v1 = nI 21)) → (v1 = nI 10) → pW ns d 79 84 [some (pm_r 20 0), some (pm_i v1)] [] (mm x R Z Y o A c (pm_v G 20 0 (nI 0)) g) Q) (k11 : (¬ (v1 = nI 3)) → (¬ (v1 = nI 26)) → (v1 = nI 8) → ((pm_v G 20 0 (nI 0)) 20 27 ≤ 0) → (¬ (v1 = nI 21)) → (¬ (v1 = nI 10)) → (v1 = nI 4) → pW ns d 79 106 [some (pm_r 20 0), some (pm_i v1)] [] (mm x R Z Y o A c (pm_v G 20 0 (nI 0)) g) Q) (k12 : (¬ (v1 = nI 3)) → (¬ (v1 = nI 26)) → (v1 = nI 8) → ((pm_v G 20 0 (nI 0)) 20 27 ≤ 0) → (¬ (v1 = nI 21)) → (¬ (v1 = nI 10)) → (¬ (v1 = nI 4)) → (v1 < nI 32) → pW ns d 79 135 [some (pm_r 20 0), some (pm_i v1)] [] (mm x R Z Y o A c (pm_v G 20 0 (nI 0)) g) Q) (k13 : (¬ (v1 = nI 3)) → (¬ (v1 = nI 26)) → (v1 = nI 8) → ((pm_v G 20 0 (nI 0)) 20 27 ≤ 0) → (¬ (v1 = nI 21)) → (¬ (v1 = nI 10)) → (¬ (v1 = nI 4)) → (¬ (v1 < nI 32)) → (nI 126 < v1) → pW ns d 79 135 [some (pm_r 20 0), some (pm_i v1)] [] (mm x R Z Y o A c (pm_v G 20 0 (nI 0)) g) Q) (k14 : (¬ (v1 = nI 3)) → (¬ (v1 = nI 26)) → (v1 = nI 8) → ((pm_v G 20 0 (nI 0)) 20 27 ≤ 0) → (¬ (v1 = nI 21)) → (¬ (v1 = nI 10)) → (¬ (v1 = nI 4)) → (¬ (v1 < nI 32)) → (¬ (nI 126 < v1)) → pW ns d 79 130 [some (pm_r 20 0), some (pm_i v1)] [] (mm x R Z Y o A c (pm_v G 20 0 (nI 0)) g) Q) (k15 : (¬ (v1 = nI 3)) → (¬ (v1 = nI 26)) → (v1 = nI 8) → (¬ ((pm_v G 20 0 (nI 0)) 20 27 ≤ 0)) → (v1 = nI 21) → (v1 = nI 10) → pW ns d 79 84 [some (pm_r 20 0), some (pm_i v1)] [] (mm x R Z Y o A c (pm_v (pm_v (pm_v G 20 0 (nI 0)) 20 27 (((pm_v G 20 0 (nI 0)) 20 27) - (nI 1))) 20 27 (nI 0)) g) Q) (k16 : (¬ (v1 = nI 3)) → (¬ (v1 = nI 26)) → (v1 = nI 8) → (¬ ((pm_v G 20 0 (nI 0)) 20 27 ≤ 0)) → (v1 = nI 21) → (¬ (v1 = nI 10)) → (v1 = nI 4) → pW ns d 79 106 [some (pm_r 20 0), some (pm_i v1)] [] (mm x R Z Y o A c (pm_v (pm_v (pm_v G 20 0 (nI 0)) 20 27 (((pm_v G 20 0 (nI 0)) 20 27) - (nI 1))) 20 27 (nI 0)) g) Q) (k17 : (¬ (v1 = nI 3)) → (¬ (v1 = nI 26)) → (v1 = nI 8) → (¬ ((pm_v G 20 0 (nI 0)) 20 27 ≤ 0)) → (v1 = nI 21) → (¬ (v1 = nI 10)) → (¬ (v1 = nI 4)) → (v1 < nI 32) → pW ns d 79 135 [some (pm_r 20 0), some (pm_i v1)] [] (mm x R Z Y o A c (pm_v (pm_v (pm_v G 20 0 (nI 0)) 20 27 (((pm_v G 20 0 (nI 0)) 20 27) - (nI 1))) 20 27 (nI 0)) g) Q) (k18 : (¬ (v1 = nI 3)) → (¬ (v1 = nI 26)) → (v1 = nI 8) → (¬ ((pm_v G 20 0 (nI 0)) 20 27 ≤ 0)) → (v1 = nI 21) → (¬ (v1 = nI 10)) → (¬ (v1 = nI 4)) → (¬ (v1 < nI 32)) → (nI 126 < v1) → pW ns d 79 135 [some (pm_r 20 0), some (pm_i v1)] [] (mm x R Z Y o A c (pm_v (pm_v (pm_v G 20 0 (nI 0)) 20 27 (((pm_v G 20 0 (nI 0)) 20 27) - (nI 1))) 20 27 (nI 0)) g) Q) (k19 : (¬ (v1 = nI 3)) → (¬ (v1 = nI 26)) → (v1 = nI 8) → (¬ ((pm_v G 20 0 (nI 0)) 20 27 ≤ 0)) → (v1 = nI 21) → (¬ (v1 = nI 10)) → (¬ (v1 = nI 4)) → (¬ (v1 < nI 32)) → (¬ (nI 126 < v1)) → pW ns d 79 130 [some (pm_r 20 0), some (pm_i v1)] [] (mm x R Z Y o A c (pm_v (pm_v (pm_v G 20 0 (nI 0)) 20 27 (((pm_v G 20 0 (nI 0)) 20 27) - (nI 1))) 20 27 (nI 0)) g) Q) (k20 : (¬ (v1 = nI 3)) → (¬ (v1 = nI 26)) → (v1 = nI 8) → (¬ ((pm_v G 20 0 (nI 0)) 20 27 ≤ 0)) → (¬ (v1 = nI 21)) → (v1 = nI 10) → pW ns d 79 84 [some (pm_r 20 0), some (pm_i v1)] [] (mm x R Z Y o A c (pm_v (pm_v G 20 0 (nI 0)) 20 27 (((pm_v G 20 0 (nI 0)) 20 27) - (nI 1))) g) Q) (k21 : (¬ (v1 = nI 3)) → (¬ (v1 = nI 26)) → (v1 = nI 8) → (¬ ((pm_v G 20 0 (nI 0)) 20 27 ≤ 0)) → (¬ (v1 = nI 21)) → (¬ (v1 = nI 10)) → (v1 = nI 4) → pW ns d 79 106 [some (pm_r 20 0), some (pm_i v1)] [] (mm x R Z Y o A c (pm_v (pm_v G 20 0 (nI 0)) 20 27 (((pm_v G 20 0 (nI 0)) 20 27) - (nI 1))) g) Q) (k22 : (¬ (v1 = nI 3)) → (¬ (v1 = nI 26)) → (v1 = nI 8) → (¬ ((pm_v G 20 0 (nI 0)) 20 27 ≤ 0)) → (¬ (v1 = nI 21)) → (¬ (v1 = nI 10)) → (¬ (v1 = nI 4)) → (v1 < nI 32) → pW ns d 79 135 [some (pm_r 20 0), some (pm_i v1)] [] (mm x R Z Y o A c (pm_v (pm_v G 20 0 (nI 0)) 20 27 (((pm_v G 20 0 (nI 0)) 20 27) - (nI 1))) g) Q) (k23 : (¬ (v1 = nI 3)) → (¬ (v1 = nI 26)) → (v1 = nI 8) → (¬ ((pm_v G 20 0 (nI 0)) 20 27 ≤ 0)) → (¬ (v1 = nI 21)) → (¬ (v1 = nI 10)) → (¬ (v1 = nI 4)) → (¬ (v1 < nI 32)) → (nI 126 < v1) → pW ns d 79 135 [some (pm_r 20 0), some (pm_i v1)] [] (mm x R Z Y o A c (pm_v (pm_v G 20 0 (nI 0)) 20 27 (((pm_v G 20 0 (nI 0)) 20 27) - (nI 1))) g) Q) (k24 : (¬ (v1 = nI 3)) → (¬ (v1 = nI 26)) → (v1 = nI 8) → (¬ ((pm_v G 20 0 (nI 0)) 20 27 ≤ 0)) → (¬ (v1 = nI 21)) → (¬ (v1 = nI 10)) → (¬ (v1 = nI 4)) → (¬ (v1 < nI 32)) → (¬ (nI 126 < v1)) → pW ns d 79 130 [some (pm_r 20 0), some (pm_i v1)] [] (mm x R Z Y o A c (pm_v (pm_v G 20 0 (nI 0)) 20 27 (((pm_v G 20 0 (nI 0)) 20 27) - (nI 1))) g) Q) (k25 : (¬ (v1 = nI 3)) → (¬ (v1 = nI 26)) → (¬ (v1 = nI 8)) → (v1 = nI 21) → (v1 = nI 10) → pW ns d 79 84 [some (pm_r 20 0), some (pm_i v1)] [] (mm x R Z Y o A c (pm_v (pm_v G 20 0 (nI 0)) 20 27 (nI 0)) g) Q) (k26 : (¬ (v1 = nI 3)) → (¬ (v1 = nI 26)) → (¬ (v1 = nI 8)) → (v1 = nI 21) → (¬ (v1 = nI 10)) → (v1 = nI 4) → pW ns d 79 106 [some (pm_r 20 0), some (pm_i v1)] [] (mm x R Z Y o A c (pm_v (pm_v G 20 0 (nI 0)) 20 27 (nI 0)) g) Q) (k27 : (¬ (v1 = nI 3)) → (¬ (v1 = nI 26)) → (¬ (v1 = nI 8)) → (v1 = nI 21) → (¬ (v1 = nI 10)) → (¬ (v1 = nI 4)) → (v1 < nI 32) → pW ns d 79 135 [some (pm_r 20 0), some (pm_i v1)] [] (mm x R Z Y o A c (pm_v (pm_v G 20 0 (nI 0)) 20 27 (nI 0)) g) Q) (k28 : (¬ (v1 = nI 3)) → (¬ (v1 = nI 26)) → (¬ (v1 = nI 8)) → (v1 = nI 21) → (¬ (v1 = nI 10)) → (¬ (v1 = nI 4)) → (¬ (v1 < nI 32)) → (nI 126 < v1) → pW ns d 79 135 [some (pm_r 20 0), some (pm_i v1)] [] (mm x R Z Y o A c (pm_v (pm_v G 20 0 (nI 0)) 20 27 (nI 0)) g) Q) (k29 : (¬ (v1 = nI 3)) → (¬ (v1 = nI 26)) → (¬ (v1 = nI 8)) → (v1 = nI 21) → (¬ (v1 = nI 10)) → (¬ (v1 = nI 4)) → (¬ (v1 < nI 32)) → (¬ (nI 126 < v1)) → pW ns d 79 130 [some (pm_r 20 0), some (pm_i v1)] [] (mm x R Z Y o A c (pm_v (pm_v G 20 0 (nI 0)) 20 27 (nI 0)) g) Q) (k30 : (¬ (v1 = nI 3)) → (¬ (v1 = nI 26)) → (¬ (v1 = nI 8)) → (¬ (v1 = nI 21)) → (v1 = nI 10) → pW ns d 79 84 [some (pm_r 20 0), some (pm_i v1)] [] (mm x R Z Y o A c (pm_v G 20 0 (nI 0)) g) Q) (k31 : (¬ (v1 = nI 3)) → (¬ (v1 = nI 26)) → (¬ (v1 = nI 8)) → (¬ (v1 = nI 21)) → (¬ (v1 = nI 10)) → (v1 = nI 4) → pW ns d 79 106 [some (pm_r 20 0), some (pm_i v1)] [] (mm x R Z Y o A c (pm_v G 20 0 (nI 0)) g) Q) (k32 : (¬ (v1 = nI 3)) → (¬ (v1 = nI 26)) → (¬ (v1 = nI 8)) → (¬ (v1 = nI 21)) → (¬ (v1 = nI 10)) → (¬ (v1 = nI 4)) → (v1 < nI 32) → pW ns d 79 135 [some (pm_r 20 0), some (pm_i v1)] [] (mm x R Z Y o A c (pm_v G 20 0 (nI 0)) g) Q) (k33 : (¬ (v1 = nI 3)) → (¬ (v1 = nI 26)) → (¬ (v1 = nI 8)) → (¬ (v1 = nI 21)) → (¬ (v1 = nI 10)) → (¬ (v1 = nI 4)) → (¬ (v1 < nI 32)) → (nI 126 < v1) → pW ns d 79 135 [some (pm_r 20 0), some (pm_i v1)] [] (mm x R Z Y o A c (pm_v G 20 0 (nI 0)) g) Q) (k34 : (¬ (v1 = nI 3)) → (¬ (v1 = nI 26)) → (¬ (v1 = nI 8)) → (¬ (v1 = nI 21)) → (¬ (v1 = nI 10)) → (¬ (v1 = nI 4)) → (¬ (v1 < nI 32)) → (¬ (nI 126 < v1)) → pW ns d 79 130 [some (pm_r 20 0), some (pm_i v1)] [] (mm x R Z Y o A c (pm_v G 20 0 (nI 0)) g) Q) : pW ns d 79 0 [some (pm_r 20 0), some (pm_i v1)] [] (mm x R Z Y o A c G g) Q := by
  refine b79_0 hR  (fun h1 => ?_) (fun h1 => ?_)
  · skip
    refine b79_16 hR   (fun h2 => ?_) (fun h2 => ?_)
    · skip
      exact (k1 h1 h2)
    · skip
      exact (k2 h1 h2)
  · skip
    refine b79_10 hR   (fun h2 => ?_) (fun h2 => ?_)
    · skip
      refine b79_16 hR   (fun h3 => ?_) (fun h3 => ?_)
      · skip
        exact (k3 h1 h2 h3)
      · skip
        exact (k4 h1 h2 h3)
    · skip
      refine b79_44 hR   (fun h3 => ?_) (fun h3 => ?_)
      · skip
        refine b79_50 hR   (fun h4 => ?_) (fun h4 => ?_)
        · skip
          refine b79_67 hR   (fun h5 => ?_) (fun h5 => ?_)
          · skip
            refine b79_73 hR   (fun h6 => ?_) (fun h6 => ?_)
            · skip
              exact (k5 h1 h2 h3 h4 h5 h6)
            · skip
              refine b79_101 hR   (fun h7 => ?_) (fun h7 => ?_)
              · skip
                exact (k6 h1 h2 h3 h4 h5 h6 h7)
              · skip
                refine b79_118 hR   (fun h8 => ?_) (fun h8 => ?_)
                · skip
                  exact (k7 h1 h2 h3 h4 h5 h6 h7 h8)
                · skip
                  refine b79_124 hR   (fun h9 => ?_) (fun h9 => ?_)
                  · skip
                    exact (k8 h1 h2 h3 h4 h5 h6 h7 h8 h9)
                  · skip
                    exact (k9 h1 h2 h3 h4 h5 h6 h7 h8 h9)
          · skip
            refine b79_78 hR   (fun h6 => ?_) (fun h6 => ?_)
            · skip
              exact (k10 h1 h2 h3 h4 h5 h6)
            · skip
              refine b79_101 hR   (fun h7 => ?_) (fun h7 => ?_)
              · skip
                exact (k11 h1 h2 h3 h4 h5 h6 h7)
              · skip
                refine b79_118 hR   (fun h8 => ?_) (fun h8 => ?_)
                · skip
                  exact (k12 h1 h2 h3 h4 h5 h6 h7 h8)
                · skip
                  refine b79_124 hR   (fun h9 => ?_) (fun h9 => ?_)
                  · skip
                    exact (k13 h1 h2 h3 h4 h5 h6 h7 h8 h9)
                  · skip
                    exact (k14 h1 h2 h3 h4 h5 h6 h7 h8 h9)
        · skip
          refine b79_57 hR   (fun h5 => ?_) (fun h5 => ?_)
          · skip
            refine b79_73 hR   (fun h6 => ?_) (fun h6 => ?_)
            · skip
              exact (k15 h1 h2 h3 h4 h5 h6)
            · skip
              refine b79_101 hR   (fun h7 => ?_) (fun h7 => ?_)
              · skip
                exact (k16 h1 h2 h3 h4 h5 h6 h7)
              · skip
                refine b79_118 hR   (fun h8 => ?_) (fun h8 => ?_)
                · skip
                  exact (k17 h1 h2 h3 h4 h5 h6 h7 h8)
                · skip
                  refine b79_124 hR   (fun h9 => ?_) (fun h9 => ?_)
                  · skip
                    exact (k18 h1 h2 h3 h4 h5 h6 h7 h8 h9)
                  · skip
                    exact (k19 h1 h2 h3 h4 h5 h6 h7 h8 h9)
          · skip
            refine b79_78 hR   (fun h6 => ?_) (fun h6 => ?_)
            · skip
              exact (k20 h1 h2 h3 h4 h5 h6)
            · skip
              refine b79_101 hR   (fun h7 => ?_) (fun h7 => ?_)
              · skip
                exact (k21 h1 h2 h3 h4 h5 h6 h7)
              · skip
                refine b79_118 hR   (fun h8 => ?_) (fun h8 => ?_)
                · skip
                  exact (k22 h1 h2 h3 h4 h5 h6 h7 h8)
                · skip
                  refine b79_124 hR   (fun h9 => ?_) (fun h9 => ?_)
                  · skip
                    exact (k23 h1 h2 h3 h4 h5 h6 h7 h8 h9)
                  · skip
                    exact (k24 h1 h2 h3 h4 h5 h6 h7 h8 h9)
      · skip
        refine b79_67 hR   (fun h4 => ?_) (fun h4 => ?_)
        · skip
          refine b79_73 hR   (fun h5 => ?_) (fun h5 => ?_)
          · skip
            exact (k25 h1 h2 h3 h4 h5)
          · skip
            refine b79_101 hR   (fun h6 => ?_) (fun h6 => ?_)
            · skip
              exact (k26 h1 h2 h3 h4 h5 h6)
            · skip
              refine b79_118 hR   (fun h7 => ?_) (fun h7 => ?_)
              · skip
                exact (k27 h1 h2 h3 h4 h5 h6 h7)
              · skip
                refine b79_124 hR   (fun h8 => ?_) (fun h8 => ?_)
                · skip
                  exact (k28 h1 h2 h3 h4 h5 h6 h7 h8)
                · skip
                  exact (k29 h1 h2 h3 h4 h5 h6 h7 h8)
        · skip
          refine b79_78 hR   (fun h5 => ?_) (fun h5 => ?_)
          · skip
            exact (k30 h1 h2 h3 h4 h5)
          · skip
            refine b79_101 hR   (fun h6 => ?_) (fun h6 => ?_)
            · skip
              exact (k31 h1 h2 h3 h4 h5 h6)
            · skip
              refine b79_118 hR   (fun h7 => ?_) (fun h7 => ?_)
              · skip
                exact (k32 h1 h2 h3 h4 h5 h6 h7)
              · skip
                refine b79_124 hR   (fun h8 => ?_) (fun h8 => ?_)
                · skip
                  exact (k33 h1 h2 h3 h4 h5 h6 h7 h8)
                · skip
                  exact (k34 h1 h2 h3 h4 h5 h6 h7 h8)
set_option maxRecDepth 20000 in
theorem t79_16 (hR : RS R) {v1 : Int32}  (k1 : (v1 = nI 3) → pW ns d 79 36 [some (pm_r 20 0), some (pm_i v1)] [pm_i ((pm_v (pm_v G 20 26 (nI 0)) 20 27 (nI 0)) 20 25), pm_r 20 0] (mm x R Z Y o A c (pm_v (pm_v G 20 26 (nI 0)) 20 27 (nI 0)) g) Q) (k2 : (¬ (v1 = nI 3)) → pW ns d 79 40 [some (pm_r 20 0), some (pm_i v1)] [pm_i ((pm_v (pm_v G 20 26 (nI 0)) 20 27 (nI 0)) 20 25), pm_r 20 0] (mm x R Z Y o A c (pm_v (pm_v G 20 26 (nI 0)) 20 27 (nI 0)) g) Q) : pW ns d 79 16 [some (pm_r 20 0), some (pm_i v1)] [] (mm x R Z Y o A c G g) Q := by
  refine b79_16 hR  (fun h1 => ?_) (fun h1 => ?_)
  · skip
    exact (k1 h1)
  · skip
    exact (k2 h1)
set_option maxRecDepth 20000 in
theorem t79_10 (hR : RS R) {v1 : Int32}  (k1 : (v1 = nI 26) → (v1 = nI 3) → pW ns d 79 36 [some (pm_r 20 0), some (pm_i v1)] [pm_i ((pm_v (pm_v G 20 26 (nI 0)) 20 27 (nI 0)) 20 25), pm_r 20 0] (mm x R Z Y o A c (pm_v (pm_v G 20 26 (nI 0)) 20 27 (nI 0)) g) Q) (k2 : (v1 = nI 26) → (¬ (v1 = nI 3)) → pW ns d 79 40 [some (pm_r 20 0), some (pm_i v1)] [pm_i ((pm_v (pm_v G 20 26 (nI 0)) 20 27 (nI 0)) 20 25), pm_r 20 0] (mm x R Z Y o A c (pm_v (pm_v G 20 26 (nI 0)) 20 27 (nI 0)) g) Q) (k3 : (¬ (v1 = nI 26)) → (v1 = nI 8) → (G 20 27 ≤ 0) → (v1 = nI 21) → (v1 = nI 10) → pW ns d 79 84 [some (pm_r 20 0), some (pm_i v1)] [] (mm x R Z Y o A c (pm_v G 20 27 (nI 0)) g) Q) (k4 : (¬ (v1 = nI 26)) → (v1 = nI 8) → (G 20 27 ≤ 0) → (v1 = nI 21) → (¬ (v1 = nI 10)) → (v1 = nI 4) → pW ns d 79 106 [some (pm_r 20 0), some (pm_i v1)] [] (mm x R Z Y o A c (pm_v G 20 27 (nI 0)) g) Q) (k5 : (¬ (v1 = nI 26)) → (v1 = nI 8) → (G 20 27 ≤ 0) → (v1 = nI 21) → (¬ (v1 = nI 10)) → (¬ (v1 = nI 4)) → (v1 < nI 32) → pW ns d 79 135 [some (pm_r 20 0), some (pm_i v1)] [] (mm x R Z Y o A c (pm_v G 20 27 (nI 0)) g) Q) (k6 : (¬ (v1 = nI 26)) → (v1 = nI 8) → (G 20 27 ≤ 0) → (v1 = nI 21) → (¬ (v1 = nI 10)) → (¬ (v1 = nI 4)) → (¬ (v1 < nI 32)) → (nI 126 < v1) → pW ns d 79 135 [some (pm_r 20 0), some (pm_i v1)] [] (mm x R Z Y o A c (pm_v G 20 27 (nI 0)) g) Q) (k7 : (¬ (v1 = nI 26)) → (v1 = nI 8) → (G 20 27 ≤ 0) → (v1 = nI 21) → (¬ (v1 = nI 10)) → (¬ (v1 = nI 4)) → (¬ (v1 < nI 32)) → (¬ (nI 126 < v1)) → pW ns d 79 130 [some (pm_r 20 0), some (pm_i v1)] [] (mm x R Z Y o A c (pm_v G 20 27 (nI 0)) g) Q) (k8 : (¬ (v1 = nI 26)) → (v1 = nI 8) → (G 20 27 ≤ 0) → (¬ (v1 = nI 21)) → (v1 = nI 10) → pW ns d 79 84 [some (pm_r 20 0), some (pm_i v1)] [] (mm x R Z Y o A c G g) Q) (k9 : (¬ (v1 = nI 26)) → (v1 = nI 8) → (G 20 27 ≤ 0) → (¬ (v1 = nI 21)) → (¬ (v1 = nI 10)) → (v1 = nI 4) → pW ns d 79 106 [some (pm_r 20 0), some (pm_i v1)] [] (mm x R Z Y o A c G g) Q) (k10 : (¬ (v1 = nI 26)) → (v1 = nI 8) → (G 20 27 ≤ 0) → (¬ (v1 = nI 21)) → (¬ (v1 = nI 10)) → (¬ (v1 = nI 4)) → (v1 < nI 32) → pW ns d 79 135 [some (pm_r 20 0), some (pm_i v1)] [] (mm x R Z Y o A c G g) Q) (k11 : (¬ (v1 = nI 26)) → (v1 = nI 8) → (G 20 27 ≤ 0) → (¬ (v1 = nI 21)) → (¬ (v1 = nI 10)) → (¬ (v1 = nI 4)) → (¬ (v1 < nI 32)) → (nI 126 < v1) → pW ns d 79 135 [some (pm_r 20 0), some (pm_i v1)] [] (mm x R Z Y o A c G g) Q) (k12 : (¬ (v1 = nI 26)) → (v1 = nI 8) → (G 20 27 ≤ 0) → (¬ (v1 = nI 21)) → (¬ (v1 = nI 10)) → (¬ (v1 = nI 4)) → (¬ (v1 < nI 32)) → (¬ (nI 126 < v1)) → pW ns d 79 130 [some (pm_r 20 0), some (pm_i v1)] [] (mm x R Z Y o A c G g) Q) (k13 : (¬ (v1 = nI 26)) → (v1 = nI 8) → (¬ (G 20 27 ≤ 0)) → (v1 = nI 21) → (v1 = nI 10) → pW ns d 79 84 [some (pm_r 20 0), some (pm_i v1)] [] (mm x R Z Y o A c (pm_v (pm_v G 20 27 ((G 20 27) - (nI 1))) 20 27 (nI 0)) g) Q) (k14 : (¬ (v1 = nI 26)) → (v1 = nI 8) → (¬ (G 20 27 ≤ 0)) → (v1 = nI 21) → (¬ (v1 = nI 10)) → (v1 = nI 4) → pW ns d 79 106 [some (pm_r 20 0), some (pm_i v1)] [] (mm x R Z Y o A c (pm_v (pm_v G 20 27 ((G 20 27) - (nI 1))) 20 27 (nI 0)) g) Q) (k15 : (¬ (v1 = nI 26)) → (v1 = nI 8) → (¬ (G 20 27 ≤ 0)) → (v1 = nI 21) → (¬ (v1 = nI 10)) → (¬ (v1 = nI 4)) → (v1 < nI 32) → pW ns d 79 135 [some (pm_r 20 0), some (pm_i v1)] [] (mm x R Z Y o A c (pm_v (pm_v G 20 27 ((G 20 27) - (nI 1))) 20 27 (nI 0)) g) Q) (k16 : (¬ (v1 = nI 26)) → (v1 = nI 8) → (¬ (G 20 27 ≤ 0)) → (v1 = nI 21) → (¬ (v1 = nI 10)) → (¬ (v1 = nI 4)) → (¬ (v1 < nI 32)) → (nI 126 < v1) → pW ns d 79 135 [some (pm_r 20 0), some (pm_i v1)] [] (mm x R Z Y o A c (pm_v (pm_v G 20 27 ((G 20 27) - (nI 1))) 20 27 (nI 0)) g) Q) (k17 : (¬ (v1 = nI 26)) → (v1 = nI 8) → (¬ (G 20 27 ≤ 0)) → (v1 = nI 21) → (¬ (v1 = nI 10)) → (¬ (v1 = nI 4)) → (¬ (v1 < nI 32)) → (¬ (nI 126 < v1)) → pW ns d 79 130 [some (pm_r 20 0), some (pm_i v1)] [] (mm x R Z Y o A c (pm_v (pm_v G 20 27 ((G 20 27) - (nI 1))) 20 27 (nI 0)) g) Q) (k18 : (¬ (v1 = nI 26)) → (v1 = nI 8) → (¬ (G 20 27 ≤ 0)) → (¬ (v1 = nI 21)) → (v1 = nI 10) → pW ns d 79 84 [some (pm_r 20 0), some (pm_i v1)] [] (mm x R Z Y o A c (pm_v G 20 27 ((G 20 27) - (nI 1))) g) Q) (k19 : (¬ (v1 = nI 26)) → (v1 = nI 8) → (¬ (G 20 27 ≤ 0)) → (¬ (v1 = nI 21)) → (¬ (v1 = nI 10)) → (v1 = nI 4) → pW ns d 79 106 [some (pm_r 20 0), some (pm_i v1)] [] (mm x R Z Y o A c (pm_v G 20 27 ((G 20 27) - (nI 1))) g) Q) (k20 : (¬ (v1 = nI 26)) → (v1 = nI 8) → (¬ (G 20 27 ≤ 0)) → (¬ (v1 = nI 21)) → (¬ (v1 = nI 10)) → (¬ (v1 = nI 4)) → (v1 < nI 32) → pW ns d 79 135 [some (pm_r 20 0), some (pm_i v1)] [] (mm x R Z Y o A c (pm_v G 20 27 ((G 20 27) - (nI 1))) g) Q) (k21 : (¬ (v1 = nI 26)) → (v1 = nI 8) → (¬ (G 20 27 ≤ 0)) → (¬ (v1 = nI 21)) → (¬ (v1 = nI 10)) → (¬ (v1 = nI 4)) → (¬ (v1 < nI 32)) → (nI 126 < v1) → pW ns d 79 135 [some (pm_r 20 0), some (pm_i v1)] [] (mm x R Z Y o A c (pm_v G 20 27 ((G 20 27) - (nI 1))) g) Q) (k22 : (¬ (v1 = nI 26)) → (v1 = nI 8) → (¬ (G 20 27 ≤ 0)) → (¬ (v1 = nI 21)) → (¬ (v1 = nI 10)) → (¬ (v1 = nI 4)) → (¬ (v1 < nI 32)) → (¬ (nI 126 < v1)) → pW ns d 79 130 [some (pm_r 20 0), some (pm_i v1)] [] (mm x R Z Y o A c (pm_v G 20 27 ((G 20 27) - (nI 1))) g) Q) (k23 : (¬ (v1 = nI 26)) → (¬ (v1 = nI 8)) → (v1 = nI 21) → (v1 = nI 10) → pW ns d 79 84 [some (pm_r 20 0), some (pm_i v1)] [] (mm x R Z Y o A c (pm_v G 20 27 (nI 0)) g) Q) (k24 : (¬ (v1 = nI 26)) → (¬ (v1 = nI 8)) → (v1 = nI 21) → (¬ (v1 = nI 10)) → (v1 = nI 4) → pW ns d 79 106 [some (pm_r 20 0), some (pm_i v1)] [] (mm x R Z Y o A c (pm_v G 20 27 (nI 0)) g) Q) (k25 : (¬ (v1 = nI 26)) → (¬ (v1 = nI 8)) → (v1 = nI 21) → (¬ (v1 = nI 10)) → (¬ (v1 = nI 4)) → (v1 < nI 32) → pW ns d 79 135 [some (pm_r 20 0), some (pm_i v1)] [] (mm x R Z Y o A c (pm_v G 20 27 (nI 0)) g) Q) (k26 : (¬ (v1 = nI 26)) → (¬ (v1 = nI 8)) → (v1 = nI 21) → (¬ (v1 = nI 10)) → (¬ (v1 = nI 4)) → (¬ (v1 < nI 32)) → (nI 126 < v1) → pW ns d 79 135 [some (pm_r 20 0), some (pm_i v1)] [] (mm x R Z Y o A c (pm_v G 20 27 (nI 0)) g) Q) (k27 : (¬ (v1 = nI 26)) → (¬ (v1 = nI 8)) → (v1 = nI 21) → (¬ (v1 = nI 10)) → (¬ (v1 = nI 4)) → (¬ (v1 < nI 32)) → (¬ (nI 126 < v1)) → pW ns d 79 130 [some (pm_r 20 0), some (pm_i v1)] [] (mm x R Z Y o A c (pm_v G 20 27 (nI 0)) g) Q) (k28 : (¬ (v1 = nI 26)) → (¬ (v1 = nI 8)) → (¬ (v1 = nI 21)) → (v1 = nI 10) → pW ns d 79 84 [some (pm_r 20 0), some (pm_i v1)] [] (mm x R Z Y o A c G g) Q) (k29 : (¬ (v1 = nI 26)) → (¬ (v1 = nI 8)) → (¬ (v1 = nI 21)) → (¬ (v1 = nI 10)) → (v1 = nI 4) → pW ns d 79 106 [some (pm_r 20 0), some (pm_i v1)] [] (mm x R Z Y o A c G g) Q) (k30 : (¬ (v1 = nI 26)) → (¬ (v1 = nI 8)) → (¬ (v1 = nI 21)) → (¬ (v1 = nI 10)) → (¬ (v1 = nI 4)) → (v1 < nI 32) → pW ns d 79 135 [some (pm_r 20 0), some (pm_i v1)] [] (mm x R Z Y o A c G g) Q) (k31 : (¬ (v1 = nI 26)) → (¬ (v1 = nI 8)) → (¬ (v1 = nI 21)) → (¬ (v1 = nI 10)) → (¬ (v1 = nI 4)) → (¬ (v1 < nI 32)) → (nI 126 < v1) → pW ns d 79 135 [some (pm_r 20 0), some (pm_i v1)] [] (mm x R Z Y o A c G g) Q) (k32 : (¬ (v1 = nI 26)) → (¬ (v1 = nI 8)) → (¬ (v1 = nI 21)) → (¬ (v1 = nI 10)) → (¬ (v1 = nI 4)) → (¬ (v1 < nI 32)) → (¬ (nI 126 < v1)) → pW ns d 79 130 [some (pm_r 20 0), some (pm_i v1)] [] (mm x R Z Y o A c G g) Q) : pW ns d 79 10 [some (pm_r 20 0), some (pm_i v1)] [] (mm x R Z Y o A c G g) Q := by
  refine b79_10 hR  (fun h1 => ?_) (fun h1 => ?_)
  · skip
    refine b79_16 hR   (fun h2 => ?_) (fun h2 => ?_)
    · skip
      exact (k1 h1 h2)
    · skip
      exact (k2 h1 h2)
  · skip
    refine b79_44 hR   (fun h2 => ?_) (fun h2 => ?_)
    · skip
      refine b79_50 hR   (fun h3 => ?_) (fun h3 => ?_)
      · skip
        refine b79_67 hR   (fun h4 => ?_) (fun h4 => ?_)
        · skip
          refine b79_73 hR   (fun h5 => ?_) (fun h5 => ?_)
          · skip
            exact (k3 h1 h2 h3 h4 h5)
          · skip
            refine b79_101 hR   (fun h6 => ?_) (fun h6 => ?_)
            · skip
              exact (k4 h1 h2 h3 h4 h5 h6)
            · skip
              refine b79_118 hR   (fun h7 => ?_) (fun h7 => ?_)
              · skip
                exact (k5 h1 h2 h3 h4 h5 h6 h7)
              · skip
                refine b79_124 hR   (fun h8 => ?_) (fun h8 => ?_)
                · skip
                  exact (k6 h1 h2 h3 h4 h5 h6 h7 h8)
                · skip
                  exact (k7 h1 h2 h3 h4 h5 h6 h7 h8)
        · skip
          refine b79_78 hR   (fun h5 => ?_) (fun h5 => ?_)
          · skip
            exact (k8 h1 h2 h3 h4 h5)
          · skip
            refine b79_101 hR   (fun h6 => ?_) (fun h6 => ?_)
            · skip
              exact (k9 h1 h2 h3 h4 h5 h6)
            · skip
              refine b79_118 hR   (fun h7 => ?_) (fun h7 => ?_)
              · skip
                exact (k10 h1 h2 h3 h4 h5 h6 h7)
              · skip
                refine b79_124 hR   (fun h8 => ?_) (fun h8 => ?_)
                · skip
                  exact (k11 h1 h2 h3 h4 h5 h6 h7 h8)
                · skip
                  exact (k12 h1 h2 h3 h4 h5 h6 h7 h8)
      · skip
        refine b79_57 hR   (fun h4 => ?_) (fun h4 => ?_)
        · skip
          refine b79_73 hR   (fun h5 => ?_) (fun h5 => ?_)
          · skip
            exact (k13 h1 h2 h3 h4 h5)
          · skip
            refine b79_101 hR   (fun h6 => ?_) (fun h6 => ?_)
            · skip
              exact (k14 h1 h2 h3 h4 h5 h6)
            · skip
              refine b79_118 hR   (fun h7 => ?_) (fun h7 => ?_)
              · skip
                exact (k15 h1 h2 h3 h4 h5 h6 h7)
              · skip
                refine b79_124 hR   (fun h8 => ?_) (fun h8 => ?_)
                · skip
                  exact (k16 h1 h2 h3 h4 h5 h6 h7 h8)
                · skip
                  exact (k17 h1 h2 h3 h4 h5 h6 h7 h8)
        · skip
          refine b79_78 hR   (fun h5 => ?_) (fun h5 => ?_)
          · skip
            exact (k18 h1 h2 h3 h4 h5)
          · skip
            refine b79_101 hR   (fun h6 => ?_) (fun h6 => ?_)
            · skip
              exact (k19 h1 h2 h3 h4 h5 h6)
            · skip
              refine b79_118 hR   (fun h7 => ?_) (fun h7 => ?_)
              · skip
                exact (k20 h1 h2 h3 h4 h5 h6 h7)
              · skip
                refine b79_124 hR   (fun h8 => ?_) (fun h8 => ?_)
                · skip
                  exact (k21 h1 h2 h3 h4 h5 h6 h7 h8)
                · skip
                  exact (k22 h1 h2 h3 h4 h5 h6 h7 h8)
    · skip
      refine b79_67 hR   (fun h3 => ?_) (fun h3 => ?_)
      · skip
        refine b79_73 hR   (fun h4 => ?_) (fun h4 => ?_)
        · skip
          exact (k23 h1 h2 h3 h4)
        · skip
          refine b79_101 hR   (fun h5 => ?_) (fun h5 => ?_)
          · skip
            exact (k24 h1 h2 h3 h4 h5)
          · skip
            refine b79_118 hR   (fun h6 => ?_) (fun h6 => ?_)
            · skip
              exact (k25 h1 h2 h3 h4 h5 h6)
            · skip
              refine b79_124 hR   (fun h7 => ?_) (fun h7 => ?_)
              · skip
                exact (k26 h1 h2 h3 h4 h5 h6 h7)
              · skip
                exact (k27 h1 h2 h3 h4 h5 h6 h7)
      · skip
        refine b79_78 hR   (fun h4 => ?_) (fun h4 => ?_)
        · skip
          exact (k28 h1 h2 h3 h4)
        · skip
          refine b79_101 hR   (fun h5 => ?_) (fun h5 => ?_)
          · skip
            exact (k29 h1 h2 h3 h4 h5)
          · skip
            refine b79_118 hR   (fun h6 => ?_) (fun h6 => ?_)
            · skip
              exact (k30 h1 h2 h3 h4 h5 h6)
            · skip
              refine b79_124 hR   (fun h7 => ?_) (fun h7 => ?_)
              · skip
                exact (k31 h1 h2 h3 h4 h5 h6 h7)
              · skip
                exact (k32 h1 h2 h3 h4 h5 h6 h7)
set_option maxRecDepth 20000 in
theorem t79_44 (hR : RS R) {v1 : Int32}  (k1 : (v1 = nI 8) → (G 20 27 ≤ 0) → (v1 = nI 21) → (v1 = nI 10) → pW ns d 79 84 [some (pm_r 20 0), some (pm_i v1)] [] (mm x R Z Y o A c (pm_v G 20 27 (nI 0)) g) Q) (k2 : (v1 = nI 8) → (G 20 27 ≤ 0) → (v1 = nI 21) → (¬ (v1 = nI 10)) → (v1 = nI 4) → pW ns d 79 106 [some (pm_r 20 0), some (pm_i v1)] [] (mm x R Z Y o A c (pm_v G 20 27 (nI 0)) g) Q) (k3 : (v1 = nI 8) → (G 20 27 ≤ 0) → (v1 = nI 21) → (¬ (v1 = nI 10)) → (¬ (v1 = nI 4)) → (v1 < nI 32) → pW ns d 79 135 [some (pm_r 20 0), some (pm_i v1)] [] (mm x R Z Y o A c (pm_v G 20 27 (nI 0)) g) Q) (k4 : (v1 = nI 8) → (G 20 27 ≤ 0) → (v1 = nI 21) → (¬ (v1 = nI 10)) → (¬ (v1 = nI 4)) → (¬ (v1 < nI 32)) → (nI 126 < v1) → pW ns d 79 135 [some (pm_r 20 0), some (pm_i v1)] [] (mm x R Z Y o A c (pm_v G 20 27 (nI 0)) g) Q) (k5 : (v1 = nI 8) → (G 20 27 ≤ 0) → (v1 = nI 21) → (¬ (v1 = nI 10)) → (¬ (v1 = nI 4)) → (¬ (v1 < nI 32)) → (¬ (nI 126 < v1)) → pW ns d 79 130 [some (pm_r 20 0), some (pm_i v1)] [] (mm x R Z Y o A c (pm_v G 20 27 (nI 0)) g) Q) (k6 : (v1 = nI 8) → (G 20 27 ≤ 0) → (¬ (v1 = nI 21)) → (v1 = nI 10) → pW ns d 79 84 [some (pm_r 20 0), some (pm_i v1)] [] (mm x R Z Y o A c G g) Q) (k7 : (v1 = nI 8) → (G 20 27 ≤ 0) → (¬ (v1 = nI 21)) → (¬ (v1 = nI 10)) → (v1 = nI 4) → pW ns d 79 106 [some (pm_r 20 0), some (pm_i v1)] [] (mm x R Z Y o A c G g) Q) (k8 : (v1 = nI 8) → (G 20 27 ≤ 0) → (¬ (v1 = nI 21)) → (¬ (v1 = nI 10)) → (¬ (v1 = nI 4)) → (v1 < nI 32) → pW ns d 79 135 [some (pm_r 20 0), some (pm_i v1)] [] (mm x R Z Y o A c G g) Q) (k9 : (v1 = nI 8) → (G 20 27 ≤ 0) → (¬ (v1 = nI 21)) → (¬ (v1 = nI 10)) → (¬ (v1 = nI 4)) → (¬ (v1 < nI 32)) → (nI 126 < v1) → pW ns d 79 135 [some (pm_r 20 0), some (pm_i v1)] [] (mm x R Z Y o A c G g) Q) (k10 : (v1 = nI 8) → (G 20 27 ≤ 0) → (¬ (v1 = nI 21)) → (¬ (v1 = nI 10)) → (¬ (v1 = nI 4)) → (¬ (v1 < nI 32)) → (¬ (nI 126 < v1)) → pW ns d 79 130 [some (pm_r 20 0), some (pm_i v1)] [] (mm x R Z Y o A c G g) Q) (k11 : (v1 = nI 8) → (¬ (G 20 27 ≤ 0)) → (v1 = nI 21) → (v1 = nI 10) → pW ns d 79 84 [some (pm_r 20 0), some (pm_i v1)] [] (mm x R Z Y o A c (pm_v (pm_v G 20 27 ((G 20 27) - (nI 1))) 20 27 (nI 0)) g) Q) (k12 : (v1 = nI 8) → (¬ (G 20 27 ≤ 0)) → (v1 = nI 21) → (¬ (v1 = nI 10)) → (v1 = nI 4) → pW ns d 79 106 [some (pm_r 20 0), some (pm_i v1)] [] (mm x R Z Y o A c (pm_v (pm_v G 20 27 ((G 20 27) - (nI 1))) 20 27 (nI 0)) g) Q) (k13 : (v1 = nI 8) → (¬ (G 20 27 ≤ 0)) → (v1 = nI 21) → (¬ (v1 = nI 10)) → (¬ (v1 = nI 4)) → (v1 < nI 32) → pW ns d 79 135 [some (pm_r 20 0), some (pm_i v1)] [] (mm x R Z Y o A c (pm_v (pm_v G 20 27 ((G 20 27) - (nI 1))) 20 27 (nI 0)) g) Q) (k14 : (v1 = nI 8) → (¬ (G 20 27 ≤ 0)) → (v1 = nI 21) → (¬ (v1 = nI 10)) → (¬ (v1 = nI 4)) → (¬ (v1 < nI 32)) → (nI 126 < v1) → pW ns d 79 135 [some (pm_r 20 0), some (pm_i v1)] [] (mm x R Z Y o A c (pm_v (pm_v G 20 27 ((G 20 27) - (nI 1))) 20 27 (nI 0)) g) Q) (k15 : (v1 = nI 8) → (¬ (G 20 27 ≤ 0)) → (v1 = nI 21) → (¬ (v1 = nI 10)) → (¬ (v1 = nI 4)) → (¬ (v1 < nI 32)) → (¬ (nI 126 < v1)) → pW ns d 79 130 [some (pm_r 20 0), some (pm_i v1)] [] (mm x R Z Y o A c (pm_v (pm_v G 20 27 ((G 20 27) - (nI 1))) 20 27 (nI 0)) g) Q) (k16 : (v1 = nI 8) → (¬ (G 20 27 ≤ 0)) → (¬ (v1 = nI 21)) → (v1 = nI 10) → pW ns d 79 84 [some (pm_r 20 0), some (pm_i v1)] [] (mm x R Z Y o A c (pm_v G 20 27 ((G 20 27) - (nI 1))) g) Q) (k17 : (v1 = nI 8) → (¬ (G 20 27 ≤ 0)) → (¬ (v1 = nI 21)) → (¬ (v1 = nI 10)) → (v1 = nI 4) → pW ns d 79 106 [some (pm_r 20 0), some (pm_i v1)] [] (mm x R Z Y o A c (pm_v G 20 27 ((G 20 27) - (nI 1))) g) Q) (k18 : (v1 = nI 8) → (¬ (G 20 27 ≤ 0)) → (¬ (v1 = nI 21)) → (¬ (v1 = nI 10)) → (¬ (v1 = nI 4)) → (v1 < nI 32) → pW ns d 79 135 [some (pm_r 20 0), some (pm_i v1)] [] (mm x R Z Y o A c (pm_v G 20 27 ((G 20 27) - (nI 1))) g) Q) (k19 : (v1 = nI 8) → (¬ (G 20 27 ≤ 0)) → (¬ (v1 = nI 21)) → (¬ (v1 = nI 10)) → (¬ (v1 = nI 4)) → (¬ (v1 < nI 32)) → (nI 126 < v1) → pW ns d 79 135 [some (pm_r 20 0), some (pm_i v1)] [] (mm x R Z Y o A c (pm_v G 20 27 ((G 20 27) - (nI 1))) g) Q) (k20 : (v1 = nI 8) → (¬ (G 20 27 ≤ 0)) → (¬ (v1 = nI 21)) → (¬ (v1 = nI 10)) → (¬ (v1 = nI 4)) → (¬ (v1 < nI 32)) → (¬ (nI 126 < v1)) → pW ns d 79 130 [some (pm_r 20 0), some (pm_i v1)] [] (mm x R Z Y o A c (pm_v G 20 27 ((G 20 27) - (nI 1))) g) Q) (k21 : (¬ (v1 = nI 8)) → (v1 = nI 21) → (v1 = nI 10) → pW ns d 79 84 [some (pm_r 20 0), some (pm_i v1)] [] (mm x R Z Y o A c (pm_v G 20 27 (nI 0)) g) Q) (k22 : (¬ (v1 = nI 8)) → (v1 = nI 21) → (¬ (v1 = nI 10)) → (v1 = nI 4) → pW ns d 79 106 [some (pm_r 20 0), some (pm_i v1)] [] (mm x R Z Y o A c (pm_v G 20 27 (nI 0)) g) Q) (k23 : (¬ (v1 = nI 8)) → (v1 = nI 21) → (¬ (v1 = nI 10)) → (¬ (v1 = nI 4)) → (v1 < nI 32) → pW ns d 79 135 [some (pm_r 20 0), some (pm_i v1)] [] (mm x R Z Y o A c (pm_v G 20 27 (nI 0)) g) Q) (k24 : (¬ (v1 = nI 8)) → (v1 = nI 21) → (¬ (v1 = nI 10)) → (¬ (v1 = nI 4)) → (¬ (v1 < nI 32)) → (nI 126 < v1) → pW ns d 79 135 [some (pm_r 20 0), some (pm_i v1)] [] (mm x R Z Y o A c (pm_v G 20 27 (nI 0)) g) Q) (k25 : (¬ (v1 = nI 8)) → (v1 = nI 21) → (¬ (v1 = nI 10)) → (¬ (v1 = nI 4)) → (¬ (v1 < nI 32)) → (¬ (nI 126 < v1)) → pW ns d 79 130 [some (pm_r 20 0), some (pm_i v1)] [] (mm x R Z Y o A c (pm_v G 20 27 (nI 0)) g) Q) (k26 : (¬ (v1 = nI 8)) → (¬ (v1 = nI 21)) → (v1 = nI 10) → pW ns d 79 84 [some (pm_r 20 0), some (pm_i v1)] [] (mm x R Z Y o A c G g) Q) (k27 : (¬ (v1 = nI 8)) → (¬ (v1 = nI 21)) → (¬ (v1 = nI 10)) → (v1 = nI 4) → pW ns d 79 106 [some (pm_r 20 0), some (pm_i v1)] [] (mm x R Z Y o A c G g) Q) (k28 : (¬ (v1 = nI 8)) → (¬ (v1 = nI 21)) → (¬ (v1 = nI 10)) → (¬ (v1 = nI 4)) → (v1 < nI 32) → pW ns d 79 135 [some (pm_r 20 0), some (pm_i v1)] [] (mm x R Z Y o A c G g) Q) (k29 : (¬ (v1 = nI 8)) → (¬ (v1 = nI 21)) → (¬ (v1 = nI 10)) → (¬ (v1 = nI 4)) → (¬ (v1 < nI 32)) → (nI 126 < v1) → pW ns d 79 135 [some (pm_r 20 0), some (pm_i v1)] [] (mm x R Z Y o A c G g) Q) (k30 : (¬ (v1 = nI 8)) → (¬ (v1 = nI 21)) → (¬ (v1 = nI 10)) → (¬ (v1 = nI 4)) → (¬ (v1 < nI 32)) → (¬ (nI 126 < v1)) → pW ns d 79 130 [some (pm_r 20 0), some (pm_i v1)] [] (mm x R Z Y o A c G g) Q) : pW ns d 79 44 [some (pm_r 20 0), some (pm_i v1)] [] (mm x R Z Y o A c G g) Q := by
  refine b79_44 hR  (fun h1 => ?_) (fun h1 => ?_)
  · skip
    refine b79_50 hR   (fun h2 => ?_) (fun h2 => ?_)
    · skip
      refine b79_67 hR   (fun h3 => ?_) (fun h3 => ?_)
      · skip
        refine b79_73 hR   (fun h4 => ?_) (fun h4 => ?_)
        · skip
          exact (k1 h1 h2 h3 h4)
        · skip
          refine b79_101 hR   (fun h5 => ?_) (fun h5 => ?_)
          · skip
            exact (k2 h1 h2 h3 h4 h5)
          · skip
            refine b79_118 hR   (fun h6 => ?_) (fun h6 => ?_)
            · skip
              exact (k3 h1 h2 h3 h4 h5 h6)
            · skip
              refine b79_124 hR   (fun h7 => ?_) (fun h7 => ?_)
              · skip
                exact (k4 h1 h2 h3 h4 h5 h6 h7)
              · skip
                exact (k5 h1 h2 h3 h4 h5 h6 h7)
      · skip
        refine b79_78 hR   (fun h4 => ?_) (fun h4 => ?_)
        · skip
          exact (k6 h1 h2 h3 h4)
        · skip
          refine b79_101 hR   (fun h5 => ?_) (fun h5 => ?_)
          · skip
            exact (k7 h1 h2 h3 h4 h5)
          · skip
            refine b79_118 hR   (fun h6 => ?_) (fun h6 => ?_)
            · skip
              exact (k8 h1 h2 h3 h4 h5 h6)
            · skip
              refine b79_124 hR   (fun h7 => ?_) (fun h7 => ?_)
              · skip
                exact (k9 h1 h2 h3 h4 h5 h6 h7)
              · skip
                exact (k10 h1 h2 h3 h4 h5 h6 h7)
    · skip
      refine b79_57 hR   (fun h3 => ?_) (fun h3 => ?_)
      · skip
        refine b79_73 hR   (fun h4 => ?_) (fun h4 => ?_)
        · skip
          exact (k11 h1 h2 h3 h4)
        · skip
          refine b79_101 hR   (fun h5 => ?_) (fun h5 => ?_)
          · skip
            exact (k12 h1 h2 h3 h4 h5)
          · skip
            refine b79_118 hR   (fun h6 => ?_) (fun h6 => ?_)
            · skip
              exact (k13 h1 h2 h3 h4 h5 h6)
            · skip
              refine b79_124 hR   (fun h7 => ?_) (fun h7 => ?_)
              · skip
                exact (k14 h1 h2 h3 h4 h5 h6 h7)
              · skip
                exact (k15 h1 h2 h3 h4 h5 h6 h7)
      · skip
        refine b79_78 hR   (fun h4 => ?_) (fun h4 => ?_)
        · skip
          exact (k16 h1 h2 h3 h4)
        · skip
          refine b79_101 hR   (fun h5 => ?_) (fun h5 => ?_)
          · skip
            exact (k17 h1 h2 h3 h4 h5)
          · skip
            refine b79_118 hR   (fun h6 => ?_) (fun h6 => ?_)
            · skip
              exact (k18 h1 h2 h3 h4 h5 h6)
            · skip
              refine b79_124 hR   (fun h7 => ?_) (fun h7 => ?_)
              · skip
                exact (k19 h1 h2 h3 h4 h5 h6 h7)
              · skip
                exact (k20 h1 h2 h3 h4 h5 h6 h7)
  · skip
    refine b79_67 hR   (fun h2 => ?_) (fun h2 => ?_)
    · skip
      refine b79_73 hR   (fun h3 => ?_) (fun h3 => ?_)
      · skip
        exact (k21 h1 h2 h3)
      · skip
        refine b79_101 hR   (fun h4 => ?_) (fun h4 => ?_)
        · skip
          exact (k22 h1 h2 h3 h4)
        · skip
          refine b79_118 hR   (fun h5 => ?_) (fun h5 => ?_)
          · skip
            exact (k23 h1 h2 h3 h4 h5)
          · skip
            refine b79_124 hR   (fun h6 => ?_) (fun h6 => ?_)
            · skip
              exact (k24 h1 h2 h3 h4 h5 h6)
            · skip
              exact (k25 h1 h2 h3 h4 h5 h6)
    · skip
      refine b79_78 hR   (fun h3 => ?_) (fun h3 => ?_)
      · skip
        exact (k26 h1 h2 h3)
      · skip
        refine b79_101 hR   (fun h4 => ?_) (fun h4 => ?_)
        · skip
          exact (k27 h1 h2 h3 h4)
        · skip
          refine b79_118 hR   (fun h5 => ?_) (fun h5 => ?_)
          · skip
            exact (k28 h1 h2 h3 h4 h5)
          · skip
            refine b79_124 hR   (fun h6 => ?_) (fun h6 => ?_)
            · skip
              exact (k29 h1 h2 h3 h4 h5 h6)
            · skip
              exact (k30 h1 h2 h3 h4 h5 h6)
set_option maxRecDepth 20000 in
theorem t79_50 (hR : RS R) {v1 : Int32}  (k1 : (G 20 27 ≤ 0) → (v1 = nI 21) → (v1 = nI 10) → pW ns d 79 84 [some (pm_r 20 0), some (pm_i v1)] [] (mm x R Z Y o A c (pm_v G 20 27 (nI 0)) g) Q) (k2 : (G 20 27 ≤ 0) → (v1 = nI 21) → (¬ (v1 = nI 10)) → (v1 = nI 4) → pW ns d 79 106 [some (pm_r 20 0), some (pm_i v1)] [] (mm x R Z Y o A c (pm_v G 20 27 (nI 0)) g) Q) (k3 : (G 20 27 ≤ 0) → (v1 = nI 21) → (¬ (v1 = nI 10)) → (¬ (v1 = nI 4)) → (v1 < nI 32) → pW ns d 79 135 [some (pm_r 20 0), some (pm_i v1)] [] (mm x R Z Y o A c (pm_v G 20 27 (nI 0)) g) Q) (k4 : (G 20 27 ≤ 0) → (v1 = nI 21) → (¬ (v1 = nI 10)) → (¬ (v1 = nI 4)) → (¬ (v1 < nI 32)) → (nI 126 < v1) → pW ns d 79 135 [some (pm_r 20 0), some (pm_i v1)] [] (mm x R Z Y o A c (pm_v G 20 27 (nI 0)) g) Q) (k5 : (G 20 27 ≤ 0) → (v1 = nI 21) → (¬ (v1 = nI 10)) → (¬ (v1 = nI 4)) → (¬ (v1 < nI 32)) → (¬ (nI 126 < v1)) → pW ns d 79 130 [some (pm_r 20 0), some (pm_i v1)] [] (mm x R Z Y o A c (pm_v G 20 27 (nI 0)) g) Q) (k6 : (G 20 27 ≤ 0) → (¬ (v1 = nI 21)) → (v1 = nI 10) → pW ns d 79 84 [some (pm_r 20 0), some (pm_i v1)] [] (mm x R Z Y o A c G g) Q) (k7 : (G 20 27 ≤ 0) → (¬ (v1 = nI 21)) → (¬ (v1 = nI 10)) → (v1 = nI 4) → pW ns d 79 106 [some (pm_r 20 0), some (pm_i v1)] [] (mm x R Z Y o A c G g) Q) (k8 : (G 20 27 ≤ 0) → (¬ (v1 = nI 21)) → (¬ (v1 = nI 10)) → (¬ (v1 = nI 4)) → (v1 < nI 32) → pW ns d 79 135 [some (pm_r 20 0), some (pm_i v1)] [] (mm x R Z Y o A c G g) Q) (k9 : (G 20 27 ≤ 0) → (¬ (v1 = nI 21)) → (¬ (v1 = nI 10)) → (¬ (v1 = nI 4)) → (¬ (v1 < nI 32)) → (nI 126 < v1) → pW ns d 79 135 [some (pm_r 20 0), some (pm_i v1)] [] (mm x R Z Y o A c G g) Q) (k10 : (G 20 27 ≤ 0) → (¬ (v1 = nI 21)) → (¬ (v1 = nI 10)) → (¬ (v1 = nI 4)) → (¬ (v1 < nI 32)) → (¬ (nI 126 < v1)) → pW ns d 79 130 [some (pm_r 20 0), some (pm_i v1)] [] (mm x R Z Y o A c G g) Q) (k11 : (¬ (G 20 27 ≤ 0)) → (v1 = nI 21) → (v1 = nI 10) → pW ns d 79 84 [some (pm_r 20 0), some (pm_i v1)] [] (mm x R Z Y o A c (pm_v (pm_v G 20 27 ((G 20 27) - (nI 1))) 20 27 (nI 0)) g) Q) (k12 : (¬ (G 20 27 ≤ 0)) → (v1 = nI 21) → (¬ (v1 = nI 10)) → (v1 = nI 4) → pW ns d 79 106 [some (pm_r 20 0), some (pm_i v1)] [] (mm x R Z Y o A c (pm_v (pm_v G 20 27 ((G 20 27) - (nI 1))) 20 27 (nI 0)) g) Q) (k13 : (¬ (G 20 27 ≤ 0)) → (v1 = nI 21) → (¬ (v1 = nI 10)) → (¬ (v1 = nI 4)) → (v1 < nI 32) → pW ns d 79 135 [some (pm_r 20 0), some (pm_i v1)] [] (mm x R Z Y o A c (pm_v (pm_v G 20 27 ((G 20 27) - (nI 1))) 20 27 (nI 0)) g) Q) (k14 : (¬ (G 20 27 ≤ 0)) → (v1 = nI 21) → (¬ (v1 = nI 10)) → (¬ (v1 = nI 4)) → (¬ (v1 < nI 32)) → (nI 126 < v1) → pW ns d 79 135 [some (pm_r 20 0), some (pm_i v1)] [] (mm x R Z Y o A c (pm_v (pm_v G 20 27 ((G 20 27) - (nI 1))) 20 27 (nI 0)) g) Q) (k15 : (¬ (G 20 27 ≤ 0)) → (v1 = nI 21) → (¬ (v1 = nI 10)) → (¬ (v1 = nI 4)) → (¬ (v1 < nI 32)) → (¬ (nI 126 < v1)) → pW ns d 79 130 [some (pm_r 20 0), some (pm_i v1)] [] (mm x R Z Y o A c (pm_v (pm_v G 20 27 ((G 20 27) - (nI 1))) 20 27 (nI 0)) g) Q) (k16 : (¬ (G 20 27 ≤ 0)) → (¬ (v1 = nI 21)) → (v1 = nI 10) → pW ns d 79 84 [some (pm_r 20 0), some (pm_i v1)] [] (mm x R Z Y o A c (pm_v G 20 27 ((G 20 27) - (nI 1))) g) Q) (k17 : (¬ (G 20 27 ≤ 0)) → (¬ (v1 = nI 21)) → (¬ (v1 = nI 10)) → (v1 = nI 4) → pW ns d 79 106 [some (pm_r 20 0), some (pm_i v1)] [] (mm x R Z Y o A c (pm_v G 20 27 ((G 20 27) - (nI 1))) g) Q) (k18 : (¬ (G 20 27 ≤ 0)) → (¬ (v1 = nI 21)) → (¬ (v1 = nI 10)) → (¬ (v1 = nI 4)) → (v1 < nI 32) → pW ns d 79 135 [some (pm_r 20 0), some (pm_i v1)] [] (mm x R Z Y o A c (pm_v G 20 27 ((G 20 27) - (nI 1))) g) Q) (k19 : (¬ (G 20 27 ≤ 0)) → (¬ (v1 = nI 21)) → (¬ (v1 = nI 10)) → (¬ (v1 = nI 4)) → (¬ (v1 < nI 32)) → (nI 126 < v1) → pW ns d 79 135 [some (pm_r 20 0), some (pm_i v1)] [] (mm x R Z Y o A c (pm_v G 20 27 ((G 20 27) - (nI 1))) g) Q) (k20 : (¬ (G 20 27 ≤ 0)) → (¬ (v1 = nI 21)) → (¬ (v1 = nI 10)) → (¬ (v1 = nI 4)) → (¬ (v1 < nI 32)) → (¬ (nI 126 < v1)) → pW ns d 79 130 [some (pm_r 20 0), some (pm_i v1)] [] (mm x R Z Y o A c (pm_v G 20 27 ((G 20 27) - (nI 1))) g) Q) : pW ns d 79 50 [some (pm_r 20 0), some (pm_i v1)] [] (mm x R Z Y o A c G g) Q := by
  refine b79_50 hR  (fun h1 => ?_) (fun h1 => ?_)
  · skip
    refine b79_67 hR   (fun h2 => ?_) (fun h2 => ?_)
    · skip
      refine b79_73 hR   (fun h3 => ?_) (fun h3 => ?_)
      · skip
        exact (k1 h1 h2 h3)
      · skip
        refine b79_101 hR   (fun h4 => ?_) (fun h4 => ?_)
        · skip
          exact (k2 h1 h2 h3 h4)
        · skip
          refine b79_118 hR   (fun h5 => ?_) (fun h5 => ?_)
          · skip
            exact (k3 h1 h2 h3 h4 h5)
          · skip
            refine b79_124 hR   (fun h6 => ?_) (fun h6 => ?_)
            · skip
              exact (k4 h1 h2 h3 h4 h5 h6)
            · skip
              exact (k5 h1 h2 h3 h4 h5 h6)
    · skip
      refine b79_78 hR   (fun h3 => ?_) (fun h3 => ?_)
      · skip
        exact (k6 h1 h2 h3)
      · skip
        refine b79_101 hR   (fun h4 => ?_) (fun h4 => ?_)
        · skip
          exact (k7 h1 h2 h3 h4)
        · skip
          refine b79_118 hR   (fun h5 => ?_) (fun h5 => ?_)
          · skip
            exact (k8 h1 h2 h3 h4 h5)
          · skip
            refine b79_124 hR   (fun h6 => ?_) (fun h6 => ?_)
            · skip
              exact (k9 h1 h2 h3 h4 h5 h6)
            · skip
              exact (k10 h1 h2 h3 h4 h5 h6)
  · skip
    refine b79_57 hR   (fun h2 => ?_) (fun h2 => ?_)
    · skip
      refine b79_73 hR   (fun h3 => ?_) (fun h3 => ?_)
      · skip
        exact (k11 h1 h2 h3)
      · skip
        refine b79_101 hR   (fun h4 => ?_) (fun h4 => ?_)
        · skip
          exact (k12 h1 h2 h3 h4)
        · skip
          refine b79_118 hR   (fun h5 => ?_) (fun h5 => ?_)
          · skip
            exact (k13 h1 h2 h3 h4 h5)
          · skip
            refine b79_124 hR   (fun h6 => ?_) (fun h6 => ?_)
            · skip
              exact (k14 h1 h2 h3 h4 h5 h6)
            · skip
              exact (k15 h1 h2 h3 h4 h5 h6)
    · skip
      refine b79_78 hR   (fun h3 => ?_) (fun h3 => ?_)
      · skip
        exact (k16 h1 h2 h3)
      · skip
        refine b79_101 hR   (fun h4 => ?_) (fun h4 => ?_)
        · skip
          exact (k17 h1 h2 h3 h4)
        · skip
          refine b79_118 hR   (fun h5 => ?_) (fun h5 => ?_)
          · skip
            exact (k18 h1 h2 h3 h4 h5)
          · skip
            refine b79_124 hR   (fun h6 => ?_) (fun h6 => ?_)
            · skip
              exact (k19 h1 h2 h3 h4 h5 h6)
            · skip
              exact (k20 h1 h2 h3 h4 h5 h6)
set_option maxRecDepth 20000 in
theorem t79_67 (hR : RS R) {v1 : Int32}  (k1 : (v1 = nI 21) → (v1 = nI 10) → pW ns d 79 84 [some (pm_r 20 0), some (pm_i v1)] [] (mm x R Z Y o A c (pm_v G 20 27 (nI 0)) g) Q) (k2 : (v1 = nI 21) → (¬ (v1 = nI 10)) → (v1 = nI 4) → pW ns d 79 106 [some (pm_r 20 0), some (pm_i v1)] [] (mm x R Z Y o A c (pm_v G 20 27 (nI 0)) g) Q) (k3 : (v1 = nI 21) → (¬ (v1 = nI 10)) → (¬ (v1 = nI 4)) → (v1 < nI 32) → pW ns d 79 135 [some (pm_r 20 0), some (pm_i v1)] [] (mm x R Z Y o A c (pm_v G 20 27 (nI 0)) g) Q) (k4 : (v1 = nI 21) → (¬ (v1 = nI 10)) → (¬ (v1 = nI 4)) → (¬ (v1 < nI 32)) → (nI 126 < v1) → pW ns d 79 135 [some (pm_r 20 0), some (pm_i v1)] [] (mm x R Z Y o A c (pm_v G 20 27 (nI 0)) g) Q) (k5 : (v1 = nI 21) → (¬ (v1 = nI 10)) → (¬ (v1 = nI 4)) → (¬ (v1 < nI 32)) → (¬ (nI 126 < v1)) → pW ns d 79 130 [some (pm_r 20 0), some (pm_i v1)] [] (mm x R Z Y o A c (pm_v G 20 27 (nI 0)) g) Q) (k6 : (¬ (v1 = nI 21)) → (v1 = nI 10) → pW ns d 79 84 [some (pm_r 20 0), some (pm_i v1)] [] (mm x R Z Y o A c G g) Q) (k7 : (¬ (v1 = nI 21)) → (¬ (v1 = nI 10)) → (v1 = nI 4) → pW ns d 79 106 [some (pm_r 20 0), some (pm_i v1)] [] (mm x R Z Y o A c G g) Q) (k8 : (¬ (v1 = nI 21)) → (¬ (v1 = nI 10)) → (¬ (v1 = nI 4)) → (v1 < nI 32) → pW ns d 79 135 [some (pm_r 20 0), some (pm_i v1)] [] (mm x R Z Y o A c G g) Q) (k9 : (¬ (v1 = nI 21)) → (¬ (v1 = nI 10)) → (¬ (v1 = nI 4)) → (¬ (v1 < nI 32)) → (nI 126 < v1) → pW ns d 79 135 [some (pm_r 20 0), some (pm_i v1)] [] (mm x R Z Y o A c G g) Q) (k10 : (¬ (v1 = nI 21)) → (¬ (v1 = nI 10)) → (¬ (v1 = nI 4)) → (¬ (v1 < nI 32)) → (¬ (nI 126 < v1)) → pW ns d 79 130 [some (pm_r 20 0), some (pm_i v1)] [] (mm x R Z Y o A c G g) Q) : pW ns d 79 67 [some (pm_r 20 0), some (pm_i v1)] [] (mm x R Z Y o A c G g) Q := by
  refine b79_67 hR  (fun h1 => ?_) (fun h1 => ?_)
  · skip
    refine b79_73 hR   (fun h2 => ?_) (fun h2 => ?_)
    · skip
      exact (k1 h1 h2)
    · skip
      refine b79_101 hR   (fun h3 => ?_) (fun h3 => ?_)
      · skip
        exact (k2 h1 h2 h3)
      · skip
        refine b79_118 hR   (fun h4 => ?_) (fun h4 => ?_)
        · skip
          exact (k3 h1 h2 h3 h4)
        · skip
          refine b79_124 hR   (fun h5 => ?_) (fun h5 => ?_)
          · skip
            exact (k4 h1 h2 h3 h4 h5)
          · skip
            exact (k5 h1 h2 h3 h4 h5)
  · skip
    refine b79_78 hR   (fun h2 => ?_) (fun h2 => ?_)
    · skip
      exact (k6 h1 h2)
    · skip
      refine b79_101 hR   (fun h3 => ?_) (fun h3 => ?_)
      · skip
        exact (k7 h1 h2 h3)
      · skip
        refine b79_118 hR   (fun h4 => ?_) (fun h4 => ?_)
        · skip
          exact (k8 h1 h2 h3 h4)
        · skip
          refine b79_124 hR   (fun h5 => ?_) (fun h5 => ?_)
          · skip
            exact (k9 h1 h2 h3 h4 h5)
          · skip
            exact (k10 h1 h2 h3 h4 h5)
set_option maxRecDepth 20000 in
theorem t79_57 (hR : RS R) {v1 : Int32}  (k1 : (v1 = nI 21) → (v1 = nI 10) → pW ns d 79 84 [some (pm_r 20 0), some (pm_i v1)] [] (mm x R Z Y o A c (pm_v (pm_v G 20 27 ((G 20 27) - (nI 1))) 20 27 (nI 0)) g) Q) (k2 : (v1 = nI 21) → (¬ (v1 = nI 10)) → (v1 = nI 4) → pW ns d 79 106 [some (pm_r 20 0), some (pm_i v1)] [] (mm x R Z Y o A c (pm_v (pm_v G 20 27 ((G 20 27) - (nI 1))) 20 27 (nI 0)) g) Q) (k3 : (v1 = nI 21) → (¬ (v1 = nI 10)) → (¬ (v1 = nI 4)) → (v1 < nI 32) → pW ns d 79 135 [some (pm_r 20 0), some (pm_i v1)] [] (mm x R Z Y o A c (pm_v (pm_v G 20 27 ((G 20 27) - (nI 1))) 20 27 (nI 0)) g) Q) (k4 : (v1 = nI 21) → (¬ (v1 = nI 10)) → (¬ (v1 = nI 4)) → (¬ (v1 < nI 32)) → (nI 126 < v1) → pW ns d 79 135 [some (pm_r 20 0), some (pm_i v1)] [] (mm x R Z Y o A c (pm_v (pm_v G 20 27 ((G 20 27) - (nI 1))) 20 27 (nI 0)) g) Q) (k5 : (v1 = nI 21) → (¬ (v1 = nI 10)) → (¬ (v1 = nI 4)) → (¬ (v1 < nI 32)) → (¬ (nI 126 < v1)) → pW ns d 79 130 [some (pm_r 20 0), some (pm_i v1)] [] (mm x R Z Y o A c (pm_v (pm_v G 20 27 ((G 20 27) - (nI 1))) 20 27 (nI 0)) g) Q) (k6 : (¬ (v1 = nI 21)) → (v1 = nI 10) → pW ns d 79 84 [some (pm_r 20 0), some (pm_i v1)] [] (mm x R Z Y o A c (pm_v G 20 27 ((G 20 27) - (nI 1))) g) Q) (k7 : (¬ (v1 = nI 21)) → (¬ (v1 = nI 10)) → (v1 = nI 4) → pW ns d 79 106 [some (pm_r 20 0), some (pm_i v1)] [] (mm x R Z Y o A c (pm_v G 20 27 ((G 20 27) - (nI 1))) g) Q) (k8 : (¬ (v1 = nI 21)) → (¬ (v1 = nI 10)) → (¬ (v1 = nI 4)) → (v1 < nI 32) → pW ns d 79 135 [some (pm_r 20 0), some (pm_i v1)] [] (mm x R Z Y o A c (pm_v G 20 27 ((G 20 27) - (nI 1))) g) Q) (k9 : (¬ (v1 = nI 21)) → (¬ (v1 = nI 10)) → (¬ (v1 = nI 4)) → (¬ (v1 < nI 32)) → (nI 126 < v1) → pW ns d 79 135 [some (pm_r 20 0), some (pm_i v1)] [] (mm x R Z Y o A c (pm_v G 20 27 ((G 20 27) - (nI 1))) g) Q) (k10 : (¬ (v1 = nI 21)) → (¬ (v1 = nI 10)) → (¬ (v1 = nI 4)) → (¬ (v1 < nI 32)) → (¬ (nI 126 < v1)) → pW ns d 79 130 [some (pm_r 20 0), some (pm_i v1)] [] (mm x R Z Y o A c (pm_v G 20 27 ((G 20 27) - (nI 1))) g) Q) : pW ns d 79 57 [some (pm_r 20 0), some (pm_i v1)] [] (mm x R Z Y o A c G g) Q := by
  refine b79_57 hR  (fun h1 => ?_) (fun h1 => ?_)
  · skip
    refine b79_73 hR   (fun h2 => ?_) (fun h2 => ?_)
    · skip
      exact (k1 h1 h2)
    · skip
      refine b79_101 hR   (fun h3 => ?_) (fun h3 => ?_)
      · skip
        exact (k2 h1 h2 h3)
      · skip
        refine b79_118 hR   (fun h4 => ?_) (fun h4 => ?_)
        · skip
          exact (k3 h1 h2 h3 h4)
        · skip
          refine b79_124 hR   (fun h5 => ?_) (fun h5 => ?_)
          · skip
            exact (k4 h1 h2 h3 h4 h5)
          · skip
            exact (k5 h1 h2 h3 h4 h5)
  · skip
    refine b79_78 hR   (fun h2 => ?_) (fun h2 => ?_)
    · skip
      exact (k6 h1 h2)
    · skip
      refine b79_101 hR   (fun h3 => ?_) (fun h3 => ?_)
      · skip
        exact (k7 h1 h2 h3)
      · skip
        refine b79_118 hR   (fun h4 => ?_) (fun h4 => ?_)
        · skip
          exact (k8 h1 h2 h3 h4)
        · skip
          refine b79_124 hR   (fun h5 => ?_) (fun h5 => ?_)
          · skip
            exact (k9 h1 h2 h3 h4 h5)
          · skip
            exact (k10 h1 h2 h3 h4 h5)
set_option maxRecDepth 20000 in
theorem t79_73 (hR : RS R) {v1 : Int32}  (k1 : (v1 = nI 10) → pW ns d 79 84 [some (pm_r 20 0), some (pm_i v1)] [] (mm x R Z Y o A c (pm_v G 20 27 (nI 0)) g) Q) (k2 : (¬ (v1 = nI 10)) → (v1 = nI 4) → pW ns d 79 106 [some (pm_r 20 0), some (pm_i v1)] [] (mm x R Z Y o A c (pm_v G 20 27 (nI 0)) g) Q) (k3 : (¬ (v1 = nI 10)) → (¬ (v1 = nI 4)) → (v1 < nI 32) → pW ns d 79 135 [some (pm_r 20 0), some (pm_i v1)] [] (mm x R Z Y o A c (pm_v G 20 27 (nI 0)) g) Q) (k4 : (¬ (v1 = nI 10)) → (¬ (v1 = nI 4)) → (¬ (v1 < nI 32)) → (nI 126 < v1) → pW ns d 79 135 [some (pm_r 20 0), some (pm_i v1)] [] (mm x R Z Y o A c (pm_v G 20 27 (nI 0)) g) Q) (k5 : (¬ (v1 = nI 10)) → (¬ (v1 = nI 4)) → (¬ (v1 < nI 32)) → (¬ (nI 126 < v1)) → pW ns d 79 130 [some (pm_r 20 0), some (pm_i v1)] [] (mm x R Z Y o A c (pm_v G 20 27 (nI 0)) g) Q) : pW ns d 79 73 [some (pm_r 20 0), some (pm_i v1)] [] (mm x R Z Y o A c G g) Q := by
  refine b79_73 hR  (fun h1 => ?_) (fun h1 => ?_)
  · skip
    exact (k1 h1)
  · skip
    refine b79_101 hR   (fun h2 => ?_) (fun h2 => ?_)
    · skip
      exact (k2 h1 h2)
    · skip
      refine b79_118 hR   (fun h3 => ?_) (fun h3 => ?_)
      · skip
        exact (k3 h1 h2 h3)
      · skip
        refine b79_124 hR   (fun h4 => ?_) (fun h4 => ?_)
        · skip
          exact (k4 h1 h2 h3 h4)
        · skip
          exact (k5 h1 h2 h3 h4)
set_option maxRecDepth 20000 in
theorem t79_78 (hR : RS R) {v1 : Int32}  (k1 : (v1 = nI 10) → pW ns d 79 84 [some (pm_r 20 0), some (pm_i v1)] [] (mm x R Z Y o A c G g) Q) (k2 : (¬ (v1 = nI 10)) → (v1 = nI 4) → pW ns d 79 106 [some (pm_r 20 0), some (pm_i v1)] [] (mm x R Z Y o A c G g) Q) (k3 : (¬ (v1 = nI 10)) → (¬ (v1 = nI 4)) → (v1 < nI 32) → pW ns d 79 135 [some (pm_r 20 0), some (pm_i v1)] [] (mm x R Z Y o A c G g) Q) (k4 : (¬ (v1 = nI 10)) → (¬ (v1 = nI 4)) → (¬ (v1 < nI 32)) → (nI 126 < v1) → pW ns d 79 135 [some (pm_r 20 0), some (pm_i v1)] [] (mm x R Z Y o A c G g) Q) (k5 : (¬ (v1 = nI 10)) → (¬ (v1 = nI 4)) → (¬ (v1 < nI 32)) → (¬ (nI 126 < v1)) → pW ns d 79 130 [some (pm_r 20 0), some (pm_i v1)] [] (mm x R Z Y o A c G g) Q) : pW ns d 79 78 [some (pm_r 20 0), some (pm_i v1)] [] (mm x R Z Y o A c G g) Q := by
  refine b79_78 hR  (fun h1 => ?_) (fun h1 => ?_)
  · skip
    exact (k1 h1)
  · skip
    refine b79_101 hR   (fun h2 => ?_) (fun h2 => ?_)
    · skip
      exact (k2 h1 h2)
    · skip
      refine b79_118 hR   (fun h3 => ?_) (fun h3 => ?_)
      · skip
        exact (k3 h1 h2 h3)
      · skip
        refine b79_124 hR   (fun h4 => ?_) (fun h4 => ?_)
        · skip
          exact (k4 h1 h2 h3 h4)
        · skip
          exact (k5 h1 h2 h3 h4)
set_option maxRecDepth 20000 in
theorem t79_101 (hR : RS R) {v1 : Int32}  (k1 : (v1 = nI 4) → pW ns d 79 106 [some (pm_r 20 0), some (pm_i v1)] [] (mm x R Z Y o A c G g) Q) (k2 : (¬ (v1 = nI 4)) → (v1 < nI 32) → pW ns d 79 135 [some (pm_r 20 0), some (pm_i v1)] [] (mm x R Z Y o A c G g) Q) (k3 : (¬ (v1 = nI 4)) → (¬ (v1 < nI 32)) → (nI 126 < v1) → pW ns d 79 135 [some (pm_r 20 0), some (pm_i v1)] [] (mm x R Z Y o A c G g) Q) (k4 : (¬ (v1 = nI 4)) → (¬ (v1 < nI 32)) → (¬ (nI 126 < v1)) → pW ns d 79 130 [some (pm_r 20 0), some (pm_i v1)] [] (mm x R Z Y o A c G g) Q) : pW ns d 79 101 [some (pm_r 20 0), some (pm_i v1)] [] (mm x R Z Y o A c G g) Q := by
  refine b79_101 hR  (fun h1 => ?_) (fun h1 => ?_)
  · skip
    exact (k1 h1)
  · skip
    refine b79_118 hR   (fun h2 => ?_) (fun h2 => ?_)
    · skip
      exact (k2 h1 h2)
    · skip
      refine b79_124 hR   (fun h3 => ?_) (fun h3 => ?_)
      · skip
        exact (k3 h1 h2 h3)
      · skip
        exact (k4 h1 h2 h3)
set_option maxRecDepth 20000 in
theorem t79_89 (hR : RS R) {v1 : Int32} {vs0 : Int32}  (k1 : (vs0 = 0) → (v1 = nI 4) → pW ns d 79 106 [some (pm_r 20 0), some (pm_i v1)] [] (mm x R Z Y o A c G g) Q) (k2 : (vs0 = 0) → (¬ (v1 = nI 4)) → (v1 < nI 32) → pW ns d 79 135 [some (pm_r 20 0), some (pm_i v1)] [] (mm x R Z Y o A c G g) Q) (k3 : (vs0 = 0) → (¬ (v1 = nI 4)) → (¬ (v1 < nI 32)) → (nI 126 < v1) → pW ns d 79 135 [some (pm_r 20 0), some (pm_i v1)] [] (mm x R Z Y o A c G g) Q) (k4 : (vs0 = 0) → (¬ (v1 = nI 4)) → (¬ (v1 < nI 32)) → (¬ (nI 126 < v1)) → pW ns d 79 130 [some (pm_r 20 0), some (pm_i v1)] [] (mm x R Z Y o A c G g) Q) (k5 : (¬ (vs0 = 0)) → pW ns d 79 92 [some (pm_r 20 0), some (pm_i v1)] [] (mm x R Z Y o A c G g) Q) : pW ns d 79 89 [some (pm_r 20 0), some (pm_i v1)] [pm_i vs0] (mm x R Z Y o A c G g) Q := by
  refine b79_89 hR  (fun h1 => ?_) (fun h1 => ?_)
  · skip
    refine b79_101 hR   (fun h2 => ?_) (fun h2 => ?_)
    · skip
      exact (k1 h1 h2)
    · skip
      refine b79_118 hR   (fun h3 => ?_) (fun h3 => ?_)
      · skip
        exact (k2 h1 h2 h3)
      · skip
        refine b79_124 hR   (fun h4 => ?_) (fun h4 => ?_)
        · skip
          exact (k3 h1 h2 h3 h4)
        · skip
          exact (k4 h1 h2 h3 h4)
  · skip
    exact (k5 h1)
set_option maxRecDepth 20000 in
theorem t79_118 (hR : RS R) {v1 : Int32}  (k1 : (v1 < nI 32) → pW ns d 79 135 [some (pm_r 20 0), some (pm_i v1)] [] (mm x R Z Y o A c G g) Q) (k2 : (¬ (v1 < nI 32)) → (nI 126 < v1) → pW ns d 79 135 [some (pm_r 20 0), some (pm_i v1)] [] (mm x R Z Y o A c G g) Q) (k3 : (¬ (v1 < nI 32)) → (¬ (nI 126 < v1)) → pW ns d 79 130 [some (pm_r 20 0), some (pm_i v1)] [] (mm x R Z Y o A c G g) Q) : pW ns d 79 118 [some (pm_r 20 0), some (pm_i v1)] [] (mm x R Z Y o A c G g) Q := by
  refine b79_118 hR  (fun h1 => ?_) (fun h1 => ?_)
  · skip
    exact (k1 h1)
  · skip
    refine b79_124 hR   (fun h2 => ?_) (fun h2 => ?_)
    · skip
      exact (k2 h1 h2)
    · skip
      exact (k3 h1 h2)
set_option maxRecDepth 20000 in
theorem t79_111 (hR : RS R) {v1 : Int32} {vs0 : Int32}  (k1 : (vs0 = 0) → (v1 < nI 32) → pW ns d 79 135 [some (pm_r 20 0), some (pm_i v1)] [] (mm x R Z Y o A c G g) Q) (k2 : (vs0 = 0) → (¬ (v1 < nI 32)) → (nI 126 < v1) → pW ns d 79 135 [some (pm_r 20 0), some (pm_i v1)] [] (mm x R Z Y o A c G g) Q) (k3 : (vs0 = 0) → (¬ (v1 < nI 32)) → (¬ (nI 126 < v1)) → pW ns d 79 130 [some (pm_r 20 0), some (pm_i v1)] [] (mm x R Z Y o A c G g) Q) (k4 : (¬ (vs0 = 0)) → pW ns d 79 114 [some (pm_r 20 0), some (pm_i v1)] [] (mm x R Z Y o A c G g) Q) : pW ns d 79 111 [some (pm_r 20 0), some (pm_i v1)] [pm_i vs0] (mm x R Z Y o A c G g) Q := by
  refine b79_111 hR  (fun h1 => ?_) (fun h1 => ?_)
  · skip
    refine b79_118 hR   (fun h2 => ?_) (fun h2 => ?_)
    · skip
      exact (k1 h1 h2)
    · skip
      refine b79_124 hR   (fun h3 => ?_) (fun h3 => ?_)
      · skip
        exact (k2 h1 h2 h3)
      · skip
        exact (k3 h1 h2 h3)
  · skip
    exact (k4 h1)
set_option maxRecDepth 20000 in
theorem t79_124 (hR : RS R) {v1 : Int32}  (k1 : (nI 126 < v1) → pW ns d 79 135 [some (pm_r 20 0), some (pm_i v1)] [] (mm x R Z Y o A c G g) Q) (k2 : (¬ (nI 126 < v1)) → pW ns d 79 130 [some (pm_r 20 0), some (pm_i v1)] [] (mm x R Z Y o A c G g) Q) : pW ns d 79 124 [some (pm_r 20 0), some (pm_i v1)] [] (mm x R Z Y o A c G g) Q := by
  refine b79_124 hR  (fun h1 => ?_) (fun h1 => ?_)
  · skip
    exact (k1 h1)
  · skip
    exact (k2 h1)
/-! 80 JobLayerModel.isReady -/
set_option maxRecDepth 20000 in
theorem b80_0 (hR : RS R) {v1 : Int32}  {x2 : Nat} {o2 : Int64} {A2 : Nat → Nat → Nat → Int32} {c2 : Nat → Int64} {G2 : Nat → Nat → Int32} {g2 : Nat → Int64} {y : Int32} (hE : pE ns d 47 [pm_r 20 0, pm_i v1] (mm x R Z Y o A c G g) (.inl (some (pm_i y)), (mm x2 R Z Y o2 A2 c2 G2 g2))) (k : pW ns d 80 5 [some (pm_r 20 0), some (pm_i v1)] [pm_i y] (mm x2 R Z Y o2 A2 c2 G2 g2) Q) : pW ns d 80 0 [some (pm_r 20 0), some (pm_i v1)] [] (mm x R Z Y o A c G g) Q := by
  refine pW_call (pc' := 2) (r := []) (L' := [some (pm_r 20 0), some (pm_i v1)]) 3 (fun call n => ?_) hE k
  exact Eq.trans (b := pm_g (mm x R Z Y o A c G g) 20 0 (pm_cl call 80 (pm_go call ns d 80 n) 2 47 [pm_r 20 0, pm_i v1] [] [some (pm_r 20 0), some (pm_i v1)] (mm x R Z Y o A c G g))) rfl (g_ok (f := 20) (by decide) rfl)
set_option maxRecDepth 20000 in
theorem b80_5 (hR : RS R) {v1 : Int32} {vs0 : Int32}   (k1 : vs0 = 0 → pW ns d 80 22 [some (pm_r 20 0), some (pm_i v1)] [] (mm x R Z Y o A c G g) Q) (k2 : ¬ (vs0 = 0) → pW ns d 80 8 [some (pm_r 20 0), some (pm_i v1)] [] (mm x R Z Y o A c G g) Q) : pW ns d 80 5 [some (pm_r 20 0), some (pm_i v1)] [pm_i vs0] (mm x R Z Y o A c G g) Q := by
  exact pW_if 1 (c := vs0 = 0) (fun call n => rfl) k1 k2
set_option maxRecDepth 20000 in
theorem b80_22 (hR : RS R) {u0 : Option pm_V} {u1 : Option pm_V}   (k : Q (.inl (some (pm_i (nI 0))), (mm x R Z Y o A c G g))) : pW ns d 80 22 [u0, u1] [] (mm x R Z Y o A c G g) Q := by
  refine pW_ret 2 (fun call n => ?_) k
  exact Eq.trans (b := pm_bo (nI 0) (some (.inl (some (pm_i (nI 0))), (mm x R Z Y o A c G g)))) rfl (bo_ok (by decide))
set_option maxRecDepth 20000 in
theorem b80_8 (hR : RS R) {v1 : Int32} {j1 : Nat} (e1 : v1 = nI j1) (l1 : j1 < 8)  (k1 : G 21 j1 = nI 1 → pW ns d 80 18 [some (pm_r 20 0), some (pm_i v1)] [] (mm x R Z Y o A c G g) Q) (k2 : ¬ (G 21 j1 = nI 1) → pW ns d 80 22 [some (pm_r 20 0), some (pm_i v1)] [] (mm x R Z Y o A c G g) Q) : pW ns d 80 8 [some (pm_r 20 0), some (pm_i v1)] [] (mm x R Z Y o A c G g) Q := by
  refine pW_eq 2 (pc' := 12) (L' := [some (pm_r 20 0), some (pm_i v1)]) (S' := [pm_r 21 0]) (M' := (mm x R Z Y o A c G g)) (fun call n => ?_) ?_
  · refine Eq.trans (b := pm_g (mm x R Z Y o A c G g) 20 0 (pm_go call ns d 80 n 12 [some (pm_r 20 0), some (pm_i v1)] [pm_a (R 20 0 1)] (mm x R Z Y o A c G g))) rfl ?_
    refine (g_ok (f := 20) (by decide) rfl).trans ?_
    exact (congrArg (fun z => pm_go call ns d 80 n 12 [some (pm_r 20 0), some (pm_i v1)] [pm_a z] (mm x R Z Y o A c G g)) (rs_20_1 hR))
  refine pW_eq 2 (pc' := 14) (L' := [some (pm_r 20 0), some (pm_i v1)]) (S' := [pm_i (G 21 j1)]) (M' := (mm x R Z Y o A c G g)) (fun call n => ?_) ?_
  · refine Eq.trans (b := pm_g (mm x R Z Y o A c G g) 21 0 (pm_ix (v1) 8 (fun jx => pm_go call ns d 80 n 14 [some (pm_r 20 0), some (pm_i v1)] [pm_i (G 21 jx)] (mm x R Z Y o A c G g)))) rfl ?_
    refine (g_ok (f := 21) (by decide) rfl).trans ?_
    refine (ix_ok (j := j1) e1 l1 (by decide)).trans ?_
    rfl
  exact pW_if 2 (c := G 21 j1 = nI 1) (fun call n => rfl) k1 k2
set_option maxRecDepth 20000 in
theorem b80_18 (hR : RS R) {u0 : Option pm_V} {u1 : Option pm_V}   (k : Q (.inl (some (pm_i (nI 1))), (mm x R Z Y o A c G g))) : pW ns d 80 18 [u0, u1] [] (mm x R Z Y o A c G g) Q := by
  refine pW_ret 3 (fun call n => ?_) k
  exact Eq.trans (b := pm_bo (nI 1) (some (.inl (some (pm_i (nI 1))), (mm x R Z Y o A c G g)))) rfl (bo_ok (by decide))
set_option maxRecDepth 20000 in
theorem t80_5 (hR : RS R) {v1 : Int32} {vs0 : Int32}  (k1 : (vs0 = 0) → Q (.inl (some (pm_i (nI 0))), (mm x R Z Y o A c G g))) (k2 : (¬ (vs0 = 0)) → pW ns d 80 8 [some (pm_r 20 0), some (pm_i v1)] [] (mm x R Z Y o A c G g) Q) : pW ns d 80 5 [some (pm_r 20 0), some (pm_i v1)] [pm_i vs0] (mm x R Z Y o A c G g) Q := by
  refine b80_5 hR  (fun h1 => ?_) (fun h1 => ?_)
  · skip
    exact b80_22 hR   (k1 h1)
  · skip
    exact (k2 h1)
set_option maxRecDepth 20000 in
theorem t80_8 (hR : RS R) {v1 : Int32} {j1 : Nat} (e1 : v1 = nI j1) (l1 : j1 < 8) (k1 : (G 21 j1 = nI 1) → Q (.inl (some (pm_i (nI 1))), (mm x R Z Y o A c G g))) (k2 : (¬ (G 21 j1 = nI 1)) → Q (.inl (some (pm_i (nI 0))), (mm x R Z Y o A c G g))) : pW ns d 80 8 [some (pm_r 20 0), some (pm_i v1)] [] (mm x R Z Y o A c G g) Q := by
  refine b80_8 hR e1 l1 (fun h1 => ?_) (fun h1 => ?_)
  · skip
    exact b80_18 hR   (k1 h1)
  · skip
    exact b80_22 hR   (k2 h1)
/-! 81 JobLayerModel.may -/
set_option maxRecDepth 20000 in
theorem b81_0 (hR : RS R) {v1 : Int32} {v2 : Int32}  {x2 : Nat} {o2 : Int64} {A2 : Nat → Nat → Nat → Int32} {c2 : Nat → Int64} {G2 : Nat → Nat → Int32} {g2 : Nat → Int64} {y : Int32} (hE : pE ns d 80 [pm_r 20 0, pm_i v1] (mm x R Z Y o A c G g) (.inl (some (pm_i y)), (mm x2 R Z Y o2 A2 c2 G2 g2))) (k : pW ns d 81 6 [some (pm_r 20 0), some (pm_i v1), some (pm_i v2)] [pm_i y, pm_r 20 0] (mm x2 R Z Y o2 A2 c2 G2 g2) Q) : pW ns d 81 0 [some (pm_r 20 0), some (pm_i v1), some (pm_i v2)] [] (mm x R Z Y o A c G g) Q := by
  refine pW_call (pc' := 3) (r := [pm_r 20 0]) (L' := [some (pm_r 20 0), some (pm_i v1), some (pm_i v2)]) 4 (fun call n => ?_) hE k
  exact Eq.trans (b := pm_g (mm x R Z Y o A c G g) 20 0 (pm_cl call 81 (pm_go call ns d 81 n) 3 80 [pm_r 20 0, pm_i v1] [pm_r 20 0] [some (pm_r 20 0), some (pm_i v1), some (pm_i v2)] (mm x R Z Y o A c G g))) rfl (g_ok (f := 20) (by decide) rfl)
set_option maxRecDepth 20000 in
theorem b81_6 (hR : RS R) {u1 : Option pm_V} {v2 : Int32} {vs0 : Int32}   (k1 : vs0 = 0 → pW ns d 81 13 [some (pm_r 20 0), u1, some (pm_i v2)] [pm_r 20 0] (mm x R Z Y o A c G g) Q) (k2 : ¬ (vs0 = 0) → pW ns d 81 9 [some (pm_r 20 0), u1, some (pm_i v2)] [pm_r 20 0] (mm x R Z Y o A c G g) Q) : pW ns d 81 6 [some (pm_r 20 0), u1, some (pm_i v2)] [pm_i vs0, pm_r 20 0] (mm x R Z Y o A c G g) Q := by
  exact pW_if 1 (c := vs0 = 0) (fun call n => rfl) k1 k2
set_option maxRecDepth 20000 in
theorem b81_13 (hR : RS R) {u1 : Option pm_V} {v2 : Int32}   (k1 : (pm_v G 20 0 v2) 20 0 = 0 → pW ns d 81 24 [some (pm_r 20 0), u1, some (pm_i v2)] [] (mm x R Z Y o A c (pm_v G 20 0 v2) g) Q) (k2 : ¬ ((pm_v G 20 0 v2) 20 0 = 0) → pW ns d 81 28 [some (pm_r 20 0), u1, some (pm_i v2)] [] (mm x R Z Y o A c (pm_v G 20 0 v2) g) Q) : pW ns d 81 13 [some (pm_r 20 0), u1, some (pm_i v2)] [pm_r 20 0] (mm x R Z Y o A c G g) Q := by
  refine pW_eq 2 (pc' := 17) (L' := [some (pm_r 20 0), u1, some (pm_i v2)]) (S' := []) (M' := (mm x R Z Y o A c (pm_v G 20 0 v2) g)) (fun call n => ?_) ?_
  · refine Eq.trans (b := pm_g (mm x R Z Y o A c G g) 20 0 (pm_go call ns d 81 n 17 [some (pm_r 20 0), u1, some (pm_i v2)] [] (pm_u (mA Z A G) 20 0 0 v2, mB Y o c g, R, pm_tot, x))) rfl ?_
    refine (g_ok (f := 20) (by decide) rfl).trans ?_
    exact (congrArg (fun z => pm_go call ns d 81 n 17 [some (pm_r 20 0), u1, some (pm_i v2)] [] (z, mB Y o c g, R, pm_tot, x)) (uG (by decide)))
  refine pW_eq 2 (pc' := 21) (L' := [some (pm_r 20 0), u1, some (pm_i v2)]) (S' := [pm_i ((pm_v G 20 0 v2) 20 0)]) (M' := (mm x R Z Y o A c (pm_v G 20 0 v2) g)) (fun call n => ?_) ?_
  · refine Eq.trans (b := pm_g (mm x R Z Y o A c (pm_v G 20 0 v2) g) 20 0 (pm_go call ns d 81 n 21 [some (pm_r 20 0), u1, some (pm_i v2)] [pm_i ((pm_v G 20 0 v2) 20 0)] (mm x R Z Y o A c (pm_v G 20 0 v2) g))) rfl ?_
    refine (g_ok (f := 20) (by decide) rfl).trans ?_
    rfl
  exact pW_if 1 (c := (pm_v G 20 0 v2) 20 0 = 0) (fun call n => rfl) k1 k2
set_option maxRecDepth 20000 in
theorem b81_9 (hR : RS R) {u1 : Option pm_V} {u2 : Option pm_V}   (k1 : (pm_v G 20 0 (nI 0)) 20 0 = 0 → pW ns d 81 24 [some (pm_r 20 0), u1, u2] [] (mm x R Z Y o A c (pm_v G 20 0 (nI 0)) g) Q) (k2 : ¬ ((pm_v G 20 0 (nI 0)) 20 0 = 0) → pW ns d 81 28 [some (pm_r 20 0), u1, u2] [] (mm x R Z Y o A c (pm_v G 20 0 (nI 0)) g) Q) : pW ns d 81 9 [some (pm_r 20 0), u1, u2] [pm_r 20 0] (mm x R Z Y o A c G g) Q := by
  refine pW_eq 3 (pc' := 17) (L' := [some (pm_r 20 0), u1, u2]) (S' := []) (M' := (mm x R Z Y o A c (pm_v G 20 0 (nI 0)) g)) (fun call n => ?_) ?_
  · refine Eq.trans (b := pm_g (mm x R Z Y o A c G g) 20 0 (pm_go call ns d 81 n 17 [some (pm_r 20 0), u1, u2] [] (pm_u (mA Z A G) 20 0 0 (nI 0), mB Y o c g, R, pm_tot, x))) rfl ?_
    refine (g_ok (f := 20) (by decide) rfl).trans ?_
    exact (congrArg (fun z => pm_go call ns d 81 n 17 [some (pm_r 20 0), u1, u2] [] (z, mB Y o c g, R, pm_tot, x)) (uG (by decide)))
  refine pW_eq 2 (pc' := 21) (L' := [some (pm_r 20 0), u1, u2]) (S' := [pm_i ((pm_v G 20 0 (nI 0)) 20 0)]) (M' := (mm x R Z Y o A c (pm_v G 20 0 (nI 0)) g)) (fun call n => ?_) ?_
  · refine Eq.trans (b := pm_g (mm x R Z Y o A c (pm_v G 20 0 (nI 0)) g) 20 0 (pm_go call ns d 81 n 21 [some (pm_r 20 0), u1, u2] [pm_i ((pm_v G 20 0 (nI 0)) 20 0)] (mm x R Z Y o A c (pm_v G 20 0 (nI 0)) g))) rfl ?_
    refine (g_ok (f := 20) (by decide) rfl).trans ?_
    rfl
  exact pW_if 1 (c := (pm_v G 20 0 (nI 0)) 20 0 = 0) (fun call n => rfl) k1 k2
set_option maxRecDepth 20000 in
theorem b81_24 (hR : RS R) {u0 : Option pm_V} {u1 : Option pm_V} {u2 : Option pm_V}   (k : Q (.inl (some (pm_i (nI 1))), (mm x R Z Y o A c G g))) : pW ns d 81 24 [u0, u1, u2] [] (mm x R Z Y o A c G g) Q := by
  refine pW_ret 3 (fun call n => ?_) k
  exact Eq.trans (b := pm_bo (nI 1) (some (.inl (some (pm_i (nI 1))), (mm x R Z Y o A c G g)))) rfl (bo_ok (by decide))
set_option maxRecDepth 20000 in
theorem b81_28 (hR : RS R) {u0 : Option pm_V} {u1 : Option pm_V} {u2 : Option pm_V}   (k : Q (.inl (some (pm_i (nI 0))), (mm x R Z Y o A c G g))) : pW ns d 81 28 [u0, u1, u2] [] (mm x R Z Y o A c G g) Q := by
  refine pW_ret 2 (fun call n => ?_) k
  exact Eq.trans (b := pm_bo (nI 0) (some (.inl (some (pm_i (nI 0))), (mm x R Z Y o A c G g)))) rfl (bo_ok (by decide))
set_option maxRecDepth 20000 in
theorem t81_6 (hR : RS R) {u1 : Option pm_V} {v2 : Int32} {vs0 : Int32}  (k1 : (vs0 = 0) → ((pm_v G 20 0 v2) 20 0 = 0) → Q (.inl (some (pm_i (nI 1))), (mm x R Z Y o A c (pm_v G 20 0 v2) g))) (k2 : (vs0 = 0) → (¬ ((pm_v G 20 0 v2) 20 0 = 0)) → Q (.inl (some (pm_i (nI 0))), (mm x R Z Y o A c (pm_v G 20 0 v2) g))) (k3 : (¬ (vs0 = 0)) → ((pm_v G 20 0 (nI 0)) 20 0 = 0) → Q (.inl (some (pm_i (nI 1))), (mm x R Z Y o A c (pm_v G 20 0 (nI 0)) g))) (k4 : (¬ (vs0 = 0)) → (¬ ((pm_v G 20 0 (nI 0)) 20 0 = 0)) → Q (.inl (some (pm_i (nI 0))), (mm x R Z Y o A c (pm_v G 20 0 (nI 0)) g))) : pW ns d 81 6 [some (pm_r 20 0), u1, some (pm_i v2)] [pm_i vs0, pm_r 20 0] (mm x R Z Y o A c G g) Q := by
  refine b81_6 hR  (fun h1 => ?_) (fun h1 => ?_)
  · skip
    refine b81_13 hR   (fun h2 => ?_) (fun h2 => ?_)
    · skip
      exact b81_24 hR   (k1 h1 h2)
    · skip
      exact b81_28 hR   (k2 h1 h2)
  · skip
    refine b81_9 hR   (fun h2 => ?_) (fun h2 => ?_)
    · skip
      exact b81_24 hR   (k3 h1 h2)
    · skip
      exact b81_28 hR   (k4 h1 h2)
set_option maxRecDepth 20000 in
theorem t81_13 (hR : RS R) {u1 : Option pm_V} {v2 : Int32}  (k1 : ((pm_v G 20 0 v2) 20 0 = 0) → Q (.inl (some (pm_i (nI 1))), (mm x R Z Y o A c (pm_v G 20 0 v2) g))) (k2 : (¬ ((pm_v G 20 0 v2) 20 0 = 0)) → Q (.inl (some (pm_i (nI 0))), (mm x R Z Y o A c (pm_v G 20 0 v2) g))) : pW ns d 81 13 [some (pm_r 20 0), u1, some (pm_i v2)] [pm_r 20 0] (mm x R Z Y o A c G g) Q := by
  refine b81_13 hR  (fun h1 => ?_) (fun h1 => ?_)
  · skip
    exact b81_24 hR   (k1 h1)
  · skip
    exact b81_28 hR   (k2 h1)
set_option maxRecDepth 20000 in
theorem t81_9 (hR : RS R) {u1 : Option pm_V} {u2 : Option pm_V}  (k1 : ((pm_v G 20 0 (nI 0)) 20 0 = 0) → Q (.inl (some (pm_i (nI 1))), (mm x R Z Y o A c (pm_v G 20 0 (nI 0)) g))) (k2 : (¬ ((pm_v G 20 0 (nI 0)) 20 0 = 0)) → Q (.inl (some (pm_i (nI 0))), (mm x R Z Y o A c (pm_v G 20 0 (nI 0)) g))) : pW ns d 81 9 [some (pm_r 20 0), u1, u2] [pm_r 20 0] (mm x R Z Y o A c G g) Q := by
  refine b81_9 hR  (fun h1 => ?_) (fun h1 => ?_)
  · skip
    exact b81_24 hR   (k1 h1)
  · skip
    exact b81_28 hR   (k2 h1)
/-! 82 JobLayerModel.fork -/
set_option maxRecDepth 20000 in
theorem b82_0 (hR : RS R) {v1 : Int32} {u2 : Option pm_V} {u3 : Option pm_V}  {x2 : Nat} {o2 : Int64} {A2 : Nat → Nat → Nat → Int32} {c2 : Nat → Int64} {G2 : Nat → Nat → Int32} {g2 : Nat → Int64} {y : Int32} (hE : pE ns d 81 [pm_r 20 0, pm_i v1, pm_i (nI 1)] (mm x R Z Y o A c G g) (.inl (some (pm_i y)), (mm x2 R Z Y o2 A2 c2 G2 g2))) (k : pW ns d 82 6 [some (pm_r 20 0), some (pm_i v1), u2, u3] [pm_i y] (mm x2 R Z Y o2 A2 c2 G2 g2) Q) : pW ns d 82 0 [some (pm_r 20 0), some (pm_i v1), u2, u3] [] (mm x R Z Y o A c G g) Q := by
  refine pW_call (pc' := 3) (r := []) (L' := [some (pm_r 20 0), some (pm_i v1), u2, u3]) 4 (fun call n => ?_) hE k
  exact Eq.trans (b := pm_g (mm x R Z Y o A c G g) 20 0 (pm_cl call 82 (pm_go call ns d 82 n) 3 81 [pm_r 20 0, pm_i v1, pm_i (nI 1)] [] [some (pm_r 20 0), some (pm_i v1), u2, u3] (mm x R Z Y o A c G g))) rfl (g_ok (f := 20) (by decide) rfl)
set_option maxRecDepth 20000 in
theorem b82_6 (hR : RS R) {v1 : Int32} {u2 : Option pm_V} {u3 : Option pm_V} {vs0 : Int32}   (k1 : vs0 = 0 → pW ns d 82 9 [some (pm_r 20 0), some (pm_i v1), u2, u3] [] (mm x R Z Y o A c G g) Q) (k2 : ¬ (vs0 = 0) → pW ns d 82 11 [some (pm_r 20 0), some (pm_i v1), u2, u3] [] (mm x R Z Y o A c G g) Q) : pW ns d 82 6 [some (pm_r 20 0), some (pm_i v1), u2, u3] [pm_i vs0] (mm x R Z Y o A c G g) Q := by
  exact pW_if 1 (c := vs0 = 0) (fun call n => rfl) k1 k2
set_option maxRecDepth 20000 in
theorem b82_9 (hR : RS R) {u0 : Option pm_V} {u1 : Option pm_V} {u2 : Option pm_V} {u3 : Option pm_V}   (k : Q (.inl (some (pm_i (nI 0))), (mm x R Z Y o A c G g))) : pW ns d 82 9 [u0, u1, u2, u3] [] (mm x R Z Y o A c G g) Q := by
  refine pW_ret 2 (fun call n => ?_) k
  rfl
set_option maxRecDepth 20000 in
theorem b82_11 (hR : RS R) {v1 : Int32} {u2 : Option pm_V} {u3 : Option pm_V}   (k : pW ns d 82 13 [some (pm_r 20 0), some (pm_i v1), some (pm_i (nI 1)), u3] [] (mm x R Z Y o A c G g) Q) : pW ns d 82 11 [some (pm_r 20 0), some (pm_i v1), u2, u3] [] (mm x R Z Y o A c G g) Q := by
  exact pW_eq 2 (fun call n => rfl) k
set_option maxRecDepth 20000 in
theorem b82_13 (hR : RS R) {v1 : Int32} {v2 : Int32} {u3 : Option pm_V}   (k1 : nI 8 ≤ v2 → pW ns d 82 34 [some (pm_r 20 0), some (pm_i v1), some (pm_i v2), u3] [] (mm x R Z Y o A c G g) Q) (k2 : ¬ (nI 8 ≤ v2) → pW ns d 82 19 [some (pm_r 20 0), some (pm_i v1), some (pm_i v2), u3] [] (mm x R Z Y o A c G g) Q) : pW ns d 82 13 [some (pm_r 20 0), some (pm_i v1), some (pm_i v2), u3] [] (mm x R Z Y o A c G g) Q := by
  exact pW_if 3 (c := nI 8 ≤ v2) (fun call n => rfl) k1 k2
set_option maxRecDepth 20000 in
theorem b82_34 (hR : RS R) {v1 : Int32} {v2 : Int32} {u3 : Option pm_V}   (k1 : v2 = nI 8 → pW ns d 82 40 [some (pm_r 20 0), some (pm_i v1), some (pm_i v2), u3] [] (mm x R Z Y o A c G g) Q) (k2 : ¬ (v2 = nI 8) → pW ns d 82 43 [some (pm_r 20 0), some (pm_i v1), some (pm_i v2), u3] [] (mm x R Z Y o A c G g) Q) : pW ns d 82 34 [some (pm_r 20 0), some (pm_i v1), some (pm_i v2), u3] [] (mm x R Z Y o A c G g) Q := by
  exact pW_if 3 (c := v2 = nI 8) (fun call n => rfl) k1 k2
set_option maxRecDepth 20000 in
theorem b82_19 (hR : RS R) {v1 : Int32} {v2 : Int32} {u3 : Option pm_V} {j1 : Nat} (e1 : v2 = nI j1) (l1 : j1 < 8)  (k1 : G 21 j1 = 0 → pW ns d 82 34 [some (pm_r 20 0), some (pm_i v1), some (pm_i v2), u3] [] (mm x R Z Y o A c G g) Q) (k2 : ¬ (G 21 j1 = 0) → pW ns d 82 28 [some (pm_r 20 0), some (pm_i v1), some (pm_i v2), u3] [] (mm x R Z Y o A c G g) Q) : pW ns d 82 19 [some (pm_r 20 0), some (pm_i v1), some (pm_i v2), u3] [] (mm x R Z Y o A c G g) Q := by
  refine pW_eq 2 (pc' := 23) (L' := [some (pm_r 20 0), some (pm_i v1), some (pm_i v2), u3]) (S' := [pm_r 21 0]) (M' := (mm x R Z Y o A c G g)) (fun call n => ?_) ?_
  · refine Eq.trans (b := pm_g (mm x R Z Y o A c G g) 20 0 (pm_go call ns d 82 n 23 [some (pm_r 20 0), some (pm_i v1), some (pm_i v2), u3] [pm_a (R 20 0 1)] (mm x R Z Y o A c G g))) rfl ?_
    refine (g_ok (f := 20) (by decide) rfl).trans ?_
    exact (congrArg (fun z => pm_go call ns d 82 n 23 [some (pm_r 20 0), some (pm_i v1), some (pm_i v2), u3] [pm_a z] (mm x R Z Y o A c G g)) (rs_20_1 hR))
  refine pW_eq 2 (pc' := 25) (L' := [some (pm_r 20 0), some (pm_i v1), some (pm_i v2), u3]) (S' := [pm_i (G 21 j1)]) (M' := (mm x R Z Y o A c G g)) (fun call n => ?_) ?_
  · refine Eq.trans (b := pm_g (mm x R Z Y o A c G g) 21 0 (pm_ix (v2) 8 (fun jx => pm_go call ns d 82 n 25 [some (pm_r 20 0), some (pm_i v1), some (pm_i v2), u3] [pm_i (G 21 jx)] (mm x R Z Y o A c G g)))) rfl ?_
    refine (g_ok (f := 21) (by decide) rfl).trans ?_
    refine (ix_ok (j := j1) e1 l1 (by decide)).trans ?_
    rfl
  exact pW_if 1 (c := G 21 j1 = 0) (fun call n => rfl) k1 k2
set_option maxRecDepth 20000 in
theorem b82_40 (hR : RS R) {u0 : Option pm_V} {u1 : Option pm_V} {u2 : Option pm_V} {u3 : Option pm_V}   (k : Q (.inl (some (pm_i (-nI 2))), (mm x R Z Y o A c G g))) : pW ns d 82 40 [u0, u1, u2, u3] [] (mm x R Z Y o A c G g) Q := by
  refine pW_ret 2 (fun call n => ?_) k
  rfl
set_option maxRecDepth 20000 in
theorem b82_43 (hR : RS R) {v1 : Int32} {v2 : Int32} {u3 : Option pm_V} {j1 : Nat} {j2 : Nat} (e1 : v2 = nI j1) (l1 : j1 < 8) (e2 : v1 = nI j2) (l2 : j2 < 8)  (k : pW ns d 82 132 [some (pm_r 20 0), some (pm_i v1), some (pm_i v2), some (pm_i (nI 0))] [] (mm x R Z Y o A c (pm_v (pm_v (pm_v (pm_v (pm_v (pm_v (pm_v (pm_v (pm_v (pm_v (pm_v G 21 j1 (nI 1)) 22 j1 v1) 23 j1 ((pm_v (pm_v G 21 j1 (nI 1)) 22 j1 v1) 23 j2)) 24 j1 ((pm_v (pm_v (pm_v G 21 j1 (nI 1)) 22 j1 v1) 23 j1 ((pm_v (pm_v G 21 j1 (nI 1)) 22 j1 v1) 23 j2)) 24 j2)) 25 j1 (nI 0)) 26 j1 (nI 0)) 27 j1 (nI 0)) 28 j1 (nI 0)) 29 j1 (nI 0)) 31 j1 (nI 0)) 34 j1 (nI 0)) g) Q) : pW ns d 82 43 [some (pm_r 20 0), some (pm_i v1), some (pm_i v2), u3] [] (mm x R Z Y o A c G g) Q := by
  refine pW_eq 2 (pc' := 47) (L' := [some (pm_r 20 0), some (pm_i v1), some (pm_i v2), u3]) (S' := [pm_r 21 0]) (M' := (mm x R Z Y o A c G g)) (fun call n => ?_) ?_
  · refine Eq.trans (b := pm_g (mm x R Z Y o A c G g) 20 0 (pm_go call ns d 82 n 47 [some (pm_r 20 0), some (pm_i v1), some (pm_i v2), u3] [pm_a (R 20 0 1)] (mm x R Z Y o A c G g))) rfl ?_
    refine (g_ok (f := 20) (by decide) rfl).trans ?_
    exact (congrArg (fun z => pm_go call ns d 82 n 47 [some (pm_r 20 0), some (pm_i v1), some (pm_i v2), u3] [pm_a z] (mm x R Z Y o A c G g)) (rs_20_1 hR))
  refine pW_eq 3 (pc' := 50) (L' := [some (pm_r 20 0), some (pm_i v1), some (pm_i v2), u3]) (S' := []) (M' := (mm x R Z Y o A c (pm_v G 21 j1 (nI 1)) g)) (fun call n => ?_) ?_
  · refine Eq.trans (b := pm_g (mm x R Z Y o A c G g) 21 0 (pm_ix (v2) 8 (fun jx => pm_go call ns d 82 n 50 [some (pm_r 20 0), some (pm_i v1), some (pm_i v2), u3] [] (pm_u (mA Z A G) 21 0 jx (nI 1), mB Y o c g, R, pm_tot, x)))) rfl ?_
    refine (g_ok (f := 21) (by decide) rfl).trans ?_
    refine (ix_ok (j := j1) e1 l1 (by decide)).trans ?_
    exact (congrArg (fun z => pm_go call ns d 82 n 50 [some (pm_r 20 0), some (pm_i v1), some (pm_i v2), u3] [] (z, mB Y o c g, R, pm_tot, x)) (uG (by decide)))
  refine pW_eq 2 (pc' := 54) (L' := [some (pm_r 20 0), some (pm_i v1), some (pm_i v2), u3]) (S' := [pm_r 22 0]) (M' := (mm x R Z Y o A c (pm_v G 21 j1 (nI 1)) g)) (fun call n => ?_) ?_
  · refine Eq.trans (b := pm_g (mm x R Z Y o A c (pm_v G 21 j1 (nI 1)) g) 20 0 (pm_go call ns d 82 n 54 [some (pm_r 20 0), some (pm_i v1), some (pm_i v2), u3] [pm_a (R 20 0 2)] (mm x R Z Y o A c (pm_v G 21 j1 (nI 1)) g))) rfl ?_
    refine (g_ok (f := 20) (by decide) rfl).trans ?_
    exact (congrArg (fun z => pm_go call ns d 82 n 54 [some (pm_r 20 0), some (pm_i v1), some (pm_i v2), u3] [pm_a z] (mm x R Z Y o A c (pm_v G 21 j1 (nI 1)) g)) (rs_20_2 hR))
  refine pW_eq 3 (pc' := 57) (L' := [some (pm_r 20 0), some (pm_i v1), some (pm_i v2), u3]) (S' := []) (M' := (mm x R Z Y o A c (pm_v (pm_v G 21 j1 (nI 1)) 22 j1 v1) g)) (fun call n => ?_) ?_
  · refine Eq.trans (b := pm_g (mm x R Z Y o A c (pm_v G 21 j1 (nI 1)) g) 22 0 (pm_ix (v2) 8 (fun jx => pm_go call ns d 82 n 57 [some (pm_r 20 0), some (pm_i v1), some (pm_i v2), u3] [] (pm_u (mA Z A (pm_v G 21 j1 (nI 1))) 22 0 jx v1, mB Y o c g, R, pm_tot, x)))) rfl ?_
    refine (g_ok (f := 22) (by decide) rfl).trans ?_
    refine (ix_ok (j := j1) e1 l1 (by decide)).trans ?_
    exact (congrArg (fun z => pm_go call ns d 82 n 57 [some (pm_r 20 0), some (pm_i v1), some (pm_i v2), u3] [] (z, mB Y o c g, R, pm_tot, x)) (uG (by decide)))
  refine pW_eq 2 (pc' := 61) (L' := [some (pm_r 20 0), some (pm_i v1), some (pm_i v2), u3]) (S' := [pm_r 23 0]) (M' := (mm x R Z Y o A c (pm_v (pm_v G 21 j1 (nI 1)) 22 j1 v1) g)) (fun call n => ?_) ?_
  · refine Eq.trans (b := pm_g (mm x R Z Y o A c (pm_v (pm_v G 21 j1 (nI 1)) 22 j1 v1) g) 20 0 (pm_go call ns d 82 n 61 [some (pm_r 20 0), some (pm_i v1), some (pm_i v2), u3] [pm_a (R 20 0 3)] (mm x R Z Y o A c (pm_v (pm_v G 21 j1 (nI 1)) 22 j1 v1) g))) rfl ?_
    refine (g_ok (f := 20) (by decide) rfl).trans ?_
    exact (congrArg (fun z => pm_go call ns d 82 n 61 [some (pm_r 20 0), some (pm_i v1), some (pm_i v2), u3] [pm_a z] (mm x R Z Y o A c (pm_v (pm_v G 21 j1 (nI 1)) 22 j1 v1) g)) (rs_20_3 hR))
  refine pW_eq 3 (pc' := 66) (L' := [some (pm_r 20 0), some (pm_i v1), some (pm_i v2), u3]) (S' := [pm_r 23 0, pm_i v2, pm_r 23 0]) (M' := (mm x R Z Y o A c (pm_v (pm_v G 21 j1 (nI 1)) 22 j1 v1) g)) (fun call n => ?_) ?_
  · refine Eq.trans (b := pm_g (mm x R Z Y o A c (pm_v (pm_v G 21 j1 (nI 1)) 22 j1 v1) g) 20 0 (pm_go call ns d 82 n 66 [some (pm_r 20 0), some (pm_i v1), some (pm_i v2), u3] [pm_a (R 20 0 3), pm_i v2, pm_r 23 0] (mm x R Z Y o A c (pm_v (pm_v G 21 j1 (nI 1)) 22 j1 v1) g))) rfl ?_
    refine (g_ok (f := 20) (by decide) rfl).trans ?_
    exact (congrArg (fun z => pm_go call ns d 82 n 66 [some (pm_r 20 0), some (pm_i v1), some (pm_i v2), u3] [pm_a z, pm_i v2, pm_r 23 0] (mm x R Z Y o A c (pm_v (pm_v G 21 j1 (nI 1)) 22 j1 v1) g)) (rs_20_3 hR))
  refine pW_eq 2 (pc' := 68) (L' := [some (pm_r 20 0), some (pm_i v1), some (pm_i v2), u3]) (S' := [pm_i ((pm_v (pm_v G 21 j1 (nI 1)) 22 j1 v1) 23 j2), pm_i v2, pm_r 23 0]) (M' := (mm x R Z Y o A c (pm_v (pm_v G 21 j1 (nI 1)) 22 j1 v1) g)) (fun call n => ?_) ?_
  · refine Eq.trans (b := pm_g (mm x R Z Y o A c (pm_v (pm_v G 21 j1 (nI 1)) 22 j1 v1) g) 23 0 (pm_ix (v1) 8 (fun jx => pm_go call ns d 82 n 68 [some (pm_r 20 0), some (pm_i v1), some (pm_i v2), u3] [pm_i ((pm_v (pm_v G 21 j1 (nI 1)) 22 j1 v1) 23 jx), pm_i v2, pm_r 23 0] (mm x R Z Y o A c (pm_v (pm_v G 21 j1 (nI 1)) 22 j1 v1) g)))) rfl ?_
    refine (g_ok (f := 23) (by decide) rfl).trans ?_
    refine (ix_ok (j := j2) e2 l2 (by decide)).trans ?_
    rfl
  refine pW_eq 1 (pc' := 69) (L' := [some (pm_r 20 0), some (pm_i v1), some (pm_i v2), u3]) (S' := []) (M' := (mm x R Z Y o A c (pm_v (pm_v (pm_v G 21 j1 (nI 1)) 22 j1 v1) 23 j1 ((pm_v (pm_v G 21 j1 (nI 1)) 22 j1 v1) 23 j2)) g)) (fun call n => ?_) ?_
  · refine Eq.trans (b := pm_g (mm x R Z Y o A c (pm_v (pm_v G 21 j1 (nI 1)) 22 j1 v1) g) 23 0 (pm_ix (v2) 8 (fun jx => pm_go call ns d 82 n 69 [some (pm_r 20 0), some (pm_i v1), some (pm_i v2), u3] [] (pm_u (mA Z A (pm_v (pm_v G 21 j1 (nI 1)) 22 j1 v1)) 23 0 jx ((pm_v (pm_v G 21 j1 (nI 1)) 22 j1 v1) 23 j2), mB Y o c g, R, pm_tot, x)))) rfl ?_
    refine (g_ok (f := 23) (by decide) rfl).trans ?_
    refine (ix_ok (j := j1) e1 l1 (by decide)).trans ?_
    exact (congrArg (fun z => pm_go call ns d 82 n 69 [some (pm_r 20 0), some (pm_i v1), some (pm_i v2), u3] [] (z, mB Y o c g, R, pm_tot, x)) (uG (by decide)))
  refine pW_eq 2 (pc' := 73) (L' := [some (pm_r 20 0), some (pm_i v1), some (pm_i v2), u3]) (S' := [pm_r 24 0]) (M' := (mm x R Z Y o A c (pm_v (pm_v (pm_v G 21 j1 (nI 1)) 22 j1 v1) 23 j1 ((pm_v (pm_v G 21 j1 (nI 1)) 22 j1 v1) 23 j2)) g)) (fun call n => ?_) ?_
  · refine Eq.trans (b := pm_g (mm x R Z Y o A c (pm_v (pm_v (pm_v G 21 j1 (nI 1)) 22 j1 v1) 23 j1 ((pm_v (pm_v G 21 j1 (nI 1)) 22 j1 v1) 23 j2)) g) 20 0 (pm_go call ns d 82 n 73 [some (pm_r 20 0), some (pm_i v1), some (pm_i v2), u3] [pm_a (R 20 0 4)] (mm x R Z Y o A c (pm_v (pm_v (pm_v G 21 j1 (nI 1)) 22 j1 v1) 23 j1 ((pm_v (pm_v G 21 j1 (nI 1)) 22 j1 v1) 23 j2)) g))) rfl ?_
    refine (g_ok (f := 20) (by decide) rfl).trans ?_
    exact (congrArg (fun z => pm_go call ns d 82 n 73 [some (pm_r 20 0), some (pm_i v1), some (pm_i v2), u3] [pm_a z] (mm x R Z Y o A c (pm_v (pm_v (pm_v G 21 j1 (nI 1)) 22 j1 v1) 23 j1 ((pm_v (pm_v G 21 j1 (nI 1)) 22 j1 v1) 23 j2)) g)) (rs_20_4 hR))
  refine pW_eq 3 (pc' := 78) (L' := [some (pm_r 20 0), some (pm_i v1), some (pm_i v2), u3]) (S' := [pm_r 24 0, pm_i v2, pm_r 24 0]) (M' := (mm x R Z Y o A c (pm_v (pm_v (pm_v G 21 j1 (nI 1)) 22 j1 v1) 23 j1 ((pm_v (pm_v G 21 j1 (nI 1)) 22 j1 v1) 23 j2)) g)) (fun call n => ?_) ?_
  · refine Eq.trans (b := pm_g (mm x R Z Y o A c (pm_v (pm_v (pm_v G 21 j1 (nI 1)) 22 j1 v1) 23 j1 ((pm_v (pm_v G 21 j1 (nI 1)) 22 j1 v1) 23 j2)) g) 20 0 (pm_go call ns d 82 n 78 [some (pm_r 20 0), some (pm_i v1), some (pm_i v2), u3] [pm_a (R 20 0 4), pm_i v2, pm_r 24 0] (mm x R Z Y o A c (pm_v (pm_v (pm_v G 21 j1 (nI 1)) 22 j1 v1) 23 j1 ((pm_v (pm_v G 21 j1 (nI 1)) 22 j1 v1) 23 j2)) g))) rfl ?_
    refine (g_ok (f := 20) (by decide) rfl).trans ?_
    exact (congrArg (fun z => pm_go call ns d 82 n 78 [some (pm_r 20 0), some (pm_i v1), some (pm_i v2), u3] [pm_a z, pm_i v2, pm_r 24 0] (mm x R Z Y o A c (pm_v (pm_v (pm_v G 21 j1 (nI 1)) 22 j1 v1) 23 j1 ((pm_v (pm_v G 21 j1 (nI 1)) 22 j1 v1) 23 j2)) g)) (rs_20_4 hR))
  refine pW_eq 2 (pc' := 80) (L' := [some (pm_r 20 0), some (pm_i v1), some (pm_i v2), u3]) (S' := [pm_i ((pm_v (pm_v (pm_v G 21 j1 (nI 1)) 22 j1 v1) 23 j1 ((pm_v (pm_v G 21 j1 (nI 1)) 22 j1 v1) 23 j2)) 24 j2), pm_i v2, pm_r 24 0]) (M' := (mm x R Z Y o A c (pm_v (pm_v (pm_v G 21 j1 (nI 1)) 22 j1 v1) 23 j1 ((pm_v (pm_v G 21 j1 (nI 1)) 22 j1 v1) 23 j2)) g)) (fun call n => ?_) ?_
  · refine Eq.trans (b := pm_g (mm x R Z Y o A c (pm_v (pm_v (pm_v G 21 j1 (nI 1)) 22 j1 v1) 23 j1 ((pm_v (pm_v G 21 j1 (nI 1)) 22 j1 v1) 23 j2)) g) 24 0 (pm_ix (v1) 8 (fun jx => pm_go call ns d 82 n 80 [some (pm_r 20 0), some (pm_i v1), some (pm_i v2), u3] [pm_i ((pm_v (pm_v (pm_v G 21 j1 (nI 1)) 22 j1 v1) 23 j1 ((pm_v (pm_v G 21 j1 (nI 1)) 22 j1 v1) 23 j2)) 24 jx), pm_i v2, pm_r 24 0] (mm x R Z Y o A c (pm_v (pm_v (pm_v G 21 j1 (nI 1)) 22 j1 v1) 23 j1 ((pm_v (pm_v G 21 j1 (nI 1)) 22 j1 v1) 23 j2)) g)))) rfl ?_
    refine (g_ok (f := 24) (by decide) rfl).trans ?_
    refine (ix_ok (j := j2) e2 l2 (by decide)).trans ?_
    rfl
  refine pW_eq 1 (pc' := 81) (L' := [some (pm_r 20 0), some (pm_i v1), some (pm_i v2), u3]) (S' := []) (M' := (mm x R Z Y o A c (pm_v (pm_v (pm_v (pm_v G 21 j1 (nI 1)) 22 j1 v1) 23 j1 ((pm_v (pm_v G 21 j1 (nI 1)) 22 j1 v1) 23 j2)) 24 j1 ((pm_v (pm_v (pm_v G 21 j1 (nI 1)) 22 j1 v1) 23 j1 ((pm_v (pm_v G 21 j1 (nI 1)) 22 j1 v1) 23 j2)) 24 j2)) g)) (fun call n => ?_) ?_
  · refine Eq.trans (b := pm_g (mm x R Z Y o A c (pm_v (pm_v (pm_v G 21 j1 (nI 1)) 22 j1 v1) 23 j1 ((pm_v (pm_v G 21 j1 (nI 1)) 22 j1 v1) 23 j2)) g) 24 0 (pm_ix (v2) 8 (fun jx => pm_go call ns d 82 n 81 [some (pm_r 20 0), some (pm_i v1), some (pm_i v2), u3] [] (pm_u (mA Z A (pm_v (pm_v (pm_v G 21 j1 (nI 1)) 22 j1 v1) 23 j1 ((pm_v (pm_v G 21 j1 (nI 1)) 22 j1 v1) 23 j2))) 24 0 jx ((pm_v (pm_v (pm_v G 21 j1 (nI 1)) 22 j1 v1) 23 j1 ((pm_v (pm_v G 21 j1 (nI 1)) 22 j1 v1) 23 j2)) 24 j2), mB Y o c g, R, pm_tot, x)))) rfl ?_
    refine (g_ok (f := 24) (by decide) rfl).trans ?_
    refine (ix_ok (j := j1) e1 l1 (by decide)).trans ?_
    exact (congrArg (fun z => pm_go call ns d 82 n 81 [some (pm_r 20 0), some (pm_i v1), some (pm_i v2), u3] [] (z, mB Y o c g, R, pm_tot, x)) (uG (by decide)))
  refine pW_eq 2 (pc' := 85) (L' := [some (pm_r 20 0), some (pm_i v1), some (pm_i v2), u3]) (S' := [pm_r 25 0]) (M' := (mm x R Z Y o A c (pm_v (pm_v (pm_v (pm_v G 21 j1 (nI 1)) 22 j1 v1) 23 j1 ((pm_v (pm_v G 21 j1 (nI 1)) 22 j1 v1) 23 j2)) 24 j1 ((pm_v (pm_v (pm_v G 21 j1 (nI 1)) 22 j1 v1) 23 j1 ((pm_v (pm_v G 21 j1 (nI 1)) 22 j1 v1) 23 j2)) 24 j2)) g)) (fun call n => ?_) ?_
  · refine Eq.trans (b := pm_g (mm x R Z Y o A c (pm_v (pm_v (pm_v (pm_v G 21 j1 (nI 1)) 22 j1 v1) 23 j1 ((pm_v (pm_v G 21 j1 (nI 1)) 22 j1 v1) 23 j2)) 24 j1 ((pm_v (pm_v (pm_v G 21 j1 (nI 1)) 22 j1 v1) 23 j1 ((pm_v (pm_v G 21 j1 (nI 1)) 22 j1 v1) 23 j2)) 24 j2)) g) 20 0 (pm_go call ns d 82 n 85 [some (pm_r 20 0), some (pm_i v1), some (pm_i v2), u3] [pm_a (R 20 0 5)] (mm x R Z Y o A c (pm_v (pm_v (pm_v (pm_v G 21 j1 (nI 1)) 22 j1 v1) 23 j1 ((pm_v (pm_v G 21 j1 (nI 1)) 22 j1 v1) 23 j2)) 24 j1 ((pm_v (pm_v (pm_v G 21 j1 (nI 1)) 22 j1 v1) 23 j1 ((pm_v (pm_v G 21 j1 (nI 1)) 22 j1 v1) 23 j2)) 24 j2)) g))) rfl ?_
    refine (g_ok (f := 20) (by decide) rfl).trans ?_
    exact (congrArg (fun z => pm_go call ns d 82 n 85 [some (pm_r 20 0), some (pm_i v1), some (pm_i v2), u3] [pm_a z] (mm x R Z Y o A c (pm_v (pm_v (pm_v (pm_v G 21 j1 (nI 1)) 22 j1 v1) 23 j1 ((pm_v (pm_v G 21 j1 (nI 1)) 22 j1 v1) 23 j2)) 24 j1 ((pm_v (pm_v (pm_v G 21 j1 (nI 1)) 22 j1 v1) 23 j1 ((pm_v (pm_v G 21 j1 (nI 1)) 22 j1 v1) 23 j2)) 24 j2)) g)) (rs_20_5 hR))
  refine pW_eq 3 (pc' := 88) (L' := [some (pm_r 20 0), some (pm_i v1), some (pm_i v2), u3]) (S' := []) (M' := (mm x R Z Y o A c (pm_v (pm_v (pm_v (pm_v (pm_v G 21 j1 (nI 1)) 22 j1 v1) 23 j1 ((pm_v (pm_v G 21 j1 (nI 1)) 22 j1 v1) 23 j2)) 24 j1 ((pm_v (pm_v (pm_v G 21 j1 (nI 1)) 22 j1 v1) 23 j1 ((pm_v (pm_v G 21 j1 (nI 1)) 22 j1 v1) 23 j2)) 24 j2)) 25 j1 (nI 0)) g)) (fun call n => ?_) ?_
  · refine Eq.trans (b := pm_g (mm x R Z Y o A c (pm_v (pm_v (pm_v (pm_v G 21 j1 (nI 1)) 22 j1 v1) 23 j1 ((pm_v (pm_v G 21 j1 (nI 1)) 22 j1 v1) 23 j2)) 24 j1 ((pm_v (pm_v (pm_v G 21 j1 (nI 1)) 22 j1 v1) 23 j1 ((pm_v (pm_v G 21 j1 (nI 1)) 22 j1 v1) 23 j2)) 24 j2)) g) 25 0 (pm_ix (v2) 8 (fun jx => pm_go call ns d 82 n 88 [some (pm_r 20 0), some (pm_i v1), some (pm_i v2), u3] [] (pm_u (mA Z A (pm_v (pm_v (pm_v (pm_v G 21 j1 (nI 1)) 22 j1 v1) 23 j1 ((pm_v (pm_v G 21 j1 (nI 1)) 22 j1 v1) 23 j2)) 24 j1 ((pm_v (pm_v (pm_v G 21 j1 (nI 1)) 22 j1 v1) 23 j1 ((pm_v (pm_v G 21 j1 (nI 1)) 22 j1 v1) 23 j2)) 24 j2))) 25 0 jx (nI 0), mB Y o c g, R, pm_tot, x)))) rfl ?_
    refine (g_ok (f := 25) (by decide) rfl).trans ?_
    refine (ix_ok (j := j1) e1 l1 (by decide)).trans ?_
    exact (congrArg (fun z => pm_go call ns d 82 n 88 [some (pm_r 20 0), some (pm_i v1), some (pm_i v2), u3] [] (z, mB Y o c g, R, pm_tot, x)) (uG (by decide)))
  refine pW_eq 2 (pc' := 92) (L' := [some (pm_r 20 0), some (pm_i v1), some (pm_i v2), u3]) (S' := [pm_r 26 0]) (M' := (mm x R Z Y o A c (pm_v (pm_v (pm_v (pm_v (pm_v G 21 j1 (nI 1)) 22 j1 v1) 23 j1 ((pm_v (pm_v G 21 j1 (nI 1)) 22 j1 v1) 23 j2)) 24 j1 ((pm_v (pm_v (pm_v G 21 j1 (nI 1)) 22 j1 v1) 23 j1 ((pm_v (pm_v G 21 j1 (nI 1)) 22 j1 v1) 23 j2)) 24 j2)) 25 j1 (nI 0)) g)) (fun call n => ?_) ?_
  · refine Eq.trans (b := pm_g (mm x R Z Y o A c (pm_v (pm_v (pm_v (pm_v (pm_v G 21 j1 (nI 1)) 22 j1 v1) 23 j1 ((pm_v (pm_v G 21 j1 (nI 1)) 22 j1 v1) 23 j2)) 24 j1 ((pm_v (pm_v (pm_v G 21 j1 (nI 1)) 22 j1 v1) 23 j1 ((pm_v (pm_v G 21 j1 (nI 1)) 22 j1 v1) 23 j2)) 24 j2)) 25 j1 (nI 0)) g) 20 0 (pm_go call ns d 82 n 92 [some (pm_r 20 0), some (pm_i v1), some (pm_i v2), u3] [pm_a (R 20 0 6)] (mm x R Z Y o A c (pm_v (pm_v (pm_v (pm_v (pm_v G 21 j1 (nI 1)) 22 j1 v1) 23 j1 ((pm_v (pm_v G 21 j1 (nI 1)) 22 j1 v1) 23 j2)) 24 j1 ((pm_v (pm_v (pm_v G 21 j1 (nI 1)) 22 j1 v1) 23 j1 ((pm_v (pm_v G 21 j1 (nI 1)) 22 j1 v1) 23 j2)) 24 j2)) 25 j1 (nI 0)) g))) rfl ?_
    refine (g_ok (f := 20) (by decide) rfl).trans ?_
    exact (congrArg (fun z => pm_go call ns d 82 n 92 [some (pm_r 20 0), some (pm_i v1), some (pm_i v2), u3] [pm_a z] (mm x R Z Y o A c (pm_v (pm_v (pm_v (pm_v (pm_v G 21 j1 (nI 1)) 22 j1 v1) 23 j1 ((pm_v (pm_v G 21 j1 (nI 1)) 22 j1 v1) 23 j2)) 24 j1 ((pm_v (pm_v (pm_v G 21 j1 (nI 1)) 22 j1 v1) 23 j1 ((pm_v (pm_v G 21 j1 (nI 1)) 22 j1 v1) 23 j2)) 24 j2)) 25 j1 (nI 0)) g)) (rs_20_6 hR))
  refine pW_eq 3 (pc' := 95) (L' := [some (pm_r 20 0), some (pm_i v1), some (pm_i v2), u3]) (S' := []) (M' := (mm x R Z Y o A c (pm_v (pm_v (pm_v (pm_v (pm_v (pm_v G 21 j1 (nI 1)) 22 j1 v1) 23 j1 ((pm_v (pm_v G 21 j1 (nI 1)) 22 j1 v1) 23 j2)) 24 j1 ((pm_v (pm_v (pm_v G 21 j1 (nI 1)) 22 j1 v1) 23 j1 ((pm_v (pm_v G 21 j1 (nI 1)) 22 j1 v1) 23 j2)) 24 j2)) 25 j1 (nI 0)) 26 j1 (nI 0)) g)) (fun call n => ?_) ?_
  · refine Eq.trans (b := pm_g (mm x R Z Y o A c (pm_v (pm_v (pm_v (pm_v (pm_v G 21 j1 (nI 1)) 22 j1 v1) 23 j1 ((pm_v (pm_v G 21 j1 (nI 1)) 22 j1 v1) 23 j2)) 24 j1 ((pm_v (pm_v (pm_v G 21 j1 (nI 1)) 22 j1 v1) 23 j1 ((pm_v (pm_v G 21 j1 (nI 1)) 22 j1 v1) 23 j2)) 24 j2)) 25 j1 (nI 0)) g) 26 0 (pm_ix (v2) 8 (fun jx => pm_go call ns d 82 n 95 [some (pm_r 20 0), some (pm_i v1), some (pm_i v2), u3] [] (pm_u (mA Z A (pm_v (pm_v (pm_v (pm_v (pm_v G 21 j1 (nI 1)) 22 j1 v1) 23 j1 ((pm_v (pm_v G 21 j1 (nI 1)) 22 j1 v1) 23 j2)) 24 j1 ((pm_v (pm_v (pm_v G 21 j1 (nI 1)) 22 j1 v1) 23 j1 ((pm_v (pm_v G 21 j1 (nI 1)) 22 j1 v1) 23 j2)) 24 j2)) 25 j1 (nI 0))) 26 0 jx (nI 0), mB Y o c g, R, pm_tot, x)))) rfl ?_
    refine (g_ok (f := 26) (by decide) rfl).trans ?_
    refine (ix_ok (j := j1) e1 l1 (by decide)).trans ?_
    exact (congrArg (fun z => pm_go call ns d 82 n 95 [some (pm_r 20 0), some (pm_i v1), some (pm_i v2), u3] [] (z, mB Y o c g, R, pm_tot, x)) (uG (by decide)))
  refine pW_eq 2 (pc' := 99) (L' := [some (pm_r 20 0), some (pm_i v1), some (pm_i v2), u3]) (S' := [pm_r 27 0]) (M' := (mm x R Z Y o A c (pm_v (pm_v (pm_v (pm_v (pm_v (pm_v G 21 j1 (nI 1)) 22 j1 v1) 23 j1 ((pm_v (pm_v G 21 j1 (nI 1)) 22 j1 v1) 23 j2)) 24 j1 ((pm_v (pm_v (pm_v G 21 j1 (nI 1)) 22 j1 v1) 23 j1 ((pm_v (pm_v G 21 j1 (nI 1)) 22 j1 v1) 23 j2)) 24 j2)) 25 j1 (nI 0)) 26 j1 (nI 0)) g)) (fun call n => ?_) ?_
  · refine Eq.trans (b := pm_g (mm x R Z Y o A c (pm_v (pm_v (pm_v (pm_v (pm_v (pm_v G 21 j1 (nI 1)) 22 j1 v1) 23 j1 ((pm_v (pm_v G 21 j1 (nI 1)) 22 j1 v1) 23 j2)) 24 j1 ((pm_v (pm_v (pm_v G 21 j1 (nI 1)) 22 j1 v1) 23 j1 ((pm_v (pm_v G 21 j1 (nI 1)) 22 j1 v1) 23 j2)) 24 j2)) 25 j1 (nI 0)) 26 j1 (nI 0)) g) 20 0 (pm_go call ns d 82 n 99 [some (pm_r 20 0), some (pm_i v1), some (pm_i v2), u3] [pm_a (R 20 0 7)] (mm x R Z Y o A c (pm_v (pm_v (pm_v (pm_v (pm_v (pm_v G 21 j1 (nI 1)) 22 j1 v1) 23 j1 ((pm_v (pm_v G 21 j1 (nI 1)) 22 j1 v1) 23 j2)) 24 j1 ((pm_v (pm_v (pm_v G 21 j1 (nI 1)) 22 j1 v1) 23 j1 ((pm_v (pm_v G 21 j1 (nI 1)) 22 j1 v1) 23 j2)) 24 j2)) 25 j1 (nI 0)) 26 j1 (nI 0)) g))) rfl ?_
    refine (g_ok (f := 20) (by decide) rfl).trans ?_
    exact (congrArg (fun z => pm_go call ns d 82 n 99 [some (pm_r 20 0), some (pm_i v1), some (pm_i v2), u3] [pm_a z] (mm x R Z Y o A c (pm_v (pm_v (pm_v (pm_v (pm_v (pm_v G 21 j1 (nI 1)) 22 j1 v1) 23 j1 ((pm_v (pm_v G 21 j1 (nI 1)) 22 j1 v1) 23 j2)) 24 j1 ((pm_v (pm_v (pm_v G 21 j1 (nI 1)) 22 j1 v1) 23 j1 ((pm_v (pm_v G 21 j1 (nI 1)) 22 j1 v1) 23 j2)) 24 j2)) 25 j1 (nI 0)) 26 j1 (nI 0)) g)) (rs_20_7 hR))
  refine pW_eq 3 (pc' := 102) (L' := [some (pm_r 20 0), some (pm_i v1), some (pm_i v2), u3]) (S' := []) (M' := (mm x R Z Y o A c (pm_v (pm_v (pm_v (pm_v (pm_v (pm_v (pm_v G 21 j1 (nI 1)) 22 j1 v1) 23 j1 ((pm_v (pm_v G 21 j1 (nI 1)) 22 j1 v1) 23 j2)) 24 j1 ((pm_v (pm_v (pm_v G 21 j1 (nI 1)) 22 j1 v1) 23 j1 ((pm_v (pm_v G 21 j1 (nI 1)) 22 j1 v1) 23 j2)) 24 j2)) 25 j1 (nI 0)) 26 j1 (nI 0)) 27 j1 (nI 0)) g)) (fun call n => ?_) ?_
  · refine Eq.trans (b := pm_g (mm x R Z Y o A c (pm_v (pm_v (pm_v (pm_v (pm_v (pm_v G 21 j1 (nI 1)) 22 j1 v1) 23 j1 ((pm_v (pm_v G 21 j1 (nI 1)) 22 j1 v1) 23 j2)) 24 j1 ((pm_v (pm_v (pm_v G 21 j1 (nI 1)) 22 j1 v1) 23 j1 ((pm_v (pm_v G 21 j1 (nI 1)) 22 j1 v1) 23 j2)) 24 j2)) 25 j1 (nI 0)) 26 j1 (nI 0)) g) 27 0 (pm_ix (v2) 8 (fun jx => pm_go call ns d 82 n 102 [some (pm_r 20 0), some (pm_i v1), some (pm_i v2), u3] [] (pm_u (mA Z A (pm_v (pm_v (pm_v (pm_v (pm_v (pm_v G 21 j1 (nI 1)) 22 j1 v1) 23 j1 ((pm_v (pm_v G 21 j1 (nI 1)) 22 j1 v1) 23 j2)) 24 j1 ((pm_v (pm_v (pm_v G 21 j1 (nI 1)) 22 j1 v1) 23 j1 ((pm_v (pm_v G 21 j1 (nI 1)) 22 j1 v1) 23 j2)) 24 j2)) 25 j1 (nI 0)) 26 j1 (nI 0))) 27 0 jx (nI 0), mB Y o c g, R, pm_tot, x)))) rfl ?_
    refine (g_ok (f := 27) (by decide) rfl).trans ?_
    refine (ix_ok (j := j1) e1 l1 (by decide)).trans ?_
    exact (congrArg (fun z => pm_go call ns d 82 n 102 [some (pm_r 20 0), some (pm_i v1), some (pm_i v2), u3] [] (z, mB Y o c g, R, pm_tot, x)) (uG (by decide)))
  refine pW_eq 2 (pc' := 106) (L' := [some (pm_r 20 0), some (pm_i v1), some (pm_i v2), u3]) (S' := [pm_r 28 0]) (M' := (mm x R Z Y o A c (pm_v (pm_v (pm_v (pm_v (pm_v (pm_v (pm_v G 21 j1 (nI 1)) 22 j1 v1) 23 j1 ((pm_v (pm_v G 21 j1 (nI 1)) 22 j1 v1) 23 j2)) 24 j1 ((pm_v (pm_v (pm_v G 21 j1 (nI 1)) 22 j1 v1) 23 j1 ((pm_v (pm_v G 21 j1 (nI 1)) 22 j1 v1) 23 j2)) 24 j2)) 25 j1 (nI 0)) 26 j1 (nI 0)) 27 j1 (nI 0)) g)) (fun call n => ?_) ?_
  · refine Eq.trans (b := pm_g (mm x R Z Y o A c (pm_v (pm_v (pm_v (pm_v (pm_v (pm_v (pm_v G 21 j1 (nI 1)) 22 j1 v1) 23 j1 ((pm_v (pm_v G 21 j1 (nI 1)) 22 j1 v1) 23 j2)) 24 j1 ((pm_v (pm_v (pm_v G 21 j1 (nI 1)) 22 j1 v1) 23 j1 ((pm_v (pm_v G 21 j1 (nI 1)) 22 j1 v1) 23 j2)) 24 j2)) 25 j1 (nI 0)) 26 j1 (nI 0)) 27 j1 (nI 0)) g) 20 0 (pm_go call ns d 82 n 106 [some (pm_r 20 0), some (pm_i v1), some (pm_i v2), u3] [pm_a (R 20 0 8)] (mm x R Z Y o A c (pm_v (pm_v (pm_v (pm_v (pm_v (pm_v (pm_v G 21 j1 (nI 1)) 22 j1 v1) 23 j1 ((pm_v (pm_v G 21 j1 (nI 1)) 22 j1 v1) 23 j2)) 24 j1 ((pm_v (pm_v (pm_v G 21 j1 (nI 1)) 22 j1 v1) 23 j1 ((pm_v (pm_v G 21 j1 (nI 1)) 22 j1 v1) 23 j2)) 24 j2)) 25 j1 (nI 0)) 26 j1 (nI 0)) 27 j1 (nI 0)) g))) rfl ?_
    refine (g_ok (f := 20) (by decide) rfl).trans ?_
    exact (congrArg (fun z => pm_go call ns d 82 n 106 [some (pm_r 20 0), some (pm_i v1), some (pm_i v2), u3] [pm_a z] (mm x R Z Y o A c (pm_v (pm_v (pm_v (pm_v (pm_v (pm_v (pm_v G 21 j1 (nI 1)) 22 j1 v1) 23 j1 ((pm_v (pm_v G 21 j1 (nI 1)) 22 j1 v1) 23 j2)) 24 j1 ((pm_v (pm_v (pm_v G 21 j1 (nI 1)) 22 j1 v1) 23 j1 ((pm_v (pm_v G 21 j1 (nI 1)) 22 j1 v1) 23 j2)) 24 j2)) 25 j1 (nI 0)) 26 j1 (nI 0)) 27 j1 (nI 0)) g)) (rs_20_8 hR))
  refine pW_eq 3 (pc' := 109) (L' := [some (pm_r 20 0), some (pm_i v1), some (pm_i v2), u3]) (S' := []) (M' := (mm x R Z Y o A c (pm_v (pm_v (pm_v (pm_v (pm_v (pm_v (pm_v (pm_v G 21 j1 (nI 1)) 22 j1 v1) 23 j1 ((pm_v (pm_v G 21 j1 (nI 1)) 22 j1 v1) 23 j2)) 24 j1 ((pm_v (pm_v (pm_v G 21 j1 (nI 1)) 22 j1 v1) 23 j1 ((pm_v (pm_v G 21 j1 (nI 1)) 22 j1 v1) 23 j2)) 24 j2)) 25 j1 (nI 0)) 26 j1 (nI 0)) 27 j1 (nI 0)) 28 j1 (nI 0)) g)) (fun call n => ?_) ?_
  · refine Eq.trans (b := pm_g (mm x R Z Y o A c (pm_v (pm_v (pm_v (pm_v (pm_v (pm_v (pm_v G 21 j1 (nI 1)) 22 j1 v1) 23 j1 ((pm_v (pm_v G 21 j1 (nI 1)) 22 j1 v1) 23 j2)) 24 j1 ((pm_v (pm_v (pm_v G 21 j1 (nI 1)) 22 j1 v1) 23 j1 ((pm_v (pm_v G 21 j1 (nI 1)) 22 j1 v1) 23 j2)) 24 j2)) 25 j1 (nI 0)) 26 j1 (nI 0)) 27 j1 (nI 0)) g) 28 0 (pm_ix (v2) 8 (fun jx => pm_go call ns d 82 n 109 [some (pm_r 20 0), some (pm_i v1), some (pm_i v2), u3] [] (pm_u (mA Z A (pm_v (pm_v (pm_v (pm_v (pm_v (pm_v (pm_v G 21 j1 (nI 1)) 22 j1 v1) 23 j1 ((pm_v (pm_v G 21 j1 (nI 1)) 22 j1 v1) 23 j2)) 24 j1 ((pm_v (pm_v (pm_v G 21 j1 (nI 1)) 22 j1 v1) 23 j1 ((pm_v (pm_v G 21 j1 (nI 1)) 22 j1 v1) 23 j2)) 24 j2)) 25 j1 (nI 0)) 26 j1 (nI 0)) 27 j1 (nI 0))) 28 0 jx (nI 0), mB Y o c g, R, pm_tot, x)))) rfl ?_
    refine (g_ok (f := 28) (by decide) rfl).trans ?_
    refine (ix_ok (j := j1) e1 l1 (by decide)).trans ?_
    exact (congrArg (fun z => pm_go call ns d 82 n 109 [some (pm_r 20 0), some (pm_i v1), some (pm_i v2), u3] [] (z, mB Y o c g, R, pm_tot, x)) (uG (by decide)))
  refine pW_eq 2 (pc' := 113) (L' := [some (pm_r 20 0), some (pm_i v1), some (pm_i v2), u3]) (S' := [pm_r 29 0]) (M' := (mm x R Z Y o A c (pm_v (pm_v (pm_v (pm_v (pm_v (pm_v (pm_v (pm_v G 21 j1 (nI 1)) 22 j1 v1) 23 j1 ((pm_v (pm_v G 21 j1 (nI 1)) 22 j1 v1) 23 j2)) 24 j1 ((pm_v (pm_v (pm_v G 21 j1 (nI 1)) 22 j1 v1) 23 j1 ((pm_v (pm_v G 21 j1 (nI 1)) 22 j1 v1) 23 j2)) 24 j2)) 25 j1 (nI 0)) 26 j1 (nI 0)) 27 j1 (nI 0)) 28 j1 (nI 0)) g)) (fun call n => ?_) ?_
  · refine Eq.trans (b := pm_g (mm x R Z Y o A c (pm_v (pm_v (pm_v (pm_v (pm_v (pm_v (pm_v (pm_v G 21 j1 (nI 1)) 22 j1 v1) 23 j1 ((pm_v (pm_v G 21 j1 (nI 1)) 22 j1 v1) 23 j2)) 24 j1 ((pm_v (pm_v (pm_v G 21 j1 (nI 1)) 22 j1 v1) 23 j1 ((pm_v (pm_v G 21 j1 (nI 1)) 22 j1 v1) 23 j2)) 24 j2)) 25 j1 (nI 0)) 26 j1 (nI 0)) 27 j1 (nI 0)) 28 j1 (nI 0)) g) 20 0 (pm_go call ns d 82 n 113 [some (pm_r 20 0), some (pm_i v1), some (pm_i v2), u3] [pm_a (R 20 0 9)] (mm x R Z Y o A c (pm_v (pm_v (pm_v (pm_v (pm_v (pm_v (pm_v (pm_v G 21 j1 (nI 1)) 22 j1 v1) 23 j1 ((pm_v (pm_v G 21 j1 (nI 1)) 22 j1 v1) 23 j2)) 24 j1 ((pm_v (pm_v (pm_v G 21 j1 (nI 1)) 22 j1 v1) 23 j1 ((pm_v (pm_v G 21 j1 (nI 1)) 22 j1 v1) 23 j2)) 24 j2)) 25 j1 (nI 0)) 26 j1 (nI 0)) 27 j1 (nI 0)) 28 j1 (nI 0)) g))) rfl ?_
    refine (g_ok (f := 20) (by decide) rfl).trans ?_
    exact (congrArg (fun z => pm_go call ns d 82 n 113 [some (pm_r 20 0), some (pm_i v1), some (pm_i v2), u3] [pm_a z] (mm x R Z Y o A c (pm_v (pm_v (pm_v (pm_v (pm_v (pm_v (pm_v (pm_v G 21 j1 (nI 1)) 22 j1 v1) 23 j1 ((pm_v (pm_v G 21 j1 (nI 1)) 22 j1 v1) 23 j2)) 24 j1 ((pm_v (pm_v (pm_v G 21 j1 (nI 1)) 22 j1 v1) 23 j1 ((pm_v (pm_v G 21 j1 (nI 1)) 22 j1 v1) 23 j2)) 24 j2)) 25 j1 (nI 0)) 26 j1 (nI 0)) 27 j1 (nI 0)) 28 j1 (nI 0)) g)) (rs_20_9 hR))
  refine pW_eq 3 (pc' := 116) (L' := [some (pm_r 20 0), some (pm_i v1), some (pm_i v2), u3]) (S' := []) (M' := (mm x R Z Y o A c (pm_v (pm_v (pm_v (pm_v (pm_v (pm_v (pm_v (pm_v (pm_v G 21 j1 (nI 1)) 22 j1 v1) 23 j1 ((pm_v (pm_v G 21 j1 (nI 1)) 22 j1 v1) 23 j2)) 24 j1 ((pm_v (pm_v (pm_v G 21 j1 (nI 1)) 22 j1 v1) 23 j1 ((pm_v (pm_v G 21 j1 (nI 1)) 22 j1 v1) 23 j2)) 24 j2)) 25 j1 (nI 0)) 26 j1 (nI 0)) 27 j1 (nI 0)) 28 j1 (nI 0)) 29 j1 (nI 0)) g)) (fun call n => ?_) ?_
  · refine Eq.trans (b := pm_g (mm x R Z Y o A c (pm_v (pm_v (pm_v (pm_v (pm_v (pm_v (pm_v (pm_v G 21 j1 (nI 1)) 22 j1 v1) 23 j1 ((pm_v (pm_v G 21 j1 (nI 1)) 22 j1 v1) 23 j2)) 24 j1 ((pm_v (pm_v (pm_v G 21 j1 (nI 1)) 22 j1 v1) 23 j1 ((pm_v (pm_v G 21 j1 (nI 1)) 22 j1 v1) 23 j2)) 24 j2)) 25 j1 (nI 0)) 26 j1 (nI 0)) 27 j1 (nI 0)) 28 j1 (nI 0)) g) 29 0 (pm_ix (v2) 8 (fun jx => pm_go call ns d 82 n 116 [some (pm_r 20 0), some (pm_i v1), some (pm_i v2), u3] [] (pm_u (mA Z A (pm_v (pm_v (pm_v (pm_v (pm_v (pm_v (pm_v (pm_v G 21 j1 (nI 1)) 22 j1 v1) 23 j1 ((pm_v (pm_v G 21 j1 (nI 1)) 22 j1 v1) 23 j2)) 24 j1 ((pm_v (pm_v (pm_v G 21 j1 (nI 1)) 22 j1 v1) 23 j1 ((pm_v (pm_v G 21 j1 (nI 1)) 22 j1 v1) 23 j2)) 24 j2)) 25 j1 (nI 0)) 26 j1 (nI 0)) 27 j1 (nI 0)) 28 j1 (nI 0))) 29 0 jx (nI 0), mB Y o c g, R, pm_tot, x)))) rfl ?_
    refine (g_ok (f := 29) (by decide) rfl).trans ?_
    refine (ix_ok (j := j1) e1 l1 (by decide)).trans ?_
    exact (congrArg (fun z => pm_go call ns d 82 n 116 [some (pm_r 20 0), some (pm_i v1), some (pm_i v2), u3] [] (z, mB Y o c g, R, pm_tot, x)) (uG (by decide)))
  refine pW_eq 2 (pc' := 120) (L' := [some (pm_r 20 0), some (pm_i v1), some (pm_i v2), u3]) (S' := [pm_r 31 0]) (M' := (mm x R Z Y o A c (pm_v (pm_v (pm_v (pm_v (pm_v (pm_v (pm_v (pm_v (pm_v G 21 j1 (nI 1)) 22 j1 v1) 23 j1 ((pm_v (pm_v G 21 j1 (nI 1)) 22 j1 v1) 23 j2)) 24 j1 ((pm_v (pm_v (pm_v G 21 j1 (nI 1)) 22 j1 v1) 23 j1 ((pm_v (pm_v G 21 j1 (nI 1)) 22 j1 v1) 23 j2)) 24 j2)) 25 j1 (nI 0)) 26 j1 (nI 0)) 27 j1 (nI 0)) 28 j1 (nI 0)) 29 j1 (nI 0)) g)) (fun call n => ?_) ?_
  · refine Eq.trans (b := pm_g (mm x R Z Y o A c (pm_v (pm_v (pm_v (pm_v (pm_v (pm_v (pm_v (pm_v (pm_v G 21 j1 (nI 1)) 22 j1 v1) 23 j1 ((pm_v (pm_v G 21 j1 (nI 1)) 22 j1 v1) 23 j2)) 24 j1 ((pm_v (pm_v (pm_v G 21 j1 (nI 1)) 22 j1 v1) 23 j1 ((pm_v (pm_v G 21 j1 (nI 1)) 22 j1 v1) 23 j2)) 24 j2)) 25 j1 (nI 0)) 26 j1 (nI 0)) 27 j1 (nI 0)) 28 j1 (nI 0)) 29 j1 (nI 0)) g) 20 0 (pm_go call ns d 82 n 120 [some (pm_r 20 0), some (pm_i v1), some (pm_i v2), u3] [pm_a (R 20 0 11)] (mm x R Z Y o A c (pm_v (pm_v (pm_v (pm_v (pm_v (pm_v (pm_v (pm_v (pm_v G 21 j1 (nI 1)) 22 j1 v1) 23 j1 ((pm_v (pm_v G 21 j1 (nI 1)) 22 j1 v1) 23 j2)) 24 j1 ((pm_v (pm_v (pm_v G 21 j1 (nI 1)) 22 j1 v1) 23 j1 ((pm_v (pm_v G 21 j1 (nI 1)) 22 j1 v1) 23 j2)) 24 j2)) 25 j1 (nI 0)) 26 j1 (nI 0)) 27 j1 (nI 0)) 28 j1 (nI 0)) 29 j1 (nI 0)) g))) rfl ?_
    refine (g_ok (f := 20) (by decide) rfl).trans ?_
    exact (congrArg (fun z => pm_go call ns d 82 n 120 [some (pm_r 20 0), some (pm_i v1), some (pm_i v2), u3] [pm_a z] (mm x R Z Y o A c (pm_v (pm_v (pm_v (pm_v (pm_v (pm_v (pm_v (pm_v (pm_v G 21 j1 (nI 1)) 22 j1 v1) 23 j1 ((pm_v (pm_v G 21 j1 (nI 1)) 22 j1 v1) 23 j2)) 24 j1 ((pm_v (pm_v (pm_v G 21 j1 (nI 1)) 22 j1 v1) 23 j1 ((pm_v (pm_v G 21 j1 (nI 1)) 22 j1 v1) 23 j2)) 24 j2)) 25 j1 (nI 0)) 26 j1 (nI 0)) 27 j1 (nI 0)) 28 j1 (nI 0)) 29 j1 (nI 0)) g)) (rs_20_11 hR))
  refine pW_eq 3 (pc' := 123) (L' := [some (pm_r 20 0), some (pm_i v1), some (pm_i v2), u3]) (S' := []) (M' := (mm x R Z Y o A c (pm_v (pm_v (pm_v (pm_v (pm_v (pm_v (pm_v (pm_v (pm_v (pm_v G 21 j1 (nI 1)) 22 j1 v1) 23 j1 ((pm_v (pm_v G 21 j1 (nI 1)) 22 j1 v1) 23 j2)) 24 j1 ((pm_v (pm_v (pm_v G 21 j1 (nI 1)) 22 j1 v1) 23 j1 ((pm_v (pm_v G 21 j1 (nI 1)) 22 j1 v1) 23 j2)) 24 j2)) 25 j1 (nI 0)) 26 j1 (nI 0)) 27 j1 (nI 0)) 28 j1 (nI 0)) 29 j1 (nI 0)) 31 j1 (nI 0)) g)) (fun call n => ?_) ?_
  · refine Eq.trans (b := pm_g (mm x R Z Y o A c (pm_v (pm_v (pm_v (pm_v (pm_v (pm_v (pm_v (pm_v (pm_v G 21 j1 (nI 1)) 22 j1 v1) 23 j1 ((pm_v (pm_v G 21 j1 (nI 1)) 22 j1 v1) 23 j2)) 24 j1 ((pm_v (pm_v (pm_v G 21 j1 (nI 1)) 22 j1 v1) 23 j1 ((pm_v (pm_v G 21 j1 (nI 1)) 22 j1 v1) 23 j2)) 24 j2)) 25 j1 (nI 0)) 26 j1 (nI 0)) 27 j1 (nI 0)) 28 j1 (nI 0)) 29 j1 (nI 0)) g) 31 0 (pm_ix (v2) 8 (fun jx => pm_bo (nI 0) (pm_go call ns d 82 n 123 [some (pm_r 20 0), some (pm_i v1), some (pm_i v2), u3] [] (pm_u (mA Z A (pm_v (pm_v (pm_v (pm_v (pm_v (pm_v (pm_v (pm_v (pm_v G 21 j1 (nI 1)) 22 j1 v1) 23 j1 ((pm_v (pm_v G 21 j1 (nI 1)) 22 j1 v1) 23 j2)) 24 j1 ((pm_v (pm_v (pm_v G 21 j1 (nI 1)) 22 j1 v1) 23 j1 ((pm_v (pm_v G 21 j1 (nI 1)) 22 j1 v1) 23 j2)) 24 j2)) 25 j1 (nI 0)) 26 j1 (nI 0)) 27 j1 (nI 0)) 28 j1 (nI 0)) 29 j1 (nI 0))) 31 0 jx (nI 0), mB Y o c g, R, pm_tot, x))))) rfl ?_
    refine (g_ok (f := 31) (by decide) rfl).trans ?_
    refine (ix_ok (j := j1) e1 l1 (by decide)).trans ?_
    refine (bo_ok (by decide)).trans ?_
    exact (congrArg (fun z => pm_go call ns d 82 n 123 [some (pm_r 20 0), some (pm_i v1), some (pm_i v2), u3] [] (z, mB Y o c g, R, pm_tot, x)) (uG (by decide)))
  refine pW_eq 2 (pc' := 127) (L' := [some (pm_r 20 0), some (pm_i v1), some (pm_i v2), u3]) (S' := [pm_r 34 0]) (M' := (mm x R Z Y o A c (pm_v (pm_v (pm_v (pm_v (pm_v (pm_v (pm_v (pm_v (pm_v (pm_v G 21 j1 (nI 1)) 22 j1 v1) 23 j1 ((pm_v (pm_v G 21 j1 (nI 1)) 22 j1 v1) 23 j2)) 24 j1 ((pm_v (pm_v (pm_v G 21 j1 (nI 1)) 22 j1 v1) 23 j1 ((pm_v (pm_v G 21 j1 (nI 1)) 22 j1 v1) 23 j2)) 24 j2)) 25 j1 (nI 0)) 26 j1 (nI 0)) 27 j1 (nI 0)) 28 j1 (nI 0)) 29 j1 (nI 0)) 31 j1 (nI 0)) g)) (fun call n => ?_) ?_
  · refine Eq.trans (b := pm_g (mm x R Z Y o A c (pm_v (pm_v (pm_v (pm_v (pm_v (pm_v (pm_v (pm_v (pm_v (pm_v G 21 j1 (nI 1)) 22 j1 v1) 23 j1 ((pm_v (pm_v G 21 j1 (nI 1)) 22 j1 v1) 23 j2)) 24 j1 ((pm_v (pm_v (pm_v G 21 j1 (nI 1)) 22 j1 v1) 23 j1 ((pm_v (pm_v G 21 j1 (nI 1)) 22 j1 v1) 23 j2)) 24 j2)) 25 j1 (nI 0)) 26 j1 (nI 0)) 27 j1 (nI 0)) 28 j1 (nI 0)) 29 j1 (nI 0)) 31 j1 (nI 0)) g) 20 0 (pm_go call ns d 82 n 127 [some (pm_r 20 0), some (pm_i v1), some (pm_i v2), u3] [pm_a (R 20 0 14)] (mm x R Z Y o A c (pm_v (pm_v (pm_v (pm_v (pm_v (pm_v (pm_v (pm_v (pm_v (pm_v G 21 j1 (nI 1)) 22 j1 v1) 23 j1 ((pm_v (pm_v G 21 j1 (nI 1)) 22 j1 v1) 23 j2)) 24 j1 ((pm_v (pm_v (pm_v G 21 j1 (nI 1)) 22 j1 v1) 23 j1 ((pm_v (pm_v G 21 j1 (nI 1)) 22 j1 v1) 23 j2)) 24 j2)) 25 j1 (nI 0)) 26 j1 (nI 0)) 27 j1 (nI 0)) 28 j1 (nI 0)) 29 j1 (nI 0)) 31 j1 (nI 0)) g))) rfl ?_
    refine (g_ok (f := 20) (by decide) rfl).trans ?_
    exact (congrArg (fun z => pm_go call ns d 82 n 127 [some (pm_r 20 0), some (pm_i v1), some (pm_i v2), u3] [pm_a z] (mm x R Z Y o A c (pm_v (pm_v (pm_v (pm_v (pm_v (pm_v (pm_v (pm_v (pm_v (pm_v G 21 j1 (nI 1)) 22 j1 v1) 23 j1 ((pm_v (pm_v G 21 j1 (nI 1)) 22 j1 v1) 23 j2)) 24 j1 ((pm_v (pm_v (pm_v G 21 j1 (nI 1)) 22 j1 v1) 23 j1 ((pm_v (pm_v G 21 j1 (nI 1)) 22 j1 v1) 23 j2)) 24 j2)) 25 j1 (nI 0)) 26 j1 (nI 0)) 27 j1 (nI 0)) 28 j1 (nI 0)) 29 j1 (nI 0)) 31 j1 (nI 0)) g)) (rs_20_14 hR))
  refine pW_eq 3 (pc' := 130) (L' := [some (pm_r 20 0), some (pm_i v1), some (pm_i v2), u3]) (S' := []) (M' := (mm x R Z Y o A c (pm_v (pm_v (pm_v (pm_v (pm_v (pm_v (pm_v (pm_v (pm_v (pm_v (pm_v G 21 j1 (nI 1)) 22 j1 v1) 23 j1 ((pm_v (pm_v G 21 j1 (nI 1)) 22 j1 v1) 23 j2)) 24 j1 ((pm_v (pm_v (pm_v G 21 j1 (nI 1)) 22 j1 v1) 23 j1 ((pm_v (pm_v G 21 j1 (nI 1)) 22 j1 v1) 23 j2)) 24 j2)) 25 j1 (nI 0)) 26 j1 (nI 0)) 27 j1 (nI 0)) 28 j1 (nI 0)) 29 j1 (nI 0)) 31 j1 (nI 0)) 34 j1 (nI 0)) g)) (fun call n => ?_) ?_
  · refine Eq.trans (b := pm_g (mm x R Z Y o A c (pm_v (pm_v (pm_v (pm_v (pm_v (pm_v (pm_v (pm_v (pm_v (pm_v G 21 j1 (nI 1)) 22 j1 v1) 23 j1 ((pm_v (pm_v G 21 j1 (nI 1)) 22 j1 v1) 23 j2)) 24 j1 ((pm_v (pm_v (pm_v G 21 j1 (nI 1)) 22 j1 v1) 23 j1 ((pm_v (pm_v G 21 j1 (nI 1)) 22 j1 v1) 23 j2)) 24 j2)) 25 j1 (nI 0)) 26 j1 (nI 0)) 27 j1 (nI 0)) 28 j1 (nI 0)) 29 j1 (nI 0)) 31 j1 (nI 0)) g) 34 0 (pm_ix (v2) 8 (fun jx => pm_go call ns d 82 n 130 [some (pm_r 20 0), some (pm_i v1), some (pm_i v2), u3] [] (pm_u (mA Z A (pm_v (pm_v (pm_v (pm_v (pm_v (pm_v (pm_v (pm_v (pm_v (pm_v G 21 j1 (nI 1)) 22 j1 v1) 23 j1 ((pm_v (pm_v G 21 j1 (nI 1)) 22 j1 v1) 23 j2)) 24 j1 ((pm_v (pm_v (pm_v G 21 j1 (nI 1)) 22 j1 v1) 23 j1 ((pm_v (pm_v G 21 j1 (nI 1)) 22 j1 v1) 23 j2)) 24 j2)) 25 j1 (nI 0)) 26 j1 (nI 0)) 27 j1 (nI 0)) 28 j1 (nI 0)) 29 j1 (nI 0)) 31 j1 (nI 0))) 34 0 jx (nI 0), mB Y o c g, R, pm_tot, x)))) rfl ?_
    refine (g_ok (f := 34) (by decide) rfl).trans ?_
    refine (ix_ok (j := j1) e1 l1 (by decide)).trans ?_
    exact (congrArg (fun z => pm_go call ns d 82 n 130 [some (pm_r 20 0), some (pm_i v1), some (pm_i v2), u3] [] (z, mB Y o c g, R, pm_tot, x)) (uG (by decide)))
  exact pW_eq 2 (fun call n => rfl) k
set_option maxRecDepth 20000 in
theorem b82_28 (hR : RS R) {v1 : Int32} {v2 : Int32} {u3 : Option pm_V}   (k : pW ns d 82 13 [some (pm_r 20 0), some (pm_i v1), some (pm_i (v2 + (nI 1))), u3] [] (mm x R Z Y o A c G g) Q) : pW ns d 82 28 [some (pm_r 20 0), some (pm_i v1), some (pm_i v2), u3] [] (mm x R Z Y o A c G g) Q := by
  exact pW_eq 2 (fun call n => rfl) k
set_option maxRecDepth 20000 in
theorem b82_132 (hR : RS R) {v1 : Int32} {v2 : Int32} {v3 : Int32}   (k1 : nI 6 ≤ v3 → pW ns d 82 166 [some (pm_r 20 0), some (pm_i v1), some (pm_i v2), some (pm_i v3)] [] (mm x R Z Y o A c G g) Q) (k2 : ¬ (nI 6 ≤ v3) → pW ns d 82 138 [some (pm_r 20 0), some (pm_i v1), some (pm_i v2), some (pm_i v3)] [] (mm x R Z Y o A c G g) Q) : pW ns d 82 132 [some (pm_r 20 0), some (pm_i v1), some (pm_i v2), some (pm_i v3)] [] (mm x R Z Y o A c G g) Q := by
  exact pW_if 3 (c := nI 6 ≤ v3) (fun call n => rfl) k1 k2
set_option maxRecDepth 20000 in
theorem b82_166 (hR : RS R) {v1 : Int32} {v2 : Int32} {u3 : Option pm_V}   (k : pW ns d 82 168 [some (pm_r 20 0), some (pm_i v1), some (pm_i v2), some (pm_i (nI 0))] [] (mm x R Z Y o A c G g) Q) : pW ns d 82 166 [some (pm_r 20 0), some (pm_i v1), some (pm_i v2), u3] [] (mm x R Z Y o A c G g) Q := by
  exact pW_eq 2 (fun call n => rfl) k
set_option maxRecDepth 20000 in
theorem b82_138 (hR : RS R) {v1 : Int32} {v2 : Int32} {v3 : Int32} {j1 : Nat} {j2 : Nat} (e1 : ((nI 6) * v1) + v3 = nI j1) (l1 : j1 < 48) (e2 : ((nI 6) * v2) + v3 = nI j2) (l2 : j2 < 48)  (k : pW ns d 82 132 [some (pm_r 20 0), some (pm_i v1), some (pm_i v2), some (pm_i (v3 + (nI 1)))] [] (mm x R Z Y o A c (pm_v G 32 j2 (G 32 j1)) g) Q) : pW ns d 82 138 [some (pm_r 20 0), some (pm_i v1), some (pm_i v2), some (pm_i v3)] [] (mm x R Z Y o A c G g) Q := by
  refine pW_eq 2 (pc' := 142) (L' := [some (pm_r 20 0), some (pm_i v1), some (pm_i v2), some (pm_i v3)]) (S' := [pm_r 32 0]) (M' := (mm x R Z Y o A c G g)) (fun call n => ?_) ?_
  · refine Eq.trans (b := pm_g (mm x R Z Y o A c G g) 20 0 (pm_go call ns d 82 n 142 [some (pm_r 20 0), some (pm_i v1), some (pm_i v2), some (pm_i v3)] [pm_a (R 20 0 12)] (mm x R Z Y o A c G g))) rfl ?_
    refine (g_ok (f := 20) (by decide) rfl).trans ?_
    exact (congrArg (fun z => pm_go call ns d 82 n 142 [some (pm_r 20 0), some (pm_i v1), some (pm_i v2), some (pm_i v3)] [pm_a z] (mm x R Z Y o A c G g)) (rs_20_12 hR))
  refine pW_eq 7 (pc' := 152) (L' := [some (pm_r 20 0), some (pm_i v1), some (pm_i v2), some (pm_i v3)]) (S' := [pm_r 32 0, pm_i (((nI 6) * v2) + v3), pm_r 32 0]) (M' := (mm x R Z Y o A c G g)) (fun call n => ?_) ?_
  · refine Eq.trans (b := pm_g (mm x R Z Y o A c G g) 20 0 (pm_go call ns d 82 n 152 [some (pm_r 20 0), some (pm_i v1), some (pm_i v2), some (pm_i v3)] [pm_a (R 20 0 12), pm_i (((nI 6) * v2) + v3), pm_r 32 0] (mm x R Z Y o A c G g))) rfl ?_
    refine (g_ok (f := 20) (by decide) rfl).trans ?_
    exact (congrArg (fun z => pm_go call ns d 82 n 152 [some (pm_r 20 0), some (pm_i v1), some (pm_i v2), some (pm_i v3)] [pm_a z, pm_i (((nI 6) * v2) + v3), pm_r 32 0] (mm x R Z Y o A c G g)) (rs_20_12 hR))
  refine pW_eq 6 (pc' := 159) (L' := [some (pm_r 20 0), some (pm_i v1), some (pm_i v2), some (pm_i v3)]) (S' := [pm_i (G 32 j1), pm_i (((nI 6) * v2) + v3), pm_r 32 0]) (M' := (mm x R Z Y o A c G g)) (fun call n => ?_) ?_
  · refine Eq.trans (b := pm_g (mm x R Z Y o A c G g) 32 0 (pm_ix (((nI 6) * v1) + v3) 48 (fun jx => pm_go call ns d 82 n 159 [some (pm_r 20 0), some (pm_i v1), some (pm_i v2), some (pm_i v3)] [pm_i (G 32 jx), pm_i (((nI 6) * v2) + v3), pm_r 32 0] (mm x R Z Y o A c G g)))) rfl ?_
    refine (g_ok (f := 32) (by decide) rfl).trans ?_
    refine (ix_ok (j := j1) e1 l1 (by decide)).trans ?_
    rfl
  refine pW_eq 1 (pc' := 160) (L' := [some (pm_r 20 0), some (pm_i v1), some (pm_i v2), some (pm_i v3)]) (S' := []) (M' := (mm x R Z Y o A c (pm_v G 32 j2 (G 32 j1)) g)) (fun call n => ?_) ?_
  · refine Eq.trans (b := pm_g (mm x R Z Y o A c G g) 32 0 (pm_ix (((nI 6) * v2) + v3) 48 (fun jx => pm_go call ns d 82 n 160 [some (pm_r 20 0), some (pm_i v1), some (pm_i v2), some (pm_i v3)] [] (pm_u (mA Z A G) 32 0 jx (G 32 j1), mB Y o c g, R, pm_tot, x)))) rfl ?_
    refine (g_ok (f := 32) (by decide) rfl).trans ?_
    refine (ix_ok (j := j2) e2 l2 (by decide)).trans ?_
    exact (congrArg (fun z => pm_go call ns d 82 n 160 [some (pm_r 20 0), some (pm_i v1), some (pm_i v2), some (pm_i v3)] [] (z, mB Y o c g, R, pm_tot, x)) (uG (by decide)))
  exact pW_eq 2 (fun call n => rfl) k
set_option maxRecDepth 20000 in
theorem b82_168 (hR : RS R) {v1 : Int32} {v2 : Int32} {v3 : Int32}   (k1 : nI 8 ≤ v3 → pW ns d 82 202 [some (pm_r 20 0), some (pm_i v1), some (pm_i v2), some (pm_i v3)] [] (mm x R Z Y o A c G g) Q) (k2 : ¬ (nI 8 ≤ v3) → pW ns d 82 174 [some (pm_r 20 0), some (pm_i v1), some (pm_i v2), some (pm_i v3)] [] (mm x R Z Y o A c G g) Q) : pW ns d 82 168 [some (pm_r 20 0), some (pm_i v1), some (pm_i v2), some (pm_i v3)] [] (mm x R Z Y o A c G g) Q := by
  exact pW_if 3 (c := nI 8 ≤ v3) (fun call n => rfl) k1 k2
set_option maxRecDepth 20000 in
theorem b82_202 (hR : RS R) {u1 : Option pm_V} {v2 : Int32} {u3 : Option pm_V}  {x2 : Nat} {o2 : Int64} {A2 : Nat → Nat → Nat → Int32} {c2 : Nat → Int64} {G2 : Nat → Nat → Int32} {g2 : Nat → Int64}  (hE : pE ns d 72 [pm_r 20 0] (mm x R Z Y o A c G g) (.inl (none), (mm x2 R Z Y o2 A2 c2 G2 g2))) (k : pW ns d 82 206 [some (pm_r 20 0), u1, some (pm_i v2), u3] [] (mm x2 R Z Y o2 A2 c2 G2 g2) Q) : pW ns d 82 202 [some (pm_r 20 0), u1, some (pm_i v2), u3] [] (mm x R Z Y o A c G g) Q := by
  refine pW_call (pc' := 203) (r := []) (L' := [some (pm_r 20 0), u1, some (pm_i v2), u3]) 2 (fun call n => ?_) hE k
  exact Eq.trans (b := pm_g (mm x R Z Y o A c G g) 20 0 (pm_cl call 82 (pm_go call ns d 82 n) 203 72 [pm_r 20 0] [] [some (pm_r 20 0), u1, some (pm_i v2), u3] (mm x R Z Y o A c G g))) rfl (g_ok (f := 20) (by decide) rfl)
set_option maxRecDepth 20000 in
theorem b82_174 (hR : RS R) {v1 : Int32} {v2 : Int32} {v3 : Int32} {j1 : Nat} {j2 : Nat} (e1 : ((nI 8) * v1) + v3 = nI j1) (l1 : j1 < 64) (e2 : ((nI 8) * v2) + v3 = nI j2) (l2 : j2 < 64)  (k : pW ns d 82 168 [some (pm_r 20 0), some (pm_i v1), some (pm_i v2), some (pm_i (v3 + (nI 1)))] [] (mm x R Z Y o A c (pm_v G 33 j2 (G 33 j1)) g) Q) : pW ns d 82 174 [some (pm_r 20 0), some (pm_i v1), some (pm_i v2), some (pm_i v3)] [] (mm x R Z Y o A c G g) Q := by
  refine pW_eq 2 (pc' := 178) (L' := [some (pm_r 20 0), some (pm_i v1), some (pm_i v2), some (pm_i v3)]) (S' := [pm_r 33 0]) (M' := (mm x R Z Y o A c G g)) (fun call n => ?_) ?_
  · refine Eq.trans (b := pm_g (mm x R Z Y o A c G g) 20 0 (pm_go call ns d 82 n 178 [some (pm_r 20 0), some (pm_i v1), some (pm_i v2), some (pm_i v3)] [pm_a (R 20 0 13)] (mm x R Z Y o A c G g))) rfl ?_
    refine (g_ok (f := 20) (by decide) rfl).trans ?_
    exact (congrArg (fun z => pm_go call ns d 82 n 178 [some (pm_r 20 0), some (pm_i v1), some (pm_i v2), some (pm_i v3)] [pm_a z] (mm x R Z Y o A c G g)) (rs_20_13 hR))
  refine pW_eq 7 (pc' := 188) (L' := [some (pm_r 20 0), some (pm_i v1), some (pm_i v2), some (pm_i v3)]) (S' := [pm_r 33 0, pm_i (((nI 8) * v2) + v3), pm_r 33 0]) (M' := (mm x R Z Y o A c G g)) (fun call n => ?_) ?_
  · refine Eq.trans (b := pm_g (mm x R Z Y o A c G g) 20 0 (pm_go call ns d 82 n 188 [some (pm_r 20 0), some (pm_i v1), some (pm_i v2), some (pm_i v3)] [pm_a (R 20 0 13), pm_i (((nI 8) * v2) + v3), pm_r 33 0] (mm x R Z Y o A c G g))) rfl ?_
    refine (g_ok (f := 20) (by decide) rfl).trans ?_
    exact (congrArg (fun z => pm_go call ns d 82 n 188 [some (pm_r 20 0), some (pm_i v1), some (pm_i v2), some (pm_i v3)] [pm_a z, pm_i (((nI 8) * v2) + v3), pm_r 33 0] (mm x R Z Y o A c G g)) (rs_20_13 hR))
  refine pW_eq 6 (pc' := 195) (L' := [some (pm_r 20 0), some (pm_i v1), some (pm_i v2), some (pm_i v3)]) (S' := [pm_i (G 33 j1), pm_i (((nI 8) * v2) + v3), pm_r 33 0]) (M' := (mm x R Z Y o A c G g)) (fun call n => ?_) ?_
  · refine Eq.trans (b := pm_g (mm x R Z Y o A c G g) 33 0 (pm_ix (((nI 8) * v1) + v3) 64 (fun jx => pm_go call ns d 82 n 195 [some (pm_r 20 0), some (pm_i v1), some (pm_i v2), some (pm_i v3)] [pm_i (G 33 jx), pm_i (((nI 8) * v2) + v3), pm_r 33 0] (mm x R Z Y o A c G g)))) rfl ?_
    refine (g_ok (f := 33) (by decide) rfl).trans ?_
    refine (ix_ok (j := j1) e1 l1 (by decide)).trans ?_
    rfl
  refine pW_eq 1 (pc' := 196) (L' := [some (pm_r 20 0), some (pm_i v1), some (pm_i v2), some (pm_i v3)]) (S' := []) (M' := (mm x R Z Y o A c (pm_v G 33 j2 (G 33 j1)) g)) (fun call n => ?_) ?_
  · refine Eq.trans (b := pm_g (mm x R Z Y o A c G g) 33 0 (pm_ix (((nI 8) * v2) + v3) 64 (fun jx => pm_go call ns d 82 n 196 [some (pm_r 20 0), some (pm_i v1), some (pm_i v2), some (pm_i v3)] [] (pm_u (mA Z A G) 33 0 jx (G 33 j1), mB Y o c g, R, pm_tot, x)))) rfl ?_
    refine (g_ok (f := 33) (by decide) rfl).trans ?_
    refine (ix_ok (j := j2) e2 l2 (by decide)).trans ?_
    exact (congrArg (fun z => pm_go call ns d 82 n 196 [some (pm_r 20 0), some (pm_i v1), some (pm_i v2), some (pm_i v3)] [] (z, mB Y o c g, R, pm_tot, x)) (uG (by decide)))
  exact pW_eq 2 (fun call n => rfl) k
set_option maxRecDepth 20000 in
theorem b82_206 (hR : RS R) {u0 : Option pm_V} {u1 : Option pm_V} {v2 : Int32} {u3 : Option pm_V}   (k : Q (.inl (some (pm_i v2)), (mm x R Z Y o A c G g))) : pW ns d 82 206 [u0, u1, some (pm_i v2), u3] [] (mm x R Z Y o A c G g) Q := by
  refine pW_ret 2 (fun call n => ?_) k
  rfl
set_option maxRecDepth 20000 in
theorem t82_6 (hR : RS R) {v1 : Int32} {u2 : Option pm_V} {u3 : Option pm_V} {vs0 : Int32}  (k1 : (vs0 = 0) → Q (.inl (some (pm_i (nI 0))), (mm x R Z Y o A c G g))) (k2 : (¬ (vs0 = 0)) → pW ns d 82 13 [some (pm_r 20 0), some (pm_i v1), some (pm_i (nI 1)), u3] [] (mm x R Z Y o A c G g) Q) : pW ns d 82 6 [some (pm_r 20 0), some (pm_i v1), u2, u3] [pm_i vs0] (mm x R Z Y o A c G g) Q := by
  refine b82_6 hR  (fun h1 => ?_) (fun h1 => ?_)
  · skip
    exact b82_9 hR   (k1 h1)
  · skip
    exact b82_11 hR   (k2 h1)
set_option maxRecDepth 20000 in
theorem t82_13 (hR : RS R) {v1 : Int32} {v2 : Int32} {u3 : Option pm_V}  (k1 : (nI 8 ≤ v2) → (v2 = nI 8) → Q (.inl (some (pm_i (-nI 2))), (mm x R Z Y o A c G g))) (k2 : (nI 8 ≤ v2) → (¬ (v2 = nI 8)) → pW ns d 82 43 [some (pm_r 20 0), some (pm_i v1), some (pm_i v2), u3] [] (mm x R Z Y o A c G g) Q) (k3 : (¬ (nI 8 ≤ v2)) → pW ns d 82 19 [some (pm_r 20 0), some (pm_i v1), some (pm_i v2), u3] [] (mm x R Z Y o A c G g) Q) : pW ns d 82 13 [some (pm_r 20 0), some (pm_i v1), some (pm_i v2), u3] [] (mm x R Z Y o A c G g) Q := by
  refine b82_13 hR  (fun h1 => ?_) (fun h1 => ?_)
  · skip
    refine b82_34 hR   (fun h2 => ?_) (fun h2 => ?_)
    · skip
      exact b82_40 hR   (k1 h1 h2)
    · skip
      exact (k2 h1 h2)
  · skip
    exact (k3 h1)
set_option maxRecDepth 20000 in
theorem t82_34 (hR : RS R) {v1 : Int32} {v2 : Int32} {u3 : Option pm_V}  (k1 : (v2 = nI 8) → Q (.inl (some (pm_i (-nI 2))), (mm x R Z Y o A c G g))) (k2 : (¬ (v2 = nI 8)) → pW ns d 82 43 [some (pm_r 20 0), some (pm_i v1), some (pm_i v2), u3] [] (mm x R Z Y o A c G g) Q) : pW ns d 82 34 [some (pm_r 20 0), some (pm_i v1), some (pm_i v2), u3] [] (mm x R Z Y o A c G g) Q := by
  refine b82_34 hR  (fun h1 => ?_) (fun h1 => ?_)
  · skip
    exact b82_40 hR   (k1 h1)
  · skip
    exact (k2 h1)
set_option maxRecDepth 20000 in
theorem t82_19 (hR : RS R) {v1 : Int32} {v2 : Int32} {u3 : Option pm_V} {j1 : Nat} (e1 : v2 = nI j1) (l1 : j1 < 8) (k1 : (G 21 j1 = 0) → (v2 = nI 8) → Q (.inl (some (pm_i (-nI 2))), (mm x R Z Y o A c G g))) (k2 : (G 21 j1 = 0) → (¬ (v2 = nI 8)) → pW ns d 82 43 [some (pm_r 20 0), some (pm_i v1), some (pm_i v2), u3] [] (mm x R Z Y o A c G g) Q) (k3 : (¬ (G 21 j1 = 0)) → pW ns d 82 13 [some (pm_r 20 0), some (pm_i v1), some (pm_i (v2 + (nI 1))), u3] [] (mm x R Z Y o A c G g) Q) : pW ns d 82 19 [some (pm_r 20 0), some (pm_i v1), some (pm_i v2), u3] [] (mm x R Z Y o A c G g) Q := by
  refine b82_19 hR e1 l1 (fun h1 => ?_) (fun h1 => ?_)
  · skip
    refine b82_34 hR   (fun h2 => ?_) (fun h2 => ?_)
    · skip
      exact b82_40 hR   (k1 h1 h2)
    · skip
      exact (k2 h1 h2)
  · skip
    exact b82_28 hR   (k3 h1)
set_option maxRecDepth 20000 in
theorem t82_132 (hR : RS R) {v1 : Int32} {v2 : Int32} {v3 : Int32}  (k1 : (nI 6 ≤ v3) → pW ns d 82 168 [some (pm_r 20 0), some (pm_i v1), some (pm_i v2), some (pm_i (nI 0))] [] (mm x R Z Y o A c G g) Q) (k2 : (¬ (nI 6 ≤ v3)) → pW ns d 82 138 [some (pm_r 20 0), some (pm_i v1), some (pm_i v2), some (pm_i v3)] [] (mm x R Z Y o A c G g) Q) : pW ns d 82 132 [some (pm_r 20 0), some (pm_i v1), some (pm_i v2), some (pm_i v3)] [] (mm x R Z Y o A c G g) Q := by
  refine b82_132 hR  (fun h1 => ?_) (fun h1 => ?_)
  · skip
    exact b82_166 hR   (k1 h1)
  · skip
    exact (k2 h1)
set_option maxRecDepth 20000 in
theorem t82_168 (hR : RS R) {v1 : Int32} {v2 : Int32} {v3 : Int32}  (k1 : (nI 8 ≤ v3) → pW ns d 82 202 [some (pm_r 20 0), some (pm_i v1), some (pm_i v2), some (pm_i v3)] [] (mm x R Z Y o A c G g) Q) (k2 : (¬ (nI 8 ≤ v3)) → pW ns d 82 174 [some (pm_r 20 0), some (pm_i v1), some (pm_i v2), some (pm_i v3)] [] (mm x R Z Y o A c G g) Q) : pW ns d 82 168 [some (pm_r 20 0), some (pm_i v1), some (pm_i v2), some (pm_i v3)] [] (mm x R Z Y o A c G g) Q := by
  refine b82_168 hR  (fun h1 => ?_) (fun h1 => ?_)
  · skip
    exact (k1 h1)
  · skip
    exact (k2 h1)
/-! 83 JobLayerModel.end -/
set_option maxRecDepth 20000 in
theorem b83_0 (hR : RS R) {v1 : Int32} {v2 : Int32}  {x2 : Nat} {o2 : Int64} {A2 : Nat → Nat → Nat → Int32} {c2 : Nat → Int64} {G2 : Nat → Nat → Int32} {g2 : Nat → Int64} {y : Int32} (hE : pE ns d 81 [pm_r 20 0, pm_i v1, pm_i (nI 1)] (mm x R Z Y o A c G g) (.inl (some (pm_i y)), (mm x2 R Z Y o2 A2 c2 G2 g2))) (k : pW ns d 83 6 [some (pm_r 20 0), some (pm_i v1), some (pm_i v2)] [pm_i y] (mm x2 R Z Y o2 A2 c2 G2 g2) Q) : pW ns d 83 0 [some (pm_r 20 0), some (pm_i v1), some (pm_i v2)] [] (mm x R Z Y o A c G g) Q := by
  refine pW_call (pc' := 3) (r := []) (L' := [some (pm_r 20 0), some (pm_i v1), some (pm_i v2)]) 4 (fun call n => ?_) hE k
  exact Eq.trans (b := pm_g (mm x R Z Y o A c G g) 20 0 (pm_cl call 83 (pm_go call ns d 83 n) 3 81 [pm_r 20 0, pm_i v1, pm_i (nI 1)] [] [some (pm_r 20 0), some (pm_i v1), some (pm_i v2)] (mm x R Z Y o A c G g))) rfl (g_ok (f := 20) (by decide) rfl)
set_option maxRecDepth 20000 in
theorem b83_6 (hR : RS R) {v1 : Int32} {v2 : Int32} {vs0 : Int32}   (k1 : vs0 = 0 → pW ns d 83 9 [some (pm_r 20 0), some (pm_i v1), some (pm_i v2)] [] (mm x R Z Y o A c G g) Q) (k2 : ¬ (vs0 = 0) → pW ns d 83 11 [some (pm_r 20 0), some (pm_i v1), some (pm_i v2)] [] (mm x R Z Y o A c G g) Q) : pW ns d 83 6 [some (pm_r 20 0), some (pm_i v1), some (pm_i v2)] [pm_i vs0] (mm x R Z Y o A c G g) Q := by
  exact pW_if 1 (c := vs0 = 0) (fun call n => rfl) k1 k2
set_option maxRecDepth 20000 in
theorem b83_9 (hR : RS R) {u0 : Option pm_V} {u1 : Option pm_V} {u2 : Option pm_V}   (k : Q (.inl (some (pm_i (nI 0))), (mm x R Z Y o A c G g))) : pW ns d 83 9 [u0, u1, u2] [] (mm x R Z Y o A c G g) Q := by
  refine pW_ret 2 (fun call n => ?_) k
  rfl
set_option maxRecDepth 20000 in
theorem b83_11 (hR : RS R) {v1 : Int32} {v2 : Int32}   (k1 : v1 = 0 → pW ns d 83 15 [some (pm_r 20 0), some (pm_i v1), some (pm_i v2)] [] (mm x R Z Y o A c G g) Q) (k2 : ¬ (v1 = 0) → pW ns d 83 18 [some (pm_r 20 0), some (pm_i v1), some (pm_i v2)] [] (mm x R Z Y o A c G g) Q) : pW ns d 83 11 [some (pm_r 20 0), some (pm_i v1), some (pm_i v2)] [] (mm x R Z Y o A c G g) Q := by
  exact pW_if 2 (c := v1 = 0) (fun call n => rfl) k1 k2
set_option maxRecDepth 20000 in
theorem b83_15 (hR : RS R) {u0 : Option pm_V} {u1 : Option pm_V} {u2 : Option pm_V}   (k : Q (.inl (some (pm_i (-nI 7))), (mm x R Z Y o A c G g))) : pW ns d 83 15 [u0, u1, u2] [] (mm x R Z Y o A c G g) Q := by
  refine pW_ret 2 (fun call n => ?_) k
  rfl
set_option maxRecDepth 20000 in
theorem b83_18 (hR : RS R) {v1 : Int32} {v2 : Int32}  {x2 : Nat} {o2 : Int64} {A2 : Nat → Nat → Nat → Int32} {c2 : Nat → Int64} {G2 : Nat → Nat → Int32} {g2 : Nat → Int64}  (hE : pE ns d 59 [pm_r 20 0, pm_i v1, pm_i (v2 &&& (nI 63))] (mm x R Z Y o A c G g) (.inl (none), (mm x2 R Z Y o2 A2 c2 G2 g2))) (k : pW ns d 83 27 [some (pm_r 20 0), some (pm_i v1), some (pm_i v2)] [] (mm x2 R Z Y o2 A2 c2 G2 g2) Q) : pW ns d 83 18 [some (pm_r 20 0), some (pm_i v1), some (pm_i v2)] [] (mm x R Z Y o A c G g) Q := by
  refine pW_call (pc' := 24) (r := []) (L' := [some (pm_r 20 0), some (pm_i v1), some (pm_i v2)]) 6 (fun call n => ?_) hE k
  exact Eq.trans (b := pm_g (mm x R Z Y o A c G g) 20 0 (pm_cl call 83 (pm_go call ns d 83 n) 24 59 [pm_r 20 0, pm_i v1, pm_i (v2 &&& (nI 63))] [] [some (pm_r 20 0), some (pm_i v1), some (pm_i v2)] (mm x R Z Y o A c G g))) rfl (g_ok (f := 20) (by decide) rfl)
set_option maxRecDepth 20000 in
theorem b83_27 (hR : RS R) {u1 : Option pm_V} {u2 : Option pm_V}  {x2 : Nat} {o2 : Int64} {A2 : Nat → Nat → Nat → Int32} {c2 : Nat → Int64} {G2 : Nat → Nat → Int32} {g2 : Nat → Int64}  (hE : pE ns d 72 [pm_r 20 0] (mm x R Z Y o A c G g) (.inl (none), (mm x2 R Z Y o2 A2 c2 G2 g2))) (k : pW ns d 83 31 [some (pm_r 20 0), u1, u2] [] (mm x2 R Z Y o2 A2 c2 G2 g2) Q) : pW ns d 83 27 [some (pm_r 20 0), u1, u2] [] (mm x R Z Y o A c G g) Q := by
  refine pW_call (pc' := 28) (r := []) (L' := [some (pm_r 20 0), u1, u2]) 2 (fun call n => ?_) hE k
  exact Eq.trans (b := pm_g (mm x R Z Y o A c G g) 20 0 (pm_cl call 83 (pm_go call ns d 83 n) 28 72 [pm_r 20 0] [] [some (pm_r 20 0), u1, u2] (mm x R Z Y o A c G g))) rfl (g_ok (f := 20) (by decide) rfl)
set_option maxRecDepth 20000 in
theorem b83_31 (hR : RS R) {u0 : Option pm_V} {u1 : Option pm_V} {u2 : Option pm_V}   (k : Q (.inl (some (pm_i (nI 0))), (mm x R Z Y o A c G g))) : pW ns d 83 31 [u0, u1, u2] [] (mm x R Z Y o A c G g) Q := by
  refine pW_ret 2 (fun call n => ?_) k
  rfl
set_option maxRecDepth 20000 in
theorem t83_6 (hR : RS R) {v1 : Int32} {v2 : Int32} {vs0 : Int32}  (k1 : (vs0 = 0) → Q (.inl (some (pm_i (nI 0))), (mm x R Z Y o A c G g))) (k2 : (¬ (vs0 = 0)) → (v1 = 0) → Q (.inl (some (pm_i (-nI 7))), (mm x R Z Y o A c G g))) (k3 : (¬ (vs0 = 0)) → (¬ (v1 = 0)) → pW ns d 83 18 [some (pm_r 20 0), some (pm_i v1), some (pm_i v2)] [] (mm x R Z Y o A c G g) Q) : pW ns d 83 6 [some (pm_r 20 0), some (pm_i v1), some (pm_i v2)] [pm_i vs0] (mm x R Z Y o A c G g) Q := by
  refine b83_6 hR  (fun h1 => ?_) (fun h1 => ?_)
  · skip
    exact b83_9 hR   (k1 h1)
  · skip
    refine b83_11 hR   (fun h2 => ?_) (fun h2 => ?_)
    · skip
      exact b83_15 hR   (k2 h1 h2)
    · skip
      exact (k3 h1 h2)
set_option maxRecDepth 20000 in
theorem t83_11 (hR : RS R) {v1 : Int32} {v2 : Int32}  (k1 : (v1 = 0) → Q (.inl (some (pm_i (-nI 7))), (mm x R Z Y o A c G g))) (k2 : (¬ (v1 = 0)) → pW ns d 83 18 [some (pm_r 20 0), some (pm_i v1), some (pm_i v2)] [] (mm x R Z Y o A c G g) Q) : pW ns d 83 11 [some (pm_r 20 0), some (pm_i v1), some (pm_i v2)] [] (mm x R Z Y o A c G g) Q := by
  refine b83_11 hR  (fun h1 => ?_) (fun h1 => ?_)
  · skip
    exact b83_15 hR   (k1 h1)
  · skip
    exact (k2 h1)
/-! 84 JobLayerModel.pipe -/
set_option maxRecDepth 20000 in
theorem b84_0 (hR : RS R) {v1 : Int32} {u2 : Option pm_V} {u3 : Option pm_V} {u4 : Option pm_V}  {x2 : Nat} {o2 : Int64} {A2 : Nat → Nat → Nat → Int32} {c2 : Nat → Int64} {G2 : Nat → Nat → Int32} {g2 : Nat → Int64} {y : Int32} (hE : pE ns d 81 [pm_r 20 0, pm_i v1, pm_i (nI 1)] (mm x R Z Y o A c G g) (.inl (some (pm_i y)), (mm x2 R Z Y o2 A2 c2 G2 g2))) (k : pW ns d 84 6 [some (pm_r 20 0), some (pm_i v1), u2, u3, u4] [pm_i y] (mm x2 R Z Y o2 A2 c2 G2 g2) Q) : pW ns d 84 0 [some (pm_r 20 0), some (pm_i v1), u2, u3, u4] [] (mm x R Z Y o A c G g) Q := by
  refine pW_call (pc' := 3) (r := []) (L' := [some (pm_r 20 0), some (pm_i v1), u2, u3, u4]) 4 (fun call n => ?_) hE k
  exact Eq.trans (b := pm_g (mm x R Z Y o A c G g) 20 0 (pm_cl call 84 (pm_go call ns d 84 n) 3 81 [pm_r 20 0, pm_i v1, pm_i (nI 1)] [] [some (pm_r 20 0), some (pm_i v1), u2, u3, u4] (mm x R Z Y o A c G g))) rfl (g_ok (f := 20) (by decide) rfl)
set_option maxRecDepth 20000 in
theorem b84_6 (hR : RS R) {v1 : Int32} {u2 : Option pm_V} {u3 : Option pm_V} {u4 : Option pm_V} {vs0 : Int32}   (k1 : vs0 = 0 → pW ns d 84 9 [some (pm_r 20 0), some (pm_i v1), u2, u3, u4] [] (mm x R Z Y o A c G g) Q) (k2 : ¬ (vs0 = 0) → pW ns d 84 11 [some (pm_r 20 0), some (pm_i v1), u2, u3, u4] [] (mm x R Z Y o A c G g) Q) : pW ns d 84 6 [some (pm_r 20 0), some (pm_i v1), u2, u3, u4] [pm_i vs0] (mm x R Z Y o A c G g) Q := by
  exact pW_if 1 (c := vs0 = 0) (fun call n => rfl) k1 k2
set_option maxRecDepth 20000 in
theorem b84_9 (hR : RS R) {u0 : Option pm_V} {u1 : Option pm_V} {u2 : Option pm_V} {u3 : Option pm_V} {u4 : Option pm_V}   (k : Q (.inl (some (pm_i (nI 0))), (mm x R Z Y o A c G g))) : pW ns d 84 9 [u0, u1, u2, u3, u4] [] (mm x R Z Y o A c G g) Q := by
  refine pW_ret 2 (fun call n => ?_) k
  rfl
set_option maxRecDepth 20000 in
theorem b84_11 (hR : RS R) {v1 : Int32} {u2 : Option pm_V} {u3 : Option pm_V} {u4 : Option pm_V}   (k : pW ns d 84 18 [some (pm_r 20 0), some (pm_i v1), some (pm_i (-nI 1)), some (pm_i (-nI 1)), some (pm_i (nI 5))] [] (mm x R Z Y o A c G g) Q) : pW ns d 84 11 [some (pm_r 20 0), some (pm_i v1), u2, u3, u4] [] (mm x R Z Y o A c G g) Q := by
  exact pW_eq 6 (fun call n => rfl) k
set_option maxRecDepth 20000 in
theorem b84_18 (hR : RS R) {v1 : Int32} {v2 : Int32} {v3 : Int32} {v4 : Int32}   (k1 : v4 < 0 → pW ns d 84 49 [some (pm_r 20 0), some (pm_i v1), some (pm_i v2), some (pm_i v3), some (pm_i v4)] [] (mm x R Z Y o A c G g) Q) (k2 : ¬ (v4 < 0) → pW ns d 84 23 [some (pm_r 20 0), some (pm_i v1), some (pm_i v2), some (pm_i v3), some (pm_i v4)] [] (mm x R Z Y o A c G g) Q) : pW ns d 84 18 [some (pm_r 20 0), some (pm_i v1), some (pm_i v2), some (pm_i v3), some (pm_i v4)] [] (mm x R Z Y o A c G g) Q := by
  exact pW_if 2 (c := v4 < 0) (fun call n => rfl) k1 k2
set_option maxRecDepth 20000 in
theorem b84_49 (hR : RS R) {v1 : Int32} {v2 : Int32} {v3 : Int32} {u4 : Option pm_V}   (k : pW ns d 84 52 [some (pm_r 20 0), some (pm_i v1), some (pm_i v2), some (pm_i v3), some (pm_i (nI 0))] [] (mm x R Z Y o A c G g) Q) : pW ns d 84 49 [some (pm_r 20 0), some (pm_i v1), some (pm_i v2), some (pm_i v3), u4] [] (mm x R Z Y o A c G g) Q := by
  exact pW_eq 2 (fun call n => rfl) k
set_option maxRecDepth 20000 in
theorem b84_23 (hR : RS R) {v1 : Int32} {v2 : Int32} {v3 : Int32} {v4 : Int32} {j1 : Nat} (e1 : ((nI 6) * v1) + v4 = nI j1) (l1 : j1 < 48)  (k1 : G 32 j1 = 0 → pW ns d 84 38 [some (pm_r 20 0), some (pm_i v1), some (pm_i v2), some (pm_i v3), some (pm_i v4)] [] (mm x R Z Y o A c G g) Q) (k2 : ¬ (G 32 j1 = 0) → pW ns d 84 43 [some (pm_r 20 0), some (pm_i v1), some (pm_i v2), some (pm_i v3), some (pm_i v4)] [] (mm x R Z Y o A c G g) Q) : pW ns d 84 23 [some (pm_r 20 0), some (pm_i v1), some (pm_i v2), some (pm_i v3), some (pm_i v4)] [] (mm x R Z Y o A c G g) Q := by
  refine pW_eq 2 (pc' := 27) (L' := [some (pm_r 20 0), some (pm_i v1), some (pm_i v2), some (pm_i v3), some (pm_i v4)]) (S' := [pm_r 32 0]) (M' := (mm x R Z Y o A c G g)) (fun call n => ?_) ?_
  · refine Eq.trans (b := pm_g (mm x R Z Y o A c G g) 20 0 (pm_go call ns d 84 n 27 [some (pm_r 20 0), some (pm_i v1), some (pm_i v2), some (pm_i v3), some (pm_i v4)] [pm_a (R 20 0 12)] (mm x R Z Y o A c G g))) rfl ?_
    refine (g_ok (f := 20) (by decide) rfl).trans ?_
    exact (congrArg (fun z => pm_go call ns d 84 n 27 [some (pm_r 20 0), some (pm_i v1), some (pm_i v2), some (pm_i v3), some (pm_i v4)] [pm_a z] (mm x R Z Y o A c G g)) (rs_20_12 hR))
  refine pW_eq 6 (pc' := 35) (L' := [some (pm_r 20 0), some (pm_i v1), some (pm_i v2), some (pm_i v3), some (pm_i v4)]) (S' := [pm_i (G 32 j1)]) (M' := (mm x R Z Y o A c G g)) (fun call n => ?_) ?_
  · refine Eq.trans (b := pm_g (mm x R Z Y o A c G g) 32 0 (pm_ix (((nI 6) * v1) + v4) 48 (fun jx => pm_go call ns d 84 n 35 [some (pm_r 20 0), some (pm_i v1), some (pm_i v2), some (pm_i v3), some (pm_i v4)] [pm_i (G 32 jx)] (mm x R Z Y o A c G g)))) rfl ?_
    refine (g_ok (f := 32) (by decide) rfl).trans ?_
    refine (ix_ok (j := j1) e1 l1 (by decide)).trans ?_
    rfl
  exact pW_if 1 (c := G 32 j1 = 0) (fun call n => rfl) k1 k2
set_option maxRecDepth 20000 in
theorem b84_52 (hR : RS R) {v1 : Int32} {v2 : Int32} {v3 : Int32} {v4 : Int32}   (k1 : nI 6 ≤ v4 → pW ns d 84 74 [some (pm_r 20 0), some (pm_i v1), some (pm_i v2), some (pm_i v3), some (pm_i v4)] [] (mm x R Z Y o A c G g) Q) (k2 : ¬ (nI 6 ≤ v4) → pW ns d 84 59 [some (pm_r 20 0), some (pm_i v1), some (pm_i v2), some (pm_i v3), some (pm_i v4)] [] (mm x R Z Y o A c G g) Q) : pW ns d 84 52 [some (pm_r 20 0), some (pm_i v1), some (pm_i v2), some (pm_i v3), some (pm_i v4)] [] (mm x R Z Y o A c G g) Q := by
  exact pW_if 3 (c := nI 6 ≤ v4) (fun call n => rfl) k1 k2
set_option maxRecDepth 20000 in
theorem b84_38 (hR : RS R) {v1 : Int32} {v2 : Int32} {u3 : Option pm_V} {v4 : Int32}   (k : pW ns d 84 18 [some (pm_r 20 0), some (pm_i v1), some (pm_i v4), some (pm_i v2), some (pm_i (v4 + pm_c (-1)))] [] (mm x R Z Y o A c G g) Q) : pW ns d 84 38 [some (pm_r 20 0), some (pm_i v1), some (pm_i v2), u3, some (pm_i v4)] [] (mm x R Z Y o A c G g) Q := by
  refine pW_eq 4 (pc' := 43) (L' := [some (pm_r 20 0), some (pm_i v1), some (pm_i v4), some (pm_i v2), some (pm_i v4)]) (S' := []) (M' := (mm x R Z Y o A c G g)) (fun call n => ?_) ?_
  · refine Eq.trans (b := pm_go call ns d 84 n 43 [some (pm_r 20 0), some (pm_i v1), some (pm_i v4), some (pm_i v2), some (pm_i v4)] [] (mm x R Z Y o A c G g)) rfl ?_
    rfl
  refine pW_eq 1 (pc' := 46) (L' := [some (pm_r 20 0), some (pm_i v1), some (pm_i v4), some (pm_i v2), some (pm_i (v4 + pm_c (-1)))]) (S' := []) (M' := (mm x R Z Y o A c G g)) (fun call n => ?_) ?_
  · refine Eq.trans (b := pm_step call ns d 84 (pm_go call ns d 84 n) (.iinc 4 (-1)) 43 [some (pm_r 20 0), some (pm_i v1), some (pm_i v4), some (pm_i v2), some (pm_i v4)] [] (mm x R Z Y o A c G g)) rfl ?_
    refine (Eq.refl _).trans ?_
    rfl
  exact pW_eq 1 (fun call n => rfl) k
set_option maxRecDepth 20000 in
theorem b84_43 (hR : RS R) {v1 : Int32} {v2 : Int32} {v3 : Int32} {v4 : Int32}   (k : pW ns d 84 18 [some (pm_r 20 0), some (pm_i v1), some (pm_i v2), some (pm_i v3), some (pm_i (v4 + pm_c (-1)))] [] (mm x R Z Y o A c G g) Q) : pW ns d 84 43 [some (pm_r 20 0), some (pm_i v1), some (pm_i v2), some (pm_i v3), some (pm_i v4)] [] (mm x R Z Y o A c G g) Q := by
  refine pW_eq 1 (pc' := 46) (L' := [some (pm_r 20 0), some (pm_i v1), some (pm_i v2), some (pm_i v3), some (pm_i (v4 + pm_c (-1)))]) (S' := []) (M' := (mm x R Z Y o A c G g)) (fun call n => ?_) ?_
  · refine Eq.trans (b := pm_step call ns d 84 (pm_go call ns d 84 n) (.iinc 4 (-1)) 43 [some (pm_r 20 0), some (pm_i v1), some (pm_i v2), some (pm_i v3), some (pm_i v4)] [] (mm x R Z Y o A c G g)) rfl ?_
    refine (Eq.refl _).trans ?_
    rfl
  exact pW_eq 1 (fun call n => rfl) k
set_option maxRecDepth 20000 in
theorem b84_74 (hR : RS R) {v1 : Int32} {v2 : Int32} {v3 : Int32} {v4 : Int32}   (k1 : v3 < 0 → pW ns d 84 85 [some (pm_r 20 0), some (pm_i v1), some (pm_i v2), some (pm_i v3), some (pm_i v4)] [] (mm x R Z Y o A c G g) Q) (k2 : ¬ (v3 < 0) → pW ns d 84 78 [some (pm_r 20 0), some (pm_i v1), some (pm_i v2), some (pm_i v3), some (pm_i v4)] [] (mm x R Z Y o A c G g) Q) : pW ns d 84 74 [some (pm_r 20 0), some (pm_i v1), some (pm_i v2), some (pm_i v3), some (pm_i v4)] [] (mm x R Z Y o A c G g) Q := by
  exact pW_if 2 (c := v3 < 0) (fun call n => rfl) k1 k2
set_option maxRecDepth 20000 in
theorem b84_59 (hR : RS R) {v1 : Int32} {v2 : Int32} {v3 : Int32} {v4 : Int32}  {x2 : Nat} {o2 : Int64} {A2 : Nat → Nat → Nat → Int32} {c2 : Nat → Int64} {G2 : Nat → Nat → Int32} {g2 : Nat → Int64} {y : Int32} (hE : pE ns d 50 [pm_r 20 0, pm_i v4] (mm x R Z Y o A c G g) (.inl (some (pm_i y)), (mm x2 R Z Y o2 A2 c2 G2 g2))) (k : pW ns d 84 65 [some (pm_r 20 0), some (pm_i v1), some (pm_i v2), some (pm_i v3), some (pm_i v4)] [pm_i y] (mm x2 R Z Y o2 A2 c2 G2 g2) Q) : pW ns d 84 59 [some (pm_r 20 0), some (pm_i v1), some (pm_i v2), some (pm_i v3), some (pm_i v4)] [] (mm x R Z Y o A c G g) Q := by
  refine pW_call (pc' := 62) (r := []) (L' := [some (pm_r 20 0), some (pm_i v1), some (pm_i v2), some (pm_i v3), some (pm_i v4)]) 3 (fun call n => ?_) hE k
  exact Eq.trans (b := pm_g (mm x R Z Y o A c G g) 20 0 (pm_cl call 84 (pm_go call ns d 84 n) 62 50 [pm_r 20 0, pm_i v4] [] [some (pm_r 20 0), some (pm_i v1), some (pm_i v2), some (pm_i v3), some (pm_i v4)] (mm x R Z Y o A c G g))) rfl (g_ok (f := 20) (by decide) rfl)
set_option maxRecDepth 20000 in
theorem b84_85 (hR : RS R) {u0 : Option pm_V} {u1 : Option pm_V} {u2 : Option pm_V} {u3 : Option pm_V} {u4 : Option pm_V}   (k : Q (.inl (some (pm_i (-nI 2))), (mm x R Z Y o A c G g))) : pW ns d 84 85 [u0, u1, u2, u3, u4] [] (mm x R Z Y o A c G g) Q := by
  refine pW_ret 2 (fun call n => ?_) k
  rfl
set_option maxRecDepth 20000 in
theorem b84_78 (hR : RS R) {v1 : Int32} {v2 : Int32} {v3 : Int32} {v4 : Int32}   (k1 : v4 = nI 6 → pW ns d 84 85 [some (pm_r 20 0), some (pm_i v1), some (pm_i v2), some (pm_i v3), some (pm_i v4)] [] (mm x R Z Y o A c G g) Q) (k2 : ¬ (v4 = nI 6) → pW ns d 84 88 [some (pm_r 20 0), some (pm_i v1), some (pm_i v2), some (pm_i v3), some (pm_i v4)] [] (mm x R Z Y o A c G g) Q) : pW ns d 84 78 [some (pm_r 20 0), some (pm_i v1), some (pm_i v2), some (pm_i v3), some (pm_i v4)] [] (mm x R Z Y o A c G g) Q := by
  exact pW_if 3 (c := v4 = nI 6) (fun call n => rfl) k1 k2
set_option maxRecDepth 20000 in
theorem b84_65 (hR : RS R) {v1 : Int32} {v2 : Int32} {v3 : Int32} {v4 : Int32} {vs0 : Int32}   (k1 : vs0 = 0 → pW ns d 84 74 [some (pm_r 20 0), some (pm_i v1), some (pm_i v2), some (pm_i v3), some (pm_i v4)] [] (mm x R Z Y o A c G g) Q) (k2 : ¬ (vs0 = 0) → pW ns d 84 68 [some (pm_r 20 0), some (pm_i v1), some (pm_i v2), some (pm_i v3), some (pm_i v4)] [] (mm x R Z Y o A c G g) Q) : pW ns d 84 65 [some (pm_r 20 0), some (pm_i v1), some (pm_i v2), some (pm_i v3), some (pm_i v4)] [pm_i vs0] (mm x R Z Y o A c G g) Q := by
  exact pW_if 1 (c := vs0 = 0) (fun call n => rfl) k1 k2
set_option maxRecDepth 20000 in
theorem b84_88 (hR : RS R) {v1 : Int32} {v2 : Int32} {v3 : Int32} {v4 : Int32} {j1 : Nat} {j2 : Nat} {j3 : Nat} (e1 : v4 = nI j1) (l1 : j1 < 6) (e2 : ((nI 6) * v1) + v2 = nI j2) (l2 : j2 < 48) (e3 : ((nI 6) * v1) + v3 = nI j3) (l3 : j3 < 48) {x2 : Nat} {o2 : Int64} {A2 : Nat → Nat → Nat → Int32} {c2 : Nat → Int64} {G2 : Nat → Nat → Int32} {g2 : Nat → Int64}  (hE : pE ns d 72 [pm_r 20 0] (mm x R Z Y o A c (pm_v (pm_v (pm_v G 43 j1 (nI 0)) 32 j2 ((nI 2) + ((nI 2) * v4))) 32 j3 ((nI 3) + ((nI 2) * v4))) g) (.inl (none), (mm x2 R Z Y o2 A2 c2 G2 g2))) (k : pW ns d 84 134 [some (pm_r 20 0), some (pm_i v1), some (pm_i v2), some (pm_i v3), some (pm_i v4)] [] (mm x2 R Z Y o2 A2 c2 G2 g2) Q) : pW ns d 84 88 [some (pm_r 20 0), some (pm_i v1), some (pm_i v2), some (pm_i v3), some (pm_i v4)] [] (mm x R Z Y o A c G g) Q := by
  refine pW_eq 2 (pc' := 92) (L' := [some (pm_r 20 0), some (pm_i v1), some (pm_i v2), some (pm_i v3), some (pm_i v4)]) (S' := [pm_r 43 0]) (M' := (mm x R Z Y o A c G g)) (fun call n => ?_) ?_
  · refine Eq.trans (b := pm_g (mm x R Z Y o A c G g) 20 0 (pm_go call ns d 84 n 92 [some (pm_r 20 0), some (pm_i v1), some (pm_i v2), some (pm_i v3), some (pm_i v4)] [pm_a (R 20 0 24)] (mm x R Z Y o A c G g))) rfl ?_
    refine (g_ok (f := 20) (by decide) rfl).trans ?_
    exact (congrArg (fun z => pm_go call ns d 84 n 92 [some (pm_r 20 0), some (pm_i v1), some (pm_i v2), some (pm_i v3), some (pm_i v4)] [pm_a z] (mm x R Z Y o A c G g)) (rs_20_24 hR))
  refine pW_eq 3 (pc' := 96) (L' := [some (pm_r 20 0), some (pm_i v1), some (pm_i v2), some (pm_i v3), some (pm_i v4)]) (S' := []) (M' := (mm x R Z Y o A c (pm_v G 43 j1 (nI 0)) g)) (fun call n => ?_) ?_
  · refine Eq.trans (b := pm_g (mm x R Z Y o A c G g) 43 0 (pm_ix (v4) 6 (fun jx => pm_go call ns d 84 n 96 [some (pm_r 20 0), some (pm_i v1), some (pm_i v2), some (pm_i v3), some (pm_i v4)] [] (pm_u (mA Z A G) 43 0 jx (nI 0), mB Y o c g, R, pm_tot, x)))) rfl ?_
    refine (g_ok (f := 43) (by decide) rfl).trans ?_
    refine (ix_ok (j := j1) e1 l1 (by decide)).trans ?_
    exact (congrArg (fun z => pm_go call ns d 84 n 96 [some (pm_r 20 0), some (pm_i v1), some (pm_i v2), some (pm_i v3), some (pm_i v4)] [] (z, mB Y o c g, R, pm_tot, x)) (uG (by decide)))
  refine pW_eq 2 (pc' := 100) (L' := [some (pm_r 20 0), some (pm_i v1), some (pm_i v2), some (pm_i v3), some (pm_i v4)]) (S' := [pm_r 32 0]) (M' := (mm x R Z Y o A c (pm_v G 43 j1 (nI 0)) g)) (fun call n => ?_) ?_
  · refine Eq.trans (b := pm_g (mm x R Z Y o A c (pm_v G 43 j1 (nI 0)) g) 20 0 (pm_go call ns d 84 n 100 [some (pm_r 20 0), some (pm_i v1), some (pm_i v2), some (pm_i v3), some (pm_i v4)] [pm_a (R 20 0 12)] (mm x R Z Y o A c (pm_v G 43 j1 (nI 0)) g))) rfl ?_
    refine (g_ok (f := 20) (by decide) rfl).trans ?_
    exact (congrArg (fun z => pm_go call ns d 84 n 100 [some (pm_r 20 0), some (pm_i v1), some (pm_i v2), some (pm_i v3), some (pm_i v4)] [pm_a z] (mm x R Z Y o A c (pm_v G 43 j1 (nI 0)) g)) (rs_20_12 hR))
  refine pW_eq 11 (pc' := 113) (L' := [some (pm_r 20 0), some (pm_i v1), some (pm_i v2), some (pm_i v3), some (pm_i v4)]) (S' := []) (M' := (mm x R Z Y o A c (pm_v (pm_v G 43 j1 (nI 0)) 32 j2 ((nI 2) + ((nI 2) * v4))) g)) (fun call n => ?_) ?_
  · refine Eq.trans (b := pm_g (mm x R Z Y o A c (pm_v G 43 j1 (nI 0)) g) 32 0 (pm_ix (((nI 6) * v1) + v2) 48 (fun jx => pm_go call ns d 84 n 113 [some (pm_r 20 0), some (pm_i v1), some (pm_i v2), some (pm_i v3), some (pm_i v4)] [] (pm_u (mA Z A (pm_v G 43 j1 (nI 0))) 32 0 jx ((nI 2) + ((nI 2) * v4)), mB Y o c g, R, pm_tot, x)))) rfl ?_
    refine (g_ok (f := 32) (by decide) rfl).trans ?_
    refine (ix_ok (j := j2) e2 l2 (by decide)).trans ?_
    exact (congrArg (fun z => pm_go call ns d 84 n 113 [some (pm_r 20 0), some (pm_i v1), some (pm_i v2), some (pm_i v3), some (pm_i v4)] [] (z, mB Y o c g, R, pm_tot, x)) (uG (by decide)))
  refine pW_eq 2 (pc' := 117) (L' := [some (pm_r 20 0), some (pm_i v1), some (pm_i v2), some (pm_i v3), some (pm_i v4)]) (S' := [pm_r 32 0]) (M' := (mm x R Z Y o A c (pm_v (pm_v G 43 j1 (nI 0)) 32 j2 ((nI 2) + ((nI 2) * v4))) g)) (fun call n => ?_) ?_
  · refine Eq.trans (b := pm_g (mm x R Z Y o A c (pm_v (pm_v G 43 j1 (nI 0)) 32 j2 ((nI 2) + ((nI 2) * v4))) g) 20 0 (pm_go call ns d 84 n 117 [some (pm_r 20 0), some (pm_i v1), some (pm_i v2), some (pm_i v3), some (pm_i v4)] [pm_a (R 20 0 12)] (mm x R Z Y o A c (pm_v (pm_v G 43 j1 (nI 0)) 32 j2 ((nI 2) + ((nI 2) * v4))) g))) rfl ?_
    refine (g_ok (f := 20) (by decide) rfl).trans ?_
    exact (congrArg (fun z => pm_go call ns d 84 n 117 [some (pm_r 20 0), some (pm_i v1), some (pm_i v2), some (pm_i v3), some (pm_i v4)] [pm_a z] (mm x R Z Y o A c (pm_v (pm_v G 43 j1 (nI 0)) 32 j2 ((nI 2) + ((nI 2) * v4))) g)) (rs_20_12 hR))
  refine pW_eq 11 (pc' := 130) (L' := [some (pm_r 20 0), some (pm_i v1), some (pm_i v2), some (pm_i v3), some (pm_i v4)]) (S' := []) (M' := (mm x R Z Y o A c (pm_v (pm_v (pm_v G 43 j1 (nI 0)) 32 j2 ((nI 2) + ((nI 2) * v4))) 32 j3 ((nI 3) + ((nI 2) * v4))) g)) (fun call n => ?_) ?_
  · refine Eq.trans (b := pm_g (mm x R Z Y o A c (pm_v (pm_v G 43 j1 (nI 0)) 32 j2 ((nI 2) + ((nI 2) * v4))) g) 32 0 (pm_ix (((nI 6) * v1) + v3) 48 (fun jx => pm_go call ns d 84 n 130 [some (pm_r 20 0), some (pm_i v1), some (pm_i v2), some (pm_i v3), some (pm_i v4)] [] (pm_u (mA Z A (pm_v (pm_v G 43 j1 (nI 0)) 32 j2 ((nI 2) + ((nI 2) * v4)))) 32 0 jx ((nI 3) + ((nI 2) * v4)), mB Y o c g, R, pm_tot, x)))) rfl ?_
    refine (g_ok (f := 32) (by decide) rfl).trans ?_
    refine (ix_ok (j := j3) e3 l3 (by decide)).trans ?_
    exact (congrArg (fun z => pm_go call ns d 84 n 130 [some (pm_r 20 0), some (pm_i v1), some (pm_i v2), some (pm_i v3), some (pm_i v4)] [] (z, mB Y o c g, R, pm_tot, x)) (uG (by decide)))
  refine pW_call (pc' := 131) (r := []) (L' := [some (pm_r 20 0), some (pm_i v1), some (pm_i v2), some (pm_i v3), some (pm_i v4)]) 2 (fun call n => ?_) hE k
  exact Eq.trans (b := pm_g (mm x R Z Y o A c (pm_v (pm_v (pm_v G 43 j1 (nI 0)) 32 j2 ((nI 2) + ((nI 2) * v4))) 32 j3 ((nI 3) + ((nI 2) * v4))) g) 20 0 (pm_cl call 84 (pm_go call ns d 84 n) 131 72 [pm_r 20 0] [] [some (pm_r 20 0), some (pm_i v1), some (pm_i v2), some (pm_i v3), some (pm_i v4)] (mm x R Z Y o A c (pm_v (pm_v (pm_v G 43 j1 (nI 0)) 32 j2 ((nI 2) + ((nI 2) * v4))) 32 j3 ((nI 3) + ((nI 2) * v4))) g))) rfl (g_ok (f := 20) (by decide) rfl)
set_option maxRecDepth 20000 in
theorem b84_68 (hR : RS R) {v1 : Int32} {v2 : Int32} {v3 : Int32} {v4 : Int32}   (k : pW ns d 84 52 [some (pm_r 20 0), some (pm_i v1), some (pm_i v2), some (pm_i v3), some (pm_i (v4 + (nI 1)))] [] (mm x R Z Y o A c G g) Q) : pW ns d 84 68 [some (pm_r 20 0), some (pm_i v1), some (pm_i v2), some (pm_i v3), some (pm_i v4)] [] (mm x R Z Y o A c G g) Q := by
  exact pW_eq 2 (fun call n => rfl) k
set_option maxRecDepth 20000 in
theorem b84_134 (hR : RS R) {u0 : Option pm_V} {u1 : Option pm_V} {v2 : Int32} {v3 : Int32} {u4 : Option pm_V}   (k : Q (.inl (some (pm_i (v2 + ((nI 8) * v3)))), (mm x R Z Y o A c G g))) : pW ns d 84 134 [u0, u1, some (pm_i v2), some (pm_i v3), u4] [] (mm x R Z Y o A c G g) Q := by
  refine pW_ret 6 (fun call n => ?_) k
  rfl
set_option maxRecDepth 20000 in
theorem t84_6 (hR : RS R) {v1 : Int32} {u2 : Option pm_V} {u3 : Option pm_V} {u4 : Option pm_V} {vs0 : Int32}  (k1 : (vs0 = 0) → Q (.inl (some (pm_i (nI 0))), (mm x R Z Y o A c G g))) (k2 : (¬ (vs0 = 0)) → pW ns d 84 18 [some (pm_r 20 0), some (pm_i v1), some (pm_i (-nI 1)), some (pm_i (-nI 1)), some (pm_i (nI 5))] [] (mm x R Z Y o A c G g) Q) : pW ns d 84 6 [some (pm_r 20 0), some (pm_i v1), u2, u3, u4] [pm_i vs0] (mm x R Z Y o A c G g) Q := by
  refine b84_6 hR  (fun h1 => ?_) (fun h1 => ?_)
  · skip
    exact b84_9 hR   (k1 h1)
  · skip
    exact b84_11 hR   (k2 h1)
set_option maxRecDepth 20000 in
theorem t84_18 (hR : RS R) {v1 : Int32} {v2 : Int32} {v3 : Int32} {v4 : Int32}  (k1 : (v4 < 0) → pW ns d 84 52 [some (pm_r 20 0), some (pm_i v1), some (pm_i v2), some (pm_i v3), some (pm_i (nI 0))] [] (mm x R Z Y o A c G g) Q) (k2 : (¬ (v4 < 0)) → pW ns d 84 23 [some (pm_r 20 0), some (pm_i v1), some (pm_i v2), some (pm_i v3), some (pm_i v4)] [] (mm x R Z Y o A c G g) Q) : pW ns d 84 18 [some (pm_r 20 0), some (pm_i v1), some (pm_i v2), some (pm_i v3), some (pm_i v4)] [] (mm x R Z Y o A c G g) Q := by
  refine b84_18 hR  (fun h1 => ?_) (fun h1 => ?_)
  · skip
    exact b84_49 hR   (k1 h1)
  · skip
    exact (k2 h1)
set_option maxRecDepth 20000 in
theorem t84_23 (hR : RS R) {v1 : Int32} {v2 : Int32} {v3 : Int32} {v4 : Int32} {j1 : Nat} (e1 : ((nI 6) * v1) + v4 = nI j1) (l1 : j1 < 48) (k1 : (G 32 j1 = 0) → pW ns d 84 18 [some (pm_r 20 0), some (pm_i v1), some (pm_i v4), some (pm_i v2), some (pm_i (v4 + pm_c (-1)))] [] (mm x R Z Y o A c G g) Q) (k2 : (¬ (G 32 j1 = 0)) → pW ns d 84 18 [some (pm_r 20 0), some (pm_i v1), some (pm_i v2), some (pm_i v3), some (pm_i (v4 + pm_c (-1)))] [] (mm x R Z Y o A c G g) Q) : pW ns d 84 23 [some (pm_r 20 0), some (pm_i v1), some (pm_i v2), some (pm_i v3), some (pm_i v4)] [] (mm x R Z Y o A c G g) Q := by
  refine b84_23 hR e1 l1 (fun h1 => ?_) (fun h1 => ?_)
  · skip
    exact b84_38 hR   (k1 h1)
  · skip
    exact b84_43 hR   (k2 h1)
set_option maxRecDepth 20000 in
theorem t84_52 (hR : RS R) {v1 : Int32} {v2 : Int32} {v3 : Int32} {v4 : Int32}  (k1 : (nI 6 ≤ v4) → (v3 < 0) → Q (.inl (some (pm_i (-nI 2))), (mm x R Z Y o A c G g))) (k2 : (nI 6 ≤ v4) → (¬ (v3 < 0)) → (v4 = nI 6) → Q (.inl (some (pm_i (-nI 2))), (mm x R Z Y o A c G g))) (k3 : (nI 6 ≤ v4) → (¬ (v3 < 0)) → (¬ (v4 = nI 6)) → pW ns d 84 88 [some (pm_r 20 0), some (pm_i v1), some (pm_i v2), some (pm_i v3), some (pm_i v4)] [] (mm x R Z Y o A c G g) Q) (k4 : (¬ (nI 6 ≤ v4)) → pW ns d 84 59 [some (pm_r 20 0), some (pm_i v1), some (pm_i v2), some (pm_i v3), some (pm_i v4)] [] (mm x R Z Y o A c G g) Q) : pW ns d 84 52 [some (pm_r 20 0), some (pm_i v1), some (pm_i v2), some (pm_i v3), some (pm_i v4)] [] (mm x R Z Y o A c G g) Q := by
  refine b84_52 hR  (fun h1 => ?_) (fun h1 => ?_)
  · skip
    refine b84_74 hR   (fun h2 => ?_) (fun h2 => ?_)
    · skip
      exact b84_85 hR   (k1 h1 h2)
    · skip
      refine b84_78 hR   (fun h3 => ?_) (fun h3 => ?_)
      · skip
        exact b84_85 hR   (k2 h1 h2 h3)
      · skip
        exact (k3 h1 h2 h3)
  · skip
    exact (k4 h1)
set_option maxRecDepth 20000 in
theorem t84_74 (hR : RS R) {v1 : Int32} {v2 : Int32} {v3 : Int32} {v4 : Int32}  (k1 : (v3 < 0) → Q (.inl (some (pm_i (-nI 2))), (mm x R Z Y o A c G g))) (k2 : (¬ (v3 < 0)) → (v4 = nI 6) → Q (.inl (some (pm_i (-nI 2))), (mm x R Z Y o A c G g))) (k3 : (¬ (v3 < 0)) → (¬ (v4 = nI 6)) → pW ns d 84 88 [some (pm_r 20 0), some (pm_i v1), some (pm_i v2), some (pm_i v3), some (pm_i v4)] [] (mm x R Z Y o A c G g) Q) : pW ns d 84 74 [some (pm_r 20 0), some (pm_i v1), some (pm_i v2), some (pm_i v3), some (pm_i v4)] [] (mm x R Z Y o A c G g) Q := by
  refine b84_74 hR  (fun h1 => ?_) (fun h1 => ?_)
  · skip
    exact b84_85 hR   (k1 h1)
  · skip
    refine b84_78 hR   (fun h2 => ?_) (fun h2 => ?_)
    · skip
      exact b84_85 hR   (k2 h1 h2)
    · skip
      exact (k3 h1 h2)
set_option maxRecDepth 20000 in
theorem t84_78 (hR : RS R) {v1 : Int32} {v2 : Int32} {v3 : Int32} {v4 : Int32}  (k1 : (v4 = nI 6) → Q (.inl (some (pm_i (-nI 2))), (mm x R Z Y o A c G g))) (k2 : (¬ (v4 = nI 6)) → pW ns d 84 88 [some (pm_r 20 0), some (pm_i v1), some (pm_i v2), some (pm_i v3), some (pm_i v4)] [] (mm x R Z Y o A c G g) Q) : pW ns d 84 78 [some (pm_r 20 0), some (pm_i v1), some (pm_i v2), some (pm_i v3), some (pm_i v4)] [] (mm x R Z Y o A c G g) Q := by
  refine b84_78 hR  (fun h1 => ?_) (fun h1 => ?_)
  · skip
    exact b84_85 hR   (k1 h1)
  · skip
    exact (k2 h1)
set_option maxRecDepth 20000 in
theorem t84_65 (hR : RS R) {v1 : Int32} {v2 : Int32} {v3 : Int32} {v4 : Int32} {vs0 : Int32}  (k1 : (vs0 = 0) → (v3 < 0) → Q (.inl (some (pm_i (-nI 2))), (mm x R Z Y o A c G g))) (k2 : (vs0 = 0) → (¬ (v3 < 0)) → (v4 = nI 6) → Q (.inl (some (pm_i (-nI 2))), (mm x R Z Y o A c G g))) (k3 : (vs0 = 0) → (¬ (v3 < 0)) → (¬ (v4 = nI 6)) → pW ns d 84 88 [some (pm_r 20 0), some (pm_i v1), some (pm_i v2), some (pm_i v3), some (pm_i v4)] [] (mm x R Z Y o A c G g) Q) (k4 : (¬ (vs0 = 0)) → pW ns d 84 52 [some (pm_r 20 0), some (pm_i v1), some (pm_i v2), some (pm_i v3), some (pm_i (v4 + (nI 1)))] [] (mm x R Z Y o A c G g) Q) : pW ns d 84 65 [some (pm_r 20 0), some (pm_i v1), some (pm_i v2), some (pm_i v3), some (pm_i v4)] [pm_i vs0] (mm x R Z Y o A c G g) Q := by
  refine b84_65 hR  (fun h1 => ?_) (fun h1 => ?_)
  · skip
    refine b84_74 hR   (fun h2 => ?_) (fun h2 => ?_)
    · skip
      exact b84_85 hR   (k1 h1 h2)
    · skip
      refine b84_78 hR   (fun h3 => ?_) (fun h3 => ?_)
      · skip
        exact b84_85 hR   (k2 h1 h2 h3)
      · skip
        exact (k3 h1 h2 h3)
  · skip
    exact b84_68 hR   (k4 h1)
/-! 85 JobLayerModel.copy -/
set_option maxRecDepth 20000 in
theorem b85_0 (hR : RS R) {v1 : Int32} {v2 : Int32} {v3 : Int32}  {x2 : Nat} {o2 : Int64} {A2 : Nat → Nat → Nat → Int32} {c2 : Nat → Int64} {G2 : Nat → Nat → Int32} {g2 : Nat → Int64} {y : Int32} (hE : pE ns d 81 [pm_r 20 0, pm_i v1, pm_i (nI 1)] (mm x R Z Y o A c G g) (.inl (some (pm_i y)), (mm x2 R Z Y o2 A2 c2 G2 g2))) (k : pW ns d 85 6 [some (pm_r 20 0), some (pm_i v1), some (pm_i v2), some (pm_i v3)] [pm_i y] (mm x2 R Z Y o2 A2 c2 G2 g2) Q) : pW ns d 85 0 [some (pm_r 20 0), some (pm_i v1), some (pm_i v2), some (pm_i v3)] [] (mm x R Z Y o A c G g) Q := by
  refine pW_call (pc' := 3) (r := []) (L' := [some (pm_r 20 0), some (pm_i v1), some (pm_i v2), some (pm_i v3)]) 4 (fun call n => ?_) hE k
  exact Eq.trans (b := pm_g (mm x R Z Y o A c G g) 20 0 (pm_cl call 85 (pm_go call ns d 85 n) 3 81 [pm_r 20 0, pm_i v1, pm_i (nI 1)] [] [some (pm_r 20 0), some (pm_i v1), some (pm_i v2), some (pm_i v3)] (mm x R Z Y o A c G g))) rfl (g_ok (f := 20) (by decide) rfl)
set_option maxRecDepth 20000 in
theorem b85_6 (hR : RS R) {v1 : Int32} {v2 : Int32} {v3 : Int32} {vs0 : Int32}   (k1 : vs0 = 0 → pW ns d 85 9 [some (pm_r 20 0), some (pm_i v1), some (pm_i v2), some (pm_i v3)] [] (mm x R Z Y o A c G g) Q) (k2 : ¬ (vs0 = 0) → pW ns d 85 11 [some (pm_r 20 0), some (pm_i v1), some (pm_i v2), some (pm_i v3)] [] (mm x R Z Y o A c G g) Q) : pW ns d 85 6 [some (pm_r 20 0), some (pm_i v1), some (pm_i v2), some (pm_i v3)] [pm_i vs0] (mm x R Z Y o A c G g) Q := by
  exact pW_if 1 (c := vs0 = 0) (fun call n => rfl) k1 k2
set_option maxRecDepth 20000 in
theorem b85_9 (hR : RS R) {u0 : Option pm_V} {u1 : Option pm_V} {u2 : Option pm_V} {u3 : Option pm_V}   (k : Q (.inl (some (pm_i (nI 0))), (mm x R Z Y o A c G g))) : pW ns d 85 9 [u0, u1, u2, u3] [] (mm x R Z Y o A c G g) Q := by
  refine pW_ret 2 (fun call n => ?_) k
  rfl
set_option maxRecDepth 20000 in
theorem b85_11 (hR : RS R) {v1 : Int32} {v2 : Int32} {v3 : Int32}  {x2 : Nat} {o2 : Int64} {A2 : Nat → Nat → Nat → Int32} {c2 : Nat → Int64} {G2 : Nat → Nat → Int32} {g2 : Nat → Int64} {y : Int32} (hE : pE ns d 52 [pm_r 20 0, pm_i v1, pm_i v2] (mm x R Z Y o A c G g) (.inl (some (pm_i y)), (mm x2 R Z Y o2 A2 c2 G2 g2))) (k : pW ns d 85 17 [some (pm_r 20 0), some (pm_i v1), some (pm_i v2), some (pm_i v3)] [pm_i y] (mm x2 R Z Y o2 A2 c2 G2 g2) Q) : pW ns d 85 11 [some (pm_r 20 0), some (pm_i v1), some (pm_i v2), some (pm_i v3)] [] (mm x R Z Y o A c G g) Q := by
  refine pW_call (pc' := 14) (r := []) (L' := [some (pm_r 20 0), some (pm_i v1), some (pm_i v2), some (pm_i v3)]) 4 (fun call n => ?_) hE k
  exact Eq.trans (b := pm_g (mm x R Z Y o A c G g) 20 0 (pm_cl call 85 (pm_go call ns d 85 n) 14 52 [pm_r 20 0, pm_i v1, pm_i v2] [] [some (pm_r 20 0), some (pm_i v1), some (pm_i v2), some (pm_i v3)] (mm x R Z Y o A c G g))) rfl (g_ok (f := 20) (by decide) rfl)
set_option maxRecDepth 20000 in
theorem b85_17 (hR : RS R) {v1 : Int32} {v2 : Int32} {v3 : Int32} {vs0 : Int32}   (k1 : vs0 ≤ 0 → pW ns d 85 29 [some (pm_r 20 0), some (pm_i v1), some (pm_i v2), some (pm_i v3)] [] (mm x R Z Y o A c G g) Q) (k2 : ¬ (vs0 ≤ 0) → pW ns d 85 20 [some (pm_r 20 0), some (pm_i v1), some (pm_i v2), some (pm_i v3)] [] (mm x R Z Y o A c G g) Q) : pW ns d 85 17 [some (pm_r 20 0), some (pm_i v1), some (pm_i v2), some (pm_i v3)] [pm_i vs0] (mm x R Z Y o A c G g) Q := by
  exact pW_if 1 (c := vs0 ≤ 0) (fun call n => rfl) k1 k2
set_option maxRecDepth 20000 in
theorem b85_29 (hR : RS R) {u0 : Option pm_V} {u1 : Option pm_V} {u2 : Option pm_V} {u3 : Option pm_V}   (k : Q (.inl (some (pm_i (-nI 1))), (mm x R Z Y o A c G g))) : pW ns d 85 29 [u0, u1, u2, u3] [] (mm x R Z Y o A c G g) Q := by
  refine pW_ret 2 (fun call n => ?_) k
  rfl
set_option maxRecDepth 20000 in
theorem b85_20 (hR : RS R) {v1 : Int32} {v2 : Int32} {v3 : Int32}  {x2 : Nat} {o2 : Int64} {A2 : Nat → Nat → Nat → Int32} {c2 : Nat → Int64} {G2 : Nat → Nat → Int32} {g2 : Nat → Int64} {y : Int32} (hE : pE ns d 52 [pm_r 20 0, pm_i v1, pm_i v3] (mm x R Z Y o A c G g) (.inl (some (pm_i y)), (mm x2 R Z Y o2 A2 c2 G2 g2))) (k : pW ns d 85 26 [some (pm_r 20 0), some (pm_i v1), some (pm_i v2), some (pm_i v3)] [pm_i y] (mm x2 R Z Y o2 A2 c2 G2 g2) Q) : pW ns d 85 20 [some (pm_r 20 0), some (pm_i v1), some (pm_i v2), some (pm_i v3)] [] (mm x R Z Y o A c G g) Q := by
  refine pW_call (pc' := 23) (r := []) (L' := [some (pm_r 20 0), some (pm_i v1), some (pm_i v2), some (pm_i v3)]) 4 (fun call n => ?_) hE k
  exact Eq.trans (b := pm_g (mm x R Z Y o A c G g) 20 0 (pm_cl call 85 (pm_go call ns d 85 n) 23 52 [pm_r 20 0, pm_i v1, pm_i v3] [] [some (pm_r 20 0), some (pm_i v1), some (pm_i v2), some (pm_i v3)] (mm x R Z Y o A c G g))) rfl (g_ok (f := 20) (by decide) rfl)
set_option maxRecDepth 20000 in
theorem b85_26 (hR : RS R) {v1 : Int32} {v2 : Int32} {v3 : Int32} {vs0 : Int32}   (k1 : 0 ≤ vs0 → pW ns d 85 31 [some (pm_r 20 0), some (pm_i v1), some (pm_i v2), some (pm_i v3)] [] (mm x R Z Y o A c G g) Q) (k2 : ¬ (0 ≤ vs0) → pW ns d 85 29 [some (pm_r 20 0), some (pm_i v1), some (pm_i v2), some (pm_i v3)] [] (mm x R Z Y o A c G g) Q) : pW ns d 85 26 [some (pm_r 20 0), some (pm_i v1), some (pm_i v2), some (pm_i v3)] [pm_i vs0] (mm x R Z Y o A c G g) Q := by
  exact pW_if 1 (c := 0 ≤ vs0) (fun call n => rfl) k1 k2
set_option maxRecDepth 20000 in
theorem b85_31 (hR : RS R) {v1 : Int32} {v2 : Int32} {v3 : Int32} {j1 : Nat} {j2 : Nat} (e1 : ((nI 6) * v1) + v2 = nI j1) (l1 : j1 < 48) (e2 : ((nI 6) * v1) + v3 = nI j2) (l2 : j2 < 48) {x2 : Nat} {o2 : Int64} {A2 : Nat → Nat → Nat → Int32} {c2 : Nat → Int64} {G2 : Nat → Nat → Int32} {g2 : Nat → Int64}  (hE : pE ns d 72 [pm_r 20 0] (mm x R Z Y o A c (pm_v G 32 j2 (G 32 j1)) g) (.inl (none), (mm x2 R Z Y o2 A2 c2 G2 g2))) (k : pW ns d 85 57 [some (pm_r 20 0), some (pm_i v1), some (pm_i v2), some (pm_i v3)] [] (mm x2 R Z Y o2 A2 c2 G2 g2) Q) : pW ns d 85 31 [some (pm_r 20 0), some (pm_i v1), some (pm_i v2), some (pm_i v3)] [] (mm x R Z Y o A c G g) Q := by
  refine pW_eq 2 (pc' := 35) (L' := [some (pm_r 20 0), some (pm_i v1), some (pm_i v2), some (pm_i v3)]) (S' := [pm_r 32 0]) (M' := (mm x R Z Y o A c G g)) (fun call n => ?_) ?_
  · refine Eq.trans (b := pm_g (mm x R Z Y o A c G g) 20 0 (pm_go call ns d 85 n 35 [some (pm_r 20 0), some (pm_i v1), some (pm_i v2), some (pm_i v3)] [pm_a (R 20 0 12)] (mm x R Z Y o A c G g))) rfl ?_
    refine (g_ok (f := 20) (by decide) rfl).trans ?_
    exact (congrArg (fun z => pm_go call ns d 85 n 35 [some (pm_r 20 0), some (pm_i v1), some (pm_i v2), some (pm_i v3)] [pm_a z] (mm x R Z Y o A c G g)) (rs_20_12 hR))
  refine pW_eq 7 (pc' := 45) (L' := [some (pm_r 20 0), some (pm_i v1), some (pm_i v2), some (pm_i v3)]) (S' := [pm_r 32 0, pm_i (((nI 6) * v1) + v3), pm_r 32 0]) (M' := (mm x R Z Y o A c G g)) (fun call n => ?_) ?_
  · refine Eq.trans (b := pm_g (mm x R Z Y o A c G g) 20 0 (pm_go call ns d 85 n 45 [some (pm_r 20 0), some (pm_i v1), some (pm_i v2), some (pm_i v3)] [pm_a (R 20 0 12), pm_i (((nI 6) * v1) + v3), pm_r 32 0] (mm x R Z Y o A c G g))) rfl ?_
    refine (g_ok (f := 20) (by decide) rfl).trans ?_
    exact (congrArg (fun z => pm_go call ns d 85 n 45 [some (pm_r 20 0), some (pm_i v1), some (pm_i v2), some (pm_i v3)] [pm_a z, pm_i (((nI 6) * v1) + v3), pm_r 32 0] (mm x R Z Y o A c G g)) (rs_20_12 hR))
  refine pW_eq 6 (pc' := 52) (L' := [some (pm_r 20 0), some (pm_i v1), some (pm_i v2), some (pm_i v3)]) (S' := [pm_i (G 32 j1), pm_i (((nI 6) * v1) + v3), pm_r 32 0]) (M' := (mm x R Z Y o A c G g)) (fun call n => ?_) ?_
  · refine Eq.trans (b := pm_g (mm x R Z Y o A c G g) 32 0 (pm_ix (((nI 6) * v1) + v2) 48 (fun jx => pm_go call ns d 85 n 52 [some (pm_r 20 0), some (pm_i v1), some (pm_i v2), some (pm_i v3)] [pm_i (G 32 jx), pm_i (((nI 6) * v1) + v3), pm_r 32 0] (mm x R Z Y o A c G g)))) rfl ?_
    refine (g_ok (f := 32) (by decide) rfl).trans ?_
    refine (ix_ok (j := j1) e1 l1 (by decide)).trans ?_
    rfl
  refine pW_eq 1 (pc' := 53) (L' := [some (pm_r 20 0), some (pm_i v1), some (pm_i v2), some (pm_i v3)]) (S' := []) (M' := (mm x R Z Y o A c (pm_v G 32 j2 (G 32 j1)) g)) (fun call n => ?_) ?_
  · refine Eq.trans (b := pm_g (mm x R Z Y o A c G g) 32 0 (pm_ix (((nI 6) * v1) + v3) 48 (fun jx => pm_go call ns d 85 n 53 [some (pm_r 20 0), some (pm_i v1), some (pm_i v2), some (pm_i v3)] [] (pm_u (mA Z A G) 32 0 jx (G 32 j1), mB Y o c g, R, pm_tot, x)))) rfl ?_
    refine (g_ok (f := 32) (by decide) rfl).trans ?_
    refine (ix_ok (j := j2) e2 l2 (by decide)).trans ?_
    exact (congrArg (fun z => pm_go call ns d 85 n 53 [some (pm_r 20 0), some (pm_i v1), some (pm_i v2), some (pm_i v3)] [] (z, mB Y o c g, R, pm_tot, x)) (uG (by decide)))
  refine pW_call (pc' := 54) (r := []) (L' := [some (pm_r 20 0), some (pm_i v1), some (pm_i v2), some (pm_i v3)]) 2 (fun call n => ?_) hE k
  exact Eq.trans (b := pm_g (mm x R Z Y o A c (pm_v G 32 j2 (G 32 j1)) g) 20 0 (pm_cl call 85 (pm_go call ns d 85 n) 54 72 [pm_r 20 0] [] [some (pm_r 20 0), some (pm_i v1), some (pm_i v2), some (pm_i v3)] (mm x R Z Y o A c (pm_v G 32 j2 (G 32 j1)) g))) rfl (g_ok (f := 20) (by decide) rfl)
set_option maxRecDepth 20000 in
theorem b85_57 (hR : RS R) {u0 : Option pm_V} {u1 : Option pm_V} {u2 : Option pm_V} {v3 : Int32}   (k : Q (.inl (some (pm_i v3)), (mm x R Z Y o A c G g))) : pW ns d 85 57 [u0, u1, u2, some (pm_i v3)] [] (mm x R Z Y o A c G g) Q := by
  refine pW_ret 2 (fun call n => ?_) k
  rfl
set_option maxRecDepth 20000 in
theorem t85_6 (hR : RS R) {v1 : Int32} {v2 : Int32} {v3 : Int32} {vs0 : Int32}  (k1 : (vs0 = 0) → Q (.inl (some (pm_i (nI 0))), (mm x R Z Y o A c G g))) (k2 : (¬ (vs0 = 0)) → pW ns d 85 11 [some (pm_r 20 0), some (pm_i v1), some (pm_i v2), some (pm_i v3)] [] (mm x R Z Y o A c G g) Q) : pW ns d 85 6 [some (pm_r 20 0), some (pm_i v1), some (pm_i v2), some (pm_i v3)] [pm_i vs0] (mm x R Z Y o A c G g) Q := by
  refine b85_6 hR  (fun h1 => ?_) (fun h1 => ?_)
  · skip
    exact b85_9 hR   (k1 h1)
  · skip
    exact (k2 h1)
set_option maxRecDepth 20000 in
theorem t85_17 (hR : RS R) {v1 : Int32} {v2 : Int32} {v3 : Int32} {vs0 : Int32}  (k1 : (vs0 ≤ 0) → Q (.inl (some (pm_i (-nI 1))), (mm x R Z Y o A c G g))) (k2 : (¬ (vs0 ≤ 0)) → pW ns d 85 20 [some (pm_r 20 0), some (pm_i v1), some (pm_i v2), some (pm_i v3)] [] (mm x R Z Y o A c G g) Q) : pW ns d 85 17 [some (pm_r 20 0), some (pm_i v1), some (pm_i v2), some (pm_i v3)] [pm_i vs0] (mm x R Z Y o A c G g) Q := by
  refine b85_17 hR  (fun h1 => ?_) (fun h1 => ?_)
  · skip
    exact b85_29 hR   (k1 h1)
  · skip
    exact (k2 h1)
set_option maxRecDepth 20000 in
theorem t85_26 (hR : RS R) {v1 : Int32} {v2 : Int32} {v3 : Int32} {vs0 : Int32}  (k1 : (0 ≤ vs0) → pW ns d 85 31 [some (pm_r 20 0), some (pm_i v1), some (pm_i v2), some (pm_i v3)] [] (mm x R Z Y o A c G g) Q) (k2 : (¬ (0 ≤ vs0)) → Q (.inl (some (pm_i (-nI 1))), (mm x R Z Y o A c G g))) : pW ns d 85 26 [some (pm_r 20 0), some (pm_i v1), some (pm_i v2), some (pm_i v3)] [pm_i vs0] (mm x R Z Y o A c G g) Q := by
  refine b85_26 hR  (fun h1 => ?_) (fun h1 => ?_)
  · skip
    exact (k1 h1)
  · skip
    exact b85_29 hR   (k2 h1)
/-! 86 JobLayerModel.close -/
set_option maxRecDepth 20000 in
theorem b86_0 (hR : RS R) {v1 : Int32} {v2 : Int32}  {x2 : Nat} {o2 : Int64} {A2 : Nat → Nat → Nat → Int32} {c2 : Nat → Int64} {G2 : Nat → Nat → Int32} {g2 : Nat → Int64} {y : Int32} (hE : pE ns d 81 [pm_r 20 0, pm_i v1, pm_i (nI 1)] (mm x R Z Y o A c G g) (.inl (some (pm_i y)), (mm x2 R Z Y o2 A2 c2 G2 g2))) (k : pW ns d 86 6 [some (pm_r 20 0), some (pm_i v1), some (pm_i v2)] [pm_i y] (mm x2 R Z Y o2 A2 c2 G2 g2) Q) : pW ns d 86 0 [some (pm_r 20 0), some (pm_i v1), some (pm_i v2)] [] (mm x R Z Y o A c G g) Q := by
  refine pW_call (pc' := 3) (r := []) (L' := [some (pm_r 20 0), some (pm_i v1), some (pm_i v2)]) 4 (fun call n => ?_) hE k
  exact Eq.trans (b := pm_g (mm x R Z Y o A c G g) 20 0 (pm_cl call 86 (pm_go call ns d 86 n) 3 81 [pm_r 20 0, pm_i v1, pm_i (nI 1)] [] [some (pm_r 20 0), some (pm_i v1), some (pm_i v2)] (mm x R Z Y o A c G g))) rfl (g_ok (f := 20) (by decide) rfl)
set_option maxRecDepth 20000 in
theorem b86_6 (hR : RS R) {v1 : Int32} {v2 : Int32} {vs0 : Int32}   (k1 : vs0 = 0 → pW ns d 86 9 [some (pm_r 20 0), some (pm_i v1), some (pm_i v2)] [] (mm x R Z Y o A c G g) Q) (k2 : ¬ (vs0 = 0) → pW ns d 86 11 [some (pm_r 20 0), some (pm_i v1), some (pm_i v2)] [] (mm x R Z Y o A c G g) Q) : pW ns d 86 6 [some (pm_r 20 0), some (pm_i v1), some (pm_i v2)] [pm_i vs0] (mm x R Z Y o A c G g) Q := by
  exact pW_if 1 (c := vs0 = 0) (fun call n => rfl) k1 k2
set_option maxRecDepth 20000 in
theorem b86_9 (hR : RS R) {u0 : Option pm_V} {u1 : Option pm_V} {u2 : Option pm_V}   (k : Q (.inl (some (pm_i (nI 0))), (mm x R Z Y o A c G g))) : pW ns d 86 9 [u0, u1, u2] [] (mm x R Z Y o A c G g) Q := by
  refine pW_ret 2 (fun call n => ?_) k
  rfl
set_option maxRecDepth 20000 in
theorem b86_11 (hR : RS R) {v1 : Int32} {v2 : Int32}  {x2 : Nat} {o2 : Int64} {A2 : Nat → Nat → Nat → Int32} {c2 : Nat → Int64} {G2 : Nat → Nat → Int32} {g2 : Nat → Int64} {y : Int32} (hE : pE ns d 52 [pm_r 20 0, pm_i v1, pm_i v2] (mm x R Z Y o A c G g) (.inl (some (pm_i y)), (mm x2 R Z Y o2 A2 c2 G2 g2))) (k : pW ns d 86 17 [some (pm_r 20 0), some (pm_i v1), some (pm_i v2)] [pm_i y] (mm x2 R Z Y o2 A2 c2 G2 g2) Q) : pW ns d 86 11 [some (pm_r 20 0), some (pm_i v1), some (pm_i v2)] [] (mm x R Z Y o A c G g) Q := by
  refine pW_call (pc' := 14) (r := []) (L' := [some (pm_r 20 0), some (pm_i v1), some (pm_i v2)]) 4 (fun call n => ?_) hE k
  exact Eq.trans (b := pm_g (mm x R Z Y o A c G g) 20 0 (pm_cl call 86 (pm_go call ns d 86 n) 14 52 [pm_r 20 0, pm_i v1, pm_i v2] [] [some (pm_r 20 0), some (pm_i v1), some (pm_i v2)] (mm x R Z Y o A c G g))) rfl (g_ok (f := 20) (by decide) rfl)
set_option maxRecDepth 20000 in
theorem b86_17 (hR : RS R) {v1 : Int32} {v2 : Int32} {vs0 : Int32}   (k1 : 0 < vs0 → pW ns d 86 22 [some (pm_r 20 0), some (pm_i v1), some (pm_i v2)] [] (mm x R Z Y o A c G g) Q) (k2 : ¬ (0 < vs0) → pW ns d 86 20 [some (pm_r 20 0), some (pm_i v1), some (pm_i v2)] [] (mm x R Z Y o A c G g) Q) : pW ns d 86 17 [some (pm_r 20 0), some (pm_i v1), some (pm_i v2)] [pm_i vs0] (mm x R Z Y o A c G g) Q := by
  exact pW_if 1 (c := 0 < vs0) (fun call n => rfl) k1 k2
set_option maxRecDepth 20000 in
theorem b86_22 (hR : RS R) {v1 : Int32} {v2 : Int32} {j1 : Nat} (e1 : ((nI 6) * v1) + v2 = nI j1) (l1 : j1 < 48) {x2 : Nat} {o2 : Int64} {A2 : Nat → Nat → Nat → Int32} {c2 : Nat → Int64} {G2 : Nat → Nat → Int32} {g2 : Nat → Int64}  (hE : pE ns d 72 [pm_r 20 0] (mm x R Z Y o A c (pm_v G 32 j1 (nI 0)) g) (.inl (none), (mm x2 R Z Y o2 A2 c2 G2 g2))) (k : pW ns d 86 38 [some (pm_r 20 0), some (pm_i v1), some (pm_i v2)] [] (mm x2 R Z Y o2 A2 c2 G2 g2) Q) : pW ns d 86 22 [some (pm_r 20 0), some (pm_i v1), some (pm_i v2)] [] (mm x R Z Y o A c G g) Q := by
  refine pW_eq 2 (pc' := 26) (L' := [some (pm_r 20 0), some (pm_i v1), some (pm_i v2)]) (S' := [pm_r 32 0]) (M' := (mm x R Z Y o A c G g)) (fun call n => ?_) ?_
  · refine Eq.trans (b := pm_g (mm x R Z Y o A c G g) 20 0 (pm_go call ns d 86 n 26 [some (pm_r 20 0), some (pm_i v1), some (pm_i v2)] [pm_a (R 20 0 12)] (mm x R Z Y o A c G g))) rfl ?_
    refine (g_ok (f := 20) (by decide) rfl).trans ?_
    exact (congrArg (fun z => pm_go call ns d 86 n 26 [some (pm_r 20 0), some (pm_i v1), some (pm_i v2)] [pm_a z] (mm x R Z Y o A c G g)) (rs_20_12 hR))
  refine pW_eq 7 (pc' := 34) (L' := [some (pm_r 20 0), some (pm_i v1), some (pm_i v2)]) (S' := []) (M' := (mm x R Z Y o A c (pm_v G 32 j1 (nI 0)) g)) (fun call n => ?_) ?_
  · refine Eq.trans (b := pm_g (mm x R Z Y o A c G g) 32 0 (pm_ix (((nI 6) * v1) + v2) 48 (fun jx => pm_go call ns d 86 n 34 [some (pm_r 20 0), some (pm_i v1), some (pm_i v2)] [] (pm_u (mA Z A G) 32 0 jx (nI 0), mB Y o c g, R, pm_tot, x)))) rfl ?_
    refine (g_ok (f := 32) (by decide) rfl).trans ?_
    refine (ix_ok (j := j1) e1 l1 (by decide)).trans ?_
    exact (congrArg (fun z => pm_go call ns d 86 n 34 [some (pm_r 20 0), some (pm_i v1), some (pm_i v2)] [] (z, mB Y o c g, R, pm_tot, x)) (uG (by decide)))
  refine pW_call (pc' := 35) (r := []) (L' := [some (pm_r 20 0), some (pm_i v1), some (pm_i v2)]) 2 (fun call n => ?_) hE k
  exact Eq.trans (b := pm_g (mm x R Z Y o A c (pm_v G 32 j1 (nI 0)) g) 20 0 (pm_cl call 86 (pm_go call ns d 86 n) 35 72 [pm_r 20 0] [] [some (pm_r 20 0), some (pm_i v1), some (pm_i v2)] (mm x R Z Y o A c (pm_v G 32 j1 (nI 0)) g))) rfl (g_ok (f := 20) (by decide) rfl)
set_option maxRecDepth 20000 in
theorem b86_20 (hR : RS R) {u0 : Option pm_V} {u1 : Option pm_V} {u2 : Option pm_V}   (k : Q (.inl (some (pm_i (-nI 1))), (mm x R Z Y o A c G g))) : pW ns d 86 20 [u0, u1, u2] [] (mm x R Z Y o A c G g) Q := by
  refine pW_ret 2 (fun call n => ?_) k
  rfl
set_option maxRecDepth 20000 in
theorem b86_38 (hR : RS R) {u0 : Option pm_V} {u1 : Option pm_V} {u2 : Option pm_V}   (k : Q (.inl (some (pm_i (nI 0))), (mm x R Z Y o A c G g))) : pW ns d 86 38 [u0, u1, u2] [] (mm x R Z Y o A c G g) Q := by
  refine pW_ret 2 (fun call n => ?_) k
  rfl
set_option maxRecDepth 20000 in
theorem t86_6 (hR : RS R) {v1 : Int32} {v2 : Int32} {vs0 : Int32}  (k1 : (vs0 = 0) → Q (.inl (some (pm_i (nI 0))), (mm x R Z Y o A c G g))) (k2 : (¬ (vs0 = 0)) → pW ns d 86 11 [some (pm_r 20 0), some (pm_i v1), some (pm_i v2)] [] (mm x R Z Y o A c G g) Q) : pW ns d 86 6 [some (pm_r 20 0), some (pm_i v1), some (pm_i v2)] [pm_i vs0] (mm x R Z Y o A c G g) Q := by
  refine b86_6 hR  (fun h1 => ?_) (fun h1 => ?_)
  · skip
    exact b86_9 hR   (k1 h1)
  · skip
    exact (k2 h1)
set_option maxRecDepth 20000 in
theorem t86_17 (hR : RS R) {v1 : Int32} {v2 : Int32} {vs0 : Int32}  (k1 : (0 < vs0) → pW ns d 86 22 [some (pm_r 20 0), some (pm_i v1), some (pm_i v2)] [] (mm x R Z Y o A c G g) Q) (k2 : (¬ (0 < vs0)) → Q (.inl (some (pm_i (-nI 1))), (mm x R Z Y o A c G g))) : pW ns d 86 17 [some (pm_r 20 0), some (pm_i v1), some (pm_i v2)] [pm_i vs0] (mm x R Z Y o A c G g) Q := by
  refine b86_17 hR  (fun h1 => ?_) (fun h1 => ?_)
  · skip
    exact (k1 h1)
  · skip
    exact b86_20 hR   (k2 h1)
end BLK
