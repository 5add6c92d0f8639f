/-! @70.wp@ blocks, printed by program (wip/whole/gen/blk.py) -/
section BLK
variable {ns d x : Nat} {R : Nat → Nat → Nat → Option (Nat × Nat)} {Z A : Nat → Nat → Nat → Int32} {Y : Nat → Nat → Nat → Int64} {o : Int64} {c g : Nat → Int64} {G : Nat → Nat → Int32} {Q : pm_O × pm_M → Prop}
/-! 132 JobLayerLaw.fork -/
set_option maxRecDepth 20000 in
theorem b132_0 (hR : RS R) {v1 : Int32} {u3 : Option pm_V}  {x2 : Nat} {o2 : Int64} {A2 : Nat → Nat → Nat → Int32} {c2 : Nat → Int64} {G2 : Nat → Nat → Int32} {g2 : Nat → Int64} {y : Int32} (hE : pE ns d 2 [pm_r 0 0, pm_i v1] (mm x R Z Y o A c G g) (.inl (some (pm_i y)), (mm x2 R Z Y o2 A2 c2 G2 g2))) (k : pW ns d 132 7 [some (pm_r 0 0), some (pm_i v1), some (pm_r 60 0), u3] [pm_i y, pm_i (nI 0), pm_r 60 0] (mm x2 R Z Y o2 A2 c2 G2 g2) Q) : pW ns d 132 0 [some (pm_r 0 0), some (pm_i v1), some (pm_r 60 0), u3] [] (mm x R Z Y o A c G g) Q := by
  refine pW_call (pc' := 4) (r := [pm_i (nI 0), pm_r 60 0]) (L' := [some (pm_r 0 0), some (pm_i v1), some (pm_r 60 0), u3]) 5 (fun call n => ?_) hE k
  exact Eq.trans (b := pm_g (mm x R Z Y o A c G g) 0 0 (pm_cl call 132 (pm_go call ns d 132 n) 4 2 [pm_r 0 0, pm_i v1] [pm_i (nI 0), pm_r 60 0] [some (pm_r 0 0), some (pm_i v1), some (pm_r 60 0), u3] (mm x R Z Y o A c G g))) rfl (g_ok (f := 0) (by decide) rfl)
set_option maxRecDepth 20000 in
theorem b132_0h0 (hR : RS R) {v1 : Int32} {u3 : Option pm_V}  {x2 : Nat} {o2 : Int64} {A2 : Nat → Nat → Nat → Int32} {c2 : Nat → Int64} {G2 : Nat → Nat → Int32} {g2 : Nat → Int64} (hE : pE ns d 2 [pm_r 0 0, pm_i v1] (mm x R Z Y o A c G g) (.inr 0, (mm x2 R Z Y o2 A2 c2 G2 g2))) (k : pW ns d 132 13 [some (pm_r 0 0), some (pm_i v1), some (pm_r 60 0), none] [] (mm x2 R Z Y o2 A2 c2 G2 g2) Q) : pW ns d 132 0 [some (pm_r 0 0), some (pm_i v1), some (pm_r 60 0), u3] [] (mm x R Z Y o A c G g) Q := by
  refine pW_callh (pc' := 4) (r := [pm_i (nI 0), pm_r 60 0]) (L' := [some (pm_r 0 0), some (pm_i v1), some (pm_r 60 0), u3]) 5 (fun call n => ?_) hE (fun _ => rfl) k
  exact Eq.trans (b := pm_g (mm x R Z Y o A c G g) 0 0 (pm_cl call 132 (pm_go call ns d 132 n) 4 2 [pm_r 0 0, pm_i v1] [pm_i (nI 0), pm_r 60 0] [some (pm_r 0 0), some (pm_i v1), some (pm_r 60 0), u3] (mm x R Z Y o A c G g))) rfl (g_ok (f := 0) (by decide) rfl)
set_option maxRecDepth 20000 in
theorem b132_7 (hR : RS R) {u0 : Option pm_V} {u1 : Option pm_V} {u3 : Option pm_V} {vs0 : Int32} {vs1 : Int32} {j1 : Nat} (e1 : vs1 = nI j1) (l1 : j1 < 1)  (k : Q (.inl (some (pm_i (nI 0))), (mm x R Z Y vs0.toInt64 A c G g))) : pW ns d 132 7 [u0, u1, some (pm_r 60 0), u3] [pm_i vs0, pm_i vs1, pm_r 60 0] (mm x R Z Y o A c G g) Q := by
  refine pW_eq 2 (pc' := 9) (L' := [u0, u1, some (pm_r 60 0), u3]) (S' := []) (M' := (mm x R Z Y vs0.toInt64 A c G g)) (fun call n => ?_) ?_
  · refine Eq.trans (b := pm_g (mm x R Z Y o A c G g) 60 0 (pm_ix (vs1) 1 (fun jx => pm_go call ns d 132 n 9 [u0, u1, some (pm_r 60 0), u3] [] (mA Z A G, pm_u (mB Y o c g) 60 0 jx vs0.toInt64, R, pm_tot, x)))) rfl ?_
    refine (g_ok (f := 60) (by decide) rfl).trans ?_
    refine (ix_ok (j := j1) e1 l1 (by decide)).trans ?_
    exact (congrArg (fun z => pm_go call ns d 132 n 9 [u0, u1, some (pm_r 60 0), u3] [] (mA Z A G, z, R, pm_tot, x)) (uO1 l1))
  refine pW_ret 3 (fun call n => ?_) k
  rfl
set_option maxRecDepth 20000 in
theorem b132_13 (hR : RS R) {u0 : Option pm_V} {u1 : Option pm_V} {u2 : Option pm_V} {u3 : Option pm_V}   (k : Q (.inl (some (pm_i (nI 1))), (mm x R Z Y o A c G g))) : pW ns d 132 13 [u0, u1, u2, u3] [] (mm x R Z Y o A c G g) Q := by
  refine pW_ret 2 (fun call n => ?_) k
  rfl
/-! 133 JobLayerLaw.end -/
set_option maxRecDepth 20000 in
theorem b133_0 (hR : RS R) {v1 : Int32} {v2 : Int32} {u4 : Option pm_V}  {x2 : Nat} {o2 : Int64} {A2 : Nat → Nat → Nat → Int32} {c2 : Nat → Int64} {G2 : Nat → Nat → Int32} {g2 : Nat → Int64} {y : Int32} (hE : pE ns d 3 [pm_r 0 0, pm_i v1, pm_i v2] (mm x R Z Y o A c G g) (.inl (some (pm_i y)), (mm x2 R Z Y o2 A2 c2 G2 g2))) (k : pW ns d 133 8 [some (pm_r 0 0), some (pm_i v1), some (pm_i v2), some (pm_r 60 0), u4] [pm_i y, pm_i (nI 0), pm_r 60 0] (mm x2 R Z Y o2 A2 c2 G2 g2) Q) : pW ns d 133 0 [some (pm_r 0 0), some (pm_i v1), some (pm_i v2), some (pm_r 60 0), u4] [] (mm x R Z Y o A c G g) Q := by
  refine pW_call (pc' := 5) (r := [pm_i (nI 0), pm_r 60 0]) (L' := [some (pm_r 0 0), some (pm_i v1), some (pm_i v2), some (pm_r 60 0), u4]) 6 (fun call n => ?_) hE k
  exact Eq.trans (b := pm_g (mm x R Z Y o A c G g) 0 0 (pm_cl call 133 (pm_go call ns d 133 n) 5 3 [pm_r 0 0, pm_i v1, pm_i v2] [pm_i (nI 0), pm_r 60 0] [some (pm_r 0 0), some (pm_i v1), some (pm_i v2), some (pm_r 60 0), u4] (mm x R Z Y o A c G g))) rfl (g_ok (f := 0) (by decide) rfl)
set_option maxRecDepth 20000 in
theorem b133_0h0 (hR : RS R) {v1 : Int32} {v2 : Int32} {u4 : Option pm_V}  {x2 : Nat} {o2 : Int64} {A2 : Nat → Nat → Nat → Int32} {c2 : Nat → Int64} {G2 : Nat → Nat → Int32} {g2 : Nat → Int64} (hE : pE ns d 3 [pm_r 0 0, pm_i v1, pm_i v2] (mm x R Z Y o A c G g) (.inr 0, (mm x2 R Z Y o2 A2 c2 G2 g2))) (k : pW ns d 133 15 [some (pm_r 0 0), some (pm_i v1), some (pm_i v2), some (pm_r 60 0), none] [] (mm x2 R Z Y o2 A2 c2 G2 g2) Q) : pW ns d 133 0 [some (pm_r 0 0), some (pm_i v1), some (pm_i v2), some (pm_r 60 0), u4] [] (mm x R Z Y o A c G g) Q := by
  refine pW_callh (pc' := 5) (r := [pm_i (nI 0), pm_r 60 0]) (L' := [some (pm_r 0 0), some (pm_i v1), some (pm_i v2), some (pm_r 60 0), u4]) 6 (fun call n => ?_) hE (fun _ => rfl) k
  exact Eq.trans (b := pm_g (mm x R Z Y o A c G g) 0 0 (pm_cl call 133 (pm_go call ns d 133 n) 5 3 [pm_r 0 0, pm_i v1, pm_i v2] [pm_i (nI 0), pm_r 60 0] [some (pm_r 0 0), some (pm_i v1), some (pm_i v2), some (pm_r 60 0), u4] (mm x R Z Y o A c G g))) rfl (g_ok (f := 0) (by decide) rfl)
set_option maxRecDepth 20000 in
theorem b133_8 (hR : RS R) {u0 : Option pm_V} {u1 : Option pm_V} {u2 : Option pm_V} {u4 : Option pm_V} {vs0 : Int32} {vs1 : Int32} {j1 : Nat} (e1 : vs1 = nI j1) (l1 : j1 < 1)  (k : Q (.inl (some (pm_i (nI 0))), (mm x R Z Y vs0.toInt64 A c G g))) : pW ns d 133 8 [u0, u1, u2, some (pm_r 60 0), u4] [pm_i vs0, pm_i vs1, pm_r 60 0] (mm x R Z Y o A c G g) Q := by
  refine pW_eq 2 (pc' := 10) (L' := [u0, u1, u2, some (pm_r 60 0), u4]) (S' := []) (M' := (mm x R Z Y vs0.toInt64 A c G g)) (fun call n => ?_) ?_
  · refine Eq.trans (b := pm_g (mm x R Z Y o A c G g) 60 0 (pm_ix (vs1) 1 (fun jx => pm_go call ns d 133 n 10 [u0, u1, u2, some (pm_r 60 0), u4] [] (mA Z A G, pm_u (mB Y o c g) 60 0 jx vs0.toInt64, R, pm_tot, x)))) rfl ?_
    refine (g_ok (f := 60) (by decide) rfl).trans ?_
    refine (ix_ok (j := j1) e1 l1 (by decide)).trans ?_
    exact (congrArg (fun z => pm_go call ns d 133 n 10 [u0, u1, u2, some (pm_r 60 0), u4] [] (mA Z A G, z, R, pm_tot, x)) (uO1 l1))
  refine pW_ret 3 (fun call n => ?_) k
  rfl
set_option maxRecDepth 20000 in
theorem b133_15 (hR : RS R) {u0 : Option pm_V} {u1 : Option pm_V} {u2 : Option pm_V} {u3 : Option pm_V} {u4 : Option pm_V}   (k : Q (.inl (some (pm_i (nI 1))), (mm x R Z Y o A c G g))) : pW ns d 133 15 [u0, u1, u2, u3, u4] [] (mm x R Z Y o A c G g) Q := by
  refine pW_ret 2 (fun call n => ?_) k
  rfl
/-! 134 JobLayerLaw.pipe -/
set_option maxRecDepth 20000 in
theorem b134_0 (hR : RS R) {v1 : Int32} {u3 : Option pm_V}  {x2 : Nat} {o2 : Int64} {A2 : Nat → Nat → Nat → Int32} {c2 : Nat → Int64} {G2 : Nat → Nat → Int32} {g2 : Nat → Int64} {y : Int32} (hE : pE ns d 4 [pm_r 0 0, pm_i v1] (mm x R Z Y o A c G g) (.inl (some (pm_i y)), (mm x2 R Z Y o2 A2 c2 G2 g2))) (k : pW ns d 134 7 [some (pm_r 0 0), some (pm_i v1), some (pm_r 60 0), u3] [pm_i y, pm_i (nI 0), pm_r 60 0] (mm x2 R Z Y o2 A2 c2 G2 g2) Q) : pW ns d 134 0 [some (pm_r 0 0), some (pm_i v1), some (pm_r 60 0), u3] [] (mm x R Z Y o A c G g) Q := by
  refine pW_call (pc' := 4) (r := [pm_i (nI 0), pm_r 60 0]) (L' := [some (pm_r 0 0), some (pm_i v1), some (pm_r 60 0), u3]) 5 (fun call n => ?_) hE k
  exact Eq.trans (b := pm_g (mm x R Z Y o A c G g) 0 0 (pm_cl call 134 (pm_go call ns d 134 n) 4 4 [pm_r 0 0, pm_i v1] [pm_i (nI 0), pm_r 60 0] [some (pm_r 0 0), some (pm_i v1), some (pm_r 60 0), u3] (mm x R Z Y o A c G g))) rfl (g_ok (f := 0) (by decide) rfl)
set_option maxRecDepth 20000 in
theorem b134_0h0 (hR : RS R) {v1 : Int32} {u3 : Option pm_V}  {x2 : Nat} {o2 : Int64} {A2 : Nat → Nat → Nat → Int32} {c2 : Nat → Int64} {G2 : Nat → Nat → Int32} {g2 : Nat → Int64} (hE : pE ns d 4 [pm_r 0 0, pm_i v1] (mm x R Z Y o A c G g) (.inr 0, (mm x2 R Z Y o2 A2 c2 G2 g2))) (k : pW ns d 134 13 [some (pm_r 0 0), some (pm_i v1), some (pm_r 60 0), none] [] (mm x2 R Z Y o2 A2 c2 G2 g2) Q) : pW ns d 134 0 [some (pm_r 0 0), some (pm_i v1), some (pm_r 60 0), u3] [] (mm x R Z Y o A c G g) Q := by
  refine pW_callh (pc' := 4) (r := [pm_i (nI 0), pm_r 60 0]) (L' := [some (pm_r 0 0), some (pm_i v1), some (pm_r 60 0), u3]) 5 (fun call n => ?_) hE (fun _ => rfl) k
  exact Eq.trans (b := pm_g (mm x R Z Y o A c G g) 0 0 (pm_cl call 134 (pm_go call ns d 134 n) 4 4 [pm_r 0 0, pm_i v1] [pm_i (nI 0), pm_r 60 0] [some (pm_r 0 0), some (pm_i v1), some (pm_r 60 0), u3] (mm x R Z Y o A c G g))) rfl (g_ok (f := 0) (by decide) rfl)
set_option maxRecDepth 20000 in
theorem b134_7 (hR : RS R) {u0 : Option pm_V} {u1 : Option pm_V} {u3 : Option pm_V} {vs0 : Int32} {vs1 : Int32} {j1 : Nat} (e1 : vs1 = nI j1) (l1 : j1 < 1)  (k : Q (.inl (some (pm_i (nI 0))), (mm x R Z Y vs0.toInt64 A c G g))) : pW ns d 134 7 [u0, u1, some (pm_r 60 0), u3] [pm_i vs0, pm_i vs1, pm_r 60 0] (mm x R Z Y o A c G g) Q := by
  refine pW_eq 2 (pc' := 9) (L' := [u0, u1, some (pm_r 60 0), u3]) (S' := []) (M' := (mm x R Z Y vs0.toInt64 A c G g)) (fun call n => ?_) ?_
  · refine Eq.trans (b := pm_g (mm x R Z Y o A c G g) 60 0 (pm_ix (vs1) 1 (fun jx => pm_go call ns d 134 n 9 [u0, u1, some (pm_r 60 0), u3] [] (mA Z A G, pm_u (mB Y o c g) 60 0 jx vs0.toInt64, R, pm_tot, x)))) rfl ?_
    refine (g_ok (f := 60) (by decide) rfl).trans ?_
    refine (ix_ok (j := j1) e1 l1 (by decide)).trans ?_
    exact (congrArg (fun z => pm_go call ns d 134 n 9 [u0, u1, some (pm_r 60 0), u3] [] (mA Z A G, z, R, pm_tot, x)) (uO1 l1))
  refine pW_ret 3 (fun call n => ?_) k
  rfl
set_option maxRecDepth 20000 in
theorem b134_13 (hR : RS R) {u0 : Option pm_V} {u1 : Option pm_V} {u2 : Option pm_V} {u3 : Option pm_V}   (k : Q (.inl (some (pm_i (nI 1))), (mm x R Z Y o A c G g))) : pW ns d 134 13 [u0, u1, u2, u3] [] (mm x R Z Y o A c G g) Q := by
  refine pW_ret 2 (fun call n => ?_) k
  rfl
/-! 135 JobLayerLaw.copy -/
set_option maxRecDepth 20000 in
theorem b135_0 (hR : RS R) {v1 : Int32} {v2 : Int32} {v3 : Int32} {u5 : Option pm_V}  {x2 : Nat} {o2 : Int64} {A2 : Nat → Nat → Nat → Int32} {c2 : Nat → Int64} {G2 : Nat → Nat → Int32} {g2 : Nat → Int64} {y : Int32} (hE : pE ns d 5 [pm_r 0 0, pm_i v1, pm_i v2, pm_i v3] (mm x R Z Y o A c G g) (.inl (some (pm_i y)), (mm x2 R Z Y o2 A2 c2 G2 g2))) (k : pW ns d 135 10 [some (pm_r 0 0), some (pm_i v1), some (pm_i v2), some (pm_i v3), some (pm_r 60 0), u5] [pm_i y, pm_i (nI 0), pm_r 60 0] (mm x2 R Z Y o2 A2 c2 G2 g2) Q) : pW ns d 135 0 [some (pm_r 0 0), some (pm_i v1), some (pm_i v2), some (pm_i v3), some (pm_r 60 0), u5] [] (mm x R Z Y o A c G g) Q := by
  refine pW_call (pc' := 7) (r := [pm_i (nI 0), pm_r 60 0]) (L' := [some (pm_r 0 0), some (pm_i v1), some (pm_i v2), some (pm_i v3), some (pm_r 60 0), u5]) 7 (fun call n => ?_) hE k
  exact Eq.trans (b := pm_g (mm x R Z Y o A c G g) 0 0 (pm_cl call 135 (pm_go call ns d 135 n) 7 5 [pm_r 0 0, pm_i v1, pm_i v2, pm_i v3] [pm_i (nI 0), pm_r 60 0] [some (pm_r 0 0), some (pm_i v1), some (pm_i v2), some (pm_i v3), some (pm_r 60 0), u5] (mm x R Z Y o A c G g))) rfl (g_ok (f := 0) (by decide) rfl)
set_option maxRecDepth 20000 in
theorem b135_0h0 (hR : RS R) {v1 : Int32} {v2 : Int32} {v3 : Int32} {u5 : Option pm_V}  {x2 : Nat} {o2 : Int64} {A2 : Nat → Nat → Nat → Int32} {c2 : Nat → Int64} {G2 : Nat → Nat → Int32} {g2 : Nat → Int64} (hE : pE ns d 5 [pm_r 0 0, pm_i v1, pm_i v2, pm_i v3] (mm x R Z Y o A c G g) (.inr 0, (mm x2 R Z Y o2 A2 c2 G2 g2))) (k : pW ns d 135 17 [some (pm_r 0 0), some (pm_i v1), some (pm_i v2), some (pm_i v3), some (pm_r 60 0), none] [] (mm x2 R Z Y o2 A2 c2 G2 g2) Q) : pW ns d 135 0 [some (pm_r 0 0), some (pm_i v1), some (pm_i v2), some (pm_i v3), some (pm_r 60 0), u5] [] (mm x R Z Y o A c G g) Q := by
  refine pW_callh (pc' := 7) (r := [pm_i (nI 0), pm_r 60 0]) (L' := [some (pm_r 0 0), some (pm_i v1), some (pm_i v2), some (pm_i v3), some (pm_r 60 0), u5]) 7 (fun call n => ?_) hE (fun _ => rfl) k
  exact Eq.trans (b := pm_g (mm x R Z Y o A c G g) 0 0 (pm_cl call 135 (pm_go call ns d 135 n) 7 5 [pm_r 0 0, pm_i v1, pm_i v2, pm_i v3] [pm_i (nI 0), pm_r 60 0] [some (pm_r 0 0), some (pm_i v1), some (pm_i v2), some (pm_i v3), some (pm_r 60 0), u5] (mm x R Z Y o A c G g))) rfl (g_ok (f := 0) (by decide) rfl)
set_option maxRecDepth 20000 in
theorem b135_10 (hR : RS R) {u0 : Option pm_V} {u1 : Option pm_V} {u2 : Option pm_V} {u3 : Option pm_V} {u5 : Option pm_V} {vs0 : Int32} {vs1 : Int32} {j1 : Nat} (e1 : vs1 = nI j1) (l1 : j1 < 1)  (k : Q (.inl (some (pm_i (nI 0))), (mm x R Z Y vs0.toInt64 A c G g))) : pW ns d 135 10 [u0, u1, u2, u3, some (pm_r 60 0), u5] [pm_i vs0, pm_i vs1, pm_r 60 0] (mm x R Z Y o A c G g) Q := by
  refine pW_eq 2 (pc' := 12) (L' := [u0, u1, u2, u3, some (pm_r 60 0), u5]) (S' := []) (M' := (mm x R Z Y vs0.toInt64 A c G g)) (fun call n => ?_) ?_
  · refine Eq.trans (b := pm_g (mm x R Z Y o A c G g) 60 0 (pm_ix (vs1) 1 (fun jx => pm_go call ns d 135 n 12 [u0, u1, u2, u3, some (pm_r 60 0), u5] [] (mA Z A G, pm_u (mB Y o c g) 60 0 jx vs0.toInt64, R, pm_tot, x)))) rfl ?_
    refine (g_ok (f := 60) (by decide) rfl).trans ?_
    refine (ix_ok (j := j1) e1 l1 (by decide)).trans ?_
    exact (congrArg (fun z => pm_go call ns d 135 n 12 [u0, u1, u2, u3, some (pm_r 60 0), u5] [] (mA Z A G, z, R, pm_tot, x)) (uO1 l1))
  refine pW_ret 3 (fun call n => ?_) k
  rfl
set_option maxRecDepth 20000 in
theorem b135_17 (hR : RS R) {u0 : Option pm_V} {u1 : Option pm_V} {u2 : Option pm_V} {u3 : Option pm_V} {u4 : Option pm_V} {u5 : Option pm_V}   (k : Q (.inl (some (pm_i (nI 1))), (mm x R Z Y o A c G g))) : pW ns d 135 17 [u0, u1, u2, u3, u4, u5] [] (mm x R Z Y o A c G g) Q := by
  refine pW_ret 2 (fun call n => ?_) k
  rfl
/-! 136 JobLayerLaw.close -/
set_option maxRecDepth 20000 in
theorem b136_0 (hR : RS R) {v1 : Int32} {v2 : Int32} {u4 : Option pm_V}  {x2 : Nat} {o2 : Int64} {A2 : Nat → Nat → Nat → Int32} {c2 : Nat → Int64} {G2 : Nat → Nat → Int32} {g2 : Nat → Int64} {y : Int32} (hE : pE ns d 6 [pm_r 0 0, pm_i v1, pm_i v2] (mm x R Z Y o A c G g) (.inl (some (pm_i y)), (mm x2 R Z Y o2 A2 c2 G2 g2))) (k : pW ns d 136 8 [some (pm_r 0 0), some (pm_i v1), some (pm_i v2), some (pm_r 60 0), u4] [pm_i y, pm_i (nI 0), pm_r 60 0] (mm x2 R Z Y o2 A2 c2 G2 g2) Q) : pW ns d 136 0 [some (pm_r 0 0), some (pm_i v1), some (pm_i v2), some (pm_r 60 0), u4] [] (mm x R Z Y o A c G g) Q := by
  refine pW_call (pc' := 5) (r := [pm_i (nI 0), pm_r 60 0]) (L' := [some (pm_r 0 0), some (pm_i v1), some (pm_i v2), some (pm_r 60 0), u4]) 6 (fun call n => ?_) hE k
  exact Eq.trans (b := pm_g (mm x R Z Y o A c G g) 0 0 (pm_cl call 136 (pm_go call ns d 136 n) 5 6 [pm_r 0 0, pm_i v1, pm_i v2] [pm_i (nI 0), pm_r 60 0] [some (pm_r 0 0), some (pm_i v1), some (pm_i v2), some (pm_r 60 0), u4] (mm x R Z Y o A c G g))) rfl (g_ok (f := 0) (by decide) rfl)
set_option maxRecDepth 20000 in
theorem b136_0h0 (hR : RS R) {v1 : Int32} {v2 : Int32} {u4 : Option pm_V}  {x2 : Nat} {o2 : Int64} {A2 : Nat → Nat → Nat → Int32} {c2 : Nat → Int64} {G2 : Nat → Nat → Int32} {g2 : Nat → Int64} (hE : pE ns d 6 [pm_r 0 0, pm_i v1, pm_i v2] (mm x R Z Y o A c G g) (.inr 0, (mm x2 R Z Y o2 A2 c2 G2 g2))) (k : pW ns d 136 15 [some (pm_r 0 0), some (pm_i v1), some (pm_i v2), some (pm_r 60 0), none] [] (mm x2 R Z Y o2 A2 c2 G2 g2) Q) : pW ns d 136 0 [some (pm_r 0 0), some (pm_i v1), some (pm_i v2), some (pm_r 60 0), u4] [] (mm x R Z Y o A c G g) Q := by
  refine pW_callh (pc' := 5) (r := [pm_i (nI 0), pm_r 60 0]) (L' := [some (pm_r 0 0), some (pm_i v1), some (pm_i v2), some (pm_r 60 0), u4]) 6 (fun call n => ?_) hE (fun _ => rfl) k
  exact Eq.trans (b := pm_g (mm x R Z Y o A c G g) 0 0 (pm_cl call 136 (pm_go call ns d 136 n) 5 6 [pm_r 0 0, pm_i v1, pm_i v2] [pm_i (nI 0), pm_r 60 0] [some (pm_r 0 0), some (pm_i v1), some (pm_i v2), some (pm_r 60 0), u4] (mm x R Z Y o A c G g))) rfl (g_ok (f := 0) (by decide) rfl)
set_option maxRecDepth 20000 in
theorem b136_8 (hR : RS R) {u0 : Option pm_V} {u1 : Option pm_V} {u2 : Option pm_V} {u4 : Option pm_V} {vs0 : Int32} {vs1 : Int32} {j1 : Nat} (e1 : vs1 = nI j1) (l1 : j1 < 1)  (k : Q (.inl (some (pm_i (nI 0))), (mm x R Z Y vs0.toInt64 A c G g))) : pW ns d 136 8 [u0, u1, u2, some (pm_r 60 0), u4] [pm_i vs0, pm_i vs1, pm_r 60 0] (mm x R Z Y o A c G g) Q := by
  refine pW_eq 2 (pc' := 10) (L' := [u0, u1, u2, some (pm_r 60 0), u4]) (S' := []) (M' := (mm x R Z Y vs0.toInt64 A c G g)) (fun call n => ?_) ?_
  · refine Eq.trans (b := pm_g (mm x R Z Y o A c G g) 60 0 (pm_ix (vs1) 1 (fun jx => pm_go call ns d 136 n 10 [u0, u1, u2, some (pm_r 60 0), u4] [] (mA Z A G, pm_u (mB Y o c g) 60 0 jx vs0.toInt64, R, pm_tot, x)))) rfl ?_
    refine (g_ok (f := 60) (by decide) rfl).trans ?_
    refine (ix_ok (j := j1) e1 l1 (by decide)).trans ?_
    exact (congrArg (fun z => pm_go call ns d 136 n 10 [u0, u1, u2, some (pm_r 60 0), u4] [] (mA Z A G, z, R, pm_tot, x)) (uO1 l1))
  refine pW_ret 3 (fun call n => ?_) k
  rfl
set_option maxRecDepth 20000 in
theorem b136_15 (hR : RS R) {u0 : Option pm_V} {u1 : Option pm_V} {u2 : Option pm_V} {u3 : Option pm_V} {u4 : Option pm_V}   (k : Q (.inl (some (pm_i (nI 1))), (mm x R Z Y o A c G g))) : pW ns d 136 15 [u0, u1, u2, u3, u4] [] (mm x R Z Y o A c G g) Q := by
  refine pW_ret 2 (fun call n => ?_) k
  rfl
/-! 137 JobLayerLaw.read -/
set_option maxRecDepth 20000 in
theorem b137_0 (hR : RS R) {v1 : Int32} {v2 : Int32} {v3 : Int32} {u5 : Option pm_V}  {x2 : Nat} {o2 : Int64} {A2 : Nat → Nat → Nat → Int32} {c2 : Nat → Int64} {G2 : Nat → Nat → Int32} {g2 : Nat → Int64} {y : Int32} (hE : pE ns d 7 [pm_r 0 0, pm_i v1, pm_i v2, pm_i v3] (mm x R Z Y o A c G g) (.inl (some (pm_i y)), (mm x2 R Z Y o2 A2 c2 G2 g2))) (k : pW ns d 137 10 [some (pm_r 0 0), some (pm_i v1), some (pm_i v2), some (pm_i v3), some (pm_r 60 0), u5] [pm_i y, pm_i (nI 0), pm_r 60 0] (mm x2 R Z Y o2 A2 c2 G2 g2) Q) : pW ns d 137 0 [some (pm_r 0 0), some (pm_i v1), some (pm_i v2), some (pm_i v3), some (pm_r 60 0), u5] [] (mm x R Z Y o A c G g) Q := by
  refine pW_call (pc' := 7) (r := [pm_i (nI 0), pm_r 60 0]) (L' := [some (pm_r 0 0), some (pm_i v1), some (pm_i v2), some (pm_i v3), some (pm_r 60 0), u5]) 7 (fun call n => ?_) hE k
  exact Eq.trans (b := pm_g (mm x R Z Y o A c G g) 0 0 (pm_cl call 137 (pm_go call ns d 137 n) 7 7 [pm_r 0 0, pm_i v1, pm_i v2, pm_i v3] [pm_i (nI 0), pm_r 60 0] [some (pm_r 0 0), some (pm_i v1), some (pm_i v2), some (pm_i v3), some (pm_r 60 0), u5] (mm x R Z Y o A c G g))) rfl (g_ok (f := 0) (by decide) rfl)
set_option maxRecDepth 20000 in
theorem b137_0h1 (hR : RS R) {v1 : Int32} {v2 : Int32} {v3 : Int32} {u5 : Option pm_V}  {x2 : Nat} {o2 : Int64} {A2 : Nat → Nat → Nat → Int32} {c2 : Nat → Int64} {G2 : Nat → Nat → Int32} {g2 : Nat → Int64} (hE : pE ns d 7 [pm_r 0 0, pm_i v1, pm_i v2, pm_i v3] (mm x R Z Y o A c G g) (.inr 1, (mm x2 R Z Y o2 A2 c2 G2 g2))) (k : pW ns d 137 17 [some (pm_r 0 0), some (pm_i v1), some (pm_i v2), some (pm_i v3), some (pm_r 60 0), none] [] (mm x2 R Z Y o2 A2 c2 G2 g2) Q) : pW ns d 137 0 [some (pm_r 0 0), some (pm_i v1), some (pm_i v2), some (pm_i v3), some (pm_r 60 0), u5] [] (mm x R Z Y o A c G g) Q := by
  refine pW_callh (pc' := 7) (r := [pm_i (nI 0), pm_r 60 0]) (L' := [some (pm_r 0 0), some (pm_i v1), some (pm_i v2), some (pm_i v3), some (pm_r 60 0), u5]) 7 (fun call n => ?_) hE (fun _ => rfl) k
  exact Eq.trans (b := pm_g (mm x R Z Y o A c G g) 0 0 (pm_cl call 137 (pm_go call ns d 137 n) 7 7 [pm_r 0 0, pm_i v1, pm_i v2, pm_i v3] [pm_i (nI 0), pm_r 60 0] [some (pm_r 0 0), some (pm_i v1), some (pm_i v2), some (pm_i v3), some (pm_r 60 0), u5] (mm x R Z Y o A c G g))) rfl (g_ok (f := 0) (by decide) rfl)
set_option maxRecDepth 20000 in
theorem b137_0h0 (hR : RS R) {v1 : Int32} {v2 : Int32} {v3 : Int32} {u5 : Option pm_V}  {x2 : Nat} {o2 : Int64} {A2 : Nat → Nat → Nat → Int32} {c2 : Nat → Int64} {G2 : Nat → Nat → Int32} {g2 : Nat → Int64} (hE : pE ns d 7 [pm_r 0 0, pm_i v1, pm_i v2, pm_i v3] (mm x R Z Y o A c G g) (.inr 0, (mm x2 R Z Y o2 A2 c2 G2 g2))) (k : pW ns d 137 21 [some (pm_r 0 0), some (pm_i v1), some (pm_i v2), some (pm_i v3), some (pm_r 60 0), none] [] (mm x2 R Z Y o2 A2 c2 G2 g2) Q) : pW ns d 137 0 [some (pm_r 0 0), some (pm_i v1), some (pm_i v2), some (pm_i v3), some (pm_r 60 0), u5] [] (mm x R Z Y o A c G g) Q := by
  refine pW_callh (pc' := 7) (r := [pm_i (nI 0), pm_r 60 0]) (L' := [some (pm_r 0 0), some (pm_i v1), some (pm_i v2), some (pm_i v3), some (pm_r 60 0), u5]) 7 (fun call n => ?_) hE (fun _ => rfl) k
  exact Eq.trans (b := pm_g (mm x R Z Y o A c G g) 0 0 (pm_cl call 137 (pm_go call ns d 137 n) 7 7 [pm_r 0 0, pm_i v1, pm_i v2, pm_i v3] [pm_i (nI 0), pm_r 60 0] [some (pm_r 0 0), some (pm_i v1), some (pm_i v2), some (pm_i v3), some (pm_r 60 0), u5] (mm x R Z Y o A c G g))) rfl (g_ok (f := 0) (by decide) rfl)
set_option maxRecDepth 20000 in
theorem b137_10 (hR : RS R) {u0 : Option pm_V} {u1 : Option pm_V} {u2 : Option pm_V} {u3 : Option pm_V} {u5 : Option pm_V} {vs0 : Int32} {vs1 : Int32} {j1 : Nat} (e1 : vs1 = nI j1) (l1 : j1 < 1)  (k : Q (.inl (some (pm_i (nI 0))), (mm x R Z Y vs0.toInt64 A c G g))) : pW ns d 137 10 [u0, u1, u2, u3, some (pm_r 60 0), u5] [pm_i vs0, pm_i vs1, pm_r 60 0] (mm x R Z Y o A c G g) Q := by
  refine pW_eq 2 (pc' := 12) (L' := [u0, u1, u2, u3, some (pm_r 60 0), u5]) (S' := []) (M' := (mm x R Z Y vs0.toInt64 A c G g)) (fun call n => ?_) ?_
  · refine Eq.trans (b := pm_g (mm x R Z Y o A c G g) 60 0 (pm_ix (vs1) 1 (fun jx => pm_go call ns d 137 n 12 [u0, u1, u2, u3, some (pm_r 60 0), u5] [] (mA Z A G, pm_u (mB Y o c g) 60 0 jx vs0.toInt64, R, pm_tot, x)))) rfl ?_
    refine (g_ok (f := 60) (by decide) rfl).trans ?_
    refine (ix_ok (j := j1) e1 l1 (by decide)).trans ?_
    exact (congrArg (fun z => pm_go call ns d 137 n 12 [u0, u1, u2, u3, some (pm_r 60 0), u5] [] (mA Z A G, z, R, pm_tot, x)) (uO1 l1))
  refine pW_ret 3 (fun call n => ?_) k
  rfl
set_option maxRecDepth 20000 in
theorem b137_17 (hR : RS R) {u0 : Option pm_V} {u1 : Option pm_V} {u2 : Option pm_V} {u3 : Option pm_V} {u4 : Option pm_V} {u5 : Option pm_V}   (k : Q (.inl (some (pm_i (nI 1))), (mm x R Z Y o A c G g))) : pW ns d 137 17 [u0, u1, u2, u3, u4, u5] [] (mm x R Z Y o A c G g) Q := by
  refine pW_ret 2 (fun call n => ?_) k
  rfl
set_option maxRecDepth 20000 in
theorem b137_21 (hR : RS R) {u0 : Option pm_V} {u1 : Option pm_V} {u2 : Option pm_V} {u3 : Option pm_V} {u4 : Option pm_V} {u5 : Option pm_V}   (k : Q (.inl (some (pm_i (nI 2))), (mm x R Z Y o A c G g))) : pW ns d 137 21 [u0, u1, u2, u3, u4, u5] [] (mm x R Z Y o A c G g) Q := by
  refine pW_ret 2 (fun call n => ?_) k
  rfl
/-! 138 JobLayerLaw.write -/
set_option maxRecDepth 20000 in
theorem b138_0 (hR : RS R) {v1 : Int32} {v2 : Int32} {w3 : Int64} {u4 : Option pm_V} {v5 : Int32} {u7 : Option pm_V}  {x2 : Nat} {o2 : Int64} {A2 : Nat → Nat → Nat → Int32} {c2 : Nat → Int64} {G2 : Nat → Nat → Int32} {g2 : Nat → Int64} {y : Int32} (hE : pE ns d 8 [pm_r 0 0, pm_i v1, pm_i v2, pm_l (w3), pm_i v5] (mm x R Z Y o A c G g) (.inl (some (pm_i y)), (mm x2 R Z Y o2 A2 c2 G2 g2))) (k : pW ns d 138 12 [some (pm_r 0 0), some (pm_i v1), some (pm_i v2), some (pm_l (w3)), u4, some (pm_i v5), some (pm_r 60 0), u7] [pm_i y, pm_i (nI 0), pm_r 60 0] (mm x2 R Z Y o2 A2 c2 G2 g2) Q) : pW ns d 138 0 [some (pm_r 0 0), some (pm_i v1), some (pm_i v2), some (pm_l (w3)), u4, some (pm_i v5), some (pm_r 60 0), u7] [] (mm x R Z Y o A c G g) Q := by
  refine pW_call (pc' := 9) (r := [pm_i (nI 0), pm_r 60 0]) (L' := [some (pm_r 0 0), some (pm_i v1), some (pm_i v2), some (pm_l (w3)), u4, some (pm_i v5), some (pm_r 60 0), u7]) 8 (fun call n => ?_) hE k
  exact Eq.trans (b := pm_g (mm x R Z Y o A c G g) 0 0 (pm_cl call 138 (pm_go call ns d 138 n) 9 8 [pm_r 0 0, pm_i v1, pm_i v2, pm_l (w3), pm_i v5] [pm_i (nI 0), pm_r 60 0] [some (pm_r 0 0), some (pm_i v1), some (pm_i v2), some (pm_l (w3)), u4, some (pm_i v5), some (pm_r 60 0), u7] (mm x R Z Y o A c G g))) rfl (g_ok (f := 0) (by decide) rfl)
set_option maxRecDepth 20000 in
theorem b138_0h1 (hR : RS R) {v1 : Int32} {v2 : Int32} {w3 : Int64} {u4 : Option pm_V} {v5 : Int32} {u7 : Option pm_V}  {x2 : Nat} {o2 : Int64} {A2 : Nat → Nat → Nat → Int32} {c2 : Nat → Int64} {G2 : Nat → Nat → Int32} {g2 : Nat → Int64} (hE : pE ns d 8 [pm_r 0 0, pm_i v1, pm_i v2, pm_l (w3), pm_i v5] (mm x R Z Y o A c G g) (.inr 1, (mm x2 R Z Y o2 A2 c2 G2 g2))) (k : pW ns d 138 19 [some (pm_r 0 0), some (pm_i v1), some (pm_i v2), some (pm_l (w3)), u4, some (pm_i v5), some (pm_r 60 0), none] [] (mm x2 R Z Y o2 A2 c2 G2 g2) Q) : pW ns d 138 0 [some (pm_r 0 0), some (pm_i v1), some (pm_i v2), some (pm_l (w3)), u4, some (pm_i v5), some (pm_r 60 0), u7] [] (mm x R Z Y o A c G g) Q := by
  refine pW_callh (pc' := 9) (r := [pm_i (nI 0), pm_r 60 0]) (L' := [some (pm_r 0 0), some (pm_i v1), some (pm_i v2), some (pm_l (w3)), u4, some (pm_i v5), some (pm_r 60 0), u7]) 8 (fun call n => ?_) hE (fun _ => rfl) k
  exact Eq.trans (b := pm_g (mm x R Z Y o A c G g) 0 0 (pm_cl call 138 (pm_go call ns d 138 n) 9 8 [pm_r 0 0, pm_i v1, pm_i v2, pm_l (w3), pm_i v5] [pm_i (nI 0), pm_r 60 0] [some (pm_r 0 0), some (pm_i v1), some (pm_i v2), some (pm_l (w3)), u4, some (pm_i v5), some (pm_r 60 0), u7] (mm x R Z Y o A c G g))) rfl (g_ok (f := 0) (by decide) rfl)
set_option maxRecDepth 20000 in
theorem b138_0h0 (hR : RS R) {v1 : Int32} {v2 : Int32} {w3 : Int64} {u4 : Option pm_V} {v5 : Int32} {u7 : Option pm_V}  {x2 : Nat} {o2 : Int64} {A2 : Nat → Nat → Nat → Int32} {c2 : Nat → Int64} {G2 : Nat → Nat → Int32} {g2 : Nat → Int64} (hE : pE ns d 8 [pm_r 0 0, pm_i v1, pm_i v2, pm_l (w3), pm_i v5] (mm x R Z Y o A c G g) (.inr 0, (mm x2 R Z Y o2 A2 c2 G2 g2))) (k : pW ns d 138 23 [some (pm_r 0 0), some (pm_i v1), some (pm_i v2), some (pm_l (w3)), u4, some (pm_i v5), some (pm_r 60 0), none] [] (mm x2 R Z Y o2 A2 c2 G2 g2) Q) : pW ns d 138 0 [some (pm_r 0 0), some (pm_i v1), some (pm_i v2), some (pm_l (w3)), u4, some (pm_i v5), some (pm_r 60 0), u7] [] (mm x R Z Y o A c G g) Q := by
  refine pW_callh (pc' := 9) (r := [pm_i (nI 0), pm_r 60 0]) (L' := [some (pm_r 0 0), some (pm_i v1), some (pm_i v2), some (pm_l (w3)), u4, some (pm_i v5), some (pm_r 60 0), u7]) 8 (fun call n => ?_) hE (fun _ => rfl) k
  exact Eq.trans (b := pm_g (mm x R Z Y o A c G g) 0 0 (pm_cl call 138 (pm_go call ns d 138 n) 9 8 [pm_r 0 0, pm_i v1, pm_i v2, pm_l (w3), pm_i v5] [pm_i (nI 0), pm_r 60 0] [some (pm_r 0 0), some (pm_i v1), some (pm_i v2), some (pm_l (w3)), u4, some (pm_i v5), some (pm_r 60 0), u7] (mm x R Z Y o A c G g))) rfl (g_ok (f := 0) (by decide) rfl)
set_option maxRecDepth 20000 in
theorem b138_12 (hR : RS R) {u0 : Option pm_V} {u1 : Option pm_V} {u2 : Option pm_V} {u3 : Option pm_V} {u4 : Option pm_V} {u5 : Option pm_V} {u7 : Option pm_V} {vs0 : Int32} {vs1 : Int32} {j1 : Nat} (e1 : vs1 = nI j1) (l1 : j1 < 1)  (k : Q (.inl (some (pm_i (nI 0))), (mm x R Z Y vs0.toInt64 A c G g))) : pW ns d 138 12 [u0, u1, u2, u3, u4, u5, some (pm_r 60 0), u7] [pm_i vs0, pm_i vs1, pm_r 60 0] (mm x R Z Y o A c G g) Q := by
  refine pW_eq 2 (pc' := 14) (L' := [u0, u1, u2, u3, u4, u5, some (pm_r 60 0), u7]) (S' := []) (M' := (mm x R Z Y vs0.toInt64 A c G g)) (fun call n => ?_) ?_
  · refine Eq.trans (b := pm_g (mm x R Z Y o A c G g) 60 0 (pm_ix (vs1) 1 (fun jx => pm_go call ns d 138 n 14 [u0, u1, u2, u3, u4, u5, some (pm_r 60 0), u7] [] (mA Z A G, pm_u (mB Y o c g) 60 0 jx vs0.toInt64, R, pm_tot, x)))) rfl ?_
    refine (g_ok (f := 60) (by decide) rfl).trans ?_
    refine (ix_ok (j := j1) e1 l1 (by decide)).trans ?_
    exact (congrArg (fun z => pm_go call ns d 138 n 14 [u0, u1, u2, u3, u4, u5, some (pm_r 60 0), u7] [] (mA Z A G, z, R, pm_tot, x)) (uO1 l1))
  refine pW_ret 3 (fun call n => ?_) k
  rfl
set_option maxRecDepth 20000 in
theorem b138_19 (hR : RS R) {u0 : Option pm_V} {u1 : Option pm_V} {u2 : Option pm_V} {u3 : Option pm_V} {u4 : Option pm_V} {u5 : Option pm_V} {u6 : Option pm_V} {u7 : Option pm_V}   (k : Q (.inl (some (pm_i (nI 1))), (mm x R Z Y o A c G g))) : pW ns d 138 19 [u0, u1, u2, u3, u4, u5, u6, u7] [] (mm x R Z Y o A c G g) Q := by
  refine pW_ret 2 (fun call n => ?_) k
  rfl
set_option maxRecDepth 20000 in
theorem b138_23 (hR : RS R) {u0 : Option pm_V} {u1 : Option pm_V} {u2 : Option pm_V} {u3 : Option pm_V} {u4 : Option pm_V} {u5 : Option pm_V} {u6 : Option pm_V} {u7 : Option pm_V}   (k : Q (.inl (some (pm_i (nI 2))), (mm x R Z Y o A c G g))) : pW ns d 138 23 [u0, u1, u2, u3, u4, u5, u6, u7] [] (mm x R Z Y o A c G g) Q := by
  refine pW_ret 2 (fun call n => ?_) k
  rfl
/-! 139 JobLayerLaw.reap -/
set_option maxRecDepth 20000 in
theorem b139_0 (hR : RS R) {v1 : Int32} {v2 : Int32} {u4 : Option pm_V}  {x2 : Nat} {o2 : Int64} {A2 : Nat → Nat → Nat → Int32} {c2 : Nat → Int64} {G2 : Nat → Nat → Int32} {g2 : Nat → Int64} {y : Int32} (hE : pE ns d 9 [pm_r 0 0, pm_i v1, pm_i v2] (mm x R Z Y o A c G g) (.inl (some (pm_i y)), (mm x2 R Z Y o2 A2 c2 G2 g2))) (k : pW ns d 139 8 [some (pm_r 0 0), some (pm_i v1), some (pm_i v2), some (pm_r 60 0), u4] [pm_i y, pm_i (nI 0), pm_r 60 0] (mm x2 R Z Y o2 A2 c2 G2 g2) Q) : pW ns d 139 0 [some (pm_r 0 0), some (pm_i v1), some (pm_i v2), some (pm_r 60 0), u4] [] (mm x R Z Y o A c G g) Q := by
  refine pW_call (pc' := 5) (r := [pm_i (nI 0), pm_r 60 0]) (L' := [some (pm_r 0 0), some (pm_i v1), some (pm_i v2), some (pm_r 60 0), u4]) 6 (fun call n => ?_) hE k
  exact Eq.trans (b := pm_g (mm x R Z Y o A c G g) 0 0 (pm_cl call 139 (pm_go call ns d 139 n) 5 9 [pm_r 0 0, pm_i v1, pm_i v2] [pm_i (nI 0), pm_r 60 0] [some (pm_r 0 0), some (pm_i v1), some (pm_i v2), some (pm_r 60 0), u4] (mm x R Z Y o A c G g))) rfl (g_ok (f := 0) (by decide) rfl)
set_option maxRecDepth 20000 in
theorem b139_0h0 (hR : RS R) {v1 : Int32} {v2 : Int32} {u4 : Option pm_V}  {x2 : Nat} {o2 : Int64} {A2 : Nat → Nat → Nat → Int32} {c2 : Nat → Int64} {G2 : Nat → Nat → Int32} {g2 : Nat → Int64} (hE : pE ns d 9 [pm_r 0 0, pm_i v1, pm_i v2] (mm x R Z Y o A c G g) (.inr 0, (mm x2 R Z Y o2 A2 c2 G2 g2))) (k : pW ns d 139 15 [some (pm_r 0 0), some (pm_i v1), some (pm_i v2), some (pm_r 60 0), none] [] (mm x2 R Z Y o2 A2 c2 G2 g2) Q) : pW ns d 139 0 [some (pm_r 0 0), some (pm_i v1), some (pm_i v2), some (pm_r 60 0), u4] [] (mm x R Z Y o A c G g) Q := by
  refine pW_callh (pc' := 5) (r := [pm_i (nI 0), pm_r 60 0]) (L' := [some (pm_r 0 0), some (pm_i v1), some (pm_i v2), some (pm_r 60 0), u4]) 6 (fun call n => ?_) hE (fun _ => rfl) k
  exact Eq.trans (b := pm_g (mm x R Z Y o A c G g) 0 0 (pm_cl call 139 (pm_go call ns d 139 n) 5 9 [pm_r 0 0, pm_i v1, pm_i v2] [pm_i (nI 0), pm_r 60 0] [some (pm_r 0 0), some (pm_i v1), some (pm_i v2), some (pm_r 60 0), u4] (mm x R Z Y o A c G g))) rfl (g_ok (f := 0) (by decide) rfl)
set_option maxRecDepth 20000 in
theorem b139_8 (hR : RS R) {u0 : Option pm_V} {u1 : Option pm_V} {u2 : Option pm_V} {u4 : Option pm_V} {vs0 : Int32} {vs1 : Int32} {j1 : Nat} (e1 : vs1 = nI j1) (l1 : j1 < 1)  (k : Q (.inl (some (pm_i (nI 0))), (mm x R Z Y vs0.toInt64 A c G g))) : pW ns d 139 8 [u0, u1, u2, some (pm_r 60 0), u4] [pm_i vs0, pm_i vs1, pm_r 60 0] (mm x R Z Y o A c G g) Q := by
  refine pW_eq 2 (pc' := 10) (L' := [u0, u1, u2, some (pm_r 60 0), u4]) (S' := []) (M' := (mm x R Z Y vs0.toInt64 A c G g)) (fun call n => ?_) ?_
  · refine Eq.trans (b := pm_g (mm x R Z Y o A c G g) 60 0 (pm_ix (vs1) 1 (fun jx => pm_go call ns d 139 n 10 [u0, u1, u2, some (pm_r 60 0), u4] [] (mA Z A G, pm_u (mB Y o c g) 60 0 jx vs0.toInt64, R, pm_tot, x)))) rfl ?_
    refine (g_ok (f := 60) (by decide) rfl).trans ?_
    refine (ix_ok (j := j1) e1 l1 (by decide)).trans ?_
    exact (congrArg (fun z => pm_go call ns d 139 n 10 [u0, u1, u2, some (pm_r 60 0), u4] [] (mA Z A G, z, R, pm_tot, x)) (uO1 l1))
  refine pW_ret 3 (fun call n => ?_) k
  rfl
set_option maxRecDepth 20000 in
theorem b139_15 (hR : RS R) {u0 : Option pm_V} {u1 : Option pm_V} {u2 : Option pm_V} {u3 : Option pm_V} {u4 : Option pm_V}   (k : Q (.inl (some (pm_i (nI 1))), (mm x R Z Y o A c G g))) : pW ns d 139 15 [u0, u1, u2, u3, u4] [] (mm x R Z Y o A c G g) Q := by
  refine pW_ret 2 (fun call n => ?_) k
  rfl
/-! 140 JobLayerLaw.pause -/
set_option maxRecDepth 20000 in
theorem b140_0 (hR : RS R) {v1 : Int32} {u3 : Option pm_V}  {x2 : Nat} {o2 : Int64} {A2 : Nat → Nat → Nat → Int32} {c2 : Nat → Int64} {G2 : Nat → Nat → Int32} {g2 : Nat → Int64} {y : Int32} (hE : pE ns d 10 [pm_r 0 0, pm_i v1] (mm x R Z Y o A c G g) (.inl (some (pm_i y)), (mm x2 R Z Y o2 A2 c2 G2 g2))) (k : pW ns d 140 7 [some (pm_r 0 0), some (pm_i v1), some (pm_r 60 0), u3] [pm_i y, pm_i (nI 0), pm_r 60 0] (mm x2 R Z Y o2 A2 c2 G2 g2) Q) : pW ns d 140 0 [some (pm_r 0 0), some (pm_i v1), some (pm_r 60 0), u3] [] (mm x R Z Y o A c G g) Q := by
  refine pW_call (pc' := 4) (r := [pm_i (nI 0), pm_r 60 0]) (L' := [some (pm_r 0 0), some (pm_i v1), some (pm_r 60 0), u3]) 5 (fun call n => ?_) hE k
  exact Eq.trans (b := pm_g (mm x R Z Y o A c G g) 0 0 (pm_cl call 140 (pm_go call ns d 140 n) 4 10 [pm_r 0 0, pm_i v1] [pm_i (nI 0), pm_r 60 0] [some (pm_r 0 0), some (pm_i v1), some (pm_r 60 0), u3] (mm x R Z Y o A c G g))) rfl (g_ok (f := 0) (by decide) rfl)
set_option maxRecDepth 20000 in
theorem b140_0h0 (hR : RS R) {v1 : Int32} {u3 : Option pm_V}  {x2 : Nat} {o2 : Int64} {A2 : Nat → Nat → Nat → Int32} {c2 : Nat → Int64} {G2 : Nat → Nat → Int32} {g2 : Nat → Int64} (hE : pE ns d 10 [pm_r 0 0, pm_i v1] (mm x R Z Y o A c G g) (.inr 0, (mm x2 R Z Y o2 A2 c2 G2 g2))) (k : pW ns d 140 13 [some (pm_r 0 0), some (pm_i v1), some (pm_r 60 0), none] [] (mm x2 R Z Y o2 A2 c2 G2 g2) Q) : pW ns d 140 0 [some (pm_r 0 0), some (pm_i v1), some (pm_r 60 0), u3] [] (mm x R Z Y o A c G g) Q := by
  refine pW_callh (pc' := 4) (r := [pm_i (nI 0), pm_r 60 0]) (L' := [some (pm_r 0 0), some (pm_i v1), some (pm_r 60 0), u3]) 5 (fun call n => ?_) hE (fun _ => rfl) k
  exact Eq.trans (b := pm_g (mm x R Z Y o A c G g) 0 0 (pm_cl call 140 (pm_go call ns d 140 n) 4 10 [pm_r 0 0, pm_i v1] [pm_i (nI 0), pm_r 60 0] [some (pm_r 0 0), some (pm_i v1), some (pm_r 60 0), u3] (mm x R Z Y o A c G g))) rfl (g_ok (f := 0) (by decide) rfl)
set_option maxRecDepth 20000 in
theorem b140_7 (hR : RS R) {u0 : Option pm_V} {u1 : Option pm_V} {u3 : Option pm_V} {vs0 : Int32} {vs1 : Int32} {j1 : Nat} (e1 : vs1 = nI j1) (l1 : j1 < 1)  (k : Q (.inl (some (pm_i (nI 0))), (mm x R Z Y vs0.toInt64 A c G g))) : pW ns d 140 7 [u0, u1, some (pm_r 60 0), u3] [pm_i vs0, pm_i vs1, pm_r 60 0] (mm x R Z Y o A c G g) Q := by
  refine pW_eq 2 (pc' := 9) (L' := [u0, u1, some (pm_r 60 0), u3]) (S' := []) (M' := (mm x R Z Y vs0.toInt64 A c G g)) (fun call n => ?_) ?_
  · refine Eq.trans (b := pm_g (mm x R Z Y o A c G g) 60 0 (pm_ix (vs1) 1 (fun jx => pm_go call ns d 140 n 9 [u0, u1, some (pm_r 60 0), u3] [] (mA Z A G, pm_u (mB Y o c g) 60 0 jx vs0.toInt64, R, pm_tot, x)))) rfl ?_
    refine (g_ok (f := 60) (by decide) rfl).trans ?_
    refine (ix_ok (j := j1) e1 l1 (by decide)).trans ?_
    exact (congrArg (fun z => pm_go call ns d 140 n 9 [u0, u1, some (pm_r 60 0), u3] [] (mA Z A G, z, R, pm_tot, x)) (uO1 l1))
  refine pW_ret 3 (fun call n => ?_) k
  rfl
set_option maxRecDepth 20000 in
theorem b140_13 (hR : RS R) {u0 : Option pm_V} {u1 : Option pm_V} {u2 : Option pm_V} {u3 : Option pm_V}   (k : Q (.inl (some (pm_i (nI 1))), (mm x R Z Y o A c G g))) : pW ns d 140 13 [u0, u1, u2, u3] [] (mm x R Z Y o A c G g) Q := by
  refine pW_ret 2 (fun call n => ?_) k
  rfl
/-! 141 JobLayerLaw.signal -/
set_option maxRecDepth 20000 in
theorem b141_0 (hR : RS R) {v1 : Int32} {v2 : Int32} {v3 : Int32} {u5 : Option pm_V}  {x2 : Nat} {o2 : Int64} {A2 : Nat → Nat → Nat → Int32} {c2 : Nat → Int64} {G2 : Nat → Nat → Int32} {g2 : Nat → Int64} {y : Int32} (hE : pE ns d 11 [pm_r 0 0, pm_i v1, pm_i v2, pm_i v3] (mm x R Z Y o A c G g) (.inl (some (pm_i y)), (mm x2 R Z Y o2 A2 c2 G2 g2))) (k : pW ns d 141 10 [some (pm_r 0 0), some (pm_i v1), some (pm_i v2), some (pm_i v3), some (pm_r 60 0), u5] [pm_i y, pm_i (nI 0), pm_r 60 0] (mm x2 R Z Y o2 A2 c2 G2 g2) Q) : pW ns d 141 0 [some (pm_r 0 0), some (pm_i v1), some (pm_i v2), some (pm_i v3), some (pm_r 60 0), u5] [] (mm x R Z Y o A c G g) Q := by
  refine pW_call (pc' := 7) (r := [pm_i (nI 0), pm_r 60 0]) (L' := [some (pm_r 0 0), some (pm_i v1), some (pm_i v2), some (pm_i v3), some (pm_r 60 0), u5]) 7 (fun call n => ?_) hE k
  exact Eq.trans (b := pm_g (mm x R Z Y o A c G g) 0 0 (pm_cl call 141 (pm_go call ns d 141 n) 7 11 [pm_r 0 0, pm_i v1, pm_i v2, pm_i v3] [pm_i (nI 0), pm_r 60 0] [some (pm_r 0 0), some (pm_i v1), some (pm_i v2), some (pm_i v3), some (pm_r 60 0), u5] (mm x R Z Y o A c G g))) rfl (g_ok (f := 0) (by decide) rfl)
set_option maxRecDepth 20000 in
theorem b141_0h1 (hR : RS R) {v1 : Int32} {v2 : Int32} {v3 : Int32} {u5 : Option pm_V}  {x2 : Nat} {o2 : Int64} {A2 : Nat → Nat → Nat → Int32} {c2 : Nat → Int64} {G2 : Nat → Nat → Int32} {g2 : Nat → Int64} (hE : pE ns d 11 [pm_r 0 0, pm_i v1, pm_i v2, pm_i v3] (mm x R Z Y o A c G g) (.inr 1, (mm x2 R Z Y o2 A2 c2 G2 g2))) (k : pW ns d 141 17 [some (pm_r 0 0), some (pm_i v1), some (pm_i v2), some (pm_i v3), some (pm_r 60 0), none] [] (mm x2 R Z Y o2 A2 c2 G2 g2) Q) : pW ns d 141 0 [some (pm_r 0 0), some (pm_i v1), some (pm_i v2), some (pm_i v3), some (pm_r 60 0), u5] [] (mm x R Z Y o A c G g) Q := by
  refine pW_callh (pc' := 7) (r := [pm_i (nI 0), pm_r 60 0]) (L' := [some (pm_r 0 0), some (pm_i v1), some (pm_i v2), some (pm_i v3), some (pm_r 60 0), u5]) 7 (fun call n => ?_) hE (fun _ => rfl) k
  exact Eq.trans (b := pm_g (mm x R Z Y o A c G g) 0 0 (pm_cl call 141 (pm_go call ns d 141 n) 7 11 [pm_r 0 0, pm_i v1, pm_i v2, pm_i v3] [pm_i (nI 0), pm_r 60 0] [some (pm_r 0 0), some (pm_i v1), some (pm_i v2), some (pm_i v3), some (pm_r 60 0), u5] (mm x R Z Y o A c G g))) rfl (g_ok (f := 0) (by decide) rfl)
set_option maxRecDepth 20000 in
theorem b141_0h0 (hR : RS R) {v1 : Int32} {v2 : Int32} {v3 : Int32} {u5 : Option pm_V}  {x2 : Nat} {o2 : Int64} {A2 : Nat → Nat → Nat → Int32} {c2 : Nat → Int64} {G2 : Nat → Nat → Int32} {g2 : Nat → Int64} (hE : pE ns d 11 [pm_r 0 0, pm_i v1, pm_i v2, pm_i v3] (mm x R Z Y o A c G g) (.inr 0, (mm x2 R Z Y o2 A2 c2 G2 g2))) (k : pW ns d 141 21 [some (pm_r 0 0), some (pm_i v1), some (pm_i v2), some (pm_i v3), some (pm_r 60 0), none] [] (mm x2 R Z Y o2 A2 c2 G2 g2) Q) : pW ns d 141 0 [some (pm_r 0 0), some (pm_i v1), some (pm_i v2), some (pm_i v3), some (pm_r 60 0), u5] [] (mm x R Z Y o A c G g) Q := by
  refine pW_callh (pc' := 7) (r := [pm_i (nI 0), pm_r 60 0]) (L' := [some (pm_r 0 0), some (pm_i v1), some (pm_i v2), some (pm_i v3), some (pm_r 60 0), u5]) 7 (fun call n => ?_) hE (fun _ => rfl) k
  exact Eq.trans (b := pm_g (mm x R Z Y o A c G g) 0 0 (pm_cl call 141 (pm_go call ns d 141 n) 7 11 [pm_r 0 0, pm_i v1, pm_i v2, pm_i v3] [pm_i (nI 0), pm_r 60 0] [some (pm_r 0 0), some (pm_i v1), some (pm_i v2), some (pm_i v3), some (pm_r 60 0), u5] (mm x R Z Y o A c G g))) rfl (g_ok (f := 0) (by decide) rfl)
set_option maxRecDepth 20000 in
theorem b141_10 (hR : RS R) {u0 : Option pm_V} {u1 : Option pm_V} {u2 : Option pm_V} {u3 : Option pm_V} {u5 : Option pm_V} {vs0 : Int32} {vs1 : Int32} {j1 : Nat} (e1 : vs1 = nI j1) (l1 : j1 < 1)  (k : Q (.inl (some (pm_i (nI 0))), (mm x R Z Y vs0.toInt64 A c G g))) : pW ns d 141 10 [u0, u1, u2, u3, some (pm_r 60 0), u5] [pm_i vs0, pm_i vs1, pm_r 60 0] (mm x R Z Y o A c G g) Q := by
  refine pW_eq 2 (pc' := 12) (L' := [u0, u1, u2, u3, some (pm_r 60 0), u5]) (S' := []) (M' := (mm x R Z Y vs0.toInt64 A c G g)) (fun call n => ?_) ?_
  · refine Eq.trans (b := pm_g (mm x R Z Y o A c G g) 60 0 (pm_ix (vs1) 1 (fun jx => pm_go call ns d 141 n 12 [u0, u1, u2, u3, some (pm_r 60 0), u5] [] (mA Z A G, pm_u (mB Y o c g) 60 0 jx vs0.toInt64, R, pm_tot, x)))) rfl ?_
    refine (g_ok (f := 60) (by decide) rfl).trans ?_
    refine (ix_ok (j := j1) e1 l1 (by decide)).trans ?_
    exact (congrArg (fun z => pm_go call ns d 141 n 12 [u0, u1, u2, u3, some (pm_r 60 0), u5] [] (mA Z A G, z, R, pm_tot, x)) (uO1 l1))
  refine pW_ret 3 (fun call n => ?_) k
  rfl
set_option maxRecDepth 20000 in
theorem b141_17 (hR : RS R) {u0 : Option pm_V} {u1 : Option pm_V} {u2 : Option pm_V} {u3 : Option pm_V} {u4 : Option pm_V} {u5 : Option pm_V}   (k : Q (.inl (some (pm_i (nI 1))), (mm x R Z Y o A c G g))) : pW ns d 141 17 [u0, u1, u2, u3, u4, u5] [] (mm x R Z Y o A c G g) Q := by
  refine pW_ret 2 (fun call n => ?_) k
  rfl
set_option maxRecDepth 20000 in
theorem b141_21 (hR : RS R) {u0 : Option pm_V} {u1 : Option pm_V} {u2 : Option pm_V} {u3 : Option pm_V} {u4 : Option pm_V} {u5 : Option pm_V}   (k : Q (.inl (some (pm_i (nI 2))), (mm x R Z Y o A c G g))) : pW ns d 141 21 [u0, u1, u2, u3, u4, u5] [] (mm x R Z Y o A c G g) Q := by
  refine pW_ret 2 (fun call n => ?_) k
  rfl
/-! 142 JobLayerLaw.action -/
set_option maxRecDepth 20000 in
theorem b142_0 (hR : RS R) {v1 : Int32} {v2 : Int32} {v3 : Int32} {u5 : Option pm_V}  {x2 : Nat} {o2 : Int64} {A2 : Nat → Nat → Nat → Int32} {c2 : Nat → Int64} {G2 : Nat → Nat → Int32} {g2 : Nat → Int64} {y : Int32} (hE : pE ns d 12 [pm_r 0 0, pm_i v1, pm_i v2, pm_i v3] (mm x R Z Y o A c G g) (.inl (some (pm_i y)), (mm x2 R Z Y o2 A2 c2 G2 g2))) (k : pW ns d 142 10 [some (pm_r 0 0), some (pm_i v1), some (pm_i v2), some (pm_i v3), some (pm_r 60 0), u5] [pm_i y, pm_i (nI 0), pm_r 60 0] (mm x2 R Z Y o2 A2 c2 G2 g2) Q) : pW ns d 142 0 [some (pm_r 0 0), some (pm_i v1), some (pm_i v2), some (pm_i v3), some (pm_r 60 0), u5] [] (mm x R Z Y o A c G g) Q := by
  refine pW_call (pc' := 7) (r := [pm_i (nI 0), pm_r 60 0]) (L' := [some (pm_r 0 0), some (pm_i v1), some (pm_i v2), some (pm_i v3), some (pm_r 60 0), u5]) 7 (fun call n => ?_) hE k
  exact Eq.trans (b := pm_g (mm x R Z Y o A c G g) 0 0 (pm_cl call 142 (pm_go call ns d 142 n) 7 12 [pm_r 0 0, pm_i v1, pm_i v2, pm_i v3] [pm_i (nI 0), pm_r 60 0] [some (pm_r 0 0), some (pm_i v1), some (pm_i v2), some (pm_i v3), some (pm_r 60 0), u5] (mm x R Z Y o A c G g))) rfl (g_ok (f := 0) (by decide) rfl)
set_option maxRecDepth 20000 in
theorem b142_0h1 (hR : RS R) {v1 : Int32} {v2 : Int32} {v3 : Int32} {u5 : Option pm_V}  {x2 : Nat} {o2 : Int64} {A2 : Nat → Nat → Nat → Int32} {c2 : Nat → Int64} {G2 : Nat → Nat → Int32} {g2 : Nat → Int64} (hE : pE ns d 12 [pm_r 0 0, pm_i v1, pm_i v2, pm_i v3] (mm x R Z Y o A c G g) (.inr 1, (mm x2 R Z Y o2 A2 c2 G2 g2))) (k : pW ns d 142 17 [some (pm_r 0 0), some (pm_i v1), some (pm_i v2), some (pm_i v3), some (pm_r 60 0), none] [] (mm x2 R Z Y o2 A2 c2 G2 g2) Q) : pW ns d 142 0 [some (pm_r 0 0), some (pm_i v1), some (pm_i v2), some (pm_i v3), some (pm_r 60 0), u5] [] (mm x R Z Y o A c G g) Q := by
  refine pW_callh (pc' := 7) (r := [pm_i (nI 0), pm_r 60 0]) (L' := [some (pm_r 0 0), some (pm_i v1), some (pm_i v2), some (pm_i v3), some (pm_r 60 0), u5]) 7 (fun call n => ?_) hE (fun _ => rfl) k
  exact Eq.trans (b := pm_g (mm x R Z Y o A c G g) 0 0 (pm_cl call 142 (pm_go call ns d 142 n) 7 12 [pm_r 0 0, pm_i v1, pm_i v2, pm_i v3] [pm_i (nI 0), pm_r 60 0] [some (pm_r 0 0), some (pm_i v1), some (pm_i v2), some (pm_i v3), some (pm_r 60 0), u5] (mm x R Z Y o A c G g))) rfl (g_ok (f := 0) (by decide) rfl)
set_option maxRecDepth 20000 in
theorem b142_0h0 (hR : RS R) {v1 : Int32} {v2 : Int32} {v3 : Int32} {u5 : Option pm_V}  {x2 : Nat} {o2 : Int64} {A2 : Nat → Nat → Nat → Int32} {c2 : Nat → Int64} {G2 : Nat → Nat → Int32} {g2 : Nat → Int64} (hE : pE ns d 12 [pm_r 0 0, pm_i v1, pm_i v2, pm_i v3] (mm x R Z Y o A c G g) (.inr 0, (mm x2 R Z Y o2 A2 c2 G2 g2))) (k : pW ns d 142 21 [some (pm_r 0 0), some (pm_i v1), some (pm_i v2), some (pm_i v3), some (pm_r 60 0), none] [] (mm x2 R Z Y o2 A2 c2 G2 g2) Q) : pW ns d 142 0 [some (pm_r 0 0), some (pm_i v1), some (pm_i v2), some (pm_i v3), some (pm_r 60 0), u5] [] (mm x R Z Y o A c G g) Q := by
  refine pW_callh (pc' := 7) (r := [pm_i (nI 0), pm_r 60 0]) (L' := [some (pm_r 0 0), some (pm_i v1), some (pm_i v2), some (pm_i v3), some (pm_r 60 0), u5]) 7 (fun call n => ?_) hE (fun _ => rfl) k
  exact Eq.trans (b := pm_g (mm x R Z Y o A c G g) 0 0 (pm_cl call 142 (pm_go call ns d 142 n) 7 12 [pm_r 0 0, pm_i v1, pm_i v2, pm_i v3] [pm_i (nI 0), pm_r 60 0] [some (pm_r 0 0), some (pm_i v1), some (pm_i v2), some (pm_i v3), some (pm_r 60 0), u5] (mm x R Z Y o A c G g))) rfl (g_ok (f := 0) (by decide) rfl)
set_option maxRecDepth 20000 in
theorem b142_10 (hR : RS R) {u0 : Option pm_V} {u1 : Option pm_V} {u2 : Option pm_V} {u3 : Option pm_V} {u5 : Option pm_V} {vs0 : Int32} {vs1 : Int32} {j1 : Nat} (e1 : vs1 = nI j1) (l1 : j1 < 1)  (k : Q (.inl (some (pm_i (nI 0))), (mm x R Z Y vs0.toInt64 A c G g))) : pW ns d 142 10 [u0, u1, u2, u3, some (pm_r 60 0), u5] [pm_i vs0, pm_i vs1, pm_r 60 0] (mm x R Z Y o A c G g) Q := by
  refine pW_eq 2 (pc' := 12) (L' := [u0, u1, u2, u3, some (pm_r 60 0), u5]) (S' := []) (M' := (mm x R Z Y vs0.toInt64 A c G g)) (fun call n => ?_) ?_
  · refine Eq.trans (b := pm_g (mm x R Z Y o A c G g) 60 0 (pm_ix (vs1) 1 (fun jx => pm_go call ns d 142 n 12 [u0, u1, u2, u3, some (pm_r 60 0), u5] [] (mA Z A G, pm_u (mB Y o c g) 60 0 jx vs0.toInt64, R, pm_tot, x)))) rfl ?_
    refine (g_ok (f := 60) (by decide) rfl).trans ?_
    refine (ix_ok (j := j1) e1 l1 (by decide)).trans ?_
    exact (congrArg (fun z => pm_go call ns d 142 n 12 [u0, u1, u2, u3, some (pm_r 60 0), u5] [] (mA Z A G, z, R, pm_tot, x)) (uO1 l1))
  refine pW_ret 3 (fun call n => ?_) k
  rfl
set_option maxRecDepth 20000 in
theorem b142_17 (hR : RS R) {u0 : Option pm_V} {u1 : Option pm_V} {u2 : Option pm_V} {u3 : Option pm_V} {u4 : Option pm_V} {u5 : Option pm_V}   (k : Q (.inl (some (pm_i (nI 1))), (mm x R Z Y o A c G g))) : pW ns d 142 17 [u0, u1, u2, u3, u4, u5] [] (mm x R Z Y o A c G g) Q := by
  refine pW_ret 2 (fun call n => ?_) k
  rfl
set_option maxRecDepth 20000 in
theorem b142_21 (hR : RS R) {u0 : Option pm_V} {u1 : Option pm_V} {u2 : Option pm_V} {u3 : Option pm_V} {u4 : Option pm_V} {u5 : Option pm_V}   (k : Q (.inl (some (pm_i (nI 2))), (mm x R Z Y o A c G g))) : pW ns d 142 21 [u0, u1, u2, u3, u4, u5] [] (mm x R Z Y o A c G g) Q := by
  refine pW_ret 2 (fun call n => ?_) k
  rfl
/-! 143 JobLayerLaw.mask -/
set_option maxRecDepth 20000 in
theorem b143_0 (hR : RS R) {v1 : Int32} {v2 : Int32} {u4 : Option pm_V}  {x2 : Nat} {o2 : Int64} {A2 : Nat → Nat → Nat → Int32} {c2 : Nat → Int64} {G2 : Nat → Nat → Int32} {g2 : Nat → Int64} {y : Int32} (hE : pE ns d 13 [pm_r 0 0, pm_i v1, pm_i v2] (mm x R Z Y o A c G g) (.inl (some (pm_i y)), (mm x2 R Z Y o2 A2 c2 G2 g2))) (k : pW ns d 143 8 [some (pm_r 0 0), some (pm_i v1), some (pm_i v2), some (pm_r 60 0), u4] [pm_i y, pm_i (nI 0), pm_r 60 0] (mm x2 R Z Y o2 A2 c2 G2 g2) Q) : pW ns d 143 0 [some (pm_r 0 0), some (pm_i v1), some (pm_i v2), some (pm_r 60 0), u4] [] (mm x R Z Y o A c G g) Q := by
  refine pW_call (pc' := 5) (r := [pm_i (nI 0), pm_r 60 0]) (L' := [some (pm_r 0 0), some (pm_i v1), some (pm_i v2), some (pm_r 60 0), u4]) 6 (fun call n => ?_) hE k
  exact Eq.trans (b := pm_g (mm x R Z Y o A c G g) 0 0 (pm_cl call 143 (pm_go call ns d 143 n) 5 13 [pm_r 0 0, pm_i v1, pm_i v2] [pm_i (nI 0), pm_r 60 0] [some (pm_r 0 0), some (pm_i v1), some (pm_i v2), some (pm_r 60 0), u4] (mm x R Z Y o A c G g))) rfl (g_ok (f := 0) (by decide) rfl)
set_option maxRecDepth 20000 in
theorem b143_0h0 (hR : RS R) {v1 : Int32} {v2 : Int32} {u4 : Option pm_V}  {x2 : Nat} {o2 : Int64} {A2 : Nat → Nat → Nat → Int32} {c2 : Nat → Int64} {G2 : Nat → Nat → Int32} {g2 : Nat → Int64} (hE : pE ns d 13 [pm_r 0 0, pm_i v1, pm_i v2] (mm x R Z Y o A c G g) (.inr 0, (mm x2 R Z Y o2 A2 c2 G2 g2))) (k : pW ns d 143 15 [some (pm_r 0 0), some (pm_i v1), some (pm_i v2), some (pm_r 60 0), none] [] (mm x2 R Z Y o2 A2 c2 G2 g2) Q) : pW ns d 143 0 [some (pm_r 0 0), some (pm_i v1), some (pm_i v2), some (pm_r 60 0), u4] [] (mm x R Z Y o A c G g) Q := by
  refine pW_callh (pc' := 5) (r := [pm_i (nI 0), pm_r 60 0]) (L' := [some (pm_r 0 0), some (pm_i v1), some (pm_i v2), some (pm_r 60 0), u4]) 6 (fun call n => ?_) hE (fun _ => rfl) k
  exact Eq.trans (b := pm_g (mm x R Z Y o A c G g) 0 0 (pm_cl call 143 (pm_go call ns d 143 n) 5 13 [pm_r 0 0, pm_i v1, pm_i v2] [pm_i (nI 0), pm_r 60 0] [some (pm_r 0 0), some (pm_i v1), some (pm_i v2), some (pm_r 60 0), u4] (mm x R Z Y o A c G g))) rfl (g_ok (f := 0) (by decide) rfl)
set_option maxRecDepth 20000 in
theorem b143_8 (hR : RS R) {u0 : Option pm_V} {u1 : Option pm_V} {u2 : Option pm_V} {u4 : Option pm_V} {vs0 : Int32} {vs1 : Int32} {j1 : Nat} (e1 : vs1 = nI j1) (l1 : j1 < 1)  (k : Q (.inl (some (pm_i (nI 0))), (mm x R Z Y vs0.toInt64 A c G g))) : pW ns d 143 8 [u0, u1, u2, some (pm_r 60 0), u4] [pm_i vs0, pm_i vs1, pm_r 60 0] (mm x R Z Y o A c G g) Q := by
  refine pW_eq 2 (pc' := 10) (L' := [u0, u1, u2, some (pm_r 60 0), u4]) (S' := []) (M' := (mm x R Z Y vs0.toInt64 A c G g)) (fun call n => ?_) ?_
  · refine Eq.trans (b := pm_g (mm x R Z Y o A c G g) 60 0 (pm_ix (vs1) 1 (fun jx => pm_go call ns d 143 n 10 [u0, u1, u2, some (pm_r 60 0), u4] [] (mA Z A G, pm_u (mB Y o c g) 60 0 jx vs0.toInt64, R, pm_tot, x)))) rfl ?_
    refine (g_ok (f := 60) (by decide) rfl).trans ?_
    refine (ix_ok (j := j1) e1 l1 (by decide)).trans ?_
    exact (congrArg (fun z => pm_go call ns d 143 n 10 [u0, u1, u2, some (pm_r 60 0), u4] [] (mA Z A G, z, R, pm_tot, x)) (uO1 l1))
  refine pW_ret 3 (fun call n => ?_) k
  rfl
set_option maxRecDepth 20000 in
theorem b143_15 (hR : RS R) {u0 : Option pm_V} {u1 : Option pm_V} {u2 : Option pm_V} {u3 : Option pm_V} {u4 : Option pm_V}   (k : Q (.inl (some (pm_i (nI 1))), (mm x R Z Y o A c G g))) : pW ns d 143 15 [u0, u1, u2, u3, u4] [] (mm x R Z Y o A c G g) Q := by
  refine pW_ret 2 (fun call n => ?_) k
  rfl
/-! 144 JobLayerLaw.group -/
set_option maxRecDepth 20000 in
theorem b144_0 (hR : RS R) {v1 : Int32} {v2 : Int32} {v3 : Int32} {u5 : Option pm_V}  {x2 : Nat} {o2 : Int64} {A2 : Nat → Nat → Nat → Int32} {c2 : Nat → Int64} {G2 : Nat → Nat → Int32} {g2 : Nat → Int64} {y : Int32} (hE : pE ns d 14 [pm_r 0 0, pm_i v1, pm_i v2, pm_i v3] (mm x R Z Y o A c G g) (.inl (some (pm_i y)), (mm x2 R Z Y o2 A2 c2 G2 g2))) (k : pW ns d 144 10 [some (pm_r 0 0), some (pm_i v1), some (pm_i v2), some (pm_i v3), some (pm_r 60 0), u5] [pm_i y, pm_i (nI 0), pm_r 60 0] (mm x2 R Z Y o2 A2 c2 G2 g2) Q) : pW ns d 144 0 [some (pm_r 0 0), some (pm_i v1), some (pm_i v2), some (pm_i v3), some (pm_r 60 0), u5] [] (mm x R Z Y o A c G g) Q := by
  refine pW_call (pc' := 7) (r := [pm_i (nI 0), pm_r 60 0]) (L' := [some (pm_r 0 0), some (pm_i v1), some (pm_i v2), some (pm_i v3), some (pm_r 60 0), u5]) 7 (fun call n => ?_) hE k
  exact Eq.trans (b := pm_g (mm x R Z Y o A c G g) 0 0 (pm_cl call 144 (pm_go call ns d 144 n) 7 14 [pm_r 0 0, pm_i v1, pm_i v2, pm_i v3] [pm_i (nI 0), pm_r 60 0] [some (pm_r 0 0), some (pm_i v1), some (pm_i v2), some (pm_i v3), some (pm_r 60 0), u5] (mm x R Z Y o A c G g))) rfl (g_ok (f := 0) (by decide) rfl)
set_option maxRecDepth 20000 in
theorem b144_0h0 (hR : RS R) {v1 : Int32} {v2 : Int32} {v3 : Int32} {u5 : Option pm_V}  {x2 : Nat} {o2 : Int64} {A2 : Nat → Nat → Nat → Int32} {c2 : Nat → Int64} {G2 : Nat → Nat → Int32} {g2 : Nat → Int64} (hE : pE ns d 14 [pm_r 0 0, pm_i v1, pm_i v2, pm_i v3] (mm x R Z Y o A c G g) (.inr 0, (mm x2 R Z Y o2 A2 c2 G2 g2))) (k : pW ns d 144 17 [some (pm_r 0 0), some (pm_i v1), some (pm_i v2), some (pm_i v3), some (pm_r 60 0), none] [] (mm x2 R Z Y o2 A2 c2 G2 g2) Q) : pW ns d 144 0 [some (pm_r 0 0), some (pm_i v1), some (pm_i v2), some (pm_i v3), some (pm_r 60 0), u5] [] (mm x R Z Y o A c G g) Q := by
  refine pW_callh (pc' := 7) (r := [pm_i (nI 0), pm_r 60 0]) (L' := [some (pm_r 0 0), some (pm_i v1), some (pm_i v2), some (pm_i v3), some (pm_r 60 0), u5]) 7 (fun call n => ?_) hE (fun _ => rfl) k
  exact Eq.trans (b := pm_g (mm x R Z Y o A c G g) 0 0 (pm_cl call 144 (pm_go call ns d 144 n) 7 14 [pm_r 0 0, pm_i v1, pm_i v2, pm_i v3] [pm_i (nI 0), pm_r 60 0] [some (pm_r 0 0), some (pm_i v1), some (pm_i v2), some (pm_i v3), some (pm_r 60 0), u5] (mm x R Z Y o A c G g))) rfl (g_ok (f := 0) (by decide) rfl)
set_option maxRecDepth 20000 in
theorem b144_10 (hR : RS R) {u0 : Option pm_V} {u1 : Option pm_V} {u2 : Option pm_V} {u3 : Option pm_V} {u5 : Option pm_V} {vs0 : Int32} {vs1 : Int32} {j1 : Nat} (e1 : vs1 = nI j1) (l1 : j1 < 1)  (k : Q (.inl (some (pm_i (nI 0))), (mm x R Z Y vs0.toInt64 A c G g))) : pW ns d 144 10 [u0, u1, u2, u3, some (pm_r 60 0), u5] [pm_i vs0, pm_i vs1, pm_r 60 0] (mm x R Z Y o A c G g) Q := by
  refine pW_eq 2 (pc' := 12) (L' := [u0, u1, u2, u3, some (pm_r 60 0), u5]) (S' := []) (M' := (mm x R Z Y vs0.toInt64 A c G g)) (fun call n => ?_) ?_
  · refine Eq.trans (b := pm_g (mm x R Z Y o A c G g) 60 0 (pm_ix (vs1) 1 (fun jx => pm_go call ns d 144 n 12 [u0, u1, u2, u3, some (pm_r 60 0), u5] [] (mA Z A G, pm_u (mB Y o c g) 60 0 jx vs0.toInt64, R, pm_tot, x)))) rfl ?_
    refine (g_ok (f := 60) (by decide) rfl).trans ?_
    refine (ix_ok (j := j1) e1 l1 (by decide)).trans ?_
    exact (congrArg (fun z => pm_go call ns d 144 n 12 [u0, u1, u2, u3, some (pm_r 60 0), u5] [] (mA Z A G, z, R, pm_tot, x)) (uO1 l1))
  refine pW_ret 3 (fun call n => ?_) k
  rfl
set_option maxRecDepth 20000 in
theorem b144_17 (hR : RS R) {u0 : Option pm_V} {u1 : Option pm_V} {u2 : Option pm_V} {u3 : Option pm_V} {u4 : Option pm_V} {u5 : Option pm_V}   (k : Q (.inl (some (pm_i (nI 1))), (mm x R Z Y o A c G g))) : pW ns d 144 17 [u0, u1, u2, u3, u4, u5] [] (mm x R Z Y o A c G g) Q := by
  refine pW_ret 2 (fun call n => ?_) k
  rfl
/-! 145 JobLayerLaw.foreground -/
set_option maxRecDepth 20000 in
theorem b145_0 (hR : RS R) {v1 : Int32} {v2 : Int32} {u4 : Option pm_V}  {x2 : Nat} {o2 : Int64} {A2 : Nat → Nat → Nat → Int32} {c2 : Nat → Int64} {G2 : Nat → Nat → Int32} {g2 : Nat → Int64} {y : Int32} (hE : pE ns d 15 [pm_r 0 0, pm_i v1, pm_i v2] (mm x R Z Y o A c G g) (.inl (some (pm_i y)), (mm x2 R Z Y o2 A2 c2 G2 g2))) (k : pW ns d 145 8 [some (pm_r 0 0), some (pm_i v1), some (pm_i v2), some (pm_r 60 0), u4] [pm_i y, pm_i (nI 0), pm_r 60 0] (mm x2 R Z Y o2 A2 c2 G2 g2) Q) : pW ns d 145 0 [some (pm_r 0 0), some (pm_i v1), some (pm_i v2), some (pm_r 60 0), u4] [] (mm x R Z Y o A c G g) Q := by
  refine pW_call (pc' := 5) (r := [pm_i (nI 0), pm_r 60 0]) (L' := [some (pm_r 0 0), some (pm_i v1), some (pm_i v2), some (pm_r 60 0), u4]) 6 (fun call n => ?_) hE k
  exact Eq.trans (b := pm_g (mm x R Z Y o A c G g) 0 0 (pm_cl call 145 (pm_go call ns d 145 n) 5 15 [pm_r 0 0, pm_i v1, pm_i v2] [pm_i (nI 0), pm_r 60 0] [some (pm_r 0 0), some (pm_i v1), some (pm_i v2), some (pm_r 60 0), u4] (mm x R Z Y o A c G g))) rfl (g_ok (f := 0) (by decide) rfl)
set_option maxRecDepth 20000 in
theorem b145_0h0 (hR : RS R) {v1 : Int32} {v2 : Int32} {u4 : Option pm_V}  {x2 : Nat} {o2 : Int64} {A2 : Nat → Nat → Nat → Int32} {c2 : Nat → Int64} {G2 : Nat → Nat → Int32} {g2 : Nat → Int64} (hE : pE ns d 15 [pm_r 0 0, pm_i v1, pm_i v2] (mm x R Z Y o A c G g) (.inr 0, (mm x2 R Z Y o2 A2 c2 G2 g2))) (k : pW ns d 145 15 [some (pm_r 0 0), some (pm_i v1), some (pm_i v2), some (pm_r 60 0), none] [] (mm x2 R Z Y o2 A2 c2 G2 g2) Q) : pW ns d 145 0 [some (pm_r 0 0), some (pm_i v1), some (pm_i v2), some (pm_r 60 0), u4] [] (mm x R Z Y o A c G g) Q := by
  refine pW_callh (pc' := 5) (r := [pm_i (nI 0), pm_r 60 0]) (L' := [some (pm_r 0 0), some (pm_i v1), some (pm_i v2), some (pm_r 60 0), u4]) 6 (fun call n => ?_) hE (fun _ => rfl) k
  exact Eq.trans (b := pm_g (mm x R Z Y o A c G g) 0 0 (pm_cl call 145 (pm_go call ns d 145 n) 5 15 [pm_r 0 0, pm_i v1, pm_i v2] [pm_i (nI 0), pm_r 60 0] [some (pm_r 0 0), some (pm_i v1), some (pm_i v2), some (pm_r 60 0), u4] (mm x R Z Y o A c G g))) rfl (g_ok (f := 0) (by decide) rfl)
set_option maxRecDepth 20000 in
theorem b145_8 (hR : RS R) {u0 : Option pm_V} {u1 : Option pm_V} {u2 : Option pm_V} {u4 : Option pm_V} {vs0 : Int32} {vs1 : Int32} {j1 : Nat} (e1 : vs1 = nI j1) (l1 : j1 < 1)  (k : Q (.inl (some (pm_i (nI 0))), (mm x R Z Y vs0.toInt64 A c G g))) : pW ns d 145 8 [u0, u1, u2, some (pm_r 60 0), u4] [pm_i vs0, pm_i vs1, pm_r 60 0] (mm x R Z Y o A c G g) Q := by
  refine pW_eq 2 (pc' := 10) (L' := [u0, u1, u2, some (pm_r 60 0), u4]) (S' := []) (M' := (mm x R Z Y vs0.toInt64 A c G g)) (fun call n => ?_) ?_
  · refine Eq.trans (b := pm_g (mm x R Z Y o A c G g) 60 0 (pm_ix (vs1) 1 (fun jx => pm_go call ns d 145 n 10 [u0, u1, u2, some (pm_r 60 0), u4] [] (mA Z A G, pm_u (mB Y o c g) 60 0 jx vs0.toInt64, R, pm_tot, x)))) rfl ?_
    refine (g_ok (f := 60) (by decide) rfl).trans ?_
    refine (ix_ok (j := j1) e1 l1 (by decide)).trans ?_
    exact (congrArg (fun z => pm_go call ns d 145 n 10 [u0, u1, u2, some (pm_r 60 0), u4] [] (mA Z A G, z, R, pm_tot, x)) (uO1 l1))
  refine pW_ret 3 (fun call n => ?_) k
  rfl
set_option maxRecDepth 20000 in
theorem b145_15 (hR : RS R) {u0 : Option pm_V} {u1 : Option pm_V} {u2 : Option pm_V} {u3 : Option pm_V} {u4 : Option pm_V}   (k : Q (.inl (some (pm_i (nI 1))), (mm x R Z Y o A c G g))) : pW ns d 145 15 [u0, u1, u2, u3, u4] [] (mm x R Z Y o A c G g) Q := by
  refine pW_ret 2 (fun call n => ?_) k
  rfl
end BLK
