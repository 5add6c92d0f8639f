/-! @70.wp@ blocks, printed by program (wip/whole/gen/blk.py) -/
section BLK
variable {ns d x : Nat} {R : Nat → Nat → Nat → Option (Nat × Nat)} {Z A : Nat → Nat → Nat → Int32} {Y : Nat → Nat → Nat → Int64} {o : Int64} {c g : Nat → Int64} {G : Nat → Nat → Int32} {Q : pm_O × pm_M → Prop}
/-! 37 JobLayer.settle -/
set_option maxRecDepth 20000 in
theorem b37_0 (hR : RS R) {u1 : Option pm_V} {u2 : Option pm_V} {u3 : Option pm_V} {u4 : Option pm_V}   (k : pW ns d 37 4 [some (pm_r 0 0), some (pm_i (nI 0)), some (pm_i (nI 0)), u3, u4] [] (mm x R Z Y o A c G g) Q) : pW ns d 37 0 [some (pm_r 0 0), u1, u2, u3, u4] [] (mm x R Z Y o A c G g) Q := by
  exact pW_eq 4 (fun call n => rfl) k
set_option maxRecDepth 20000 in
theorem b37_4 (hR : RS R) {v1 : Int32} {v2 : Int32} {u3 : Option pm_V} {u4 : Option pm_V}   (k1 : nI 1000 ≤ v2 → pW ns d 37 62 [some (pm_r 0 0), some (pm_i v1), some (pm_i v2), u3, u4] [] (mm x R Z Y o A c G g) Q) (k2 : ¬ (nI 1000 ≤ v2) → pW ns d 37 11 [some (pm_r 0 0), some (pm_i v1), some (pm_i v2), u3, u4] [] (mm x R Z Y o A c G g) Q) : pW ns d 37 4 [some (pm_r 0 0), some (pm_i v1), some (pm_i v2), u3, u4] [] (mm x R Z Y o A c G g) Q := by
  exact pW_if 3 (c := nI 1000 ≤ v2) (fun call n => rfl) k1 k2
set_option maxRecDepth 20000 in
theorem b37_62 (hR : RS R) {u0 : Option pm_V} {u1 : Option pm_V} {u2 : Option pm_V} {u3 : Option pm_V} {u4 : Option pm_V}   (k : Q (.inl none, (mm x R Z Y o A c G g))) : pW ns d 37 62 [u0, u1, u2, u3, u4] [] (mm x R Z Y o A c G g) Q := by
  refine pW_ret 1 (fun call n => ?_) k
  rfl
set_option maxRecDepth 20000 in
theorem b37_11 (hR : RS R) {v1 : Int32} {v2 : Int32} {u3 : Option pm_V} {u4 : Option pm_V}  {x2 : Nat} {o2 : Int64} {A2 : Nat → Nat → Nat → Int32} {c2 : Nat → Int64} {G2 : Nat → Nat → Int32} {g2 : Nat → Int64} {j : Nat} (hE : pE ns d 38 [pm_r 0 0, pm_i v1] (mm x R Z Y o A c G g) (.inl (some (pm_r 8 j)), (mm x2 R Z Y o2 A2 c2 G2 g2))) (k : pW ns d 37 16 [some (pm_r 0 0), some (pm_i v1), some (pm_i v2), u3, u4] [pm_r 8 j] (mm x2 R Z Y o2 A2 c2 G2 g2) Q) : pW ns d 37 11 [some (pm_r 0 0), some (pm_i v1), some (pm_i v2), u3, u4] [] (mm x R Z Y o A c G g) Q := by
  refine pW_call (pc' := 13) (r := []) (L' := [some (pm_r 0 0), some (pm_i v1), some (pm_i v2), u3, u4]) 3 (fun call n => ?_) hE k
  exact Eq.trans (b := pm_g (mm x R Z Y o A c G g) 0 0 (pm_cl call 37 (pm_go call ns d 37 n) 13 38 [pm_r 0 0, pm_i v1] [] [some (pm_r 0 0), some (pm_i v1), some (pm_i v2), u3, u4] (mm x R Z Y o A c G g))) rfl (g_ok (f := 0) (by decide) rfl)
set_option maxRecDepth 20000 in
theorem b37_11n (hR : RS R) {v1 : Int32} {v2 : Int32} {u3 : Option pm_V} {u4 : Option pm_V}  {x2 : Nat} {o2 : Int64} {A2 : Nat → Nat → Nat → Int32} {c2 : Nat → Int64} {G2 : Nat → Nat → Int32} {g2 : Nat → Int64}  (hE : pE ns d 38 [pm_r 0 0, pm_i v1] (mm x R Z Y o A c G g) (.inl (some (pm_a none)), (mm x2 R Z Y o2 A2 c2 G2 g2))) (k : pW ns d 37 16 [some (pm_r 0 0), some (pm_i v1), some (pm_i v2), u3, u4] [pm_a none] (mm x2 R Z Y o2 A2 c2 G2 g2) Q) : pW ns d 37 11 [some (pm_r 0 0), some (pm_i v1), some (pm_i v2), u3, u4] [] (mm x R Z Y o A c G g) Q := by
  refine pW_call (pc' := 13) (r := []) (L' := [some (pm_r 0 0), some (pm_i v1), some (pm_i v2), u3, u4]) 3 (fun call n => ?_) hE k
  exact Eq.trans (b := pm_g (mm x R Z Y o A c G g) 0 0 (pm_cl call 37 (pm_go call ns d 37 n) 13 38 [pm_r 0 0, pm_i v1] [] [some (pm_r 0 0), some (pm_i v1), some (pm_i v2), u3, u4] (mm x R Z Y o A c G g))) rfl (g_ok (f := 0) (by decide) rfl)
set_option maxRecDepth 20000 in
theorem b37_16 (hR : RS R) {u1 : Option pm_V} {v2 : Int32} {u3 : Option pm_V} {u4 : Option pm_V} {is0 : Nat} (qs0 : is0 < 8) {x2 : Nat} {o2 : Int64} {A2 : Nat → Nat → Nat → Int32} {c2 : Nat → Int64} {G2 : Nat → Nat → Int32} {g2 : Nat → Int64} {y : Int32} (hE : pE ns d 40 [pm_r 0 0, pm_r 8 is0] (mm x R Z Y o A c G g) (.inl (some (pm_i y)), (mm x2 R Z Y o2 A2 c2 G2 g2))) (k : pW ns d 37 27 [some (pm_r 0 0), u1, some (pm_i v2), some (pm_r 8 is0), u4] [pm_i y] (mm x2 R Z Y o2 A2 c2 G2 g2) Q) : pW ns d 37 16 [some (pm_r 0 0), u1, some (pm_i v2), u3, u4] [pm_r 8 is0] (mm x R Z Y o A c G g) Q := by
  refine pW_call (pc' := 24) (r := []) (L' := [some (pm_r 0 0), u1, some (pm_i v2), some (pm_r 8 is0), u4]) 6 (fun call n => ?_) hE k
  exact Eq.trans (b := pm_g (mm x R Z Y o A c G g) 0 0 (pm_cl call 37 (pm_go call ns d 37 n) 24 40 [pm_r 0 0, pm_r 8 is0] [] [some (pm_r 0 0), u1, some (pm_i v2), some (pm_r 8 is0), u4] (mm x R Z Y o A c G g))) rfl (g_ok (f := 0) (by decide) rfl)
set_option maxRecDepth 20000 in
theorem b37_16a (hR : RS R) {u1 : Option pm_V} {v2 : Int32} {u3 : Option pm_V} {u4 : Option pm_V}   (k : Q (.inl none, (mm x R Z Y o A c G g))) : pW ns d 37 16 [some (pm_r 0 0), u1, some (pm_i v2), u3, u4] [pm_a none] (mm x R Z Y o A c G g) Q := by
  refine pW_ret 4 (fun call n => ?_) k
  rfl
set_option maxRecDepth 20000 in
theorem b37_27 (hR : RS R) {u1 : Option pm_V} {v2 : Int32} {i3 : Nat} {u4 : Option pm_V} {vs0 : Int32} (q3 : i3 < 8)  (k1 : vs0 = -nI 9 → pW ns d 37 36 [some (pm_r 0 0), u1, some (pm_i v2), some (pm_r 8 i3), some (pm_i vs0)] [] (mm x R Z Y o A c G g) Q) (k2 : ¬ (vs0 = -nI 9) → pW ns d 37 47 [some (pm_r 0 0), u1, some (pm_i v2), some (pm_r 8 i3), some (pm_i vs0)] [] (mm x R Z Y o A c G g) Q) : pW ns d 37 27 [some (pm_r 0 0), u1, some (pm_i v2), some (pm_r 8 i3), u4] [pm_i vs0] (mm x R Z Y o A c G g) Q := by
  exact pW_if 4 (c := vs0 = -nI 9) (fun call n => rfl) k1 k2
set_option maxRecDepth 20000 in
theorem b37_36 (hR : RS R) {u1 : Option pm_V} {v2 : Int32} {i3 : Nat} {u4 : Option pm_V} (q3 : i3 < 8)  (k : pW ns d 37 4 [some (pm_r 0 0), some (pm_i (A 13 i3 5)), some (pm_i (v2 + (nI 1))), some (pm_r 8 i3), u4] [] (mm x R Z Y o A c G g) Q) : pW ns d 37 36 [some (pm_r 0 0), u1, some (pm_i v2), some (pm_r 8 i3), u4] [] (mm x R Z Y o A c G g) Q := by
  refine pW_eq 2 (pc' := 40) (L' := [some (pm_r 0 0), u1, some (pm_i v2), some (pm_r 8 i3), u4]) (S' := [pm_r 13 i3]) (M' := (mm x R Z Y o A c G g)) (fun call n => ?_) ?_
  · refine Eq.trans (b := pm_g (mm x R Z Y o A c G g) 8 i3 (pm_go call ns d 37 n 40 [some (pm_r 0 0), u1, some (pm_i v2), some (pm_r 8 i3), u4] [pm_a (R 8 i3 5)] (mm x R Z Y o A c G g))) rfl ?_
    refine (g_ok (f := 8) q3 rfl).trans ?_
    exact (congrArg (fun z => pm_go call ns d 37 n 40 [some (pm_r 0 0), u1, some (pm_i v2), some (pm_r 8 i3), u4] [pm_a z] (mm x R Z Y o A c G g)) (rs_8_5 hR q3))
  refine pW_eq 1 (pc' := 43) (L' := [some (pm_r 0 0), u1, some (pm_i v2), some (pm_r 8 i3), u4]) (S' := [pm_i (A 13 i3 5)]) (M' := (mm x R Z Y o A c G g)) (fun call n => ?_) ?_
  · refine Eq.trans (b := pm_g (mm x R Z Y o A c G g) 13 i3 (pm_go call ns d 37 n 43 [some (pm_r 0 0), u1, some (pm_i v2), some (pm_r 8 i3), u4] [pm_i (A 13 i3 5)] (mm x R Z Y o A c G g))) rfl ?_
    refine (g_ok (f := 13) q3 rfl).trans ?_
    rfl
  exact pW_eq 4 (fun call n => rfl) k
set_option maxRecDepth 20000 in
theorem b37_47 (hR : RS R) {u1 : Option pm_V} {v2 : Int32} {i3 : Nat} {v4 : Int32} (q3 : i3 < 8) {x2 : Nat} {o2 : Int64} {A2 : Nat → Nat → Nat → Int32} {c2 : Nat → Int64} {G2 : Nat → Nat → Int32} {g2 : Nat → Int64}  (hE : pE ns d 39 [pm_r 0 0, pm_r 8 i3, pm_i v4] (mm x R Z Y o A c G g) (.inl (none), (mm x2 R Z Y o2 A2 c2 G2 g2))) (k : pW ns d 37 54 [some (pm_r 0 0), u1, some (pm_i v2), some (pm_r 8 i3), some (pm_i v4)] [] (mm x2 R Z Y o2 A2 c2 G2 g2) Q) : pW ns d 37 47 [some (pm_r 0 0), u1, some (pm_i v2), some (pm_r 8 i3), some (pm_i v4)] [] (mm x R Z Y o A c G g) Q := by
  refine pW_call (pc' := 51) (r := []) (L' := [some (pm_r 0 0), u1, some (pm_i v2), some (pm_r 8 i3), some (pm_i v4)]) 4 (fun call n => ?_) hE k
  exact Eq.trans (b := pm_g (mm x R Z Y o A c G g) 0 0 (pm_cl call 37 (pm_go call ns d 37 n) 51 39 [pm_r 0 0, pm_r 8 i3, pm_i v4] [] [some (pm_r 0 0), u1, some (pm_i v2), some (pm_r 8 i3), some (pm_i v4)] (mm x R Z Y o A c G g))) rfl (g_ok (f := 0) (by decide) rfl)
set_option maxRecDepth 20000 in
theorem b37_54 (hR : RS R) {u1 : Option pm_V} {v2 : Int32} {u3 : Option pm_V} {u4 : Option pm_V}   (k : pW ns d 37 4 [some (pm_r 0 0), some (pm_i (nI 0)), some (pm_i (v2 + (nI 1))), u3, u4] [] (mm x R Z Y o A c G g) Q) : pW ns d 37 54 [some (pm_r 0 0), u1, some (pm_i v2), u3, u4] [] (mm x R Z Y o A c G g) Q := by
  exact pW_eq 4 (fun call n => rfl) k
set_option maxRecDepth 20000 in
theorem t37_4 (hR : RS R) {v1 : Int32} {v2 : Int32} {u3 : Option pm_V} {u4 : Option pm_V}  (k1 : (nI 1000 ≤ v2) → Q (.inl none, (mm x R Z Y o A c G g))) (k2 : (¬ (nI 1000 ≤ v2)) → pW ns d 37 11 [some (pm_r 0 0), some (pm_i v1), some (pm_i v2), u3, u4] [] (mm x R Z Y o A c G g) Q) : pW ns d 37 4 [some (pm_r 0 0), some (pm_i v1), some (pm_i v2), u3, u4] [] (mm x R Z Y o A c G g) Q := by
  refine b37_4 hR  (fun h1 => ?_) (fun h1 => ?_)
  · skip
    exact b37_62 hR   (k1 h1)
  · skip
    exact (k2 h1)
set_option maxRecDepth 20000 in
theorem t37_27 (hR : RS R) {u1 : Option pm_V} {v2 : Int32} {i3 : Nat} {u4 : Option pm_V} {vs0 : Int32} (q3 : i3 < 8) (k1 : (vs0 = -nI 9) → pW ns d 37 4 [some (pm_r 0 0), some (pm_i (A 13 i3 5)), some (pm_i (v2 + (nI 1))), some (pm_r 8 i3), some (pm_i vs0)] [] (mm x R Z Y o A c G g) Q) (k2 : (¬ (vs0 = -nI 9)) → pW ns d 37 47 [some (pm_r 0 0), u1, some (pm_i v2), some (pm_r 8 i3), some (pm_i vs0)] [] (mm x R Z Y o A c G g) Q) : pW ns d 37 27 [some (pm_r 0 0), u1, some (pm_i v2), some (pm_r 8 i3), u4] [pm_i vs0] (mm x R Z Y o A c G g) Q := by
  refine b37_27 hR q3 (fun h1 => ?_) (fun h1 => ?_)
  · skip
    exact b37_36 hR q3  (k1 h1)
  · skip
    exact (k2 h1)
/-! 38 JobLayer.firstBlockedAfter -/
set_option maxRecDepth 20000 in
theorem b38_0 (hR : RS R) {v1 : Int32} {u2 : Option pm_V} {u3 : Option pm_V} {u4 : Option pm_V}   (k : pW ns d 38 4 [some (pm_r 0 0), some (pm_i v1), some (pm_a none), some (pm_i (nI 0)), u4] [] (mm x R Z Y o A c G g) Q) : pW ns d 38 0 [some (pm_r 0 0), some (pm_i v1), u2, u3, u4] [] (mm x R Z Y o A c G g) Q := by
  exact pW_eq 4 (fun call n => rfl) k
set_option maxRecDepth 20000 in
theorem b38_4 (hR : RS R) {v1 : Int32} {v3 : Int32} {u4 : Option pm_V}   (k1 : nI 8 ≤ v3 → pW ns d 38 70 [some (pm_r 0 0), some (pm_i v1), some (pm_a none), some (pm_i v3), u4] [] (mm x R Z Y o A c G g) Q) (k2 : ¬ (nI 8 ≤ v3) → pW ns d 38 10 [some (pm_r 0 0), some (pm_i v1), some (pm_a none), some (pm_i v3), u4] [] (mm x R Z Y o A c G g) Q) : pW ns d 38 4 [some (pm_r 0 0), some (pm_i v1), some (pm_a none), some (pm_i v3), u4] [] (mm x R Z Y o A c G g) Q := by
  exact pW_if 3 (c := nI 8 ≤ v3) (fun call n => rfl) k1 k2
set_option maxRecDepth 20000 in
theorem b38_70 (hR : RS R) {u0 : Option pm_V} {u1 : Option pm_V} {u3 : Option pm_V} {u4 : Option pm_V}   (k : Q (.inl (some (pm_a none)), (mm x R Z Y o A c G g))) : pW ns d 38 70 [u0, u1, some (pm_a none), u3, u4] [] (mm x R Z Y o A c G g) Q := by
  refine pW_ret 2 (fun call n => ?_) k
  rfl
set_option maxRecDepth 20000 in
theorem b38_10 (hR : RS R) {v1 : Int32} {v3 : Int32} {u4 : Option pm_V} {j1 : Nat} (e1 : v3 = nI j1) (l1 : j1 < 8)  (k1 : A 8 j1 6 = nI 2 → pW ns d 38 27 [some (pm_r 0 0), some (pm_i v1), some (pm_a none), some (pm_i v3), some (pm_r 8 j1)] [] (mm x R Z Y o A c G g) Q) (k2 : ¬ (A 8 j1 6 = nI 2) → pW ns d 38 64 [some (pm_r 0 0), some (pm_i v1), some (pm_a none), some (pm_i v3), some (pm_r 8 j1)] [] (mm x R Z Y o A c G g) Q) : pW ns d 38 10 [some (pm_r 0 0), some (pm_i v1), some (pm_a none), some (pm_i v3), u4] [] (mm x R Z Y o A c G g) Q := by
  refine pW_eq 2 (pc' := 14) (L' := [some (pm_r 0 0), some (pm_i v1), some (pm_a none), some (pm_i v3), u4]) (S' := [pm_r 1 0]) (M' := (mm x R Z Y o A c G g)) (fun call n => ?_) ?_
  · refine Eq.trans (b := pm_g (mm x R Z Y o A c G g) 0 0 (pm_go call ns d 38 n 14 [some (pm_r 0 0), some (pm_i v1), some (pm_a none), some (pm_i v3), u4] [pm_a (R 0 0 0)] (mm x R Z Y o A c G g))) rfl ?_
    refine (g_ok (f := 0) (by decide) rfl).trans ?_
    exact (congrArg (fun z => pm_go call ns d 38 n 14 [some (pm_r 0 0), some (pm_i v1), some (pm_a none), some (pm_i v3), u4] [pm_a z] (mm x R Z Y o A c G g)) (rs_0_0 hR))
  refine pW_eq 2 (pc' := 16) (L' := [some (pm_r 0 0), some (pm_i v1), some (pm_a none), some (pm_i v3), u4]) (S' := [pm_r 8 j1]) (M' := (mm x R Z Y o A c G g)) (fun call n => ?_) ?_
  · refine Eq.trans (b := pm_g (mm x R Z Y o A c G g) 1 0 (pm_ix (v3) 8 (fun jx => pm_go call ns d 38 n 16 [some (pm_r 0 0), some (pm_i v1), some (pm_a none), some (pm_i v3), u4] [pm_a (R 1 0 jx)] (mm x R Z Y o A c G g)))) rfl ?_
    refine (g_ok (f := 1) (by decide) rfl).trans ?_
    refine (ix_ok (j := j1) e1 l1 (by decide)).trans ?_
    exact (congrArg (fun z => pm_go call ns d 38 n 16 [some (pm_r 0 0), some (pm_i v1), some (pm_a none), some (pm_i v3), u4] [pm_a z] (mm x R Z Y o A c G g)) (rs_1 hR (k := j1) l1))
  refine pW_eq 3 (pc' := 23) (L' := [some (pm_r 0 0), some (pm_i v1), some (pm_a none), some (pm_i v3), some (pm_r 8 j1)]) (S' := [pm_i (A 8 j1 6)]) (M' := (mm x R Z Y o A c G g)) (fun call n => ?_) ?_
  · refine Eq.trans (b := pm_g (mm x R Z Y o A c G g) 8 j1 (pm_go call ns d 38 n 23 [some (pm_r 0 0), some (pm_i v1), some (pm_a none), some (pm_i v3), some (pm_r 8 j1)] [pm_i (A 8 j1 6)] (mm x R Z Y o A c G g))) rfl ?_
    refine (g_ok (f := 8) l1 rfl).trans ?_
    rfl
  exact pW_if 2 (c := A 8 j1 6 = nI 2) (fun call n => rfl) k1 k2
set_option maxRecDepth 20000 in
theorem b38_27 (hR : RS R) {v1 : Int32} {v3 : Int32} {i4 : Nat} (q4 : i4 < 8)  (k1 : A 13 i4 5 ≤ v1 → pW ns d 38 64 [some (pm_r 0 0), some (pm_i v1), some (pm_a none), some (pm_i v3), some (pm_r 8 i4)] [] (mm x R Z Y o A c G g) Q) (k2 : ¬ (A 13 i4 5 ≤ v1) → pW ns d 38 39 [some (pm_r 0 0), some (pm_i v1), some (pm_a none), some (pm_i v3), some (pm_r 8 i4)] [] (mm x R Z Y o A c G g) Q) : pW ns d 38 27 [some (pm_r 0 0), some (pm_i v1), some (pm_a none), some (pm_i v3), some (pm_r 8 i4)] [] (mm x R Z Y o A c G g) Q := by
  refine pW_eq 2 (pc' := 32) (L' := [some (pm_r 0 0), some (pm_i v1), some (pm_a none), some (pm_i v3), some (pm_r 8 i4)]) (S' := [pm_r 13 i4]) (M' := (mm x R Z Y o A c G g)) (fun call n => ?_) ?_
  · refine Eq.trans (b := pm_g (mm x R Z Y o A c G g) 8 i4 (pm_go call ns d 38 n 32 [some (pm_r 0 0), some (pm_i v1), some (pm_a none), some (pm_i v3), some (pm_r 8 i4)] [pm_a (R 8 i4 5)] (mm x R Z Y o A c G g))) rfl ?_
    refine (g_ok (f := 8) q4 rfl).trans ?_
    exact (congrArg (fun z => pm_go call ns d 38 n 32 [some (pm_r 0 0), some (pm_i v1), some (pm_a none), some (pm_i v3), some (pm_r 8 i4)] [pm_a z] (mm x R Z Y o A c G g)) (rs_8_5 hR q4))
  refine pW_eq 1 (pc' := 35) (L' := [some (pm_r 0 0), some (pm_i v1), some (pm_a none), some (pm_i v3), some (pm_r 8 i4)]) (S' := [pm_i (A 13 i4 5)]) (M' := (mm x R Z Y o A c G g)) (fun call n => ?_) ?_
  · refine Eq.trans (b := pm_g (mm x R Z Y o A c G g) 13 i4 (pm_go call ns d 38 n 35 [some (pm_r 0 0), some (pm_i v1), some (pm_a none), some (pm_i v3), some (pm_r 8 i4)] [pm_i (A 13 i4 5)] (mm x R Z Y o A c G g))) rfl ?_
    refine (g_ok (f := 13) q4 rfl).trans ?_
    rfl
  exact pW_if 2 (c := A 13 i4 5 ≤ v1) (fun call n => rfl) k1 k2
set_option maxRecDepth 20000 in
theorem b38_64 (hR : RS R) {v1 : Int32} {v3 : Int32} {u4 : Option pm_V}   (k : pW ns d 38 4 [some (pm_r 0 0), some (pm_i v1), some (pm_a none), some (pm_i (v3 + (nI 1))), u4] [] (mm x R Z Y o A c G g) Q) : pW ns d 38 64 [some (pm_r 0 0), some (pm_i v1), some (pm_a none), some (pm_i v3), u4] [] (mm x R Z Y o A c G g) Q := by
  exact pW_eq 2 (fun call n => rfl) k
set_option maxRecDepth 20000 in
theorem b38_39 (hR : RS R) {v1 : Int32} {v3 : Int32} {i4 : Nat} (q4 : i4 < 8)  (k : pW ns d 38 4 [some (pm_r 0 0), some (pm_i v1), some (pm_r 8 i4), some (pm_i (v3 + (nI 1))), some (pm_r 8 i4)] [] (mm x R Z Y o A c G g) Q) : pW ns d 38 39 [some (pm_r 0 0), some (pm_i v1), some (pm_a none), some (pm_i v3), some (pm_r 8 i4)] [] (mm x R Z Y o A c G g) Q := by
  exact pW_eq 6 (fun call n => rfl) k
set_option maxRecDepth 20000 in
theorem b38_4a (hR : RS R) {v1 : Int32} {i2 : Nat} {v3 : Int32} {u4 : Option pm_V} (q2 : i2 < 8)  (k1 : nI 8 ≤ v3 → pW ns d 38 70 [some (pm_r 0 0), some (pm_i v1), some (pm_r 8 i2), some (pm_i v3), u4] [] (mm x R Z Y o A c G g) Q) (k2 : ¬ (nI 8 ≤ v3) → pW ns d 38 10 [some (pm_r 0 0), some (pm_i v1), some (pm_r 8 i2), some (pm_i v3), u4] [] (mm x R Z Y o A c G g) Q) : pW ns d 38 4 [some (pm_r 0 0), some (pm_i v1), some (pm_r 8 i2), some (pm_i v3), u4] [] (mm x R Z Y o A c G g) Q := by
  exact pW_if 3 (c := nI 8 ≤ v3) (fun call n => rfl) k1 k2
set_option maxRecDepth 20000 in
theorem b38_70a (hR : RS R) {u0 : Option pm_V} {u1 : Option pm_V} {i2 : Nat} {u3 : Option pm_V} {u4 : Option pm_V} (q2 : i2 < 8)  (k : Q (.inl (some (pm_r 8 i2)), (mm x R Z Y o A c G g))) : pW ns d 38 70 [u0, u1, some (pm_r 8 i2), u3, u4] [] (mm x R Z Y o A c G g) Q := by
  refine pW_ret 2 (fun call n => ?_) k
  rfl
set_option maxRecDepth 20000 in
theorem b38_10a (hR : RS R) {v1 : Int32} {i2 : Nat} {v3 : Int32} {u4 : Option pm_V} {j1 : Nat} (q2 : i2 < 8) (e1 : v3 = nI j1) (l1 : j1 < 8)  (k1 : A 8 j1 6 = nI 2 → pW ns d 38 27 [some (pm_r 0 0), some (pm_i v1), some (pm_r 8 i2), some (pm_i v3), some (pm_r 8 j1)] [] (mm x R Z Y o A c G g) Q) (k2 : ¬ (A 8 j1 6 = nI 2) → pW ns d 38 64 [some (pm_r 0 0), some (pm_i v1), some (pm_r 8 i2), some (pm_i v3), some (pm_r 8 j1)] [] (mm x R Z Y o A c G g) Q) : pW ns d 38 10 [some (pm_r 0 0), some (pm_i v1), some (pm_r 8 i2), some (pm_i v3), u4] [] (mm x R Z Y o A c G g) Q := by
  refine pW_eq 2 (pc' := 14) (L' := [some (pm_r 0 0), some (pm_i v1), some (pm_r 8 i2), some (pm_i v3), u4]) (S' := [pm_r 1 0]) (M' := (mm x R Z Y o A c G g)) (fun call n => ?_) ?_
  · refine Eq.trans (b := pm_g (mm x R Z Y o A c G g) 0 0 (pm_go call ns d 38 n 14 [some (pm_r 0 0), some (pm_i v1), some (pm_r 8 i2), some (pm_i v3), u4] [pm_a (R 0 0 0)] (mm x R Z Y o A c G g))) rfl ?_
    refine (g_ok (f := 0) (by decide) rfl).trans ?_
    exact (congrArg (fun z => pm_go call ns d 38 n 14 [some (pm_r 0 0), some (pm_i v1), some (pm_r 8 i2), some (pm_i v3), u4] [pm_a z] (mm x R Z Y o A c G g)) (rs_0_0 hR))
  refine pW_eq 2 (pc' := 16) (L' := [some (pm_r 0 0), some (pm_i v1), some (pm_r 8 i2), some (pm_i v3), u4]) (S' := [pm_r 8 j1]) (M' := (mm x R Z Y o A c G g)) (fun call n => ?_) ?_
  · refine Eq.trans (b := pm_g (mm x R Z Y o A c G g) 1 0 (pm_ix (v3) 8 (fun jx => pm_go call ns d 38 n 16 [some (pm_r 0 0), some (pm_i v1), some (pm_r 8 i2), some (pm_i v3), u4] [pm_a (R 1 0 jx)] (mm x R Z Y o A c G g)))) rfl ?_
    refine (g_ok (f := 1) (by decide) rfl).trans ?_
    refine (ix_ok (j := j1) e1 l1 (by decide)).trans ?_
    exact (congrArg (fun z => pm_go call ns d 38 n 16 [some (pm_r 0 0), some (pm_i v1), some (pm_r 8 i2), some (pm_i v3), u4] [pm_a z] (mm x R Z Y o A c G g)) (rs_1 hR (k := j1) l1))
  refine pW_eq 3 (pc' := 23) (L' := [some (pm_r 0 0), some (pm_i v1), some (pm_r 8 i2), some (pm_i v3), some (pm_r 8 j1)]) (S' := [pm_i (A 8 j1 6)]) (M' := (mm x R Z Y o A c G g)) (fun call n => ?_) ?_
  · refine Eq.trans (b := pm_g (mm x R Z Y o A c G g) 8 j1 (pm_go call ns d 38 n 23 [some (pm_r 0 0), some (pm_i v1), some (pm_r 8 i2), some (pm_i v3), some (pm_r 8 j1)] [pm_i (A 8 j1 6)] (mm x R Z Y o A c G g))) rfl ?_
    refine (g_ok (f := 8) l1 rfl).trans ?_
    rfl
  exact pW_if 2 (c := A 8 j1 6 = nI 2) (fun call n => rfl) k1 k2
set_option maxRecDepth 20000 in
theorem b38_27a (hR : RS R) {v1 : Int32} {i2 : Nat} {v3 : Int32} {i4 : Nat} (q2 : i2 < 8) (q4 : i4 < 8)  (k1 : A 13 i4 5 ≤ v1 → pW ns d 38 64 [some (pm_r 0 0), some (pm_i v1), some (pm_r 8 i2), some (pm_i v3), some (pm_r 8 i4)] [] (mm x R Z Y o A c G g) Q) (k2 : ¬ (A 13 i4 5 ≤ v1) → pW ns d 38 39 [some (pm_r 0 0), some (pm_i v1), some (pm_r 8 i2), some (pm_i v3), some (pm_r 8 i4)] [] (mm x R Z Y o A c G g) Q) : pW ns d 38 27 [some (pm_r 0 0), some (pm_i v1), some (pm_r 8 i2), some (pm_i v3), some (pm_r 8 i4)] [] (mm x R Z Y o A c G g) Q := by
  refine pW_eq 2 (pc' := 32) (L' := [some (pm_r 0 0), some (pm_i v1), some (pm_r 8 i2), some (pm_i v3), some (pm_r 8 i4)]) (S' := [pm_r 13 i4]) (M' := (mm x R Z Y o A c G g)) (fun call n => ?_) ?_
  · refine Eq.trans (b := pm_g (mm x R Z Y o A c G g) 8 i4 (pm_go call ns d 38 n 32 [some (pm_r 0 0), some (pm_i v1), some (pm_r 8 i2), some (pm_i v3), some (pm_r 8 i4)] [pm_a (R 8 i4 5)] (mm x R Z Y o A c G g))) rfl ?_
    refine (g_ok (f := 8) q4 rfl).trans ?_
    exact (congrArg (fun z => pm_go call ns d 38 n 32 [some (pm_r 0 0), some (pm_i v1), some (pm_r 8 i2), some (pm_i v3), some (pm_r 8 i4)] [pm_a z] (mm x R Z Y o A c G g)) (rs_8_5 hR q4))
  refine pW_eq 1 (pc' := 35) (L' := [some (pm_r 0 0), some (pm_i v1), some (pm_r 8 i2), some (pm_i v3), some (pm_r 8 i4)]) (S' := [pm_i (A 13 i4 5)]) (M' := (mm x R Z Y o A c G g)) (fun call n => ?_) ?_
  · refine Eq.trans (b := pm_g (mm x R Z Y o A c G g) 13 i4 (pm_go call ns d 38 n 35 [some (pm_r 0 0), some (pm_i v1), some (pm_r 8 i2), some (pm_i v3), some (pm_r 8 i4)] [pm_i (A 13 i4 5)] (mm x R Z Y o A c G g))) rfl ?_
    refine (g_ok (f := 13) q4 rfl).trans ?_
    rfl
  exact pW_if 2 (c := A 13 i4 5 ≤ v1) (fun call n => rfl) k1 k2
set_option maxRecDepth 20000 in
theorem b38_64a (hR : RS R) {v1 : Int32} {i2 : Nat} {v3 : Int32} {u4 : Option pm_V} (q2 : i2 < 8)  (k : pW ns d 38 4 [some (pm_r 0 0), some (pm_i v1), some (pm_r 8 i2), some (pm_i (v3 + (nI 1))), u4] [] (mm x R Z Y o A c G g) Q) : pW ns d 38 64 [some (pm_r 0 0), some (pm_i v1), some (pm_r 8 i2), some (pm_i v3), u4] [] (mm x R Z Y o A c G g) Q := by
  exact pW_eq 2 (fun call n => rfl) k
set_option maxRecDepth 20000 in
theorem b38_39a (hR : RS R) {v1 : Int32} {i2 : Nat} {v3 : Int32} {i4 : Nat} (q2 : i2 < 8) (q4 : i4 < 8)  (k1 : A 13 i2 5 ≤ A 13 i4 5 → pW ns d 38 64 [some (pm_r 0 0), some (pm_i v1), some (pm_r 8 i2), some (pm_i v3), some (pm_r 8 i4)] [] (mm x R Z Y o A c G g) Q) (k2 : ¬ (A 13 i2 5 ≤ A 13 i4 5) → pW ns d 38 61 [some (pm_r 0 0), some (pm_i v1), some (pm_r 8 i2), some (pm_i v3), some (pm_r 8 i4)] [] (mm x R Z Y o A c G g) Q) : pW ns d 38 39 [some (pm_r 0 0), some (pm_i v1), some (pm_r 8 i2), some (pm_i v3), some (pm_r 8 i4)] [] (mm x R Z Y o A c G g) Q := by
  refine pW_eq 4 (pc' := 48) (L' := [some (pm_r 0 0), some (pm_i v1), some (pm_r 8 i2), some (pm_i v3), some (pm_r 8 i4)]) (S' := [pm_r 13 i4]) (M' := (mm x R Z Y o A c G g)) (fun call n => ?_) ?_
  · refine Eq.trans (b := pm_g (mm x R Z Y o A c G g) 8 i4 (pm_go call ns d 38 n 48 [some (pm_r 0 0), some (pm_i v1), some (pm_r 8 i2), some (pm_i v3), some (pm_r 8 i4)] [pm_a (R 8 i4 5)] (mm x R Z Y o A c G g))) rfl ?_
    refine (g_ok (f := 8) q4 rfl).trans ?_
    exact (congrArg (fun z => pm_go call ns d 38 n 48 [some (pm_r 0 0), some (pm_i v1), some (pm_r 8 i2), some (pm_i v3), some (pm_r 8 i4)] [pm_a z] (mm x R Z Y o A c G g)) (rs_8_5 hR q4))
  refine pW_eq 1 (pc' := 51) (L' := [some (pm_r 0 0), some (pm_i v1), some (pm_r 8 i2), some (pm_i v3), some (pm_r 8 i4)]) (S' := [pm_i (A 13 i4 5)]) (M' := (mm x R Z Y o A c G g)) (fun call n => ?_) ?_
  · refine Eq.trans (b := pm_g (mm x R Z Y o A c G g) 13 i4 (pm_go call ns d 38 n 51 [some (pm_r 0 0), some (pm_i v1), some (pm_r 8 i2), some (pm_i v3), some (pm_r 8 i4)] [pm_i (A 13 i4 5)] (mm x R Z Y o A c G g))) rfl ?_
    refine (g_ok (f := 13) q4 rfl).trans ?_
    rfl
  refine pW_eq 2 (pc' := 55) (L' := [some (pm_r 0 0), some (pm_i v1), some (pm_r 8 i2), some (pm_i v3), some (pm_r 8 i4)]) (S' := [pm_r 13 i2, pm_i (A 13 i4 5)]) (M' := (mm x R Z Y o A c G g)) (fun call n => ?_) ?_
  · refine Eq.trans (b := pm_g (mm x R Z Y o A c G g) 8 i2 (pm_go call ns d 38 n 55 [some (pm_r 0 0), some (pm_i v1), some (pm_r 8 i2), some (pm_i v3), some (pm_r 8 i4)] [pm_a (R 8 i2 5), pm_i (A 13 i4 5)] (mm x R Z Y o A c G g))) rfl ?_
    refine (g_ok (f := 8) q2 rfl).trans ?_
    exact (congrArg (fun z => pm_go call ns d 38 n 55 [some (pm_r 0 0), some (pm_i v1), some (pm_r 8 i2), some (pm_i v3), some (pm_r 8 i4)] [pm_a z, pm_i (A 13 i4 5)] (mm x R Z Y o A c G g)) (rs_8_5 hR q2))
  refine pW_eq 1 (pc' := 58) (L' := [some (pm_r 0 0), some (pm_i v1), some (pm_r 8 i2), some (pm_i v3), some (pm_r 8 i4)]) (S' := [pm_i (A 13 i2 5), pm_i (A 13 i4 5)]) (M' := (mm x R Z Y o A c G g)) (fun call n => ?_) ?_
  · refine Eq.trans (b := pm_g (mm x R Z Y o A c G g) 13 i2 (pm_go call ns d 38 n 58 [some (pm_r 0 0), some (pm_i v1), some (pm_r 8 i2), some (pm_i v3), some (pm_r 8 i4)] [pm_i (A 13 i2 5), pm_i (A 13 i4 5)] (mm x R Z Y o A c G g))) rfl ?_
    refine (g_ok (f := 13) q2 rfl).trans ?_
    rfl
  exact pW_if 1 (c := A 13 i2 5 ≤ A 13 i4 5) (fun call n => rfl) k1 k2
set_option maxRecDepth 20000 in
theorem b38_61 (hR : RS R) {v1 : Int32} {u2 : Option pm_V} {v3 : Int32} {i4 : Nat} (q4 : i4 < 8)  (k : pW ns d 38 4 [some (pm_r 0 0), some (pm_i v1), some (pm_r 8 i4), some (pm_i (v3 + (nI 1))), some (pm_r 8 i4)] [] (mm x R Z Y o A c G g) Q) : pW ns d 38 61 [some (pm_r 0 0), some (pm_i v1), u2, some (pm_i v3), some (pm_r 8 i4)] [] (mm x R Z Y o A c G g) Q := by
  exact pW_eq 4 (fun call n => rfl) k
set_option maxRecDepth 20000 in
theorem t38_4 (hR : RS R) {v1 : Int32} {v3 : Int32} {u4 : Option pm_V}  (k1 : (nI 8 ≤ v3) → Q (.inl (some (pm_a none)), (mm x R Z Y o A c G g))) (k2 : (¬ (nI 8 ≤ v3)) → pW ns d 38 10 [some (pm_r 0 0), some (pm_i v1), some (pm_a none), some (pm_i v3), u4] [] (mm x R Z Y o A c G g) Q) : pW ns d 38 4 [some (pm_r 0 0), some (pm_i v1), some (pm_a none), some (pm_i v3), u4] [] (mm x R Z Y o A c G g) Q := by
  refine b38_4 hR  (fun h1 => ?_) (fun h1 => ?_)
  · skip
    exact b38_70 hR   (k1 h1)
  · skip
    exact (k2 h1)
set_option maxRecDepth 20000 in
theorem t38_10 (hR : RS R) {v1 : Int32} {v3 : Int32} {u4 : Option pm_V} {j1 : Nat} (e1 : v3 = nI j1) (l1 : j1 < 8) (k1 : (A 8 j1 6 = nI 2) → (A 13 j1 5 ≤ v1) → pW ns d 38 4 [some (pm_r 0 0), some (pm_i v1), some (pm_a none), some (pm_i (v3 + (nI 1))), some (pm_r 8 j1)] [] (mm x R Z Y o A c G g) Q) (k2 : (A 8 j1 6 = nI 2) → (¬ (A 13 j1 5 ≤ v1)) → pW ns d 38 4 [some (pm_r 0 0), some (pm_i v1), some (pm_r 8 j1), some (pm_i (v3 + (nI 1))), some (pm_r 8 j1)] [] (mm x R Z Y o A c G g) Q) (k3 : (¬ (A 8 j1 6 = nI 2)) → pW ns d 38 4 [some (pm_r 0 0), some (pm_i v1), some (pm_a none), some (pm_i (v3 + (nI 1))), some (pm_r 8 j1)] [] (mm x R Z Y o A c G g) Q) : pW ns d 38 10 [some (pm_r 0 0), some (pm_i v1), some (pm_a none), some (pm_i v3), u4] [] (mm x R Z Y o A c G g) Q := by
  refine b38_10 hR e1 l1 (fun h1 => ?_) (fun h1 => ?_)
  · skip
    refine b38_27 hR l1  (fun h2 => ?_) (fun h2 => ?_)
    · skip
      exact b38_64 hR   (k1 h1 h2)
    · skip
      exact b38_39 hR l1  (k2 h1 h2)
  · skip
    exact b38_64 hR   (k3 h1)
set_option maxRecDepth 20000 in
theorem t38_27 (hR : RS R) {v1 : Int32} {v3 : Int32} {i4 : Nat} (q4 : i4 < 8) (k1 : (A 13 i4 5 ≤ v1) → pW ns d 38 4 [some (pm_r 0 0), some (pm_i v1), some (pm_a none), some (pm_i (v3 + (nI 1))), some (pm_r 8 i4)] [] (mm x R Z Y o A c G g) Q) (k2 : (¬ (A 13 i4 5 ≤ v1)) → pW ns d 38 4 [some (pm_r 0 0), some (pm_i v1), some (pm_r 8 i4), some (pm_i (v3 + (nI 1))), some (pm_r 8 i4)] [] (mm x R Z Y o A c G g) Q) : pW ns d 38 27 [some (pm_r 0 0), some (pm_i v1), some (pm_a none), some (pm_i v3), some (pm_r 8 i4)] [] (mm x R Z Y o A c G g) Q := by
  refine b38_27 hR q4 (fun h1 => ?_) (fun h1 => ?_)
  · skip
    exact b38_64 hR   (k1 h1)
  · skip
    exact b38_39 hR q4  (k2 h1)
set_option maxRecDepth 20000 in
theorem t38_4a (hR : RS R) {v1 : Int32} {i2 : Nat} {v3 : Int32} {u4 : Option pm_V} (q2 : i2 < 8) (k1 : (nI 8 ≤ v3) → Q (.inl (some (pm_r 8 i2)), (mm x R Z Y o A c G g))) (k2 : (¬ (nI 8 ≤ v3)) → pW ns d 38 10 [some (pm_r 0 0), some (pm_i v1), some (pm_r 8 i2), some (pm_i v3), u4] [] (mm x R Z Y o A c G g) Q) : pW ns d 38 4 [some (pm_r 0 0), some (pm_i v1), some (pm_r 8 i2), some (pm_i v3), u4] [] (mm x R Z Y o A c G g) Q := by
  refine b38_4a hR q2 (fun h1 => ?_) (fun h1 => ?_)
  · skip
    exact b38_70a hR q2  (k1 h1)
  · skip
    exact (k2 h1)
set_option maxRecDepth 20000 in
theorem t38_10a (hR : RS R) {v1 : Int32} {i2 : Nat} {v3 : Int32} {u4 : Option pm_V} {j1 : Nat} (q2 : i2 < 8) (e1 : v3 = nI j1) (l1 : j1 < 8) (k1 : (A 8 j1 6 = nI 2) → (A 13 j1 5 ≤ v1) → pW ns d 38 4 [some (pm_r 0 0), some (pm_i v1), some (pm_r 8 i2), some (pm_i (v3 + (nI 1))), some (pm_r 8 j1)] [] (mm x R Z Y o A c G g) Q) (k2 : (A 8 j1 6 = nI 2) → (¬ (A 13 j1 5 ≤ v1)) → (A 13 i2 5 ≤ A 13 j1 5) → pW ns d 38 4 [some (pm_r 0 0), some (pm_i v1), some (pm_r 8 i2), some (pm_i (v3 + (nI 1))), some (pm_r 8 j1)] [] (mm x R Z Y o A c G g) Q) (k3 : (A 8 j1 6 = nI 2) → (¬ (A 13 j1 5 ≤ v1)) → (¬ (A 13 i2 5 ≤ A 13 j1 5)) → pW ns d 38 4 [some (pm_r 0 0), some (pm_i v1), some (pm_r 8 j1), some (pm_i (v3 + (nI 1))), some (pm_r 8 j1)] [] (mm x R Z Y o A c G g) Q) (k4 : (¬ (A 8 j1 6 = nI 2)) → pW ns d 38 4 [some (pm_r 0 0), some (pm_i v1), some (pm_r 8 i2), some (pm_i (v3 + (nI 1))), some (pm_r 8 j1)] [] (mm x R Z Y o A c G g) Q) : pW ns d 38 10 [some (pm_r 0 0), some (pm_i v1), some (pm_r 8 i2), some (pm_i v3), u4] [] (mm x R Z Y o A c G g) Q := by
  refine b38_10a hR q2 e1 l1 (fun h1 => ?_) (fun h1 => ?_)
  · skip
    refine b38_27a hR q2 l1  (fun h2 => ?_) (fun h2 => ?_)
    · skip
      exact b38_64a hR q2  (k1 h1 h2)
    · skip
      refine b38_39a hR q2 l1  (fun h3 => ?_) (fun h3 => ?_)
      · skip
        exact b38_64a hR q2  (k2 h1 h2 h3)
      · skip
        exact b38_61 hR l1  (k3 h1 h2 h3)
  · skip
    exact b38_64a hR q2  (k4 h1)
set_option maxRecDepth 20000 in
theorem t38_27a (hR : RS R) {v1 : Int32} {i2 : Nat} {v3 : Int32} {i4 : Nat} (q2 : i2 < 8) (q4 : i4 < 8) (k1 : (A 13 i4 5 ≤ v1) → pW ns d 38 4 [some (pm_r 0 0), some (pm_i v1), some (pm_r 8 i2), some (pm_i (v3 + (nI 1))), some (pm_r 8 i4)] [] (mm x R Z Y o A c G g) Q) (k2 : (¬ (A 13 i4 5 ≤ v1)) → (A 13 i2 5 ≤ A 13 i4 5) → pW ns d 38 4 [some (pm_r 0 0), some (pm_i v1), some (pm_r 8 i2), some (pm_i (v3 + (nI 1))), some (pm_r 8 i4)] [] (mm x R Z Y o A c G g) Q) (k3 : (¬ (A 13 i4 5 ≤ v1)) → (¬ (A 13 i2 5 ≤ A 13 i4 5)) → pW ns d 38 4 [some (pm_r 0 0), some (pm_i v1), some (pm_r 8 i4), some (pm_i (v3 + (nI 1))), some (pm_r 8 i4)] [] (mm x R Z Y o A c G g) Q) : pW ns d 38 27 [some (pm_r 0 0), some (pm_i v1), some (pm_r 8 i2), some (pm_i v3), some (pm_r 8 i4)] [] (mm x R Z Y o A c G g) Q := by
  refine b38_27a hR q2 q4 (fun h1 => ?_) (fun h1 => ?_)
  · skip
    exact b38_64a hR q2  (k1 h1)
  · skip
    refine b38_39a hR q2 q4  (fun h2 => ?_) (fun h2 => ?_)
    · skip
      exact b38_64a hR q2  (k2 h1 h2)
    · skip
      exact b38_61 hR q4  (k3 h1 h2)
set_option maxRecDepth 20000 in
theorem t38_39a (hR : RS R) {v1 : Int32} {i2 : Nat} {v3 : Int32} {i4 : Nat} (q2 : i2 < 8) (q4 : i4 < 8) (k1 : (A 13 i2 5 ≤ A 13 i4 5) → pW ns d 38 4 [some (pm_r 0 0), some (pm_i v1), some (pm_r 8 i2), some (pm_i (v3 + (nI 1))), some (pm_r 8 i4)] [] (mm x R Z Y o A c G g) Q) (k2 : (¬ (A 13 i2 5 ≤ A 13 i4 5)) → pW ns d 38 4 [some (pm_r 0 0), some (pm_i v1), some (pm_r 8 i4), some (pm_i (v3 + (nI 1))), some (pm_r 8 i4)] [] (mm x R Z Y o A c G g) Q) : pW ns d 38 39 [some (pm_r 0 0), some (pm_i v1), some (pm_r 8 i2), some (pm_i v3), some (pm_r 8 i4)] [] (mm x R Z Y o A c G g) Q := by
  refine b38_39a hR q2 q4 (fun h1 => ?_) (fun h1 => ?_)
  · skip
    exact b38_64a hR q2  (k1 h1)
  · skip
    exact b38_61 hR q4  (k2 h1)
/-! 39 JobLayer.conclude -/
set_option maxRecDepth 20000 in
theorem b39_0 (hR : RS R) {i1 : Nat} {v2 : Int32} (q1 : i1 < 8)  (k1 : v2 = -nI 10 → pW ns d 39 6 [some (pm_r 0 0), some (pm_r 8 i1), some (pm_i v2)] [] (mm x R Z Y o A c G g) Q) (k2 : ¬ (v2 = -nI 10) → pW ns d 39 17 [some (pm_r 0 0), some (pm_r 8 i1), some (pm_i v2)] [] (mm x R Z Y o A c G g) Q) : pW ns d 39 0 [some (pm_r 0 0), some (pm_r 8 i1), some (pm_i v2)] [] (mm x R Z Y o A c G g) Q := by
  exact pW_if 3 (c := v2 = -nI 10) (fun call n => rfl) k1 k2
set_option maxRecDepth 20000 in
theorem b39_6 (hR : RS R) {i1 : Nat} {u2 : Option pm_V} (q1 : i1 < 8) {x2 : Nat} {o2 : Int64} {A2 : Nat → Nat → Nat → Int32} {c2 : Nat → Int64} {G2 : Nat → Nat → Int32} {g2 : Nat → Int64} {y : Int32} (hE : pE ns d 32 [pm_r 0 0, pm_i (A 8 i1 8), pm_i (nI 5)] (mm x R Z Y o A c G g) (.inl (some (pm_i y)), (mm x2 R Z Y o2 A2 c2 G2 g2))) (k : pW ns d 39 15 [some (pm_r 0 0), some (pm_r 8 i1), u2] [pm_i y] (mm x2 R Z Y o2 A2 c2 G2 g2) Q) : pW ns d 39 6 [some (pm_r 0 0), some (pm_r 8 i1), u2] [] (mm x R Z Y o A c G g) Q := by
  refine pW_eq 3 (pc' := 11) (L' := [some (pm_r 0 0), some (pm_r 8 i1), u2]) (S' := [pm_i (A 8 i1 8), pm_r 0 0]) (M' := (mm x R Z Y o A c G g)) (fun call n => ?_) ?_
  · refine Eq.trans (b := pm_g (mm x R Z Y o A c G g) 8 i1 (pm_go call ns d 39 n 11 [some (pm_r 0 0), some (pm_r 8 i1), u2] [pm_i (A 8 i1 8), pm_r 0 0] (mm x R Z Y o A c G g))) rfl ?_
    refine (g_ok (f := 8) q1 rfl).trans ?_
    rfl
  refine pW_call (pc' := 12) (r := []) (L' := [some (pm_r 0 0), some (pm_r 8 i1), u2]) 2 (fun call n => ?_) hE k
  exact Eq.trans (b := pm_g (mm x R Z Y o A c G g) 0 0 (pm_cl call 39 (pm_go call ns d 39 n) 12 32 [pm_r 0 0, pm_i (A 8 i1 8), pm_i (nI 5)] [] [some (pm_r 0 0), some (pm_r 8 i1), u2] (mm x R Z Y o A c G g))) rfl (g_ok (f := 0) (by decide) rfl)
set_option maxRecDepth 20000 in
theorem b39_17 (hR : RS R) {i1 : Nat} {v2 : Int32} (q1 : i1 < 8) {x2 : Nat} {o2 : Int64} {A2 : Nat → Nat → Nat → Int32} {c2 : Nat → Int64} {G2 : Nat → Nat → Int32} {g2 : Nat → Int64}  (hE : pE ns d 122 [pm_r 8 i1, pm_i v2] (mm x R Z Y o A c G g) (.inl (none), (mm x2 R Z Y o2 A2 c2 G2 g2))) (k : pW ns d 39 22 [some (pm_r 0 0), some (pm_r 8 i1), some (pm_i v2)] [] (mm x2 R Z Y o2 A2 c2 G2 g2) Q) : pW ns d 39 17 [some (pm_r 0 0), some (pm_r 8 i1), some (pm_i v2)] [] (mm x R Z Y o A c G g) Q := by
  refine pW_call (pc' := 19) (r := []) (L' := [some (pm_r 0 0), some (pm_r 8 i1), some (pm_i v2)]) 3 (fun call n => ?_) hE k
  exact Eq.trans (b := pm_g (mm x R Z Y o A c G g) 8 i1 (pm_cl call 39 (pm_go call ns d 39 n) 19 122 [pm_r 8 i1, pm_i v2] [] [some (pm_r 0 0), some (pm_r 8 i1), some (pm_i v2)] (mm x R Z Y o A c G g))) rfl (g_ok (f := 8) q1 rfl)
set_option maxRecDepth 20000 in
theorem b39_15 (hR : RS R) {u0 : Option pm_V} {u1 : Option pm_V} {u2 : Option pm_V} {vs0 : Int32}   (k : Q (.inl none, (mm x R Z Y o A c G g))) : pW ns d 39 15 [u0, u1, u2] [pm_i vs0] (mm x R Z Y o A c G g) Q := by
  refine pW_ret 2 (fun call n => ?_) k
  rfl
set_option maxRecDepth 20000 in
theorem b39_22 (hR : RS R) {i1 : Nat} {v2 : Int32} (q1 : i1 < 8)  (k1 : v2 = -nI 6 → pW ns d 39 28 [some (pm_r 0 0), some (pm_r 8 i1), some (pm_i v2)] [] (mm x R Z Y o A c G g) Q) (k2 : ¬ (v2 = -nI 6) → pW ns d 39 35 [some (pm_r 0 0), some (pm_r 8 i1), some (pm_i v2)] [] (mm x R Z Y o A c G g) Q) : pW ns d 39 22 [some (pm_r 0 0), some (pm_r 8 i1), some (pm_i v2)] [] (mm x R Z Y o A c G g) Q := by
  exact pW_if 3 (c := v2 = -nI 6) (fun call n => rfl) k1 k2
set_option maxRecDepth 20000 in
theorem b39_28 (hR : RS R) {i1 : Nat} {u2 : Option pm_V} (q1 : i1 < 8) {x2 : Nat} {o2 : Int64} {A2 : Nat → Nat → Nat → Int32} {c2 : Nat → Int64} {G2 : Nat → Nat → Int32} {g2 : Nat → Int64} {y : Int32} (hE : pE ns d 33 [pm_r 0 0, pm_r 8 i1, pm_i (nI 2)] (mm x R Z Y o A c G g) (.inl (some (pm_i y)), (mm x2 R Z Y o2 A2 c2 G2 g2))) (k : pW ns d 39 34 [some (pm_r 0 0), some (pm_r 8 i1), u2] [pm_i y] (mm x2 R Z Y o2 A2 c2 G2 g2) Q) : pW ns d 39 28 [some (pm_r 0 0), some (pm_r 8 i1), u2] [] (mm x R Z Y o A c G g) Q := by
  refine pW_call (pc' := 31) (r := []) (L' := [some (pm_r 0 0), some (pm_r 8 i1), u2]) 4 (fun call n => ?_) hE k
  exact Eq.trans (b := pm_g (mm x R Z Y o A c G g) 0 0 (pm_cl call 39 (pm_go call ns d 39 n) 31 33 [pm_r 0 0, pm_r 8 i1, pm_i (nI 2)] [] [some (pm_r 0 0), some (pm_r 8 i1), u2] (mm x R Z Y o A c G g))) rfl (g_ok (f := 0) (by decide) rfl)
set_option maxRecDepth 20000 in
theorem b39_35 (hR : RS R) {u0 : Option pm_V} {u1 : Option pm_V} {u2 : Option pm_V}   (k : Q (.inl none, (mm x R Z Y o A c G g))) : pW ns d 39 35 [u0, u1, u2] [] (mm x R Z Y o A c G g) Q := by
  refine pW_ret 1 (fun call n => ?_) k
  rfl
set_option maxRecDepth 20000 in
theorem b39_34 (hR : RS R) {u0 : Option pm_V} {u1 : Option pm_V} {u2 : Option pm_V} {vs0 : Int32}   (k : Q (.inl none, (mm x R Z Y o A c G g))) : pW ns d 39 34 [u0, u1, u2] [pm_i vs0] (mm x R Z Y o A c G g) Q := by
  refine pW_ret 2 (fun call n => ?_) k
  rfl
set_option maxRecDepth 20000 in
theorem t39_0 (hR : RS R) {i1 : Nat} {v2 : Int32} (q1 : i1 < 8) (k1 : (v2 = -nI 10) → pW ns d 39 6 [some (pm_r 0 0), some (pm_r 8 i1), some (pm_i v2)] [] (mm x R Z Y o A c G g) Q) (k2 : (¬ (v2 = -nI 10)) → pW ns d 39 17 [some (pm_r 0 0), some (pm_r 8 i1), some (pm_i v2)] [] (mm x R Z Y o A c G g) Q) : pW ns d 39 0 [some (pm_r 0 0), some (pm_r 8 i1), some (pm_i v2)] [] (mm x R Z Y o A c G g) Q := by
  refine b39_0 hR q1 (fun h1 => ?_) (fun h1 => ?_)
  · skip
    exact (k1 h1)
  · skip
    exact (k2 h1)
set_option maxRecDepth 20000 in
theorem t39_22 (hR : RS R) {i1 : Nat} {v2 : Int32} (q1 : i1 < 8) (k1 : (v2 = -nI 6) → pW ns d 39 28 [some (pm_r 0 0), some (pm_r 8 i1), some (pm_i v2)] [] (mm x R Z Y o A c G g) Q) (k2 : (¬ (v2 = -nI 6)) → Q (.inl none, (mm x R Z Y o A c G g))) : pW ns d 39 22 [some (pm_r 0 0), some (pm_r 8 i1), some (pm_i v2)] [] (mm x R Z Y o A c G g) Q := by
  refine b39_22 hR q1 (fun h1 => ?_) (fun h1 => ?_)
  · skip
    exact (k1 h1)
  · skip
    exact b39_35 hR   (k2 h1)
/-! 40 JobLayer.attempt -/
set_option maxRecDepth 20000 in
theorem b40_0 (hR : RS R) {i1 : Nat} (q1 : i1 < 8)  (k0 : (A 13 i1 0).toInt = 1 → pW ns d 40 32 [some (pm_r 0 0), some (pm_r 8 i1)] [] (mm x R Z Y o A c G g) Q) (k1 : (A 13 i1 0).toInt = 2 → pW ns d 40 38 [some (pm_r 0 0), some (pm_r 8 i1)] [] (mm x R Z Y o A c G g) Q) (k2 : (A 13 i1 0).toInt = 3 → pW ns d 40 44 [some (pm_r 0 0), some (pm_r 8 i1)] [] (mm x R Z Y o A c G g) Q) (kd : ¬ (A 13 i1 0).toInt = 1 → ¬ (A 13 i1 0).toInt = 2 → ¬ (A 13 i1 0).toInt = 3 → pW ns d 40 50 [some (pm_r 0 0), some (pm_r 8 i1)] [] (mm x R Z Y o A c G g) Q) : pW ns d 40 0 [some (pm_r 0 0), some (pm_r 8 i1)] [] (mm x R Z Y o A c G g) Q := by
  refine pW_eq 2 (pc' := 4) (L' := [some (pm_r 0 0), some (pm_r 8 i1)]) (S' := [pm_r 13 i1]) (M' := (mm x R Z Y o A c G g)) (fun call n => ?_) ?_
  · refine Eq.trans (b := pm_g (mm x R Z Y o A c G g) 8 i1 (pm_go call ns d 40 n 4 [some (pm_r 0 0), some (pm_r 8 i1)] [pm_a (R 8 i1 5)] (mm x R Z Y o A c G g))) rfl ?_
    refine (g_ok (f := 8) q1 rfl).trans ?_
    exact (congrArg (fun z => pm_go call ns d 40 n 4 [some (pm_r 0 0), some (pm_r 8 i1)] [pm_a z] (mm x R Z Y o A c G g)) (rs_8_5 hR q1))
  refine pW_eq 1 (pc' := 7) (L' := [some (pm_r 0 0), some (pm_r 8 i1)]) (S' := [pm_i (A 13 i1 0)]) (M' := (mm x R Z Y o A c G g)) (fun call n => ?_) ?_
  · refine Eq.trans (b := pm_g (mm x R Z Y o A c G g) 13 i1 (pm_go call ns d 40 n 7 [some (pm_r 0 0), some (pm_r 8 i1)] [pm_i (A 13 i1 0)] (mm x R Z Y o A c G g))) rfl ?_
    refine (g_ok (f := 13) q1 rfl).trans ?_
    rfl
  by_cases h0 : (A 13 i1 0).toInt = 1
  · refine pW_eq 1 (fun call n => ?_) (k0 h0)
    refine Eq.trans (b := pm_sw ((A 13 i1 0).toInt) (1) [25, 31, 37] 43 (fun oo => pm_j 7 oo fun tt => pm_go call ns d 40 n tt [some (pm_r 0 0), some (pm_r 8 i1)] [] (mm x R Z Y o A c G g))) rfl ?_
    rw [h0]
    rfl
  by_cases h1 : (A 13 i1 0).toInt = 2
  · refine pW_eq 1 (fun call n => ?_) (k1 h1)
    refine Eq.trans (b := pm_sw ((A 13 i1 0).toInt) (1) [25, 31, 37] 43 (fun oo => pm_j 7 oo fun tt => pm_go call ns d 40 n tt [some (pm_r 0 0), some (pm_r 8 i1)] [] (mm x R Z Y o A c G g))) rfl ?_
    rw [h1]
    rfl
  by_cases h2 : (A 13 i1 0).toInt = 3
  · refine pW_eq 1 (fun call n => ?_) (k2 h2)
    refine Eq.trans (b := pm_sw ((A 13 i1 0).toInt) (1) [25, 31, 37] 43 (fun oo => pm_j 7 oo fun tt => pm_go call ns d 40 n tt [some (pm_r 0 0), some (pm_r 8 i1)] [] (mm x R Z Y o A c G g))) rfl ?_
    rw [h2]
    rfl
  refine pW_eq 1 (fun call n => ?_) (kd h0 h1 h2)
  refine Eq.trans (b := pm_sw ((A 13 i1 0).toInt) (1) [25, 31, 37] 43 (fun oo => pm_j 7 oo fun tt => pm_go call ns d 40 n tt [some (pm_r 0 0), some (pm_r 8 i1)] [] (mm x R Z Y o A c G g))) rfl ?_
  refine (if_neg h0).trans ?_
  refine (if_neg h1).trans ?_
  refine (if_neg h2).trans ?_
  rfl
set_option maxRecDepth 20000 in
theorem b40_32 (hR : RS R) {i1 : Nat} (q1 : i1 < 8) {x2 : Nat} {o2 : Int64} {A2 : Nat → Nat → Nat → Int32} {c2 : Nat → Int64} {G2 : Nat → Nat → Int32} {g2 : Nat → Int64} {y : Int32} (hE : pE ns d 41 [pm_r 0 0, pm_r 8 i1] (mm x R Z Y o A c G g) (.inl (some (pm_i y)), (mm x2 R Z Y o2 A2 c2 G2 g2))) (k : pW ns d 40 37 [some (pm_r 0 0), some (pm_r 8 i1)] [pm_i y] (mm x2 R Z Y o2 A2 c2 G2 g2) Q) : pW ns d 40 32 [some (pm_r 0 0), some (pm_r 8 i1)] [] (mm x R Z Y o A c G g) Q := by
  refine pW_call (pc' := 34) (r := []) (L' := [some (pm_r 0 0), some (pm_r 8 i1)]) 3 (fun call n => ?_) hE k
  exact Eq.trans (b := pm_g (mm x R Z Y o A c G g) 0 0 (pm_cl call 40 (pm_go call ns d 40 n) 34 41 [pm_r 0 0, pm_r 8 i1] [] [some (pm_r 0 0), some (pm_r 8 i1)] (mm x R Z Y o A c G g))) rfl (g_ok (f := 0) (by decide) rfl)
set_option maxRecDepth 20000 in
theorem b40_38 (hR : RS R) {i1 : Nat} (q1 : i1 < 8) {x2 : Nat} {o2 : Int64} {A2 : Nat → Nat → Nat → Int32} {c2 : Nat → Int64} {G2 : Nat → Nat → Int32} {g2 : Nat → Int64} {y : Int32} (hE : pE ns d 43 [pm_r 0 0, pm_r 8 i1] (mm x R Z Y o A c G g) (.inl (some (pm_i y)), (mm x2 R Z Y o2 A2 c2 G2 g2))) (k : pW ns d 40 43 [some (pm_r 0 0), some (pm_r 8 i1)] [pm_i y] (mm x2 R Z Y o2 A2 c2 G2 g2) Q) : pW ns d 40 38 [some (pm_r 0 0), some (pm_r 8 i1)] [] (mm x R Z Y o A c G g) Q := by
  refine pW_call (pc' := 40) (r := []) (L' := [some (pm_r 0 0), some (pm_r 8 i1)]) 3 (fun call n => ?_) hE k
  exact Eq.trans (b := pm_g (mm x R Z Y o A c G g) 0 0 (pm_cl call 40 (pm_go call ns d 40 n) 40 43 [pm_r 0 0, pm_r 8 i1] [] [some (pm_r 0 0), some (pm_r 8 i1)] (mm x R Z Y o A c G g))) rfl (g_ok (f := 0) (by decide) rfl)
set_option maxRecDepth 20000 in
theorem b40_44 (hR : RS R) {i1 : Nat} (q1 : i1 < 8) {x2 : Nat} {o2 : Int64} {A2 : Nat → Nat → Nat → Int32} {c2 : Nat → Int64} {G2 : Nat → Nat → Int32} {g2 : Nat → Int64} {y : Int32} (hE : pE ns d 44 [pm_r 0 0, pm_r 8 i1] (mm x R Z Y o A c G g) (.inl (some (pm_i y)), (mm x2 R Z Y o2 A2 c2 G2 g2))) (k : pW ns d 40 49 [some (pm_r 0 0), some (pm_r 8 i1)] [pm_i y] (mm x2 R Z Y o2 A2 c2 G2 g2) Q) : pW ns d 40 44 [some (pm_r 0 0), some (pm_r 8 i1)] [] (mm x R Z Y o A c G g) Q := by
  refine pW_call (pc' := 46) (r := []) (L' := [some (pm_r 0 0), some (pm_r 8 i1)]) 3 (fun call n => ?_) hE k
  exact Eq.trans (b := pm_g (mm x R Z Y o A c G g) 0 0 (pm_cl call 40 (pm_go call ns d 40 n) 46 44 [pm_r 0 0, pm_r 8 i1] [] [some (pm_r 0 0), some (pm_r 8 i1)] (mm x R Z Y o A c G g))) rfl (g_ok (f := 0) (by decide) rfl)
set_option maxRecDepth 20000 in
theorem b40_50 (hR : RS R) {u0 : Option pm_V} {u1 : Option pm_V}   (k : Q (.inl (some (pm_i (-nI 9))), (mm x R Z Y o A c G g))) : pW ns d 40 50 [u0, u1] [] (mm x R Z Y o A c G g) Q := by
  refine pW_ret 2 (fun call n => ?_) k
  rfl
set_option maxRecDepth 20000 in
theorem b40_37 (hR : RS R) {u0 : Option pm_V} {u1 : Option pm_V} {vs0 : Int32}   (k : Q (.inl (some (pm_i vs0)), (mm x R Z Y o A c G g))) : pW ns d 40 37 [u0, u1] [pm_i vs0] (mm x R Z Y o A c G g) Q := by
  refine pW_ret 1 (fun call n => ?_) k
  rfl
set_option maxRecDepth 20000 in
theorem b40_43 (hR : RS R) {u0 : Option pm_V} {u1 : Option pm_V} {vs0 : Int32}   (k : Q (.inl (some (pm_i vs0)), (mm x R Z Y o A c G g))) : pW ns d 40 43 [u0, u1] [pm_i vs0] (mm x R Z Y o A c G g) Q := by
  refine pW_ret 1 (fun call n => ?_) k
  rfl
set_option maxRecDepth 20000 in
theorem b40_49 (hR : RS R) {u0 : Option pm_V} {u1 : Option pm_V} {vs0 : Int32}   (k : Q (.inl (some (pm_i vs0)), (mm x R Z Y o A c G g))) : pW ns d 40 49 [u0, u1] [pm_i vs0] (mm x R Z Y o A c G g) Q := by
  refine pW_ret 1 (fun call n => ?_) k
  rfl
/-! 41 JobLayer.attemptRead -/
set_option maxRecDepth 20000 in
theorem b41_0 (hR : RS R) {i1 : Nat} {u2 : Option pm_V} {u3 : Option pm_V} (q1 : i1 < 8) {x2 : Nat} {o2 : Int64} {A2 : Nat → Nat → Nat → Int32} {c2 : Nat → Int64} {G2 : Nat → Nat → Int32} {g2 : Nat → Int64} {y : Int32} (hE : pE ns d 113 [pm_r 8 i1, pm_i (A 13 i1 1)] (mm x R Z Y o A c G g) (.inl (some (pm_i y)), (mm x2 R Z Y o2 A2 c2 G2 g2))) (k : pW ns d 41 11 [some (pm_r 0 0), some (pm_r 8 i1), u2, u3] [pm_i y] (mm x2 R Z Y o2 A2 c2 G2 g2) Q) : pW ns d 41 0 [some (pm_r 0 0), some (pm_r 8 i1), u2, u3] [] (mm x R Z Y o A c G g) Q := by
  refine pW_eq 3 (pc' := 5) (L' := [some (pm_r 0 0), some (pm_r 8 i1), u2, u3]) (S' := [pm_r 13 i1, pm_r 8 i1]) (M' := (mm x R Z Y o A c G g)) (fun call n => ?_) ?_
  · refine Eq.trans (b := pm_g (mm x R Z Y o A c G g) 8 i1 (pm_go call ns d 41 n 5 [some (pm_r 0 0), some (pm_r 8 i1), u2, u3] [pm_a (R 8 i1 5), pm_r 8 i1] (mm x R Z Y o A c G g))) rfl ?_
    refine (g_ok (f := 8) q1 rfl).trans ?_
    exact (congrArg (fun z => pm_go call ns d 41 n 5 [some (pm_r 0 0), some (pm_r 8 i1), u2, u3] [pm_a z, pm_r 8 i1] (mm x R Z Y o A c G g)) (rs_8_5 hR q1))
  refine pW_eq 1 (pc' := 8) (L' := [some (pm_r 0 0), some (pm_r 8 i1), u2, u3]) (S' := [pm_i (A 13 i1 1), pm_r 8 i1]) (M' := (mm x R Z Y o A c G g)) (fun call n => ?_) ?_
  · refine Eq.trans (b := pm_g (mm x R Z Y o A c G g) 13 i1 (pm_go call ns d 41 n 8 [some (pm_r 0 0), some (pm_r 8 i1), u2, u3] [pm_i (A 13 i1 1), pm_r 8 i1] (mm x R Z Y o A c G g))) rfl ?_
    refine (g_ok (f := 13) q1 rfl).trans ?_
    rfl
  refine pW_call (pc' := 8) (r := []) (L' := [some (pm_r 0 0), some (pm_r 8 i1), u2, u3]) 1 (fun call n => ?_) hE k
  exact Eq.trans (b := pm_g (mm x R Z Y o A c G g) 8 i1 (pm_cl call 41 (pm_go call ns d 41 n) 8 113 [pm_r 8 i1, pm_i (A 13 i1 1)] [] [some (pm_r 0 0), some (pm_r 8 i1), u2, u3] (mm x R Z Y o A c G g))) rfl (g_ok (f := 8) q1 rfl)
set_option maxRecDepth 20000 in
theorem b41_11 (hR : RS R) {i1 : Nat} {u2 : Option pm_V} {u3 : Option pm_V} {vs0 : Int32} (q1 : i1 < 8)  (k1 : vs0 = nI 1 → pW ns d 41 17 [some (pm_r 0 0), some (pm_r 8 i1), some (pm_i vs0), u3] [] (mm x R Z Y o A c G g) Q) (k2 : ¬ (vs0 = nI 1) → pW ns d 41 23 [some (pm_r 0 0), some (pm_r 8 i1), some (pm_i vs0), u3] [] (mm x R Z Y o A c G g) Q) : pW ns d 41 11 [some (pm_r 0 0), some (pm_r 8 i1), u2, u3] [pm_i vs0] (mm x R Z Y o A c G g) Q := by
  exact pW_if 4 (c := vs0 = nI 1) (fun call n => rfl) k1 k2
set_option maxRecDepth 20000 in
theorem b41_17 (hR : RS R) {i1 : Nat} {u2 : Option pm_V} {u3 : Option pm_V} (q1 : i1 < 8) {x2 : Nat} {o2 : Int64} {A2 : Nat → Nat → Nat → Int32} {c2 : Nat → Int64} {G2 : Nat → Nat → Int32} {g2 : Nat → Int64} {y : Int32} (hE : pE ns d 42 [pm_r 0 0, pm_r 8 i1] (mm x R Z Y o A c G g) (.inl (some (pm_i y)), (mm x2 R Z Y o2 A2 c2 G2 g2))) (k : pW ns d 41 22 [some (pm_r 0 0), some (pm_r 8 i1), u2, u3] [pm_i y] (mm x2 R Z Y o2 A2 c2 G2 g2) Q) : pW ns d 41 17 [some (pm_r 0 0), some (pm_r 8 i1), u2, u3] [] (mm x R Z Y o A c G g) Q := by
  refine pW_call (pc' := 19) (r := []) (L' := [some (pm_r 0 0), some (pm_r 8 i1), u2, u3]) 3 (fun call n => ?_) hE k
  exact Eq.trans (b := pm_g (mm x R Z Y o A c G g) 0 0 (pm_cl call 41 (pm_go call ns d 41 n) 19 42 [pm_r 0 0, pm_r 8 i1] [] [some (pm_r 0 0), some (pm_r 8 i1), u2, u3] (mm x R Z Y o A c G g))) rfl (g_ok (f := 0) (by decide) rfl)
set_option maxRecDepth 20000 in
theorem b41_23 (hR : RS R) {i1 : Nat} {v2 : Int32} {u3 : Option pm_V} (q1 : i1 < 8)  (k1 : (v2 / (nI 2)) - (nI 1) < 0 → pW ns d 41 39 [some (pm_r 0 0), some (pm_r 8 i1), some (pm_i v2), some (pm_i ((v2 / (nI 2)) - (nI 1)))] [] (mm x R Z Y o A c G g) Q) (k2 : ¬ ((v2 / (nI 2)) - (nI 1) < 0) → pW ns d 41 33 [some (pm_r 0 0), some (pm_r 8 i1), some (pm_i v2), some (pm_i ((v2 / (nI 2)) - (nI 1)))] [] (mm x R Z Y o A c G g) Q) : pW ns d 41 23 [some (pm_r 0 0), some (pm_r 8 i1), some (pm_i v2), u3] [] (mm x R Z Y o A c G g) Q := by
  refine pW_eq 3 (pc' := 26) (L' := [some (pm_r 0 0), some (pm_r 8 i1), some (pm_i v2), u3]) (S' := [pm_i (v2 / (nI 2))]) (M' := (mm x R Z Y o A c G g)) (fun call n => ?_) ?_
  · refine Eq.trans (b := if (nI 2) = 0 then none else pm_go call ns d 41 n 26 [some (pm_r 0 0), some (pm_r 8 i1), some (pm_i v2), u3] [pm_i (v2 / (nI 2))] (mm x R Z Y o A c G g)) rfl ?_
    refine (if_neg (by decide)).trans ?_
    rfl
  exact pW_if 5 (c := (v2 / (nI 2)) - (nI 1) < 0) (fun call n => rfl) k1 k2
set_option maxRecDepth 20000 in
theorem b41_22 (hR : RS R) {u0 : Option pm_V} {u1 : Option pm_V} {u2 : Option pm_V} {u3 : Option pm_V} {vs0 : Int32}   (k : Q (.inl (some (pm_i vs0)), (mm x R Z Y o A c G g))) : pW ns d 41 22 [u0, u1, u2, u3] [pm_i vs0] (mm x R Z Y o A c G g) Q := by
  refine pW_ret 1 (fun call n => ?_) k
  rfl
set_option maxRecDepth 20000 in
theorem b41_39 (hR : RS R) {u0 : Option pm_V} {u1 : Option pm_V} {u2 : Option pm_V} {u3 : Option pm_V}   (k : Q (.inl (some (pm_i (-nI 1))), (mm x R Z Y o A c G g))) : pW ns d 41 39 [u0, u1, u2, u3] [] (mm x R Z Y o A c G g) Q := by
  refine pW_ret 2 (fun call n => ?_) k
  rfl
set_option maxRecDepth 20000 in
theorem b41_33 (hR : RS R) {i1 : Nat} {u2 : Option pm_V} {v3 : Int32} (q1 : i1 < 8)  (k1 : v3 < nI 6 → pW ns d 41 41 [some (pm_r 0 0), some (pm_r 8 i1), u2, some (pm_i v3)] [] (mm x R Z Y o A c G g) Q) (k2 : ¬ (v3 < nI 6) → pW ns d 41 39 [some (pm_r 0 0), some (pm_r 8 i1), u2, some (pm_i v3)] [] (mm x R Z Y o A c G g) Q) : pW ns d 41 33 [some (pm_r 0 0), some (pm_r 8 i1), u2, some (pm_i v3)] [] (mm x R Z Y o A c G g) Q := by
  exact pW_if 3 (c := v3 < nI 6) (fun call n => rfl) k1 k2
set_option maxRecDepth 20000 in
theorem b41_41 (hR : RS R) {i1 : Nat} {u2 : Option pm_V} {v3 : Int32} {j1 : Nat} (q1 : i1 < 8) (e1 : v3 = nI j1) (l1 : j1 < 6)  (k1 : A 4 j1 1 = 0 → pW ns d 41 53 [some (pm_r 0 0), some (pm_r 8 i1), u2, some (pm_i v3)] [] (mm x R Z Y o A c G g) Q) (k2 : ¬ (A 4 j1 1 = 0) → pW ns d 41 68 [some (pm_r 0 0), some (pm_r 8 i1), u2, some (pm_i v3)] [] (mm x R Z Y o A c G g) Q) : pW ns d 41 41 [some (pm_r 0 0), some (pm_r 8 i1), u2, some (pm_i v3)] [] (mm x R Z Y o A c G g) Q := by
  refine pW_eq 2 (pc' := 45) (L' := [some (pm_r 0 0), some (pm_r 8 i1), u2, some (pm_i v3)]) (S' := [pm_r 2 0]) (M' := (mm x R Z Y o A c G g)) (fun call n => ?_) ?_
  · refine Eq.trans (b := pm_g (mm x R Z Y o A c G g) 0 0 (pm_go call ns d 41 n 45 [some (pm_r 0 0), some (pm_r 8 i1), u2, some (pm_i v3)] [pm_a (R 0 0 1)] (mm x R Z Y o A c G g))) rfl ?_
    refine (g_ok (f := 0) (by decide) rfl).trans ?_
    exact (congrArg (fun z => pm_go call ns d 41 n 45 [some (pm_r 0 0), some (pm_r 8 i1), u2, some (pm_i v3)] [pm_a z] (mm x R Z Y o A c G g)) (rs_0_1 hR))
  refine pW_eq 2 (pc' := 47) (L' := [some (pm_r 0 0), some (pm_r 8 i1), u2, some (pm_i v3)]) (S' := [pm_r 4 j1]) (M' := (mm x R Z Y o A c G g)) (fun call n => ?_) ?_
  · refine Eq.trans (b := pm_g (mm x R Z Y o A c G g) 2 0 (pm_ix (v3) 6 (fun jx => pm_go call ns d 41 n 47 [some (pm_r 0 0), some (pm_r 8 i1), u2, some (pm_i v3)] [pm_a (R 2 0 jx)] (mm x R Z Y o A c G g)))) rfl ?_
    refine (g_ok (f := 2) (by decide) rfl).trans ?_
    refine (ix_ok (j := j1) e1 l1 (by decide)).trans ?_
    exact (congrArg (fun z => pm_go call ns d 41 n 47 [some (pm_r 0 0), some (pm_r 8 i1), u2, some (pm_i v3)] [pm_a z] (mm x R Z Y o A c G g)) (rs_2 hR (k := j1) l1))
  refine pW_eq 1 (pc' := 50) (L' := [some (pm_r 0 0), some (pm_r 8 i1), u2, some (pm_i v3)]) (S' := [pm_i (A 4 j1 1)]) (M' := (mm x R Z Y o A c G g)) (fun call n => ?_) ?_
  · refine Eq.trans (b := pm_g (mm x R Z Y o A c G g) 4 j1 (pm_go call ns d 41 n 50 [some (pm_r 0 0), some (pm_r 8 i1), u2, some (pm_i v3)] [pm_i (A 4 j1 1)] (mm x R Z Y o A c G g))) rfl ?_
    refine (g_ok (f := 4) l1 rfl).trans ?_
    rfl
  exact pW_if 1 (c := A 4 j1 1 = 0) (fun call n => rfl) k1 k2
set_option maxRecDepth 20000 in
theorem b41_53 (hR : RS R) {i1 : Nat} {u2 : Option pm_V} {v3 : Int32} (q1 : i1 < 8) {x2 : Nat} {o2 : Int64} {A2 : Nat → Nat → Nat → Int32} {c2 : Nat → Int64} {G2 : Nat → Nat → Int32} {g2 : Nat → Int64} {y : Int32} (hE : pE ns d 28 [pm_r 0 0, pm_i ((nI 3) + ((nI 2) * v3))] (mm x R Z Y o A c G g) (.inl (some (pm_i y)), (mm x2 R Z Y o2 A2 c2 G2 g2))) (k : pW ns d 41 62 [some (pm_r 0 0), some (pm_r 8 i1), u2, some (pm_i v3)] [pm_i y] (mm x2 R Z Y o2 A2 c2 G2 g2) Q) : pW ns d 41 53 [some (pm_r 0 0), some (pm_r 8 i1), u2, some (pm_i v3)] [] (mm x R Z Y o A c G g) Q := by
  refine pW_call (pc' := 59) (r := []) (L' := [some (pm_r 0 0), some (pm_r 8 i1), u2, some (pm_i v3)]) 7 (fun call n => ?_) hE k
  exact Eq.trans (b := pm_g (mm x R Z Y o A c G g) 0 0 (pm_cl call 41 (pm_go call ns d 41 n) 59 28 [pm_r 0 0, pm_i ((nI 3) + ((nI 2) * v3))] [] [some (pm_r 0 0), some (pm_r 8 i1), u2, some (pm_i v3)] (mm x R Z Y o A c G g))) rfl (g_ok (f := 0) (by decide) rfl)
set_option maxRecDepth 20000 in
theorem b41_68 (hR : RS R) {i1 : Nat} {u2 : Option pm_V} {v3 : Int32} {j1 : Nat} (q1 : i1 < 8) (e1 : v3 = nI j1) (l1 : j1 < 6) {x2 : Nat} {o2 : Int64} {A2 : Nat → Nat → Nat → Int32} {c2 : Nat → Int64} {G2 : Nat → Nat → Int32} {g2 : Nat → Int64} {y : Int32} (hE : pE ns d 105 [pm_r 4 j1, pm_i (A 13 i1 2), pm_r 11 i1] (mm x R Z Y o A c G g) (.inl (some (pm_i y)), (mm x2 R Z Y o2 A2 c2 G2 g2))) (k : pW ns d 41 89 [some (pm_r 0 0), some (pm_r 8 i1), u2, some (pm_i v3)] [pm_i y, pm_r 8 i1] (mm x2 R Z Y o2 A2 c2 G2 g2) Q) : pW ns d 41 68 [some (pm_r 0 0), some (pm_r 8 i1), u2, some (pm_i v3)] [] (mm x R Z Y o A c G g) Q := by
  refine pW_eq 3 (pc' := 73) (L' := [some (pm_r 0 0), some (pm_r 8 i1), u2, some (pm_i v3)]) (S' := [pm_r 2 0, pm_r 8 i1]) (M' := (mm x R Z Y o A c G g)) (fun call n => ?_) ?_
  · refine Eq.trans (b := pm_g (mm x R Z Y o A c G g) 0 0 (pm_go call ns d 41 n 73 [some (pm_r 0 0), some (pm_r 8 i1), u2, some (pm_i v3)] [pm_a (R 0 0 1), pm_r 8 i1] (mm x R Z Y o A c G g))) rfl ?_
    refine (g_ok (f := 0) (by decide) rfl).trans ?_
    exact (congrArg (fun z => pm_go call ns d 41 n 73 [some (pm_r 0 0), some (pm_r 8 i1), u2, some (pm_i v3)] [pm_a z, pm_r 8 i1] (mm x R Z Y o A c G g)) (rs_0_1 hR))
  refine pW_eq 2 (pc' := 75) (L' := [some (pm_r 0 0), some (pm_r 8 i1), u2, some (pm_i v3)]) (S' := [pm_r 4 j1, pm_r 8 i1]) (M' := (mm x R Z Y o A c G g)) (fun call n => ?_) ?_
  · refine Eq.trans (b := pm_g (mm x R Z Y o A c G g) 2 0 (pm_ix (v3) 6 (fun jx => pm_go call ns d 41 n 75 [some (pm_r 0 0), some (pm_r 8 i1), u2, some (pm_i v3)] [pm_a (R 2 0 jx), pm_r 8 i1] (mm x R Z Y o A c G g)))) rfl ?_
    refine (g_ok (f := 2) (by decide) rfl).trans ?_
    refine (ix_ok (j := j1) e1 l1 (by decide)).trans ?_
    exact (congrArg (fun z => pm_go call ns d 41 n 75 [some (pm_r 0 0), some (pm_r 8 i1), u2, some (pm_i v3)] [pm_a z, pm_r 8 i1] (mm x R Z Y o A c G g)) (rs_2 hR (k := j1) l1))
  refine pW_eq 2 (pc' := 79) (L' := [some (pm_r 0 0), some (pm_r 8 i1), u2, some (pm_i v3)]) (S' := [pm_r 13 i1, pm_r 4 j1, pm_r 8 i1]) (M' := (mm x R Z Y o A c G g)) (fun call n => ?_) ?_
  · refine Eq.trans (b := pm_g (mm x R Z Y o A c G g) 8 i1 (pm_go call ns d 41 n 79 [some (pm_r 0 0), some (pm_r 8 i1), u2, some (pm_i v3)] [pm_a (R 8 i1 5), pm_r 4 j1, pm_r 8 i1] (mm x R Z Y o A c G g))) rfl ?_
    refine (g_ok (f := 8) q1 rfl).trans ?_
    exact (congrArg (fun z => pm_go call ns d 41 n 79 [some (pm_r 0 0), some (pm_r 8 i1), u2, some (pm_i v3)] [pm_a z, pm_r 4 j1, pm_r 8 i1] (mm x R Z Y o A c G g)) (rs_8_5 hR q1))
  refine pW_eq 1 (pc' := 82) (L' := [some (pm_r 0 0), some (pm_r 8 i1), u2, some (pm_i v3)]) (S' := [pm_i (A 13 i1 2), pm_r 4 j1, pm_r 8 i1]) (M' := (mm x R Z Y o A c G g)) (fun call n => ?_) ?_
  · refine Eq.trans (b := pm_g (mm x R Z Y o A c G g) 13 i1 (pm_go call ns d 41 n 82 [some (pm_r 0 0), some (pm_r 8 i1), u2, some (pm_i v3)] [pm_i (A 13 i1 2), pm_r 4 j1, pm_r 8 i1] (mm x R Z Y o A c G g))) rfl ?_
    refine (g_ok (f := 13) q1 rfl).trans ?_
    rfl
  refine pW_eq 2 (pc' := 86) (L' := [some (pm_r 0 0), some (pm_r 8 i1), u2, some (pm_i v3)]) (S' := [pm_r 11 i1, pm_i (A 13 i1 2), pm_r 4 j1, pm_r 8 i1]) (M' := (mm x R Z Y o A c G g)) (fun call n => ?_) ?_
  · refine Eq.trans (b := pm_g (mm x R Z Y o A c G g) 8 i1 (pm_go call ns d 41 n 86 [some (pm_r 0 0), some (pm_r 8 i1), u2, some (pm_i v3)] [pm_a (R 8 i1 3), pm_i (A 13 i1 2), pm_r 4 j1, pm_r 8 i1] (mm x R Z Y o A c G g))) rfl ?_
    refine (g_ok (f := 8) q1 rfl).trans ?_
    exact (congrArg (fun z => pm_go call ns d 41 n 86 [some (pm_r 0 0), some (pm_r 8 i1), u2, some (pm_i v3)] [pm_a z, pm_i (A 13 i1 2), pm_r 4 j1, pm_r 8 i1] (mm x R Z Y o A c G g)) (rs_8_3 hR q1))
  refine pW_call (pc' := 86) (r := [pm_r 8 i1]) (L' := [some (pm_r 0 0), some (pm_r 8 i1), u2, some (pm_i v3)]) 1 (fun call n => ?_) hE k
  exact Eq.trans (b := pm_g (mm x R Z Y o A c G g) 4 j1 (pm_cl call 41 (pm_go call ns d 41 n) 86 105 [pm_r 4 j1, pm_i (A 13 i1 2), pm_r 11 i1] [pm_r 8 i1] [some (pm_r 0 0), some (pm_r 8 i1), u2, some (pm_i v3)] (mm x R Z Y o A c G g))) rfl (g_ok (f := 4) l1 rfl)
set_option maxRecDepth 20000 in
theorem b41_62 (hR : RS R) {i1 : Nat} {u2 : Option pm_V} {v3 : Int32} {vs0 : Int32} (q1 : i1 < 8)  (k1 : vs0 = 0 → pW ns d 41 68 [some (pm_r 0 0), some (pm_r 8 i1), u2, some (pm_i v3)] [] (mm x R Z Y o A c G g) Q) (k2 : ¬ (vs0 = 0) → pW ns d 41 65 [some (pm_r 0 0), some (pm_r 8 i1), u2, some (pm_i v3)] [] (mm x R Z Y o A c G g) Q) : pW ns d 41 62 [some (pm_r 0 0), some (pm_r 8 i1), u2, some (pm_i v3)] [pm_i vs0] (mm x R Z Y o A c G g) Q := by
  exact pW_if 1 (c := vs0 = 0) (fun call n => rfl) k1 k2
set_option maxRecDepth 20000 in
theorem b41_89 (hR : RS R) {u0 : Option pm_V} {i1 : Nat} {u2 : Option pm_V} {u3 : Option pm_V} {vs0 : Int32} {is1 : Nat} (q1 : i1 < 8) (qs1 : is1 < 8)  (k : Q (.inl (some (pm_i ((pm_u A 8 is1 12 vs0) 8 i1 12))), (mm x R Z Y o (pm_u A 8 is1 12 vs0) c G g))) : pW ns d 41 89 [u0, some (pm_r 8 i1), u2, u3] [pm_i vs0, pm_r 8 is1] (mm x R Z Y o A c G g) Q := by
  refine pW_eq 1 (pc' := 92) (L' := [u0, some (pm_r 8 i1), u2, u3]) (S' := []) (M' := (mm x R Z Y o (pm_u A 8 is1 12 vs0) c G g)) (fun call n => ?_) ?_
  · refine Eq.trans (b := pm_g (mm x R Z Y o A c G g) 8 is1 (pm_go call ns d 41 n 92 [u0, some (pm_r 8 i1), u2, u3] [] (pm_u (mA Z A G) 8 is1 12 vs0, mB Y o c g, R, pm_tot, x))) rfl ?_
    refine (g_ok (f := 8) qs1 rfl).trans ?_
    exact (congrArg (fun z => pm_go call ns d 41 n 92 [u0, some (pm_r 8 i1), u2, u3] [] (z, mB Y o c g, R, pm_tot, x)) (uA (by decide)))
  refine pW_eq 2 (pc' := 96) (L' := [u0, some (pm_r 8 i1), u2, u3]) (S' := [pm_i ((pm_u A 8 is1 12 vs0) 8 i1 12)]) (M' := (mm x R Z Y o (pm_u A 8 is1 12 vs0) c G g)) (fun call n => ?_) ?_
  · refine Eq.trans (b := pm_g (mm x R Z Y o (pm_u A 8 is1 12 vs0) c G g) 8 i1 (pm_go call ns d 41 n 96 [u0, some (pm_r 8 i1), u2, u3] [pm_i ((pm_u A 8 is1 12 vs0) 8 i1 12)] (mm x R Z Y o (pm_u A 8 is1 12 vs0) c G g))) rfl ?_
    refine (g_ok (f := 8) q1 rfl).trans ?_
    rfl
  refine pW_ret 1 (fun call n => ?_) k
  rfl
set_option maxRecDepth 20000 in
theorem b41_65 (hR : RS R) {u0 : Option pm_V} {u1 : Option pm_V} {u2 : Option pm_V} {u3 : Option pm_V}   (k : Q (.inl (some (pm_i (-nI 9))), (mm x R Z Y o A c G g))) : pW ns d 41 65 [u0, u1, u2, u3] [] (mm x R Z Y o A c G g) Q := by
  refine pW_ret 2 (fun call n => ?_) k
  rfl
set_option maxRecDepth 20000 in
theorem t41_11 (hR : RS R) {i1 : Nat} {u2 : Option pm_V} {u3 : Option pm_V} {vs0 : Int32} (q1 : i1 < 8) (k1 : (vs0 = nI 1) → pW ns d 41 17 [some (pm_r 0 0), some (pm_r 8 i1), some (pm_i vs0), u3] [] (mm x R Z Y o A c G g) Q) (k2 : (¬ (vs0 = nI 1)) → ((vs0 / (nI 2)) - (nI 1) < 0) → Q (.inl (some (pm_i (-nI 1))), (mm x R Z Y o A c G g))) (k3 : (¬ (vs0 = nI 1)) → (¬ ((vs0 / (nI 2)) - (nI 1) < 0)) → ((vs0 / (nI 2)) - (nI 1) < nI 6) → pW ns d 41 41 [some (pm_r 0 0), some (pm_r 8 i1), some (pm_i vs0), some (pm_i ((vs0 / (nI 2)) - (nI 1)))] [] (mm x R Z Y o A c G g) Q) (k4 : (¬ (vs0 = nI 1)) → (¬ ((vs0 / (nI 2)) - (nI 1) < 0)) → (¬ ((vs0 / (nI 2)) - (nI 1) < nI 6)) → Q (.inl (some (pm_i (-nI 1))), (mm x R Z Y o A c G g))) : pW ns d 41 11 [some (pm_r 0 0), some (pm_r 8 i1), u2, u3] [pm_i vs0] (mm x R Z Y o A c G g) Q := by
  refine b41_11 hR q1 (fun h1 => ?_) (fun h1 => ?_)
  · skip
    exact (k1 h1)
  · skip
    refine b41_23 hR q1  (fun h2 => ?_) (fun h2 => ?_)
    · skip
      exact b41_39 hR   (k2 h1 h2)
    · skip
      refine b41_33 hR q1  (fun h3 => ?_) (fun h3 => ?_)
      · skip
        exact (k3 h1 h2 h3)
      · skip
        exact b41_39 hR   (k4 h1 h2 h3)
set_option maxRecDepth 20000 in
theorem t41_23 (hR : RS R) {i1 : Nat} {v2 : Int32} {u3 : Option pm_V} (q1 : i1 < 8) (k1 : ((v2 / (nI 2)) - (nI 1) < 0) → Q (.inl (some (pm_i (-nI 1))), (mm x R Z Y o A c G g))) (k2 : (¬ ((v2 / (nI 2)) - (nI 1) < 0)) → ((v2 / (nI 2)) - (nI 1) < nI 6) → pW ns d 41 41 [some (pm_r 0 0), some (pm_r 8 i1), some (pm_i v2), some (pm_i ((v2 / (nI 2)) - (nI 1)))] [] (mm x R Z Y o A c G g) Q) (k3 : (¬ ((v2 / (nI 2)) - (nI 1) < 0)) → (¬ ((v2 / (nI 2)) - (nI 1) < nI 6)) → Q (.inl (some (pm_i (-nI 1))), (mm x R Z Y o A c G g))) : pW ns d 41 23 [some (pm_r 0 0), some (pm_r 8 i1), some (pm_i v2), u3] [] (mm x R Z Y o A c G g) Q := by
  refine b41_23 hR q1 (fun h1 => ?_) (fun h1 => ?_)
  · skip
    exact b41_39 hR   (k1 h1)
  · skip
    refine b41_33 hR q1  (fun h2 => ?_) (fun h2 => ?_)
    · skip
      exact (k2 h1 h2)
    · skip
      exact b41_39 hR   (k3 h1 h2)
set_option maxRecDepth 20000 in
theorem t41_33 (hR : RS R) {i1 : Nat} {u2 : Option pm_V} {v3 : Int32} (q1 : i1 < 8) (k1 : (v3 < nI 6) → pW ns d 41 41 [some (pm_r 0 0), some (pm_r 8 i1), u2, some (pm_i v3)] [] (mm x R Z Y o A c G g) Q) (k2 : (¬ (v3 < nI 6)) → Q (.inl (some (pm_i (-nI 1))), (mm x R Z Y o A c G g))) : pW ns d 41 33 [some (pm_r 0 0), some (pm_r 8 i1), u2, some (pm_i v3)] [] (mm x R Z Y o A c G g) Q := by
  refine b41_33 hR q1 (fun h1 => ?_) (fun h1 => ?_)
  · skip
    exact (k1 h1)
  · skip
    exact b41_39 hR   (k2 h1)
set_option maxRecDepth 20000 in
theorem t41_41 (hR : RS R) {i1 : Nat} {u2 : Option pm_V} {v3 : Int32} {j1 : Nat} (q1 : i1 < 8) (e1 : v3 = nI j1) (l1 : j1 < 6) (k1 : (A 4 j1 1 = 0) → pW ns d 41 53 [some (pm_r 0 0), some (pm_r 8 i1), u2, some (pm_i v3)] [] (mm x R Z Y o A c G g) Q) (k2 : (¬ (A 4 j1 1 = 0)) → pW ns d 41 68 [some (pm_r 0 0), some (pm_r 8 i1), u2, some (pm_i v3)] [] (mm x R Z Y o A c G g) Q) : pW ns d 41 41 [some (pm_r 0 0), some (pm_r 8 i1), u2, some (pm_i v3)] [] (mm x R Z Y o A c G g) Q := by
  refine b41_41 hR q1 e1 l1 (fun h1 => ?_) (fun h1 => ?_)
  · skip
    exact (k1 h1)
  · skip
    exact (k2 h1)
set_option maxRecDepth 20000 in
theorem t41_62 (hR : RS R) {i1 : Nat} {u2 : Option pm_V} {v3 : Int32} {vs0 : Int32} (q1 : i1 < 8) (k1 : (vs0 = 0) → pW ns d 41 68 [some (pm_r 0 0), some (pm_r 8 i1), u2, some (pm_i v3)] [] (mm x R Z Y o A c G g) Q) (k2 : (¬ (vs0 = 0)) → Q (.inl (some (pm_i (-nI 9))), (mm x R Z Y o A c G g))) : pW ns d 41 62 [some (pm_r 0 0), some (pm_r 8 i1), u2, some (pm_i v3)] [pm_i vs0] (mm x R Z Y o A c G g) Q := by
  refine b41_62 hR q1 (fun h1 => ?_) (fun h1 => ?_)
  · skip
    exact (k1 h1)
  · skip
    exact b41_65 hR   (k2 h1)
/-! 42 JobLayer.attemptTerminalRead -/
set_option maxRecDepth 20000 in
theorem b42_0 (hR : RS R) {i1 : Nat} {u2 : Option pm_V} (q1 : i1 < 8)  (k1 : A 8 i1 8 = A 3 0 5 → pW ns d 42 68 [some (pm_r 0 0), some (pm_r 8 i1), u2] [] (mm x R Z Y o A c G g) Q) (k2 : ¬ (A 8 i1 8 = A 3 0 5) → pW ns d 42 14 [some (pm_r 0 0), some (pm_r 8 i1), u2] [] (mm x R Z Y o A c G g) Q) : pW ns d 42 0 [some (pm_r 0 0), some (pm_r 8 i1), u2] [] (mm x R Z Y o A c G g) Q := by
  refine pW_eq 2 (pc' := 4) (L' := [some (pm_r 0 0), some (pm_r 8 i1), u2]) (S' := [pm_i (A 8 i1 8)]) (M' := (mm x R Z Y o A c G g)) (fun call n => ?_) ?_
  · refine Eq.trans (b := pm_g (mm x R Z Y o A c G g) 8 i1 (pm_go call ns d 42 n 4 [some (pm_r 0 0), some (pm_r 8 i1), u2] [pm_i (A 8 i1 8)] (mm x R Z Y o A c G g))) rfl ?_
    refine (g_ok (f := 8) q1 rfl).trans ?_
    rfl
  refine pW_eq 2 (pc' := 8) (L' := [some (pm_r 0 0), some (pm_r 8 i1), u2]) (S' := [pm_r 3 0, pm_i (A 8 i1 8)]) (M' := (mm x R Z Y o A c G g)) (fun call n => ?_) ?_
  · refine Eq.trans (b := pm_g (mm x R Z Y o A c G g) 0 0 (pm_go call ns d 42 n 8 [some (pm_r 0 0), some (pm_r 8 i1), u2] [pm_a (R 0 0 2), pm_i (A 8 i1 8)] (mm x R Z Y o A c G g))) rfl ?_
    refine (g_ok (f := 0) (by decide) rfl).trans ?_
    exact (congrArg (fun z => pm_go call ns d 42 n 8 [some (pm_r 0 0), some (pm_r 8 i1), u2] [pm_a z, pm_i (A 8 i1 8)] (mm x R Z Y o A c G g)) (rs_0_2 hR))
  refine pW_eq 1 (pc' := 11) (L' := [some (pm_r 0 0), some (pm_r 8 i1), u2]) (S' := [pm_i (A 3 0 5), pm_i (A 8 i1 8)]) (M' := (mm x R Z Y o A c G g)) (fun call n => ?_) ?_
  · refine Eq.trans (b := pm_g (mm x R Z Y o A c G g) 3 0 (pm_go call ns d 42 n 11 [some (pm_r 0 0), some (pm_r 8 i1), u2] [pm_i (A 3 0 5), pm_i (A 8 i1 8)] (mm x R Z Y o A c G g))) rfl ?_
    refine (g_ok (f := 3) (by decide) rfl).trans ?_
    rfl
  exact pW_if 1 (c := A 8 i1 8 = A 3 0 5) (fun call n => rfl) k1 k2
set_option maxRecDepth 20000 in
theorem b42_68 (hR : RS R) {i1 : Nat} {u2 : Option pm_V} (q1 : i1 < 8)  (k1 : A 3 0 3 = 0 → pW ns d 42 78 [some (pm_r 0 0), some (pm_r 8 i1), u2] [] (mm x R Z Y o A c G g) Q) (k2 : ¬ (A 3 0 3 = 0) → pW ns d 42 81 [some (pm_r 0 0), some (pm_r 8 i1), u2] [] (mm x R Z Y o A c G g) Q) : pW ns d 42 68 [some (pm_r 0 0), some (pm_r 8 i1), u2] [] (mm x R Z Y o A c G g) Q := by
  refine pW_eq 2 (pc' := 72) (L' := [some (pm_r 0 0), some (pm_r 8 i1), u2]) (S' := [pm_r 3 0]) (M' := (mm x R Z Y o A c G g)) (fun call n => ?_) ?_
  · refine Eq.trans (b := pm_g (mm x R Z Y o A c G g) 0 0 (pm_go call ns d 42 n 72 [some (pm_r 0 0), some (pm_r 8 i1), u2] [pm_a (R 0 0 2)] (mm x R Z Y o A c G g))) rfl ?_
    refine (g_ok (f := 0) (by decide) rfl).trans ?_
    exact (congrArg (fun z => pm_go call ns d 42 n 72 [some (pm_r 0 0), some (pm_r 8 i1), u2] [pm_a z] (mm x R Z Y o A c G g)) (rs_0_2 hR))
  refine pW_eq 1 (pc' := 75) (L' := [some (pm_r 0 0), some (pm_r 8 i1), u2]) (S' := [pm_i (A 3 0 3)]) (M' := (mm x R Z Y o A c G g)) (fun call n => ?_) ?_
  · refine Eq.trans (b := pm_g (mm x R Z Y o A c G g) 3 0 (pm_go call ns d 42 n 75 [some (pm_r 0 0), some (pm_r 8 i1), u2] [pm_i (A 3 0 3)] (mm x R Z Y o A c G g))) rfl ?_
    refine (g_ok (f := 3) (by decide) rfl).trans ?_
    rfl
  exact pW_if 1 (c := A 3 0 3 = 0) (fun call n => rfl) k1 k2
set_option maxRecDepth 20000 in
theorem b42_14 (hR : RS R) {i1 : Nat} {u2 : Option pm_V} (q1 : i1 < 8)  (k1 : A 8 i1 0 = 0 → pW ns d 42 39 [some (pm_r 0 0), some (pm_r 8 i1), u2] [] (mm x R Z Y o A c G g) Q) (k2 : ¬ (A 8 i1 0 = 0) → pW ns d 42 21 [some (pm_r 0 0), some (pm_r 8 i1), u2] [] (mm x R Z Y o A c G g) Q) : pW ns d 42 14 [some (pm_r 0 0), some (pm_r 8 i1), u2] [] (mm x R Z Y o A c G g) Q := by
  refine pW_eq 2 (pc' := 18) (L' := [some (pm_r 0 0), some (pm_r 8 i1), u2]) (S' := [pm_i (A 8 i1 0)]) (M' := (mm x R Z Y o A c G g)) (fun call n => ?_) ?_
  · refine Eq.trans (b := pm_g (mm x R Z Y o A c G g) 8 i1 (pm_go call ns d 42 n 18 [some (pm_r 0 0), some (pm_r 8 i1), u2] [pm_i (A 8 i1 0)] (mm x R Z Y o A c G g))) rfl ?_
    refine (g_ok (f := 8) q1 rfl).trans ?_
    rfl
  exact pW_if 1 (c := A 8 i1 0 = 0) (fun call n => rfl) k1 k2
set_option maxRecDepth 20000 in
theorem b42_78 (hR : RS R) {u0 : Option pm_V} {u1 : Option pm_V} {u2 : Option pm_V}   (k : Q (.inl (some (pm_i (-nI 9))), (mm x R Z Y o A c G g))) : pW ns d 42 78 [u0, u1, u2] [] (mm x R Z Y o A c G g) Q := by
  refine pW_ret 2 (fun call n => ?_) k
  rfl
set_option maxRecDepth 20000 in
theorem b42_81 (hR : RS R) {i1 : Nat} {u2 : Option pm_V} (q1 : i1 < 8) {x2 : Nat} {o2 : Int64} {A2 : Nat → Nat → Nat → Int32} {c2 : Nat → Int64} {G2 : Nat → Nat → Int32} {g2 : Nat → Int64} {y : Int32} (hE : pE ns d 130 [pm_r 3 0, pm_i (A 13 i1 2), pm_r 11 i1] (mm x R Z Y o A c G g) (.inl (some (pm_i y)), (mm x2 R Z Y o2 A2 c2 G2 g2))) (k : pW ns d 42 100 [some (pm_r 0 0), some (pm_r 8 i1), u2] [pm_i y, pm_r 8 i1] (mm x2 R Z Y o2 A2 c2 G2 g2) Q) : pW ns d 42 81 [some (pm_r 0 0), some (pm_r 8 i1), u2] [] (mm x R Z Y o A c G g) Q := by
  refine pW_eq 3 (pc' := 86) (L' := [some (pm_r 0 0), some (pm_r 8 i1), u2]) (S' := [pm_r 3 0, pm_r 8 i1]) (M' := (mm x R Z Y o A c G g)) (fun call n => ?_) ?_
  · refine Eq.trans (b := pm_g (mm x R Z Y o A c G g) 0 0 (pm_go call ns d 42 n 86 [some (pm_r 0 0), some (pm_r 8 i1), u2] [pm_a (R 0 0 2), pm_r 8 i1] (mm x R Z Y o A c G g))) rfl ?_
    refine (g_ok (f := 0) (by decide) rfl).trans ?_
    exact (congrArg (fun z => pm_go call ns d 42 n 86 [some (pm_r 0 0), some (pm_r 8 i1), u2] [pm_a z, pm_r 8 i1] (mm x R Z Y o A c G g)) (rs_0_2 hR))
  refine pW_eq 2 (pc' := 90) (L' := [some (pm_r 0 0), some (pm_r 8 i1), u2]) (S' := [pm_r 13 i1, pm_r 3 0, pm_r 8 i1]) (M' := (mm x R Z Y o A c G g)) (fun call n => ?_) ?_
  · refine Eq.trans (b := pm_g (mm x R Z Y o A c G g) 8 i1 (pm_go call ns d 42 n 90 [some (pm_r 0 0), some (pm_r 8 i1), u2] [pm_a (R 8 i1 5), pm_r 3 0, pm_r 8 i1] (mm x R Z Y o A c G g))) rfl ?_
    refine (g_ok (f := 8) q1 rfl).trans ?_
    exact (congrArg (fun z => pm_go call ns d 42 n 90 [some (pm_r 0 0), some (pm_r 8 i1), u2] [pm_a z, pm_r 3 0, pm_r 8 i1] (mm x R Z Y o A c G g)) (rs_8_5 hR q1))
  refine pW_eq 1 (pc' := 93) (L' := [some (pm_r 0 0), some (pm_r 8 i1), u2]) (S' := [pm_i (A 13 i1 2), pm_r 3 0, pm_r 8 i1]) (M' := (mm x R Z Y o A c G g)) (fun call n => ?_) ?_
  · refine Eq.trans (b := pm_g (mm x R Z Y o A c G g) 13 i1 (pm_go call ns d 42 n 93 [some (pm_r 0 0), some (pm_r 8 i1), u2] [pm_i (A 13 i1 2), pm_r 3 0, pm_r 8 i1] (mm x R Z Y o A c G g))) rfl ?_
    refine (g_ok (f := 13) q1 rfl).trans ?_
    rfl
  refine pW_eq 2 (pc' := 97) (L' := [some (pm_r 0 0), some (pm_r 8 i1), u2]) (S' := [pm_r 11 i1, pm_i (A 13 i1 2), pm_r 3 0, pm_r 8 i1]) (M' := (mm x R Z Y o A c G g)) (fun call n => ?_) ?_
  · refine Eq.trans (b := pm_g (mm x R Z Y o A c G g) 8 i1 (pm_go call ns d 42 n 97 [some (pm_r 0 0), some (pm_r 8 i1), u2] [pm_a (R 8 i1 3), pm_i (A 13 i1 2), pm_r 3 0, pm_r 8 i1] (mm x R Z Y o A c G g))) rfl ?_
    refine (g_ok (f := 8) q1 rfl).trans ?_
    exact (congrArg (fun z => pm_go call ns d 42 n 97 [some (pm_r 0 0), some (pm_r 8 i1), u2] [pm_a z, pm_i (A 13 i1 2), pm_r 3 0, pm_r 8 i1] (mm x R Z Y o A c G g)) (rs_8_3 hR q1))
  refine pW_call (pc' := 97) (r := [pm_r 8 i1]) (L' := [some (pm_r 0 0), some (pm_r 8 i1), u2]) 1 (fun call n => ?_) hE k
  exact Eq.trans (b := pm_g (mm x R Z Y o A c G g) 3 0 (pm_cl call 42 (pm_go call ns d 42 n) 97 130 [pm_r 3 0, pm_i (A 13 i1 2), pm_r 11 i1] [pm_r 8 i1] [some (pm_r 0 0), some (pm_r 8 i1), u2] (mm x R Z Y o A c G g))) rfl (g_ok (f := 3) (by decide) rfl)
set_option maxRecDepth 20000 in
theorem b42_39 (hR : RS R) {i1 : Nat} {u2 : Option pm_V} (q1 : i1 < 8)  (k1 : nI 1 = 0 → pW ns d 42 49 [some (pm_r 0 0), some (pm_r 8 i1), some (pm_i (nI 1))] [] (mm x R Z Y o A c G g) Q) (k2 : ¬ (nI 1 = 0) → pW ns d 42 60 [some (pm_r 0 0), some (pm_r 8 i1), some (pm_i (nI 1))] [] (mm x R Z Y o A c G g) Q) : pW ns d 42 39 [some (pm_r 0 0), some (pm_r 8 i1), u2] [] (mm x R Z Y o A c G g) Q := by
  exact pW_if 5 (c := nI 1 = 0) (fun call n => rfl) k1 k2
set_option maxRecDepth 20000 in
theorem b42_21 (hR : RS R) {i1 : Nat} {u2 : Option pm_V} (q1 : i1 < 8)  (k1 : A 10 i1 5 = nI 1 → pW ns d 42 39 [some (pm_r 0 0), some (pm_r 8 i1), u2] [] (mm x R Z Y o A c G g) Q) (k2 : ¬ (A 10 i1 5 = nI 1) → pW ns d 42 31 [some (pm_r 0 0), some (pm_r 8 i1), u2] [] (mm x R Z Y o A c G g) Q) : pW ns d 42 21 [some (pm_r 0 0), some (pm_r 8 i1), u2] [] (mm x R Z Y o A c G g) Q := by
  refine pW_eq 2 (pc' := 25) (L' := [some (pm_r 0 0), some (pm_r 8 i1), u2]) (S' := [pm_r 10 i1]) (M' := (mm x R Z Y o A c G g)) (fun call n => ?_) ?_
  · refine Eq.trans (b := pm_g (mm x R Z Y o A c G g) 8 i1 (pm_go call ns d 42 n 25 [some (pm_r 0 0), some (pm_r 8 i1), u2] [pm_a (R 8 i1 2)] (mm x R Z Y o A c G g))) rfl ?_
    refine (g_ok (f := 8) q1 rfl).trans ?_
    exact (congrArg (fun z => pm_go call ns d 42 n 25 [some (pm_r 0 0), some (pm_r 8 i1), u2] [pm_a z] (mm x R Z Y o A c G g)) (rs_8_2 hR q1))
  refine pW_eq 2 (pc' := 27) (L' := [some (pm_r 0 0), some (pm_r 8 i1), u2]) (S' := [pm_i (A 10 i1 5)]) (M' := (mm x R Z Y o A c G g)) (fun call n => ?_) ?_
  · refine Eq.trans (b := pm_g (mm x R Z Y o A c G g) 10 i1 (pm_ix (nI 5) 8 (fun jx => pm_go call ns d 42 n 27 [some (pm_r 0 0), some (pm_r 8 i1), u2] [pm_i (A 10 i1 jx)] (mm x R Z Y o A c G g)))) rfl ?_
    refine (g_ok (f := 10) q1 rfl).trans ?_
    refine (ix_ok (j := 5) rfl (by decide) (by decide)).trans ?_
    rfl
  exact pW_if 2 (c := A 10 i1 5 = nI 1) (fun call n => rfl) k1 k2
set_option maxRecDepth 20000 in
theorem b42_100 (hR : RS R) {u0 : Option pm_V} {i1 : Nat} {u2 : Option pm_V} {vs0 : Int32} {is1 : Nat} (q1 : i1 < 8) (qs1 : is1 < 8)  (k : Q (.inl (some (pm_i ((pm_u A 8 is1 12 vs0) 8 i1 12))), (mm x R Z Y o (pm_u A 8 is1 12 vs0) c G g))) : pW ns d 42 100 [u0, some (pm_r 8 i1), u2] [pm_i vs0, pm_r 8 is1] (mm x R Z Y o A c G g) Q := by
  refine pW_eq 1 (pc' := 103) (L' := [u0, some (pm_r 8 i1), u2]) (S' := []) (M' := (mm x R Z Y o (pm_u A 8 is1 12 vs0) c G g)) (fun call n => ?_) ?_
  · refine Eq.trans (b := pm_g (mm x R Z Y o A c G g) 8 is1 (pm_go call ns d 42 n 103 [u0, some (pm_r 8 i1), u2] [] (pm_u (mA Z A G) 8 is1 12 vs0, mB Y o c g, R, pm_tot, x))) rfl ?_
    refine (g_ok (f := 8) qs1 rfl).trans ?_
    exact (congrArg (fun z => pm_go call ns d 42 n 103 [u0, some (pm_r 8 i1), u2] [] (z, mB Y o c g, R, pm_tot, x)) (uA (by decide)))
  refine pW_eq 2 (pc' := 107) (L' := [u0, some (pm_r 8 i1), u2]) (S' := [pm_i ((pm_u A 8 is1 12 vs0) 8 i1 12)]) (M' := (mm x R Z Y o (pm_u A 8 is1 12 vs0) c G g)) (fun call n => ?_) ?_
  · refine Eq.trans (b := pm_g (mm x R Z Y o (pm_u A 8 is1 12 vs0) c G g) 8 i1 (pm_go call ns d 42 n 107 [u0, some (pm_r 8 i1), u2] [pm_i ((pm_u A 8 is1 12 vs0) 8 i1 12)] (mm x R Z Y o (pm_u A 8 is1 12 vs0) c G g))) rfl ?_
    refine (g_ok (f := 8) q1 rfl).trans ?_
    rfl
  refine pW_ret 1 (fun call n => ?_) k
  rfl
set_option maxRecDepth 20000 in
theorem b42_49 (hR : RS R) {i1 : Nat} {u2 : Option pm_V} (q1 : i1 < 8) {x2 : Nat} {o2 : Int64} {A2 : Nat → Nat → Nat → Int32} {c2 : Nat → Int64} {G2 : Nat → Nat → Int32} {g2 : Nat → Int64} {y : Int32} (hE : pE ns d 27 [pm_r 0 0, pm_i (A 8 i1 8)] (mm x R Z Y o A c G g) (.inl (some (pm_i y)), (mm x2 R Z Y o2 A2 c2 G2 g2))) (k : pW ns d 42 57 [some (pm_r 0 0), some (pm_r 8 i1), u2] [pm_i y] (mm x2 R Z Y o2 A2 c2 G2 g2) Q) : pW ns d 42 49 [some (pm_r 0 0), some (pm_r 8 i1), u2] [] (mm x R Z Y o A c G g) Q := by
  refine pW_eq 3 (pc' := 54) (L' := [some (pm_r 0 0), some (pm_r 8 i1), u2]) (S' := [pm_i (A 8 i1 8), pm_r 0 0]) (M' := (mm x R Z Y o A c G g)) (fun call n => ?_) ?_
  · refine Eq.trans (b := pm_g (mm x R Z Y o A c G g) 8 i1 (pm_go call ns d 42 n 54 [some (pm_r 0 0), some (pm_r 8 i1), u2] [pm_i (A 8 i1 8), pm_r 0 0] (mm x R Z Y o A c G g))) rfl ?_
    refine (g_ok (f := 8) q1 rfl).trans ?_
    rfl
  refine pW_call (pc' := 54) (r := []) (L' := [some (pm_r 0 0), some (pm_r 8 i1), u2]) 1 (fun call n => ?_) hE k
  exact Eq.trans (b := pm_g (mm x R Z Y o A c G g) 0 0 (pm_cl call 42 (pm_go call ns d 42 n) 54 27 [pm_r 0 0, pm_i (A 8 i1 8)] [] [some (pm_r 0 0), some (pm_r 8 i1), u2] (mm x R Z Y o A c G g))) rfl (g_ok (f := 0) (by decide) rfl)
set_option maxRecDepth 20000 in
theorem b42_60 (hR : RS R) {u0 : Option pm_V} {u1 : Option pm_V} {u2 : Option pm_V}   (k : Q (.inl (some (pm_i (-nI 5))), (mm x R Z Y o A c G g))) : pW ns d 42 60 [u0, u1, u2] [] (mm x R Z Y o A c G g) Q := by
  refine pW_ret 3 (fun call n => ?_) k
  rfl
set_option maxRecDepth 20000 in
theorem b42_31 (hR : RS R) {i1 : Nat} {u2 : Option pm_V} (q1 : i1 < 8) {x2 : Nat} {o2 : Int64} {A2 : Nat → Nat → Nat → Int32} {c2 : Nat → Int64} {G2 : Nat → Nat → Int32} {g2 : Nat → Int64} {y : Int32} (hE : pE ns d 115 [pm_r 8 i1, pm_i (nI 5)] (mm x R Z Y o A c G g) (.inl (some (pm_i y)), (mm x2 R Z Y o2 A2 c2 G2 g2))) (k : pW ns d 42 36 [some (pm_r 0 0), some (pm_r 8 i1), u2] [pm_i y] (mm x2 R Z Y o2 A2 c2 G2 g2) Q) : pW ns d 42 31 [some (pm_r 0 0), some (pm_r 8 i1), u2] [] (mm x R Z Y o A c G g) Q := by
  refine pW_call (pc' := 33) (r := []) (L' := [some (pm_r 0 0), some (pm_r 8 i1), u2]) 3 (fun call n => ?_) hE k
  exact Eq.trans (b := pm_g (mm x R Z Y o A c G g) 8 i1 (pm_cl call 42 (pm_go call ns d 42 n) 33 115 [pm_r 8 i1, pm_i (nI 5)] [] [some (pm_r 0 0), some (pm_r 8 i1), u2] (mm x R Z Y o A c G g))) rfl (g_ok (f := 8) q1 rfl)
set_option maxRecDepth 20000 in
theorem b42_57 (hR : RS R) {u0 : Option pm_V} {u1 : Option pm_V} {u2 : Option pm_V} {vs0 : Int32}   (k1 : vs0 = 0 → pW ns d 42 65 [u0, u1, u2] [] (mm x R Z Y o A c G g) Q) (k2 : ¬ (vs0 = 0) → pW ns d 42 60 [u0, u1, u2] [] (mm x R Z Y o A c G g) Q) : pW ns d 42 57 [u0, u1, u2] [pm_i vs0] (mm x R Z Y o A c G g) Q := by
  exact pW_if 1 (c := vs0 = 0) (fun call n => rfl) k1 k2
set_option maxRecDepth 20000 in
theorem b42_36 (hR : RS R) {i1 : Nat} {u2 : Option pm_V} {vs0 : Int32} (q1 : i1 < 8)  (k1 : vs0 = 0 → pW ns d 42 43 [some (pm_r 0 0), some (pm_r 8 i1), u2] [] (mm x R Z Y o A c G g) Q) (k2 : ¬ (vs0 = 0) → pW ns d 42 39 [some (pm_r 0 0), some (pm_r 8 i1), u2] [] (mm x R Z Y o A c G g) Q) : pW ns d 42 36 [some (pm_r 0 0), some (pm_r 8 i1), u2] [pm_i vs0] (mm x R Z Y o A c G g) Q := by
  exact pW_if 1 (c := vs0 = 0) (fun call n => rfl) k1 k2
set_option maxRecDepth 20000 in
theorem b42_65 (hR : RS R) {u0 : Option pm_V} {u1 : Option pm_V} {u2 : Option pm_V}   (k : Q (.inl (some (pm_i (-nI 10))), (mm x R Z Y o A c G g))) : pW ns d 42 65 [u0, u1, u2] [] (mm x R Z Y o A c G g) Q := by
  refine pW_ret 2 (fun call n => ?_) k
  rfl
set_option maxRecDepth 20000 in
theorem b42_43 (hR : RS R) {i1 : Nat} {u2 : Option pm_V} (q1 : i1 < 8)  (k1 : nI 0 = 0 → pW ns d 42 49 [some (pm_r 0 0), some (pm_r 8 i1), some (pm_i (nI 0))] [] (mm x R Z Y o A c G g) Q) (k2 : ¬ (nI 0 = 0) → pW ns d 42 60 [some (pm_r 0 0), some (pm_r 8 i1), some (pm_i (nI 0))] [] (mm x R Z Y o A c G g) Q) : pW ns d 42 43 [some (pm_r 0 0), some (pm_r 8 i1), u2] [] (mm x R Z Y o A c G g) Q := by
  exact pW_if 4 (c := nI 0 = 0) (fun call n => rfl) k1 k2
set_option maxRecDepth 20000 in
theorem t42_0 (hR : RS R) {i1 : Nat} {u2 : Option pm_V} (q1 : i1 < 8) (k1 : (A 8 i1 8 = A 3 0 5) → (A 3 0 3 = 0) → Q (.inl (some (pm_i (-nI 9))), (mm x R Z Y o A c G g))) (k2 : (A 8 i1 8 = A 3 0 5) → (¬ (A 3 0 3 = 0)) → pW ns d 42 81 [some (pm_r 0 0), some (pm_r 8 i1), u2] [] (mm x R Z Y o A c G g) Q) (k3 : (¬ (A 8 i1 8 = A 3 0 5)) → (A 8 i1 0 = 0) → Q (.inl (some (pm_i (-nI 5))), (mm x R Z Y o A c G g))) (k4 : (¬ (A 8 i1 8 = A 3 0 5)) → (¬ (A 8 i1 0 = 0)) → (A 10 i1 5 = nI 1) → Q (.inl (some (pm_i (-nI 5))), (mm x R Z Y o A c G g))) (k5 : (¬ (A 8 i1 8 = A 3 0 5)) → (¬ (A 8 i1 0 = 0)) → (¬ (A 10 i1 5 = nI 1)) → pW ns d 42 31 [some (pm_r 0 0), some (pm_r 8 i1), u2] [] (mm x R Z Y o A c G g) Q) : pW ns d 42 0 [some (pm_r 0 0), some (pm_r 8 i1), u2] [] (mm x R Z Y o A c G g) Q := by
  refine b42_0 hR q1 (fun h1 => ?_) (fun h1 => ?_)
  · skip
    refine b42_68 hR q1  (fun h2 => ?_) (fun h2 => ?_)
    · skip
      exact b42_78 hR   (k1 h1 h2)
    · skip
      exact (k2 h1 h2)
  · skip
    refine b42_14 hR q1  (fun h2 => ?_) (fun h2 => ?_)
    · skip
      refine b42_39 hR q1  (fun h3 => ?_) (fun h3 => ?_)
      · exact absurd h3 (by decide)
      · skip
        exact b42_60 hR   (k3 h1 h2)
    · skip
      refine b42_21 hR q1  (fun h3 => ?_) (fun h3 => ?_)
      · skip
        refine b42_39 hR q1  (fun h4 => ?_) (fun h4 => ?_)
        · exact absurd h4 (by decide)
        · skip
          exact b42_60 hR   (k4 h1 h2 h3)
      · skip
        exact (k5 h1 h2 h3)
set_option maxRecDepth 20000 in
theorem t42_68 (hR : RS R) {i1 : Nat} {u2 : Option pm_V} (q1 : i1 < 8) (k1 : (A 3 0 3 = 0) → Q (.inl (some (pm_i (-nI 9))), (mm x R Z Y o A c G g))) (k2 : (¬ (A 3 0 3 = 0)) → pW ns d 42 81 [some (pm_r 0 0), some (pm_r 8 i1), u2] [] (mm x R Z Y o A c G g) Q) : pW ns d 42 68 [some (pm_r 0 0), some (pm_r 8 i1), u2] [] (mm x R Z Y o A c G g) Q := by
  refine b42_68 hR q1 (fun h1 => ?_) (fun h1 => ?_)
  · skip
    exact b42_78 hR   (k1 h1)
  · skip
    exact (k2 h1)
set_option maxRecDepth 20000 in
theorem t42_14 (hR : RS R) {i1 : Nat} {u2 : Option pm_V} (q1 : i1 < 8) (k1 : (A 8 i1 0 = 0) → Q (.inl (some (pm_i (-nI 5))), (mm x R Z Y o A c G g))) (k2 : (¬ (A 8 i1 0 = 0)) → (A 10 i1 5 = nI 1) → Q (.inl (some (pm_i (-nI 5))), (mm x R Z Y o A c G g))) (k3 : (¬ (A 8 i1 0 = 0)) → (¬ (A 10 i1 5 = nI 1)) → pW ns d 42 31 [some (pm_r 0 0), some (pm_r 8 i1), u2] [] (mm x R Z Y o A c G g) Q) : pW ns d 42 14 [some (pm_r 0 0), some (pm_r 8 i1), u2] [] (mm x R Z Y o A c G g) Q := by
  refine b42_14 hR q1 (fun h1 => ?_) (fun h1 => ?_)
  · skip
    refine b42_39 hR q1  (fun h2 => ?_) (fun h2 => ?_)
    · exact absurd h2 (by decide)
    · skip
      exact b42_60 hR   (k1 h1)
  · skip
    refine b42_21 hR q1  (fun h2 => ?_) (fun h2 => ?_)
    · skip
      refine b42_39 hR q1  (fun h3 => ?_) (fun h3 => ?_)
      · exact absurd h3 (by decide)
      · skip
        exact b42_60 hR   (k2 h1 h2)
    · skip
      exact (k3 h1 h2)
set_option maxRecDepth 20000 in
theorem t42_39 (hR : RS R) {i1 : Nat} {u2 : Option pm_V} (q1 : i1 < 8) (k1 : Q (.inl (some (pm_i (-nI 5))), (mm x R Z Y o A c G g))) : pW ns d 42 39 [some (pm_r 0 0), some (pm_r 8 i1), u2] [] (mm x R Z Y o A c G g) Q := by
  refine b42_39 hR q1 (fun h1 => ?_) (fun h1 => ?_)
  · exact absurd h1 (by decide)
  · skip
    exact b42_60 hR   (k1 )
set_option maxRecDepth 20000 in
theorem t42_21 (hR : RS R) {i1 : Nat} {u2 : Option pm_V} (q1 : i1 < 8) (k1 : (A 10 i1 5 = nI 1) → Q (.inl (some (pm_i (-nI 5))), (mm x R Z Y o A c G g))) (k2 : (¬ (A 10 i1 5 = nI 1)) → pW ns d 42 31 [some (pm_r 0 0), some (pm_r 8 i1), u2] [] (mm x R Z Y o A c G g) Q) : pW ns d 42 21 [some (pm_r 0 0), some (pm_r 8 i1), u2] [] (mm x R Z Y o A c G g) Q := by
  refine b42_21 hR q1 (fun h1 => ?_) (fun h1 => ?_)
  · skip
    refine b42_39 hR q1  (fun h2 => ?_) (fun h2 => ?_)
    · exact absurd h2 (by decide)
    · skip
      exact b42_60 hR   (k1 h1)
  · skip
    exact (k2 h1)
set_option maxRecDepth 20000 in
theorem t42_57 (hR : RS R) {u0 : Option pm_V} {u1 : Option pm_V} {u2 : Option pm_V} {vs0 : Int32}  (k1 : (vs0 = 0) → Q (.inl (some (pm_i (-nI 10))), (mm x R Z Y o A c G g))) (k2 : (¬ (vs0 = 0)) → Q (.inl (some (pm_i (-nI 5))), (mm x R Z Y o A c G g))) : pW ns d 42 57 [u0, u1, u2] [pm_i vs0] (mm x R Z Y o A c G g) Q := by
  refine b42_57 hR  (fun h1 => ?_) (fun h1 => ?_)
  · skip
    exact b42_65 hR   (k1 h1)
  · skip
    exact b42_60 hR   (k2 h1)
set_option maxRecDepth 20000 in
theorem t42_36 (hR : RS R) {i1 : Nat} {u2 : Option pm_V} {vs0 : Int32} (q1 : i1 < 8) (k1 : (vs0 = 0) → pW ns d 42 49 [some (pm_r 0 0), some (pm_r 8 i1), some (pm_i (nI 0))] [] (mm x R Z Y o A c G g) Q) (k2 : (¬ (vs0 = 0)) → Q (.inl (some (pm_i (-nI 5))), (mm x R Z Y o A c G g))) : pW ns d 42 36 [some (pm_r 0 0), some (pm_r 8 i1), u2] [pm_i vs0] (mm x R Z Y o A c G g) Q := by
  refine b42_36 hR q1 (fun h1 => ?_) (fun h1 => ?_)
  · skip
    refine b42_43 hR q1  (fun h2 => ?_) (fun h2 => ?_)
    · skip
      exact (k1 h1)
    · exact absurd h2 (by decide)
  · skip
    refine b42_39 hR q1  (fun h2 => ?_) (fun h2 => ?_)
    · exact absurd h2 (by decide)
    · skip
      exact b42_60 hR   (k2 h1)
set_option maxRecDepth 20000 in
theorem t42_43 (hR : RS R) {i1 : Nat} {u2 : Option pm_V} (q1 : i1 < 8) (k1 : pW ns d 42 49 [some (pm_r 0 0), some (pm_r 8 i1), some (pm_i (nI 0))] [] (mm x R Z Y o A c G g) Q) : pW ns d 42 43 [some (pm_r 0 0), some (pm_r 8 i1), u2] [] (mm x R Z Y o A c G g) Q := by
  refine b42_43 hR q1 (fun h1 => ?_) (fun h1 => ?_)
  · skip
    exact (k1 )
  · exact absurd h1 (by decide)
/-! 43 JobLayer.attemptWrite -/
set_option maxRecDepth 20000 in
theorem b43_0 (hR : RS R) {i1 : Nat} {u2 : Option pm_V} {u3 : Option pm_V} {u4 : Option pm_V} {u5 : Option pm_V} (q1 : i1 < 8) {x2 : Nat} {o2 : Int64} {A2 : Nat → Nat → Nat → Int32} {c2 : Nat → Int64} {G2 : Nat → Nat → Int32} {g2 : Nat → Int64} {y : Int32} (hE : pE ns d 113 [pm_r 8 i1, pm_i (A 13 i1 1)] (mm x R Z Y o A c G g) (.inl (some (pm_i y)), (mm x2 R Z Y o2 A2 c2 G2 g2))) (k : pW ns d 43 13 [some (pm_r 0 0), some (pm_r 8 i1), some (pm_r 13 i1), u3, u4, u5] [pm_i y] (mm x2 R Z Y o2 A2 c2 G2 g2) Q) : pW ns d 43 0 [some (pm_r 0 0), some (pm_r 8 i1), u2, u3, u4, u5] [] (mm x R Z Y o A c G g) Q := by
  refine pW_eq 2 (pc' := 4) (L' := [some (pm_r 0 0), some (pm_r 8 i1), u2, u3, u4, u5]) (S' := [pm_r 13 i1]) (M' := (mm x R Z Y o A c G g)) (fun call n => ?_) ?_
  · refine Eq.trans (b := pm_g (mm x R Z Y o A c G g) 8 i1 (pm_go call ns d 43 n 4 [some (pm_r 0 0), some (pm_r 8 i1), u2, u3, u4, u5] [pm_a (R 8 i1 5)] (mm x R Z Y o A c G g))) rfl ?_
    refine (g_ok (f := 8) q1 rfl).trans ?_
    exact (congrArg (fun z => pm_go call ns d 43 n 4 [some (pm_r 0 0), some (pm_r 8 i1), u2, u3, u4, u5] [pm_a z] (mm x R Z Y o A c G g)) (rs_8_5 hR q1))
  refine pW_eq 4 (pc' := 10) (L' := [some (pm_r 0 0), some (pm_r 8 i1), some (pm_r 13 i1), u3, u4, u5]) (S' := [pm_i (A 13 i1 1), pm_r 8 i1]) (M' := (mm x R Z Y o A c G g)) (fun call n => ?_) ?_
  · refine Eq.trans (b := pm_g (mm x R Z Y o A c G g) 13 i1 (pm_go call ns d 43 n 10 [some (pm_r 0 0), some (pm_r 8 i1), some (pm_r 13 i1), u3, u4, u5] [pm_i (A 13 i1 1), pm_r 8 i1] (mm x R Z Y o A c G g))) rfl ?_
    refine (g_ok (f := 13) q1 rfl).trans ?_
    rfl
  refine pW_call (pc' := 10) (r := []) (L' := [some (pm_r 0 0), some (pm_r 8 i1), some (pm_r 13 i1), u3, u4, u5]) 1 (fun call n => ?_) hE k
  exact Eq.trans (b := pm_g (mm x R Z Y o A c G g) 8 i1 (pm_cl call 43 (pm_go call ns d 43 n) 10 113 [pm_r 8 i1, pm_i (A 13 i1 1)] [] [some (pm_r 0 0), some (pm_r 8 i1), some (pm_r 13 i1), u3, u4, u5] (mm x R Z Y o A c G g))) rfl (g_ok (f := 8) q1 rfl)
set_option maxRecDepth 20000 in
theorem b43_13 (hR : RS R) {u1 : Option pm_V} {i2 : Nat} {u3 : Option pm_V} {u4 : Option pm_V} {u5 : Option pm_V} {vs0 : Int32} (q2 : i2 < 8)  (k1 : vs0 = nI 1 → pW ns d 43 19 [some (pm_r 0 0), u1, some (pm_r 13 i2), some (pm_i vs0), u4, u5] [] (mm x R Z Y o A c G g) Q) (k2 : ¬ (vs0 = nI 1) → pW ns d 43 55 [some (pm_r 0 0), u1, some (pm_r 13 i2), some (pm_i vs0), u4, u5] [] (mm x R Z Y o A c G g) Q) : pW ns d 43 13 [some (pm_r 0 0), u1, some (pm_r 13 i2), u3, u4, u5] [pm_i vs0] (mm x R Z Y o A c G g) Q := by
  exact pW_if 4 (c := vs0 = nI 1) (fun call n => rfl) k1 k2
set_option maxRecDepth 20000 in
theorem b43_19 (hR : RS R) {u1 : Option pm_V} {i2 : Nat} {v3 : Int32} {u4 : Option pm_V} {u5 : Option pm_V} (q2 : i2 < 8)  (k : pW ns d 43 22 [some (pm_r 0 0), u1, some (pm_r 13 i2), some (pm_i v3), some (pm_i (nI 0)), u5] [] (mm x R Z Y o A c G g) Q) : pW ns d 43 19 [some (pm_r 0 0), u1, some (pm_r 13 i2), some (pm_i v3), u4, u5] [] (mm x R Z Y o A c G g) Q := by
  exact pW_eq 2 (fun call n => rfl) k
set_option maxRecDepth 20000 in
theorem b43_55 (hR : RS R) {u1 : Option pm_V} {i2 : Nat} {v3 : Int32} {u4 : Option pm_V} {u5 : Option pm_V} (q2 : i2 < 8)  (k1 : (v3 / (nI 2)) - (nI 1) < 0 → pW ns d 43 74 [some (pm_r 0 0), u1, some (pm_r 13 i2), some (pm_i v3), some (pm_i ((v3 / (nI 2)) - (nI 1))), u5] [] (mm x R Z Y o A c G g) Q) (k2 : ¬ ((v3 / (nI 2)) - (nI 1) < 0) → pW ns d 43 67 [some (pm_r 0 0), u1, some (pm_r 13 i2), some (pm_i v3), some (pm_i ((v3 / (nI 2)) - (nI 1))), u5] [] (mm x R Z Y o A c G g) Q) : pW ns d 43 55 [some (pm_r 0 0), u1, some (pm_r 13 i2), some (pm_i v3), u4, u5] [] (mm x R Z Y o A c G g) Q := by
  refine pW_eq 3 (pc' := 58) (L' := [some (pm_r 0 0), u1, some (pm_r 13 i2), some (pm_i v3), u4, u5]) (S' := [pm_i (v3 / (nI 2))]) (M' := (mm x R Z Y o A c G g)) (fun call n => ?_) ?_
  · refine Eq.trans (b := if (nI 2) = 0 then none else pm_go call ns d 43 n 58 [some (pm_r 0 0), u1, some (pm_r 13 i2), some (pm_i v3), u4, u5] [pm_i (v3 / (nI 2))] (mm x R Z Y o A c G g)) rfl ?_
    refine (if_neg (by decide)).trans ?_
    rfl
  exact pW_if 5 (c := (v3 / (nI 2)) - (nI 1) < 0) (fun call n => rfl) k1 k2
set_option maxRecDepth 20000 in
theorem b43_22 (hR : RS R) {u1 : Option pm_V} {i2 : Nat} {v3 : Int32} {v4 : Int32} {u5 : Option pm_V} (q2 : i2 < 8)  (k1 : A 13 i2 2 ≤ v4 → pW ns d 43 50 [some (pm_r 0 0), u1, some (pm_r 13 i2), some (pm_i v3), some (pm_i v4), u5] [] (mm x R Z Y o A c G g) Q) (k2 : ¬ (A 13 i2 2 ≤ v4) → pW ns d 43 31 [some (pm_r 0 0), u1, some (pm_r 13 i2), some (pm_i v3), some (pm_i v4), u5] [] (mm x R Z Y o A c G g) Q) : pW ns d 43 22 [some (pm_r 0 0), u1, some (pm_r 13 i2), some (pm_i v3), some (pm_i v4), u5] [] (mm x R Z Y o A c G g) Q := by
  refine pW_eq 3 (pc' := 28) (L' := [some (pm_r 0 0), u1, some (pm_r 13 i2), some (pm_i v3), some (pm_i v4), u5]) (S' := [pm_i (A 13 i2 2), pm_i v4]) (M' := (mm x R Z Y o A c G g)) (fun call n => ?_) ?_
  · refine Eq.trans (b := pm_g (mm x R Z Y o A c G g) 13 i2 (pm_go call ns d 43 n 28 [some (pm_r 0 0), u1, some (pm_r 13 i2), some (pm_i v3), some (pm_i v4), u5] [pm_i (A 13 i2 2), pm_i v4] (mm x R Z Y o A c G g))) rfl ?_
    refine (g_ok (f := 13) q2 rfl).trans ?_
    rfl
  exact pW_if 1 (c := A 13 i2 2 ≤ v4) (fun call n => rfl) k1 k2
set_option maxRecDepth 20000 in
theorem b43_74 (hR : RS R) {u0 : Option pm_V} {u1 : Option pm_V} {u2 : Option pm_V} {u3 : Option pm_V} {u4 : Option pm_V} {u5 : Option pm_V}   (k : Q (.inl (some (pm_i (-nI 1))), (mm x R Z Y o A c G g))) : pW ns d 43 74 [u0, u1, u2, u3, u4, u5] [] (mm x R Z Y o A c G g) Q := by
  refine pW_ret 2 (fun call n => ?_) k
  rfl
set_option maxRecDepth 20000 in
theorem b43_67 (hR : RS R) {u1 : Option pm_V} {i2 : Nat} {u3 : Option pm_V} {v4 : Int32} {u5 : Option pm_V} (q2 : i2 < 8)  (k1 : v4 < nI 6 → pW ns d 43 76 [some (pm_r 0 0), u1, some (pm_r 13 i2), u3, some (pm_i v4), u5] [] (mm x R Z Y o A c G g) Q) (k2 : ¬ (v4 < nI 6) → pW ns d 43 74 [some (pm_r 0 0), u1, some (pm_r 13 i2), u3, some (pm_i v4), u5] [] (mm x R Z Y o A c G g) Q) : pW ns d 43 67 [some (pm_r 0 0), u1, some (pm_r 13 i2), u3, some (pm_i v4), u5] [] (mm x R Z Y o A c G g) Q := by
  exact pW_if 3 (c := v4 < nI 6) (fun call n => rfl) k1 k2
set_option maxRecDepth 20000 in
theorem b43_50 (hR : RS R) {u0 : Option pm_V} {u1 : Option pm_V} {i2 : Nat} {u3 : Option pm_V} {u4 : Option pm_V} {u5 : Option pm_V} (q2 : i2 < 8)  (k : Q (.inl (some (pm_i (A 13 i2 2))), (mm x R Z Y o A c G g))) : pW ns d 43 50 [u0, u1, some (pm_r 13 i2), u3, u4, u5] [] (mm x R Z Y o A c G g) Q := by
  refine pW_eq 2 (pc' := 54) (L' := [u0, u1, some (pm_r 13 i2), u3, u4, u5]) (S' := [pm_i (A 13 i2 2)]) (M' := (mm x R Z Y o A c G g)) (fun call n => ?_) ?_
  · refine Eq.trans (b := pm_g (mm x R Z Y o A c G g) 13 i2 (pm_go call ns d 43 n 54 [u0, u1, some (pm_r 13 i2), u3, u4, u5] [pm_i (A 13 i2 2)] (mm x R Z Y o A c G g))) rfl ?_
    refine (g_ok (f := 13) q2 rfl).trans ?_
    rfl
  refine pW_ret 1 (fun call n => ?_) k
  rfl
set_option maxRecDepth 20000 in
theorem b43_31 (hR : RS R) {u1 : Option pm_V} {i2 : Nat} {v3 : Int32} {v4 : Int32} {u5 : Option pm_V} (q2 : i2 < 8) {x2 : Nat} {o2 : Int64} {A2 : Nat → Nat → Nat → Int32} {c2 : Nat → Int64} {G2 : Nat → Nat → Int32} {g2 : Nat → Int64} {y : Int32} (hE : pE ns d 108 [pm_r 13 i2, pm_i v4] (mm x R Z Y o A c G g) (.inl (some (pm_i y)), (mm x2 R Z Y o2 A2 c2 G2 g2))) (k : pW ns d 43 41 [some (pm_r 0 0), u1, some (pm_r 13 i2), some (pm_i v3), some (pm_i v4), u5] [pm_i y, pm_r 3 0] (mm x2 R Z Y o2 A2 c2 G2 g2) Q) : pW ns d 43 31 [some (pm_r 0 0), u1, some (pm_r 13 i2), some (pm_i v3), some (pm_i v4), u5] [] (mm x R Z Y o A c G g) Q := by
  refine pW_eq 2 (pc' := 35) (L' := [some (pm_r 0 0), u1, some (pm_r 13 i2), some (pm_i v3), some (pm_i v4), u5]) (S' := [pm_r 3 0]) (M' := (mm x R Z Y o A c G g)) (fun call n => ?_) ?_
  · refine Eq.trans (b := pm_g (mm x R Z Y o A c G g) 0 0 (pm_go call ns d 43 n 35 [some (pm_r 0 0), u1, some (pm_r 13 i2), some (pm_i v3), some (pm_i v4), u5] [pm_a (R 0 0 2)] (mm x R Z Y o A c G g))) rfl ?_
    refine (g_ok (f := 0) (by decide) rfl).trans ?_
    exact (congrArg (fun z => pm_go call ns d 43 n 35 [some (pm_r 0 0), u1, some (pm_r 13 i2), some (pm_i v3), some (pm_i v4), u5] [pm_a z] (mm x R Z Y o A c G g)) (rs_0_2 hR))
  refine pW_call (pc' := 38) (r := [pm_r 3 0]) (L' := [some (pm_r 0 0), u1, some (pm_r 13 i2), some (pm_i v3), some (pm_i v4), u5]) 3 (fun call n => ?_) hE k
  exact Eq.trans (b := pm_g (mm x R Z Y o A c G g) 13 i2 (pm_cl call 43 (pm_go call ns d 43 n) 38 108 [pm_r 13 i2, pm_i v4] [pm_r 3 0] [some (pm_r 0 0), u1, some (pm_r 13 i2), some (pm_i v3), some (pm_i v4), u5] (mm x R Z Y o A c G g))) rfl (g_ok (f := 13) q2 rfl)
set_option maxRecDepth 20000 in
theorem b43_76 (hR : RS R) {u1 : Option pm_V} {i2 : Nat} {u3 : Option pm_V} {v4 : Int32} {u5 : Option pm_V} (q2 : i2 < 8) {x2 : Nat} {o2 : Int64} {A2 : Nat → Nat → Nat → Int32} {c2 : Nat → Int64} {G2 : Nat → Nat → Int32} {g2 : Nat → Int64} {y : Int32} (hE : pE ns d 28 [pm_r 0 0, pm_i ((nI 2) + ((nI 2) * v4))] (mm x R Z Y o A c G g) (.inl (some (pm_i y)), (mm x2 R Z Y o2 A2 c2 G2 g2))) (k : pW ns d 43 86 [some (pm_r 0 0), u1, some (pm_r 13 i2), u3, some (pm_i v4), u5] [pm_i y] (mm x2 R Z Y o2 A2 c2 G2 g2) Q) : pW ns d 43 76 [some (pm_r 0 0), u1, some (pm_r 13 i2), u3, some (pm_i v4), u5] [] (mm x R Z Y o A c G g) Q := by
  refine pW_call (pc' := 83) (r := []) (L' := [some (pm_r 0 0), u1, some (pm_r 13 i2), u3, some (pm_i v4), u5]) 7 (fun call n => ?_) hE k
  exact Eq.trans (b := pm_g (mm x R Z Y o A c G g) 0 0 (pm_cl call 43 (pm_go call ns d 43 n) 83 28 [pm_r 0 0, pm_i ((nI 2) + ((nI 2) * v4))] [] [some (pm_r 0 0), u1, some (pm_r 13 i2), u3, some (pm_i v4), u5] (mm x R Z Y o A c G g))) rfl (g_ok (f := 0) (by decide) rfl)
set_option maxRecDepth 20000 in
theorem b43_41 (hR : RS R) {u1 : Option pm_V} {i2 : Nat} {v3 : Int32} {v4 : Int32} {u5 : Option pm_V} {vs0 : Int32} (q2 : i2 < 8) {x2 : Nat} {o2 : Int64} {A2 : Nat → Nat → Nat → Int32} {c2 : Nat → Int64} {G2 : Nat → Nat → Int32} {g2 : Nat → Int64}  (hE : pE ns d 124 [pm_r 3 0, pm_i vs0] (mm x R Z Y o A c G g) (.inl (none), (mm x2 R Z Y o2 A2 c2 G2 g2))) (k : pW ns d 43 44 [some (pm_r 0 0), u1, some (pm_r 13 i2), some (pm_i v3), some (pm_i v4), u5] [] (mm x2 R Z Y o2 A2 c2 G2 g2) Q) : pW ns d 43 41 [some (pm_r 0 0), u1, some (pm_r 13 i2), some (pm_i v3), some (pm_i v4), u5] [pm_i vs0, pm_r 3 0] (mm x R Z Y o A c G g) Q := by
  refine pW_call (pc' := 41) (r := []) (L' := [some (pm_r 0 0), u1, some (pm_r 13 i2), some (pm_i v3), some (pm_i v4), u5]) 1 (fun call n => ?_) hE k
  exact Eq.trans (b := pm_g (mm x R Z Y o A c G g) 3 0 (pm_cl call 43 (pm_go call ns d 43 n) 41 124 [pm_r 3 0, pm_i vs0] [] [some (pm_r 0 0), u1, some (pm_r 13 i2), some (pm_i v3), some (pm_i v4), u5] (mm x R Z Y o A c G g))) rfl (g_ok (f := 3) (by decide) rfl)
set_option maxRecDepth 20000 in
theorem b43_86 (hR : RS R) {u1 : Option pm_V} {i2 : Nat} {u3 : Option pm_V} {v4 : Int32} {u5 : Option pm_V} {vs0 : Int32} (q2 : i2 < 8)  (k1 : vs0 = 0 → pW ns d 43 89 [some (pm_r 0 0), u1, some (pm_r 13 i2), u3, some (pm_i v4), u5] [] (mm x R Z Y o A c G g) Q) (k2 : ¬ (vs0 = 0) → pW ns d 43 92 [some (pm_r 0 0), u1, some (pm_r 13 i2), u3, some (pm_i v4), u5] [] (mm x R Z Y o A c G g) Q) : pW ns d 43 86 [some (pm_r 0 0), u1, some (pm_r 13 i2), u3, some (pm_i v4), u5] [pm_i vs0] (mm x R Z Y o A c G g) Q := by
  exact pW_if 1 (c := vs0 = 0) (fun call n => rfl) k1 k2
set_option maxRecDepth 20000 in
theorem b43_44 (hR : RS R) {u1 : Option pm_V} {i2 : Nat} {v3 : Int32} {v4 : Int32} {u5 : Option pm_V} (q2 : i2 < 8)  (k : pW ns d 43 22 [some (pm_r 0 0), u1, some (pm_r 13 i2), some (pm_i v3), some (pm_i (v4 + (nI 1))), u5] [] (mm x R Z Y o A c G g) Q) : pW ns d 43 44 [some (pm_r 0 0), u1, some (pm_r 13 i2), some (pm_i v3), some (pm_i v4), u5] [] (mm x R Z Y o A c G g) Q := by
  exact pW_eq 2 (fun call n => rfl) k
set_option maxRecDepth 20000 in
theorem b43_89 (hR : RS R) {u0 : Option pm_V} {u1 : Option pm_V} {u2 : Option pm_V} {u3 : Option pm_V} {u4 : Option pm_V} {u5 : Option pm_V}   (k : Q (.inl (some (pm_i (-nI 6))), (mm x R Z Y o A c G g))) : pW ns d 43 89 [u0, u1, u2, u3, u4, u5] [] (mm x R Z Y o A c G g) Q := by
  refine pW_ret 2 (fun call n => ?_) k
  rfl
set_option maxRecDepth 20000 in
theorem b43_92 (hR : RS R) {u1 : Option pm_V} {i2 : Nat} {u3 : Option pm_V} {v4 : Int32} {u5 : Option pm_V} {j1 : Nat} (q2 : i2 < 8) (e1 : v4 = nI j1) (l1 : j1 < 6) {x2 : Nat} {o2 : Int64} {A2 : Nat → Nat → Nat → Int32} {c2 : Nat → Int64} {G2 : Nat → Nat → Int32} {g2 : Nat → Int64} {y : Int32} (hE : pE ns d 103 [pm_r 4 j1] (mm x R Z Y o A c G g) (.inl (some (pm_i y)), (mm x2 R Z Y o2 A2 c2 G2 g2))) (k : pW ns d 43 102 [some (pm_r 0 0), u1, some (pm_r 13 i2), u3, some (pm_i v4), u5] [pm_i y] (mm x2 R Z Y o2 A2 c2 G2 g2) Q) : pW ns d 43 92 [some (pm_r 0 0), u1, some (pm_r 13 i2), u3, some (pm_i v4), u5] [] (mm x R Z Y o A c G g) Q := by
  refine pW_eq 2 (pc' := 96) (L' := [some (pm_r 0 0), u1, some (pm_r 13 i2), u3, some (pm_i v4), u5]) (S' := [pm_r 2 0]) (M' := (mm x R Z Y o A c G g)) (fun call n => ?_) ?_
  · refine Eq.trans (b := pm_g (mm x R Z Y o A c G g) 0 0 (pm_go call ns d 43 n 96 [some (pm_r 0 0), u1, some (pm_r 13 i2), u3, some (pm_i v4), u5] [pm_a (R 0 0 1)] (mm x R Z Y o A c G g))) rfl ?_
    refine (g_ok (f := 0) (by decide) rfl).trans ?_
    exact (congrArg (fun z => pm_go call ns d 43 n 96 [some (pm_r 0 0), u1, some (pm_r 13 i2), u3, some (pm_i v4), u5] [pm_a z] (mm x R Z Y o A c G g)) (rs_0_1 hR))
  refine pW_eq 2 (pc' := 99) (L' := [some (pm_r 0 0), u1, some (pm_r 13 i2), u3, some (pm_i v4), u5]) (S' := [pm_r 4 j1]) (M' := (mm x R Z Y o A c G g)) (fun call n => ?_) ?_
  · refine Eq.trans (b := pm_g (mm x R Z Y o A c G g) 2 0 (pm_ix (v4) 6 (fun jx => pm_go call ns d 43 n 99 [some (pm_r 0 0), u1, some (pm_r 13 i2), u3, some (pm_i v4), u5] [pm_a (R 2 0 jx)] (mm x R Z Y o A c G g)))) rfl ?_
    refine (g_ok (f := 2) (by decide) rfl).trans ?_
    refine (ix_ok (j := j1) e1 l1 (by decide)).trans ?_
    exact (congrArg (fun z => pm_go call ns d 43 n 99 [some (pm_r 0 0), u1, some (pm_r 13 i2), u3, some (pm_i v4), u5] [pm_a z] (mm x R Z Y o A c G g)) (rs_2 hR (k := j1) l1))
  refine pW_call (pc' := 99) (r := []) (L' := [some (pm_r 0 0), u1, some (pm_r 13 i2), u3, some (pm_i v4), u5]) 1 (fun call n => ?_) hE k
  exact Eq.trans (b := pm_g (mm x R Z Y o A c G g) 4 j1 (pm_cl call 43 (pm_go call ns d 43 n) 99 103 [pm_r 4 j1] [] [some (pm_r 0 0), u1, some (pm_r 13 i2), u3, some (pm_i v4), u5] (mm x R Z Y o A c G g))) rfl (g_ok (f := 4) l1 rfl)
set_option maxRecDepth 20000 in
theorem b43_102 (hR : RS R) {u1 : Option pm_V} {i2 : Nat} {u3 : Option pm_V} {v4 : Int32} {u5 : Option pm_V} {vs0 : Int32} (q2 : i2 < 8)  (k1 : A 13 i2 2 ≤ vs0 → pW ns d 43 112 [some (pm_r 0 0), u1, some (pm_r 13 i2), u3, some (pm_i v4), u5] [] (mm x R Z Y o A c G g) Q) (k2 : ¬ (A 13 i2 2 ≤ vs0) → pW ns d 43 109 [some (pm_r 0 0), u1, some (pm_r 13 i2), u3, some (pm_i v4), u5] [] (mm x R Z Y o A c G g) Q) : pW ns d 43 102 [some (pm_r 0 0), u1, some (pm_r 13 i2), u3, some (pm_i v4), u5] [pm_i vs0] (mm x R Z Y o A c G g) Q := by
  refine pW_eq 2 (pc' := 106) (L' := [some (pm_r 0 0), u1, some (pm_r 13 i2), u3, some (pm_i v4), u5]) (S' := [pm_i (A 13 i2 2), pm_i vs0]) (M' := (mm x R Z Y o A c G g)) (fun call n => ?_) ?_
  · refine Eq.trans (b := pm_g (mm x R Z Y o A c G g) 13 i2 (pm_go call ns d 43 n 106 [some (pm_r 0 0), u1, some (pm_r 13 i2), u3, some (pm_i v4), u5] [pm_i (A 13 i2 2), pm_i vs0] (mm x R Z Y o A c G g))) rfl ?_
    refine (g_ok (f := 13) q2 rfl).trans ?_
    rfl
  exact pW_if 1 (c := A 13 i2 2 ≤ vs0) (fun call n => rfl) k1 k2
set_option maxRecDepth 20000 in
theorem b43_112 (hR : RS R) {u1 : Option pm_V} {i2 : Nat} {u3 : Option pm_V} {v4 : Int32} {u5 : Option pm_V} (q2 : i2 < 8)  (k : pW ns d 43 115 [some (pm_r 0 0), u1, some (pm_r 13 i2), u3, some (pm_i v4), some (pm_i (nI 0))] [] (mm x R Z Y o A c G g) Q) : pW ns d 43 112 [some (pm_r 0 0), u1, some (pm_r 13 i2), u3, some (pm_i v4), u5] [] (mm x R Z Y o A c G g) Q := by
  exact pW_eq 2 (fun call n => rfl) k
set_option maxRecDepth 20000 in
theorem b43_109 (hR : RS R) {u0 : Option pm_V} {u1 : Option pm_V} {u2 : Option pm_V} {u3 : Option pm_V} {u4 : Option pm_V} {u5 : Option pm_V}   (k : Q (.inl (some (pm_i (-nI 9))), (mm x R Z Y o A c G g))) : pW ns d 43 109 [u0, u1, u2, u3, u4, u5] [] (mm x R Z Y o A c G g) Q := by
  refine pW_ret 2 (fun call n => ?_) k
  rfl
set_option maxRecDepth 20000 in
theorem b43_115 (hR : RS R) {u1 : Option pm_V} {i2 : Nat} {u3 : Option pm_V} {v4 : Int32} {v5 : Int32} (q2 : i2 < 8)  (k1 : A 13 i2 2 ≤ v5 → pW ns d 43 146 [some (pm_r 0 0), u1, some (pm_r 13 i2), u3, some (pm_i v4), some (pm_i v5)] [] (mm x R Z Y o A c G g) Q) (k2 : ¬ (A 13 i2 2 ≤ v5) → pW ns d 43 124 [some (pm_r 0 0), u1, some (pm_r 13 i2), u3, some (pm_i v4), some (pm_i v5)] [] (mm x R Z Y o A c G g) Q) : pW ns d 43 115 [some (pm_r 0 0), u1, some (pm_r 13 i2), u3, some (pm_i v4), some (pm_i v5)] [] (mm x R Z Y o A c G g) Q := by
  refine pW_eq 3 (pc' := 121) (L' := [some (pm_r 0 0), u1, some (pm_r 13 i2), u3, some (pm_i v4), some (pm_i v5)]) (S' := [pm_i (A 13 i2 2), pm_i v5]) (M' := (mm x R Z Y o A c G g)) (fun call n => ?_) ?_
  · refine Eq.trans (b := pm_g (mm x R Z Y o A c G g) 13 i2 (pm_go call ns d 43 n 121 [some (pm_r 0 0), u1, some (pm_r 13 i2), u3, some (pm_i v4), some (pm_i v5)] [pm_i (A 13 i2 2), pm_i v5] (mm x R Z Y o A c G g))) rfl ?_
    refine (g_ok (f := 13) q2 rfl).trans ?_
    rfl
  exact pW_if 1 (c := A 13 i2 2 ≤ v5) (fun call n => rfl) k1 k2
set_option maxRecDepth 20000 in
theorem b43_146 (hR : RS R) {u0 : Option pm_V} {u1 : Option pm_V} {i2 : Nat} {u3 : Option pm_V} {u4 : Option pm_V} {u5 : Option pm_V} (q2 : i2 < 8)  (k : Q (.inl (some (pm_i (A 13 i2 2))), (mm x R Z Y o A c G g))) : pW ns d 43 146 [u0, u1, some (pm_r 13 i2), u3, u4, u5] [] (mm x R Z Y o A c G g) Q := by
  refine pW_eq 2 (pc' := 150) (L' := [u0, u1, some (pm_r 13 i2), u3, u4, u5]) (S' := [pm_i (A 13 i2 2)]) (M' := (mm x R Z Y o A c G g)) (fun call n => ?_) ?_
  · refine Eq.trans (b := pm_g (mm x R Z Y o A c G g) 13 i2 (pm_go call ns d 43 n 150 [u0, u1, some (pm_r 13 i2), u3, u4, u5] [pm_i (A 13 i2 2)] (mm x R Z Y o A c G g))) rfl ?_
    refine (g_ok (f := 13) q2 rfl).trans ?_
    rfl
  refine pW_ret 1 (fun call n => ?_) k
  rfl
set_option maxRecDepth 20000 in
theorem b43_124 (hR : RS R) {u1 : Option pm_V} {i2 : Nat} {u3 : Option pm_V} {v4 : Int32} {v5 : Int32} {j1 : Nat} (q2 : i2 < 8) (e1 : v4 = nI j1) (l1 : j1 < 6) {x2 : Nat} {o2 : Int64} {A2 : Nat → Nat → Nat → Int32} {c2 : Nat → Int64} {G2 : Nat → Nat → Int32} {g2 : Nat → Int64} {y : Int32} (hE : pE ns d 108 [pm_r 13 i2, pm_i v5] (mm x R Z Y o A c G g) (.inl (some (pm_i y)), (mm x2 R Z Y o2 A2 c2 G2 g2))) (k : pW ns d 43 137 [some (pm_r 0 0), u1, some (pm_r 13 i2), u3, some (pm_i v4), some (pm_i v5)] [pm_i y, pm_r 4 j1] (mm x2 R Z Y o2 A2 c2 G2 g2) Q) : pW ns d 43 124 [some (pm_r 0 0), u1, some (pm_r 13 i2), u3, some (pm_i v4), some (pm_i v5)] [] (mm x R Z Y o A c G g) Q := by
  refine pW_eq 2 (pc' := 128) (L' := [some (pm_r 0 0), u1, some (pm_r 13 i2), u3, some (pm_i v4), some (pm_i v5)]) (S' := [pm_r 2 0]) (M' := (mm x R Z Y o A c G g)) (fun call n => ?_) ?_
  · refine Eq.trans (b := pm_g (mm x R Z Y o A c G g) 0 0 (pm_go call ns d 43 n 128 [some (pm_r 0 0), u1, some (pm_r 13 i2), u3, some (pm_i v4), some (pm_i v5)] [pm_a (R 0 0 1)] (mm x R Z Y o A c G g))) rfl ?_
    refine (g_ok (f := 0) (by decide) rfl).trans ?_
    exact (congrArg (fun z => pm_go call ns d 43 n 128 [some (pm_r 0 0), u1, some (pm_r 13 i2), u3, some (pm_i v4), some (pm_i v5)] [pm_a z] (mm x R Z Y o A c G g)) (rs_0_1 hR))
  refine pW_eq 2 (pc' := 131) (L' := [some (pm_r 0 0), u1, some (pm_r 13 i2), u3, some (pm_i v4), some (pm_i v5)]) (S' := [pm_r 4 j1]) (M' := (mm x R Z Y o A c G g)) (fun call n => ?_) ?_
  · refine Eq.trans (b := pm_g (mm x R Z Y o A c G g) 2 0 (pm_ix (v4) 6 (fun jx => pm_go call ns d 43 n 131 [some (pm_r 0 0), u1, some (pm_r 13 i2), u3, some (pm_i v4), some (pm_i v5)] [pm_a (R 2 0 jx)] (mm x R Z Y o A c G g)))) rfl ?_
    refine (g_ok (f := 2) (by decide) rfl).trans ?_
    refine (ix_ok (j := j1) e1 l1 (by decide)).trans ?_
    exact (congrArg (fun z => pm_go call ns d 43 n 131 [some (pm_r 0 0), u1, some (pm_r 13 i2), u3, some (pm_i v4), some (pm_i v5)] [pm_a z] (mm x R Z Y o A c G g)) (rs_2 hR (k := j1) l1))
  refine pW_call (pc' := 134) (r := [pm_r 4 j1]) (L' := [some (pm_r 0 0), u1, some (pm_r 13 i2), u3, some (pm_i v4), some (pm_i v5)]) 3 (fun call n => ?_) hE k
  exact Eq.trans (b := pm_g (mm x R Z Y o A c G g) 13 i2 (pm_cl call 43 (pm_go call ns d 43 n) 134 108 [pm_r 13 i2, pm_i v5] [pm_r 4 j1] [some (pm_r 0 0), u1, some (pm_r 13 i2), u3, some (pm_i v4), some (pm_i v5)] (mm x R Z Y o A c G g))) rfl (g_ok (f := 13) q2 rfl)
set_option maxRecDepth 20000 in
theorem b43_137 (hR : RS R) {u1 : Option pm_V} {i2 : Nat} {u3 : Option pm_V} {v4 : Int32} {v5 : Int32} {vs0 : Int32} {is1 : Nat} (q2 : i2 < 8) (qs1 : is1 < 6) {x2 : Nat} {o2 : Int64} {A2 : Nat → Nat → Nat → Int32} {c2 : Nat → Int64} {G2 : Nat → Nat → Int32} {g2 : Nat → Int64}  (hE : pE ns d 104 [pm_r 4 is1, pm_i vs0] (mm x R Z Y o A c G g) (.inl (none), (mm x2 R Z Y o2 A2 c2 G2 g2))) (k : pW ns d 43 140 [some (pm_r 0 0), u1, some (pm_r 13 i2), u3, some (pm_i v4), some (pm_i v5)] [] (mm x2 R Z Y o2 A2 c2 G2 g2) Q) : pW ns d 43 137 [some (pm_r 0 0), u1, some (pm_r 13 i2), u3, some (pm_i v4), some (pm_i v5)] [pm_i vs0, pm_r 4 is1] (mm x R Z Y o A c G g) Q := by
  refine pW_call (pc' := 137) (r := []) (L' := [some (pm_r 0 0), u1, some (pm_r 13 i2), u3, some (pm_i v4), some (pm_i v5)]) 1 (fun call n => ?_) hE k
  exact Eq.trans (b := pm_g (mm x R Z Y o A c G g) 4 is1 (pm_cl call 43 (pm_go call ns d 43 n) 137 104 [pm_r 4 is1, pm_i vs0] [] [some (pm_r 0 0), u1, some (pm_r 13 i2), u3, some (pm_i v4), some (pm_i v5)] (mm x R Z Y o A c G g))) rfl (g_ok (f := 4) qs1 rfl)
set_option maxRecDepth 20000 in
theorem b43_140 (hR : RS R) {u1 : Option pm_V} {i2 : Nat} {u3 : Option pm_V} {v4 : Int32} {v5 : Int32} (q2 : i2 < 8)  (k : pW ns d 43 115 [some (pm_r 0 0), u1, some (pm_r 13 i2), u3, some (pm_i v4), some (pm_i (v5 + (nI 1)))] [] (mm x R Z Y o A c G g) Q) : pW ns d 43 140 [some (pm_r 0 0), u1, some (pm_r 13 i2), u3, some (pm_i v4), some (pm_i v5)] [] (mm x R Z Y o A c G g) Q := by
  exact pW_eq 2 (fun call n => rfl) k
set_option maxRecDepth 20000 in
theorem t43_13 (hR : RS R) {u1 : Option pm_V} {i2 : Nat} {u3 : Option pm_V} {u4 : Option pm_V} {u5 : Option pm_V} {vs0 : Int32} (q2 : i2 < 8) (k1 : (vs0 = nI 1) → pW ns d 43 22 [some (pm_r 0 0), u1, some (pm_r 13 i2), some (pm_i vs0), some (pm_i (nI 0)), u5] [] (mm x R Z Y o A c G g) Q) (k2 : (¬ (vs0 = nI 1)) → ((vs0 / (nI 2)) - (nI 1) < 0) → Q (.inl (some (pm_i (-nI 1))), (mm x R Z Y o A c G g))) (k3 : (¬ (vs0 = nI 1)) → (¬ ((vs0 / (nI 2)) - (nI 1) < 0)) → ((vs0 / (nI 2)) - (nI 1) < nI 6) → pW ns d 43 76 [some (pm_r 0 0), u1, some (pm_r 13 i2), some (pm_i vs0), some (pm_i ((vs0 / (nI 2)) - (nI 1))), u5] [] (mm x R Z Y o A c G g) Q) (k4 : (¬ (vs0 = nI 1)) → (¬ ((vs0 / (nI 2)) - (nI 1) < 0)) → (¬ ((vs0 / (nI 2)) - (nI 1) < nI 6)) → Q (.inl (some (pm_i (-nI 1))), (mm x R Z Y o A c G g))) : pW ns d 43 13 [some (pm_r 0 0), u1, some (pm_r 13 i2), u3, u4, u5] [pm_i vs0] (mm x R Z Y o A c G g) Q := by
  refine b43_13 hR q2 (fun h1 => ?_) (fun h1 => ?_)
  · skip
    exact b43_19 hR q2  (k1 h1)
  · skip
    refine b43_55 hR q2  (fun h2 => ?_) (fun h2 => ?_)
    · skip
      exact b43_74 hR   (k2 h1 h2)
    · skip
      refine b43_67 hR q2  (fun h3 => ?_) (fun h3 => ?_)
      · skip
        exact (k3 h1 h2 h3)
      · skip
        exact b43_74 hR   (k4 h1 h2 h3)
set_option maxRecDepth 20000 in
theorem t43_55 (hR : RS R) {u1 : Option pm_V} {i2 : Nat} {v3 : Int32} {u4 : Option pm_V} {u5 : Option pm_V} (q2 : i2 < 8) (k1 : ((v3 / (nI 2)) - (nI 1) < 0) → Q (.inl (some (pm_i (-nI 1))), (mm x R Z Y o A c G g))) (k2 : (¬ ((v3 / (nI 2)) - (nI 1) < 0)) → ((v3 / (nI 2)) - (nI 1) < nI 6) → pW ns d 43 76 [some (pm_r 0 0), u1, some (pm_r 13 i2), some (pm_i v3), some (pm_i ((v3 / (nI 2)) - (nI 1))), u5] [] (mm x R Z Y o A c G g) Q) (k3 : (¬ ((v3 / (nI 2)) - (nI 1) < 0)) → (¬ ((v3 / (nI 2)) - (nI 1) < nI 6)) → Q (.inl (some (pm_i (-nI 1))), (mm x R Z Y o A c G g))) : pW ns d 43 55 [some (pm_r 0 0), u1, some (pm_r 13 i2), some (pm_i v3), u4, u5] [] (mm x R Z Y o A c G g) Q := by
  refine b43_55 hR q2 (fun h1 => ?_) (fun h1 => ?_)
  · skip
    exact b43_74 hR   (k1 h1)
  · skip
    refine b43_67 hR q2  (fun h2 => ?_) (fun h2 => ?_)
    · skip
      exact (k2 h1 h2)
    · skip
      exact b43_74 hR   (k3 h1 h2)
set_option maxRecDepth 20000 in
theorem t43_22 (hR : RS R) {u1 : Option pm_V} {i2 : Nat} {v3 : Int32} {v4 : Int32} {u5 : Option pm_V} (q2 : i2 < 8) (k1 : (A 13 i2 2 ≤ v4) → Q (.inl (some (pm_i (A 13 i2 2))), (mm x R Z Y o A c G g))) (k2 : (¬ (A 13 i2 2 ≤ v4)) → pW ns d 43 31 [some (pm_r 0 0), u1, some (pm_r 13 i2), some (pm_i v3), some (pm_i v4), u5] [] (mm x R Z Y o A c G g) Q) : pW ns d 43 22 [some (pm_r 0 0), u1, some (pm_r 13 i2), some (pm_i v3), some (pm_i v4), u5] [] (mm x R Z Y o A c G g) Q := by
  refine b43_22 hR q2 (fun h1 => ?_) (fun h1 => ?_)
  · skip
    exact b43_50 hR q2  (k1 h1)
  · skip
    exact (k2 h1)
set_option maxRecDepth 20000 in
theorem t43_67 (hR : RS R) {u1 : Option pm_V} {i2 : Nat} {u3 : Option pm_V} {v4 : Int32} {u5 : Option pm_V} (q2 : i2 < 8) (k1 : (v4 < nI 6) → pW ns d 43 76 [some (pm_r 0 0), u1, some (pm_r 13 i2), u3, some (pm_i v4), u5] [] (mm x R Z Y o A c G g) Q) (k2 : (¬ (v4 < nI 6)) → Q (.inl (some (pm_i (-nI 1))), (mm x R Z Y o A c G g))) : pW ns d 43 67 [some (pm_r 0 0), u1, some (pm_r 13 i2), u3, some (pm_i v4), u5] [] (mm x R Z Y o A c G g) Q := by
  refine b43_67 hR q2 (fun h1 => ?_) (fun h1 => ?_)
  · skip
    exact (k1 h1)
  · skip
    exact b43_74 hR   (k2 h1)
set_option maxRecDepth 20000 in
theorem t43_86 (hR : RS R) {u1 : Option pm_V} {i2 : Nat} {u3 : Option pm_V} {v4 : Int32} {u5 : Option pm_V} {vs0 : Int32} (q2 : i2 < 8) (k1 : (vs0 = 0) → Q (.inl (some (pm_i (-nI 6))), (mm x R Z Y o A c G g))) (k2 : (¬ (vs0 = 0)) → pW ns d 43 92 [some (pm_r 0 0), u1, some (pm_r 13 i2), u3, some (pm_i v4), u5] [] (mm x R Z Y o A c G g) Q) : pW ns d 43 86 [some (pm_r 0 0), u1, some (pm_r 13 i2), u3, some (pm_i v4), u5] [pm_i vs0] (mm x R Z Y o A c G g) Q := by
  refine b43_86 hR q2 (fun h1 => ?_) (fun h1 => ?_)
  · skip
    exact b43_89 hR   (k1 h1)
  · skip
    exact (k2 h1)
set_option maxRecDepth 20000 in
theorem t43_102 (hR : RS R) {u1 : Option pm_V} {i2 : Nat} {u3 : Option pm_V} {v4 : Int32} {u5 : Option pm_V} {vs0 : Int32} (q2 : i2 < 8) (k1 : (A 13 i2 2 ≤ vs0) → pW ns d 43 115 [some (pm_r 0 0), u1, some (pm_r 13 i2), u3, some (pm_i v4), some (pm_i (nI 0))] [] (mm x R Z Y o A c G g) Q) (k2 : (¬ (A 13 i2 2 ≤ vs0)) → Q (.inl (some (pm_i (-nI 9))), (mm x R Z Y o A c G g))) : pW ns d 43 102 [some (pm_r 0 0), u1, some (pm_r 13 i2), u3, some (pm_i v4), u5] [pm_i vs0] (mm x R Z Y o A c G g) Q := by
  refine b43_102 hR q2 (fun h1 => ?_) (fun h1 => ?_)
  · skip
    exact b43_112 hR q2  (k1 h1)
  · skip
    exact b43_109 hR   (k2 h1)
set_option maxRecDepth 20000 in
theorem t43_115 (hR : RS R) {u1 : Option pm_V} {i2 : Nat} {u3 : Option pm_V} {v4 : Int32} {v5 : Int32} (q2 : i2 < 8) (k1 : (A 13 i2 2 ≤ v5) → Q (.inl (some (pm_i (A 13 i2 2))), (mm x R Z Y o A c G g))) (k2 : (¬ (A 13 i2 2 ≤ v5)) → pW ns d 43 124 [some (pm_r 0 0), u1, some (pm_r 13 i2), u3, some (pm_i v4), some (pm_i v5)] [] (mm x R Z Y o A c G g) Q) : pW ns d 43 115 [some (pm_r 0 0), u1, some (pm_r 13 i2), u3, some (pm_i v4), some (pm_i v5)] [] (mm x R Z Y o A c G g) Q := by
  refine b43_115 hR q2 (fun h1 => ?_) (fun h1 => ?_)
  · skip
    exact b43_146 hR q2  (k1 h1)
  · skip
    exact (k2 h1)
/-! 44 JobLayer.attemptReap -/
set_option maxRecDepth 20000 in
theorem b44_0 (hR : RS R) {i1 : Nat} {u2 : Option pm_V} {u3 : Option pm_V} {u4 : Option pm_V} {u5 : Option pm_V} (q1 : i1 < 8)  (k : pW ns d 44 7 [some (pm_r 0 0), some (pm_r 8 i1), some (pm_i (nI 0)), some (pm_a none), some (pm_i (nI 0)), u5] [] (mm x R Z Y o A c G g) Q) : pW ns d 44 0 [some (pm_r 0 0), some (pm_r 8 i1), u2, u3, u4, u5] [] (mm x R Z Y o A c G g) Q := by
  exact pW_eq 6 (fun call n => rfl) k
set_option maxRecDepth 20000 in
theorem b44_7 (hR : RS R) {i1 : Nat} {v2 : Int32} {v4 : Int32} {u5 : Option pm_V} (q1 : i1 < 8)  (k1 : nI 8 ≤ v4 → pW ns d 44 105 [some (pm_r 0 0), some (pm_r 8 i1), some (pm_i v2), some (pm_a none), some (pm_i v4), u5] [] (mm x R Z Y o A c G g) Q) (k2 : ¬ (nI 8 ≤ v4) → pW ns d 44 14 [some (pm_r 0 0), some (pm_r 8 i1), some (pm_i v2), some (pm_a none), some (pm_i v4), u5] [] (mm x R Z Y o A c G g) Q) : pW ns d 44 7 [some (pm_r 0 0), some (pm_r 8 i1), some (pm_i v2), some (pm_a none), some (pm_i v4), u5] [] (mm x R Z Y o A c G g) Q := by
  exact pW_if 3 (c := nI 8 ≤ v4) (fun call n => rfl) k1 k2
set_option maxRecDepth 20000 in
theorem b44_105 (hR : RS R) {u0 : Option pm_V} {i1 : Nat} {v2 : Int32} {u4 : Option pm_V} {u5 : Option pm_V} (q1 : i1 < 8)  (k1 : v2 = 0 → pW ns d 44 142 [u0, some (pm_r 8 i1), some (pm_i v2), some (pm_a none), u4, u5] [] (mm x R Z Y o A c G g) Q) (k2 : ¬ (v2 = 0) → pW ns d 44 137 [u0, some (pm_r 8 i1), some (pm_i v2), some (pm_a none), u4, u5] [] (mm x R Z Y o A c G g) Q) : pW ns d 44 105 [u0, some (pm_r 8 i1), some (pm_i v2), some (pm_a none), u4, u5] [] (mm x R Z Y o A c G g) Q := by
  exact pW_if 4 (c := v2 = 0) (fun call n => rfl) k1 k2
set_option maxRecDepth 20000 in
theorem b44_14 (hR : RS R) {i1 : Nat} {v2 : Int32} {v4 : Int32} {u5 : Option pm_V} {j1 : Nat} (q1 : i1 < 8) (e1 : v4 = nI j1) (l1 : j1 < 8)  (k1 : A 8 j1 6 = 0 → pW ns d 44 99 [some (pm_r 0 0), some (pm_r 8 i1), some (pm_i v2), some (pm_a none), some (pm_i v4), some (pm_r 8 j1)] [] (mm x R Z Y o A c G g) Q) (k2 : ¬ (A 8 j1 6 = 0) → pW ns d 44 31 [some (pm_r 0 0), some (pm_r 8 i1), some (pm_i v2), some (pm_a none), some (pm_i v4), some (pm_r 8 j1)] [] (mm x R Z Y o A c G g) Q) : pW ns d 44 14 [some (pm_r 0 0), some (pm_r 8 i1), some (pm_i v2), some (pm_a none), some (pm_i v4), u5] [] (mm x R Z Y o A c G g) Q := by
  refine pW_eq 2 (pc' := 18) (L' := [some (pm_r 0 0), some (pm_r 8 i1), some (pm_i v2), some (pm_a none), some (pm_i v4), u5]) (S' := [pm_r 1 0]) (M' := (mm x R Z Y o A c G g)) (fun call n => ?_) ?_
  · refine Eq.trans (b := pm_g (mm x R Z Y o A c G g) 0 0 (pm_go call ns d 44 n 18 [some (pm_r 0 0), some (pm_r 8 i1), some (pm_i v2), some (pm_a none), some (pm_i v4), u5] [pm_a (R 0 0 0)] (mm x R Z Y o A c G g))) rfl ?_
    refine (g_ok (f := 0) (by decide) rfl).trans ?_
    exact (congrArg (fun z => pm_go call ns d 44 n 18 [some (pm_r 0 0), some (pm_r 8 i1), some (pm_i v2), some (pm_a none), some (pm_i v4), u5] [pm_a z] (mm x R Z Y o A c G g)) (rs_0_0 hR))
  refine pW_eq 2 (pc' := 21) (L' := [some (pm_r 0 0), some (pm_r 8 i1), some (pm_i v2), some (pm_a none), some (pm_i v4), u5]) (S' := [pm_r 8 j1]) (M' := (mm x R Z Y o A c G g)) (fun call n => ?_) ?_
  · refine Eq.trans (b := pm_g (mm x R Z Y o A c G g) 1 0 (pm_ix (v4) 8 (fun jx => pm_go call ns d 44 n 21 [some (pm_r 0 0), some (pm_r 8 i1), some (pm_i v2), some (pm_a none), some (pm_i v4), u5] [pm_a (R 1 0 jx)] (mm x R Z Y o A c G g)))) rfl ?_
    refine (g_ok (f := 1) (by decide) rfl).trans ?_
    refine (ix_ok (j := j1) e1 l1 (by decide)).trans ?_
    exact (congrArg (fun z => pm_go call ns d 44 n 21 [some (pm_r 0 0), some (pm_r 8 i1), some (pm_i v2), some (pm_a none), some (pm_i v4), u5] [pm_a z] (mm x R Z Y o A c G g)) (rs_1 hR (k := j1) l1))
  refine pW_eq 3 (pc' := 28) (L' := [some (pm_r 0 0), some (pm_r 8 i1), some (pm_i v2), some (pm_a none), some (pm_i v4), some (pm_r 8 j1)]) (S' := [pm_i (A 8 j1 6)]) (M' := (mm x R Z Y o A c G g)) (fun call n => ?_) ?_
  · refine Eq.trans (b := pm_g (mm x R Z Y o A c G g) 8 j1 (pm_go call ns d 44 n 28 [some (pm_r 0 0), some (pm_r 8 i1), some (pm_i v2), some (pm_a none), some (pm_i v4), some (pm_r 8 j1)] [pm_i (A 8 j1 6)] (mm x R Z Y o A c G g))) rfl ?_
    refine (g_ok (f := 8) l1 rfl).trans ?_
    rfl
  exact pW_if 1 (c := A 8 j1 6 = 0) (fun call n => rfl) k1 k2
set_option maxRecDepth 20000 in
theorem b44_142 (hR : RS R) {u0 : Option pm_V} {u1 : Option pm_V} {u2 : Option pm_V} {u3 : Option pm_V} {u4 : Option pm_V} {u5 : Option pm_V}   (k : Q (.inl (some (pm_i (-nI 3))), (mm x R Z Y o A c G g))) : pW ns d 44 142 [u0, u1, u2, u3, u4, u5] [] (mm x R Z Y o A c G g) Q := by
  refine pW_ret 2 (fun call n => ?_) k
  rfl
set_option maxRecDepth 20000 in
theorem b44_137 (hR : RS R) {u0 : Option pm_V} {u1 : Option pm_V} {u2 : Option pm_V} {u3 : Option pm_V} {u4 : Option pm_V} {u5 : Option pm_V}   (k : Q (.inl (some (pm_i (-nI 9))), (mm x R Z Y o A c G g))) : pW ns d 44 137 [u0, u1, u2, u3, u4, u5] [] (mm x R Z Y o A c G g) Q := by
  refine pW_ret 3 (fun call n => ?_) k
  rfl
set_option maxRecDepth 20000 in
theorem b44_99 (hR : RS R) {i1 : Nat} {v2 : Int32} {v4 : Int32} {u5 : Option pm_V} (q1 : i1 < 8)  (k : pW ns d 44 7 [some (pm_r 0 0), some (pm_r 8 i1), some (pm_i v2), some (pm_a none), some (pm_i (v4 + (nI 1))), u5] [] (mm x R Z Y o A c G g) Q) : pW ns d 44 99 [some (pm_r 0 0), some (pm_r 8 i1), some (pm_i v2), some (pm_a none), some (pm_i v4), u5] [] (mm x R Z Y o A c G g) Q := by
  exact pW_eq 2 (fun call n => rfl) k
set_option maxRecDepth 20000 in
theorem b44_31 (hR : RS R) {i1 : Nat} {v2 : Int32} {v4 : Int32} {i5 : Nat} (q1 : i1 < 8) (q5 : i5 < 8)  (k1 : A 8 i5 7 = A 8 i1 0 → pW ns d 44 46 [some (pm_r 0 0), some (pm_r 8 i1), some (pm_i v2), some (pm_a none), some (pm_i v4), some (pm_r 8 i5)] [] (mm x R Z Y o A c G g) Q) (k2 : ¬ (A 8 i5 7 = A 8 i1 0) → pW ns d 44 43 [some (pm_r 0 0), some (pm_r 8 i1), some (pm_i v2), some (pm_a none), some (pm_i v4), some (pm_r 8 i5)] [] (mm x R Z Y o A c G g) Q) : pW ns d 44 31 [some (pm_r 0 0), some (pm_r 8 i1), some (pm_i v2), some (pm_a none), some (pm_i v4), some (pm_r 8 i5)] [] (mm x R Z Y o A c G g) Q := by
  refine pW_eq 2 (pc' := 36) (L' := [some (pm_r 0 0), some (pm_r 8 i1), some (pm_i v2), some (pm_a none), some (pm_i v4), some (pm_r 8 i5)]) (S' := [pm_i (A 8 i5 7)]) (M' := (mm x R Z Y o A c G g)) (fun call n => ?_) ?_
  · refine Eq.trans (b := pm_g (mm x R Z Y o A c G g) 8 i5 (pm_go call ns d 44 n 36 [some (pm_r 0 0), some (pm_r 8 i1), some (pm_i v2), some (pm_a none), some (pm_i v4), some (pm_r 8 i5)] [pm_i (A 8 i5 7)] (mm x R Z Y o A c G g))) rfl ?_
    refine (g_ok (f := 8) q5 rfl).trans ?_
    rfl
  refine pW_eq 2 (pc' := 40) (L' := [some (pm_r 0 0), some (pm_r 8 i1), some (pm_i v2), some (pm_a none), some (pm_i v4), some (pm_r 8 i5)]) (S' := [pm_i (A 8 i1 0), pm_i (A 8 i5 7)]) (M' := (mm x R Z Y o A c G g)) (fun call n => ?_) ?_
  · refine Eq.trans (b := pm_g (mm x R Z Y o A c G g) 8 i1 (pm_go call ns d 44 n 40 [some (pm_r 0 0), some (pm_r 8 i1), some (pm_i v2), some (pm_a none), some (pm_i v4), some (pm_r 8 i5)] [pm_i (A 8 i1 0), pm_i (A 8 i5 7)] (mm x R Z Y o A c G g))) rfl ?_
    refine (g_ok (f := 8) q1 rfl).trans ?_
    rfl
  exact pW_if 1 (c := A 8 i5 7 = A 8 i1 0) (fun call n => rfl) k1 k2
set_option maxRecDepth 20000 in
theorem b44_46 (hR : RS R) {i1 : Nat} {u2 : Option pm_V} {v4 : Int32} {i5 : Nat} (q1 : i1 < 8) (q5 : i5 < 8)  (k1 : A 8 i5 6 = nI 4 → pW ns d 44 57 [some (pm_r 0 0), some (pm_r 8 i1), some (pm_i (nI 1)), some (pm_a none), some (pm_i v4), some (pm_r 8 i5)] [] (mm x R Z Y o A c G g) Q) (k2 : ¬ (A 8 i5 6 = nI 4) → pW ns d 44 75 [some (pm_r 0 0), some (pm_r 8 i1), some (pm_i (nI 1)), some (pm_a none), some (pm_i v4), some (pm_r 8 i5)] [] (mm x R Z Y o A c G g) Q) : pW ns d 44 46 [some (pm_r 0 0), some (pm_r 8 i1), u2, some (pm_a none), some (pm_i v4), some (pm_r 8 i5)] [] (mm x R Z Y o A c G g) Q := by
  refine pW_eq 4 (pc' := 53) (L' := [some (pm_r 0 0), some (pm_r 8 i1), some (pm_i (nI 1)), some (pm_a none), some (pm_i v4), some (pm_r 8 i5)]) (S' := [pm_i (A 8 i5 6)]) (M' := (mm x R Z Y o A c G g)) (fun call n => ?_) ?_
  · refine Eq.trans (b := pm_g (mm x R Z Y o A c G g) 8 i5 (pm_go call ns d 44 n 53 [some (pm_r 0 0), some (pm_r 8 i1), some (pm_i (nI 1)), some (pm_a none), some (pm_i v4), some (pm_r 8 i5)] [pm_i (A 8 i5 6)] (mm x R Z Y o A c G g))) rfl ?_
    refine (g_ok (f := 8) q5 rfl).trans ?_
    rfl
  exact pW_if 2 (c := A 8 i5 6 = nI 4) (fun call n => rfl) k1 k2
set_option maxRecDepth 20000 in
theorem b44_43 (hR : RS R) {i1 : Nat} {v2 : Int32} {v4 : Int32} {u5 : Option pm_V} (q1 : i1 < 8)  (k : pW ns d 44 7 [some (pm_r 0 0), some (pm_r 8 i1), some (pm_i v2), some (pm_a none), some (pm_i (v4 + (nI 1))), u5] [] (mm x R Z Y o A c G g) Q) : pW ns d 44 43 [some (pm_r 0 0), some (pm_r 8 i1), some (pm_i v2), some (pm_a none), some (pm_i v4), u5] [] (mm x R Z Y o A c G g) Q := by
  exact pW_eq 3 (fun call n => rfl) k
set_option maxRecDepth 20000 in
theorem b44_57 (hR : RS R) {u0 : Option pm_V} {u1 : Option pm_V} {u2 : Option pm_V} {u3 : Option pm_V} {v4 : Int32} {i5 : Nat} (q5 : i5 < 8)  (k : Q (.inl (some (pm_i (v4 + ((nI 8) * ((pm_u A 8 i5 6 (nI 0)) 8 i5 14))))), (mm x R Z Y o (pm_u A 8 i5 6 (nI 0)) c G g))) : pW ns d 44 57 [u0, u1, u2, u3, some (pm_i v4), some (pm_r 8 i5)] [] (mm x R Z Y o A c G g) Q := by
  refine pW_eq 3 (pc' := 63) (L' := [u0, u1, u2, u3, some (pm_i v4), some (pm_r 8 i5)]) (S' := []) (M' := (mm x R Z Y o (pm_u A 8 i5 6 (nI 0)) c G g)) (fun call n => ?_) ?_
  · refine Eq.trans (b := pm_g (mm x R Z Y o A c G g) 8 i5 (pm_go call ns d 44 n 63 [u0, u1, u2, u3, some (pm_i v4), some (pm_r 8 i5)] [] (pm_u (mA Z A G) 8 i5 6 (nI 0), mB Y o c g, R, pm_tot, x))) rfl ?_
    refine (g_ok (f := 8) q5 rfl).trans ?_
    exact (congrArg (fun z => pm_go call ns d 44 n 63 [u0, u1, u2, u3, some (pm_i v4), some (pm_r 8 i5)] [] (z, mB Y o c g, R, pm_tot, x)) (uA (by decide)))
  refine pW_eq 4 (pc' := 72) (L' := [u0, u1, u2, u3, some (pm_i v4), some (pm_r 8 i5)]) (S' := [pm_i ((pm_u A 8 i5 6 (nI 0)) 8 i5 14), pm_i (nI 8), pm_i v4]) (M' := (mm x R Z Y o (pm_u A 8 i5 6 (nI 0)) c G g)) (fun call n => ?_) ?_
  · refine Eq.trans (b := pm_g (mm x R Z Y o (pm_u A 8 i5 6 (nI 0)) c G g) 8 i5 (pm_go call ns d 44 n 72 [u0, u1, u2, u3, some (pm_i v4), some (pm_r 8 i5)] [pm_i ((pm_u A 8 i5 6 (nI 0)) 8 i5 14), pm_i (nI 8), pm_i v4] (mm x R Z Y o (pm_u A 8 i5 6 (nI 0)) c G g))) rfl ?_
    refine (g_ok (f := 8) q5 rfl).trans ?_
    rfl
  refine pW_ret 3 (fun call n => ?_) k
  rfl
set_option maxRecDepth 20000 in
theorem b44_75 (hR : RS R) {i1 : Nat} {v2 : Int32} {v4 : Int32} {i5 : Nat} (q1 : i1 < 8) (q5 : i5 < 8)  (k1 : A 8 i5 6 = nI 3 → pW ns d 44 88 [some (pm_r 0 0), some (pm_r 8 i1), some (pm_i v2), some (pm_a none), some (pm_i v4), some (pm_r 8 i5)] [] (mm x R Z Y o A c G g) Q) (k2 : ¬ (A 8 i5 6 = nI 3) → pW ns d 44 99 [some (pm_r 0 0), some (pm_r 8 i1), some (pm_i v2), some (pm_a none), some (pm_i v4), some (pm_r 8 i5)] [] (mm x R Z Y o A c G g) Q) : pW ns d 44 75 [some (pm_r 0 0), some (pm_r 8 i1), some (pm_i v2), some (pm_a none), some (pm_i v4), some (pm_r 8 i5)] [] (mm x R Z Y o A c G g) Q := by
  refine pW_eq 4 (pc' := 84) (L' := [some (pm_r 0 0), some (pm_r 8 i1), some (pm_i v2), some (pm_a none), some (pm_i v4), some (pm_r 8 i5)]) (S' := [pm_i (A 8 i5 6)]) (M' := (mm x R Z Y o A c G g)) (fun call n => ?_) ?_
  · refine Eq.trans (b := pm_g (mm x R Z Y o A c G g) 8 i5 (pm_go call ns d 44 n 84 [some (pm_r 0 0), some (pm_r 8 i1), some (pm_i v2), some (pm_a none), some (pm_i v4), some (pm_r 8 i5)] [pm_i (A 8 i5 6)] (mm x R Z Y o A c G g))) rfl ?_
    refine (g_ok (f := 8) q5 rfl).trans ?_
    rfl
  exact pW_if 2 (c := A 8 i5 6 = nI 3) (fun call n => rfl) k1 k2
set_option maxRecDepth 20000 in
theorem b44_88 (hR : RS R) {i1 : Nat} {v2 : Int32} {v4 : Int32} {i5 : Nat} (q1 : i1 < 8) (q5 : i5 < 8)  (k1 : A 8 i5 15 = 0 → pW ns d 44 96 [some (pm_r 0 0), some (pm_r 8 i1), some (pm_i v2), some (pm_a none), some (pm_i v4), some (pm_r 8 i5)] [] (mm x R Z Y o A c G g) Q) (k2 : ¬ (A 8 i5 15 = 0) → pW ns d 44 99 [some (pm_r 0 0), some (pm_r 8 i1), some (pm_i v2), some (pm_a none), some (pm_i v4), some (pm_r 8 i5)] [] (mm x R Z Y o A c G g) Q) : pW ns d 44 88 [some (pm_r 0 0), some (pm_r 8 i1), some (pm_i v2), some (pm_a none), some (pm_i v4), some (pm_r 8 i5)] [] (mm x R Z Y o A c G g) Q := by
  refine pW_eq 2 (pc' := 93) (L' := [some (pm_r 0 0), some (pm_r 8 i1), some (pm_i v2), some (pm_a none), some (pm_i v4), some (pm_r 8 i5)]) (S' := [pm_i (A 8 i5 15)]) (M' := (mm x R Z Y o A c G g)) (fun call n => ?_) ?_
  · refine Eq.trans (b := pm_g (mm x R Z Y o A c G g) 8 i5 (pm_go call ns d 44 n 93 [some (pm_r 0 0), some (pm_r 8 i1), some (pm_i v2), some (pm_a none), some (pm_i v4), some (pm_r 8 i5)] [pm_i (A 8 i5 15)] (mm x R Z Y o A c G g))) rfl ?_
    refine (g_ok (f := 8) q5 rfl).trans ?_
    rfl
  exact pW_if 1 (c := A 8 i5 15 = 0) (fun call n => rfl) k1 k2
set_option maxRecDepth 20000 in
theorem b44_96 (hR : RS R) {i1 : Nat} {v2 : Int32} {u3 : Option pm_V} {v4 : Int32} {i5 : Nat} (q1 : i1 < 8) (q5 : i5 < 8)  (k : pW ns d 44 7 [some (pm_r 0 0), some (pm_r 8 i1), some (pm_i v2), some (pm_r 8 i5), some (pm_i (v4 + (nI 1))), some (pm_r 8 i5)] [] (mm x R Z Y o A c G g) Q) : pW ns d 44 96 [some (pm_r 0 0), some (pm_r 8 i1), some (pm_i v2), u3, some (pm_i v4), some (pm_r 8 i5)] [] (mm x R Z Y o A c G g) Q := by
  exact pW_eq 4 (fun call n => rfl) k
set_option maxRecDepth 20000 in
theorem b44_7a (hR : RS R) {i1 : Nat} {v2 : Int32} {i3 : Nat} {v4 : Int32} {u5 : Option pm_V} (q1 : i1 < 8) (q3 : i3 < 8)  (k1 : nI 8 ≤ v4 → pW ns d 44 105 [some (pm_r 0 0), some (pm_r 8 i1), some (pm_i v2), some (pm_r 8 i3), some (pm_i v4), u5] [] (mm x R Z Y o A c G g) Q) (k2 : ¬ (nI 8 ≤ v4) → pW ns d 44 14 [some (pm_r 0 0), some (pm_r 8 i1), some (pm_i v2), some (pm_r 8 i3), some (pm_i v4), u5] [] (mm x R Z Y o A c G g) Q) : pW ns d 44 7 [some (pm_r 0 0), some (pm_r 8 i1), some (pm_i v2), some (pm_r 8 i3), some (pm_i v4), u5] [] (mm x R Z Y o A c G g) Q := by
  exact pW_if 3 (c := nI 8 ≤ v4) (fun call n => rfl) k1 k2
set_option maxRecDepth 20000 in
theorem b44_105a (hR : RS R) {u0 : Option pm_V} {i1 : Nat} {v2 : Int32} {i3 : Nat} {u4 : Option pm_V} {u5 : Option pm_V} (q1 : i1 < 8) (q3 : i3 < 8)  (k1 : A 13 i1 4 = 0 → pW ns d 44 133 [u0, some (pm_r 8 i1), some (pm_i v2), some (pm_r 8 i3), u4, u5] [] (mm x R Z Y o A c G g) Q) (k2 : ¬ (A 13 i1 4 = 0) → pW ns d 44 119 [u0, some (pm_r 8 i1), some (pm_i v2), some (pm_r 8 i3), u4, u5] [] (mm x R Z Y o A c G g) Q) : pW ns d 44 105 [u0, some (pm_r 8 i1), some (pm_i v2), some (pm_r 8 i3), u4, u5] [] (mm x R Z Y o A c G g) Q := by
  refine pW_eq 4 (pc' := 113) (L' := [u0, some (pm_r 8 i1), some (pm_i v2), some (pm_r 8 i3), u4, u5]) (S' := [pm_r 13 i1]) (M' := (mm x R Z Y o A c G g)) (fun call n => ?_) ?_
  · refine Eq.trans (b := pm_g (mm x R Z Y o A c G g) 8 i1 (pm_go call ns d 44 n 113 [u0, some (pm_r 8 i1), some (pm_i v2), some (pm_r 8 i3), u4, u5] [pm_a (R 8 i1 5)] (mm x R Z Y o A c G g))) rfl ?_
    refine (g_ok (f := 8) q1 rfl).trans ?_
    exact (congrArg (fun z => pm_go call ns d 44 n 113 [u0, some (pm_r 8 i1), some (pm_i v2), some (pm_r 8 i3), u4, u5] [pm_a z] (mm x R Z Y o A c G g)) (rs_8_5 hR q1))
  refine pW_eq 1 (pc' := 116) (L' := [u0, some (pm_r 8 i1), some (pm_i v2), some (pm_r 8 i3), u4, u5]) (S' := [pm_i (A 13 i1 4)]) (M' := (mm x R Z Y o A c G g)) (fun call n => ?_) ?_
  · refine Eq.trans (b := pm_g (mm x R Z Y o A c G g) 13 i1 (pm_go call ns d 44 n 116 [u0, some (pm_r 8 i1), some (pm_i v2), some (pm_r 8 i3), u4, u5] [pm_i (A 13 i1 4)] (mm x R Z Y o A c G g))) rfl ?_
    refine (g_ok (f := 13) q1 rfl).trans ?_
    rfl
  exact pW_if 1 (c := A 13 i1 4 = 0) (fun call n => rfl) k1 k2
set_option maxRecDepth 20000 in
theorem b44_14a (hR : RS R) {i1 : Nat} {v2 : Int32} {i3 : Nat} {v4 : Int32} {u5 : Option pm_V} {j1 : Nat} (q1 : i1 < 8) (q3 : i3 < 8) (e1 : v4 = nI j1) (l1 : j1 < 8)  (k1 : A 8 j1 6 = 0 → pW ns d 44 99 [some (pm_r 0 0), some (pm_r 8 i1), some (pm_i v2), some (pm_r 8 i3), some (pm_i v4), some (pm_r 8 j1)] [] (mm x R Z Y o A c G g) Q) (k2 : ¬ (A 8 j1 6 = 0) → pW ns d 44 31 [some (pm_r 0 0), some (pm_r 8 i1), some (pm_i v2), some (pm_r 8 i3), some (pm_i v4), some (pm_r 8 j1)] [] (mm x R Z Y o A c G g) Q) : pW ns d 44 14 [some (pm_r 0 0), some (pm_r 8 i1), some (pm_i v2), some (pm_r 8 i3), some (pm_i v4), u5] [] (mm x R Z Y o A c G g) Q := by
  refine pW_eq 2 (pc' := 18) (L' := [some (pm_r 0 0), some (pm_r 8 i1), some (pm_i v2), some (pm_r 8 i3), some (pm_i v4), u5]) (S' := [pm_r 1 0]) (M' := (mm x R Z Y o A c G g)) (fun call n => ?_) ?_
  · refine Eq.trans (b := pm_g (mm x R Z Y o A c G g) 0 0 (pm_go call ns d 44 n 18 [some (pm_r 0 0), some (pm_r 8 i1), some (pm_i v2), some (pm_r 8 i3), some (pm_i v4), u5] [pm_a (R 0 0 0)] (mm x R Z Y o A c G g))) rfl ?_
    refine (g_ok (f := 0) (by decide) rfl).trans ?_
    exact (congrArg (fun z => pm_go call ns d 44 n 18 [some (pm_r 0 0), some (pm_r 8 i1), some (pm_i v2), some (pm_r 8 i3), some (pm_i v4), u5] [pm_a z] (mm x R Z Y o A c G g)) (rs_0_0 hR))
  refine pW_eq 2 (pc' := 21) (L' := [some (pm_r 0 0), some (pm_r 8 i1), some (pm_i v2), some (pm_r 8 i3), some (pm_i v4), u5]) (S' := [pm_r 8 j1]) (M' := (mm x R Z Y o A c G g)) (fun call n => ?_) ?_
  · refine Eq.trans (b := pm_g (mm x R Z Y o A c G g) 1 0 (pm_ix (v4) 8 (fun jx => pm_go call ns d 44 n 21 [some (pm_r 0 0), some (pm_r 8 i1), some (pm_i v2), some (pm_r 8 i3), some (pm_i v4), u5] [pm_a (R 1 0 jx)] (mm x R Z Y o A c G g)))) rfl ?_
    refine (g_ok (f := 1) (by decide) rfl).trans ?_
    refine (ix_ok (j := j1) e1 l1 (by decide)).trans ?_
    exact (congrArg (fun z => pm_go call ns d 44 n 21 [some (pm_r 0 0), some (pm_r 8 i1), some (pm_i v2), some (pm_r 8 i3), some (pm_i v4), u5] [pm_a z] (mm x R Z Y o A c G g)) (rs_1 hR (k := j1) l1))
  refine pW_eq 3 (pc' := 28) (L' := [some (pm_r 0 0), some (pm_r 8 i1), some (pm_i v2), some (pm_r 8 i3), some (pm_i v4), some (pm_r 8 j1)]) (S' := [pm_i (A 8 j1 6)]) (M' := (mm x R Z Y o A c G g)) (fun call n => ?_) ?_
  · refine Eq.trans (b := pm_g (mm x R Z Y o A c G g) 8 j1 (pm_go call ns d 44 n 28 [some (pm_r 0 0), some (pm_r 8 i1), some (pm_i v2), some (pm_r 8 i3), some (pm_i v4), some (pm_r 8 j1)] [pm_i (A 8 j1 6)] (mm x R Z Y o A c G g))) rfl ?_
    refine (g_ok (f := 8) l1 rfl).trans ?_
    rfl
  exact pW_if 1 (c := A 8 j1 6 = 0) (fun call n => rfl) k1 k2
set_option maxRecDepth 20000 in
theorem b44_133 (hR : RS R) {u0 : Option pm_V} {u1 : Option pm_V} {v2 : Int32} {u3 : Option pm_V} {u4 : Option pm_V} {u5 : Option pm_V}   (k1 : v2 = 0 → pW ns d 44 142 [u0, u1, some (pm_i v2), u3, u4, u5] [] (mm x R Z Y o A c G g) Q) (k2 : ¬ (v2 = 0) → pW ns d 44 137 [u0, u1, some (pm_i v2), u3, u4, u5] [] (mm x R Z Y o A c G g) Q) : pW ns d 44 133 [u0, u1, some (pm_i v2), u3, u4, u5] [] (mm x R Z Y o A c G g) Q := by
  exact pW_if 2 (c := v2 = 0) (fun call n => rfl) k1 k2
set_option maxRecDepth 20000 in
theorem b44_119 (hR : RS R) {u0 : Option pm_V} {u1 : Option pm_V} {u2 : Option pm_V} {i3 : Nat} {u4 : Option pm_V} {u5 : Option pm_V} (q3 : i3 < 8)  (k : Q (.inl (some (pm_i (((pm_u A 8 i3 15 (nI 1)) 8 i3 0) + (nI 1024)))), (mm x R Z Y o (pm_u A 8 i3 15 (nI 1)) c G g))) : pW ns d 44 119 [u0, u1, u2, some (pm_r 8 i3), u4, u5] [] (mm x R Z Y o A c G g) Q := by
  refine pW_eq 3 (pc' := 124) (L' := [u0, u1, u2, some (pm_r 8 i3), u4, u5]) (S' := []) (M' := (mm x R Z Y o (pm_u A 8 i3 15 (nI 1)) c G g)) (fun call n => ?_) ?_
  · refine Eq.trans (b := pm_g (mm x R Z Y o A c G g) 8 i3 (pm_bo (nI 1) (pm_go call ns d 44 n 124 [u0, u1, u2, some (pm_r 8 i3), u4, u5] [] (pm_u (mA Z A G) 8 i3 15 (nI 1), mB Y o c g, R, pm_tot, x)))) rfl ?_
    refine (g_ok (f := 8) q3 rfl).trans ?_
    refine (bo_ok (by decide)).trans ?_
    exact (congrArg (fun z => pm_go call ns d 44 n 124 [u0, u1, u2, some (pm_r 8 i3), u4, u5] [] (z, mB Y o c g, R, pm_tot, x)) (uA (by decide)))
  refine pW_eq 2 (pc' := 128) (L' := [u0, u1, u2, some (pm_r 8 i3), u4, u5]) (S' := [pm_i ((pm_u A 8 i3 15 (nI 1)) 8 i3 0)]) (M' := (mm x R Z Y o (pm_u A 8 i3 15 (nI 1)) c G g)) (fun call n => ?_) ?_
  · refine Eq.trans (b := pm_g (mm x R Z Y o (pm_u A 8 i3 15 (nI 1)) c G g) 8 i3 (pm_go call ns d 44 n 128 [u0, u1, u2, some (pm_r 8 i3), u4, u5] [pm_i ((pm_u A 8 i3 15 (nI 1)) 8 i3 0)] (mm x R Z Y o (pm_u A 8 i3 15 (nI 1)) c G g))) rfl ?_
    refine (g_ok (f := 8) q3 rfl).trans ?_
    rfl
  refine pW_ret 3 (fun call n => ?_) k
  rfl
set_option maxRecDepth 20000 in
theorem b44_99a (hR : RS R) {i1 : Nat} {v2 : Int32} {i3 : Nat} {v4 : Int32} {u5 : Option pm_V} (q1 : i1 < 8) (q3 : i3 < 8)  (k : pW ns d 44 7 [some (pm_r 0 0), some (pm_r 8 i1), some (pm_i v2), some (pm_r 8 i3), some (pm_i (v4 + (nI 1))), u5] [] (mm x R Z Y o A c G g) Q) : pW ns d 44 99 [some (pm_r 0 0), some (pm_r 8 i1), some (pm_i v2), some (pm_r 8 i3), some (pm_i v4), u5] [] (mm x R Z Y o A c G g) Q := by
  exact pW_eq 2 (fun call n => rfl) k
set_option maxRecDepth 20000 in
theorem b44_31a (hR : RS R) {i1 : Nat} {v2 : Int32} {i3 : Nat} {v4 : Int32} {i5 : Nat} (q1 : i1 < 8) (q3 : i3 < 8) (q5 : i5 < 8)  (k1 : A 8 i5 7 = A 8 i1 0 → pW ns d 44 46 [some (pm_r 0 0), some (pm_r 8 i1), some (pm_i v2), some (pm_r 8 i3), some (pm_i v4), some (pm_r 8 i5)] [] (mm x R Z Y o A c G g) Q) (k2 : ¬ (A 8 i5 7 = A 8 i1 0) → pW ns d 44 43 [some (pm_r 0 0), some (pm_r 8 i1), some (pm_i v2), some (pm_r 8 i3), some (pm_i v4), some (pm_r 8 i5)] [] (mm x R Z Y o A c G g) Q) : pW ns d 44 31 [some (pm_r 0 0), some (pm_r 8 i1), some (pm_i v2), some (pm_r 8 i3), some (pm_i v4), some (pm_r 8 i5)] [] (mm x R Z Y o A c G g) Q := by
  refine pW_eq 2 (pc' := 36) (L' := [some (pm_r 0 0), some (pm_r 8 i1), some (pm_i v2), some (pm_r 8 i3), some (pm_i v4), some (pm_r 8 i5)]) (S' := [pm_i (A 8 i5 7)]) (M' := (mm x R Z Y o A c G g)) (fun call n => ?_) ?_
  · refine Eq.trans (b := pm_g (mm x R Z Y o A c G g) 8 i5 (pm_go call ns d 44 n 36 [some (pm_r 0 0), some (pm_r 8 i1), some (pm_i v2), some (pm_r 8 i3), some (pm_i v4), some (pm_r 8 i5)] [pm_i (A 8 i5 7)] (mm x R Z Y o A c G g))) rfl ?_
    refine (g_ok (f := 8) q5 rfl).trans ?_
    rfl
  refine pW_eq 2 (pc' := 40) (L' := [some (pm_r 0 0), some (pm_r 8 i1), some (pm_i v2), some (pm_r 8 i3), some (pm_i v4), some (pm_r 8 i5)]) (S' := [pm_i (A 8 i1 0), pm_i (A 8 i5 7)]) (M' := (mm x R Z Y o A c G g)) (fun call n => ?_) ?_
  · refine Eq.trans (b := pm_g (mm x R Z Y o A c G g) 8 i1 (pm_go call ns d 44 n 40 [some (pm_r 0 0), some (pm_r 8 i1), some (pm_i v2), some (pm_r 8 i3), some (pm_i v4), some (pm_r 8 i5)] [pm_i (A 8 i1 0), pm_i (A 8 i5 7)] (mm x R Z Y o A c G g))) rfl ?_
    refine (g_ok (f := 8) q1 rfl).trans ?_
    rfl
  exact pW_if 1 (c := A 8 i5 7 = A 8 i1 0) (fun call n => rfl) k1 k2
set_option maxRecDepth 20000 in
theorem b44_46a (hR : RS R) {i1 : Nat} {u2 : Option pm_V} {i3 : Nat} {v4 : Int32} {i5 : Nat} (q1 : i1 < 8) (q3 : i3 < 8) (q5 : i5 < 8)  (k1 : A 8 i5 6 = nI 4 → pW ns d 44 57 [some (pm_r 0 0), some (pm_r 8 i1), some (pm_i (nI 1)), some (pm_r 8 i3), some (pm_i v4), some (pm_r 8 i5)] [] (mm x R Z Y o A c G g) Q) (k2 : ¬ (A 8 i5 6 = nI 4) → pW ns d 44 75 [some (pm_r 0 0), some (pm_r 8 i1), some (pm_i (nI 1)), some (pm_r 8 i3), some (pm_i v4), some (pm_r 8 i5)] [] (mm x R Z Y o A c G g) Q) : pW ns d 44 46 [some (pm_r 0 0), some (pm_r 8 i1), u2, some (pm_r 8 i3), some (pm_i v4), some (pm_r 8 i5)] [] (mm x R Z Y o A c G g) Q := by
  refine pW_eq 4 (pc' := 53) (L' := [some (pm_r 0 0), some (pm_r 8 i1), some (pm_i (nI 1)), some (pm_r 8 i3), some (pm_i v4), some (pm_r 8 i5)]) (S' := [pm_i (A 8 i5 6)]) (M' := (mm x R Z Y o A c G g)) (fun call n => ?_) ?_
  · refine Eq.trans (b := pm_g (mm x R Z Y o A c G g) 8 i5 (pm_go call ns d 44 n 53 [some (pm_r 0 0), some (pm_r 8 i1), some (pm_i (nI 1)), some (pm_r 8 i3), some (pm_i v4), some (pm_r 8 i5)] [pm_i (A 8 i5 6)] (mm x R Z Y o A c G g))) rfl ?_
    refine (g_ok (f := 8) q5 rfl).trans ?_
    rfl
  exact pW_if 2 (c := A 8 i5 6 = nI 4) (fun call n => rfl) k1 k2
set_option maxRecDepth 20000 in
theorem b44_43a (hR : RS R) {i1 : Nat} {v2 : Int32} {i3 : Nat} {v4 : Int32} {u5 : Option pm_V} (q1 : i1 < 8) (q3 : i3 < 8)  (k : pW ns d 44 7 [some (pm_r 0 0), some (pm_r 8 i1), some (pm_i v2), some (pm_r 8 i3), some (pm_i (v4 + (nI 1))), u5] [] (mm x R Z Y o A c G g) Q) : pW ns d 44 43 [some (pm_r 0 0), some (pm_r 8 i1), some (pm_i v2), some (pm_r 8 i3), some (pm_i v4), u5] [] (mm x R Z Y o A c G g) Q := by
  exact pW_eq 3 (fun call n => rfl) k
set_option maxRecDepth 20000 in
theorem b44_75a (hR : RS R) {i1 : Nat} {v2 : Int32} {i3 : Nat} {v4 : Int32} {i5 : Nat} (q1 : i1 < 8) (q3 : i3 < 8) (q5 : i5 < 8)  (k : pW ns d 44 7 [some (pm_r 0 0), some (pm_r 8 i1), some (pm_i v2), some (pm_r 8 i3), some (pm_i (v4 + (nI 1))), some (pm_r 8 i5)] [] (mm x R Z Y o A c G g) Q) : pW ns d 44 75 [some (pm_r 0 0), some (pm_r 8 i1), some (pm_i v2), some (pm_r 8 i3), some (pm_i v4), some (pm_r 8 i5)] [] (mm x R Z Y o A c G g) Q := by
  exact pW_eq 4 (fun call n => rfl) k
set_option maxRecDepth 20000 in
theorem t44_7 (hR : RS R) {i1 : Nat} {v2 : Int32} {v4 : Int32} {u5 : Option pm_V} (q1 : i1 < 8) (k1 : (nI 8 ≤ v4) → (v2 = 0) → Q (.inl (some (pm_i (-nI 3))), (mm x R Z Y o A c G g))) (k2 : (nI 8 ≤ v4) → (¬ (v2 = 0)) → Q (.inl (some (pm_i (-nI 9))), (mm x R Z Y o A c G g))) (k3 : (¬ (nI 8 ≤ v4)) → pW ns d 44 14 [some (pm_r 0 0), some (pm_r 8 i1), some (pm_i v2), some (pm_a none), some (pm_i v4), u5] [] (mm x R Z Y o A c G g) Q) : pW ns d 44 7 [some (pm_r 0 0), some (pm_r 8 i1), some (pm_i v2), some (pm_a none), some (pm_i v4), u5] [] (mm x R Z Y o A c G g) Q := by
  refine b44_7 hR q1 (fun h1 => ?_) (fun h1 => ?_)
  · skip
    refine b44_105 hR q1  (fun h2 => ?_) (fun h2 => ?_)
    · skip
      exact b44_142 hR   (k1 h1 h2)
    · skip
      exact b44_137 hR   (k2 h1 h2)
  · skip
    exact (k3 h1)
set_option maxRecDepth 20000 in
theorem t44_105 (hR : RS R) {u0 : Option pm_V} {i1 : Nat} {v2 : Int32} {u4 : Option pm_V} {u5 : Option pm_V} (q1 : i1 < 8) (k1 : (v2 = 0) → Q (.inl (some (pm_i (-nI 3))), (mm x R Z Y o A c G g))) (k2 : (¬ (v2 = 0)) → Q (.inl (some (pm_i (-nI 9))), (mm x R Z Y o A c G g))) : pW ns d 44 105 [u0, some (pm_r 8 i1), some (pm_i v2), some (pm_a none), u4, u5] [] (mm x R Z Y o A c G g) Q := by
  refine b44_105 hR q1 (fun h1 => ?_) (fun h1 => ?_)
  · skip
    exact b44_142 hR   (k1 h1)
  · skip
    exact b44_137 hR   (k2 h1)
set_option maxRecDepth 20000 in
theorem t44_14 (hR : RS R) {i1 : Nat} {v2 : Int32} {v4 : Int32} {u5 : Option pm_V} {j1 : Nat} (q1 : i1 < 8) (e1 : v4 = nI j1) (l1 : j1 < 8) (k1 : (A 8 j1 6 = 0) → pW ns d 44 7 [some (pm_r 0 0), some (pm_r 8 i1), some (pm_i v2), some (pm_a none), some (pm_i (v4 + (nI 1))), some (pm_r 8 j1)] [] (mm x R Z Y o A c G g) Q) (k2 : (¬ (A 8 j1 6 = 0)) → (A 8 j1 7 = A 8 i1 0) → (A 8 j1 6 = nI 4) → Q (.inl (some (pm_i (v4 + ((nI 8) * ((pm_u A 8 j1 6 (nI 0)) 8 j1 14))))), (mm x R Z Y o (pm_u A 8 j1 6 (nI 0)) c G g))) (k3 : (¬ (A 8 j1 6 = 0)) → (A 8 j1 7 = A 8 i1 0) → (¬ (A 8 j1 6 = nI 4)) → (A 8 j1 6 = nI 3) → (A 8 j1 15 = 0) → pW ns d 44 7 [some (pm_r 0 0), some (pm_r 8 i1), some (pm_i (nI 1)), some (pm_r 8 j1), some (pm_i (v4 + (nI 1))), some (pm_r 8 j1)] [] (mm x R Z Y o A c G g) Q) (k4 : (¬ (A 8 j1 6 = 0)) → (A 8 j1 7 = A 8 i1 0) → (¬ (A 8 j1 6 = nI 4)) → (A 8 j1 6 = nI 3) → (¬ (A 8 j1 15 = 0)) → pW ns d 44 7 [some (pm_r 0 0), some (pm_r 8 i1), some (pm_i (nI 1)), some (pm_a none), some (pm_i (v4 + (nI 1))), some (pm_r 8 j1)] [] (mm x R Z Y o A c G g) Q) (k5 : (¬ (A 8 j1 6 = 0)) → (A 8 j1 7 = A 8 i1 0) → (¬ (A 8 j1 6 = nI 4)) → (¬ (A 8 j1 6 = nI 3)) → pW ns d 44 7 [some (pm_r 0 0), some (pm_r 8 i1), some (pm_i (nI 1)), some (pm_a none), some (pm_i (v4 + (nI 1))), some (pm_r 8 j1)] [] (mm x R Z Y o A c G g) Q) (k6 : (¬ (A 8 j1 6 = 0)) → (¬ (A 8 j1 7 = A 8 i1 0)) → pW ns d 44 7 [some (pm_r 0 0), some (pm_r 8 i1), some (pm_i v2), some (pm_a none), some (pm_i (v4 + (nI 1))), some (pm_r 8 j1)] [] (mm x R Z Y o A c G g) Q) : pW ns d 44 14 [some (pm_r 0 0), some (pm_r 8 i1), some (pm_i v2), some (pm_a none), some (pm_i v4), u5] [] (mm x R Z Y o A c G g) Q := by
  refine b44_14 hR q1 e1 l1 (fun h1 => ?_) (fun h1 => ?_)
  · skip
    exact b44_99 hR q1  (k1 h1)
  · skip
    refine b44_31 hR q1 l1  (fun h2 => ?_) (fun h2 => ?_)
    · skip
      refine b44_46 hR q1 l1  (fun h3 => ?_) (fun h3 => ?_)
      · skip
        exact b44_57 hR l1  (k2 h1 h2 h3)
      · skip
        refine b44_75 hR q1 l1  (fun h4 => ?_) (fun h4 => ?_)
        · skip
          refine b44_88 hR q1 l1  (fun h5 => ?_) (fun h5 => ?_)
          · skip
            exact b44_96 hR q1 l1  (k3 h1 h2 h3 h4 h5)
          · skip
            exact b44_99 hR q1  (k4 h1 h2 h3 h4 h5)
        · skip
          exact b44_99 hR q1  (k5 h1 h2 h3 h4)
    · skip
      exact b44_43 hR q1  (k6 h1 h2)
set_option maxRecDepth 20000 in
theorem t44_31 (hR : RS R) {i1 : Nat} {v2 : Int32} {v4 : Int32} {i5 : Nat} (q1 : i1 < 8) (q5 : i5 < 8) (k1 : (A 8 i5 7 = A 8 i1 0) → (A 8 i5 6 = nI 4) → Q (.inl (some (pm_i (v4 + ((nI 8) * ((pm_u A 8 i5 6 (nI 0)) 8 i5 14))))), (mm x R Z Y o (pm_u A 8 i5 6 (nI 0)) c G g))) (k2 : (A 8 i5 7 = A 8 i1 0) → (¬ (A 8 i5 6 = nI 4)) → (A 8 i5 6 = nI 3) → (A 8 i5 15 = 0) → pW ns d 44 7 [some (pm_r 0 0), some (pm_r 8 i1), some (pm_i (nI 1)), some (pm_r 8 i5), some (pm_i (v4 + (nI 1))), some (pm_r 8 i5)] [] (mm x R Z Y o A c G g) Q) (k3 : (A 8 i5 7 = A 8 i1 0) → (¬ (A 8 i5 6 = nI 4)) → (A 8 i5 6 = nI 3) → (¬ (A 8 i5 15 = 0)) → pW ns d 44 7 [some (pm_r 0 0), some (pm_r 8 i1), some (pm_i (nI 1)), some (pm_a none), some (pm_i (v4 + (nI 1))), some (pm_r 8 i5)] [] (mm x R Z Y o A c G g) Q) (k4 : (A 8 i5 7 = A 8 i1 0) → (¬ (A 8 i5 6 = nI 4)) → (¬ (A 8 i5 6 = nI 3)) → pW ns d 44 7 [some (pm_r 0 0), some (pm_r 8 i1), some (pm_i (nI 1)), some (pm_a none), some (pm_i (v4 + (nI 1))), some (pm_r 8 i5)] [] (mm x R Z Y o A c G g) Q) (k5 : (¬ (A 8 i5 7 = A 8 i1 0)) → pW ns d 44 7 [some (pm_r 0 0), some (pm_r 8 i1), some (pm_i v2), some (pm_a none), some (pm_i (v4 + (nI 1))), some (pm_r 8 i5)] [] (mm x R Z Y o A c G g) Q) : pW ns d 44 31 [some (pm_r 0 0), some (pm_r 8 i1), some (pm_i v2), some (pm_a none), some (pm_i v4), some (pm_r 8 i5)] [] (mm x R Z Y o A c G g) Q := by
  refine b44_31 hR q1 q5 (fun h1 => ?_) (fun h1 => ?_)
  · skip
    refine b44_46 hR q1 q5  (fun h2 => ?_) (fun h2 => ?_)
    · skip
      exact b44_57 hR q5  (k1 h1 h2)
    · skip
      refine b44_75 hR q1 q5  (fun h3 => ?_) (fun h3 => ?_)
      · skip
        refine b44_88 hR q1 q5  (fun h4 => ?_) (fun h4 => ?_)
        · skip
          exact b44_96 hR q1 q5  (k2 h1 h2 h3 h4)
        · skip
          exact b44_99 hR q1  (k3 h1 h2 h3 h4)
      · skip
        exact b44_99 hR q1  (k4 h1 h2 h3)
  · skip
    exact b44_43 hR q1  (k5 h1)
set_option maxRecDepth 20000 in
theorem t44_46 (hR : RS R) {i1 : Nat} {u2 : Option pm_V} {v4 : Int32} {i5 : Nat} (q1 : i1 < 8) (q5 : i5 < 8) (k1 : (A 8 i5 6 = nI 4) → Q (.inl (some (pm_i (v4 + ((nI 8) * ((pm_u A 8 i5 6 (nI 0)) 8 i5 14))))), (mm x R Z Y o (pm_u A 8 i5 6 (nI 0)) c G g))) (k2 : (¬ (A 8 i5 6 = nI 4)) → (A 8 i5 6 = nI 3) → (A 8 i5 15 = 0) → pW ns d 44 7 [some (pm_r 0 0), some (pm_r 8 i1), some (pm_i (nI 1)), some (pm_r 8 i5), some (pm_i (v4 + (nI 1))), some (pm_r 8 i5)] [] (mm x R Z Y o A c G g) Q) (k3 : (¬ (A 8 i5 6 = nI 4)) → (A 8 i5 6 = nI 3) → (¬ (A 8 i5 15 = 0)) → pW ns d 44 7 [some (pm_r 0 0), some (pm_r 8 i1), some (pm_i (nI 1)), some (pm_a none), some (pm_i (v4 + (nI 1))), some (pm_r 8 i5)] [] (mm x R Z Y o A c G g) Q) (k4 : (¬ (A 8 i5 6 = nI 4)) → (¬ (A 8 i5 6 = nI 3)) → pW ns d 44 7 [some (pm_r 0 0), some (pm_r 8 i1), some (pm_i (nI 1)), some (pm_a none), some (pm_i (v4 + (nI 1))), some (pm_r 8 i5)] [] (mm x R Z Y o A c G g) Q) : pW ns d 44 46 [some (pm_r 0 0), some (pm_r 8 i1), u2, some (pm_a none), some (pm_i v4), some (pm_r 8 i5)] [] (mm x R Z Y o A c G g) Q := by
  refine b44_46 hR q1 q5 (fun h1 => ?_) (fun h1 => ?_)
  · skip
    exact b44_57 hR q5  (k1 h1)
  · skip
    refine b44_75 hR q1 q5  (fun h2 => ?_) (fun h2 => ?_)
    · skip
      refine b44_88 hR q1 q5  (fun h3 => ?_) (fun h3 => ?_)
      · skip
        exact b44_96 hR q1 q5  (k2 h1 h2 h3)
      · skip
        exact b44_99 hR q1  (k3 h1 h2 h3)
    · skip
      exact b44_99 hR q1  (k4 h1 h2)
set_option maxRecDepth 20000 in
theorem t44_75 (hR : RS R) {i1 : Nat} {v2 : Int32} {v4 : Int32} {i5 : Nat} (q1 : i1 < 8) (q5 : i5 < 8) (k1 : (A 8 i5 6 = nI 3) → (A 8 i5 15 = 0) → pW ns d 44 7 [some (pm_r 0 0), some (pm_r 8 i1), some (pm_i v2), some (pm_r 8 i5), some (pm_i (v4 + (nI 1))), some (pm_r 8 i5)] [] (mm x R Z Y o A c G g) Q) (k2 : (A 8 i5 6 = nI 3) → (¬ (A 8 i5 15 = 0)) → pW ns d 44 7 [some (pm_r 0 0), some (pm_r 8 i1), some (pm_i v2), some (pm_a none), some (pm_i (v4 + (nI 1))), some (pm_r 8 i5)] [] (mm x R Z Y o A c G g) Q) (k3 : (¬ (A 8 i5 6 = nI 3)) → pW ns d 44 7 [some (pm_r 0 0), some (pm_r 8 i1), some (pm_i v2), some (pm_a none), some (pm_i (v4 + (nI 1))), some (pm_r 8 i5)] [] (mm x R Z Y o A c G g) Q) : pW ns d 44 75 [some (pm_r 0 0), some (pm_r 8 i1), some (pm_i v2), some (pm_a none), some (pm_i v4), some (pm_r 8 i5)] [] (mm x R Z Y o A c G g) Q := by
  refine b44_75 hR q1 q5 (fun h1 => ?_) (fun h1 => ?_)
  · skip
    refine b44_88 hR q1 q5  (fun h2 => ?_) (fun h2 => ?_)
    · skip
      exact b44_96 hR q1 q5  (k1 h1 h2)
    · skip
      exact b44_99 hR q1  (k2 h1 h2)
  · skip
    exact b44_99 hR q1  (k3 h1)
set_option maxRecDepth 20000 in
theorem t44_88 (hR : RS R) {i1 : Nat} {v2 : Int32} {v4 : Int32} {i5 : Nat} (q1 : i1 < 8) (q5 : i5 < 8) (k1 : (A 8 i5 15 = 0) → pW ns d 44 7 [some (pm_r 0 0), some (pm_r 8 i1), some (pm_i v2), some (pm_r 8 i5), some (pm_i (v4 + (nI 1))), some (pm_r 8 i5)] [] (mm x R Z Y o A c G g) Q) (k2 : (¬ (A 8 i5 15 = 0)) → pW ns d 44 7 [some (pm_r 0 0), some (pm_r 8 i1), some (pm_i v2), some (pm_a none), some (pm_i (v4 + (nI 1))), some (pm_r 8 i5)] [] (mm x R Z Y o A c G g) Q) : pW ns d 44 88 [some (pm_r 0 0), some (pm_r 8 i1), some (pm_i v2), some (pm_a none), some (pm_i v4), some (pm_r 8 i5)] [] (mm x R Z Y o A c G g) Q := by
  refine b44_88 hR q1 q5 (fun h1 => ?_) (fun h1 => ?_)
  · skip
    exact b44_96 hR q1 q5  (k1 h1)
  · skip
    exact b44_99 hR q1  (k2 h1)
set_option maxRecDepth 20000 in
theorem t44_7a (hR : RS R) {i1 : Nat} {v2 : Int32} {i3 : Nat} {v4 : Int32} {u5 : Option pm_V} (q1 : i1 < 8) (q3 : i3 < 8) (k1 : (nI 8 ≤ v4) → (A 13 i1 4 = 0) → (v2 = 0) → Q (.inl (some (pm_i (-nI 3))), (mm x R Z Y o A c G g))) (k2 : (nI 8 ≤ v4) → (A 13 i1 4 = 0) → (¬ (v2 = 0)) → Q (.inl (some (pm_i (-nI 9))), (mm x R Z Y o A c G g))) (k3 : (nI 8 ≤ v4) → (¬ (A 13 i1 4 = 0)) → Q (.inl (some (pm_i (((pm_u A 8 i3 15 (nI 1)) 8 i3 0) + (nI 1024)))), (mm x R Z Y o (pm_u A 8 i3 15 (nI 1)) c G g))) (k4 : (¬ (nI 8 ≤ v4)) → pW ns d 44 14 [some (pm_r 0 0), some (pm_r 8 i1), some (pm_i v2), some (pm_r 8 i3), some (pm_i v4), u5] [] (mm x R Z Y o A c G g) Q) : pW ns d 44 7 [some (pm_r 0 0), some (pm_r 8 i1), some (pm_i v2), some (pm_r 8 i3), some (pm_i v4), u5] [] (mm x R Z Y o A c G g) Q := by
  refine b44_7a hR q1 q3 (fun h1 => ?_) (fun h1 => ?_)
  · skip
    refine b44_105a hR q1 q3  (fun h2 => ?_) (fun h2 => ?_)
    · skip
      refine b44_133 hR   (fun h3 => ?_) (fun h3 => ?_)
      · skip
        exact b44_142 hR   (k1 h1 h2 h3)
      · skip
        exact b44_137 hR   (k2 h1 h2 h3)
    · skip
      exact b44_119 hR q3  (k3 h1 h2)
  · skip
    exact (k4 h1)
set_option maxRecDepth 20000 in
theorem t44_105a (hR : RS R) {u0 : Option pm_V} {i1 : Nat} {v2 : Int32} {i3 : Nat} {u4 : Option pm_V} {u5 : Option pm_V} (q1 : i1 < 8) (q3 : i3 < 8) (k1 : (A 13 i1 4 = 0) → (v2 = 0) → Q (.inl (some (pm_i (-nI 3))), (mm x R Z Y o A c G g))) (k2 : (A 13 i1 4 = 0) → (¬ (v2 = 0)) → Q (.inl (some (pm_i (-nI 9))), (mm x R Z Y o A c G g))) (k3 : (¬ (A 13 i1 4 = 0)) → Q (.inl (some (pm_i (((pm_u A 8 i3 15 (nI 1)) 8 i3 0) + (nI 1024)))), (mm x R Z Y o (pm_u A 8 i3 15 (nI 1)) c G g))) : pW ns d 44 105 [u0, some (pm_r 8 i1), some (pm_i v2), some (pm_r 8 i3), u4, u5] [] (mm x R Z Y o A c G g) Q := by
  refine b44_105a hR q1 q3 (fun h1 => ?_) (fun h1 => ?_)
  · skip
    refine b44_133 hR   (fun h2 => ?_) (fun h2 => ?_)
    · skip
      exact b44_142 hR   (k1 h1 h2)
    · skip
      exact b44_137 hR   (k2 h1 h2)
  · skip
    exact b44_119 hR q3  (k3 h1)
set_option maxRecDepth 20000 in
theorem t44_14a (hR : RS R) {i1 : Nat} {v2 : Int32} {i3 : Nat} {v4 : Int32} {u5 : Option pm_V} {j1 : Nat} (q1 : i1 < 8) (q3 : i3 < 8) (e1 : v4 = nI j1) (l1 : j1 < 8) (k1 : (A 8 j1 6 = 0) → pW ns d 44 7 [some (pm_r 0 0), some (pm_r 8 i1), some (pm_i v2), some (pm_r 8 i3), some (pm_i (v4 + (nI 1))), some (pm_r 8 j1)] [] (mm x R Z Y o A c G g) Q) (k2 : (¬ (A 8 j1 6 = 0)) → (A 8 j1 7 = A 8 i1 0) → (A 8 j1 6 = nI 4) → Q (.inl (some (pm_i (v4 + ((nI 8) * ((pm_u A 8 j1 6 (nI 0)) 8 j1 14))))), (mm x R Z Y o (pm_u A 8 j1 6 (nI 0)) c G g))) (k3 : (¬ (A 8 j1 6 = 0)) → (A 8 j1 7 = A 8 i1 0) → (¬ (A 8 j1 6 = nI 4)) → pW ns d 44 7 [some (pm_r 0 0), some (pm_r 8 i1), some (pm_i (nI 1)), some (pm_r 8 i3), some (pm_i (v4 + (nI 1))), some (pm_r 8 j1)] [] (mm x R Z Y o A c G g) Q) (k4 : (¬ (A 8 j1 6 = 0)) → (¬ (A 8 j1 7 = A 8 i1 0)) → pW ns d 44 7 [some (pm_r 0 0), some (pm_r 8 i1), some (pm_i v2), some (pm_r 8 i3), some (pm_i (v4 + (nI 1))), some (pm_r 8 j1)] [] (mm x R Z Y o A c G g) Q) : pW ns d 44 14 [some (pm_r 0 0), some (pm_r 8 i1), some (pm_i v2), some (pm_r 8 i3), some (pm_i v4), u5] [] (mm x R Z Y o A c G g) Q := by
  refine b44_14a hR q1 q3 e1 l1 (fun h1 => ?_) (fun h1 => ?_)
  · skip
    exact b44_99a hR q1 q3  (k1 h1)
  · skip
    refine b44_31a hR q1 q3 l1  (fun h2 => ?_) (fun h2 => ?_)
    · skip
      refine b44_46a hR q1 q3 l1  (fun h3 => ?_) (fun h3 => ?_)
      · skip
        exact b44_57 hR l1  (k2 h1 h2 h3)
      · skip
        exact b44_75a hR q1 q3 l1  (k3 h1 h2 h3)
    · skip
      exact b44_43a hR q1 q3  (k4 h1 h2)
set_option maxRecDepth 20000 in
theorem t44_133 (hR : RS R) {u0 : Option pm_V} {u1 : Option pm_V} {v2 : Int32} {u3 : Option pm_V} {u4 : Option pm_V} {u5 : Option pm_V}  (k1 : (v2 = 0) → Q (.inl (some (pm_i (-nI 3))), (mm x R Z Y o A c G g))) (k2 : (¬ (v2 = 0)) → Q (.inl (some (pm_i (-nI 9))), (mm x R Z Y o A c G g))) : pW ns d 44 133 [u0, u1, some (pm_i v2), u3, u4, u5] [] (mm x R Z Y o A c G g) Q := by
  refine b44_133 hR  (fun h1 => ?_) (fun h1 => ?_)
  · skip
    exact b44_142 hR   (k1 h1)
  · skip
    exact b44_137 hR   (k2 h1)
set_option maxRecDepth 20000 in
theorem t44_31a (hR : RS R) {i1 : Nat} {v2 : Int32} {i3 : Nat} {v4 : Int32} {i5 : Nat} (q1 : i1 < 8) (q3 : i3 < 8) (q5 : i5 < 8) (k1 : (A 8 i5 7 = A 8 i1 0) → (A 8 i5 6 = nI 4) → Q (.inl (some (pm_i (v4 + ((nI 8) * ((pm_u A 8 i5 6 (nI 0)) 8 i5 14))))), (mm x R Z Y o (pm_u A 8 i5 6 (nI 0)) c G g))) (k2 : (A 8 i5 7 = A 8 i1 0) → (¬ (A 8 i5 6 = nI 4)) → pW ns d 44 7 [some (pm_r 0 0), some (pm_r 8 i1), some (pm_i (nI 1)), some (pm_r 8 i3), some (pm_i (v4 + (nI 1))), some (pm_r 8 i5)] [] (mm x R Z Y o A c G g) Q) (k3 : (¬ (A 8 i5 7 = A 8 i1 0)) → pW ns d 44 7 [some (pm_r 0 0), some (pm_r 8 i1), some (pm_i v2), some (pm_r 8 i3), some (pm_i (v4 + (nI 1))), some (pm_r 8 i5)] [] (mm x R Z Y o A c G g) Q) : pW ns d 44 31 [some (pm_r 0 0), some (pm_r 8 i1), some (pm_i v2), some (pm_r 8 i3), some (pm_i v4), some (pm_r 8 i5)] [] (mm x R Z Y o A c G g) Q := by
  refine b44_31a hR q1 q3 q5 (fun h1 => ?_) (fun h1 => ?_)
  · skip
    refine b44_46a hR q1 q3 q5  (fun h2 => ?_) (fun h2 => ?_)
    · skip
      exact b44_57 hR q5  (k1 h1 h2)
    · skip
      exact b44_75a hR q1 q3 q5  (k2 h1 h2)
  · skip
    exact b44_43a hR q1 q3  (k3 h1)
set_option maxRecDepth 20000 in
theorem t44_46a (hR : RS R) {i1 : Nat} {u2 : Option pm_V} {i3 : Nat} {v4 : Int32} {i5 : Nat} (q1 : i1 < 8) (q3 : i3 < 8) (q5 : i5 < 8) (k1 : (A 8 i5 6 = nI 4) → Q (.inl (some (pm_i (v4 + ((nI 8) * ((pm_u A 8 i5 6 (nI 0)) 8 i5 14))))), (mm x R Z Y o (pm_u A 8 i5 6 (nI 0)) c G g))) (k2 : (¬ (A 8 i5 6 = nI 4)) → pW ns d 44 7 [some (pm_r 0 0), some (pm_r 8 i1), some (pm_i (nI 1)), some (pm_r 8 i3), some (pm_i (v4 + (nI 1))), some (pm_r 8 i5)] [] (mm x R Z Y o A c G g) Q) : pW ns d 44 46 [some (pm_r 0 0), some (pm_r 8 i1), u2, some (pm_r 8 i3), some (pm_i v4), some (pm_r 8 i5)] [] (mm x R Z Y o A c G g) Q := by
  refine b44_46a hR q1 q3 q5 (fun h1 => ?_) (fun h1 => ?_)
  · skip
    exact b44_57 hR q5  (k1 h1)
  · skip
    exact b44_75a hR q1 q3 q5  (k2 h1)
end BLK
