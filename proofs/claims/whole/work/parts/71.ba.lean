/-! @70.wp@ blocks, printed by program (wip/whole/gen/blk.py) -/
section BLK
variable {ns d x : Nat} {R : Nat → Nat → Nat → Option (Nat × Nat)} {Z A : Nat → Nat → Nat → Int32} {Y : Nat → Nat → Nat → Int64} {o : Int64} {c g : Nat → Int64} {G : Nat → Nat → Int32} {Q : pm_O × pm_M → Prop}
/-! 146 JobLayerLaw.law -/
set_option maxRecDepth 20000 in
theorem b146_23 (hR : RS R) (hns : ns < 2 ^ 31) {v4 : Int32} {u5 : Option pm_V} {u6 : Option pm_V}   (k1 : (nI ns) - (nI 6) < v4 → pW ns d 146 1345 [some (pm_r 99 0), some (pm_r 0 0), some (pm_r 20 0), some (pm_r 60 0), some (pm_i v4), u5, u6] [] (mm x R Z Y o A c G g) Q) (k2 : ¬ ((nI ns) - (nI 6) < v4) → pW ns d 146 33 [some (pm_r 99 0), some (pm_r 0 0), some (pm_r 20 0), some (pm_r 60 0), some (pm_i v4), u5, u6] [] (mm x R Z Y o A c G g) Q) : pW ns d 146 23 [some (pm_r 99 0), some (pm_r 0 0), some (pm_r 20 0), some (pm_r 60 0), some (pm_i v4), u5, u6] [] (mm x R Z Y o A c G g) Q := by
  refine pW_eq 3 (pc' := 27) (L' := [some (pm_r 99 0), some (pm_r 0 0), some (pm_r 20 0), some (pm_r 60 0), some (pm_i v4), u5, u6]) (S' := [pm_i (nI ns), pm_i v4]) (M' := (mm x R Z Y o A c G g)) (fun call n => ?_) ?_
  · refine Eq.trans (b := pm_g (mm x R Z Y o A c G g) 99 0 (pm_go call ns d 146 n 27 [some (pm_r 99 0), some (pm_r 0 0), some (pm_r 20 0), some (pm_r 60 0), some (pm_i v4), u5, u6] [pm_i (nI ns), pm_i v4] (mm x R Z Y o A c G g))) rfl ?_
    refine (g_ok (f := 99) (by decide) rfl).trans ?_
    rfl
  exact pW_if 3 (c := (nI ns) - (nI 6) < v4) (fun call n => rfl) k1 k2
set_option maxRecDepth 20000 in
theorem b146_1345 (hR : RS R) (hns : ns < 2 ^ 31) {u0 : Option pm_V} {u1 : Option pm_V} {u2 : Option pm_V} {u3 : Option pm_V} {u4 : Option pm_V} {u5 : Option pm_V} {u6 : Option pm_V}   (k : Q (.inl (some (pm_i (nI 1))), (mm x R Z Y o A c G g))) : pW ns d 146 1345 [u0, u1, u2, u3, u4, u5, u6] [] (mm x R Z Y o A c G g) Q := by
  refine pW_ret 2 (fun call n => ?_) k
  exact Eq.trans (b := pm_bo (nI 1) (some (.inl (some (pm_i (nI 1))), (mm x R Z Y o A c G g)))) rfl (bo_ok (by decide))
set_option maxRecDepth 20000 in
theorem b146_33 (hR : RS R) (hns : ns < 2 ^ 31) {v4 : Int32} {u5 : Option pm_V} {u6 : Option pm_V} {j1 : Nat} (e1 : v4 = nI j1) (l1 : j1 < ns)  (k0 : ((Z 99 0 j1) &&& (nI 31)).toInt = 0 → pW ns d 146 132 [some (pm_r 99 0), some (pm_r 0 0), some (pm_r 20 0), some (pm_r 60 0), some (pm_i v4), u5, u6] [] (mm x R Z Y o A c G g) Q) (k1 : ((Z 99 0 j1) &&& (nI 31)).toInt = 1 → pW ns d 146 155 [some (pm_r 99 0), some (pm_r 0 0), some (pm_r 20 0), some (pm_r 60 0), some (pm_i v4), u5, u6] [] (mm x R Z Y o A c G g) Q) (k2 : ((Z 99 0 j1) &&& (nI 31)).toInt = 2 → pW ns d 146 211 [some (pm_r 99 0), some (pm_r 0 0), some (pm_r 20 0), some (pm_r 60 0), some (pm_i v4), u5, u6] [] (mm x R Z Y o A c G g) Q) (k3 : ((Z 99 0 j1) &&& (nI 31)).toInt = 3 → pW ns d 146 279 [some (pm_r 99 0), some (pm_r 0 0), some (pm_r 20 0), some (pm_r 60 0), some (pm_i v4), u5, u6] [] (mm x R Z Y o A c G g) Q) (k4 : ((Z 99 0 j1) &&& (nI 31)).toInt = 4 → pW ns d 146 335 [some (pm_r 99 0), some (pm_r 0 0), some (pm_r 20 0), some (pm_r 60 0), some (pm_i v4), u5, u6] [] (mm x R Z Y o A c G g) Q) (k5 : ((Z 99 0 j1) &&& (nI 31)).toInt = 5 → pW ns d 146 415 [some (pm_r 99 0), some (pm_r 0 0), some (pm_r 20 0), some (pm_r 60 0), some (pm_i v4), u5, u6] [] (mm x R Z Y o A c G g) Q) (k6 : ((Z 99 0 j1) &&& (nI 31)).toInt = 6 → pW ns d 146 483 [some (pm_r 99 0), some (pm_r 0 0), some (pm_r 20 0), some (pm_r 60 0), some (pm_i v4), u5, u6] [] (mm x R Z Y o A c G g) Q) (k7 : ((Z 99 0 j1) &&& (nI 31)).toInt = 7 → pW ns d 146 563 [some (pm_r 99 0), some (pm_r 0 0), some (pm_r 20 0), some (pm_r 60 0), some (pm_i v4), u5, u6] [] (mm x R Z Y o A c G g) Q) (k8 : ((Z 99 0 j1) &&& (nI 31)).toInt = 8 → pW ns d 146 687 [some (pm_r 99 0), some (pm_r 0 0), some (pm_r 20 0), some (pm_r 60 0), some (pm_i v4), u5, u6] [] (mm x R Z Y o A c G g) Q) (k9 : ((Z 99 0 j1) &&& (nI 31)).toInt = 9 → pW ns d 146 771 [some (pm_r 99 0), some (pm_r 0 0), some (pm_r 20 0), some (pm_r 60 0), some (pm_i v4), u5, u6] [] (mm x R Z Y o A c G g) Q) (k10 : ((Z 99 0 j1) &&& (nI 31)).toInt = 10 → pW ns d 146 827 [some (pm_r 99 0), some (pm_r 0 0), some (pm_r 20 0), some (pm_r 60 0), some (pm_i v4), u5, u6] [] (mm x R Z Y o A c G g) Q) (k11 : ((Z 99 0 j1) &&& (nI 31)).toInt = 11 → pW ns d 146 907 [some (pm_r 99 0), some (pm_r 0 0), some (pm_r 20 0), some (pm_r 60 0), some (pm_i v4), u5, u6] [] (mm x R Z Y o A c G g) Q) (k12 : ((Z 99 0 j1) &&& (nI 31)).toInt = 12 → pW ns d 146 987 [some (pm_r 99 0), some (pm_r 0 0), some (pm_r 20 0), some (pm_r 60 0), some (pm_i v4), u5, u6] [] (mm x R Z Y o A c G g) Q) (k13 : ((Z 99 0 j1) &&& (nI 31)).toInt = 13 → pW ns d 146 1055 [some (pm_r 99 0), some (pm_r 0 0), some (pm_r 20 0), some (pm_r 60 0), some (pm_i v4), u5, u6] [] (mm x R Z Y o A c G g) Q) (k14 : ((Z 99 0 j1) &&& (nI 31)).toInt = 14 → pW ns d 146 1135 [some (pm_r 99 0), some (pm_r 0 0), some (pm_r 20 0), some (pm_r 60 0), some (pm_i v4), u5, u6] [] (mm x R Z Y o A c G g) Q) (k15 : ((Z 99 0 j1) &&& (nI 31)).toInt = 15 → pW ns d 146 1203 [some (pm_r 99 0), some (pm_r 0 0), some (pm_r 20 0), some (pm_r 60 0), some (pm_i v4), u5, u6] [] (mm x R Z Y o A c G g) Q) (k16 : ((Z 99 0 j1) &&& (nI 31)).toInt = 16 → pW ns d 146 1240 [some (pm_r 99 0), some (pm_r 0 0), some (pm_r 20 0), some (pm_r 60 0), some (pm_i v4), u5, u6] [] (mm x R Z Y o A c G g) Q) (k17 : ((Z 99 0 j1) &&& (nI 31)).toInt = 17 → pW ns d 146 1277 [some (pm_r 99 0), some (pm_r 0 0), some (pm_r 20 0), some (pm_r 60 0), some (pm_i v4), u5, u6] [] (mm x R Z Y o A c G g) Q) (k18 : ((Z 99 0 j1) &&& (nI 31)).toInt = 18 → pW ns d 146 1314 [some (pm_r 99 0), some (pm_r 0 0), some (pm_r 20 0), some (pm_r 60 0), some (pm_i v4), u5, u6] [] (mm x R Z Y o A c G g) Q) (kd : ¬ ((Z 99 0 j1) &&& (nI 31)).toInt = 0 → ¬ ((Z 99 0 j1) &&& (nI 31)).toInt = 1 → ¬ ((Z 99 0 j1) &&& (nI 31)).toInt = 2 → ¬ ((Z 99 0 j1) &&& (nI 31)).toInt = 3 → ¬ ((Z 99 0 j1) &&& (nI 31)).toInt = 4 → ¬ ((Z 99 0 j1) &&& (nI 31)).toInt = 5 → ¬ ((Z 99 0 j1) &&& (nI 31)).toInt = 6 → ¬ ((Z 99 0 j1) &&& (nI 31)).toInt = 7 → ¬ ((Z 99 0 j1) &&& (nI 31)).toInt = 8 → ¬ ((Z 99 0 j1) &&& (nI 31)).toInt = 9 → ¬ ((Z 99 0 j1) &&& (nI 31)).toInt = 10 → ¬ ((Z 99 0 j1) &&& (nI 31)).toInt = 11 → ¬ ((Z 99 0 j1) &&& (nI 31)).toInt = 12 → ¬ ((Z 99 0 j1) &&& (nI 31)).toInt = 13 → ¬ ((Z 99 0 j1) &&& (nI 31)).toInt = 14 → ¬ ((Z 99 0 j1) &&& (nI 31)).toInt = 15 → ¬ ((Z 99 0 j1) &&& (nI 31)).toInt = 16 → ¬ ((Z 99 0 j1) &&& (nI 31)).toInt = 17 → ¬ ((Z 99 0 j1) &&& (nI 31)).toInt = 18 → pW ns d 146 1339 [some (pm_r 99 0), some (pm_r 0 0), some (pm_r 20 0), some (pm_r 60 0), some (pm_i v4), u5, u6] [] (mm x R Z Y o A c G g) Q) : pW ns d 146 33 [some (pm_r 99 0), some (pm_r 0 0), some (pm_r 20 0), some (pm_r 60 0), some (pm_i v4), u5, u6] [] (mm x R Z Y o A c G g) Q := by
  refine pW_eq 3 (pc' := 37) (L' := [some (pm_r 99 0), some (pm_r 0 0), some (pm_r 20 0), some (pm_r 60 0), some (pm_i v4), u5, u6]) (S' := [pm_i (Z 99 0 j1)]) (M' := (mm x R Z Y o A c G g)) (fun call n => ?_) ?_
  · refine Eq.trans (b := pm_g (mm x R Z Y o A c G g) 99 0 (pm_ix (v4) ns (fun jx => pm_go call ns d 146 n 37 [some (pm_r 99 0), some (pm_r 0 0), some (pm_r 20 0), some (pm_r 60 0), some (pm_i v4), u5, u6] [pm_i (Z 99 0 jx)] (mm x R Z Y o A c G g)))) rfl ?_
    refine (g_ok (f := 99) (by decide) rfl).trans ?_
    refine (ix_ok (j := j1) e1 l1 hns).trans ?_
    rfl
  by_cases h0 : ((Z 99 0 j1) &&& (nI 31)).toInt = 0
  · refine pW_eq 3 (fun call n => ?_) (k0 h0)
    refine Eq.trans (b := pm_sw (((Z 99 0 j1) &&& (nI 31)).toInt) (0) [92, 115, 171, 239, 295, 375, 443, 523, 647, 731, 787, 867, 947, 1015, 1095, 1163, 1200, 1237, 1274] 1299 (fun oo => pm_j 40 oo fun tt => pm_go call ns d 146 n tt [some (pm_r 99 0), some (pm_r 0 0), some (pm_r 20 0), some (pm_r 60 0), some (pm_i v4), u5, u6] [] (mm x R Z Y o A c G g))) rfl ?_
    rw [h0]
    rfl
  by_cases h1 : ((Z 99 0 j1) &&& (nI 31)).toInt = 1
  · refine pW_eq 3 (fun call n => ?_) (k1 h1)
    refine Eq.trans (b := pm_sw (((Z 99 0 j1) &&& (nI 31)).toInt) (0) [92, 115, 171, 239, 295, 375, 443, 523, 647, 731, 787, 867, 947, 1015, 1095, 1163, 1200, 1237, 1274] 1299 (fun oo => pm_j 40 oo fun tt => pm_go call ns d 146 n tt [some (pm_r 99 0), some (pm_r 0 0), some (pm_r 20 0), some (pm_r 60 0), some (pm_i v4), u5, u6] [] (mm x R Z Y o A c G g))) rfl ?_
    rw [h1]
    rfl
  by_cases h2 : ((Z 99 0 j1) &&& (nI 31)).toInt = 2
  · refine pW_eq 3 (fun call n => ?_) (k2 h2)
    refine Eq.trans (b := pm_sw (((Z 99 0 j1) &&& (nI 31)).toInt) (0) [92, 115, 171, 239, 295, 375, 443, 523, 647, 731, 787, 867, 947, 1015, 1095, 1163, 1200, 1237, 1274] 1299 (fun oo => pm_j 40 oo fun tt => pm_go call ns d 146 n tt [some (pm_r 99 0), some (pm_r 0 0), some (pm_r 20 0), some (pm_r 60 0), some (pm_i v4), u5, u6] [] (mm x R Z Y o A c G g))) rfl ?_
    rw [h2]
    rfl
  by_cases h3 : ((Z 99 0 j1) &&& (nI 31)).toInt = 3
  · refine pW_eq 3 (fun call n => ?_) (k3 h3)
    refine Eq.trans (b := pm_sw (((Z 99 0 j1) &&& (nI 31)).toInt) (0) [92, 115, 171, 239, 295, 375, 443, 523, 647, 731, 787, 867, 947, 1015, 1095, 1163, 1200, 1237, 1274] 1299 (fun oo => pm_j 40 oo fun tt => pm_go call ns d 146 n tt [some (pm_r 99 0), some (pm_r 0 0), some (pm_r 20 0), some (pm_r 60 0), some (pm_i v4), u5, u6] [] (mm x R Z Y o A c G g))) rfl ?_
    rw [h3]
    rfl
  by_cases h4 : ((Z 99 0 j1) &&& (nI 31)).toInt = 4
  · refine pW_eq 3 (fun call n => ?_) (k4 h4)
    refine Eq.trans (b := pm_sw (((Z 99 0 j1) &&& (nI 31)).toInt) (0) [92, 115, 171, 239, 295, 375, 443, 523, 647, 731, 787, 867, 947, 1015, 1095, 1163, 1200, 1237, 1274] 1299 (fun oo => pm_j 40 oo fun tt => pm_go call ns d 146 n tt [some (pm_r 99 0), some (pm_r 0 0), some (pm_r 20 0), some (pm_r 60 0), some (pm_i v4), u5, u6] [] (mm x R Z Y o A c G g))) rfl ?_
    rw [h4]
    rfl
  by_cases h5 : ((Z 99 0 j1) &&& (nI 31)).toInt = 5
  · refine pW_eq 3 (fun call n => ?_) (k5 h5)
    refine Eq.trans (b := pm_sw (((Z 99 0 j1) &&& (nI 31)).toInt) (0) [92, 115, 171, 239, 295, 375, 443, 523, 647, 731, 787, 867, 947, 1015, 1095, 1163, 1200, 1237, 1274] 1299 (fun oo => pm_j 40 oo fun tt => pm_go call ns d 146 n tt [some (pm_r 99 0), some (pm_r 0 0), some (pm_r 20 0), some (pm_r 60 0), some (pm_i v4), u5, u6] [] (mm x R Z Y o A c G g))) rfl ?_
    rw [h5]
    rfl
  by_cases h6 : ((Z 99 0 j1) &&& (nI 31)).toInt = 6
  · refine pW_eq 3 (fun call n => ?_) (k6 h6)
    refine Eq.trans (b := pm_sw (((Z 99 0 j1) &&& (nI 31)).toInt) (0) [92, 115, 171, 239, 295, 375, 443, 523, 647, 731, 787, 867, 947, 1015, 1095, 1163, 1200, 1237, 1274] 1299 (fun oo => pm_j 40 oo fun tt => pm_go call ns d 146 n tt [some (pm_r 99 0), some (pm_r 0 0), some (pm_r 20 0), some (pm_r 60 0), some (pm_i v4), u5, u6] [] (mm x R Z Y o A c G g))) rfl ?_
    rw [h6]
    rfl
  by_cases h7 : ((Z 99 0 j1) &&& (nI 31)).toInt = 7
  · refine pW_eq 3 (fun call n => ?_) (k7 h7)
    refine Eq.trans (b := pm_sw (((Z 99 0 j1) &&& (nI 31)).toInt) (0) [92, 115, 171, 239, 295, 375, 443, 523, 647, 731, 787, 867, 947, 1015, 1095, 1163, 1200, 1237, 1274] 1299 (fun oo => pm_j 40 oo fun tt => pm_go call ns d 146 n tt [some (pm_r 99 0), some (pm_r 0 0), some (pm_r 20 0), some (pm_r 60 0), some (pm_i v4), u5, u6] [] (mm x R Z Y o A c G g))) rfl ?_
    rw [h7]
    rfl
  by_cases h8 : ((Z 99 0 j1) &&& (nI 31)).toInt = 8
  · refine pW_eq 3 (fun call n => ?_) (k8 h8)
    refine Eq.trans (b := pm_sw (((Z 99 0 j1) &&& (nI 31)).toInt) (0) [92, 115, 171, 239, 295, 375, 443, 523, 647, 731, 787, 867, 947, 1015, 1095, 1163, 1200, 1237, 1274] 1299 (fun oo => pm_j 40 oo fun tt => pm_go call ns d 146 n tt [some (pm_r 99 0), some (pm_r 0 0), some (pm_r 20 0), some (pm_r 60 0), some (pm_i v4), u5, u6] [] (mm x R Z Y o A c G g))) rfl ?_
    rw [h8]
    rfl
  by_cases h9 : ((Z 99 0 j1) &&& (nI 31)).toInt = 9
  · refine pW_eq 3 (fun call n => ?_) (k9 h9)
    refine Eq.trans (b := pm_sw (((Z 99 0 j1) &&& (nI 31)).toInt) (0) [92, 115, 171, 239, 295, 375, 443, 523, 647, 731, 787, 867, 947, 1015, 1095, 1163, 1200, 1237, 1274] 1299 (fun oo => pm_j 40 oo fun tt => pm_go call ns d 146 n tt [some (pm_r 99 0), some (pm_r 0 0), some (pm_r 20 0), some (pm_r 60 0), some (pm_i v4), u5, u6] [] (mm x R Z Y o A c G g))) rfl ?_
    rw [h9]
    rfl
  by_cases h10 : ((Z 99 0 j1) &&& (nI 31)).toInt = 10
  · refine pW_eq 3 (fun call n => ?_) (k10 h10)
    refine Eq.trans (b := pm_sw (((Z 99 0 j1) &&& (nI 31)).toInt) (0) [92, 115, 171, 239, 295, 375, 443, 523, 647, 731, 787, 867, 947, 1015, 1095, 1163, 1200, 1237, 1274] 1299 (fun oo => pm_j 40 oo fun tt => pm_go call ns d 146 n tt [some (pm_r 99 0), some (pm_r 0 0), some (pm_r 20 0), some (pm_r 60 0), some (pm_i v4), u5, u6] [] (mm x R Z Y o A c G g))) rfl ?_
    rw [h10]
    rfl
  by_cases h11 : ((Z 99 0 j1) &&& (nI 31)).toInt = 11
  · refine pW_eq 3 (fun call n => ?_) (k11 h11)
    refine Eq.trans (b := pm_sw (((Z 99 0 j1) &&& (nI 31)).toInt) (0) [92, 115, 171, 239, 295, 375, 443, 523, 647, 731, 787, 867, 947, 1015, 1095, 1163, 1200, 1237, 1274] 1299 (fun oo => pm_j 40 oo fun tt => pm_go call ns d 146 n tt [some (pm_r 99 0), some (pm_r 0 0), some (pm_r 20 0), some (pm_r 60 0), some (pm_i v4), u5, u6] [] (mm x R Z Y o A c G g))) rfl ?_
    rw [h11]
    rfl
  by_cases h12 : ((Z 99 0 j1) &&& (nI 31)).toInt = 12
  · refine pW_eq 3 (fun call n => ?_) (k12 h12)
    refine Eq.trans (b := pm_sw (((Z 99 0 j1) &&& (nI 31)).toInt) (0) [92, 115, 171, 239, 295, 375, 443, 523, 647, 731, 787, 867, 947, 1015, 1095, 1163, 1200, 1237, 1274] 1299 (fun oo => pm_j 40 oo fun tt => pm_go call ns d 146 n tt [some (pm_r 99 0), some (pm_r 0 0), some (pm_r 20 0), some (pm_r 60 0), some (pm_i v4), u5, u6] [] (mm x R Z Y o A c G g))) rfl ?_
    rw [h12]
    rfl
  by_cases h13 : ((Z 99 0 j1) &&& (nI 31)).toInt = 13
  · refine pW_eq 3 (fun call n => ?_) (k13 h13)
    refine Eq.trans (b := pm_sw (((Z 99 0 j1) &&& (nI 31)).toInt) (0) [92, 115, 171, 239, 295, 375, 443, 523, 647, 731, 787, 867, 947, 1015, 1095, 1163, 1200, 1237, 1274] 1299 (fun oo => pm_j 40 oo fun tt => pm_go call ns d 146 n tt [some (pm_r 99 0), some (pm_r 0 0), some (pm_r 20 0), some (pm_r 60 0), some (pm_i v4), u5, u6] [] (mm x R Z Y o A c G g))) rfl ?_
    rw [h13]
    rfl
  by_cases h14 : ((Z 99 0 j1) &&& (nI 31)).toInt = 14
  · refine pW_eq 3 (fun call n => ?_) (k14 h14)
    refine Eq.trans (b := pm_sw (((Z 99 0 j1) &&& (nI 31)).toInt) (0) [92, 115, 171, 239, 295, 375, 443, 523, 647, 731, 787, 867, 947, 1015, 1095, 1163, 1200, 1237, 1274] 1299 (fun oo => pm_j 40 oo fun tt => pm_go call ns d 146 n tt [some (pm_r 99 0), some (pm_r 0 0), some (pm_r 20 0), some (pm_r 60 0), some (pm_i v4), u5, u6] [] (mm x R Z Y o A c G g))) rfl ?_
    rw [h14]
    rfl
  by_cases h15 : ((Z 99 0 j1) &&& (nI 31)).toInt = 15
  · refine pW_eq 3 (fun call n => ?_) (k15 h15)
    refine Eq.trans (b := pm_sw (((Z 99 0 j1) &&& (nI 31)).toInt) (0) [92, 115, 171, 239, 295, 375, 443, 523, 647, 731, 787, 867, 947, 1015, 1095, 1163, 1200, 1237, 1274] 1299 (fun oo => pm_j 40 oo fun tt => pm_go call ns d 146 n tt [some (pm_r 99 0), some (pm_r 0 0), some (pm_r 20 0), some (pm_r 60 0), some (pm_i v4), u5, u6] [] (mm x R Z Y o A c G g))) rfl ?_
    rw [h15]
    rfl
  by_cases h16 : ((Z 99 0 j1) &&& (nI 31)).toInt = 16
  · refine pW_eq 3 (fun call n => ?_) (k16 h16)
    refine Eq.trans (b := pm_sw (((Z 99 0 j1) &&& (nI 31)).toInt) (0) [92, 115, 171, 239, 295, 375, 443, 523, 647, 731, 787, 867, 947, 1015, 1095, 1163, 1200, 1237, 1274] 1299 (fun oo => pm_j 40 oo fun tt => pm_go call ns d 146 n tt [some (pm_r 99 0), some (pm_r 0 0), some (pm_r 20 0), some (pm_r 60 0), some (pm_i v4), u5, u6] [] (mm x R Z Y o A c G g))) rfl ?_
    rw [h16]
    rfl
  by_cases h17 : ((Z 99 0 j1) &&& (nI 31)).toInt = 17
  · refine pW_eq 3 (fun call n => ?_) (k17 h17)
    refine Eq.trans (b := pm_sw (((Z 99 0 j1) &&& (nI 31)).toInt) (0) [92, 115, 171, 239, 295, 375, 443, 523, 647, 731, 787, 867, 947, 1015, 1095, 1163, 1200, 1237, 1274] 1299 (fun oo => pm_j 40 oo fun tt => pm_go call ns d 146 n tt [some (pm_r 99 0), some (pm_r 0 0), some (pm_r 20 0), some (pm_r 60 0), some (pm_i v4), u5, u6] [] (mm x R Z Y o A c G g))) rfl ?_
    rw [h17]
    rfl
  by_cases h18 : ((Z 99 0 j1) &&& (nI 31)).toInt = 18
  · refine pW_eq 3 (fun call n => ?_) (k18 h18)
    refine Eq.trans (b := pm_sw (((Z 99 0 j1) &&& (nI 31)).toInt) (0) [92, 115, 171, 239, 295, 375, 443, 523, 647, 731, 787, 867, 947, 1015, 1095, 1163, 1200, 1237, 1274] 1299 (fun oo => pm_j 40 oo fun tt => pm_go call ns d 146 n tt [some (pm_r 99 0), some (pm_r 0 0), some (pm_r 20 0), some (pm_r 60 0), some (pm_i v4), u5, u6] [] (mm x R Z Y o A c G g))) rfl ?_
    rw [h18]
    rfl
  refine pW_eq 3 (fun call n => ?_) (kd h0 h1 h2 h3 h4 h5 h6 h7 h8 h9 h10 h11 h12 h13 h14 h15 h16 h17 h18)
  refine Eq.trans (b := pm_sw (((Z 99 0 j1) &&& (nI 31)).toInt) (0) [92, 115, 171, 239, 295, 375, 443, 523, 647, 731, 787, 867, 947, 1015, 1095, 1163, 1200, 1237, 1274] 1299 (fun oo => pm_j 40 oo fun tt => pm_go call ns d 146 n tt [some (pm_r 99 0), some (pm_r 0 0), some (pm_r 20 0), some (pm_r 60 0), some (pm_i v4), u5, u6] [] (mm x R Z Y o A c G g))) rfl ?_
  refine (if_neg h0).trans ?_
  refine (if_neg h1).trans ?_
  refine (if_neg h2).trans ?_
  refine (if_neg h3).trans ?_
  refine (if_neg h4).trans ?_
  refine (if_neg h5).trans ?_
  refine (if_neg h6).trans ?_
  refine (if_neg h7).trans ?_
  refine (if_neg h8).trans ?_
  refine (if_neg h9).trans ?_
  refine (if_neg h10).trans ?_
  refine (if_neg h11).trans ?_
  refine (if_neg h12).trans ?_
  refine (if_neg h13).trans ?_
  refine (if_neg h14).trans ?_
  refine (if_neg h15).trans ?_
  refine (if_neg h16).trans ?_
  refine (if_neg h17).trans ?_
  refine (if_neg h18).trans ?_
  rfl
set_option maxRecDepth 20000 in
theorem b146_132 (hR : RS R) (hns : ns < 2 ^ 31) {v4 : Int32} {u5 : Option pm_V} {u6 : Option pm_V} {j1 : Nat} (e1 : v4 + (nI 1) = nI j1) (l1 : j1 < ns) {x2 : Nat} {o2 : Int64} {A2 : Nat → Nat → Nat → Int32} {c2 : Nat → Int64} {G2 : Nat → Nat → Int32} {g2 : Nat → Int64}  (hE : pE ns d 1 [pm_r 0 0, pm_i (Z 99 0 j1)] (mm x R Z Y o A c G g) (.inl (none), (mm x2 R Z Y o2 A2 c2 G2 g2))) (k : pW ns d 146 142 [some (pm_r 99 0), some (pm_r 0 0), some (pm_r 20 0), some (pm_r 60 0), some (pm_i v4), u5, u6] [] (mm x2 R Z Y o2 A2 c2 G2 g2) Q) : pW ns d 146 132 [some (pm_r 99 0), some (pm_r 0 0), some (pm_r 20 0), some (pm_r 60 0), some (pm_i v4), u5, u6] [] (mm x R Z Y o A c G g) Q := by
  refine pW_eq 6 (pc' := 139) (L' := [some (pm_r 99 0), some (pm_r 0 0), some (pm_r 20 0), some (pm_r 60 0), some (pm_i v4), u5, u6]) (S' := [pm_i (Z 99 0 j1), pm_r 0 0]) (M' := (mm x R Z Y o A c G g)) (fun call n => ?_) ?_
  · refine Eq.trans (b := pm_g (mm x R Z Y o A c G g) 99 0 (pm_ix (v4 + (nI 1)) ns (fun jx => pm_go call ns d 146 n 139 [some (pm_r 99 0), some (pm_r 0 0), some (pm_r 20 0), some (pm_r 60 0), some (pm_i v4), u5, u6] [pm_i (Z 99 0 jx), pm_r 0 0] (mm x R Z Y o A c G g)))) rfl ?_
    refine (g_ok (f := 99) (by decide) rfl).trans ?_
    refine (ix_ok (j := j1) e1 l1 hns).trans ?_
    rfl
  refine pW_call (pc' := 139) (r := []) (L' := [some (pm_r 99 0), some (pm_r 0 0), some (pm_r 20 0), some (pm_r 60 0), some (pm_i v4), u5, u6]) 1 (fun call n => ?_) hE k
  exact Eq.trans (b := pm_g (mm x R Z Y o A c G g) 0 0 (pm_cl call 146 (pm_go call ns d 146 n) 139 1 [pm_r 0 0, pm_i (Z 99 0 j1)] [] [some (pm_r 99 0), some (pm_r 0 0), some (pm_r 20 0), some (pm_r 60 0), some (pm_i v4), u5, u6] (mm x R Z Y o A c G g))) rfl (g_ok (f := 0) (by decide) rfl)
set_option maxRecDepth 20000 in
theorem b146_155 (hR : RS R) (hns : ns < 2 ^ 31) {v4 : Int32} {u5 : Option pm_V} {u6 : Option pm_V} {j1 : Nat} (e1 : v4 + (nI 1) = nI j1) (l1 : j1 < ns) {x2 : Nat} {o2 : Int64} {A2 : Nat → Nat → Nat → Int32} {c2 : Nat → Int64} {G2 : Nat → Nat → Int32} {g2 : Nat → Int64} {y : Int32} (hE : pE ns d 132 [pm_r 0 0, pm_i (Z 99 0 j1), pm_r 60 0] (mm x R Z Y o A c G g) (.inl (some (pm_i y)), (mm x2 R Z Y o2 A2 c2 G2 g2))) (k : pW ns d 146 166 [some (pm_r 99 0), some (pm_r 0 0), some (pm_r 20 0), some (pm_r 60 0), some (pm_i v4), u5, u6] [pm_i y] (mm x2 R Z Y o2 A2 c2 G2 g2) Q) : pW ns d 146 155 [some (pm_r 99 0), some (pm_r 0 0), some (pm_r 20 0), some (pm_r 60 0), some (pm_i v4), u5, u6] [] (mm x R Z Y o A c G g) Q := by
  refine pW_eq 6 (pc' := 162) (L' := [some (pm_r 99 0), some (pm_r 0 0), some (pm_r 20 0), some (pm_r 60 0), some (pm_i v4), u5, u6]) (S' := [pm_i (Z 99 0 j1), pm_r 0 0]) (M' := (mm x R Z Y o A c G g)) (fun call n => ?_) ?_
  · refine Eq.trans (b := pm_g (mm x R Z Y o A c G g) 99 0 (pm_ix (v4 + (nI 1)) ns (fun jx => pm_go call ns d 146 n 162 [some (pm_r 99 0), some (pm_r 0 0), some (pm_r 20 0), some (pm_r 60 0), some (pm_i v4), u5, u6] [pm_i (Z 99 0 jx), pm_r 0 0] (mm x R Z Y o A c G g)))) rfl ?_
    refine (g_ok (f := 99) (by decide) rfl).trans ?_
    refine (ix_ok (j := j1) e1 l1 hns).trans ?_
    rfl
  refine pW_call (pc' := 163) (r := []) (L' := [some (pm_r 99 0), some (pm_r 0 0), some (pm_r 20 0), some (pm_r 60 0), some (pm_i v4), u5, u6]) 2 (fun call n => ?_) hE k
  rfl
set_option maxRecDepth 20000 in
theorem b146_211 (hR : RS R) (hns : ns < 2 ^ 31) {v4 : Int32} {u5 : Option pm_V} {u6 : Option pm_V} {j1 : Nat} {j2 : Nat} (e1 : v4 + (nI 1) = nI j1) (l1 : j1 < ns) (e2 : v4 + (nI 2) = nI j2) (l2 : j2 < ns) {x2 : Nat} {o2 : Int64} {A2 : Nat → Nat → Nat → Int32} {c2 : Nat → Int64} {G2 : Nat → Nat → Int32} {g2 : Nat → Int64} {y : Int32} (hE : pE ns d 133 [pm_r 0 0, pm_i (Z 99 0 j1), pm_i (Z 99 0 j2), pm_r 60 0] (mm x R Z Y o A c G g) (.inl (some (pm_i y)), (mm x2 R Z Y o2 A2 c2 G2 g2))) (k : pW ns d 146 228 [some (pm_r 99 0), some (pm_r 0 0), some (pm_r 20 0), some (pm_r 60 0), some (pm_i v4), u5, u6] [pm_i y] (mm x2 R Z Y o2 A2 c2 G2 g2) Q) : pW ns d 146 211 [some (pm_r 99 0), some (pm_r 0 0), some (pm_r 20 0), some (pm_r 60 0), some (pm_i v4), u5, u6] [] (mm x R Z Y o A c G g) Q := by
  refine pW_eq 6 (pc' := 218) (L' := [some (pm_r 99 0), some (pm_r 0 0), some (pm_r 20 0), some (pm_r 60 0), some (pm_i v4), u5, u6]) (S' := [pm_i (Z 99 0 j1), pm_r 0 0]) (M' := (mm x R Z Y o A c G g)) (fun call n => ?_) ?_
  · refine Eq.trans (b := pm_g (mm x R Z Y o A c G g) 99 0 (pm_ix (v4 + (nI 1)) ns (fun jx => pm_go call ns d 146 n 218 [some (pm_r 99 0), some (pm_r 0 0), some (pm_r 20 0), some (pm_r 60 0), some (pm_i v4), u5, u6] [pm_i (Z 99 0 jx), pm_r 0 0] (mm x R Z Y o A c G g)))) rfl ?_
    refine (g_ok (f := 99) (by decide) rfl).trans ?_
    refine (ix_ok (j := j1) e1 l1 hns).trans ?_
    rfl
  refine pW_eq 5 (pc' := 224) (L' := [some (pm_r 99 0), some (pm_r 0 0), some (pm_r 20 0), some (pm_r 60 0), some (pm_i v4), u5, u6]) (S' := [pm_i (Z 99 0 j2), pm_i (Z 99 0 j1), pm_r 0 0]) (M' := (mm x R Z Y o A c G g)) (fun call n => ?_) ?_
  · refine Eq.trans (b := pm_g (mm x R Z Y o A c G g) 99 0 (pm_ix (v4 + (nI 2)) ns (fun jx => pm_go call ns d 146 n 224 [some (pm_r 99 0), some (pm_r 0 0), some (pm_r 20 0), some (pm_r 60 0), some (pm_i v4), u5, u6] [pm_i (Z 99 0 jx), pm_i (Z 99 0 j1), pm_r 0 0] (mm x R Z Y o A c G g)))) rfl ?_
    refine (g_ok (f := 99) (by decide) rfl).trans ?_
    refine (ix_ok (j := j2) e2 l2 hns).trans ?_
    rfl
  refine pW_call (pc' := 225) (r := []) (L' := [some (pm_r 99 0), some (pm_r 0 0), some (pm_r 20 0), some (pm_r 60 0), some (pm_i v4), u5, u6]) 2 (fun call n => ?_) hE k
  rfl
set_option maxRecDepth 20000 in
theorem b146_279 (hR : RS R) (hns : ns < 2 ^ 31) {v4 : Int32} {u5 : Option pm_V} {u6 : Option pm_V} {j1 : Nat} (e1 : v4 + (nI 1) = nI j1) (l1 : j1 < ns) {x2 : Nat} {o2 : Int64} {A2 : Nat → Nat → Nat → Int32} {c2 : Nat → Int64} {G2 : Nat → Nat → Int32} {g2 : Nat → Int64} {y : Int32} (hE : pE ns d 134 [pm_r 0 0, pm_i (Z 99 0 j1), pm_r 60 0] (mm x R Z Y o A c G g) (.inl (some (pm_i y)), (mm x2 R Z Y o2 A2 c2 G2 g2))) (k : pW ns d 146 290 [some (pm_r 99 0), some (pm_r 0 0), some (pm_r 20 0), some (pm_r 60 0), some (pm_i v4), u5, u6] [pm_i y] (mm x2 R Z Y o2 A2 c2 G2 g2) Q) : pW ns d 146 279 [some (pm_r 99 0), some (pm_r 0 0), some (pm_r 20 0), some (pm_r 60 0), some (pm_i v4), u5, u6] [] (mm x R Z Y o A c G g) Q := by
  refine pW_eq 6 (pc' := 286) (L' := [some (pm_r 99 0), some (pm_r 0 0), some (pm_r 20 0), some (pm_r 60 0), some (pm_i v4), u5, u6]) (S' := [pm_i (Z 99 0 j1), pm_r 0 0]) (M' := (mm x R Z Y o A c G g)) (fun call n => ?_) ?_
  · refine Eq.trans (b := pm_g (mm x R Z Y o A c G g) 99 0 (pm_ix (v4 + (nI 1)) ns (fun jx => pm_go call ns d 146 n 286 [some (pm_r 99 0), some (pm_r 0 0), some (pm_r 20 0), some (pm_r 60 0), some (pm_i v4), u5, u6] [pm_i (Z 99 0 jx), pm_r 0 0] (mm x R Z Y o A c G g)))) rfl ?_
    refine (g_ok (f := 99) (by decide) rfl).trans ?_
    refine (ix_ok (j := j1) e1 l1 hns).trans ?_
    rfl
  refine pW_call (pc' := 287) (r := []) (L' := [some (pm_r 99 0), some (pm_r 0 0), some (pm_r 20 0), some (pm_r 60 0), some (pm_i v4), u5, u6]) 2 (fun call n => ?_) hE k
  rfl
set_option maxRecDepth 20000 in
theorem b146_335 (hR : RS R) (hns : ns < 2 ^ 31) {v4 : Int32} {u5 : Option pm_V} {u6 : Option pm_V} {j1 : Nat} {j2 : Nat} {j3 : Nat} (e1 : v4 + (nI 1) = nI j1) (l1 : j1 < ns) (e2 : v4 + (nI 2) = nI j2) (l2 : j2 < ns) (e3 : v4 + (nI 3) = nI j3) (l3 : j3 < ns) {x2 : Nat} {o2 : Int64} {A2 : Nat → Nat → Nat → Int32} {c2 : Nat → Int64} {G2 : Nat → Nat → Int32} {g2 : Nat → Int64} {y : Int32} (hE : pE ns d 135 [pm_r 0 0, pm_i (Z 99 0 j1), pm_i (Z 99 0 j2), pm_i (Z 99 0 j3), pm_r 60 0] (mm x R Z Y o A c G g) (.inl (some (pm_i y)), (mm x2 R Z Y o2 A2 c2 G2 g2))) (k : pW ns d 146 358 [some (pm_r 99 0), some (pm_r 0 0), some (pm_r 20 0), some (pm_r 60 0), some (pm_i v4), u5, u6] [pm_i y] (mm x2 R Z Y o2 A2 c2 G2 g2) Q) : pW ns d 146 335 [some (pm_r 99 0), some (pm_r 0 0), some (pm_r 20 0), some (pm_r 60 0), some (pm_i v4), u5, u6] [] (mm x R Z Y o A c G g) Q := by
  refine pW_eq 6 (pc' := 342) (L' := [some (pm_r 99 0), some (pm_r 0 0), some (pm_r 20 0), some (pm_r 60 0), some (pm_i v4), u5, u6]) (S' := [pm_i (Z 99 0 j1), pm_r 0 0]) (M' := (mm x R Z Y o A c G g)) (fun call n => ?_) ?_
  · refine Eq.trans (b := pm_g (mm x R Z Y o A c G g) 99 0 (pm_ix (v4 + (nI 1)) ns (fun jx => pm_go call ns d 146 n 342 [some (pm_r 99 0), some (pm_r 0 0), some (pm_r 20 0), some (pm_r 60 0), some (pm_i v4), u5, u6] [pm_i (Z 99 0 jx), pm_r 0 0] (mm x R Z Y o A c G g)))) rfl ?_
    refine (g_ok (f := 99) (by decide) rfl).trans ?_
    refine (ix_ok (j := j1) e1 l1 hns).trans ?_
    rfl
  refine pW_eq 5 (pc' := 348) (L' := [some (pm_r 99 0), some (pm_r 0 0), some (pm_r 20 0), some (pm_r 60 0), some (pm_i v4), u5, u6]) (S' := [pm_i (Z 99 0 j2), pm_i (Z 99 0 j1), pm_r 0 0]) (M' := (mm x R Z Y o A c G g)) (fun call n => ?_) ?_
  · refine Eq.trans (b := pm_g (mm x R Z Y o A c G g) 99 0 (pm_ix (v4 + (nI 2)) ns (fun jx => pm_go call ns d 146 n 348 [some (pm_r 99 0), some (pm_r 0 0), some (pm_r 20 0), some (pm_r 60 0), some (pm_i v4), u5, u6] [pm_i (Z 99 0 jx), pm_i (Z 99 0 j1), pm_r 0 0] (mm x R Z Y o A c G g)))) rfl ?_
    refine (g_ok (f := 99) (by decide) rfl).trans ?_
    refine (ix_ok (j := j2) e2 l2 hns).trans ?_
    rfl
  refine pW_eq 5 (pc' := 354) (L' := [some (pm_r 99 0), some (pm_r 0 0), some (pm_r 20 0), some (pm_r 60 0), some (pm_i v4), u5, u6]) (S' := [pm_i (Z 99 0 j3), pm_i (Z 99 0 j2), pm_i (Z 99 0 j1), pm_r 0 0]) (M' := (mm x R Z Y o A c G g)) (fun call n => ?_) ?_
  · refine Eq.trans (b := pm_g (mm x R Z Y o A c G g) 99 0 (pm_ix (v4 + (nI 3)) ns (fun jx => pm_go call ns d 146 n 354 [some (pm_r 99 0), some (pm_r 0 0), some (pm_r 20 0), some (pm_r 60 0), some (pm_i v4), u5, u6] [pm_i (Z 99 0 jx), pm_i (Z 99 0 j2), pm_i (Z 99 0 j1), pm_r 0 0] (mm x R Z Y o A c G g)))) rfl ?_
    refine (g_ok (f := 99) (by decide) rfl).trans ?_
    refine (ix_ok (j := j3) e3 l3 hns).trans ?_
    rfl
  refine pW_call (pc' := 355) (r := []) (L' := [some (pm_r 99 0), some (pm_r 0 0), some (pm_r 20 0), some (pm_r 60 0), some (pm_i v4), u5, u6]) 2 (fun call n => ?_) hE k
  rfl
set_option maxRecDepth 20000 in
theorem b146_415 (hR : RS R) (hns : ns < 2 ^ 31) {v4 : Int32} {u5 : Option pm_V} {u6 : Option pm_V} {j1 : Nat} {j2 : Nat} (e1 : v4 + (nI 1) = nI j1) (l1 : j1 < ns) (e2 : v4 + (nI 2) = nI j2) (l2 : j2 < ns) {x2 : Nat} {o2 : Int64} {A2 : Nat → Nat → Nat → Int32} {c2 : Nat → Int64} {G2 : Nat → Nat → Int32} {g2 : Nat → Int64} {y : Int32} (hE : pE ns d 136 [pm_r 0 0, pm_i (Z 99 0 j1), pm_i (Z 99 0 j2), pm_r 60 0] (mm x R Z Y o A c G g) (.inl (some (pm_i y)), (mm x2 R Z Y o2 A2 c2 G2 g2))) (k : pW ns d 146 432 [some (pm_r 99 0), some (pm_r 0 0), some (pm_r 20 0), some (pm_r 60 0), some (pm_i v4), u5, u6] [pm_i y] (mm x2 R Z Y o2 A2 c2 G2 g2) Q) : pW ns d 146 415 [some (pm_r 99 0), some (pm_r 0 0), some (pm_r 20 0), some (pm_r 60 0), some (pm_i v4), u5, u6] [] (mm x R Z Y o A c G g) Q := by
  refine pW_eq 6 (pc' := 422) (L' := [some (pm_r 99 0), some (pm_r 0 0), some (pm_r 20 0), some (pm_r 60 0), some (pm_i v4), u5, u6]) (S' := [pm_i (Z 99 0 j1), pm_r 0 0]) (M' := (mm x R Z Y o A c G g)) (fun call n => ?_) ?_
  · refine Eq.trans (b := pm_g (mm x R Z Y o A c G g) 99 0 (pm_ix (v4 + (nI 1)) ns (fun jx => pm_go call ns d 146 n 422 [some (pm_r 99 0), some (pm_r 0 0), some (pm_r 20 0), some (pm_r 60 0), some (pm_i v4), u5, u6] [pm_i (Z 99 0 jx), pm_r 0 0] (mm x R Z Y o A c G g)))) rfl ?_
    refine (g_ok (f := 99) (by decide) rfl).trans ?_
    refine (ix_ok (j := j1) e1 l1 hns).trans ?_
    rfl
  refine pW_eq 5 (pc' := 428) (L' := [some (pm_r 99 0), some (pm_r 0 0), some (pm_r 20 0), some (pm_r 60 0), some (pm_i v4), u5, u6]) (S' := [pm_i (Z 99 0 j2), pm_i (Z 99 0 j1), pm_r 0 0]) (M' := (mm x R Z Y o A c G g)) (fun call n => ?_) ?_
  · refine Eq.trans (b := pm_g (mm x R Z Y o A c G g) 99 0 (pm_ix (v4 + (nI 2)) ns (fun jx => pm_go call ns d 146 n 428 [some (pm_r 99 0), some (pm_r 0 0), some (pm_r 20 0), some (pm_r 60 0), some (pm_i v4), u5, u6] [pm_i (Z 99 0 jx), pm_i (Z 99 0 j1), pm_r 0 0] (mm x R Z Y o A c G g)))) rfl ?_
    refine (g_ok (f := 99) (by decide) rfl).trans ?_
    refine (ix_ok (j := j2) e2 l2 hns).trans ?_
    rfl
  refine pW_call (pc' := 429) (r := []) (L' := [some (pm_r 99 0), some (pm_r 0 0), some (pm_r 20 0), some (pm_r 60 0), some (pm_i v4), u5, u6]) 2 (fun call n => ?_) hE k
  rfl
set_option maxRecDepth 20000 in
theorem b146_483 (hR : RS R) (hns : ns < 2 ^ 31) {v4 : Int32} {u5 : Option pm_V} {u6 : Option pm_V} {j1 : Nat} {j2 : Nat} {j3 : Nat} (e1 : v4 + (nI 1) = nI j1) (l1 : j1 < ns) (e2 : v4 + (nI 2) = nI j2) (l2 : j2 < ns) (e3 : v4 + (nI 3) = nI j3) (l3 : j3 < ns) {x2 : Nat} {o2 : Int64} {A2 : Nat → Nat → Nat → Int32} {c2 : Nat → Int64} {G2 : Nat → Nat → Int32} {g2 : Nat → Int64} {y : Int32} (hE : pE ns d 137 [pm_r 0 0, pm_i (Z 99 0 j1), pm_i (Z 99 0 j2), pm_i (Z 99 0 j3), pm_r 60 0] (mm x R Z Y o A c G g) (.inl (some (pm_i y)), (mm x2 R Z Y o2 A2 c2 G2 g2))) (k : pW ns d 146 506 [some (pm_r 99 0), some (pm_r 0 0), some (pm_r 20 0), some (pm_r 60 0), some (pm_i v4), u5, u6] [pm_i y] (mm x2 R Z Y o2 A2 c2 G2 g2) Q) : pW ns d 146 483 [some (pm_r 99 0), some (pm_r 0 0), some (pm_r 20 0), some (pm_r 60 0), some (pm_i v4), u5, u6] [] (mm x R Z Y o A c G g) Q := by
  refine pW_eq 6 (pc' := 490) (L' := [some (pm_r 99 0), some (pm_r 0 0), some (pm_r 20 0), some (pm_r 60 0), some (pm_i v4), u5, u6]) (S' := [pm_i (Z 99 0 j1), pm_r 0 0]) (M' := (mm x R Z Y o A c G g)) (fun call n => ?_) ?_
  · refine Eq.trans (b := pm_g (mm x R Z Y o A c G g) 99 0 (pm_ix (v4 + (nI 1)) ns (fun jx => pm_go call ns d 146 n 490 [some (pm_r 99 0), some (pm_r 0 0), some (pm_r 20 0), some (pm_r 60 0), some (pm_i v4), u5, u6] [pm_i (Z 99 0 jx), pm_r 0 0] (mm x R Z Y o A c G g)))) rfl ?_
    refine (g_ok (f := 99) (by decide) rfl).trans ?_
    refine (ix_ok (j := j1) e1 l1 hns).trans ?_
    rfl
  refine pW_eq 5 (pc' := 496) (L' := [some (pm_r 99 0), some (pm_r 0 0), some (pm_r 20 0), some (pm_r 60 0), some (pm_i v4), u5, u6]) (S' := [pm_i (Z 99 0 j2), pm_i (Z 99 0 j1), pm_r 0 0]) (M' := (mm x R Z Y o A c G g)) (fun call n => ?_) ?_
  · refine Eq.trans (b := pm_g (mm x R Z Y o A c G g) 99 0 (pm_ix (v4 + (nI 2)) ns (fun jx => pm_go call ns d 146 n 496 [some (pm_r 99 0), some (pm_r 0 0), some (pm_r 20 0), some (pm_r 60 0), some (pm_i v4), u5, u6] [pm_i (Z 99 0 jx), pm_i (Z 99 0 j1), pm_r 0 0] (mm x R Z Y o A c G g)))) rfl ?_
    refine (g_ok (f := 99) (by decide) rfl).trans ?_
    refine (ix_ok (j := j2) e2 l2 hns).trans ?_
    rfl
  refine pW_eq 5 (pc' := 502) (L' := [some (pm_r 99 0), some (pm_r 0 0), some (pm_r 20 0), some (pm_r 60 0), some (pm_i v4), u5, u6]) (S' := [pm_i (Z 99 0 j3), pm_i (Z 99 0 j2), pm_i (Z 99 0 j1), pm_r 0 0]) (M' := (mm x R Z Y o A c G g)) (fun call n => ?_) ?_
  · refine Eq.trans (b := pm_g (mm x R Z Y o A c G g) 99 0 (pm_ix (v4 + (nI 3)) ns (fun jx => pm_go call ns d 146 n 502 [some (pm_r 99 0), some (pm_r 0 0), some (pm_r 20 0), some (pm_r 60 0), some (pm_i v4), u5, u6] [pm_i (Z 99 0 jx), pm_i (Z 99 0 j2), pm_i (Z 99 0 j1), pm_r 0 0] (mm x R Z Y o A c G g)))) rfl ?_
    refine (g_ok (f := 99) (by decide) rfl).trans ?_
    refine (ix_ok (j := j3) e3 l3 hns).trans ?_
    rfl
  refine pW_call (pc' := 503) (r := []) (L' := [some (pm_r 99 0), some (pm_r 0 0), some (pm_r 20 0), some (pm_r 60 0), some (pm_i v4), u5, u6]) 2 (fun call n => ?_) hE k
  rfl
set_option maxRecDepth 20000 in
theorem b146_563 (hR : RS R) (hns : ns < 2 ^ 31) {v4 : Int32} {u5 : Option pm_V} {u6 : Option pm_V} {j1 : Nat} {j2 : Nat} {j3 : Nat} {j4 : Nat} {j5 : Nat} (e1 : v4 + (nI 1) = nI j1) (l1 : j1 < ns) (e2 : v4 + (nI 2) = nI j2) (l2 : j2 < ns) (e3 : v4 + (nI 3) = nI j3) (l3 : j3 < ns) (e4 : v4 + (nI 4) = nI j4) (l4 : j4 < ns) (e5 : v4 + (nI 5) = nI j5) (l5 : j5 < ns) {x2 : Nat} {o2 : Int64} {A2 : Nat → Nat → Nat → Int32} {c2 : Nat → Int64} {G2 : Nat → Nat → Int32} {g2 : Nat → Int64} {y : Int32} (hE : pE ns d 138 [pm_r 0 0, pm_i (Z 99 0 j1), pm_i (Z 99 0 j2), pm_l ((((Z 99 0 j3).toInt64) <<< ((nI 32).toInt64 &&& 63)) ||| (((Z 99 0 j4).toInt64) &&& 4294967295)), pm_i (Z 99 0 j5), pm_r 60 0] (mm x R Z Y o A c G g) (.inl (some (pm_i y)), (mm x2 R Z Y o2 A2 c2 G2 g2))) (k : pW ns d 146 608 [some (pm_r 99 0), some (pm_r 0 0), some (pm_r 20 0), some (pm_r 60 0), some (pm_i v4), u5, u6] [pm_i y] (mm x2 R Z Y o2 A2 c2 G2 g2) Q) : pW ns d 146 563 [some (pm_r 99 0), some (pm_r 0 0), some (pm_r 20 0), some (pm_r 60 0), some (pm_i v4), u5, u6] [] (mm x R Z Y o A c G g) Q := by
  refine pW_eq 6 (pc' := 570) (L' := [some (pm_r 99 0), some (pm_r 0 0), some (pm_r 20 0), some (pm_r 60 0), some (pm_i v4), u5, u6]) (S' := [pm_i (Z 99 0 j1), pm_r 0 0]) (M' := (mm x R Z Y o A c G g)) (fun call n => ?_) ?_
  · refine Eq.trans (b := pm_g (mm x R Z Y o A c G g) 99 0 (pm_ix (v4 + (nI 1)) ns (fun jx => pm_go call ns d 146 n 570 [some (pm_r 99 0), some (pm_r 0 0), some (pm_r 20 0), some (pm_r 60 0), some (pm_i v4), u5, u6] [pm_i (Z 99 0 jx), pm_r 0 0] (mm x R Z Y o A c G g)))) rfl ?_
    refine (g_ok (f := 99) (by decide) rfl).trans ?_
    refine (ix_ok (j := j1) e1 l1 hns).trans ?_
    rfl
  refine pW_eq 5 (pc' := 576) (L' := [some (pm_r 99 0), some (pm_r 0 0), some (pm_r 20 0), some (pm_r 60 0), some (pm_i v4), u5, u6]) (S' := [pm_i (Z 99 0 j2), pm_i (Z 99 0 j1), pm_r 0 0]) (M' := (mm x R Z Y o A c G g)) (fun call n => ?_) ?_
  · refine Eq.trans (b := pm_g (mm x R Z Y o A c G g) 99 0 (pm_ix (v4 + (nI 2)) ns (fun jx => pm_go call ns d 146 n 576 [some (pm_r 99 0), some (pm_r 0 0), some (pm_r 20 0), some (pm_r 60 0), some (pm_i v4), u5, u6] [pm_i (Z 99 0 jx), pm_i (Z 99 0 j1), pm_r 0 0] (mm x R Z Y o A c G g)))) rfl ?_
    refine (g_ok (f := 99) (by decide) rfl).trans ?_
    refine (ix_ok (j := j2) e2 l2 hns).trans ?_
    rfl
  refine pW_eq 5 (pc' := 582) (L' := [some (pm_r 99 0), some (pm_r 0 0), some (pm_r 20 0), some (pm_r 60 0), some (pm_i v4), u5, u6]) (S' := [pm_i (Z 99 0 j3), pm_i (Z 99 0 j2), pm_i (Z 99 0 j1), pm_r 0 0]) (M' := (mm x R Z Y o A c G g)) (fun call n => ?_) ?_
  · refine Eq.trans (b := pm_g (mm x R Z Y o A c G g) 99 0 (pm_ix (v4 + (nI 3)) ns (fun jx => pm_go call ns d 146 n 582 [some (pm_r 99 0), some (pm_r 0 0), some (pm_r 20 0), some (pm_r 60 0), some (pm_i v4), u5, u6] [pm_i (Z 99 0 jx), pm_i (Z 99 0 j2), pm_i (Z 99 0 j1), pm_r 0 0] (mm x R Z Y o A c G g)))) rfl ?_
    refine (g_ok (f := 99) (by decide) rfl).trans ?_
    refine (ix_ok (j := j3) e3 l3 hns).trans ?_
    rfl
  refine pW_eq 8 (pc' := 592) (L' := [some (pm_r 99 0), some (pm_r 0 0), some (pm_r 20 0), some (pm_r 60 0), some (pm_i v4), u5, u6]) (S' := [pm_i (Z 99 0 j4), pm_l (((Z 99 0 j3).toInt64) <<< ((nI 32).toInt64 &&& 63)), pm_i (Z 99 0 j2), pm_i (Z 99 0 j1), pm_r 0 0]) (M' := (mm x R Z Y o A c G g)) (fun call n => ?_) ?_
  · refine Eq.trans (b := pm_g (mm x R Z Y o A c G g) 99 0 (pm_ix (v4 + (nI 4)) ns (fun jx => pm_go call ns d 146 n 592 [some (pm_r 99 0), some (pm_r 0 0), some (pm_r 20 0), some (pm_r 60 0), some (pm_i v4), u5, u6] [pm_i (Z 99 0 jx), pm_l (((Z 99 0 j3).toInt64) <<< ((nI 32).toInt64 &&& 63)), pm_i (Z 99 0 j2), pm_i (Z 99 0 j1), pm_r 0 0] (mm x R Z Y o A c G g)))) rfl ?_
    refine (g_ok (f := 99) (by decide) rfl).trans ?_
    refine (ix_ok (j := j4) e4 l4 hns).trans ?_
    rfl
  refine pW_eq 9 (pc' := 604) (L' := [some (pm_r 99 0), some (pm_r 0 0), some (pm_r 20 0), some (pm_r 60 0), some (pm_i v4), u5, u6]) (S' := [pm_i (Z 99 0 j5), pm_l ((((Z 99 0 j3).toInt64) <<< ((nI 32).toInt64 &&& 63)) ||| (((Z 99 0 j4).toInt64) &&& 4294967295)), pm_i (Z 99 0 j2), pm_i (Z 99 0 j1), pm_r 0 0]) (M' := (mm x R Z Y o A c G g)) (fun call n => ?_) ?_
  · refine Eq.trans (b := pm_g (mm x R Z Y o A c G g) 99 0 (pm_ix (v4 + (nI 5)) ns (fun jx => pm_go call ns d 146 n 604 [some (pm_r 99 0), some (pm_r 0 0), some (pm_r 20 0), some (pm_r 60 0), some (pm_i v4), u5, u6] [pm_i (Z 99 0 jx), pm_l ((((Z 99 0 j3).toInt64) <<< ((nI 32).toInt64 &&& 63)) ||| (((Z 99 0 j4).toInt64) &&& 4294967295)), pm_i (Z 99 0 j2), pm_i (Z 99 0 j1), pm_r 0 0] (mm x R Z Y o A c G g)))) rfl ?_
    refine (g_ok (f := 99) (by decide) rfl).trans ?_
    refine (ix_ok (j := j5) e5 l5 hns).trans ?_
    rfl
  refine pW_call (pc' := 605) (r := []) (L' := [some (pm_r 99 0), some (pm_r 0 0), some (pm_r 20 0), some (pm_r 60 0), some (pm_i v4), u5, u6]) 2 (fun call n => ?_) hE k
  rfl
set_option maxRecDepth 20000 in
theorem b146_687 (hR : RS R) (hns : ns < 2 ^ 31) {v4 : Int32} {u5 : Option pm_V} {u6 : Option pm_V} {j1 : Nat} {j2 : Nat} (e1 : v4 + (nI 1) = nI j1) (l1 : j1 < ns) (e2 : v4 + (nI 2) = nI j2) (l2 : j2 < ns)  (k1 : Z 99 0 j2 = 0 → pW ns d 146 707 [some (pm_r 99 0), some (pm_r 0 0), some (pm_r 20 0), some (pm_r 60 0), some (pm_i v4), u5, u6] [pm_i (Z 99 0 j1), pm_r 0 0] (mm x R Z Y o A c G g) Q) (k2 : ¬ (Z 99 0 j2 = 0) → pW ns d 146 703 [some (pm_r 99 0), some (pm_r 0 0), some (pm_r 20 0), some (pm_r 60 0), some (pm_i v4), u5, u6] [pm_i (Z 99 0 j1), pm_r 0 0] (mm x R Z Y o A c G g) Q) : pW ns d 146 687 [some (pm_r 99 0), some (pm_r 0 0), some (pm_r 20 0), some (pm_r 60 0), some (pm_i v4), u5, u6] [] (mm x R Z Y o A c G g) Q := by
  refine pW_eq 6 (pc' := 694) (L' := [some (pm_r 99 0), some (pm_r 0 0), some (pm_r 20 0), some (pm_r 60 0), some (pm_i v4), u5, u6]) (S' := [pm_i (Z 99 0 j1), pm_r 0 0]) (M' := (mm x R Z Y o A c G g)) (fun call n => ?_) ?_
  · refine Eq.trans (b := pm_g (mm x R Z Y o A c G g) 99 0 (pm_ix (v4 + (nI 1)) ns (fun jx => pm_go call ns d 146 n 694 [some (pm_r 99 0), some (pm_r 0 0), some (pm_r 20 0), some (pm_r 60 0), some (pm_i v4), u5, u6] [pm_i (Z 99 0 jx), pm_r 0 0] (mm x R Z Y o A c G g)))) rfl ?_
    refine (g_ok (f := 99) (by decide) rfl).trans ?_
    refine (ix_ok (j := j1) e1 l1 hns).trans ?_
    rfl
  refine pW_eq 5 (pc' := 700) (L' := [some (pm_r 99 0), some (pm_r 0 0), some (pm_r 20 0), some (pm_r 60 0), some (pm_i v4), u5, u6]) (S' := [pm_i (Z 99 0 j2), pm_i (Z 99 0 j1), pm_r 0 0]) (M' := (mm x R Z Y o A c G g)) (fun call n => ?_) ?_
  · refine Eq.trans (b := pm_g (mm x R Z Y o A c G g) 99 0 (pm_ix (v4 + (nI 2)) ns (fun jx => pm_go call ns d 146 n 700 [some (pm_r 99 0), some (pm_r 0 0), some (pm_r 20 0), some (pm_r 60 0), some (pm_i v4), u5, u6] [pm_i (Z 99 0 jx), pm_i (Z 99 0 j1), pm_r 0 0] (mm x R Z Y o A c G g)))) rfl ?_
    refine (g_ok (f := 99) (by decide) rfl).trans ?_
    refine (ix_ok (j := j2) e2 l2 hns).trans ?_
    rfl
  exact pW_if 1 (c := Z 99 0 j2 = 0) (fun call n => rfl) k1 k2
set_option maxRecDepth 20000 in
theorem b146_771 (hR : RS R) (hns : ns < 2 ^ 31) {v4 : Int32} {u5 : Option pm_V} {u6 : Option pm_V} {j1 : Nat} (e1 : v4 + (nI 1) = nI j1) (l1 : j1 < ns) {x2 : Nat} {o2 : Int64} {A2 : Nat → Nat → Nat → Int32} {c2 : Nat → Int64} {G2 : Nat → Nat → Int32} {g2 : Nat → Int64} {y : Int32} (hE : pE ns d 140 [pm_r 0 0, pm_i (Z 99 0 j1), pm_r 60 0] (mm x R Z Y o A c G g) (.inl (some (pm_i y)), (mm x2 R Z Y o2 A2 c2 G2 g2))) (k : pW ns d 146 782 [some (pm_r 99 0), some (pm_r 0 0), some (pm_r 20 0), some (pm_r 60 0), some (pm_i v4), u5, u6] [pm_i y] (mm x2 R Z Y o2 A2 c2 G2 g2) Q) : pW ns d 146 771 [some (pm_r 99 0), some (pm_r 0 0), some (pm_r 20 0), some (pm_r 60 0), some (pm_i v4), u5, u6] [] (mm x R Z Y o A c G g) Q := by
  refine pW_eq 6 (pc' := 778) (L' := [some (pm_r 99 0), some (pm_r 0 0), some (pm_r 20 0), some (pm_r 60 0), some (pm_i v4), u5, u6]) (S' := [pm_i (Z 99 0 j1), pm_r 0 0]) (M' := (mm x R Z Y o A c G g)) (fun call n => ?_) ?_
  · refine Eq.trans (b := pm_g (mm x R Z Y o A c G g) 99 0 (pm_ix (v4 + (nI 1)) ns (fun jx => pm_go call ns d 146 n 778 [some (pm_r 99 0), some (pm_r 0 0), some (pm_r 20 0), some (pm_r 60 0), some (pm_i v4), u5, u6] [pm_i (Z 99 0 jx), pm_r 0 0] (mm x R Z Y o A c G g)))) rfl ?_
    refine (g_ok (f := 99) (by decide) rfl).trans ?_
    refine (ix_ok (j := j1) e1 l1 hns).trans ?_
    rfl
  refine pW_call (pc' := 779) (r := []) (L' := [some (pm_r 99 0), some (pm_r 0 0), some (pm_r 20 0), some (pm_r 60 0), some (pm_i v4), u5, u6]) 2 (fun call n => ?_) hE k
  rfl
set_option maxRecDepth 20000 in
theorem b146_827 (hR : RS R) (hns : ns < 2 ^ 31) {v4 : Int32} {u5 : Option pm_V} {u6 : Option pm_V} {j1 : Nat} {j2 : Nat} {j3 : Nat} (e1 : v4 + (nI 1) = nI j1) (l1 : j1 < ns) (e2 : v4 + (nI 2) = nI j2) (l2 : j2 < ns) (e3 : v4 + (nI 3) = nI j3) (l3 : j3 < ns) {x2 : Nat} {o2 : Int64} {A2 : Nat → Nat → Nat → Int32} {c2 : Nat → Int64} {G2 : Nat → Nat → Int32} {g2 : Nat → Int64} {y : Int32} (hE : pE ns d 141 [pm_r 0 0, pm_i (Z 99 0 j1), pm_i (Z 99 0 j2), pm_i (Z 99 0 j3), pm_r 60 0] (mm x R Z Y o A c G g) (.inl (some (pm_i y)), (mm x2 R Z Y o2 A2 c2 G2 g2))) (k : pW ns d 146 850 [some (pm_r 99 0), some (pm_r 0 0), some (pm_r 20 0), some (pm_r 60 0), some (pm_i v4), u5, u6] [pm_i y] (mm x2 R Z Y o2 A2 c2 G2 g2) Q) : pW ns d 146 827 [some (pm_r 99 0), some (pm_r 0 0), some (pm_r 20 0), some (pm_r 60 0), some (pm_i v4), u5, u6] [] (mm x R Z Y o A c G g) Q := by
  refine pW_eq 6 (pc' := 834) (L' := [some (pm_r 99 0), some (pm_r 0 0), some (pm_r 20 0), some (pm_r 60 0), some (pm_i v4), u5, u6]) (S' := [pm_i (Z 99 0 j1), pm_r 0 0]) (M' := (mm x R Z Y o A c G g)) (fun call n => ?_) ?_
  · refine Eq.trans (b := pm_g (mm x R Z Y o A c G g) 99 0 (pm_ix (v4 + (nI 1)) ns (fun jx => pm_go call ns d 146 n 834 [some (pm_r 99 0), some (pm_r 0 0), some (pm_r 20 0), some (pm_r 60 0), some (pm_i v4), u5, u6] [pm_i (Z 99 0 jx), pm_r 0 0] (mm x R Z Y o A c G g)))) rfl ?_
    refine (g_ok (f := 99) (by decide) rfl).trans ?_
    refine (ix_ok (j := j1) e1 l1 hns).trans ?_
    rfl
  refine pW_eq 5 (pc' := 840) (L' := [some (pm_r 99 0), some (pm_r 0 0), some (pm_r 20 0), some (pm_r 60 0), some (pm_i v4), u5, u6]) (S' := [pm_i (Z 99 0 j2), pm_i (Z 99 0 j1), pm_r 0 0]) (M' := (mm x R Z Y o A c G g)) (fun call n => ?_) ?_
  · refine Eq.trans (b := pm_g (mm x R Z Y o A c G g) 99 0 (pm_ix (v4 + (nI 2)) ns (fun jx => pm_go call ns d 146 n 840 [some (pm_r 99 0), some (pm_r 0 0), some (pm_r 20 0), some (pm_r 60 0), some (pm_i v4), u5, u6] [pm_i (Z 99 0 jx), pm_i (Z 99 0 j1), pm_r 0 0] (mm x R Z Y o A c G g)))) rfl ?_
    refine (g_ok (f := 99) (by decide) rfl).trans ?_
    refine (ix_ok (j := j2) e2 l2 hns).trans ?_
    rfl
  refine pW_eq 5 (pc' := 846) (L' := [some (pm_r 99 0), some (pm_r 0 0), some (pm_r 20 0), some (pm_r 60 0), some (pm_i v4), u5, u6]) (S' := [pm_i (Z 99 0 j3), pm_i (Z 99 0 j2), pm_i (Z 99 0 j1), pm_r 0 0]) (M' := (mm x R Z Y o A c G g)) (fun call n => ?_) ?_
  · refine Eq.trans (b := pm_g (mm x R Z Y o A c G g) 99 0 (pm_ix (v4 + (nI 3)) ns (fun jx => pm_go call ns d 146 n 846 [some (pm_r 99 0), some (pm_r 0 0), some (pm_r 20 0), some (pm_r 60 0), some (pm_i v4), u5, u6] [pm_i (Z 99 0 jx), pm_i (Z 99 0 j2), pm_i (Z 99 0 j1), pm_r 0 0] (mm x R Z Y o A c G g)))) rfl ?_
    refine (g_ok (f := 99) (by decide) rfl).trans ?_
    refine (ix_ok (j := j3) e3 l3 hns).trans ?_
    rfl
  refine pW_call (pc' := 847) (r := []) (L' := [some (pm_r 99 0), some (pm_r 0 0), some (pm_r 20 0), some (pm_r 60 0), some (pm_i v4), u5, u6]) 2 (fun call n => ?_) hE k
  rfl
set_option maxRecDepth 20000 in
theorem b146_907 (hR : RS R) (hns : ns < 2 ^ 31) {v4 : Int32} {u5 : Option pm_V} {u6 : Option pm_V} {j1 : Nat} {j2 : Nat} {j3 : Nat} (e1 : v4 + (nI 1) = nI j1) (l1 : j1 < ns) (e2 : v4 + (nI 2) = nI j2) (l2 : j2 < ns) (e3 : v4 + (nI 3) = nI j3) (l3 : j3 < ns) {x2 : Nat} {o2 : Int64} {A2 : Nat → Nat → Nat → Int32} {c2 : Nat → Int64} {G2 : Nat → Nat → Int32} {g2 : Nat → Int64} {y : Int32} (hE : pE ns d 142 [pm_r 0 0, pm_i (Z 99 0 j1), pm_i (Z 99 0 j2), pm_i (Z 99 0 j3), pm_r 60 0] (mm x R Z Y o A c G g) (.inl (some (pm_i y)), (mm x2 R Z Y o2 A2 c2 G2 g2))) (k : pW ns d 146 930 [some (pm_r 99 0), some (pm_r 0 0), some (pm_r 20 0), some (pm_r 60 0), some (pm_i v4), u5, u6] [pm_i y] (mm x2 R Z Y o2 A2 c2 G2 g2) Q) : pW ns d 146 907 [some (pm_r 99 0), some (pm_r 0 0), some (pm_r 20 0), some (pm_r 60 0), some (pm_i v4), u5, u6] [] (mm x R Z Y o A c G g) Q := by
  refine pW_eq 6 (pc' := 914) (L' := [some (pm_r 99 0), some (pm_r 0 0), some (pm_r 20 0), some (pm_r 60 0), some (pm_i v4), u5, u6]) (S' := [pm_i (Z 99 0 j1), pm_r 0 0]) (M' := (mm x R Z Y o A c G g)) (fun call n => ?_) ?_
  · refine Eq.trans (b := pm_g (mm x R Z Y o A c G g) 99 0 (pm_ix (v4 + (nI 1)) ns (fun jx => pm_go call ns d 146 n 914 [some (pm_r 99 0), some (pm_r 0 0), some (pm_r 20 0), some (pm_r 60 0), some (pm_i v4), u5, u6] [pm_i (Z 99 0 jx), pm_r 0 0] (mm x R Z Y o A c G g)))) rfl ?_
    refine (g_ok (f := 99) (by decide) rfl).trans ?_
    refine (ix_ok (j := j1) e1 l1 hns).trans ?_
    rfl
  refine pW_eq 5 (pc' := 920) (L' := [some (pm_r 99 0), some (pm_r 0 0), some (pm_r 20 0), some (pm_r 60 0), some (pm_i v4), u5, u6]) (S' := [pm_i (Z 99 0 j2), pm_i (Z 99 0 j1), pm_r 0 0]) (M' := (mm x R Z Y o A c G g)) (fun call n => ?_) ?_
  · refine Eq.trans (b := pm_g (mm x R Z Y o A c G g) 99 0 (pm_ix (v4 + (nI 2)) ns (fun jx => pm_go call ns d 146 n 920 [some (pm_r 99 0), some (pm_r 0 0), some (pm_r 20 0), some (pm_r 60 0), some (pm_i v4), u5, u6] [pm_i (Z 99 0 jx), pm_i (Z 99 0 j1), pm_r 0 0] (mm x R Z Y o A c G g)))) rfl ?_
    refine (g_ok (f := 99) (by decide) rfl).trans ?_
    refine (ix_ok (j := j2) e2 l2 hns).trans ?_
    rfl
  refine pW_eq 5 (pc' := 926) (L' := [some (pm_r 99 0), some (pm_r 0 0), some (pm_r 20 0), some (pm_r 60 0), some (pm_i v4), u5, u6]) (S' := [pm_i (Z 99 0 j3), pm_i (Z 99 0 j2), pm_i (Z 99 0 j1), pm_r 0 0]) (M' := (mm x R Z Y o A c G g)) (fun call n => ?_) ?_
  · refine Eq.trans (b := pm_g (mm x R Z Y o A c G g) 99 0 (pm_ix (v4 + (nI 3)) ns (fun jx => pm_go call ns d 146 n 926 [some (pm_r 99 0), some (pm_r 0 0), some (pm_r 20 0), some (pm_r 60 0), some (pm_i v4), u5, u6] [pm_i (Z 99 0 jx), pm_i (Z 99 0 j2), pm_i (Z 99 0 j1), pm_r 0 0] (mm x R Z Y o A c G g)))) rfl ?_
    refine (g_ok (f := 99) (by decide) rfl).trans ?_
    refine (ix_ok (j := j3) e3 l3 hns).trans ?_
    rfl
  refine pW_call (pc' := 927) (r := []) (L' := [some (pm_r 99 0), some (pm_r 0 0), some (pm_r 20 0), some (pm_r 60 0), some (pm_i v4), u5, u6]) 2 (fun call n => ?_) hE k
  rfl
set_option maxRecDepth 20000 in
theorem b146_987 (hR : RS R) (hns : ns < 2 ^ 31) {v4 : Int32} {u5 : Option pm_V} {u6 : Option pm_V} {j1 : Nat} {j2 : Nat} (e1 : v4 + (nI 1) = nI j1) (l1 : j1 < ns) (e2 : v4 + (nI 2) = nI j2) (l2 : j2 < ns) {x2 : Nat} {o2 : Int64} {A2 : Nat → Nat → Nat → Int32} {c2 : Nat → Int64} {G2 : Nat → Nat → Int32} {g2 : Nat → Int64} {y : Int32} (hE : pE ns d 143 [pm_r 0 0, pm_i (Z 99 0 j1), pm_i (Z 99 0 j2), pm_r 60 0] (mm x R Z Y o A c G g) (.inl (some (pm_i y)), (mm x2 R Z Y o2 A2 c2 G2 g2))) (k : pW ns d 146 1004 [some (pm_r 99 0), some (pm_r 0 0), some (pm_r 20 0), some (pm_r 60 0), some (pm_i v4), u5, u6] [pm_i y] (mm x2 R Z Y o2 A2 c2 G2 g2) Q) : pW ns d 146 987 [some (pm_r 99 0), some (pm_r 0 0), some (pm_r 20 0), some (pm_r 60 0), some (pm_i v4), u5, u6] [] (mm x R Z Y o A c G g) Q := by
  refine pW_eq 6 (pc' := 994) (L' := [some (pm_r 99 0), some (pm_r 0 0), some (pm_r 20 0), some (pm_r 60 0), some (pm_i v4), u5, u6]) (S' := [pm_i (Z 99 0 j1), pm_r 0 0]) (M' := (mm x R Z Y o A c G g)) (fun call n => ?_) ?_
  · refine Eq.trans (b := pm_g (mm x R Z Y o A c G g) 99 0 (pm_ix (v4 + (nI 1)) ns (fun jx => pm_go call ns d 146 n 994 [some (pm_r 99 0), some (pm_r 0 0), some (pm_r 20 0), some (pm_r 60 0), some (pm_i v4), u5, u6] [pm_i (Z 99 0 jx), pm_r 0 0] (mm x R Z Y o A c G g)))) rfl ?_
    refine (g_ok (f := 99) (by decide) rfl).trans ?_
    refine (ix_ok (j := j1) e1 l1 hns).trans ?_
    rfl
  refine pW_eq 5 (pc' := 1000) (L' := [some (pm_r 99 0), some (pm_r 0 0), some (pm_r 20 0), some (pm_r 60 0), some (pm_i v4), u5, u6]) (S' := [pm_i (Z 99 0 j2), pm_i (Z 99 0 j1), pm_r 0 0]) (M' := (mm x R Z Y o A c G g)) (fun call n => ?_) ?_
  · refine Eq.trans (b := pm_g (mm x R Z Y o A c G g) 99 0 (pm_ix (v4 + (nI 2)) ns (fun jx => pm_go call ns d 146 n 1000 [some (pm_r 99 0), some (pm_r 0 0), some (pm_r 20 0), some (pm_r 60 0), some (pm_i v4), u5, u6] [pm_i (Z 99 0 jx), pm_i (Z 99 0 j1), pm_r 0 0] (mm x R Z Y o A c G g)))) rfl ?_
    refine (g_ok (f := 99) (by decide) rfl).trans ?_
    refine (ix_ok (j := j2) e2 l2 hns).trans ?_
    rfl
  refine pW_call (pc' := 1001) (r := []) (L' := [some (pm_r 99 0), some (pm_r 0 0), some (pm_r 20 0), some (pm_r 60 0), some (pm_i v4), u5, u6]) 2 (fun call n => ?_) hE k
  rfl
set_option maxRecDepth 20000 in
theorem b146_1055 (hR : RS R) (hns : ns < 2 ^ 31) {v4 : Int32} {u5 : Option pm_V} {u6 : Option pm_V} {j1 : Nat} {j2 : Nat} {j3 : Nat} (e1 : v4 + (nI 1) = nI j1) (l1 : j1 < ns) (e2 : v4 + (nI 2) = nI j2) (l2 : j2 < ns) (e3 : v4 + (nI 3) = nI j3) (l3 : j3 < ns) {x2 : Nat} {o2 : Int64} {A2 : Nat → Nat → Nat → Int32} {c2 : Nat → Int64} {G2 : Nat → Nat → Int32} {g2 : Nat → Int64} {y : Int32} (hE : pE ns d 144 [pm_r 0 0, pm_i (Z 99 0 j1), pm_i (Z 99 0 j2), pm_i (Z 99 0 j3), pm_r 60 0] (mm x R Z Y o A c G g) (.inl (some (pm_i y)), (mm x2 R Z Y o2 A2 c2 G2 g2))) (k : pW ns d 146 1078 [some (pm_r 99 0), some (pm_r 0 0), some (pm_r 20 0), some (pm_r 60 0), some (pm_i v4), u5, u6] [pm_i y] (mm x2 R Z Y o2 A2 c2 G2 g2) Q) : pW ns d 146 1055 [some (pm_r 99 0), some (pm_r 0 0), some (pm_r 20 0), some (pm_r 60 0), some (pm_i v4), u5, u6] [] (mm x R Z Y o A c G g) Q := by
  refine pW_eq 6 (pc' := 1062) (L' := [some (pm_r 99 0), some (pm_r 0 0), some (pm_r 20 0), some (pm_r 60 0), some (pm_i v4), u5, u6]) (S' := [pm_i (Z 99 0 j1), pm_r 0 0]) (M' := (mm x R Z Y o A c G g)) (fun call n => ?_) ?_
  · refine Eq.trans (b := pm_g (mm x R Z Y o A c G g) 99 0 (pm_ix (v4 + (nI 1)) ns (fun jx => pm_go call ns d 146 n 1062 [some (pm_r 99 0), some (pm_r 0 0), some (pm_r 20 0), some (pm_r 60 0), some (pm_i v4), u5, u6] [pm_i (Z 99 0 jx), pm_r 0 0] (mm x R Z Y o A c G g)))) rfl ?_
    refine (g_ok (f := 99) (by decide) rfl).trans ?_
    refine (ix_ok (j := j1) e1 l1 hns).trans ?_
    rfl
  refine pW_eq 5 (pc' := 1068) (L' := [some (pm_r 99 0), some (pm_r 0 0), some (pm_r 20 0), some (pm_r 60 0), some (pm_i v4), u5, u6]) (S' := [pm_i (Z 99 0 j2), pm_i (Z 99 0 j1), pm_r 0 0]) (M' := (mm x R Z Y o A c G g)) (fun call n => ?_) ?_
  · refine Eq.trans (b := pm_g (mm x R Z Y o A c G g) 99 0 (pm_ix (v4 + (nI 2)) ns (fun jx => pm_go call ns d 146 n 1068 [some (pm_r 99 0), some (pm_r 0 0), some (pm_r 20 0), some (pm_r 60 0), some (pm_i v4), u5, u6] [pm_i (Z 99 0 jx), pm_i (Z 99 0 j1), pm_r 0 0] (mm x R Z Y o A c G g)))) rfl ?_
    refine (g_ok (f := 99) (by decide) rfl).trans ?_
    refine (ix_ok (j := j2) e2 l2 hns).trans ?_
    rfl
  refine pW_eq 5 (pc' := 1074) (L' := [some (pm_r 99 0), some (pm_r 0 0), some (pm_r 20 0), some (pm_r 60 0), some (pm_i v4), u5, u6]) (S' := [pm_i (Z 99 0 j3), pm_i (Z 99 0 j2), pm_i (Z 99 0 j1), pm_r 0 0]) (M' := (mm x R Z Y o A c G g)) (fun call n => ?_) ?_
  · refine Eq.trans (b := pm_g (mm x R Z Y o A c G g) 99 0 (pm_ix (v4 + (nI 3)) ns (fun jx => pm_go call ns d 146 n 1074 [some (pm_r 99 0), some (pm_r 0 0), some (pm_r 20 0), some (pm_r 60 0), some (pm_i v4), u5, u6] [pm_i (Z 99 0 jx), pm_i (Z 99 0 j2), pm_i (Z 99 0 j1), pm_r 0 0] (mm x R Z Y o A c G g)))) rfl ?_
    refine (g_ok (f := 99) (by decide) rfl).trans ?_
    refine (ix_ok (j := j3) e3 l3 hns).trans ?_
    rfl
  refine pW_call (pc' := 1075) (r := []) (L' := [some (pm_r 99 0), some (pm_r 0 0), some (pm_r 20 0), some (pm_r 60 0), some (pm_i v4), u5, u6]) 2 (fun call n => ?_) hE k
  rfl
set_option maxRecDepth 20000 in
theorem b146_1135 (hR : RS R) (hns : ns < 2 ^ 31) {v4 : Int32} {u5 : Option pm_V} {u6 : Option pm_V} {j1 : Nat} {j2 : Nat} (e1 : v4 + (nI 1) = nI j1) (l1 : j1 < ns) (e2 : v4 + (nI 2) = nI j2) (l2 : j2 < ns) {x2 : Nat} {o2 : Int64} {A2 : Nat → Nat → Nat → Int32} {c2 : Nat → Int64} {G2 : Nat → Nat → Int32} {g2 : Nat → Int64} {y : Int32} (hE : pE ns d 145 [pm_r 0 0, pm_i (Z 99 0 j1), pm_i (Z 99 0 j2), pm_r 60 0] (mm x R Z Y o A c G g) (.inl (some (pm_i y)), (mm x2 R Z Y o2 A2 c2 G2 g2))) (k : pW ns d 146 1152 [some (pm_r 99 0), some (pm_r 0 0), some (pm_r 20 0), some (pm_r 60 0), some (pm_i v4), u5, u6] [pm_i y] (mm x2 R Z Y o2 A2 c2 G2 g2) Q) : pW ns d 146 1135 [some (pm_r 99 0), some (pm_r 0 0), some (pm_r 20 0), some (pm_r 60 0), some (pm_i v4), u5, u6] [] (mm x R Z Y o A c G g) Q := by
  refine pW_eq 6 (pc' := 1142) (L' := [some (pm_r 99 0), some (pm_r 0 0), some (pm_r 20 0), some (pm_r 60 0), some (pm_i v4), u5, u6]) (S' := [pm_i (Z 99 0 j1), pm_r 0 0]) (M' := (mm x R Z Y o A c G g)) (fun call n => ?_) ?_
  · refine Eq.trans (b := pm_g (mm x R Z Y o A c G g) 99 0 (pm_ix (v4 + (nI 1)) ns (fun jx => pm_go call ns d 146 n 1142 [some (pm_r 99 0), some (pm_r 0 0), some (pm_r 20 0), some (pm_r 60 0), some (pm_i v4), u5, u6] [pm_i (Z 99 0 jx), pm_r 0 0] (mm x R Z Y o A c G g)))) rfl ?_
    refine (g_ok (f := 99) (by decide) rfl).trans ?_
    refine (ix_ok (j := j1) e1 l1 hns).trans ?_
    rfl
  refine pW_eq 5 (pc' := 1148) (L' := [some (pm_r 99 0), some (pm_r 0 0), some (pm_r 20 0), some (pm_r 60 0), some (pm_i v4), u5, u6]) (S' := [pm_i (Z 99 0 j2), pm_i (Z 99 0 j1), pm_r 0 0]) (M' := (mm x R Z Y o A c G g)) (fun call n => ?_) ?_
  · refine Eq.trans (b := pm_g (mm x R Z Y o A c G g) 99 0 (pm_ix (v4 + (nI 2)) ns (fun jx => pm_go call ns d 146 n 1148 [some (pm_r 99 0), some (pm_r 0 0), some (pm_r 20 0), some (pm_r 60 0), some (pm_i v4), u5, u6] [pm_i (Z 99 0 jx), pm_i (Z 99 0 j1), pm_r 0 0] (mm x R Z Y o A c G g)))) rfl ?_
    refine (g_ok (f := 99) (by decide) rfl).trans ?_
    refine (ix_ok (j := j2) e2 l2 hns).trans ?_
    rfl
  refine pW_call (pc' := 1149) (r := []) (L' := [some (pm_r 99 0), some (pm_r 0 0), some (pm_r 20 0), some (pm_r 60 0), some (pm_i v4), u5, u6]) 2 (fun call n => ?_) hE k
  rfl
set_option maxRecDepth 20000 in
theorem b146_1203 (hR : RS R) (hns : ns < 2 ^ 31) {v4 : Int32} {u5 : Option pm_V} {u6 : Option pm_V} {j1 : Nat} {j2 : Nat} (e1 : v4 + (nI 1) = nI j1) (l1 : j1 < ns) (e2 : v4 + (nI 2) = nI j2) (l2 : j2 < ns) {x2 : Nat} {o2 : Int64} {A2 : Nat → Nat → Nat → Int32} {c2 : Nat → Int64} {G2 : Nat → Nat → Int32} {g2 : Nat → Int64} {y : Int32} (hE : pE ns d 16 [pm_r 0 0, pm_i (Z 99 0 j1), pm_i (Z 99 0 j2)] (mm x R Z Y o A c G g) (.inl (some (pm_i y)), (mm x2 R Z Y o2 A2 c2 G2 g2))) (k : pW ns d 146 1219 [some (pm_r 99 0), some (pm_r 0 0), some (pm_r 20 0), some (pm_r 60 0), some (pm_i v4), u5, u6] [pm_i y] (mm x2 R Z Y o2 A2 c2 G2 g2) Q) : pW ns d 146 1203 [some (pm_r 99 0), some (pm_r 0 0), some (pm_r 20 0), some (pm_r 60 0), some (pm_i v4), u5, u6] [] (mm x R Z Y o A c G g) Q := by
  refine pW_eq 6 (pc' := 1210) (L' := [some (pm_r 99 0), some (pm_r 0 0), some (pm_r 20 0), some (pm_r 60 0), some (pm_i v4), u5, u6]) (S' := [pm_i (Z 99 0 j1), pm_r 0 0]) (M' := (mm x R Z Y o A c G g)) (fun call n => ?_) ?_
  · refine Eq.trans (b := pm_g (mm x R Z Y o A c G g) 99 0 (pm_ix (v4 + (nI 1)) ns (fun jx => pm_go call ns d 146 n 1210 [some (pm_r 99 0), some (pm_r 0 0), some (pm_r 20 0), some (pm_r 60 0), some (pm_i v4), u5, u6] [pm_i (Z 99 0 jx), pm_r 0 0] (mm x R Z Y o A c G g)))) rfl ?_
    refine (g_ok (f := 99) (by decide) rfl).trans ?_
    refine (ix_ok (j := j1) e1 l1 hns).trans ?_
    rfl
  refine pW_eq 5 (pc' := 1216) (L' := [some (pm_r 99 0), some (pm_r 0 0), some (pm_r 20 0), some (pm_r 60 0), some (pm_i v4), u5, u6]) (S' := [pm_i (Z 99 0 j2), pm_i (Z 99 0 j1), pm_r 0 0]) (M' := (mm x R Z Y o A c G g)) (fun call n => ?_) ?_
  · refine Eq.trans (b := pm_g (mm x R Z Y o A c G g) 99 0 (pm_ix (v4 + (nI 2)) ns (fun jx => pm_go call ns d 146 n 1216 [some (pm_r 99 0), some (pm_r 0 0), some (pm_r 20 0), some (pm_r 60 0), some (pm_i v4), u5, u6] [pm_i (Z 99 0 jx), pm_i (Z 99 0 j1), pm_r 0 0] (mm x R Z Y o A c G g)))) rfl ?_
    refine (g_ok (f := 99) (by decide) rfl).trans ?_
    refine (ix_ok (j := j2) e2 l2 hns).trans ?_
    rfl
  refine pW_call (pc' := 1216) (r := []) (L' := [some (pm_r 99 0), some (pm_r 0 0), some (pm_r 20 0), some (pm_r 60 0), some (pm_i v4), u5, u6]) 1 (fun call n => ?_) hE k
  exact Eq.trans (b := pm_g (mm x R Z Y o A c G g) 0 0 (pm_cl call 146 (pm_go call ns d 146 n) 1216 16 [pm_r 0 0, pm_i (Z 99 0 j1), pm_i (Z 99 0 j2)] [] [some (pm_r 99 0), some (pm_r 0 0), some (pm_r 20 0), some (pm_r 60 0), some (pm_i v4), u5, u6] (mm x R Z Y o A c G g))) rfl (g_ok (f := 0) (by decide) rfl)
set_option maxRecDepth 20000 in
theorem b146_1240 (hR : RS R) (hns : ns < 2 ^ 31) {v4 : Int32} {u5 : Option pm_V} {u6 : Option pm_V} {j1 : Nat} {j2 : Nat} (e1 : v4 + (nI 1) = nI j1) (l1 : j1 < ns) (e2 : v4 + (nI 2) = nI j2) (l2 : j2 < ns) {x2 : Nat} {o2 : Int64} {A2 : Nat → Nat → Nat → Int32} {c2 : Nat → Int64} {G2 : Nat → Nat → Int32} {g2 : Nat → Int64} {y : Int32} (hE : pE ns d 17 [pm_r 0 0, pm_i (Z 99 0 j1), pm_i (Z 99 0 j2)] (mm x R Z Y o A c G g) (.inl (some (pm_i y)), (mm x2 R Z Y o2 A2 c2 G2 g2))) (k : pW ns d 146 1256 [some (pm_r 99 0), some (pm_r 0 0), some (pm_r 20 0), some (pm_r 60 0), some (pm_i v4), u5, u6] [pm_i y] (mm x2 R Z Y o2 A2 c2 G2 g2) Q) : pW ns d 146 1240 [some (pm_r 99 0), some (pm_r 0 0), some (pm_r 20 0), some (pm_r 60 0), some (pm_i v4), u5, u6] [] (mm x R Z Y o A c G g) Q := by
  refine pW_eq 6 (pc' := 1247) (L' := [some (pm_r 99 0), some (pm_r 0 0), some (pm_r 20 0), some (pm_r 60 0), some (pm_i v4), u5, u6]) (S' := [pm_i (Z 99 0 j1), pm_r 0 0]) (M' := (mm x R Z Y o A c G g)) (fun call n => ?_) ?_
  · refine Eq.trans (b := pm_g (mm x R Z Y o A c G g) 99 0 (pm_ix (v4 + (nI 1)) ns (fun jx => pm_go call ns d 146 n 1247 [some (pm_r 99 0), some (pm_r 0 0), some (pm_r 20 0), some (pm_r 60 0), some (pm_i v4), u5, u6] [pm_i (Z 99 0 jx), pm_r 0 0] (mm x R Z Y o A c G g)))) rfl ?_
    refine (g_ok (f := 99) (by decide) rfl).trans ?_
    refine (ix_ok (j := j1) e1 l1 hns).trans ?_
    rfl
  refine pW_eq 5 (pc' := 1253) (L' := [some (pm_r 99 0), some (pm_r 0 0), some (pm_r 20 0), some (pm_r 60 0), some (pm_i v4), u5, u6]) (S' := [pm_i (Z 99 0 j2), pm_i (Z 99 0 j1), pm_r 0 0]) (M' := (mm x R Z Y o A c G g)) (fun call n => ?_) ?_
  · refine Eq.trans (b := pm_g (mm x R Z Y o A c G g) 99 0 (pm_ix (v4 + (nI 2)) ns (fun jx => pm_go call ns d 146 n 1253 [some (pm_r 99 0), some (pm_r 0 0), some (pm_r 20 0), some (pm_r 60 0), some (pm_i v4), u5, u6] [pm_i (Z 99 0 jx), pm_i (Z 99 0 j1), pm_r 0 0] (mm x R Z Y o A c G g)))) rfl ?_
    refine (g_ok (f := 99) (by decide) rfl).trans ?_
    refine (ix_ok (j := j2) e2 l2 hns).trans ?_
    rfl
  refine pW_call (pc' := 1253) (r := []) (L' := [some (pm_r 99 0), some (pm_r 0 0), some (pm_r 20 0), some (pm_r 60 0), some (pm_i v4), u5, u6]) 1 (fun call n => ?_) hE k
  exact Eq.trans (b := pm_g (mm x R Z Y o A c G g) 0 0 (pm_cl call 146 (pm_go call ns d 146 n) 1253 17 [pm_r 0 0, pm_i (Z 99 0 j1), pm_i (Z 99 0 j2)] [] [some (pm_r 99 0), some (pm_r 0 0), some (pm_r 20 0), some (pm_r 60 0), some (pm_i v4), u5, u6] (mm x R Z Y o A c G g))) rfl (g_ok (f := 0) (by decide) rfl)
set_option maxRecDepth 20000 in
theorem b146_1277 (hR : RS R) (hns : ns < 2 ^ 31) {v4 : Int32} {u5 : Option pm_V} {u6 : Option pm_V} {j1 : Nat} {j2 : Nat} (e1 : v4 + (nI 1) = nI j1) (l1 : j1 < ns) (e2 : v4 + (nI 2) = nI j2) (l2 : j2 < ns) {x2 : Nat} {o2 : Int64} {A2 : Nat → Nat → Nat → Int32} {c2 : Nat → Int64} {G2 : Nat → Nat → Int32} {g2 : Nat → Int64} {y : Int32} (hE : pE ns d 18 [pm_r 0 0, pm_i (Z 99 0 j1), pm_i (Z 99 0 j2)] (mm x R Z Y o A c G g) (.inl (some (pm_i y)), (mm x2 R Z Y o2 A2 c2 G2 g2))) (k : pW ns d 146 1293 [some (pm_r 99 0), some (pm_r 0 0), some (pm_r 20 0), some (pm_r 60 0), some (pm_i v4), u5, u6] [pm_i y] (mm x2 R Z Y o2 A2 c2 G2 g2) Q) : pW ns d 146 1277 [some (pm_r 99 0), some (pm_r 0 0), some (pm_r 20 0), some (pm_r 60 0), some (pm_i v4), u5, u6] [] (mm x R Z Y o A c G g) Q := by
  refine pW_eq 6 (pc' := 1284) (L' := [some (pm_r 99 0), some (pm_r 0 0), some (pm_r 20 0), some (pm_r 60 0), some (pm_i v4), u5, u6]) (S' := [pm_i (Z 99 0 j1), pm_r 0 0]) (M' := (mm x R Z Y o A c G g)) (fun call n => ?_) ?_
  · refine Eq.trans (b := pm_g (mm x R Z Y o A c G g) 99 0 (pm_ix (v4 + (nI 1)) ns (fun jx => pm_go call ns d 146 n 1284 [some (pm_r 99 0), some (pm_r 0 0), some (pm_r 20 0), some (pm_r 60 0), some (pm_i v4), u5, u6] [pm_i (Z 99 0 jx), pm_r 0 0] (mm x R Z Y o A c G g)))) rfl ?_
    refine (g_ok (f := 99) (by decide) rfl).trans ?_
    refine (ix_ok (j := j1) e1 l1 hns).trans ?_
    rfl
  refine pW_eq 5 (pc' := 1290) (L' := [some (pm_r 99 0), some (pm_r 0 0), some (pm_r 20 0), some (pm_r 60 0), some (pm_i v4), u5, u6]) (S' := [pm_i (Z 99 0 j2), pm_i (Z 99 0 j1), pm_r 0 0]) (M' := (mm x R Z Y o A c G g)) (fun call n => ?_) ?_
  · refine Eq.trans (b := pm_g (mm x R Z Y o A c G g) 99 0 (pm_ix (v4 + (nI 2)) ns (fun jx => pm_go call ns d 146 n 1290 [some (pm_r 99 0), some (pm_r 0 0), some (pm_r 20 0), some (pm_r 60 0), some (pm_i v4), u5, u6] [pm_i (Z 99 0 jx), pm_i (Z 99 0 j1), pm_r 0 0] (mm x R Z Y o A c G g)))) rfl ?_
    refine (g_ok (f := 99) (by decide) rfl).trans ?_
    refine (ix_ok (j := j2) e2 l2 hns).trans ?_
    rfl
  refine pW_call (pc' := 1290) (r := []) (L' := [some (pm_r 99 0), some (pm_r 0 0), some (pm_r 20 0), some (pm_r 60 0), some (pm_i v4), u5, u6]) 1 (fun call n => ?_) hE k
  exact Eq.trans (b := pm_g (mm x R Z Y o A c G g) 0 0 (pm_cl call 146 (pm_go call ns d 146 n) 1290 18 [pm_r 0 0, pm_i (Z 99 0 j1), pm_i (Z 99 0 j2)] [] [some (pm_r 99 0), some (pm_r 0 0), some (pm_r 20 0), some (pm_r 60 0), some (pm_i v4), u5, u6] (mm x R Z Y o A c G g))) rfl (g_ok (f := 0) (by decide) rfl)
set_option maxRecDepth 20000 in
theorem b146_1314 (hR : RS R) (hns : ns < 2 ^ 31) {v4 : Int32} {u5 : Option pm_V} {u6 : Option pm_V} {j1 : Nat} (e1 : v4 + (nI 1) = nI j1) (l1 : j1 < ns) {x2 : Nat} {o2 : Int64} {A2 : Nat → Nat → Nat → Int32} {c2 : Nat → Int64} {G2 : Nat → Nat → Int32} {g2 : Nat → Int64} {y : Int32} (hE : pE ns d 19 [pm_r 0 0, pm_i (Z 99 0 j1)] (mm x R Z Y o A c G g) (.inl (some (pm_i y)), (mm x2 R Z Y o2 A2 c2 G2 g2))) (k : pW ns d 146 1324 [some (pm_r 99 0), some (pm_r 0 0), some (pm_r 20 0), some (pm_r 60 0), some (pm_i v4), u5, u6] [pm_i y] (mm x2 R Z Y o2 A2 c2 G2 g2) Q) : pW ns d 146 1314 [some (pm_r 99 0), some (pm_r 0 0), some (pm_r 20 0), some (pm_r 60 0), some (pm_i v4), u5, u6] [] (mm x R Z Y o A c G g) Q := by
  refine pW_eq 6 (pc' := 1321) (L' := [some (pm_r 99 0), some (pm_r 0 0), some (pm_r 20 0), some (pm_r 60 0), some (pm_i v4), u5, u6]) (S' := [pm_i (Z 99 0 j1), pm_r 0 0]) (M' := (mm x R Z Y o A c G g)) (fun call n => ?_) ?_
  · refine Eq.trans (b := pm_g (mm x R Z Y o A c G g) 99 0 (pm_ix (v4 + (nI 1)) ns (fun jx => pm_go call ns d 146 n 1321 [some (pm_r 99 0), some (pm_r 0 0), some (pm_r 20 0), some (pm_r 60 0), some (pm_i v4), u5, u6] [pm_i (Z 99 0 jx), pm_r 0 0] (mm x R Z Y o A c G g)))) rfl ?_
    refine (g_ok (f := 99) (by decide) rfl).trans ?_
    refine (ix_ok (j := j1) e1 l1 hns).trans ?_
    rfl
  refine pW_call (pc' := 1321) (r := []) (L' := [some (pm_r 99 0), some (pm_r 0 0), some (pm_r 20 0), some (pm_r 60 0), some (pm_i v4), u5, u6]) 1 (fun call n => ?_) hE k
  exact Eq.trans (b := pm_g (mm x R Z Y o A c G g) 0 0 (pm_cl call 146 (pm_go call ns d 146 n) 1321 19 [pm_r 0 0, pm_i (Z 99 0 j1)] [] [some (pm_r 99 0), some (pm_r 0 0), some (pm_r 20 0), some (pm_r 60 0), some (pm_i v4), u5, u6] (mm x R Z Y o A c G g))) rfl (g_ok (f := 0) (by decide) rfl)
set_option maxRecDepth 20000 in
theorem b146_1339 (hR : RS R) (hns : ns < 2 ^ 31) {v4 : Int32} {u5 : Option pm_V} {u6 : Option pm_V}   (k : pW ns d 146 23 [some (pm_r 99 0), some (pm_r 0 0), some (pm_r 20 0), some (pm_r 60 0), some (pm_i (v4 + (nI 6))), u5, u6] [] (mm x R Z Y o A c G g) Q) : pW ns d 146 1339 [some (pm_r 99 0), some (pm_r 0 0), some (pm_r 20 0), some (pm_r 60 0), some (pm_i v4), u5, u6] [] (mm x R Z Y o A c G g) Q := by
  exact pW_eq 2 (fun call n => rfl) k
set_option maxRecDepth 20000 in
theorem b146_142 (hR : RS R) (hns : ns < 2 ^ 31) {v4 : Int32} {u5 : Option pm_V} {u6 : Option pm_V} {j1 : Nat} (e1 : v4 + (nI 1) = nI j1) (l1 : j1 < ns) {x2 : Nat} {o2 : Int64} {A2 : Nat → Nat → Nat → Int32} {c2 : Nat → Int64} {G2 : Nat → Nat → Int32} {g2 : Nat → Int64}  (hE : pE ns d 79 [pm_r 20 0, pm_i (Z 99 0 j1)] (mm x R Z Y o A c G g) (.inl (none), (mm x2 R Z Y o2 A2 c2 G2 g2))) (k : pW ns d 146 152 [some (pm_r 99 0), some (pm_r 0 0), some (pm_r 20 0), some (pm_r 60 0), some (pm_i v4), u5, u6] [] (mm x2 R Z Y o2 A2 c2 G2 g2) Q) : pW ns d 146 142 [some (pm_r 99 0), some (pm_r 0 0), some (pm_r 20 0), some (pm_r 60 0), some (pm_i v4), u5, u6] [] (mm x R Z Y o A c G g) Q := by
  refine pW_eq 6 (pc' := 149) (L' := [some (pm_r 99 0), some (pm_r 0 0), some (pm_r 20 0), some (pm_r 60 0), some (pm_i v4), u5, u6]) (S' := [pm_i (Z 99 0 j1), pm_r 20 0]) (M' := (mm x R Z Y o A c G g)) (fun call n => ?_) ?_
  · refine Eq.trans (b := pm_g (mm x R Z Y o A c G g) 99 0 (pm_ix (v4 + (nI 1)) ns (fun jx => pm_go call ns d 146 n 149 [some (pm_r 99 0), some (pm_r 0 0), some (pm_r 20 0), some (pm_r 60 0), some (pm_i v4), u5, u6] [pm_i (Z 99 0 jx), pm_r 20 0] (mm x R Z Y o A c G g)))) rfl ?_
    refine (g_ok (f := 99) (by decide) rfl).trans ?_
    refine (ix_ok (j := j1) e1 l1 hns).trans ?_
    rfl
  refine pW_call (pc' := 149) (r := []) (L' := [some (pm_r 99 0), some (pm_r 0 0), some (pm_r 20 0), some (pm_r 60 0), some (pm_i v4), u5, u6]) 1 (fun call n => ?_) hE k
  exact Eq.trans (b := pm_g (mm x R Z Y o A c G g) 20 0 (pm_cl call 146 (pm_go call ns d 146 n) 149 79 [pm_r 20 0, pm_i (Z 99 0 j1)] [] [some (pm_r 99 0), some (pm_r 0 0), some (pm_r 20 0), some (pm_r 60 0), some (pm_i v4), u5, u6] (mm x R Z Y o A c G g))) rfl (g_ok (f := 20) (by decide) rfl)
set_option maxRecDepth 20000 in
theorem b146_166 (hR : RS R) (hns : ns < 2 ^ 31) {v4 : Int32} {u5 : Option pm_V} {u6 : Option pm_V} {vs0 : Int32} {j1 : Nat} (e1 : v4 + (nI 1) = nI j1) (l1 : j1 < ns) {x2 : Nat} {o2 : Int64} {A2 : Nat → Nat → Nat → Int32} {c2 : Nat → Int64} {G2 : Nat → Nat → Int32} {g2 : Nat → Int64} {y : Int32} (hE : pE ns d 82 [pm_r 20 0, pm_i (Z 99 0 j1)] (mm x R Z Y o A c G g) (.inl (some (pm_i y)), (mm x2 R Z Y o2 A2 c2 G2 g2))) (k : pW ns d 146 178 [some (pm_r 99 0), some (pm_r 0 0), some (pm_r 20 0), some (pm_r 60 0), some (pm_i v4), some (pm_i vs0), u6] [pm_i y] (mm x2 R Z Y o2 A2 c2 G2 g2) Q) : pW ns d 146 166 [some (pm_r 99 0), some (pm_r 0 0), some (pm_r 20 0), some (pm_r 60 0), some (pm_i v4), u5, u6] [pm_i vs0] (mm x R Z Y o A c G g) Q := by
  refine pW_eq 7 (pc' := 175) (L' := [some (pm_r 99 0), some (pm_r 0 0), some (pm_r 20 0), some (pm_r 60 0), some (pm_i v4), some (pm_i vs0), u6]) (S' := [pm_i (Z 99 0 j1), pm_r 20 0]) (M' := (mm x R Z Y o A c G g)) (fun call n => ?_) ?_
  · refine Eq.trans (b := pm_g (mm x R Z Y o A c G g) 99 0 (pm_ix (v4 + (nI 1)) ns (fun jx => pm_go call ns d 146 n 175 [some (pm_r 99 0), some (pm_r 0 0), some (pm_r 20 0), some (pm_r 60 0), some (pm_i v4), some (pm_i vs0), u6] [pm_i (Z 99 0 jx), pm_r 20 0] (mm x R Z Y o A c G g)))) rfl ?_
    refine (g_ok (f := 99) (by decide) rfl).trans ?_
    refine (ix_ok (j := j1) e1 l1 hns).trans ?_
    rfl
  refine pW_call (pc' := 175) (r := []) (L' := [some (pm_r 99 0), some (pm_r 0 0), some (pm_r 20 0), some (pm_r 60 0), some (pm_i v4), some (pm_i vs0), u6]) 1 (fun call n => ?_) hE k
  exact Eq.trans (b := pm_g (mm x R Z Y o A c G g) 20 0 (pm_cl call 146 (pm_go call ns d 146 n) 175 82 [pm_r 20 0, pm_i (Z 99 0 j1)] [] [some (pm_r 99 0), some (pm_r 0 0), some (pm_r 20 0), some (pm_r 60 0), some (pm_i v4), some (pm_i vs0), u6] (mm x R Z Y o A c G g))) rfl (g_ok (f := 20) (by decide) rfl)
set_option maxRecDepth 20000 in
theorem b146_228 (hR : RS R) (hns : ns < 2 ^ 31) {v4 : Int32} {u5 : Option pm_V} {u6 : Option pm_V} {vs0 : Int32} {j1 : Nat} {j2 : Nat} (e1 : v4 + (nI 1) = nI j1) (l1 : j1 < ns) (e2 : v4 + (nI 2) = nI j2) (l2 : j2 < ns) {x2 : Nat} {o2 : Int64} {A2 : Nat → Nat → Nat → Int32} {c2 : Nat → Int64} {G2 : Nat → Nat → Int32} {g2 : Nat → Int64} {y : Int32} (hE : pE ns d 83 [pm_r 20 0, pm_i (Z 99 0 j1), pm_i (Z 99 0 j2)] (mm x R Z Y o A c G g) (.inl (some (pm_i y)), (mm x2 R Z Y o2 A2 c2 G2 g2))) (k : pW ns d 146 246 [some (pm_r 99 0), some (pm_r 0 0), some (pm_r 20 0), some (pm_r 60 0), some (pm_i v4), some (pm_i vs0), u6] [pm_i y] (mm x2 R Z Y o2 A2 c2 G2 g2) Q) : pW ns d 146 228 [some (pm_r 99 0), some (pm_r 0 0), some (pm_r 20 0), some (pm_r 60 0), some (pm_i v4), u5, u6] [pm_i vs0] (mm x R Z Y o A c G g) Q := by
  refine pW_eq 7 (pc' := 237) (L' := [some (pm_r 99 0), some (pm_r 0 0), some (pm_r 20 0), some (pm_r 60 0), some (pm_i v4), some (pm_i vs0), u6]) (S' := [pm_i (Z 99 0 j1), pm_r 20 0]) (M' := (mm x R Z Y o A c G g)) (fun call n => ?_) ?_
  · refine Eq.trans (b := pm_g (mm x R Z Y o A c G g) 99 0 (pm_ix (v4 + (nI 1)) ns (fun jx => pm_go call ns d 146 n 237 [some (pm_r 99 0), some (pm_r 0 0), some (pm_r 20 0), some (pm_r 60 0), some (pm_i v4), some (pm_i vs0), u6] [pm_i (Z 99 0 jx), pm_r 20 0] (mm x R Z Y o A c G g)))) rfl ?_
    refine (g_ok (f := 99) (by decide) rfl).trans ?_
    refine (ix_ok (j := j1) e1 l1 hns).trans ?_
    rfl
  refine pW_eq 5 (pc' := 243) (L' := [some (pm_r 99 0), some (pm_r 0 0), some (pm_r 20 0), some (pm_r 60 0), some (pm_i v4), some (pm_i vs0), u6]) (S' := [pm_i (Z 99 0 j2), pm_i (Z 99 0 j1), pm_r 20 0]) (M' := (mm x R Z Y o A c G g)) (fun call n => ?_) ?_
  · refine Eq.trans (b := pm_g (mm x R Z Y o A c G g) 99 0 (pm_ix (v4 + (nI 2)) ns (fun jx => pm_go call ns d 146 n 243 [some (pm_r 99 0), some (pm_r 0 0), some (pm_r 20 0), some (pm_r 60 0), some (pm_i v4), some (pm_i vs0), u6] [pm_i (Z 99 0 jx), pm_i (Z 99 0 j1), pm_r 20 0] (mm x R Z Y o A c G g)))) rfl ?_
    refine (g_ok (f := 99) (by decide) rfl).trans ?_
    refine (ix_ok (j := j2) e2 l2 hns).trans ?_
    rfl
  refine pW_call (pc' := 243) (r := []) (L' := [some (pm_r 99 0), some (pm_r 0 0), some (pm_r 20 0), some (pm_r 60 0), some (pm_i v4), some (pm_i vs0), u6]) 1 (fun call n => ?_) hE k
  exact Eq.trans (b := pm_g (mm x R Z Y o A c G g) 20 0 (pm_cl call 146 (pm_go call ns d 146 n) 243 83 [pm_r 20 0, pm_i (Z 99 0 j1), pm_i (Z 99 0 j2)] [] [some (pm_r 99 0), some (pm_r 0 0), some (pm_r 20 0), some (pm_r 60 0), some (pm_i v4), some (pm_i vs0), u6] (mm x R Z Y o A c G g))) rfl (g_ok (f := 20) (by decide) rfl)
set_option maxRecDepth 20000 in
theorem b146_290 (hR : RS R) (hns : ns < 2 ^ 31) {v4 : Int32} {u5 : Option pm_V} {u6 : Option pm_V} {vs0 : Int32} {j1 : Nat} (e1 : v4 + (nI 1) = nI j1) (l1 : j1 < ns) {x2 : Nat} {o2 : Int64} {A2 : Nat → Nat → Nat → Int32} {c2 : Nat → Int64} {G2 : Nat → Nat → Int32} {g2 : Nat → Int64} {y : Int32} (hE : pE ns d 84 [pm_r 20 0, pm_i (Z 99 0 j1)] (mm x R Z Y o A c G g) (.inl (some (pm_i y)), (mm x2 R Z Y o2 A2 c2 G2 g2))) (k : pW ns d 146 302 [some (pm_r 99 0), some (pm_r 0 0), some (pm_r 20 0), some (pm_r 60 0), some (pm_i v4), some (pm_i vs0), u6] [pm_i y] (mm x2 R Z Y o2 A2 c2 G2 g2) Q) : pW ns d 146 290 [some (pm_r 99 0), some (pm_r 0 0), some (pm_r 20 0), some (pm_r 60 0), some (pm_i v4), u5, u6] [pm_i vs0] (mm x R Z Y o A c G g) Q := by
  refine pW_eq 7 (pc' := 299) (L' := [some (pm_r 99 0), some (pm_r 0 0), some (pm_r 20 0), some (pm_r 60 0), some (pm_i v4), some (pm_i vs0), u6]) (S' := [pm_i (Z 99 0 j1), pm_r 20 0]) (M' := (mm x R Z Y o A c G g)) (fun call n => ?_) ?_
  · refine Eq.trans (b := pm_g (mm x R Z Y o A c G g) 99 0 (pm_ix (v4 + (nI 1)) ns (fun jx => pm_go call ns d 146 n 299 [some (pm_r 99 0), some (pm_r 0 0), some (pm_r 20 0), some (pm_r 60 0), some (pm_i v4), some (pm_i vs0), u6] [pm_i (Z 99 0 jx), pm_r 20 0] (mm x R Z Y o A c G g)))) rfl ?_
    refine (g_ok (f := 99) (by decide) rfl).trans ?_
    refine (ix_ok (j := j1) e1 l1 hns).trans ?_
    rfl
  refine pW_call (pc' := 299) (r := []) (L' := [some (pm_r 99 0), some (pm_r 0 0), some (pm_r 20 0), some (pm_r 60 0), some (pm_i v4), some (pm_i vs0), u6]) 1 (fun call n => ?_) hE k
  exact Eq.trans (b := pm_g (mm x R Z Y o A c G g) 20 0 (pm_cl call 146 (pm_go call ns d 146 n) 299 84 [pm_r 20 0, pm_i (Z 99 0 j1)] [] [some (pm_r 99 0), some (pm_r 0 0), some (pm_r 20 0), some (pm_r 60 0), some (pm_i v4), some (pm_i vs0), u6] (mm x R Z Y o A c G g))) rfl (g_ok (f := 20) (by decide) rfl)
set_option maxRecDepth 20000 in
theorem b146_358 (hR : RS R) (hns : ns < 2 ^ 31) {v4 : Int32} {u5 : Option pm_V} {u6 : Option pm_V} {vs0 : Int32} {j1 : Nat} {j2 : Nat} {j3 : Nat} (e1 : v4 + (nI 1) = nI j1) (l1 : j1 < ns) (e2 : v4 + (nI 2) = nI j2) (l2 : j2 < ns) (e3 : v4 + (nI 3) = nI j3) (l3 : j3 < ns) {x2 : Nat} {o2 : Int64} {A2 : Nat → Nat → Nat → Int32} {c2 : Nat → Int64} {G2 : Nat → Nat → Int32} {g2 : Nat → Int64} {y : Int32} (hE : pE ns d 85 [pm_r 20 0, pm_i (Z 99 0 j1), pm_i (Z 99 0 j2), pm_i (Z 99 0 j3)] (mm x R Z Y o A c G g) (.inl (some (pm_i y)), (mm x2 R Z Y o2 A2 c2 G2 g2))) (k : pW ns d 146 382 [some (pm_r 99 0), some (pm_r 0 0), some (pm_r 20 0), some (pm_r 60 0), some (pm_i v4), some (pm_i vs0), u6] [pm_i y] (mm x2 R Z Y o2 A2 c2 G2 g2) Q) : pW ns d 146 358 [some (pm_r 99 0), some (pm_r 0 0), some (pm_r 20 0), some (pm_r 60 0), some (pm_i v4), u5, u6] [pm_i vs0] (mm x R Z Y o A c G g) Q := by
  refine pW_eq 7 (pc' := 367) (L' := [some (pm_r 99 0), some (pm_r 0 0), some (pm_r 20 0), some (pm_r 60 0), some (pm_i v4), some (pm_i vs0), u6]) (S' := [pm_i (Z 99 0 j1), pm_r 20 0]) (M' := (mm x R Z Y o A c G g)) (fun call n => ?_) ?_
  · refine Eq.trans (b := pm_g (mm x R Z Y o A c G g) 99 0 (pm_ix (v4 + (nI 1)) ns (fun jx => pm_go call ns d 146 n 367 [some (pm_r 99 0), some (pm_r 0 0), some (pm_r 20 0), some (pm_r 60 0), some (pm_i v4), some (pm_i vs0), u6] [pm_i (Z 99 0 jx), pm_r 20 0] (mm x R Z Y o A c G g)))) rfl ?_
    refine (g_ok (f := 99) (by decide) rfl).trans ?_
    refine (ix_ok (j := j1) e1 l1 hns).trans ?_
    rfl
  refine pW_eq 5 (pc' := 373) (L' := [some (pm_r 99 0), some (pm_r 0 0), some (pm_r 20 0), some (pm_r 60 0), some (pm_i v4), some (pm_i vs0), u6]) (S' := [pm_i (Z 99 0 j2), pm_i (Z 99 0 j1), pm_r 20 0]) (M' := (mm x R Z Y o A c G g)) (fun call n => ?_) ?_
  · refine Eq.trans (b := pm_g (mm x R Z Y o A c G g) 99 0 (pm_ix (v4 + (nI 2)) ns (fun jx => pm_go call ns d 146 n 373 [some (pm_r 99 0), some (pm_r 0 0), some (pm_r 20 0), some (pm_r 60 0), some (pm_i v4), some (pm_i vs0), u6] [pm_i (Z 99 0 jx), pm_i (Z 99 0 j1), pm_r 20 0] (mm x R Z Y o A c G g)))) rfl ?_
    refine (g_ok (f := 99) (by decide) rfl).trans ?_
    refine (ix_ok (j := j2) e2 l2 hns).trans ?_
    rfl
  refine pW_eq 5 (pc' := 379) (L' := [some (pm_r 99 0), some (pm_r 0 0), some (pm_r 20 0), some (pm_r 60 0), some (pm_i v4), some (pm_i vs0), u6]) (S' := [pm_i (Z 99 0 j3), pm_i (Z 99 0 j2), pm_i (Z 99 0 j1), pm_r 20 0]) (M' := (mm x R Z Y o A c G g)) (fun call n => ?_) ?_
  · refine Eq.trans (b := pm_g (mm x R Z Y o A c G g) 99 0 (pm_ix (v4 + (nI 3)) ns (fun jx => pm_go call ns d 146 n 379 [some (pm_r 99 0), some (pm_r 0 0), some (pm_r 20 0), some (pm_r 60 0), some (pm_i v4), some (pm_i vs0), u6] [pm_i (Z 99 0 jx), pm_i (Z 99 0 j2), pm_i (Z 99 0 j1), pm_r 20 0] (mm x R Z Y o A c G g)))) rfl ?_
    refine (g_ok (f := 99) (by decide) rfl).trans ?_
    refine (ix_ok (j := j3) e3 l3 hns).trans ?_
    rfl
  refine pW_call (pc' := 379) (r := []) (L' := [some (pm_r 99 0), some (pm_r 0 0), some (pm_r 20 0), some (pm_r 60 0), some (pm_i v4), some (pm_i vs0), u6]) 1 (fun call n => ?_) hE k
  exact Eq.trans (b := pm_g (mm x R Z Y o A c G g) 20 0 (pm_cl call 146 (pm_go call ns d 146 n) 379 85 [pm_r 20 0, pm_i (Z 99 0 j1), pm_i (Z 99 0 j2), pm_i (Z 99 0 j3)] [] [some (pm_r 99 0), some (pm_r 0 0), some (pm_r 20 0), some (pm_r 60 0), some (pm_i v4), some (pm_i vs0), u6] (mm x R Z Y o A c G g))) rfl (g_ok (f := 20) (by decide) rfl)
set_option maxRecDepth 20000 in
theorem b146_432 (hR : RS R) (hns : ns < 2 ^ 31) {v4 : Int32} {u5 : Option pm_V} {u6 : Option pm_V} {vs0 : Int32} {j1 : Nat} {j2 : Nat} (e1 : v4 + (nI 1) = nI j1) (l1 : j1 < ns) (e2 : v4 + (nI 2) = nI j2) (l2 : j2 < ns) {x2 : Nat} {o2 : Int64} {A2 : Nat → Nat → Nat → Int32} {c2 : Nat → Int64} {G2 : Nat → Nat → Int32} {g2 : Nat → Int64} {y : Int32} (hE : pE ns d 86 [pm_r 20 0, pm_i (Z 99 0 j1), pm_i (Z 99 0 j2)] (mm x R Z Y o A c G g) (.inl (some (pm_i y)), (mm x2 R Z Y o2 A2 c2 G2 g2))) (k : pW ns d 146 450 [some (pm_r 99 0), some (pm_r 0 0), some (pm_r 20 0), some (pm_r 60 0), some (pm_i v4), some (pm_i vs0), u6] [pm_i y] (mm x2 R Z Y o2 A2 c2 G2 g2) Q) : pW ns d 146 432 [some (pm_r 99 0), some (pm_r 0 0), some (pm_r 20 0), some (pm_r 60 0), some (pm_i v4), u5, u6] [pm_i vs0] (mm x R Z Y o A c G g) Q := by
  refine pW_eq 7 (pc' := 441) (L' := [some (pm_r 99 0), some (pm_r 0 0), some (pm_r 20 0), some (pm_r 60 0), some (pm_i v4), some (pm_i vs0), u6]) (S' := [pm_i (Z 99 0 j1), pm_r 20 0]) (M' := (mm x R Z Y o A c G g)) (fun call n => ?_) ?_
  · refine Eq.trans (b := pm_g (mm x R Z Y o A c G g) 99 0 (pm_ix (v4 + (nI 1)) ns (fun jx => pm_go call ns d 146 n 441 [some (pm_r 99 0), some (pm_r 0 0), some (pm_r 20 0), some (pm_r 60 0), some (pm_i v4), some (pm_i vs0), u6] [pm_i (Z 99 0 jx), pm_r 20 0] (mm x R Z Y o A c G g)))) rfl ?_
    refine (g_ok (f := 99) (by decide) rfl).trans ?_
    refine (ix_ok (j := j1) e1 l1 hns).trans ?_
    rfl
  refine pW_eq 5 (pc' := 447) (L' := [some (pm_r 99 0), some (pm_r 0 0), some (pm_r 20 0), some (pm_r 60 0), some (pm_i v4), some (pm_i vs0), u6]) (S' := [pm_i (Z 99 0 j2), pm_i (Z 99 0 j1), pm_r 20 0]) (M' := (mm x R Z Y o A c G g)) (fun call n => ?_) ?_
  · refine Eq.trans (b := pm_g (mm x R Z Y o A c G g) 99 0 (pm_ix (v4 + (nI 2)) ns (fun jx => pm_go call ns d 146 n 447 [some (pm_r 99 0), some (pm_r 0 0), some (pm_r 20 0), some (pm_r 60 0), some (pm_i v4), some (pm_i vs0), u6] [pm_i (Z 99 0 jx), pm_i (Z 99 0 j1), pm_r 20 0] (mm x R Z Y o A c G g)))) rfl ?_
    refine (g_ok (f := 99) (by decide) rfl).trans ?_
    refine (ix_ok (j := j2) e2 l2 hns).trans ?_
    rfl
  refine pW_call (pc' := 447) (r := []) (L' := [some (pm_r 99 0), some (pm_r 0 0), some (pm_r 20 0), some (pm_r 60 0), some (pm_i v4), some (pm_i vs0), u6]) 1 (fun call n => ?_) hE k
  exact Eq.trans (b := pm_g (mm x R Z Y o A c G g) 20 0 (pm_cl call 146 (pm_go call ns d 146 n) 447 86 [pm_r 20 0, pm_i (Z 99 0 j1), pm_i (Z 99 0 j2)] [] [some (pm_r 99 0), some (pm_r 0 0), some (pm_r 20 0), some (pm_r 60 0), some (pm_i v4), some (pm_i vs0), u6] (mm x R Z Y o A c G g))) rfl (g_ok (f := 20) (by decide) rfl)
set_option maxRecDepth 20000 in
theorem b146_506 (hR : RS R) (hns : ns < 2 ^ 31) {v4 : Int32} {u5 : Option pm_V} {u6 : Option pm_V} {vs0 : Int32} {j1 : Nat} {j2 : Nat} {j3 : Nat} (e1 : v4 + (nI 1) = nI j1) (l1 : j1 < ns) (e2 : v4 + (nI 2) = nI j2) (l2 : j2 < ns) (e3 : v4 + (nI 3) = nI j3) (l3 : j3 < ns) {x2 : Nat} {o2 : Int64} {A2 : Nat → Nat → Nat → Int32} {c2 : Nat → Int64} {G2 : Nat → Nat → Int32} {g2 : Nat → Int64} {y : Int32} (hE : pE ns d 88 [pm_r 20 0, pm_i (Z 99 0 j1), pm_i (Z 99 0 j2), pm_i (Z 99 0 j3)] (mm x R Z Y o A c G g) (.inl (some (pm_i y)), (mm x2 R Z Y o2 A2 c2 G2 g2))) (k : pW ns d 146 530 [some (pm_r 99 0), some (pm_r 0 0), some (pm_r 20 0), some (pm_r 60 0), some (pm_i v4), some (pm_i vs0), u6] [pm_i y] (mm x2 R Z Y o2 A2 c2 G2 g2) Q) : pW ns d 146 506 [some (pm_r 99 0), some (pm_r 0 0), some (pm_r 20 0), some (pm_r 60 0), some (pm_i v4), u5, u6] [pm_i vs0] (mm x R Z Y o A c G g) Q := by
  refine pW_eq 7 (pc' := 515) (L' := [some (pm_r 99 0), some (pm_r 0 0), some (pm_r 20 0), some (pm_r 60 0), some (pm_i v4), some (pm_i vs0), u6]) (S' := [pm_i (Z 99 0 j1), pm_r 20 0]) (M' := (mm x R Z Y o A c G g)) (fun call n => ?_) ?_
  · refine Eq.trans (b := pm_g (mm x R Z Y o A c G g) 99 0 (pm_ix (v4 + (nI 1)) ns (fun jx => pm_go call ns d 146 n 515 [some (pm_r 99 0), some (pm_r 0 0), some (pm_r 20 0), some (pm_r 60 0), some (pm_i v4), some (pm_i vs0), u6] [pm_i (Z 99 0 jx), pm_r 20 0] (mm x R Z Y o A c G g)))) rfl ?_
    refine (g_ok (f := 99) (by decide) rfl).trans ?_
    refine (ix_ok (j := j1) e1 l1 hns).trans ?_
    rfl
  refine pW_eq 5 (pc' := 521) (L' := [some (pm_r 99 0), some (pm_r 0 0), some (pm_r 20 0), some (pm_r 60 0), some (pm_i v4), some (pm_i vs0), u6]) (S' := [pm_i (Z 99 0 j2), pm_i (Z 99 0 j1), pm_r 20 0]) (M' := (mm x R Z Y o A c G g)) (fun call n => ?_) ?_
  · refine Eq.trans (b := pm_g (mm x R Z Y o A c G g) 99 0 (pm_ix (v4 + (nI 2)) ns (fun jx => pm_go call ns d 146 n 521 [some (pm_r 99 0), some (pm_r 0 0), some (pm_r 20 0), some (pm_r 60 0), some (pm_i v4), some (pm_i vs0), u6] [pm_i (Z 99 0 jx), pm_i (Z 99 0 j1), pm_r 20 0] (mm x R Z Y o A c G g)))) rfl ?_
    refine (g_ok (f := 99) (by decide) rfl).trans ?_
    refine (ix_ok (j := j2) e2 l2 hns).trans ?_
    rfl
  refine pW_eq 5 (pc' := 527) (L' := [some (pm_r 99 0), some (pm_r 0 0), some (pm_r 20 0), some (pm_r 60 0), some (pm_i v4), some (pm_i vs0), u6]) (S' := [pm_i (Z 99 0 j3), pm_i (Z 99 0 j2), pm_i (Z 99 0 j1), pm_r 20 0]) (M' := (mm x R Z Y o A c G g)) (fun call n => ?_) ?_
  · refine Eq.trans (b := pm_g (mm x R Z Y o A c G g) 99 0 (pm_ix (v4 + (nI 3)) ns (fun jx => pm_go call ns d 146 n 527 [some (pm_r 99 0), some (pm_r 0 0), some (pm_r 20 0), some (pm_r 60 0), some (pm_i v4), some (pm_i vs0), u6] [pm_i (Z 99 0 jx), pm_i (Z 99 0 j2), pm_i (Z 99 0 j1), pm_r 20 0] (mm x R Z Y o A c G g)))) rfl ?_
    refine (g_ok (f := 99) (by decide) rfl).trans ?_
    refine (ix_ok (j := j3) e3 l3 hns).trans ?_
    rfl
  refine pW_call (pc' := 527) (r := []) (L' := [some (pm_r 99 0), some (pm_r 0 0), some (pm_r 20 0), some (pm_r 60 0), some (pm_i v4), some (pm_i vs0), u6]) 1 (fun call n => ?_) hE k
  exact Eq.trans (b := pm_g (mm x R Z Y o A c G g) 20 0 (pm_cl call 146 (pm_go call ns d 146 n) 527 88 [pm_r 20 0, pm_i (Z 99 0 j1), pm_i (Z 99 0 j2), pm_i (Z 99 0 j3)] [] [some (pm_r 99 0), some (pm_r 0 0), some (pm_r 20 0), some (pm_r 60 0), some (pm_i v4), some (pm_i vs0), u6] (mm x R Z Y o A c G g))) rfl (g_ok (f := 20) (by decide) rfl)
set_option maxRecDepth 20000 in
theorem b146_608 (hR : RS R) (hns : ns < 2 ^ 31) {v4 : Int32} {u5 : Option pm_V} {u6 : Option pm_V} {vs0 : Int32} {j1 : Nat} {j2 : Nat} {j3 : Nat} {j4 : Nat} {j5 : Nat} (e1 : v4 + (nI 1) = nI j1) (l1 : j1 < ns) (e2 : v4 + (nI 2) = nI j2) (l2 : j2 < ns) (e3 : v4 + (nI 3) = nI j3) (l3 : j3 < ns) (e4 : v4 + (nI 4) = nI j4) (l4 : j4 < ns) (e5 : v4 + (nI 5) = nI j5) (l5 : j5 < ns) {x2 : Nat} {o2 : Int64} {A2 : Nat → Nat → Nat → Int32} {c2 : Nat → Int64} {G2 : Nat → Nat → Int32} {g2 : Nat → Int64} {y : Int32} (hE : pE ns d 89 [pm_r 20 0, pm_i (Z 99 0 j1), pm_i (Z 99 0 j2), pm_l ((((Z 99 0 j3).toInt64) <<< ((nI 32).toInt64 &&& 63)) ||| (((Z 99 0 j4).toInt64) &&& 4294967295)), pm_i (Z 99 0 j5)] (mm x R Z Y o A c G g) (.inl (some (pm_i y)), (mm x2 R Z Y o2 A2 c2 G2 g2))) (k : pW ns d 146 654 [some (pm_r 99 0), some (pm_r 0 0), some (pm_r 20 0), some (pm_r 60 0), some (pm_i v4), some (pm_i vs0), u6] [pm_i y] (mm x2 R Z Y o2 A2 c2 G2 g2) Q) : pW ns d 146 608 [some (pm_r 99 0), some (pm_r 0 0), some (pm_r 20 0), some (pm_r 60 0), some (pm_i v4), u5, u6] [pm_i vs0] (mm x R Z Y o A c G g) Q := by
  refine pW_eq 7 (pc' := 617) (L' := [some (pm_r 99 0), some (pm_r 0 0), some (pm_r 20 0), some (pm_r 60 0), some (pm_i v4), some (pm_i vs0), u6]) (S' := [pm_i (Z 99 0 j1), pm_r 20 0]) (M' := (mm x R Z Y o A c G g)) (fun call n => ?_) ?_
  · refine Eq.trans (b := pm_g (mm x R Z Y o A c G g) 99 0 (pm_ix (v4 + (nI 1)) ns (fun jx => pm_go call ns d 146 n 617 [some (pm_r 99 0), some (pm_r 0 0), some (pm_r 20 0), some (pm_r 60 0), some (pm_i v4), some (pm_i vs0), u6] [pm_i (Z 99 0 jx), pm_r 20 0] (mm x R Z Y o A c G g)))) rfl ?_
    refine (g_ok (f := 99) (by decide) rfl).trans ?_
    refine (ix_ok (j := j1) e1 l1 hns).trans ?_
    rfl
  refine pW_eq 5 (pc' := 623) (L' := [some (pm_r 99 0), some (pm_r 0 0), some (pm_r 20 0), some (pm_r 60 0), some (pm_i v4), some (pm_i vs0), u6]) (S' := [pm_i (Z 99 0 j2), pm_i (Z 99 0 j1), pm_r 20 0]) (M' := (mm x R Z Y o A c G g)) (fun call n => ?_) ?_
  · refine Eq.trans (b := pm_g (mm x R Z Y o A c G g) 99 0 (pm_ix (v4 + (nI 2)) ns (fun jx => pm_go call ns d 146 n 623 [some (pm_r 99 0), some (pm_r 0 0), some (pm_r 20 0), some (pm_r 60 0), some (pm_i v4), some (pm_i vs0), u6] [pm_i (Z 99 0 jx), pm_i (Z 99 0 j1), pm_r 20 0] (mm x R Z Y o A c G g)))) rfl ?_
    refine (g_ok (f := 99) (by decide) rfl).trans ?_
    refine (ix_ok (j := j2) e2 l2 hns).trans ?_
    rfl
  refine pW_eq 5 (pc' := 629) (L' := [some (pm_r 99 0), some (pm_r 0 0), some (pm_r 20 0), some (pm_r 60 0), some (pm_i v4), some (pm_i vs0), u6]) (S' := [pm_i (Z 99 0 j3), pm_i (Z 99 0 j2), pm_i (Z 99 0 j1), pm_r 20 0]) (M' := (mm x R Z Y o A c G g)) (fun call n => ?_) ?_
  · refine Eq.trans (b := pm_g (mm x R Z Y o A c G g) 99 0 (pm_ix (v4 + (nI 3)) ns (fun jx => pm_go call ns d 146 n 629 [some (pm_r 99 0), some (pm_r 0 0), some (pm_r 20 0), some (pm_r 60 0), some (pm_i v4), some (pm_i vs0), u6] [pm_i (Z 99 0 jx), pm_i (Z 99 0 j2), pm_i (Z 99 0 j1), pm_r 20 0] (mm x R Z Y o A c G g)))) rfl ?_
    refine (g_ok (f := 99) (by decide) rfl).trans ?_
    refine (ix_ok (j := j3) e3 l3 hns).trans ?_
    rfl
  refine pW_eq 8 (pc' := 639) (L' := [some (pm_r 99 0), some (pm_r 0 0), some (pm_r 20 0), some (pm_r 60 0), some (pm_i v4), some (pm_i vs0), u6]) (S' := [pm_i (Z 99 0 j4), pm_l (((Z 99 0 j3).toInt64) <<< ((nI 32).toInt64 &&& 63)), pm_i (Z 99 0 j2), pm_i (Z 99 0 j1), pm_r 20 0]) (M' := (mm x R Z Y o A c G g)) (fun call n => ?_) ?_
  · refine Eq.trans (b := pm_g (mm x R Z Y o A c G g) 99 0 (pm_ix (v4 + (nI 4)) ns (fun jx => pm_go call ns d 146 n 639 [some (pm_r 99 0), some (pm_r 0 0), some (pm_r 20 0), some (pm_r 60 0), some (pm_i v4), some (pm_i vs0), u6] [pm_i (Z 99 0 jx), pm_l (((Z 99 0 j3).toInt64) <<< ((nI 32).toInt64 &&& 63)), pm_i (Z 99 0 j2), pm_i (Z 99 0 j1), pm_r 20 0] (mm x R Z Y o A c G g)))) rfl ?_
    refine (g_ok (f := 99) (by decide) rfl).trans ?_
    refine (ix_ok (j := j4) e4 l4 hns).trans ?_
    rfl
  refine pW_eq 9 (pc' := 651) (L' := [some (pm_r 99 0), some (pm_r 0 0), some (pm_r 20 0), some (pm_r 60 0), some (pm_i v4), some (pm_i vs0), u6]) (S' := [pm_i (Z 99 0 j5), pm_l ((((Z 99 0 j3).toInt64) <<< ((nI 32).toInt64 &&& 63)) ||| (((Z 99 0 j4).toInt64) &&& 4294967295)), pm_i (Z 99 0 j2), pm_i (Z 99 0 j1), pm_r 20 0]) (M' := (mm x R Z Y o A c G g)) (fun call n => ?_) ?_
  · refine Eq.trans (b := pm_g (mm x R Z Y o A c G g) 99 0 (pm_ix (v4 + (nI 5)) ns (fun jx => pm_go call ns d 146 n 651 [some (pm_r 99 0), some (pm_r 0 0), some (pm_r 20 0), some (pm_r 60 0), some (pm_i v4), some (pm_i vs0), u6] [pm_i (Z 99 0 jx), pm_l ((((Z 99 0 j3).toInt64) <<< ((nI 32).toInt64 &&& 63)) ||| (((Z 99 0 j4).toInt64) &&& 4294967295)), pm_i (Z 99 0 j2), pm_i (Z 99 0 j1), pm_r 20 0] (mm x R Z Y o A c G g)))) rfl ?_
    refine (g_ok (f := 99) (by decide) rfl).trans ?_
    refine (ix_ok (j := j5) e5 l5 hns).trans ?_
    rfl
  refine pW_call (pc' := 651) (r := []) (L' := [some (pm_r 99 0), some (pm_r 0 0), some (pm_r 20 0), some (pm_r 60 0), some (pm_i v4), some (pm_i vs0), u6]) 1 (fun call n => ?_) hE k
  exact Eq.trans (b := pm_g (mm x R Z Y o A c G g) 20 0 (pm_cl call 146 (pm_go call ns d 146 n) 651 89 [pm_r 20 0, pm_i (Z 99 0 j1), pm_i (Z 99 0 j2), pm_l ((((Z 99 0 j3).toInt64) <<< ((nI 32).toInt64 &&& 63)) ||| (((Z 99 0 j4).toInt64) &&& 4294967295)), pm_i (Z 99 0 j5)] [] [some (pm_r 99 0), some (pm_r 0 0), some (pm_r 20 0), some (pm_r 60 0), some (pm_i v4), some (pm_i vs0), u6] (mm x R Z Y o A c G g))) rfl (g_ok (f := 20) (by decide) rfl)
set_option maxRecDepth 20000 in
theorem b146_707 (hR : RS R) (hns : ns < 2 ^ 31) {v4 : Int32} {u5 : Option pm_V} {u6 : Option pm_V} {vs0 : Int32}  {x2 : Nat} {o2 : Int64} {A2 : Nat → Nat → Nat → Int32} {c2 : Nat → Int64} {G2 : Nat → Nat → Int32} {g2 : Nat → Int64} {y : Int32} (hE : pE ns d 139 [pm_r 0 0, pm_i vs0, pm_i (nI 0), pm_r 60 0] (mm x R Z Y o A c G g) (.inl (some (pm_i y)), (mm x2 R Z Y o2 A2 c2 G2 g2))) (k : pW ns d 146 712 [some (pm_r 99 0), some (pm_r 0 0), some (pm_r 20 0), some (pm_r 60 0), some (pm_i v4), u5, u6] [pm_i y] (mm x2 R Z Y o2 A2 c2 G2 g2) Q) : pW ns d 146 707 [some (pm_r 99 0), some (pm_r 0 0), some (pm_r 20 0), some (pm_r 60 0), some (pm_i v4), u5, u6] [pm_i vs0, pm_r 0 0] (mm x R Z Y o A c G g) Q := by
  refine pW_call (pc' := 709) (r := []) (L' := [some (pm_r 99 0), some (pm_r 0 0), some (pm_r 20 0), some (pm_r 60 0), some (pm_i v4), u5, u6]) 3 (fun call n => ?_) hE k
  rfl
set_option maxRecDepth 20000 in
theorem b146_703 (hR : RS R) (hns : ns < 2 ^ 31) {v4 : Int32} {u5 : Option pm_V} {u6 : Option pm_V} {vs0 : Int32}  {x2 : Nat} {o2 : Int64} {A2 : Nat → Nat → Nat → Int32} {c2 : Nat → Int64} {G2 : Nat → Nat → Int32} {g2 : Nat → Int64} {y : Int32} (hE : pE ns d 139 [pm_r 0 0, pm_i vs0, pm_i (nI 1), pm_r 60 0] (mm x R Z Y o A c G g) (.inl (some (pm_i y)), (mm x2 R Z Y o2 A2 c2 G2 g2))) (k : pW ns d 146 712 [some (pm_r 99 0), some (pm_r 0 0), some (pm_r 20 0), some (pm_r 60 0), some (pm_i v4), u5, u6] [pm_i y] (mm x2 R Z Y o2 A2 c2 G2 g2) Q) : pW ns d 146 703 [some (pm_r 99 0), some (pm_r 0 0), some (pm_r 20 0), some (pm_r 60 0), some (pm_i v4), u5, u6] [pm_i vs0, pm_r 0 0] (mm x R Z Y o A c G g) Q := by
  refine pW_call (pc' := 709) (r := []) (L' := [some (pm_r 99 0), some (pm_r 0 0), some (pm_r 20 0), some (pm_r 60 0), some (pm_i v4), u5, u6]) 4 (fun call n => ?_) hE k
  rfl
set_option maxRecDepth 20000 in
theorem b146_782 (hR : RS R) (hns : ns < 2 ^ 31) {v4 : Int32} {u5 : Option pm_V} {u6 : Option pm_V} {vs0 : Int32} {j1 : Nat} (e1 : v4 + (nI 1) = nI j1) (l1 : j1 < ns) {x2 : Nat} {o2 : Int64} {A2 : Nat → Nat → Nat → Int32} {c2 : Nat → Int64} {G2 : Nat → Nat → Int32} {g2 : Nat → Int64} {y : Int32} (hE : pE ns d 91 [pm_r 20 0, pm_i (Z 99 0 j1)] (mm x R Z Y o A c G g) (.inl (some (pm_i y)), (mm x2 R Z Y o2 A2 c2 G2 g2))) (k : pW ns d 146 794 [some (pm_r 99 0), some (pm_r 0 0), some (pm_r 20 0), some (pm_r 60 0), some (pm_i v4), some (pm_i vs0), u6] [pm_i y] (mm x2 R Z Y o2 A2 c2 G2 g2) Q) : pW ns d 146 782 [some (pm_r 99 0), some (pm_r 0 0), some (pm_r 20 0), some (pm_r 60 0), some (pm_i v4), u5, u6] [pm_i vs0] (mm x R Z Y o A c G g) Q := by
  refine pW_eq 7 (pc' := 791) (L' := [some (pm_r 99 0), some (pm_r 0 0), some (pm_r 20 0), some (pm_r 60 0), some (pm_i v4), some (pm_i vs0), u6]) (S' := [pm_i (Z 99 0 j1), pm_r 20 0]) (M' := (mm x R Z Y o A c G g)) (fun call n => ?_) ?_
  · refine Eq.trans (b := pm_g (mm x R Z Y o A c G g) 99 0 (pm_ix (v4 + (nI 1)) ns (fun jx => pm_go call ns d 146 n 791 [some (pm_r 99 0), some (pm_r 0 0), some (pm_r 20 0), some (pm_r 60 0), some (pm_i v4), some (pm_i vs0), u6] [pm_i (Z 99 0 jx), pm_r 20 0] (mm x R Z Y o A c G g)))) rfl ?_
    refine (g_ok (f := 99) (by decide) rfl).trans ?_
    refine (ix_ok (j := j1) e1 l1 hns).trans ?_
    rfl
  refine pW_call (pc' := 791) (r := []) (L' := [some (pm_r 99 0), some (pm_r 0 0), some (pm_r 20 0), some (pm_r 60 0), some (pm_i v4), some (pm_i vs0), u6]) 1 (fun call n => ?_) hE k
  exact Eq.trans (b := pm_g (mm x R Z Y o A c G g) 20 0 (pm_cl call 146 (pm_go call ns d 146 n) 791 91 [pm_r 20 0, pm_i (Z 99 0 j1)] [] [some (pm_r 99 0), some (pm_r 0 0), some (pm_r 20 0), some (pm_r 60 0), some (pm_i v4), some (pm_i vs0), u6] (mm x R Z Y o A c G g))) rfl (g_ok (f := 20) (by decide) rfl)
set_option maxRecDepth 20000 in
theorem b146_850 (hR : RS R) (hns : ns < 2 ^ 31) {v4 : Int32} {u5 : Option pm_V} {u6 : Option pm_V} {vs0 : Int32} {j1 : Nat} {j2 : Nat} {j3 : Nat} (e1 : v4 + (nI 1) = nI j1) (l1 : j1 < ns) (e2 : v4 + (nI 2) = nI j2) (l2 : j2 < ns) (e3 : v4 + (nI 3) = nI j3) (l3 : j3 < ns) {x2 : Nat} {o2 : Int64} {A2 : Nat → Nat → Nat → Int32} {c2 : Nat → Int64} {G2 : Nat → Nat → Int32} {g2 : Nat → Int64} {y : Int32} (hE : pE ns d 92 [pm_r 20 0, pm_i (Z 99 0 j1), pm_i (Z 99 0 j2), pm_i (Z 99 0 j3)] (mm x R Z Y o A c G g) (.inl (some (pm_i y)), (mm x2 R Z Y o2 A2 c2 G2 g2))) (k : pW ns d 146 874 [some (pm_r 99 0), some (pm_r 0 0), some (pm_r 20 0), some (pm_r 60 0), some (pm_i v4), some (pm_i vs0), u6] [pm_i y] (mm x2 R Z Y o2 A2 c2 G2 g2) Q) : pW ns d 146 850 [some (pm_r 99 0), some (pm_r 0 0), some (pm_r 20 0), some (pm_r 60 0), some (pm_i v4), u5, u6] [pm_i vs0] (mm x R Z Y o A c G g) Q := by
  refine pW_eq 7 (pc' := 859) (L' := [some (pm_r 99 0), some (pm_r 0 0), some (pm_r 20 0), some (pm_r 60 0), some (pm_i v4), some (pm_i vs0), u6]) (S' := [pm_i (Z 99 0 j1), pm_r 20 0]) (M' := (mm x R Z Y o A c G g)) (fun call n => ?_) ?_
  · refine Eq.trans (b := pm_g (mm x R Z Y o A c G g) 99 0 (pm_ix (v4 + (nI 1)) ns (fun jx => pm_go call ns d 146 n 859 [some (pm_r 99 0), some (pm_r 0 0), some (pm_r 20 0), some (pm_r 60 0), some (pm_i v4), some (pm_i vs0), u6] [pm_i (Z 99 0 jx), pm_r 20 0] (mm x R Z Y o A c G g)))) rfl ?_
    refine (g_ok (f := 99) (by decide) rfl).trans ?_
    refine (ix_ok (j := j1) e1 l1 hns).trans ?_
    rfl
  refine pW_eq 5 (pc' := 865) (L' := [some (pm_r 99 0), some (pm_r 0 0), some (pm_r 20 0), some (pm_r 60 0), some (pm_i v4), some (pm_i vs0), u6]) (S' := [pm_i (Z 99 0 j2), pm_i (Z 99 0 j1), pm_r 20 0]) (M' := (mm x R Z Y o A c G g)) (fun call n => ?_) ?_
  · refine Eq.trans (b := pm_g (mm x R Z Y o A c G g) 99 0 (pm_ix (v4 + (nI 2)) ns (fun jx => pm_go call ns d 146 n 865 [some (pm_r 99 0), some (pm_r 0 0), some (pm_r 20 0), some (pm_r 60 0), some (pm_i v4), some (pm_i vs0), u6] [pm_i (Z 99 0 jx), pm_i (Z 99 0 j1), pm_r 20 0] (mm x R Z Y o A c G g)))) rfl ?_
    refine (g_ok (f := 99) (by decide) rfl).trans ?_
    refine (ix_ok (j := j2) e2 l2 hns).trans ?_
    rfl
  refine pW_eq 5 (pc' := 871) (L' := [some (pm_r 99 0), some (pm_r 0 0), some (pm_r 20 0), some (pm_r 60 0), some (pm_i v4), some (pm_i vs0), u6]) (S' := [pm_i (Z 99 0 j3), pm_i (Z 99 0 j2), pm_i (Z 99 0 j1), pm_r 20 0]) (M' := (mm x R Z Y o A c G g)) (fun call n => ?_) ?_
  · refine Eq.trans (b := pm_g (mm x R Z Y o A c G g) 99 0 (pm_ix (v4 + (nI 3)) ns (fun jx => pm_go call ns d 146 n 871 [some (pm_r 99 0), some (pm_r 0 0), some (pm_r 20 0), some (pm_r 60 0), some (pm_i v4), some (pm_i vs0), u6] [pm_i (Z 99 0 jx), pm_i (Z 99 0 j2), pm_i (Z 99 0 j1), pm_r 20 0] (mm x R Z Y o A c G g)))) rfl ?_
    refine (g_ok (f := 99) (by decide) rfl).trans ?_
    refine (ix_ok (j := j3) e3 l3 hns).trans ?_
    rfl
  refine pW_call (pc' := 871) (r := []) (L' := [some (pm_r 99 0), some (pm_r 0 0), some (pm_r 20 0), some (pm_r 60 0), some (pm_i v4), some (pm_i vs0), u6]) 1 (fun call n => ?_) hE k
  exact Eq.trans (b := pm_g (mm x R Z Y o A c G g) 20 0 (pm_cl call 146 (pm_go call ns d 146 n) 871 92 [pm_r 20 0, pm_i (Z 99 0 j1), pm_i (Z 99 0 j2), pm_i (Z 99 0 j3)] [] [some (pm_r 99 0), some (pm_r 0 0), some (pm_r 20 0), some (pm_r 60 0), some (pm_i v4), some (pm_i vs0), u6] (mm x R Z Y o A c G g))) rfl (g_ok (f := 20) (by decide) rfl)
set_option maxRecDepth 20000 in
theorem b146_930 (hR : RS R) (hns : ns < 2 ^ 31) {v4 : Int32} {u5 : Option pm_V} {u6 : Option pm_V} {vs0 : Int32} {j1 : Nat} {j2 : Nat} {j3 : Nat} (e1 : v4 + (nI 1) = nI j1) (l1 : j1 < ns) (e2 : v4 + (nI 2) = nI j2) (l2 : j2 < ns) (e3 : v4 + (nI 3) = nI j3) (l3 : j3 < ns) {x2 : Nat} {o2 : Int64} {A2 : Nat → Nat → Nat → Int32} {c2 : Nat → Int64} {G2 : Nat → Nat → Int32} {g2 : Nat → Int64} {y : Int32} (hE : pE ns d 93 [pm_r 20 0, pm_i (Z 99 0 j1), pm_i (Z 99 0 j2), pm_i (Z 99 0 j3)] (mm x R Z Y o A c G g) (.inl (some (pm_i y)), (mm x2 R Z Y o2 A2 c2 G2 g2))) (k : pW ns d 146 954 [some (pm_r 99 0), some (pm_r 0 0), some (pm_r 20 0), some (pm_r 60 0), some (pm_i v4), some (pm_i vs0), u6] [pm_i y] (mm x2 R Z Y o2 A2 c2 G2 g2) Q) : pW ns d 146 930 [some (pm_r 99 0), some (pm_r 0 0), some (pm_r 20 0), some (pm_r 60 0), some (pm_i v4), u5, u6] [pm_i vs0] (mm x R Z Y o A c G g) Q := by
  refine pW_eq 7 (pc' := 939) (L' := [some (pm_r 99 0), some (pm_r 0 0), some (pm_r 20 0), some (pm_r 60 0), some (pm_i v4), some (pm_i vs0), u6]) (S' := [pm_i (Z 99 0 j1), pm_r 20 0]) (M' := (mm x R Z Y o A c G g)) (fun call n => ?_) ?_
  · refine Eq.trans (b := pm_g (mm x R Z Y o A c G g) 99 0 (pm_ix (v4 + (nI 1)) ns (fun jx => pm_go call ns d 146 n 939 [some (pm_r 99 0), some (pm_r 0 0), some (pm_r 20 0), some (pm_r 60 0), some (pm_i v4), some (pm_i vs0), u6] [pm_i (Z 99 0 jx), pm_r 20 0] (mm x R Z Y o A c G g)))) rfl ?_
    refine (g_ok (f := 99) (by decide) rfl).trans ?_
    refine (ix_ok (j := j1) e1 l1 hns).trans ?_
    rfl
  refine pW_eq 5 (pc' := 945) (L' := [some (pm_r 99 0), some (pm_r 0 0), some (pm_r 20 0), some (pm_r 60 0), some (pm_i v4), some (pm_i vs0), u6]) (S' := [pm_i (Z 99 0 j2), pm_i (Z 99 0 j1), pm_r 20 0]) (M' := (mm x R Z Y o A c G g)) (fun call n => ?_) ?_
  · refine Eq.trans (b := pm_g (mm x R Z Y o A c G g) 99 0 (pm_ix (v4 + (nI 2)) ns (fun jx => pm_go call ns d 146 n 945 [some (pm_r 99 0), some (pm_r 0 0), some (pm_r 20 0), some (pm_r 60 0), some (pm_i v4), some (pm_i vs0), u6] [pm_i (Z 99 0 jx), pm_i (Z 99 0 j1), pm_r 20 0] (mm x R Z Y o A c G g)))) rfl ?_
    refine (g_ok (f := 99) (by decide) rfl).trans ?_
    refine (ix_ok (j := j2) e2 l2 hns).trans ?_
    rfl
  refine pW_eq 5 (pc' := 951) (L' := [some (pm_r 99 0), some (pm_r 0 0), some (pm_r 20 0), some (pm_r 60 0), some (pm_i v4), some (pm_i vs0), u6]) (S' := [pm_i (Z 99 0 j3), pm_i (Z 99 0 j2), pm_i (Z 99 0 j1), pm_r 20 0]) (M' := (mm x R Z Y o A c G g)) (fun call n => ?_) ?_
  · refine Eq.trans (b := pm_g (mm x R Z Y o A c G g) 99 0 (pm_ix (v4 + (nI 3)) ns (fun jx => pm_go call ns d 146 n 951 [some (pm_r 99 0), some (pm_r 0 0), some (pm_r 20 0), some (pm_r 60 0), some (pm_i v4), some (pm_i vs0), u6] [pm_i (Z 99 0 jx), pm_i (Z 99 0 j2), pm_i (Z 99 0 j1), pm_r 20 0] (mm x R Z Y o A c G g)))) rfl ?_
    refine (g_ok (f := 99) (by decide) rfl).trans ?_
    refine (ix_ok (j := j3) e3 l3 hns).trans ?_
    rfl
  refine pW_call (pc' := 951) (r := []) (L' := [some (pm_r 99 0), some (pm_r 0 0), some (pm_r 20 0), some (pm_r 60 0), some (pm_i v4), some (pm_i vs0), u6]) 1 (fun call n => ?_) hE k
  exact Eq.trans (b := pm_g (mm x R Z Y o A c G g) 20 0 (pm_cl call 146 (pm_go call ns d 146 n) 951 93 [pm_r 20 0, pm_i (Z 99 0 j1), pm_i (Z 99 0 j2), pm_i (Z 99 0 j3)] [] [some (pm_r 99 0), some (pm_r 0 0), some (pm_r 20 0), some (pm_r 60 0), some (pm_i v4), some (pm_i vs0), u6] (mm x R Z Y o A c G g))) rfl (g_ok (f := 20) (by decide) rfl)
set_option maxRecDepth 20000 in
theorem b146_1004 (hR : RS R) (hns : ns < 2 ^ 31) {v4 : Int32} {u5 : Option pm_V} {u6 : Option pm_V} {vs0 : Int32} {j1 : Nat} {j2 : Nat} (e1 : v4 + (nI 1) = nI j1) (l1 : j1 < ns) (e2 : v4 + (nI 2) = nI j2) (l2 : j2 < ns) {x2 : Nat} {o2 : Int64} {A2 : Nat → Nat → Nat → Int32} {c2 : Nat → Int64} {G2 : Nat → Nat → Int32} {g2 : Nat → Int64} {y : Int32} (hE : pE ns d 94 [pm_r 20 0, pm_i (Z 99 0 j1), pm_i (Z 99 0 j2)] (mm x R Z Y o A c G g) (.inl (some (pm_i y)), (mm x2 R Z Y o2 A2 c2 G2 g2))) (k : pW ns d 146 1022 [some (pm_r 99 0), some (pm_r 0 0), some (pm_r 20 0), some (pm_r 60 0), some (pm_i v4), some (pm_i vs0), u6] [pm_i y] (mm x2 R Z Y o2 A2 c2 G2 g2) Q) : pW ns d 146 1004 [some (pm_r 99 0), some (pm_r 0 0), some (pm_r 20 0), some (pm_r 60 0), some (pm_i v4), u5, u6] [pm_i vs0] (mm x R Z Y o A c G g) Q := by
  refine pW_eq 7 (pc' := 1013) (L' := [some (pm_r 99 0), some (pm_r 0 0), some (pm_r 20 0), some (pm_r 60 0), some (pm_i v4), some (pm_i vs0), u6]) (S' := [pm_i (Z 99 0 j1), pm_r 20 0]) (M' := (mm x R Z Y o A c G g)) (fun call n => ?_) ?_
  · refine Eq.trans (b := pm_g (mm x R Z Y o A c G g) 99 0 (pm_ix (v4 + (nI 1)) ns (fun jx => pm_go call ns d 146 n 1013 [some (pm_r 99 0), some (pm_r 0 0), some (pm_r 20 0), some (pm_r 60 0), some (pm_i v4), some (pm_i vs0), u6] [pm_i (Z 99 0 jx), pm_r 20 0] (mm x R Z Y o A c G g)))) rfl ?_
    refine (g_ok (f := 99) (by decide) rfl).trans ?_
    refine (ix_ok (j := j1) e1 l1 hns).trans ?_
    rfl
  refine pW_eq 5 (pc' := 1019) (L' := [some (pm_r 99 0), some (pm_r 0 0), some (pm_r 20 0), some (pm_r 60 0), some (pm_i v4), some (pm_i vs0), u6]) (S' := [pm_i (Z 99 0 j2), pm_i (Z 99 0 j1), pm_r 20 0]) (M' := (mm x R Z Y o A c G g)) (fun call n => ?_) ?_
  · refine Eq.trans (b := pm_g (mm x R Z Y o A c G g) 99 0 (pm_ix (v4 + (nI 2)) ns (fun jx => pm_go call ns d 146 n 1019 [some (pm_r 99 0), some (pm_r 0 0), some (pm_r 20 0), some (pm_r 60 0), some (pm_i v4), some (pm_i vs0), u6] [pm_i (Z 99 0 jx), pm_i (Z 99 0 j1), pm_r 20 0] (mm x R Z Y o A c G g)))) rfl ?_
    refine (g_ok (f := 99) (by decide) rfl).trans ?_
    refine (ix_ok (j := j2) e2 l2 hns).trans ?_
    rfl
  refine pW_call (pc' := 1019) (r := []) (L' := [some (pm_r 99 0), some (pm_r 0 0), some (pm_r 20 0), some (pm_r 60 0), some (pm_i v4), some (pm_i vs0), u6]) 1 (fun call n => ?_) hE k
  exact Eq.trans (b := pm_g (mm x R Z Y o A c G g) 20 0 (pm_cl call 146 (pm_go call ns d 146 n) 1019 94 [pm_r 20 0, pm_i (Z 99 0 j1), pm_i (Z 99 0 j2)] [] [some (pm_r 99 0), some (pm_r 0 0), some (pm_r 20 0), some (pm_r 60 0), some (pm_i v4), some (pm_i vs0), u6] (mm x R Z Y o A c G g))) rfl (g_ok (f := 20) (by decide) rfl)
set_option maxRecDepth 20000 in
theorem b146_1078 (hR : RS R) (hns : ns < 2 ^ 31) {v4 : Int32} {u5 : Option pm_V} {u6 : Option pm_V} {vs0 : Int32} {j1 : Nat} {j2 : Nat} {j3 : Nat} (e1 : v4 + (nI 1) = nI j1) (l1 : j1 < ns) (e2 : v4 + (nI 2) = nI j2) (l2 : j2 < ns) (e3 : v4 + (nI 3) = nI j3) (l3 : j3 < ns) {x2 : Nat} {o2 : Int64} {A2 : Nat → Nat → Nat → Int32} {c2 : Nat → Int64} {G2 : Nat → Nat → Int32} {g2 : Nat → Int64} {y : Int32} (hE : pE ns d 95 [pm_r 20 0, pm_i (Z 99 0 j1), pm_i (Z 99 0 j2), pm_i (Z 99 0 j3)] (mm x R Z Y o A c G g) (.inl (some (pm_i y)), (mm x2 R Z Y o2 A2 c2 G2 g2))) (k : pW ns d 146 1102 [some (pm_r 99 0), some (pm_r 0 0), some (pm_r 20 0), some (pm_r 60 0), some (pm_i v4), some (pm_i vs0), u6] [pm_i y] (mm x2 R Z Y o2 A2 c2 G2 g2) Q) : pW ns d 146 1078 [some (pm_r 99 0), some (pm_r 0 0), some (pm_r 20 0), some (pm_r 60 0), some (pm_i v4), u5, u6] [pm_i vs0] (mm x R Z Y o A c G g) Q := by
  refine pW_eq 7 (pc' := 1087) (L' := [some (pm_r 99 0), some (pm_r 0 0), some (pm_r 20 0), some (pm_r 60 0), some (pm_i v4), some (pm_i vs0), u6]) (S' := [pm_i (Z 99 0 j1), pm_r 20 0]) (M' := (mm x R Z Y o A c G g)) (fun call n => ?_) ?_
  · refine Eq.trans (b := pm_g (mm x R Z Y o A c G g) 99 0 (pm_ix (v4 + (nI 1)) ns (fun jx => pm_go call ns d 146 n 1087 [some (pm_r 99 0), some (pm_r 0 0), some (pm_r 20 0), some (pm_r 60 0), some (pm_i v4), some (pm_i vs0), u6] [pm_i (Z 99 0 jx), pm_r 20 0] (mm x R Z Y o A c G g)))) rfl ?_
    refine (g_ok (f := 99) (by decide) rfl).trans ?_
    refine (ix_ok (j := j1) e1 l1 hns).trans ?_
    rfl
  refine pW_eq 5 (pc' := 1093) (L' := [some (pm_r 99 0), some (pm_r 0 0), some (pm_r 20 0), some (pm_r 60 0), some (pm_i v4), some (pm_i vs0), u6]) (S' := [pm_i (Z 99 0 j2), pm_i (Z 99 0 j1), pm_r 20 0]) (M' := (mm x R Z Y o A c G g)) (fun call n => ?_) ?_
  · refine Eq.trans (b := pm_g (mm x R Z Y o A c G g) 99 0 (pm_ix (v4 + (nI 2)) ns (fun jx => pm_go call ns d 146 n 1093 [some (pm_r 99 0), some (pm_r 0 0), some (pm_r 20 0), some (pm_r 60 0), some (pm_i v4), some (pm_i vs0), u6] [pm_i (Z 99 0 jx), pm_i (Z 99 0 j1), pm_r 20 0] (mm x R Z Y o A c G g)))) rfl ?_
    refine (g_ok (f := 99) (by decide) rfl).trans ?_
    refine (ix_ok (j := j2) e2 l2 hns).trans ?_
    rfl
  refine pW_eq 5 (pc' := 1099) (L' := [some (pm_r 99 0), some (pm_r 0 0), some (pm_r 20 0), some (pm_r 60 0), some (pm_i v4), some (pm_i vs0), u6]) (S' := [pm_i (Z 99 0 j3), pm_i (Z 99 0 j2), pm_i (Z 99 0 j1), pm_r 20 0]) (M' := (mm x R Z Y o A c G g)) (fun call n => ?_) ?_
  · refine Eq.trans (b := pm_g (mm x R Z Y o A c G g) 99 0 (pm_ix (v4 + (nI 3)) ns (fun jx => pm_go call ns d 146 n 1099 [some (pm_r 99 0), some (pm_r 0 0), some (pm_r 20 0), some (pm_r 60 0), some (pm_i v4), some (pm_i vs0), u6] [pm_i (Z 99 0 jx), pm_i (Z 99 0 j2), pm_i (Z 99 0 j1), pm_r 20 0] (mm x R Z Y o A c G g)))) rfl ?_
    refine (g_ok (f := 99) (by decide) rfl).trans ?_
    refine (ix_ok (j := j3) e3 l3 hns).trans ?_
    rfl
  refine pW_call (pc' := 1099) (r := []) (L' := [some (pm_r 99 0), some (pm_r 0 0), some (pm_r 20 0), some (pm_r 60 0), some (pm_i v4), some (pm_i vs0), u6]) 1 (fun call n => ?_) hE k
  exact Eq.trans (b := pm_g (mm x R Z Y o A c G g) 20 0 (pm_cl call 146 (pm_go call ns d 146 n) 1099 95 [pm_r 20 0, pm_i (Z 99 0 j1), pm_i (Z 99 0 j2), pm_i (Z 99 0 j3)] [] [some (pm_r 99 0), some (pm_r 0 0), some (pm_r 20 0), some (pm_r 60 0), some (pm_i v4), some (pm_i vs0), u6] (mm x R Z Y o A c G g))) rfl (g_ok (f := 20) (by decide) rfl)
set_option maxRecDepth 20000 in
theorem b146_1152 (hR : RS R) (hns : ns < 2 ^ 31) {v4 : Int32} {u5 : Option pm_V} {u6 : Option pm_V} {vs0 : Int32} {j1 : Nat} {j2 : Nat} (e1 : v4 + (nI 1) = nI j1) (l1 : j1 < ns) (e2 : v4 + (nI 2) = nI j2) (l2 : j2 < ns) {x2 : Nat} {o2 : Int64} {A2 : Nat → Nat → Nat → Int32} {c2 : Nat → Int64} {G2 : Nat → Nat → Int32} {g2 : Nat → Int64} {y : Int32} (hE : pE ns d 96 [pm_r 20 0, pm_i (Z 99 0 j1), pm_i (Z 99 0 j2)] (mm x R Z Y o A c G g) (.inl (some (pm_i y)), (mm x2 R Z Y o2 A2 c2 G2 g2))) (k : pW ns d 146 1170 [some (pm_r 99 0), some (pm_r 0 0), some (pm_r 20 0), some (pm_r 60 0), some (pm_i v4), some (pm_i vs0), u6] [pm_i y] (mm x2 R Z Y o2 A2 c2 G2 g2) Q) : pW ns d 146 1152 [some (pm_r 99 0), some (pm_r 0 0), some (pm_r 20 0), some (pm_r 60 0), some (pm_i v4), u5, u6] [pm_i vs0] (mm x R Z Y o A c G g) Q := by
  refine pW_eq 7 (pc' := 1161) (L' := [some (pm_r 99 0), some (pm_r 0 0), some (pm_r 20 0), some (pm_r 60 0), some (pm_i v4), some (pm_i vs0), u6]) (S' := [pm_i (Z 99 0 j1), pm_r 20 0]) (M' := (mm x R Z Y o A c G g)) (fun call n => ?_) ?_
  · refine Eq.trans (b := pm_g (mm x R Z Y o A c G g) 99 0 (pm_ix (v4 + (nI 1)) ns (fun jx => pm_go call ns d 146 n 1161 [some (pm_r 99 0), some (pm_r 0 0), some (pm_r 20 0), some (pm_r 60 0), some (pm_i v4), some (pm_i vs0), u6] [pm_i (Z 99 0 jx), pm_r 20 0] (mm x R Z Y o A c G g)))) rfl ?_
    refine (g_ok (f := 99) (by decide) rfl).trans ?_
    refine (ix_ok (j := j1) e1 l1 hns).trans ?_
    rfl
  refine pW_eq 5 (pc' := 1167) (L' := [some (pm_r 99 0), some (pm_r 0 0), some (pm_r 20 0), some (pm_r 60 0), some (pm_i v4), some (pm_i vs0), u6]) (S' := [pm_i (Z 99 0 j2), pm_i (Z 99 0 j1), pm_r 20 0]) (M' := (mm x R Z Y o A c G g)) (fun call n => ?_) ?_
  · refine Eq.trans (b := pm_g (mm x R Z Y o A c G g) 99 0 (pm_ix (v4 + (nI 2)) ns (fun jx => pm_go call ns d 146 n 1167 [some (pm_r 99 0), some (pm_r 0 0), some (pm_r 20 0), some (pm_r 60 0), some (pm_i v4), some (pm_i vs0), u6] [pm_i (Z 99 0 jx), pm_i (Z 99 0 j1), pm_r 20 0] (mm x R Z Y o A c G g)))) rfl ?_
    refine (g_ok (f := 99) (by decide) rfl).trans ?_
    refine (ix_ok (j := j2) e2 l2 hns).trans ?_
    rfl
  refine pW_call (pc' := 1167) (r := []) (L' := [some (pm_r 99 0), some (pm_r 0 0), some (pm_r 20 0), some (pm_r 60 0), some (pm_i v4), some (pm_i vs0), u6]) 1 (fun call n => ?_) hE k
  exact Eq.trans (b := pm_g (mm x R Z Y o A c G g) 20 0 (pm_cl call 146 (pm_go call ns d 146 n) 1167 96 [pm_r 20 0, pm_i (Z 99 0 j1), pm_i (Z 99 0 j2)] [] [some (pm_r 99 0), some (pm_r 0 0), some (pm_r 20 0), some (pm_r 60 0), some (pm_i v4), some (pm_i vs0), u6] (mm x R Z Y o A c G g))) rfl (g_ok (f := 20) (by decide) rfl)
set_option maxRecDepth 20000 in
theorem b146_1219 (hR : RS R) (hns : ns < 2 ^ 31) {v4 : Int32} {u5 : Option pm_V} {u6 : Option pm_V} {vs0 : Int32} {j1 : Nat} {j2 : Nat} (e1 : v4 + (nI 1) = nI j1) (l1 : j1 < ns) (e2 : v4 + (nI 2) = nI j2) (l2 : j2 < ns) {x2 : Nat} {o2 : Int64} {A2 : Nat → Nat → Nat → Int32} {c2 : Nat → Int64} {G2 : Nat → Nat → Int32} {g2 : Nat → Int64} {y : Int32} (hE : pE ns d 98 [pm_r 20 0, pm_i (Z 99 0 j1), pm_i (Z 99 0 j2)] (mm x R Z Y o A c G g) (.inl (some (pm_i y)), (mm x2 R Z Y o2 A2 c2 G2 g2))) (k : pW ns d 146 1235 [some (pm_r 99 0), some (pm_r 0 0), some (pm_r 20 0), some (pm_r 60 0), some (pm_i v4), u5, u6] [pm_i y, pm_i vs0] (mm x2 R Z Y o2 A2 c2 G2 g2) Q) : pW ns d 146 1219 [some (pm_r 99 0), some (pm_r 0 0), some (pm_r 20 0), some (pm_r 60 0), some (pm_i v4), u5, u6] [pm_i vs0] (mm x R Z Y o A c G g) Q := by
  refine pW_eq 6 (pc' := 1226) (L' := [some (pm_r 99 0), some (pm_r 0 0), some (pm_r 20 0), some (pm_r 60 0), some (pm_i v4), u5, u6]) (S' := [pm_i (Z 99 0 j1), pm_r 20 0, pm_i vs0]) (M' := (mm x R Z Y o A c G g)) (fun call n => ?_) ?_
  · refine Eq.trans (b := pm_g (mm x R Z Y o A c G g) 99 0 (pm_ix (v4 + (nI 1)) ns (fun jx => pm_go call ns d 146 n 1226 [some (pm_r 99 0), some (pm_r 0 0), some (pm_r 20 0), some (pm_r 60 0), some (pm_i v4), u5, u6] [pm_i (Z 99 0 jx), pm_r 20 0, pm_i vs0] (mm x R Z Y o A c G g)))) rfl ?_
    refine (g_ok (f := 99) (by decide) rfl).trans ?_
    refine (ix_ok (j := j1) e1 l1 hns).trans ?_
    rfl
  refine pW_eq 5 (pc' := 1232) (L' := [some (pm_r 99 0), some (pm_r 0 0), some (pm_r 20 0), some (pm_r 60 0), some (pm_i v4), u5, u6]) (S' := [pm_i (Z 99 0 j2), pm_i (Z 99 0 j1), pm_r 20 0, pm_i vs0]) (M' := (mm x R Z Y o A c G g)) (fun call n => ?_) ?_
  · refine Eq.trans (b := pm_g (mm x R Z Y o A c G g) 99 0 (pm_ix (v4 + (nI 2)) ns (fun jx => pm_go call ns d 146 n 1232 [some (pm_r 99 0), some (pm_r 0 0), some (pm_r 20 0), some (pm_r 60 0), some (pm_i v4), u5, u6] [pm_i (Z 99 0 jx), pm_i (Z 99 0 j1), pm_r 20 0, pm_i vs0] (mm x R Z Y o A c G g)))) rfl ?_
    refine (g_ok (f := 99) (by decide) rfl).trans ?_
    refine (ix_ok (j := j2) e2 l2 hns).trans ?_
    rfl
  refine pW_call (pc' := 1232) (r := [pm_i vs0]) (L' := [some (pm_r 99 0), some (pm_r 0 0), some (pm_r 20 0), some (pm_r 60 0), some (pm_i v4), u5, u6]) 1 (fun call n => ?_) hE k
  exact Eq.trans (b := pm_g (mm x R Z Y o A c G g) 20 0 (pm_cl call 146 (pm_go call ns d 146 n) 1232 98 [pm_r 20 0, pm_i (Z 99 0 j1), pm_i (Z 99 0 j2)] [pm_i vs0] [some (pm_r 99 0), some (pm_r 0 0), some (pm_r 20 0), some (pm_r 60 0), some (pm_i v4), u5, u6] (mm x R Z Y o A c G g))) rfl (g_ok (f := 20) (by decide) rfl)
set_option maxRecDepth 20000 in
theorem b146_1256 (hR : RS R) (hns : ns < 2 ^ 31) {v4 : Int32} {u5 : Option pm_V} {u6 : Option pm_V} {vs0 : Int32} {j1 : Nat} {j2 : Nat} (e1 : v4 + (nI 1) = nI j1) (l1 : j1 < ns) (e2 : v4 + (nI 2) = nI j2) (l2 : j2 < ns) {x2 : Nat} {o2 : Int64} {A2 : Nat → Nat → Nat → Int32} {c2 : Nat → Int64} {G2 : Nat → Nat → Int32} {g2 : Nat → Int64} {y : Int32} (hE : pE ns d 99 [pm_r 20 0, pm_i (Z 99 0 j1), pm_i (Z 99 0 j2)] (mm x R Z Y o A c G g) (.inl (some (pm_i y)), (mm x2 R Z Y o2 A2 c2 G2 g2))) (k : pW ns d 146 1272 [some (pm_r 99 0), some (pm_r 0 0), some (pm_r 20 0), some (pm_r 60 0), some (pm_i v4), u5, u6] [pm_i y, pm_i vs0] (mm x2 R Z Y o2 A2 c2 G2 g2) Q) : pW ns d 146 1256 [some (pm_r 99 0), some (pm_r 0 0), some (pm_r 20 0), some (pm_r 60 0), some (pm_i v4), u5, u6] [pm_i vs0] (mm x R Z Y o A c G g) Q := by
  refine pW_eq 6 (pc' := 1263) (L' := [some (pm_r 99 0), some (pm_r 0 0), some (pm_r 20 0), some (pm_r 60 0), some (pm_i v4), u5, u6]) (S' := [pm_i (Z 99 0 j1), pm_r 20 0, pm_i vs0]) (M' := (mm x R Z Y o A c G g)) (fun call n => ?_) ?_
  · refine Eq.trans (b := pm_g (mm x R Z Y o A c G g) 99 0 (pm_ix (v4 + (nI 1)) ns (fun jx => pm_go call ns d 146 n 1263 [some (pm_r 99 0), some (pm_r 0 0), some (pm_r 20 0), some (pm_r 60 0), some (pm_i v4), u5, u6] [pm_i (Z 99 0 jx), pm_r 20 0, pm_i vs0] (mm x R Z Y o A c G g)))) rfl ?_
    refine (g_ok (f := 99) (by decide) rfl).trans ?_
    refine (ix_ok (j := j1) e1 l1 hns).trans ?_
    rfl
  refine pW_eq 5 (pc' := 1269) (L' := [some (pm_r 99 0), some (pm_r 0 0), some (pm_r 20 0), some (pm_r 60 0), some (pm_i v4), u5, u6]) (S' := [pm_i (Z 99 0 j2), pm_i (Z 99 0 j1), pm_r 20 0, pm_i vs0]) (M' := (mm x R Z Y o A c G g)) (fun call n => ?_) ?_
  · refine Eq.trans (b := pm_g (mm x R Z Y o A c G g) 99 0 (pm_ix (v4 + (nI 2)) ns (fun jx => pm_go call ns d 146 n 1269 [some (pm_r 99 0), some (pm_r 0 0), some (pm_r 20 0), some (pm_r 60 0), some (pm_i v4), u5, u6] [pm_i (Z 99 0 jx), pm_i (Z 99 0 j1), pm_r 20 0, pm_i vs0] (mm x R Z Y o A c G g)))) rfl ?_
    refine (g_ok (f := 99) (by decide) rfl).trans ?_
    refine (ix_ok (j := j2) e2 l2 hns).trans ?_
    rfl
  refine pW_call (pc' := 1269) (r := [pm_i vs0]) (L' := [some (pm_r 99 0), some (pm_r 0 0), some (pm_r 20 0), some (pm_r 60 0), some (pm_i v4), u5, u6]) 1 (fun call n => ?_) hE k
  exact Eq.trans (b := pm_g (mm x R Z Y o A c G g) 20 0 (pm_cl call 146 (pm_go call ns d 146 n) 1269 99 [pm_r 20 0, pm_i (Z 99 0 j1), pm_i (Z 99 0 j2)] [pm_i vs0] [some (pm_r 99 0), some (pm_r 0 0), some (pm_r 20 0), some (pm_r 60 0), some (pm_i v4), u5, u6] (mm x R Z Y o A c G g))) rfl (g_ok (f := 20) (by decide) rfl)
set_option maxRecDepth 20000 in
theorem b146_1293 (hR : RS R) (hns : ns < 2 ^ 31) {v4 : Int32} {u5 : Option pm_V} {u6 : Option pm_V} {vs0 : Int32} {j1 : Nat} {j2 : Nat} (e1 : v4 + (nI 1) = nI j1) (l1 : j1 < ns) (e2 : v4 + (nI 2) = nI j2) (l2 : j2 < ns) {x2 : Nat} {o2 : Int64} {A2 : Nat → Nat → Nat → Int32} {c2 : Nat → Int64} {G2 : Nat → Nat → Int32} {g2 : Nat → Int64} {y : Int32} (hE : pE ns d 100 [pm_r 20 0, pm_i (Z 99 0 j1), pm_i (Z 99 0 j2)] (mm x R Z Y o A c G g) (.inl (some (pm_i y)), (mm x2 R Z Y o2 A2 c2 G2 g2))) (k : pW ns d 146 1309 [some (pm_r 99 0), some (pm_r 0 0), some (pm_r 20 0), some (pm_r 60 0), some (pm_i v4), u5, u6] [pm_i y, pm_i vs0] (mm x2 R Z Y o2 A2 c2 G2 g2) Q) : pW ns d 146 1293 [some (pm_r 99 0), some (pm_r 0 0), some (pm_r 20 0), some (pm_r 60 0), some (pm_i v4), u5, u6] [pm_i vs0] (mm x R Z Y o A c G g) Q := by
  refine pW_eq 6 (pc' := 1300) (L' := [some (pm_r 99 0), some (pm_r 0 0), some (pm_r 20 0), some (pm_r 60 0), some (pm_i v4), u5, u6]) (S' := [pm_i (Z 99 0 j1), pm_r 20 0, pm_i vs0]) (M' := (mm x R Z Y o A c G g)) (fun call n => ?_) ?_
  · refine Eq.trans (b := pm_g (mm x R Z Y o A c G g) 99 0 (pm_ix (v4 + (nI 1)) ns (fun jx => pm_go call ns d 146 n 1300 [some (pm_r 99 0), some (pm_r 0 0), some (pm_r 20 0), some (pm_r 60 0), some (pm_i v4), u5, u6] [pm_i (Z 99 0 jx), pm_r 20 0, pm_i vs0] (mm x R Z Y o A c G g)))) rfl ?_
    refine (g_ok (f := 99) (by decide) rfl).trans ?_
    refine (ix_ok (j := j1) e1 l1 hns).trans ?_
    rfl
  refine pW_eq 5 (pc' := 1306) (L' := [some (pm_r 99 0), some (pm_r 0 0), some (pm_r 20 0), some (pm_r 60 0), some (pm_i v4), u5, u6]) (S' := [pm_i (Z 99 0 j2), pm_i (Z 99 0 j1), pm_r 20 0, pm_i vs0]) (M' := (mm x R Z Y o A c G g)) (fun call n => ?_) ?_
  · refine Eq.trans (b := pm_g (mm x R Z Y o A c G g) 99 0 (pm_ix (v4 + (nI 2)) ns (fun jx => pm_go call ns d 146 n 1306 [some (pm_r 99 0), some (pm_r 0 0), some (pm_r 20 0), some (pm_r 60 0), some (pm_i v4), u5, u6] [pm_i (Z 99 0 jx), pm_i (Z 99 0 j1), pm_r 20 0, pm_i vs0] (mm x R Z Y o A c G g)))) rfl ?_
    refine (g_ok (f := 99) (by decide) rfl).trans ?_
    refine (ix_ok (j := j2) e2 l2 hns).trans ?_
    rfl
  refine pW_call (pc' := 1306) (r := [pm_i vs0]) (L' := [some (pm_r 99 0), some (pm_r 0 0), some (pm_r 20 0), some (pm_r 60 0), some (pm_i v4), u5, u6]) 1 (fun call n => ?_) hE k
  exact Eq.trans (b := pm_g (mm x R Z Y o A c G g) 20 0 (pm_cl call 146 (pm_go call ns d 146 n) 1306 100 [pm_r 20 0, pm_i (Z 99 0 j1), pm_i (Z 99 0 j2)] [pm_i vs0] [some (pm_r 99 0), some (pm_r 0 0), some (pm_r 20 0), some (pm_r 60 0), some (pm_i v4), u5, u6] (mm x R Z Y o A c G g))) rfl (g_ok (f := 20) (by decide) rfl)
set_option maxRecDepth 20000 in
theorem b146_1324 (hR : RS R) (hns : ns < 2 ^ 31) {v4 : Int32} {u5 : Option pm_V} {u6 : Option pm_V} {vs0 : Int32} {j1 : Nat} (e1 : v4 + (nI 1) = nI j1) (l1 : j1 < ns) {x2 : Nat} {o2 : Int64} {A2 : Nat → Nat → Nat → Int32} {c2 : Nat → Int64} {G2 : Nat → Nat → Int32} {g2 : Nat → Int64} {y : Int32} (hE : pE ns d 101 [pm_r 20 0, pm_i (Z 99 0 j1)] (mm x R Z Y o A c G g) (.inl (some (pm_i y)), (mm x2 R Z Y o2 A2 c2 G2 g2))) (k : pW ns d 146 1334 [some (pm_r 99 0), some (pm_r 0 0), some (pm_r 20 0), some (pm_r 60 0), some (pm_i v4), u5, u6] [pm_i y, pm_i vs0] (mm x2 R Z Y o2 A2 c2 G2 g2) Q) : pW ns d 146 1324 [some (pm_r 99 0), some (pm_r 0 0), some (pm_r 20 0), some (pm_r 60 0), some (pm_i v4), u5, u6] [pm_i vs0] (mm x R Z Y o A c G g) Q := by
  refine pW_eq 6 (pc' := 1331) (L' := [some (pm_r 99 0), some (pm_r 0 0), some (pm_r 20 0), some (pm_r 60 0), some (pm_i v4), u5, u6]) (S' := [pm_i (Z 99 0 j1), pm_r 20 0, pm_i vs0]) (M' := (mm x R Z Y o A c G g)) (fun call n => ?_) ?_
  · refine Eq.trans (b := pm_g (mm x R Z Y o A c G g) 99 0 (pm_ix (v4 + (nI 1)) ns (fun jx => pm_go call ns d 146 n 1331 [some (pm_r 99 0), some (pm_r 0 0), some (pm_r 20 0), some (pm_r 60 0), some (pm_i v4), u5, u6] [pm_i (Z 99 0 jx), pm_r 20 0, pm_i vs0] (mm x R Z Y o A c G g)))) rfl ?_
    refine (g_ok (f := 99) (by decide) rfl).trans ?_
    refine (ix_ok (j := j1) e1 l1 hns).trans ?_
    rfl
  refine pW_call (pc' := 1331) (r := [pm_i vs0]) (L' := [some (pm_r 99 0), some (pm_r 0 0), some (pm_r 20 0), some (pm_r 60 0), some (pm_i v4), u5, u6]) 1 (fun call n => ?_) hE k
  exact Eq.trans (b := pm_g (mm x R Z Y o A c G g) 20 0 (pm_cl call 146 (pm_go call ns d 146 n) 1331 101 [pm_r 20 0, pm_i (Z 99 0 j1)] [pm_i vs0] [some (pm_r 99 0), some (pm_r 0 0), some (pm_r 20 0), some (pm_r 60 0), some (pm_i v4), u5, u6] (mm x R Z Y o A c G g))) rfl (g_ok (f := 20) (by decide) rfl)
set_option maxRecDepth 20000 in
theorem b146_152 (hR : RS R) (hns : ns < 2 ^ 31) {v4 : Int32} {u5 : Option pm_V} {u6 : Option pm_V}   (k : pW ns d 146 23 [some (pm_r 99 0), some (pm_r 0 0), some (pm_r 20 0), some (pm_r 60 0), some (pm_i (v4 + (nI 6))), u5, u6] [] (mm x R Z Y o A c G g) Q) : pW ns d 146 152 [some (pm_r 99 0), some (pm_r 0 0), some (pm_r 20 0), some (pm_r 60 0), some (pm_i v4), u5, u6] [] (mm x R Z Y o A c G g) Q := by
  exact pW_eq 3 (fun call n => rfl) k
set_option maxRecDepth 20000 in
theorem b146_178 (hR : RS R) (hns : ns < 2 ^ 31) {v4 : Int32} {v5 : Int32} {u6 : Option pm_V} {vs0 : Int32}  {x2 : Nat} {o2 : Int64} {A2 : Nat → Nat → Nat → Int32} {c2 : Nat → Int64} {G2 : Nat → Nat → Int32} {g2 : Nat → Int64} {y : Int32} (hE : pE ns d 46 [pm_r 20 0] (mm x R Z Y o A c G g) (.inl (some (pm_i y)), (mm x2 R Z Y o2 A2 c2 G2 g2))) (k : pW ns d 146 184 [some (pm_r 99 0), some (pm_r 0 0), some (pm_r 20 0), some (pm_r 60 0), some (pm_i v4), some (pm_i v5), some (pm_i vs0)] [pm_i y] (mm x2 R Z Y o2 A2 c2 G2 g2) Q) : pW ns d 146 178 [some (pm_r 99 0), some (pm_r 0 0), some (pm_r 20 0), some (pm_r 60 0), some (pm_i v4), some (pm_i v5), u6] [pm_i vs0] (mm x R Z Y o A c G g) Q := by
  refine pW_call (pc' := 181) (r := []) (L' := [some (pm_r 99 0), some (pm_r 0 0), some (pm_r 20 0), some (pm_r 60 0), some (pm_i v4), some (pm_i v5), some (pm_i vs0)]) 3 (fun call n => ?_) hE k
  exact Eq.trans (b := pm_g (mm x R Z Y o A c G g) 20 0 (pm_cl call 146 (pm_go call ns d 146 n) 181 46 [pm_r 20 0] [] [some (pm_r 99 0), some (pm_r 0 0), some (pm_r 20 0), some (pm_r 60 0), some (pm_i v4), some (pm_i v5), some (pm_i vs0)] (mm x R Z Y o A c G g))) rfl (g_ok (f := 20) (by decide) rfl)
set_option maxRecDepth 20000 in
theorem b146_246 (hR : RS R) (hns : ns < 2 ^ 31) {v4 : Int32} {v5 : Int32} {u6 : Option pm_V} {vs0 : Int32}  {x2 : Nat} {o2 : Int64} {A2 : Nat → Nat → Nat → Int32} {c2 : Nat → Int64} {G2 : Nat → Nat → Int32} {g2 : Nat → Int64} {y : Int32} (hE : pE ns d 46 [pm_r 20 0] (mm x R Z Y o A c G g) (.inl (some (pm_i y)), (mm x2 R Z Y o2 A2 c2 G2 g2))) (k : pW ns d 146 252 [some (pm_r 99 0), some (pm_r 0 0), some (pm_r 20 0), some (pm_r 60 0), some (pm_i v4), some (pm_i v5), some (pm_i vs0)] [pm_i y] (mm x2 R Z Y o2 A2 c2 G2 g2) Q) : pW ns d 146 246 [some (pm_r 99 0), some (pm_r 0 0), some (pm_r 20 0), some (pm_r 60 0), some (pm_i v4), some (pm_i v5), u6] [pm_i vs0] (mm x R Z Y o A c G g) Q := by
  refine pW_call (pc' := 249) (r := []) (L' := [some (pm_r 99 0), some (pm_r 0 0), some (pm_r 20 0), some (pm_r 60 0), some (pm_i v4), some (pm_i v5), some (pm_i vs0)]) 3 (fun call n => ?_) hE k
  exact Eq.trans (b := pm_g (mm x R Z Y o A c G g) 20 0 (pm_cl call 146 (pm_go call ns d 146 n) 249 46 [pm_r 20 0] [] [some (pm_r 99 0), some (pm_r 0 0), some (pm_r 20 0), some (pm_r 60 0), some (pm_i v4), some (pm_i v5), some (pm_i vs0)] (mm x R Z Y o A c G g))) rfl (g_ok (f := 20) (by decide) rfl)
set_option maxRecDepth 20000 in
theorem b146_302 (hR : RS R) (hns : ns < 2 ^ 31) {v4 : Int32} {v5 : Int32} {u6 : Option pm_V} {vs0 : Int32}  {x2 : Nat} {o2 : Int64} {A2 : Nat → Nat → Nat → Int32} {c2 : Nat → Int64} {G2 : Nat → Nat → Int32} {g2 : Nat → Int64} {y : Int32} (hE : pE ns d 46 [pm_r 20 0] (mm x R Z Y o A c G g) (.inl (some (pm_i y)), (mm x2 R Z Y o2 A2 c2 G2 g2))) (k : pW ns d 146 308 [some (pm_r 99 0), some (pm_r 0 0), some (pm_r 20 0), some (pm_r 60 0), some (pm_i v4), some (pm_i v5), some (pm_i vs0)] [pm_i y] (mm x2 R Z Y o2 A2 c2 G2 g2) Q) : pW ns d 146 302 [some (pm_r 99 0), some (pm_r 0 0), some (pm_r 20 0), some (pm_r 60 0), some (pm_i v4), some (pm_i v5), u6] [pm_i vs0] (mm x R Z Y o A c G g) Q := by
  refine pW_call (pc' := 305) (r := []) (L' := [some (pm_r 99 0), some (pm_r 0 0), some (pm_r 20 0), some (pm_r 60 0), some (pm_i v4), some (pm_i v5), some (pm_i vs0)]) 3 (fun call n => ?_) hE k
  exact Eq.trans (b := pm_g (mm x R Z Y o A c G g) 20 0 (pm_cl call 146 (pm_go call ns d 146 n) 305 46 [pm_r 20 0] [] [some (pm_r 99 0), some (pm_r 0 0), some (pm_r 20 0), some (pm_r 60 0), some (pm_i v4), some (pm_i v5), some (pm_i vs0)] (mm x R Z Y o A c G g))) rfl (g_ok (f := 20) (by decide) rfl)
set_option maxRecDepth 20000 in
theorem b146_382 (hR : RS R) (hns : ns < 2 ^ 31) {v4 : Int32} {v5 : Int32} {u6 : Option pm_V} {vs0 : Int32}  {x2 : Nat} {o2 : Int64} {A2 : Nat → Nat → Nat → Int32} {c2 : Nat → Int64} {G2 : Nat → Nat → Int32} {g2 : Nat → Int64} {y : Int32} (hE : pE ns d 46 [pm_r 20 0] (mm x R Z Y o A c G g) (.inl (some (pm_i y)), (mm x2 R Z Y o2 A2 c2 G2 g2))) (k : pW ns d 146 388 [some (pm_r 99 0), some (pm_r 0 0), some (pm_r 20 0), some (pm_r 60 0), some (pm_i v4), some (pm_i v5), some (pm_i vs0)] [pm_i y] (mm x2 R Z Y o2 A2 c2 G2 g2) Q) : pW ns d 146 382 [some (pm_r 99 0), some (pm_r 0 0), some (pm_r 20 0), some (pm_r 60 0), some (pm_i v4), some (pm_i v5), u6] [pm_i vs0] (mm x R Z Y o A c G g) Q := by
  refine pW_call (pc' := 385) (r := []) (L' := [some (pm_r 99 0), some (pm_r 0 0), some (pm_r 20 0), some (pm_r 60 0), some (pm_i v4), some (pm_i v5), some (pm_i vs0)]) 3 (fun call n => ?_) hE k
  exact Eq.trans (b := pm_g (mm x R Z Y o A c G g) 20 0 (pm_cl call 146 (pm_go call ns d 146 n) 385 46 [pm_r 20 0] [] [some (pm_r 99 0), some (pm_r 0 0), some (pm_r 20 0), some (pm_r 60 0), some (pm_i v4), some (pm_i v5), some (pm_i vs0)] (mm x R Z Y o A c G g))) rfl (g_ok (f := 20) (by decide) rfl)
set_option maxRecDepth 20000 in
theorem b146_450 (hR : RS R) (hns : ns < 2 ^ 31) {v4 : Int32} {v5 : Int32} {u6 : Option pm_V} {vs0 : Int32}  {x2 : Nat} {o2 : Int64} {A2 : Nat → Nat → Nat → Int32} {c2 : Nat → Int64} {G2 : Nat → Nat → Int32} {g2 : Nat → Int64} {y : Int32} (hE : pE ns d 46 [pm_r 20 0] (mm x R Z Y o A c G g) (.inl (some (pm_i y)), (mm x2 R Z Y o2 A2 c2 G2 g2))) (k : pW ns d 146 456 [some (pm_r 99 0), some (pm_r 0 0), some (pm_r 20 0), some (pm_r 60 0), some (pm_i v4), some (pm_i v5), some (pm_i vs0)] [pm_i y] (mm x2 R Z Y o2 A2 c2 G2 g2) Q) : pW ns d 146 450 [some (pm_r 99 0), some (pm_r 0 0), some (pm_r 20 0), some (pm_r 60 0), some (pm_i v4), some (pm_i v5), u6] [pm_i vs0] (mm x R Z Y o A c G g) Q := by
  refine pW_call (pc' := 453) (r := []) (L' := [some (pm_r 99 0), some (pm_r 0 0), some (pm_r 20 0), some (pm_r 60 0), some (pm_i v4), some (pm_i v5), some (pm_i vs0)]) 3 (fun call n => ?_) hE k
  exact Eq.trans (b := pm_g (mm x R Z Y o A c G g) 20 0 (pm_cl call 146 (pm_go call ns d 146 n) 453 46 [pm_r 20 0] [] [some (pm_r 99 0), some (pm_r 0 0), some (pm_r 20 0), some (pm_r 60 0), some (pm_i v4), some (pm_i v5), some (pm_i vs0)] (mm x R Z Y o A c G g))) rfl (g_ok (f := 20) (by decide) rfl)
set_option maxRecDepth 20000 in
theorem b146_530 (hR : RS R) (hns : ns < 2 ^ 31) {v4 : Int32} {v5 : Int32} {u6 : Option pm_V} {vs0 : Int32}  {x2 : Nat} {o2 : Int64} {A2 : Nat → Nat → Nat → Int32} {c2 : Nat → Int64} {G2 : Nat → Nat → Int32} {g2 : Nat → Int64} {y : Int32} (hE : pE ns d 46 [pm_r 20 0] (mm x R Z Y o A c G g) (.inl (some (pm_i y)), (mm x2 R Z Y o2 A2 c2 G2 g2))) (k : pW ns d 146 536 [some (pm_r 99 0), some (pm_r 0 0), some (pm_r 20 0), some (pm_r 60 0), some (pm_i v4), some (pm_i v5), some (pm_i vs0)] [pm_i y] (mm x2 R Z Y o2 A2 c2 G2 g2) Q) : pW ns d 146 530 [some (pm_r 99 0), some (pm_r 0 0), some (pm_r 20 0), some (pm_r 60 0), some (pm_i v4), some (pm_i v5), u6] [pm_i vs0] (mm x R Z Y o A c G g) Q := by
  refine pW_call (pc' := 533) (r := []) (L' := [some (pm_r 99 0), some (pm_r 0 0), some (pm_r 20 0), some (pm_r 60 0), some (pm_i v4), some (pm_i v5), some (pm_i vs0)]) 3 (fun call n => ?_) hE k
  exact Eq.trans (b := pm_g (mm x R Z Y o A c G g) 20 0 (pm_cl call 146 (pm_go call ns d 146 n) 533 46 [pm_r 20 0] [] [some (pm_r 99 0), some (pm_r 0 0), some (pm_r 20 0), some (pm_r 60 0), some (pm_i v4), some (pm_i v5), some (pm_i vs0)] (mm x R Z Y o A c G g))) rfl (g_ok (f := 20) (by decide) rfl)
set_option maxRecDepth 20000 in
theorem b146_654 (hR : RS R) (hns : ns < 2 ^ 31) {v4 : Int32} {v5 : Int32} {u6 : Option pm_V} {vs0 : Int32}  {x2 : Nat} {o2 : Int64} {A2 : Nat → Nat → Nat → Int32} {c2 : Nat → Int64} {G2 : Nat → Nat → Int32} {g2 : Nat → Int64} {y : Int32} (hE : pE ns d 46 [pm_r 20 0] (mm x R Z Y o A c G g) (.inl (some (pm_i y)), (mm x2 R Z Y o2 A2 c2 G2 g2))) (k : pW ns d 146 660 [some (pm_r 99 0), some (pm_r 0 0), some (pm_r 20 0), some (pm_r 60 0), some (pm_i v4), some (pm_i v5), some (pm_i vs0)] [pm_i y] (mm x2 R Z Y o2 A2 c2 G2 g2) Q) : pW ns d 146 654 [some (pm_r 99 0), some (pm_r 0 0), some (pm_r 20 0), some (pm_r 60 0), some (pm_i v4), some (pm_i v5), u6] [pm_i vs0] (mm x R Z Y o A c G g) Q := by
  refine pW_call (pc' := 657) (r := []) (L' := [some (pm_r 99 0), some (pm_r 0 0), some (pm_r 20 0), some (pm_r 60 0), some (pm_i v4), some (pm_i v5), some (pm_i vs0)]) 3 (fun call n => ?_) hE k
  exact Eq.trans (b := pm_g (mm x R Z Y o A c G g) 20 0 (pm_cl call 146 (pm_go call ns d 146 n) 657 46 [pm_r 20 0] [] [some (pm_r 99 0), some (pm_r 0 0), some (pm_r 20 0), some (pm_r 60 0), some (pm_i v4), some (pm_i v5), some (pm_i vs0)] (mm x R Z Y o A c G g))) rfl (g_ok (f := 20) (by decide) rfl)
set_option maxRecDepth 20000 in
theorem b146_712 (hR : RS R) (hns : ns < 2 ^ 31) {v4 : Int32} {u5 : Option pm_V} {u6 : Option pm_V} {vs0 : Int32} {j1 : Nat} {j2 : Nat} (e1 : v4 + (nI 1) = nI j1) (l1 : j1 < ns) (e2 : v4 + (nI 2) = nI j2) (l2 : j2 < ns)  (k1 : Z 99 0 j2 = 0 → pW ns d 146 734 [some (pm_r 99 0), some (pm_r 0 0), some (pm_r 20 0), some (pm_r 60 0), some (pm_i v4), some (pm_i vs0), u6] [pm_i (Z 99 0 j1), pm_r 20 0] (mm x R Z Y o A c G g) Q) (k2 : ¬ (Z 99 0 j2 = 0) → pW ns d 146 730 [some (pm_r 99 0), some (pm_r 0 0), some (pm_r 20 0), some (pm_r 60 0), some (pm_i v4), some (pm_i vs0), u6] [pm_i (Z 99 0 j1), pm_r 20 0] (mm x R Z Y o A c G g) Q) : pW ns d 146 712 [some (pm_r 99 0), some (pm_r 0 0), some (pm_r 20 0), some (pm_r 60 0), some (pm_i v4), u5, u6] [pm_i vs0] (mm x R Z Y o A c G g) Q := by
  refine pW_eq 7 (pc' := 721) (L' := [some (pm_r 99 0), some (pm_r 0 0), some (pm_r 20 0), some (pm_r 60 0), some (pm_i v4), some (pm_i vs0), u6]) (S' := [pm_i (Z 99 0 j1), pm_r 20 0]) (M' := (mm x R Z Y o A c G g)) (fun call n => ?_) ?_
  · refine Eq.trans (b := pm_g (mm x R Z Y o A c G g) 99 0 (pm_ix (v4 + (nI 1)) ns (fun jx => pm_go call ns d 146 n 721 [some (pm_r 99 0), some (pm_r 0 0), some (pm_r 20 0), some (pm_r 60 0), some (pm_i v4), some (pm_i vs0), u6] [pm_i (Z 99 0 jx), pm_r 20 0] (mm x R Z Y o A c G g)))) rfl ?_
    refine (g_ok (f := 99) (by decide) rfl).trans ?_
    refine (ix_ok (j := j1) e1 l1 hns).trans ?_
    rfl
  refine pW_eq 5 (pc' := 727) (L' := [some (pm_r 99 0), some (pm_r 0 0), some (pm_r 20 0), some (pm_r 60 0), some (pm_i v4), some (pm_i vs0), u6]) (S' := [pm_i (Z 99 0 j2), pm_i (Z 99 0 j1), pm_r 20 0]) (M' := (mm x R Z Y o A c G g)) (fun call n => ?_) ?_
  · refine Eq.trans (b := pm_g (mm x R Z Y o A c G g) 99 0 (pm_ix (v4 + (nI 2)) ns (fun jx => pm_go call ns d 146 n 727 [some (pm_r 99 0), some (pm_r 0 0), some (pm_r 20 0), some (pm_r 60 0), some (pm_i v4), some (pm_i vs0), u6] [pm_i (Z 99 0 jx), pm_i (Z 99 0 j1), pm_r 20 0] (mm x R Z Y o A c G g)))) rfl ?_
    refine (g_ok (f := 99) (by decide) rfl).trans ?_
    refine (ix_ok (j := j2) e2 l2 hns).trans ?_
    rfl
  exact pW_if 1 (c := Z 99 0 j2 = 0) (fun call n => rfl) k1 k2
set_option maxRecDepth 20000 in
theorem b146_794 (hR : RS R) (hns : ns < 2 ^ 31) {v4 : Int32} {v5 : Int32} {u6 : Option pm_V} {vs0 : Int32}  {x2 : Nat} {o2 : Int64} {A2 : Nat → Nat → Nat → Int32} {c2 : Nat → Int64} {G2 : Nat → Nat → Int32} {g2 : Nat → Int64} {y : Int32} (hE : pE ns d 46 [pm_r 20 0] (mm x R Z Y o A c G g) (.inl (some (pm_i y)), (mm x2 R Z Y o2 A2 c2 G2 g2))) (k : pW ns d 146 800 [some (pm_r 99 0), some (pm_r 0 0), some (pm_r 20 0), some (pm_r 60 0), some (pm_i v4), some (pm_i v5), some (pm_i vs0)] [pm_i y] (mm x2 R Z Y o2 A2 c2 G2 g2) Q) : pW ns d 146 794 [some (pm_r 99 0), some (pm_r 0 0), some (pm_r 20 0), some (pm_r 60 0), some (pm_i v4), some (pm_i v5), u6] [pm_i vs0] (mm x R Z Y o A c G g) Q := by
  refine pW_call (pc' := 797) (r := []) (L' := [some (pm_r 99 0), some (pm_r 0 0), some (pm_r 20 0), some (pm_r 60 0), some (pm_i v4), some (pm_i v5), some (pm_i vs0)]) 3 (fun call n => ?_) hE k
  exact Eq.trans (b := pm_g (mm x R Z Y o A c G g) 20 0 (pm_cl call 146 (pm_go call ns d 146 n) 797 46 [pm_r 20 0] [] [some (pm_r 99 0), some (pm_r 0 0), some (pm_r 20 0), some (pm_r 60 0), some (pm_i v4), some (pm_i v5), some (pm_i vs0)] (mm x R Z Y o A c G g))) rfl (g_ok (f := 20) (by decide) rfl)
set_option maxRecDepth 20000 in
theorem b146_874 (hR : RS R) (hns : ns < 2 ^ 31) {v4 : Int32} {v5 : Int32} {u6 : Option pm_V} {vs0 : Int32}  {x2 : Nat} {o2 : Int64} {A2 : Nat → Nat → Nat → Int32} {c2 : Nat → Int64} {G2 : Nat → Nat → Int32} {g2 : Nat → Int64} {y : Int32} (hE : pE ns d 46 [pm_r 20 0] (mm x R Z Y o A c G g) (.inl (some (pm_i y)), (mm x2 R Z Y o2 A2 c2 G2 g2))) (k : pW ns d 146 880 [some (pm_r 99 0), some (pm_r 0 0), some (pm_r 20 0), some (pm_r 60 0), some (pm_i v4), some (pm_i v5), some (pm_i vs0)] [pm_i y] (mm x2 R Z Y o2 A2 c2 G2 g2) Q) : pW ns d 146 874 [some (pm_r 99 0), some (pm_r 0 0), some (pm_r 20 0), some (pm_r 60 0), some (pm_i v4), some (pm_i v5), u6] [pm_i vs0] (mm x R Z Y o A c G g) Q := by
  refine pW_call (pc' := 877) (r := []) (L' := [some (pm_r 99 0), some (pm_r 0 0), some (pm_r 20 0), some (pm_r 60 0), some (pm_i v4), some (pm_i v5), some (pm_i vs0)]) 3 (fun call n => ?_) hE k
  exact Eq.trans (b := pm_g (mm x R Z Y o A c G g) 20 0 (pm_cl call 146 (pm_go call ns d 146 n) 877 46 [pm_r 20 0] [] [some (pm_r 99 0), some (pm_r 0 0), some (pm_r 20 0), some (pm_r 60 0), some (pm_i v4), some (pm_i v5), some (pm_i vs0)] (mm x R Z Y o A c G g))) rfl (g_ok (f := 20) (by decide) rfl)
set_option maxRecDepth 20000 in
theorem b146_954 (hR : RS R) (hns : ns < 2 ^ 31) {v4 : Int32} {v5 : Int32} {u6 : Option pm_V} {vs0 : Int32}  {x2 : Nat} {o2 : Int64} {A2 : Nat → Nat → Nat → Int32} {c2 : Nat → Int64} {G2 : Nat → Nat → Int32} {g2 : Nat → Int64} {y : Int32} (hE : pE ns d 46 [pm_r 20 0] (mm x R Z Y o A c G g) (.inl (some (pm_i y)), (mm x2 R Z Y o2 A2 c2 G2 g2))) (k : pW ns d 146 960 [some (pm_r 99 0), some (pm_r 0 0), some (pm_r 20 0), some (pm_r 60 0), some (pm_i v4), some (pm_i v5), some (pm_i vs0)] [pm_i y] (mm x2 R Z Y o2 A2 c2 G2 g2) Q) : pW ns d 146 954 [some (pm_r 99 0), some (pm_r 0 0), some (pm_r 20 0), some (pm_r 60 0), some (pm_i v4), some (pm_i v5), u6] [pm_i vs0] (mm x R Z Y o A c G g) Q := by
  refine pW_call (pc' := 957) (r := []) (L' := [some (pm_r 99 0), some (pm_r 0 0), some (pm_r 20 0), some (pm_r 60 0), some (pm_i v4), some (pm_i v5), some (pm_i vs0)]) 3 (fun call n => ?_) hE k
  exact Eq.trans (b := pm_g (mm x R Z Y o A c G g) 20 0 (pm_cl call 146 (pm_go call ns d 146 n) 957 46 [pm_r 20 0] [] [some (pm_r 99 0), some (pm_r 0 0), some (pm_r 20 0), some (pm_r 60 0), some (pm_i v4), some (pm_i v5), some (pm_i vs0)] (mm x R Z Y o A c G g))) rfl (g_ok (f := 20) (by decide) rfl)
set_option maxRecDepth 20000 in
theorem b146_1022 (hR : RS R) (hns : ns < 2 ^ 31) {v4 : Int32} {v5 : Int32} {u6 : Option pm_V} {vs0 : Int32}  {x2 : Nat} {o2 : Int64} {A2 : Nat → Nat → Nat → Int32} {c2 : Nat → Int64} {G2 : Nat → Nat → Int32} {g2 : Nat → Int64} {y : Int32} (hE : pE ns d 46 [pm_r 20 0] (mm x R Z Y o A c G g) (.inl (some (pm_i y)), (mm x2 R Z Y o2 A2 c2 G2 g2))) (k : pW ns d 146 1028 [some (pm_r 99 0), some (pm_r 0 0), some (pm_r 20 0), some (pm_r 60 0), some (pm_i v4), some (pm_i v5), some (pm_i vs0)] [pm_i y] (mm x2 R Z Y o2 A2 c2 G2 g2) Q) : pW ns d 146 1022 [some (pm_r 99 0), some (pm_r 0 0), some (pm_r 20 0), some (pm_r 60 0), some (pm_i v4), some (pm_i v5), u6] [pm_i vs0] (mm x R Z Y o A c G g) Q := by
  refine pW_call (pc' := 1025) (r := []) (L' := [some (pm_r 99 0), some (pm_r 0 0), some (pm_r 20 0), some (pm_r 60 0), some (pm_i v4), some (pm_i v5), some (pm_i vs0)]) 3 (fun call n => ?_) hE k
  exact Eq.trans (b := pm_g (mm x R Z Y o A c G g) 20 0 (pm_cl call 146 (pm_go call ns d 146 n) 1025 46 [pm_r 20 0] [] [some (pm_r 99 0), some (pm_r 0 0), some (pm_r 20 0), some (pm_r 60 0), some (pm_i v4), some (pm_i v5), some (pm_i vs0)] (mm x R Z Y o A c G g))) rfl (g_ok (f := 20) (by decide) rfl)
set_option maxRecDepth 20000 in
theorem b146_1102 (hR : RS R) (hns : ns < 2 ^ 31) {v4 : Int32} {v5 : Int32} {u6 : Option pm_V} {vs0 : Int32}  {x2 : Nat} {o2 : Int64} {A2 : Nat → Nat → Nat → Int32} {c2 : Nat → Int64} {G2 : Nat → Nat → Int32} {g2 : Nat → Int64} {y : Int32} (hE : pE ns d 46 [pm_r 20 0] (mm x R Z Y o A c G g) (.inl (some (pm_i y)), (mm x2 R Z Y o2 A2 c2 G2 g2))) (k : pW ns d 146 1108 [some (pm_r 99 0), some (pm_r 0 0), some (pm_r 20 0), some (pm_r 60 0), some (pm_i v4), some (pm_i v5), some (pm_i vs0)] [pm_i y] (mm x2 R Z Y o2 A2 c2 G2 g2) Q) : pW ns d 146 1102 [some (pm_r 99 0), some (pm_r 0 0), some (pm_r 20 0), some (pm_r 60 0), some (pm_i v4), some (pm_i v5), u6] [pm_i vs0] (mm x R Z Y o A c G g) Q := by
  refine pW_call (pc' := 1105) (r := []) (L' := [some (pm_r 99 0), some (pm_r 0 0), some (pm_r 20 0), some (pm_r 60 0), some (pm_i v4), some (pm_i v5), some (pm_i vs0)]) 3 (fun call n => ?_) hE k
  exact Eq.trans (b := pm_g (mm x R Z Y o A c G g) 20 0 (pm_cl call 146 (pm_go call ns d 146 n) 1105 46 [pm_r 20 0] [] [some (pm_r 99 0), some (pm_r 0 0), some (pm_r 20 0), some (pm_r 60 0), some (pm_i v4), some (pm_i v5), some (pm_i vs0)] (mm x R Z Y o A c G g))) rfl (g_ok (f := 20) (by decide) rfl)
set_option maxRecDepth 20000 in
theorem b146_1170 (hR : RS R) (hns : ns < 2 ^ 31) {v4 : Int32} {v5 : Int32} {u6 : Option pm_V} {vs0 : Int32}  {x2 : Nat} {o2 : Int64} {A2 : Nat → Nat → Nat → Int32} {c2 : Nat → Int64} {G2 : Nat → Nat → Int32} {g2 : Nat → Int64} {y : Int32} (hE : pE ns d 46 [pm_r 20 0] (mm x R Z Y o A c G g) (.inl (some (pm_i y)), (mm x2 R Z Y o2 A2 c2 G2 g2))) (k : pW ns d 146 1176 [some (pm_r 99 0), some (pm_r 0 0), some (pm_r 20 0), some (pm_r 60 0), some (pm_i v4), some (pm_i v5), some (pm_i vs0)] [pm_i y] (mm x2 R Z Y o2 A2 c2 G2 g2) Q) : pW ns d 146 1170 [some (pm_r 99 0), some (pm_r 0 0), some (pm_r 20 0), some (pm_r 60 0), some (pm_i v4), some (pm_i v5), u6] [pm_i vs0] (mm x R Z Y o A c G g) Q := by
  refine pW_call (pc' := 1173) (r := []) (L' := [some (pm_r 99 0), some (pm_r 0 0), some (pm_r 20 0), some (pm_r 60 0), some (pm_i v4), some (pm_i v5), some (pm_i vs0)]) 3 (fun call n => ?_) hE k
  exact Eq.trans (b := pm_g (mm x R Z Y o A c G g) 20 0 (pm_cl call 146 (pm_go call ns d 146 n) 1173 46 [pm_r 20 0] [] [some (pm_r 99 0), some (pm_r 0 0), some (pm_r 20 0), some (pm_r 60 0), some (pm_i v4), some (pm_i v5), some (pm_i vs0)] (mm x R Z Y o A c G g))) rfl (g_ok (f := 20) (by decide) rfl)
set_option maxRecDepth 20000 in
theorem b146_1235 (hR : RS R) (hns : ns < 2 ^ 31) {v4 : Int32} {u5 : Option pm_V} {u6 : Option pm_V} {vs0 : Int32} {vs1 : Int32}   (k1 : vs1 = vs0 → pW ns d 146 1339 [some (pm_r 99 0), some (pm_r 0 0), some (pm_r 20 0), some (pm_r 60 0), some (pm_i v4), u5, u6] [] (mm x R Z Y o A c G g) Q) (k2 : ¬ (vs1 = vs0) → pW ns d 146 1238 [some (pm_r 99 0), some (pm_r 0 0), some (pm_r 20 0), some (pm_r 60 0), some (pm_i v4), u5, u6] [] (mm x R Z Y o A c G g) Q) : pW ns d 146 1235 [some (pm_r 99 0), some (pm_r 0 0), some (pm_r 20 0), some (pm_r 60 0), some (pm_i v4), u5, u6] [pm_i vs0, pm_i vs1] (mm x R Z Y o A c G g) Q := by
  exact pW_if 1 (c := vs1 = vs0) (fun call n => rfl) k1 k2
set_option maxRecDepth 20000 in
theorem b146_1272 (hR : RS R) (hns : ns < 2 ^ 31) {v4 : Int32} {u5 : Option pm_V} {u6 : Option pm_V} {vs0 : Int32} {vs1 : Int32}   (k1 : vs1 = vs0 → pW ns d 146 1339 [some (pm_r 99 0), some (pm_r 0 0), some (pm_r 20 0), some (pm_r 60 0), some (pm_i v4), u5, u6] [] (mm x R Z Y o A c G g) Q) (k2 : ¬ (vs1 = vs0) → pW ns d 146 1275 [some (pm_r 99 0), some (pm_r 0 0), some (pm_r 20 0), some (pm_r 60 0), some (pm_i v4), u5, u6] [] (mm x R Z Y o A c G g) Q) : pW ns d 146 1272 [some (pm_r 99 0), some (pm_r 0 0), some (pm_r 20 0), some (pm_r 60 0), some (pm_i v4), u5, u6] [pm_i vs0, pm_i vs1] (mm x R Z Y o A c G g) Q := by
  exact pW_if 1 (c := vs1 = vs0) (fun call n => rfl) k1 k2
set_option maxRecDepth 20000 in
theorem b146_1309 (hR : RS R) (hns : ns < 2 ^ 31) {v4 : Int32} {u5 : Option pm_V} {u6 : Option pm_V} {vs0 : Int32} {vs1 : Int32}   (k1 : vs1 = vs0 → pW ns d 146 1339 [some (pm_r 99 0), some (pm_r 0 0), some (pm_r 20 0), some (pm_r 60 0), some (pm_i v4), u5, u6] [] (mm x R Z Y o A c G g) Q) (k2 : ¬ (vs1 = vs0) → pW ns d 146 1312 [some (pm_r 99 0), some (pm_r 0 0), some (pm_r 20 0), some (pm_r 60 0), some (pm_i v4), u5, u6] [] (mm x R Z Y o A c G g) Q) : pW ns d 146 1309 [some (pm_r 99 0), some (pm_r 0 0), some (pm_r 20 0), some (pm_r 60 0), some (pm_i v4), u5, u6] [pm_i vs0, pm_i vs1] (mm x R Z Y o A c G g) Q := by
  exact pW_if 1 (c := vs1 = vs0) (fun call n => rfl) k1 k2
set_option maxRecDepth 20000 in
theorem b146_1334 (hR : RS R) (hns : ns < 2 ^ 31) {v4 : Int32} {u5 : Option pm_V} {u6 : Option pm_V} {vs0 : Int32} {vs1 : Int32}   (k1 : vs1 = vs0 → pW ns d 146 1339 [some (pm_r 99 0), some (pm_r 0 0), some (pm_r 20 0), some (pm_r 60 0), some (pm_i v4), u5, u6] [] (mm x R Z Y o A c G g) Q) (k2 : ¬ (vs1 = vs0) → pW ns d 146 1337 [some (pm_r 99 0), some (pm_r 0 0), some (pm_r 20 0), some (pm_r 60 0), some (pm_i v4), u5, u6] [] (mm x R Z Y o A c G g) Q) : pW ns d 146 1334 [some (pm_r 99 0), some (pm_r 0 0), some (pm_r 20 0), some (pm_r 60 0), some (pm_i v4), u5, u6] [pm_i vs0, pm_i vs1] (mm x R Z Y o A c G g) Q := by
  exact pW_if 1 (c := vs1 = vs0) (fun call n => rfl) k1 k2
set_option maxRecDepth 20000 in
theorem b146_184 (hR : RS R) (hns : ns < 2 ^ 31) {v4 : Int32} {v5 : Int32} {v6 : Int32} {vs0 : Int32}   (k1 : vs0 = v5 → pW ns d 146 191 [some (pm_r 99 0), some (pm_r 0 0), some (pm_r 20 0), some (pm_r 60 0), some (pm_i v4), some (pm_i v5), some (pm_i v6)] [] (mm x R Z Y o A c G g) Q) (k2 : ¬ (vs0 = v5) → pW ns d 146 189 [some (pm_r 99 0), some (pm_r 0 0), some (pm_r 20 0), some (pm_r 60 0), some (pm_i v4), some (pm_i v5), some (pm_i v6)] [] (mm x R Z Y o A c G g) Q) : pW ns d 146 184 [some (pm_r 99 0), some (pm_r 0 0), some (pm_r 20 0), some (pm_r 60 0), some (pm_i v4), some (pm_i v5), some (pm_i v6)] [pm_i vs0] (mm x R Z Y o A c G g) Q := by
  exact pW_if 2 (c := vs0 = v5) (fun call n => rfl) k1 k2
set_option maxRecDepth 20000 in
theorem b146_252 (hR : RS R) (hns : ns < 2 ^ 31) {v4 : Int32} {v5 : Int32} {v6 : Int32} {vs0 : Int32}   (k1 : vs0 = v5 → pW ns d 146 259 [some (pm_r 99 0), some (pm_r 0 0), some (pm_r 20 0), some (pm_r 60 0), some (pm_i v4), some (pm_i v5), some (pm_i v6)] [] (mm x R Z Y o A c G g) Q) (k2 : ¬ (vs0 = v5) → pW ns d 146 257 [some (pm_r 99 0), some (pm_r 0 0), some (pm_r 20 0), some (pm_r 60 0), some (pm_i v4), some (pm_i v5), some (pm_i v6)] [] (mm x R Z Y o A c G g) Q) : pW ns d 146 252 [some (pm_r 99 0), some (pm_r 0 0), some (pm_r 20 0), some (pm_r 60 0), some (pm_i v4), some (pm_i v5), some (pm_i v6)] [pm_i vs0] (mm x R Z Y o A c G g) Q := by
  exact pW_if 2 (c := vs0 = v5) (fun call n => rfl) k1 k2
set_option maxRecDepth 20000 in
theorem b146_308 (hR : RS R) (hns : ns < 2 ^ 31) {v4 : Int32} {v5 : Int32} {v6 : Int32} {vs0 : Int32}   (k1 : vs0 = v5 → pW ns d 146 315 [some (pm_r 99 0), some (pm_r 0 0), some (pm_r 20 0), some (pm_r 60 0), some (pm_i v4), some (pm_i v5), some (pm_i v6)] [] (mm x R Z Y o A c G g) Q) (k2 : ¬ (vs0 = v5) → pW ns d 146 313 [some (pm_r 99 0), some (pm_r 0 0), some (pm_r 20 0), some (pm_r 60 0), some (pm_i v4), some (pm_i v5), some (pm_i v6)] [] (mm x R Z Y o A c G g) Q) : pW ns d 146 308 [some (pm_r 99 0), some (pm_r 0 0), some (pm_r 20 0), some (pm_r 60 0), some (pm_i v4), some (pm_i v5), some (pm_i v6)] [pm_i vs0] (mm x R Z Y o A c G g) Q := by
  exact pW_if 2 (c := vs0 = v5) (fun call n => rfl) k1 k2
set_option maxRecDepth 20000 in
theorem b146_388 (hR : RS R) (hns : ns < 2 ^ 31) {v4 : Int32} {v5 : Int32} {v6 : Int32} {vs0 : Int32}   (k1 : vs0 = v5 → pW ns d 146 395 [some (pm_r 99 0), some (pm_r 0 0), some (pm_r 20 0), some (pm_r 60 0), some (pm_i v4), some (pm_i v5), some (pm_i v6)] [] (mm x R Z Y o A c G g) Q) (k2 : ¬ (vs0 = v5) → pW ns d 146 393 [some (pm_r 99 0), some (pm_r 0 0), some (pm_r 20 0), some (pm_r 60 0), some (pm_i v4), some (pm_i v5), some (pm_i v6)] [] (mm x R Z Y o A c G g) Q) : pW ns d 146 388 [some (pm_r 99 0), some (pm_r 0 0), some (pm_r 20 0), some (pm_r 60 0), some (pm_i v4), some (pm_i v5), some (pm_i v6)] [pm_i vs0] (mm x R Z Y o A c G g) Q := by
  exact pW_if 2 (c := vs0 = v5) (fun call n => rfl) k1 k2
set_option maxRecDepth 20000 in
theorem b146_456 (hR : RS R) (hns : ns < 2 ^ 31) {v4 : Int32} {v5 : Int32} {v6 : Int32} {vs0 : Int32}   (k1 : vs0 = v5 → pW ns d 146 463 [some (pm_r 99 0), some (pm_r 0 0), some (pm_r 20 0), some (pm_r 60 0), some (pm_i v4), some (pm_i v5), some (pm_i v6)] [] (mm x R Z Y o A c G g) Q) (k2 : ¬ (vs0 = v5) → pW ns d 146 461 [some (pm_r 99 0), some (pm_r 0 0), some (pm_r 20 0), some (pm_r 60 0), some (pm_i v4), some (pm_i v5), some (pm_i v6)] [] (mm x R Z Y o A c G g) Q) : pW ns d 146 456 [some (pm_r 99 0), some (pm_r 0 0), some (pm_r 20 0), some (pm_r 60 0), some (pm_i v4), some (pm_i v5), some (pm_i v6)] [pm_i vs0] (mm x R Z Y o A c G g) Q := by
  exact pW_if 2 (c := vs0 = v5) (fun call n => rfl) k1 k2
set_option maxRecDepth 20000 in
theorem b146_536 (hR : RS R) (hns : ns < 2 ^ 31) {v4 : Int32} {v5 : Int32} {v6 : Int32} {vs0 : Int32}   (k1 : vs0 = v5 → pW ns d 146 543 [some (pm_r 99 0), some (pm_r 0 0), some (pm_r 20 0), some (pm_r 60 0), some (pm_i v4), some (pm_i v5), some (pm_i v6)] [] (mm x R Z Y o A c G g) Q) (k2 : ¬ (vs0 = v5) → pW ns d 146 541 [some (pm_r 99 0), some (pm_r 0 0), some (pm_r 20 0), some (pm_r 60 0), some (pm_i v4), some (pm_i v5), some (pm_i v6)] [] (mm x R Z Y o A c G g) Q) : pW ns d 146 536 [some (pm_r 99 0), some (pm_r 0 0), some (pm_r 20 0), some (pm_r 60 0), some (pm_i v4), some (pm_i v5), some (pm_i v6)] [pm_i vs0] (mm x R Z Y o A c G g) Q := by
  exact pW_if 2 (c := vs0 = v5) (fun call n => rfl) k1 k2
set_option maxRecDepth 20000 in
theorem b146_660 (hR : RS R) (hns : ns < 2 ^ 31) {v4 : Int32} {v5 : Int32} {v6 : Int32} {vs0 : Int32}   (k1 : vs0 = v5 → pW ns d 146 667 [some (pm_r 99 0), some (pm_r 0 0), some (pm_r 20 0), some (pm_r 60 0), some (pm_i v4), some (pm_i v5), some (pm_i v6)] [] (mm x R Z Y o A c G g) Q) (k2 : ¬ (vs0 = v5) → pW ns d 146 665 [some (pm_r 99 0), some (pm_r 0 0), some (pm_r 20 0), some (pm_r 60 0), some (pm_i v4), some (pm_i v5), some (pm_i v6)] [] (mm x R Z Y o A c G g) Q) : pW ns d 146 660 [some (pm_r 99 0), some (pm_r 0 0), some (pm_r 20 0), some (pm_r 60 0), some (pm_i v4), some (pm_i v5), some (pm_i v6)] [pm_i vs0] (mm x R Z Y o A c G g) Q := by
  exact pW_if 2 (c := vs0 = v5) (fun call n => rfl) k1 k2
set_option maxRecDepth 20000 in
theorem b146_734 (hR : RS R) (hns : ns < 2 ^ 31) {v4 : Int32} {v5 : Int32} {u6 : Option pm_V} {vs0 : Int32}  {x2 : Nat} {o2 : Int64} {A2 : Nat → Nat → Nat → Int32} {c2 : Nat → Int64} {G2 : Nat → Nat → Int32} {g2 : Nat → Int64} {y : Int32} (hE : pE ns d 90 [pm_r 20 0, pm_i vs0, pm_i (nI 0)] (mm x R Z Y o A c G g) (.inl (some (pm_i y)), (mm x2 R Z Y o2 A2 c2 G2 g2))) (k : pW ns d 146 738 [some (pm_r 99 0), some (pm_r 0 0), some (pm_r 20 0), some (pm_r 60 0), some (pm_i v4), some (pm_i v5), u6] [pm_i y] (mm x2 R Z Y o2 A2 c2 G2 g2) Q) : pW ns d 146 734 [some (pm_r 99 0), some (pm_r 0 0), some (pm_r 20 0), some (pm_r 60 0), some (pm_i v4), some (pm_i v5), u6] [pm_i vs0, pm_r 20 0] (mm x R Z Y o A c G g) Q := by
  refine pW_call (pc' := 735) (r := []) (L' := [some (pm_r 99 0), some (pm_r 0 0), some (pm_r 20 0), some (pm_r 60 0), some (pm_i v4), some (pm_i v5), u6]) 2 (fun call n => ?_) hE k
  exact Eq.trans (b := pm_g (mm x R Z Y o A c G g) 20 0 (pm_cl call 146 (pm_go call ns d 146 n) 735 90 [pm_r 20 0, pm_i vs0, pm_i (nI 0)] [] [some (pm_r 99 0), some (pm_r 0 0), some (pm_r 20 0), some (pm_r 60 0), some (pm_i v4), some (pm_i v5), u6] (mm x R Z Y o A c G g))) rfl (g_ok (f := 20) (by decide) rfl)
set_option maxRecDepth 20000 in
theorem b146_730 (hR : RS R) (hns : ns < 2 ^ 31) {v4 : Int32} {v5 : Int32} {u6 : Option pm_V} {vs0 : Int32}  {x2 : Nat} {o2 : Int64} {A2 : Nat → Nat → Nat → Int32} {c2 : Nat → Int64} {G2 : Nat → Nat → Int32} {g2 : Nat → Int64} {y : Int32} (hE : pE ns d 90 [pm_r 20 0, pm_i vs0, pm_i (nI 1)] (mm x R Z Y o A c G g) (.inl (some (pm_i y)), (mm x2 R Z Y o2 A2 c2 G2 g2))) (k : pW ns d 146 738 [some (pm_r 99 0), some (pm_r 0 0), some (pm_r 20 0), some (pm_r 60 0), some (pm_i v4), some (pm_i v5), u6] [pm_i y] (mm x2 R Z Y o2 A2 c2 G2 g2) Q) : pW ns d 146 730 [some (pm_r 99 0), some (pm_r 0 0), some (pm_r 20 0), some (pm_r 60 0), some (pm_i v4), some (pm_i v5), u6] [pm_i vs0, pm_r 20 0] (mm x R Z Y o A c G g) Q := by
  refine pW_call (pc' := 735) (r := []) (L' := [some (pm_r 99 0), some (pm_r 0 0), some (pm_r 20 0), some (pm_r 60 0), some (pm_i v4), some (pm_i v5), u6]) 3 (fun call n => ?_) hE k
  exact Eq.trans (b := pm_g (mm x R Z Y o A c G g) 20 0 (pm_cl call 146 (pm_go call ns d 146 n) 735 90 [pm_r 20 0, pm_i vs0, pm_i (nI 1)] [] [some (pm_r 99 0), some (pm_r 0 0), some (pm_r 20 0), some (pm_r 60 0), some (pm_i v4), some (pm_i v5), u6] (mm x R Z Y o A c G g))) rfl (g_ok (f := 20) (by decide) rfl)
set_option maxRecDepth 20000 in
theorem b146_800 (hR : RS R) (hns : ns < 2 ^ 31) {v4 : Int32} {v5 : Int32} {v6 : Int32} {vs0 : Int32}   (k1 : vs0 = v5 → pW ns d 146 807 [some (pm_r 99 0), some (pm_r 0 0), some (pm_r 20 0), some (pm_r 60 0), some (pm_i v4), some (pm_i v5), some (pm_i v6)] [] (mm x R Z Y o A c G g) Q) (k2 : ¬ (vs0 = v5) → pW ns d 146 805 [some (pm_r 99 0), some (pm_r 0 0), some (pm_r 20 0), some (pm_r 60 0), some (pm_i v4), some (pm_i v5), some (pm_i v6)] [] (mm x R Z Y o A c G g) Q) : pW ns d 146 800 [some (pm_r 99 0), some (pm_r 0 0), some (pm_r 20 0), some (pm_r 60 0), some (pm_i v4), some (pm_i v5), some (pm_i v6)] [pm_i vs0] (mm x R Z Y o A c G g) Q := by
  exact pW_if 2 (c := vs0 = v5) (fun call n => rfl) k1 k2
set_option maxRecDepth 20000 in
theorem b146_880 (hR : RS R) (hns : ns < 2 ^ 31) {v4 : Int32} {v5 : Int32} {v6 : Int32} {vs0 : Int32}   (k1 : vs0 = v5 → pW ns d 146 887 [some (pm_r 99 0), some (pm_r 0 0), some (pm_r 20 0), some (pm_r 60 0), some (pm_i v4), some (pm_i v5), some (pm_i v6)] [] (mm x R Z Y o A c G g) Q) (k2 : ¬ (vs0 = v5) → pW ns d 146 885 [some (pm_r 99 0), some (pm_r 0 0), some (pm_r 20 0), some (pm_r 60 0), some (pm_i v4), some (pm_i v5), some (pm_i v6)] [] (mm x R Z Y o A c G g) Q) : pW ns d 146 880 [some (pm_r 99 0), some (pm_r 0 0), some (pm_r 20 0), some (pm_r 60 0), some (pm_i v4), some (pm_i v5), some (pm_i v6)] [pm_i vs0] (mm x R Z Y o A c G g) Q := by
  exact pW_if 2 (c := vs0 = v5) (fun call n => rfl) k1 k2
set_option maxRecDepth 20000 in
theorem b146_960 (hR : RS R) (hns : ns < 2 ^ 31) {v4 : Int32} {v5 : Int32} {v6 : Int32} {vs0 : Int32}   (k1 : vs0 = v5 → pW ns d 146 967 [some (pm_r 99 0), some (pm_r 0 0), some (pm_r 20 0), some (pm_r 60 0), some (pm_i v4), some (pm_i v5), some (pm_i v6)] [] (mm x R Z Y o A c G g) Q) (k2 : ¬ (vs0 = v5) → pW ns d 146 965 [some (pm_r 99 0), some (pm_r 0 0), some (pm_r 20 0), some (pm_r 60 0), some (pm_i v4), some (pm_i v5), some (pm_i v6)] [] (mm x R Z Y o A c G g) Q) : pW ns d 146 960 [some (pm_r 99 0), some (pm_r 0 0), some (pm_r 20 0), some (pm_r 60 0), some (pm_i v4), some (pm_i v5), some (pm_i v6)] [pm_i vs0] (mm x R Z Y o A c G g) Q := by
  exact pW_if 2 (c := vs0 = v5) (fun call n => rfl) k1 k2
set_option maxRecDepth 20000 in
theorem b146_1028 (hR : RS R) (hns : ns < 2 ^ 31) {v4 : Int32} {v5 : Int32} {v6 : Int32} {vs0 : Int32}   (k1 : vs0 = v5 → pW ns d 146 1035 [some (pm_r 99 0), some (pm_r 0 0), some (pm_r 20 0), some (pm_r 60 0), some (pm_i v4), some (pm_i v5), some (pm_i v6)] [] (mm x R Z Y o A c G g) Q) (k2 : ¬ (vs0 = v5) → pW ns d 146 1033 [some (pm_r 99 0), some (pm_r 0 0), some (pm_r 20 0), some (pm_r 60 0), some (pm_i v4), some (pm_i v5), some (pm_i v6)] [] (mm x R Z Y o A c G g) Q) : pW ns d 146 1028 [some (pm_r 99 0), some (pm_r 0 0), some (pm_r 20 0), some (pm_r 60 0), some (pm_i v4), some (pm_i v5), some (pm_i v6)] [pm_i vs0] (mm x R Z Y o A c G g) Q := by
  exact pW_if 2 (c := vs0 = v5) (fun call n => rfl) k1 k2
set_option maxRecDepth 20000 in
theorem b146_1108 (hR : RS R) (hns : ns < 2 ^ 31) {v4 : Int32} {v5 : Int32} {v6 : Int32} {vs0 : Int32}   (k1 : vs0 = v5 → pW ns d 146 1115 [some (pm_r 99 0), some (pm_r 0 0), some (pm_r 20 0), some (pm_r 60 0), some (pm_i v4), some (pm_i v5), some (pm_i v6)] [] (mm x R Z Y o A c G g) Q) (k2 : ¬ (vs0 = v5) → pW ns d 146 1113 [some (pm_r 99 0), some (pm_r 0 0), some (pm_r 20 0), some (pm_r 60 0), some (pm_i v4), some (pm_i v5), some (pm_i v6)] [] (mm x R Z Y o A c G g) Q) : pW ns d 146 1108 [some (pm_r 99 0), some (pm_r 0 0), some (pm_r 20 0), some (pm_r 60 0), some (pm_i v4), some (pm_i v5), some (pm_i v6)] [pm_i vs0] (mm x R Z Y o A c G g) Q := by
  exact pW_if 2 (c := vs0 = v5) (fun call n => rfl) k1 k2
set_option maxRecDepth 20000 in
theorem b146_1176 (hR : RS R) (hns : ns < 2 ^ 31) {v4 : Int32} {v5 : Int32} {v6 : Int32} {vs0 : Int32}   (k1 : vs0 = v5 → pW ns d 146 1183 [some (pm_r 99 0), some (pm_r 0 0), some (pm_r 20 0), some (pm_r 60 0), some (pm_i v4), some (pm_i v5), some (pm_i v6)] [] (mm x R Z Y o A c G g) Q) (k2 : ¬ (vs0 = v5) → pW ns d 146 1181 [some (pm_r 99 0), some (pm_r 0 0), some (pm_r 20 0), some (pm_r 60 0), some (pm_i v4), some (pm_i v5), some (pm_i v6)] [] (mm x R Z Y o A c G g) Q) : pW ns d 146 1176 [some (pm_r 99 0), some (pm_r 0 0), some (pm_r 20 0), some (pm_r 60 0), some (pm_i v4), some (pm_i v5), some (pm_i v6)] [pm_i vs0] (mm x R Z Y o A c G g) Q := by
  exact pW_if 2 (c := vs0 = v5) (fun call n => rfl) k1 k2
set_option maxRecDepth 20000 in
theorem b146_1238 (hR : RS R) (hns : ns < 2 ^ 31) {u0 : Option pm_V} {u1 : Option pm_V} {u2 : Option pm_V} {u3 : Option pm_V} {u4 : Option pm_V} {u5 : Option pm_V} {u6 : Option pm_V}   (k : Q (.inl (some (pm_i (nI 0))), (mm x R Z Y o A c G g))) : pW ns d 146 1238 [u0, u1, u2, u3, u4, u5, u6] [] (mm x R Z Y o A c G g) Q := by
  refine pW_ret 2 (fun call n => ?_) k
  exact Eq.trans (b := pm_bo (nI 0) (some (.inl (some (pm_i (nI 0))), (mm x R Z Y o A c G g)))) rfl (bo_ok (by decide))
set_option maxRecDepth 20000 in
theorem b146_1275 (hR : RS R) (hns : ns < 2 ^ 31) {u0 : Option pm_V} {u1 : Option pm_V} {u2 : Option pm_V} {u3 : Option pm_V} {u4 : Option pm_V} {u5 : Option pm_V} {u6 : Option pm_V}   (k : Q (.inl (some (pm_i (nI 0))), (mm x R Z Y o A c G g))) : pW ns d 146 1275 [u0, u1, u2, u3, u4, u5, u6] [] (mm x R Z Y o A c G g) Q := by
  refine pW_ret 2 (fun call n => ?_) k
  exact Eq.trans (b := pm_bo (nI 0) (some (.inl (some (pm_i (nI 0))), (mm x R Z Y o A c G g)))) rfl (bo_ok (by decide))
set_option maxRecDepth 20000 in
theorem b146_1312 (hR : RS R) (hns : ns < 2 ^ 31) {u0 : Option pm_V} {u1 : Option pm_V} {u2 : Option pm_V} {u3 : Option pm_V} {u4 : Option pm_V} {u5 : Option pm_V} {u6 : Option pm_V}   (k : Q (.inl (some (pm_i (nI 0))), (mm x R Z Y o A c G g))) : pW ns d 146 1312 [u0, u1, u2, u3, u4, u5, u6] [] (mm x R Z Y o A c G g) Q := by
  refine pW_ret 2 (fun call n => ?_) k
  exact Eq.trans (b := pm_bo (nI 0) (some (.inl (some (pm_i (nI 0))), (mm x R Z Y o A c G g)))) rfl (bo_ok (by decide))
set_option maxRecDepth 20000 in
theorem b146_1337 (hR : RS R) (hns : ns < 2 ^ 31) {u0 : Option pm_V} {u1 : Option pm_V} {u2 : Option pm_V} {u3 : Option pm_V} {u4 : Option pm_V} {u5 : Option pm_V} {u6 : Option pm_V}   (k : Q (.inl (some (pm_i (nI 0))), (mm x R Z Y o A c G g))) : pW ns d 146 1337 [u0, u1, u2, u3, u4, u5, u6] [] (mm x R Z Y o A c G g) Q := by
  refine pW_ret 2 (fun call n => ?_) k
  exact Eq.trans (b := pm_bo (nI 0) (some (.inl (some (pm_i (nI 0))), (mm x R Z Y o A c G g)))) rfl (bo_ok (by decide))
set_option maxRecDepth 20000 in
theorem b146_191 (hR : RS R) (hns : ns < 2 ^ 31) {v4 : Int32} {v5 : Int32} {v6 : Int32}   (k1 : v5 = 0 → pW ns d 146 196 [some (pm_r 99 0), some (pm_r 0 0), some (pm_r 20 0), some (pm_r 60 0), some (pm_i v4), some (pm_i v5), some (pm_i v6)] [] (mm x R Z Y o A c G g) Q) (k2 : ¬ (v5 = 0) → pW ns d 146 208 [some (pm_r 99 0), some (pm_r 0 0), some (pm_r 20 0), some (pm_r 60 0), some (pm_i v4), some (pm_i v5), some (pm_i v6)] [] (mm x R Z Y o A c G g) Q) : pW ns d 146 191 [some (pm_r 99 0), some (pm_r 0 0), some (pm_r 20 0), some (pm_r 60 0), some (pm_i v4), some (pm_i v5), some (pm_i v6)] [] (mm x R Z Y o A c G g) Q := by
  exact pW_if 2 (c := v5 = 0) (fun call n => rfl) k1 k2
set_option maxRecDepth 20000 in
theorem b146_189 (hR : RS R) (hns : ns < 2 ^ 31) {u0 : Option pm_V} {u1 : Option pm_V} {u2 : Option pm_V} {u3 : Option pm_V} {u4 : Option pm_V} {u5 : Option pm_V} {u6 : Option pm_V}   (k : Q (.inl (some (pm_i (nI 0))), (mm x R Z Y o A c G g))) : pW ns d 146 189 [u0, u1, u2, u3, u4, u5, u6] [] (mm x R Z Y o A c G g) Q := by
  refine pW_ret 2 (fun call n => ?_) k
  exact Eq.trans (b := pm_bo (nI 0) (some (.inl (some (pm_i (nI 0))), (mm x R Z Y o A c G g)))) rfl (bo_ok (by decide))
set_option maxRecDepth 20000 in
theorem b146_259 (hR : RS R) (hns : ns < 2 ^ 31) {v4 : Int32} {v5 : Int32} {v6 : Int32}   (k1 : v5 = 0 → pW ns d 146 264 [some (pm_r 99 0), some (pm_r 0 0), some (pm_r 20 0), some (pm_r 60 0), some (pm_i v4), some (pm_i v5), some (pm_i v6)] [] (mm x R Z Y o A c G g) Q) (k2 : ¬ (v5 = 0) → pW ns d 146 276 [some (pm_r 99 0), some (pm_r 0 0), some (pm_r 20 0), some (pm_r 60 0), some (pm_i v4), some (pm_i v5), some (pm_i v6)] [] (mm x R Z Y o A c G g) Q) : pW ns d 146 259 [some (pm_r 99 0), some (pm_r 0 0), some (pm_r 20 0), some (pm_r 60 0), some (pm_i v4), some (pm_i v5), some (pm_i v6)] [] (mm x R Z Y o A c G g) Q := by
  exact pW_if 2 (c := v5 = 0) (fun call n => rfl) k1 k2
set_option maxRecDepth 20000 in
theorem b146_257 (hR : RS R) (hns : ns < 2 ^ 31) {u0 : Option pm_V} {u1 : Option pm_V} {u2 : Option pm_V} {u3 : Option pm_V} {u4 : Option pm_V} {u5 : Option pm_V} {u6 : Option pm_V}   (k : Q (.inl (some (pm_i (nI 0))), (mm x R Z Y o A c G g))) : pW ns d 146 257 [u0, u1, u2, u3, u4, u5, u6] [] (mm x R Z Y o A c G g) Q := by
  refine pW_ret 2 (fun call n => ?_) k
  exact Eq.trans (b := pm_bo (nI 0) (some (.inl (some (pm_i (nI 0))), (mm x R Z Y o A c G g)))) rfl (bo_ok (by decide))
set_option maxRecDepth 20000 in
theorem b146_315 (hR : RS R) (hns : ns < 2 ^ 31) {v4 : Int32} {v5 : Int32} {v6 : Int32}   (k1 : v5 = 0 → pW ns d 146 320 [some (pm_r 99 0), some (pm_r 0 0), some (pm_r 20 0), some (pm_r 60 0), some (pm_i v4), some (pm_i v5), some (pm_i v6)] [] (mm x R Z Y o A c G g) Q) (k2 : ¬ (v5 = 0) → pW ns d 146 332 [some (pm_r 99 0), some (pm_r 0 0), some (pm_r 20 0), some (pm_r 60 0), some (pm_i v4), some (pm_i v5), some (pm_i v6)] [] (mm x R Z Y o A c G g) Q) : pW ns d 146 315 [some (pm_r 99 0), some (pm_r 0 0), some (pm_r 20 0), some (pm_r 60 0), some (pm_i v4), some (pm_i v5), some (pm_i v6)] [] (mm x R Z Y o A c G g) Q := by
  exact pW_if 2 (c := v5 = 0) (fun call n => rfl) k1 k2
set_option maxRecDepth 20000 in
theorem b146_313 (hR : RS R) (hns : ns < 2 ^ 31) {u0 : Option pm_V} {u1 : Option pm_V} {u2 : Option pm_V} {u3 : Option pm_V} {u4 : Option pm_V} {u5 : Option pm_V} {u6 : Option pm_V}   (k : Q (.inl (some (pm_i (nI 0))), (mm x R Z Y o A c G g))) : pW ns d 146 313 [u0, u1, u2, u3, u4, u5, u6] [] (mm x R Z Y o A c G g) Q := by
  refine pW_ret 2 (fun call n => ?_) k
  exact Eq.trans (b := pm_bo (nI 0) (some (.inl (some (pm_i (nI 0))), (mm x R Z Y o A c G g)))) rfl (bo_ok (by decide))
set_option maxRecDepth 20000 in
theorem b146_395 (hR : RS R) (hns : ns < 2 ^ 31) {v4 : Int32} {v5 : Int32} {v6 : Int32}   (k1 : v5 = 0 → pW ns d 146 400 [some (pm_r 99 0), some (pm_r 0 0), some (pm_r 20 0), some (pm_r 60 0), some (pm_i v4), some (pm_i v5), some (pm_i v6)] [] (mm x R Z Y o A c G g) Q) (k2 : ¬ (v5 = 0) → pW ns d 146 412 [some (pm_r 99 0), some (pm_r 0 0), some (pm_r 20 0), some (pm_r 60 0), some (pm_i v4), some (pm_i v5), some (pm_i v6)] [] (mm x R Z Y o A c G g) Q) : pW ns d 146 395 [some (pm_r 99 0), some (pm_r 0 0), some (pm_r 20 0), some (pm_r 60 0), some (pm_i v4), some (pm_i v5), some (pm_i v6)] [] (mm x R Z Y o A c G g) Q := by
  exact pW_if 2 (c := v5 = 0) (fun call n => rfl) k1 k2
set_option maxRecDepth 20000 in
theorem b146_393 (hR : RS R) (hns : ns < 2 ^ 31) {u0 : Option pm_V} {u1 : Option pm_V} {u2 : Option pm_V} {u3 : Option pm_V} {u4 : Option pm_V} {u5 : Option pm_V} {u6 : Option pm_V}   (k : Q (.inl (some (pm_i (nI 0))), (mm x R Z Y o A c G g))) : pW ns d 146 393 [u0, u1, u2, u3, u4, u5, u6] [] (mm x R Z Y o A c G g) Q := by
  refine pW_ret 2 (fun call n => ?_) k
  exact Eq.trans (b := pm_bo (nI 0) (some (.inl (some (pm_i (nI 0))), (mm x R Z Y o A c G g)))) rfl (bo_ok (by decide))
set_option maxRecDepth 20000 in
theorem b146_463 (hR : RS R) (hns : ns < 2 ^ 31) {v4 : Int32} {v5 : Int32} {v6 : Int32}   (k1 : v5 = 0 → pW ns d 146 468 [some (pm_r 99 0), some (pm_r 0 0), some (pm_r 20 0), some (pm_r 60 0), some (pm_i v4), some (pm_i v5), some (pm_i v6)] [] (mm x R Z Y o A c G g) Q) (k2 : ¬ (v5 = 0) → pW ns d 146 480 [some (pm_r 99 0), some (pm_r 0 0), some (pm_r 20 0), some (pm_r 60 0), some (pm_i v4), some (pm_i v5), some (pm_i v6)] [] (mm x R Z Y o A c G g) Q) : pW ns d 146 463 [some (pm_r 99 0), some (pm_r 0 0), some (pm_r 20 0), some (pm_r 60 0), some (pm_i v4), some (pm_i v5), some (pm_i v6)] [] (mm x R Z Y o A c G g) Q := by
  exact pW_if 2 (c := v5 = 0) (fun call n => rfl) k1 k2
set_option maxRecDepth 20000 in
theorem b146_461 (hR : RS R) (hns : ns < 2 ^ 31) {u0 : Option pm_V} {u1 : Option pm_V} {u2 : Option pm_V} {u3 : Option pm_V} {u4 : Option pm_V} {u5 : Option pm_V} {u6 : Option pm_V}   (k : Q (.inl (some (pm_i (nI 0))), (mm x R Z Y o A c G g))) : pW ns d 146 461 [u0, u1, u2, u3, u4, u5, u6] [] (mm x R Z Y o A c G g) Q := by
  refine pW_ret 2 (fun call n => ?_) k
  exact Eq.trans (b := pm_bo (nI 0) (some (.inl (some (pm_i (nI 0))), (mm x R Z Y o A c G g)))) rfl (bo_ok (by decide))
set_option maxRecDepth 20000 in
theorem b146_543 (hR : RS R) (hns : ns < 2 ^ 31) {v4 : Int32} {v5 : Int32} {v6 : Int32}   (k1 : v5 = 0 → pW ns d 146 548 [some (pm_r 99 0), some (pm_r 0 0), some (pm_r 20 0), some (pm_r 60 0), some (pm_i v4), some (pm_i v5), some (pm_i v6)] [] (mm x R Z Y o A c G g) Q) (k2 : ¬ (v5 = 0) → pW ns d 146 560 [some (pm_r 99 0), some (pm_r 0 0), some (pm_r 20 0), some (pm_r 60 0), some (pm_i v4), some (pm_i v5), some (pm_i v6)] [] (mm x R Z Y o A c G g) Q) : pW ns d 146 543 [some (pm_r 99 0), some (pm_r 0 0), some (pm_r 20 0), some (pm_r 60 0), some (pm_i v4), some (pm_i v5), some (pm_i v6)] [] (mm x R Z Y o A c G g) Q := by
  exact pW_if 2 (c := v5 = 0) (fun call n => rfl) k1 k2
set_option maxRecDepth 20000 in
theorem b146_541 (hR : RS R) (hns : ns < 2 ^ 31) {u0 : Option pm_V} {u1 : Option pm_V} {u2 : Option pm_V} {u3 : Option pm_V} {u4 : Option pm_V} {u5 : Option pm_V} {u6 : Option pm_V}   (k : Q (.inl (some (pm_i (nI 0))), (mm x R Z Y o A c G g))) : pW ns d 146 541 [u0, u1, u2, u3, u4, u5, u6] [] (mm x R Z Y o A c G g) Q := by
  refine pW_ret 2 (fun call n => ?_) k
  exact Eq.trans (b := pm_bo (nI 0) (some (.inl (some (pm_i (nI 0))), (mm x R Z Y o A c G g)))) rfl (bo_ok (by decide))
set_option maxRecDepth 20000 in
theorem b146_667 (hR : RS R) (hns : ns < 2 ^ 31) {v4 : Int32} {v5 : Int32} {v6 : Int32}   (k1 : v5 = 0 → pW ns d 146 672 [some (pm_r 99 0), some (pm_r 0 0), some (pm_r 20 0), some (pm_r 60 0), some (pm_i v4), some (pm_i v5), some (pm_i v6)] [] (mm x R Z Y o A c G g) Q) (k2 : ¬ (v5 = 0) → pW ns d 146 684 [some (pm_r 99 0), some (pm_r 0 0), some (pm_r 20 0), some (pm_r 60 0), some (pm_i v4), some (pm_i v5), some (pm_i v6)] [] (mm x R Z Y o A c G g) Q) : pW ns d 146 667 [some (pm_r 99 0), some (pm_r 0 0), some (pm_r 20 0), some (pm_r 60 0), some (pm_i v4), some (pm_i v5), some (pm_i v6)] [] (mm x R Z Y o A c G g) Q := by
  exact pW_if 2 (c := v5 = 0) (fun call n => rfl) k1 k2
set_option maxRecDepth 20000 in
theorem b146_665 (hR : RS R) (hns : ns < 2 ^ 31) {u0 : Option pm_V} {u1 : Option pm_V} {u2 : Option pm_V} {u3 : Option pm_V} {u4 : Option pm_V} {u5 : Option pm_V} {u6 : Option pm_V}   (k : Q (.inl (some (pm_i (nI 0))), (mm x R Z Y o A c G g))) : pW ns d 146 665 [u0, u1, u2, u3, u4, u5, u6] [] (mm x R Z Y o A c G g) Q := by
  refine pW_ret 2 (fun call n => ?_) k
  exact Eq.trans (b := pm_bo (nI 0) (some (.inl (some (pm_i (nI 0))), (mm x R Z Y o A c G g)))) rfl (bo_ok (by decide))
set_option maxRecDepth 20000 in
theorem b146_738 (hR : RS R) (hns : ns < 2 ^ 31) {v4 : Int32} {v5 : Int32} {u6 : Option pm_V} {vs0 : Int32}  {x2 : Nat} {o2 : Int64} {A2 : Nat → Nat → Nat → Int32} {c2 : Nat → Int64} {G2 : Nat → Nat → Int32} {g2 : Nat → Int64} {y : Int32} (hE : pE ns d 46 [pm_r 20 0] (mm x R Z Y o A c G g) (.inl (some (pm_i y)), (mm x2 R Z Y o2 A2 c2 G2 g2))) (k : pW ns d 146 744 [some (pm_r 99 0), some (pm_r 0 0), some (pm_r 20 0), some (pm_r 60 0), some (pm_i v4), some (pm_i v5), some (pm_i vs0)] [pm_i y] (mm x2 R Z Y o2 A2 c2 G2 g2) Q) : pW ns d 146 738 [some (pm_r 99 0), some (pm_r 0 0), some (pm_r 20 0), some (pm_r 60 0), some (pm_i v4), some (pm_i v5), u6] [pm_i vs0] (mm x R Z Y o A c G g) Q := by
  refine pW_call (pc' := 741) (r := []) (L' := [some (pm_r 99 0), some (pm_r 0 0), some (pm_r 20 0), some (pm_r 60 0), some (pm_i v4), some (pm_i v5), some (pm_i vs0)]) 3 (fun call n => ?_) hE k
  exact Eq.trans (b := pm_g (mm x R Z Y o A c G g) 20 0 (pm_cl call 146 (pm_go call ns d 146 n) 741 46 [pm_r 20 0] [] [some (pm_r 99 0), some (pm_r 0 0), some (pm_r 20 0), some (pm_r 60 0), some (pm_i v4), some (pm_i v5), some (pm_i vs0)] (mm x R Z Y o A c G g))) rfl (g_ok (f := 20) (by decide) rfl)
set_option maxRecDepth 20000 in
theorem b146_807 (hR : RS R) (hns : ns < 2 ^ 31) {v4 : Int32} {v5 : Int32} {v6 : Int32}   (k1 : v5 = 0 → pW ns d 146 812 [some (pm_r 99 0), some (pm_r 0 0), some (pm_r 20 0), some (pm_r 60 0), some (pm_i v4), some (pm_i v5), some (pm_i v6)] [] (mm x R Z Y o A c G g) Q) (k2 : ¬ (v5 = 0) → pW ns d 146 824 [some (pm_r 99 0), some (pm_r 0 0), some (pm_r 20 0), some (pm_r 60 0), some (pm_i v4), some (pm_i v5), some (pm_i v6)] [] (mm x R Z Y o A c G g) Q) : pW ns d 146 807 [some (pm_r 99 0), some (pm_r 0 0), some (pm_r 20 0), some (pm_r 60 0), some (pm_i v4), some (pm_i v5), some (pm_i v6)] [] (mm x R Z Y o A c G g) Q := by
  exact pW_if 2 (c := v5 = 0) (fun call n => rfl) k1 k2
set_option maxRecDepth 20000 in
theorem b146_805 (hR : RS R) (hns : ns < 2 ^ 31) {u0 : Option pm_V} {u1 : Option pm_V} {u2 : Option pm_V} {u3 : Option pm_V} {u4 : Option pm_V} {u5 : Option pm_V} {u6 : Option pm_V}   (k : Q (.inl (some (pm_i (nI 0))), (mm x R Z Y o A c G g))) : pW ns d 146 805 [u0, u1, u2, u3, u4, u5, u6] [] (mm x R Z Y o A c G g) Q := by
  refine pW_ret 2 (fun call n => ?_) k
  exact Eq.trans (b := pm_bo (nI 0) (some (.inl (some (pm_i (nI 0))), (mm x R Z Y o A c G g)))) rfl (bo_ok (by decide))
set_option maxRecDepth 20000 in
theorem b146_887 (hR : RS R) (hns : ns < 2 ^ 31) {v4 : Int32} {v5 : Int32} {v6 : Int32}   (k1 : v5 = 0 → pW ns d 146 892 [some (pm_r 99 0), some (pm_r 0 0), some (pm_r 20 0), some (pm_r 60 0), some (pm_i v4), some (pm_i v5), some (pm_i v6)] [] (mm x R Z Y o A c G g) Q) (k2 : ¬ (v5 = 0) → pW ns d 146 904 [some (pm_r 99 0), some (pm_r 0 0), some (pm_r 20 0), some (pm_r 60 0), some (pm_i v4), some (pm_i v5), some (pm_i v6)] [] (mm x R Z Y o A c G g) Q) : pW ns d 146 887 [some (pm_r 99 0), some (pm_r 0 0), some (pm_r 20 0), some (pm_r 60 0), some (pm_i v4), some (pm_i v5), some (pm_i v6)] [] (mm x R Z Y o A c G g) Q := by
  exact pW_if 2 (c := v5 = 0) (fun call n => rfl) k1 k2
set_option maxRecDepth 20000 in
theorem b146_885 (hR : RS R) (hns : ns < 2 ^ 31) {u0 : Option pm_V} {u1 : Option pm_V} {u2 : Option pm_V} {u3 : Option pm_V} {u4 : Option pm_V} {u5 : Option pm_V} {u6 : Option pm_V}   (k : Q (.inl (some (pm_i (nI 0))), (mm x R Z Y o A c G g))) : pW ns d 146 885 [u0, u1, u2, u3, u4, u5, u6] [] (mm x R Z Y o A c G g) Q := by
  refine pW_ret 2 (fun call n => ?_) k
  exact Eq.trans (b := pm_bo (nI 0) (some (.inl (some (pm_i (nI 0))), (mm x R Z Y o A c G g)))) rfl (bo_ok (by decide))
set_option maxRecDepth 20000 in
theorem b146_967 (hR : RS R) (hns : ns < 2 ^ 31) {v4 : Int32} {v5 : Int32} {v6 : Int32}   (k1 : v5 = 0 → pW ns d 146 972 [some (pm_r 99 0), some (pm_r 0 0), some (pm_r 20 0), some (pm_r 60 0), some (pm_i v4), some (pm_i v5), some (pm_i v6)] [] (mm x R Z Y o A c G g) Q) (k2 : ¬ (v5 = 0) → pW ns d 146 984 [some (pm_r 99 0), some (pm_r 0 0), some (pm_r 20 0), some (pm_r 60 0), some (pm_i v4), some (pm_i v5), some (pm_i v6)] [] (mm x R Z Y o A c G g) Q) : pW ns d 146 967 [some (pm_r 99 0), some (pm_r 0 0), some (pm_r 20 0), some (pm_r 60 0), some (pm_i v4), some (pm_i v5), some (pm_i v6)] [] (mm x R Z Y o A c G g) Q := by
  exact pW_if 2 (c := v5 = 0) (fun call n => rfl) k1 k2
set_option maxRecDepth 20000 in
theorem b146_965 (hR : RS R) (hns : ns < 2 ^ 31) {u0 : Option pm_V} {u1 : Option pm_V} {u2 : Option pm_V} {u3 : Option pm_V} {u4 : Option pm_V} {u5 : Option pm_V} {u6 : Option pm_V}   (k : Q (.inl (some (pm_i (nI 0))), (mm x R Z Y o A c G g))) : pW ns d 146 965 [u0, u1, u2, u3, u4, u5, u6] [] (mm x R Z Y o A c G g) Q := by
  refine pW_ret 2 (fun call n => ?_) k
  exact Eq.trans (b := pm_bo (nI 0) (some (.inl (some (pm_i (nI 0))), (mm x R Z Y o A c G g)))) rfl (bo_ok (by decide))
set_option maxRecDepth 20000 in
theorem b146_1035 (hR : RS R) (hns : ns < 2 ^ 31) {v4 : Int32} {v5 : Int32} {v6 : Int32}   (k1 : v5 = 0 → pW ns d 146 1040 [some (pm_r 99 0), some (pm_r 0 0), some (pm_r 20 0), some (pm_r 60 0), some (pm_i v4), some (pm_i v5), some (pm_i v6)] [] (mm x R Z Y o A c G g) Q) (k2 : ¬ (v5 = 0) → pW ns d 146 1052 [some (pm_r 99 0), some (pm_r 0 0), some (pm_r 20 0), some (pm_r 60 0), some (pm_i v4), some (pm_i v5), some (pm_i v6)] [] (mm x R Z Y o A c G g) Q) : pW ns d 146 1035 [some (pm_r 99 0), some (pm_r 0 0), some (pm_r 20 0), some (pm_r 60 0), some (pm_i v4), some (pm_i v5), some (pm_i v6)] [] (mm x R Z Y o A c G g) Q := by
  exact pW_if 2 (c := v5 = 0) (fun call n => rfl) k1 k2
set_option maxRecDepth 20000 in
theorem b146_1033 (hR : RS R) (hns : ns < 2 ^ 31) {u0 : Option pm_V} {u1 : Option pm_V} {u2 : Option pm_V} {u3 : Option pm_V} {u4 : Option pm_V} {u5 : Option pm_V} {u6 : Option pm_V}   (k : Q (.inl (some (pm_i (nI 0))), (mm x R Z Y o A c G g))) : pW ns d 146 1033 [u0, u1, u2, u3, u4, u5, u6] [] (mm x R Z Y o A c G g) Q := by
  refine pW_ret 2 (fun call n => ?_) k
  exact Eq.trans (b := pm_bo (nI 0) (some (.inl (some (pm_i (nI 0))), (mm x R Z Y o A c G g)))) rfl (bo_ok (by decide))
set_option maxRecDepth 20000 in
theorem b146_1115 (hR : RS R) (hns : ns < 2 ^ 31) {v4 : Int32} {v5 : Int32} {v6 : Int32}   (k1 : v5 = 0 → pW ns d 146 1120 [some (pm_r 99 0), some (pm_r 0 0), some (pm_r 20 0), some (pm_r 60 0), some (pm_i v4), some (pm_i v5), some (pm_i v6)] [] (mm x R Z Y o A c G g) Q) (k2 : ¬ (v5 = 0) → pW ns d 146 1132 [some (pm_r 99 0), some (pm_r 0 0), some (pm_r 20 0), some (pm_r 60 0), some (pm_i v4), some (pm_i v5), some (pm_i v6)] [] (mm x R Z Y o A c G g) Q) : pW ns d 146 1115 [some (pm_r 99 0), some (pm_r 0 0), some (pm_r 20 0), some (pm_r 60 0), some (pm_i v4), some (pm_i v5), some (pm_i v6)] [] (mm x R Z Y o A c G g) Q := by
  exact pW_if 2 (c := v5 = 0) (fun call n => rfl) k1 k2
set_option maxRecDepth 20000 in
theorem b146_1113 (hR : RS R) (hns : ns < 2 ^ 31) {u0 : Option pm_V} {u1 : Option pm_V} {u2 : Option pm_V} {u3 : Option pm_V} {u4 : Option pm_V} {u5 : Option pm_V} {u6 : Option pm_V}   (k : Q (.inl (some (pm_i (nI 0))), (mm x R Z Y o A c G g))) : pW ns d 146 1113 [u0, u1, u2, u3, u4, u5, u6] [] (mm x R Z Y o A c G g) Q := by
  refine pW_ret 2 (fun call n => ?_) k
  exact Eq.trans (b := pm_bo (nI 0) (some (.inl (some (pm_i (nI 0))), (mm x R Z Y o A c G g)))) rfl (bo_ok (by decide))
set_option maxRecDepth 20000 in
theorem b146_1183 (hR : RS R) (hns : ns < 2 ^ 31) {v4 : Int32} {v5 : Int32} {v6 : Int32}   (k1 : v5 = 0 → pW ns d 146 1188 [some (pm_r 99 0), some (pm_r 0 0), some (pm_r 20 0), some (pm_r 60 0), some (pm_i v4), some (pm_i v5), some (pm_i v6)] [] (mm x R Z Y o A c G g) Q) (k2 : ¬ (v5 = 0) → pW ns d 146 1200 [some (pm_r 99 0), some (pm_r 0 0), some (pm_r 20 0), some (pm_r 60 0), some (pm_i v4), some (pm_i v5), some (pm_i v6)] [] (mm x R Z Y o A c G g) Q) : pW ns d 146 1183 [some (pm_r 99 0), some (pm_r 0 0), some (pm_r 20 0), some (pm_r 60 0), some (pm_i v4), some (pm_i v5), some (pm_i v6)] [] (mm x R Z Y o A c G g) Q := by
  exact pW_if 2 (c := v5 = 0) (fun call n => rfl) k1 k2
set_option maxRecDepth 20000 in
theorem b146_1181 (hR : RS R) (hns : ns < 2 ^ 31) {u0 : Option pm_V} {u1 : Option pm_V} {u2 : Option pm_V} {u3 : Option pm_V} {u4 : Option pm_V} {u5 : Option pm_V} {u6 : Option pm_V}   (k : Q (.inl (some (pm_i (nI 0))), (mm x R Z Y o A c G g))) : pW ns d 146 1181 [u0, u1, u2, u3, u4, u5, u6] [] (mm x R Z Y o A c G g) Q := by
  refine pW_ret 2 (fun call n => ?_) k
  exact Eq.trans (b := pm_bo (nI 0) (some (.inl (some (pm_i (nI 0))), (mm x R Z Y o A c G g)))) rfl (bo_ok (by decide))
set_option maxRecDepth 20000 in
theorem b146_196 (hR : RS R) (hns : ns < 2 ^ 31) {v4 : Int32} {u5 : Option pm_V} {v6 : Int32}   (k1 : lg_cmp o v6.toInt64 = 0 → pW ns d 146 208 [some (pm_r 99 0), some (pm_r 0 0), some (pm_r 20 0), some (pm_r 60 0), some (pm_i v4), u5, some (pm_i v6)] [] (mm x R Z Y o A c G g) Q) (k2 : ¬ (lg_cmp o v6.toInt64 = 0) → pW ns d 146 206 [some (pm_r 99 0), some (pm_r 0 0), some (pm_r 20 0), some (pm_r 60 0), some (pm_i v4), u5, some (pm_i v6)] [] (mm x R Z Y o A c G g) Q) : pW ns d 146 196 [some (pm_r 99 0), some (pm_r 0 0), some (pm_r 20 0), some (pm_r 60 0), some (pm_i v4), u5, some (pm_i v6)] [] (mm x R Z Y o A c G g) Q := by
  refine pW_eq 3 (pc' := 199) (L' := [some (pm_r 99 0), some (pm_r 0 0), some (pm_r 20 0), some (pm_r 60 0), some (pm_i v4), u5, some (pm_i v6)]) (S' := [pm_l (o)]) (M' := (mm x R Z Y o A c G g)) (fun call n => ?_) ?_
  · refine Eq.trans (b := pm_g (mm x R Z Y o A c G g) 60 0 (pm_ix (nI 0) 1 (fun jx => pm_go call ns d 146 n 199 [some (pm_r 99 0), some (pm_r 0 0), some (pm_r 20 0), some (pm_r 60 0), some (pm_i v4), u5, some (pm_i v6)] [pm_l (o)] (mm x R Z Y o A c G g)))) rfl ?_
    refine (g_ok (f := 60) (by decide) rfl).trans ?_
    refine (ix_ok (j := 0) rfl (by decide) (by decide)).trans ?_
    rfl
  exact pW_if 4 (c := lg_cmp o v6.toInt64 = 0) (fun call n => rfl) k1 k2
set_option maxRecDepth 20000 in
theorem b146_208 (hR : RS R) (hns : ns < 2 ^ 31) {v4 : Int32} {u5 : Option pm_V} {u6 : Option pm_V}   (k : pW ns d 146 23 [some (pm_r 99 0), some (pm_r 0 0), some (pm_r 20 0), some (pm_r 60 0), some (pm_i (v4 + (nI 6))), u5, u6] [] (mm x R Z Y o A c G g) Q) : pW ns d 146 208 [some (pm_r 99 0), some (pm_r 0 0), some (pm_r 20 0), some (pm_r 60 0), some (pm_i v4), u5, u6] [] (mm x R Z Y o A c G g) Q := by
  exact pW_eq 3 (fun call n => rfl) k
set_option maxRecDepth 20000 in
theorem b146_264 (hR : RS R) (hns : ns < 2 ^ 31) {v4 : Int32} {u5 : Option pm_V} {v6 : Int32}   (k1 : lg_cmp o v6.toInt64 = 0 → pW ns d 146 276 [some (pm_r 99 0), some (pm_r 0 0), some (pm_r 20 0), some (pm_r 60 0), some (pm_i v4), u5, some (pm_i v6)] [] (mm x R Z Y o A c G g) Q) (k2 : ¬ (lg_cmp o v6.toInt64 = 0) → pW ns d 146 274 [some (pm_r 99 0), some (pm_r 0 0), some (pm_r 20 0), some (pm_r 60 0), some (pm_i v4), u5, some (pm_i v6)] [] (mm x R Z Y o A c G g) Q) : pW ns d 146 264 [some (pm_r 99 0), some (pm_r 0 0), some (pm_r 20 0), some (pm_r 60 0), some (pm_i v4), u5, some (pm_i v6)] [] (mm x R Z Y o A c G g) Q := by
  refine pW_eq 3 (pc' := 267) (L' := [some (pm_r 99 0), some (pm_r 0 0), some (pm_r 20 0), some (pm_r 60 0), some (pm_i v4), u5, some (pm_i v6)]) (S' := [pm_l (o)]) (M' := (mm x R Z Y o A c G g)) (fun call n => ?_) ?_
  · refine Eq.trans (b := pm_g (mm x R Z Y o A c G g) 60 0 (pm_ix (nI 0) 1 (fun jx => pm_go call ns d 146 n 267 [some (pm_r 99 0), some (pm_r 0 0), some (pm_r 20 0), some (pm_r 60 0), some (pm_i v4), u5, some (pm_i v6)] [pm_l (o)] (mm x R Z Y o A c G g)))) rfl ?_
    refine (g_ok (f := 60) (by decide) rfl).trans ?_
    refine (ix_ok (j := 0) rfl (by decide) (by decide)).trans ?_
    rfl
  exact pW_if 4 (c := lg_cmp o v6.toInt64 = 0) (fun call n => rfl) k1 k2
set_option maxRecDepth 20000 in
theorem b146_276 (hR : RS R) (hns : ns < 2 ^ 31) {v4 : Int32} {u5 : Option pm_V} {u6 : Option pm_V}   (k : pW ns d 146 23 [some (pm_r 99 0), some (pm_r 0 0), some (pm_r 20 0), some (pm_r 60 0), some (pm_i (v4 + (nI 6))), u5, u6] [] (mm x R Z Y o A c G g) Q) : pW ns d 146 276 [some (pm_r 99 0), some (pm_r 0 0), some (pm_r 20 0), some (pm_r 60 0), some (pm_i v4), u5, u6] [] (mm x R Z Y o A c G g) Q := by
  exact pW_eq 3 (fun call n => rfl) k
set_option maxRecDepth 20000 in
theorem b146_320 (hR : RS R) (hns : ns < 2 ^ 31) {v4 : Int32} {u5 : Option pm_V} {v6 : Int32}   (k1 : lg_cmp o v6.toInt64 = 0 → pW ns d 146 332 [some (pm_r 99 0), some (pm_r 0 0), some (pm_r 20 0), some (pm_r 60 0), some (pm_i v4), u5, some (pm_i v6)] [] (mm x R Z Y o A c G g) Q) (k2 : ¬ (lg_cmp o v6.toInt64 = 0) → pW ns d 146 330 [some (pm_r 99 0), some (pm_r 0 0), some (pm_r 20 0), some (pm_r 60 0), some (pm_i v4), u5, some (pm_i v6)] [] (mm x R Z Y o A c G g) Q) : pW ns d 146 320 [some (pm_r 99 0), some (pm_r 0 0), some (pm_r 20 0), some (pm_r 60 0), some (pm_i v4), u5, some (pm_i v6)] [] (mm x R Z Y o A c G g) Q := by
  refine pW_eq 3 (pc' := 323) (L' := [some (pm_r 99 0), some (pm_r 0 0), some (pm_r 20 0), some (pm_r 60 0), some (pm_i v4), u5, some (pm_i v6)]) (S' := [pm_l (o)]) (M' := (mm x R Z Y o A c G g)) (fun call n => ?_) ?_
  · refine Eq.trans (b := pm_g (mm x R Z Y o A c G g) 60 0 (pm_ix (nI 0) 1 (fun jx => pm_go call ns d 146 n 323 [some (pm_r 99 0), some (pm_r 0 0), some (pm_r 20 0), some (pm_r 60 0), some (pm_i v4), u5, some (pm_i v6)] [pm_l (o)] (mm x R Z Y o A c G g)))) rfl ?_
    refine (g_ok (f := 60) (by decide) rfl).trans ?_
    refine (ix_ok (j := 0) rfl (by decide) (by decide)).trans ?_
    rfl
  exact pW_if 4 (c := lg_cmp o v6.toInt64 = 0) (fun call n => rfl) k1 k2
set_option maxRecDepth 20000 in
theorem b146_332 (hR : RS R) (hns : ns < 2 ^ 31) {v4 : Int32} {u5 : Option pm_V} {u6 : Option pm_V}   (k : pW ns d 146 23 [some (pm_r 99 0), some (pm_r 0 0), some (pm_r 20 0), some (pm_r 60 0), some (pm_i (v4 + (nI 6))), u5, u6] [] (mm x R Z Y o A c G g) Q) : pW ns d 146 332 [some (pm_r 99 0), some (pm_r 0 0), some (pm_r 20 0), some (pm_r 60 0), some (pm_i v4), u5, u6] [] (mm x R Z Y o A c G g) Q := by
  exact pW_eq 3 (fun call n => rfl) k
set_option maxRecDepth 20000 in
theorem b146_400 (hR : RS R) (hns : ns < 2 ^ 31) {v4 : Int32} {u5 : Option pm_V} {v6 : Int32}   (k1 : lg_cmp o v6.toInt64 = 0 → pW ns d 146 412 [some (pm_r 99 0), some (pm_r 0 0), some (pm_r 20 0), some (pm_r 60 0), some (pm_i v4), u5, some (pm_i v6)] [] (mm x R Z Y o A c G g) Q) (k2 : ¬ (lg_cmp o v6.toInt64 = 0) → pW ns d 146 410 [some (pm_r 99 0), some (pm_r 0 0), some (pm_r 20 0), some (pm_r 60 0), some (pm_i v4), u5, some (pm_i v6)] [] (mm x R Z Y o A c G g) Q) : pW ns d 146 400 [some (pm_r 99 0), some (pm_r 0 0), some (pm_r 20 0), some (pm_r 60 0), some (pm_i v4), u5, some (pm_i v6)] [] (mm x R Z Y o A c G g) Q := by
  refine pW_eq 3 (pc' := 403) (L' := [some (pm_r 99 0), some (pm_r 0 0), some (pm_r 20 0), some (pm_r 60 0), some (pm_i v4), u5, some (pm_i v6)]) (S' := [pm_l (o)]) (M' := (mm x R Z Y o A c G g)) (fun call n => ?_) ?_
  · refine Eq.trans (b := pm_g (mm x R Z Y o A c G g) 60 0 (pm_ix (nI 0) 1 (fun jx => pm_go call ns d 146 n 403 [some (pm_r 99 0), some (pm_r 0 0), some (pm_r 20 0), some (pm_r 60 0), some (pm_i v4), u5, some (pm_i v6)] [pm_l (o)] (mm x R Z Y o A c G g)))) rfl ?_
    refine (g_ok (f := 60) (by decide) rfl).trans ?_
    refine (ix_ok (j := 0) rfl (by decide) (by decide)).trans ?_
    rfl
  exact pW_if 4 (c := lg_cmp o v6.toInt64 = 0) (fun call n => rfl) k1 k2
set_option maxRecDepth 20000 in
theorem b146_412 (hR : RS R) (hns : ns < 2 ^ 31) {v4 : Int32} {u5 : Option pm_V} {u6 : Option pm_V}   (k : pW ns d 146 23 [some (pm_r 99 0), some (pm_r 0 0), some (pm_r 20 0), some (pm_r 60 0), some (pm_i (v4 + (nI 6))), u5, u6] [] (mm x R Z Y o A c G g) Q) : pW ns d 146 412 [some (pm_r 99 0), some (pm_r 0 0), some (pm_r 20 0), some (pm_r 60 0), some (pm_i v4), u5, u6] [] (mm x R Z Y o A c G g) Q := by
  exact pW_eq 3 (fun call n => rfl) k
set_option maxRecDepth 20000 in
theorem b146_468 (hR : RS R) (hns : ns < 2 ^ 31) {v4 : Int32} {u5 : Option pm_V} {v6 : Int32}   (k1 : lg_cmp o v6.toInt64 = 0 → pW ns d 146 480 [some (pm_r 99 0), some (pm_r 0 0), some (pm_r 20 0), some (pm_r 60 0), some (pm_i v4), u5, some (pm_i v6)] [] (mm x R Z Y o A c G g) Q) (k2 : ¬ (lg_cmp o v6.toInt64 = 0) → pW ns d 146 478 [some (pm_r 99 0), some (pm_r 0 0), some (pm_r 20 0), some (pm_r 60 0), some (pm_i v4), u5, some (pm_i v6)] [] (mm x R Z Y o A c G g) Q) : pW ns d 146 468 [some (pm_r 99 0), some (pm_r 0 0), some (pm_r 20 0), some (pm_r 60 0), some (pm_i v4), u5, some (pm_i v6)] [] (mm x R Z Y o A c G g) Q := by
  refine pW_eq 3 (pc' := 471) (L' := [some (pm_r 99 0), some (pm_r 0 0), some (pm_r 20 0), some (pm_r 60 0), some (pm_i v4), u5, some (pm_i v6)]) (S' := [pm_l (o)]) (M' := (mm x R Z Y o A c G g)) (fun call n => ?_) ?_
  · refine Eq.trans (b := pm_g (mm x R Z Y o A c G g) 60 0 (pm_ix (nI 0) 1 (fun jx => pm_go call ns d 146 n 471 [some (pm_r 99 0), some (pm_r 0 0), some (pm_r 20 0), some (pm_r 60 0), some (pm_i v4), u5, some (pm_i v6)] [pm_l (o)] (mm x R Z Y o A c G g)))) rfl ?_
    refine (g_ok (f := 60) (by decide) rfl).trans ?_
    refine (ix_ok (j := 0) rfl (by decide) (by decide)).trans ?_
    rfl
  exact pW_if 4 (c := lg_cmp o v6.toInt64 = 0) (fun call n => rfl) k1 k2
set_option maxRecDepth 20000 in
theorem b146_480 (hR : RS R) (hns : ns < 2 ^ 31) {v4 : Int32} {u5 : Option pm_V} {u6 : Option pm_V}   (k : pW ns d 146 23 [some (pm_r 99 0), some (pm_r 0 0), some (pm_r 20 0), some (pm_r 60 0), some (pm_i (v4 + (nI 6))), u5, u6] [] (mm x R Z Y o A c G g) Q) : pW ns d 146 480 [some (pm_r 99 0), some (pm_r 0 0), some (pm_r 20 0), some (pm_r 60 0), some (pm_i v4), u5, u6] [] (mm x R Z Y o A c G g) Q := by
  exact pW_eq 3 (fun call n => rfl) k
set_option maxRecDepth 20000 in
theorem b146_548 (hR : RS R) (hns : ns < 2 ^ 31) {v4 : Int32} {u5 : Option pm_V} {v6 : Int32}   (k1 : lg_cmp o v6.toInt64 = 0 → pW ns d 146 560 [some (pm_r 99 0), some (pm_r 0 0), some (pm_r 20 0), some (pm_r 60 0), some (pm_i v4), u5, some (pm_i v6)] [] (mm x R Z Y o A c G g) Q) (k2 : ¬ (lg_cmp o v6.toInt64 = 0) → pW ns d 146 558 [some (pm_r 99 0), some (pm_r 0 0), some (pm_r 20 0), some (pm_r 60 0), some (pm_i v4), u5, some (pm_i v6)] [] (mm x R Z Y o A c G g) Q) : pW ns d 146 548 [some (pm_r 99 0), some (pm_r 0 0), some (pm_r 20 0), some (pm_r 60 0), some (pm_i v4), u5, some (pm_i v6)] [] (mm x R Z Y o A c G g) Q := by
  refine pW_eq 3 (pc' := 551) (L' := [some (pm_r 99 0), some (pm_r 0 0), some (pm_r 20 0), some (pm_r 60 0), some (pm_i v4), u5, some (pm_i v6)]) (S' := [pm_l (o)]) (M' := (mm x R Z Y o A c G g)) (fun call n => ?_) ?_
  · refine Eq.trans (b := pm_g (mm x R Z Y o A c G g) 60 0 (pm_ix (nI 0) 1 (fun jx => pm_go call ns d 146 n 551 [some (pm_r 99 0), some (pm_r 0 0), some (pm_r 20 0), some (pm_r 60 0), some (pm_i v4), u5, some (pm_i v6)] [pm_l (o)] (mm x R Z Y o A c G g)))) rfl ?_
    refine (g_ok (f := 60) (by decide) rfl).trans ?_
    refine (ix_ok (j := 0) rfl (by decide) (by decide)).trans ?_
    rfl
  exact pW_if 4 (c := lg_cmp o v6.toInt64 = 0) (fun call n => rfl) k1 k2
set_option maxRecDepth 20000 in
theorem b146_560 (hR : RS R) (hns : ns < 2 ^ 31) {v4 : Int32} {u5 : Option pm_V} {u6 : Option pm_V}   (k : pW ns d 146 23 [some (pm_r 99 0), some (pm_r 0 0), some (pm_r 20 0), some (pm_r 60 0), some (pm_i (v4 + (nI 6))), u5, u6] [] (mm x R Z Y o A c G g) Q) : pW ns d 146 560 [some (pm_r 99 0), some (pm_r 0 0), some (pm_r 20 0), some (pm_r 60 0), some (pm_i v4), u5, u6] [] (mm x R Z Y o A c G g) Q := by
  exact pW_eq 3 (fun call n => rfl) k
set_option maxRecDepth 20000 in
theorem b146_672 (hR : RS R) (hns : ns < 2 ^ 31) {v4 : Int32} {u5 : Option pm_V} {v6 : Int32}   (k1 : lg_cmp o v6.toInt64 = 0 → pW ns d 146 684 [some (pm_r 99 0), some (pm_r 0 0), some (pm_r 20 0), some (pm_r 60 0), some (pm_i v4), u5, some (pm_i v6)] [] (mm x R Z Y o A c G g) Q) (k2 : ¬ (lg_cmp o v6.toInt64 = 0) → pW ns d 146 682 [some (pm_r 99 0), some (pm_r 0 0), some (pm_r 20 0), some (pm_r 60 0), some (pm_i v4), u5, some (pm_i v6)] [] (mm x R Z Y o A c G g) Q) : pW ns d 146 672 [some (pm_r 99 0), some (pm_r 0 0), some (pm_r 20 0), some (pm_r 60 0), some (pm_i v4), u5, some (pm_i v6)] [] (mm x R Z Y o A c G g) Q := by
  refine pW_eq 3 (pc' := 675) (L' := [some (pm_r 99 0), some (pm_r 0 0), some (pm_r 20 0), some (pm_r 60 0), some (pm_i v4), u5, some (pm_i v6)]) (S' := [pm_l (o)]) (M' := (mm x R Z Y o A c G g)) (fun call n => ?_) ?_
  · refine Eq.trans (b := pm_g (mm x R Z Y o A c G g) 60 0 (pm_ix (nI 0) 1 (fun jx => pm_go call ns d 146 n 675 [some (pm_r 99 0), some (pm_r 0 0), some (pm_r 20 0), some (pm_r 60 0), some (pm_i v4), u5, some (pm_i v6)] [pm_l (o)] (mm x R Z Y o A c G g)))) rfl ?_
    refine (g_ok (f := 60) (by decide) rfl).trans ?_
    refine (ix_ok (j := 0) rfl (by decide) (by decide)).trans ?_
    rfl
  exact pW_if 4 (c := lg_cmp o v6.toInt64 = 0) (fun call n => rfl) k1 k2
set_option maxRecDepth 20000 in
theorem b146_684 (hR : RS R) (hns : ns < 2 ^ 31) {v4 : Int32} {u5 : Option pm_V} {u6 : Option pm_V}   (k : pW ns d 146 23 [some (pm_r 99 0), some (pm_r 0 0), some (pm_r 20 0), some (pm_r 60 0), some (pm_i (v4 + (nI 6))), u5, u6] [] (mm x R Z Y o A c G g) Q) : pW ns d 146 684 [some (pm_r 99 0), some (pm_r 0 0), some (pm_r 20 0), some (pm_r 60 0), some (pm_i v4), u5, u6] [] (mm x R Z Y o A c G g) Q := by
  exact pW_eq 3 (fun call n => rfl) k
set_option maxRecDepth 20000 in
theorem b146_744 (hR : RS R) (hns : ns < 2 ^ 31) {v4 : Int32} {v5 : Int32} {v6 : Int32} {vs0 : Int32}   (k1 : vs0 = v5 → pW ns d 146 751 [some (pm_r 99 0), some (pm_r 0 0), some (pm_r 20 0), some (pm_r 60 0), some (pm_i v4), some (pm_i v5), some (pm_i v6)] [] (mm x R Z Y o A c G g) Q) (k2 : ¬ (vs0 = v5) → pW ns d 146 749 [some (pm_r 99 0), some (pm_r 0 0), some (pm_r 20 0), some (pm_r 60 0), some (pm_i v4), some (pm_i v5), some (pm_i v6)] [] (mm x R Z Y o A c G g) Q) : pW ns d 146 744 [some (pm_r 99 0), some (pm_r 0 0), some (pm_r 20 0), some (pm_r 60 0), some (pm_i v4), some (pm_i v5), some (pm_i v6)] [pm_i vs0] (mm x R Z Y o A c G g) Q := by
  exact pW_if 2 (c := vs0 = v5) (fun call n => rfl) k1 k2
set_option maxRecDepth 20000 in
theorem b146_812 (hR : RS R) (hns : ns < 2 ^ 31) {v4 : Int32} {u5 : Option pm_V} {v6 : Int32}   (k1 : lg_cmp o v6.toInt64 = 0 → pW ns d 146 824 [some (pm_r 99 0), some (pm_r 0 0), some (pm_r 20 0), some (pm_r 60 0), some (pm_i v4), u5, some (pm_i v6)] [] (mm x R Z Y o A c G g) Q) (k2 : ¬ (lg_cmp o v6.toInt64 = 0) → pW ns d 146 822 [some (pm_r 99 0), some (pm_r 0 0), some (pm_r 20 0), some (pm_r 60 0), some (pm_i v4), u5, some (pm_i v6)] [] (mm x R Z Y o A c G g) Q) : pW ns d 146 812 [some (pm_r 99 0), some (pm_r 0 0), some (pm_r 20 0), some (pm_r 60 0), some (pm_i v4), u5, some (pm_i v6)] [] (mm x R Z Y o A c G g) Q := by
  refine pW_eq 3 (pc' := 815) (L' := [some (pm_r 99 0), some (pm_r 0 0), some (pm_r 20 0), some (pm_r 60 0), some (pm_i v4), u5, some (pm_i v6)]) (S' := [pm_l (o)]) (M' := (mm x R Z Y o A c G g)) (fun call n => ?_) ?_
  · refine Eq.trans (b := pm_g (mm x R Z Y o A c G g) 60 0 (pm_ix (nI 0) 1 (fun jx => pm_go call ns d 146 n 815 [some (pm_r 99 0), some (pm_r 0 0), some (pm_r 20 0), some (pm_r 60 0), some (pm_i v4), u5, some (pm_i v6)] [pm_l (o)] (mm x R Z Y o A c G g)))) rfl ?_
    refine (g_ok (f := 60) (by decide) rfl).trans ?_
    refine (ix_ok (j := 0) rfl (by decide) (by decide)).trans ?_
    rfl
  exact pW_if 4 (c := lg_cmp o v6.toInt64 = 0) (fun call n => rfl) k1 k2
set_option maxRecDepth 20000 in
theorem b146_824 (hR : RS R) (hns : ns < 2 ^ 31) {v4 : Int32} {u5 : Option pm_V} {u6 : Option pm_V}   (k : pW ns d 146 23 [some (pm_r 99 0), some (pm_r 0 0), some (pm_r 20 0), some (pm_r 60 0), some (pm_i (v4 + (nI 6))), u5, u6] [] (mm x R Z Y o A c G g) Q) : pW ns d 146 824 [some (pm_r 99 0), some (pm_r 0 0), some (pm_r 20 0), some (pm_r 60 0), some (pm_i v4), u5, u6] [] (mm x R Z Y o A c G g) Q := by
  exact pW_eq 3 (fun call n => rfl) k
set_option maxRecDepth 20000 in
theorem b146_892 (hR : RS R) (hns : ns < 2 ^ 31) {v4 : Int32} {u5 : Option pm_V} {v6 : Int32}   (k1 : lg_cmp o v6.toInt64 = 0 → pW ns d 146 904 [some (pm_r 99 0), some (pm_r 0 0), some (pm_r 20 0), some (pm_r 60 0), some (pm_i v4), u5, some (pm_i v6)] [] (mm x R Z Y o A c G g) Q) (k2 : ¬ (lg_cmp o v6.toInt64 = 0) → pW ns d 146 902 [some (pm_r 99 0), some (pm_r 0 0), some (pm_r 20 0), some (pm_r 60 0), some (pm_i v4), u5, some (pm_i v6)] [] (mm x R Z Y o A c G g) Q) : pW ns d 146 892 [some (pm_r 99 0), some (pm_r 0 0), some (pm_r 20 0), some (pm_r 60 0), some (pm_i v4), u5, some (pm_i v6)] [] (mm x R Z Y o A c G g) Q := by
  refine pW_eq 3 (pc' := 895) (L' := [some (pm_r 99 0), some (pm_r 0 0), some (pm_r 20 0), some (pm_r 60 0), some (pm_i v4), u5, some (pm_i v6)]) (S' := [pm_l (o)]) (M' := (mm x R Z Y o A c G g)) (fun call n => ?_) ?_
  · refine Eq.trans (b := pm_g (mm x R Z Y o A c G g) 60 0 (pm_ix (nI 0) 1 (fun jx => pm_go call ns d 146 n 895 [some (pm_r 99 0), some (pm_r 0 0), some (pm_r 20 0), some (pm_r 60 0), some (pm_i v4), u5, some (pm_i v6)] [pm_l (o)] (mm x R Z Y o A c G g)))) rfl ?_
    refine (g_ok (f := 60) (by decide) rfl).trans ?_
    refine (ix_ok (j := 0) rfl (by decide) (by decide)).trans ?_
    rfl
  exact pW_if 4 (c := lg_cmp o v6.toInt64 = 0) (fun call n => rfl) k1 k2
set_option maxRecDepth 20000 in
theorem b146_904 (hR : RS R) (hns : ns < 2 ^ 31) {v4 : Int32} {u5 : Option pm_V} {u6 : Option pm_V}   (k : pW ns d 146 23 [some (pm_r 99 0), some (pm_r 0 0), some (pm_r 20 0), some (pm_r 60 0), some (pm_i (v4 + (nI 6))), u5, u6] [] (mm x R Z Y o A c G g) Q) : pW ns d 146 904 [some (pm_r 99 0), some (pm_r 0 0), some (pm_r 20 0), some (pm_r 60 0), some (pm_i v4), u5, u6] [] (mm x R Z Y o A c G g) Q := by
  exact pW_eq 3 (fun call n => rfl) k
set_option maxRecDepth 20000 in
theorem b146_972 (hR : RS R) (hns : ns < 2 ^ 31) {v4 : Int32} {u5 : Option pm_V} {v6 : Int32}   (k1 : lg_cmp o v6.toInt64 = 0 → pW ns d 146 984 [some (pm_r 99 0), some (pm_r 0 0), some (pm_r 20 0), some (pm_r 60 0), some (pm_i v4), u5, some (pm_i v6)] [] (mm x R Z Y o A c G g) Q) (k2 : ¬ (lg_cmp o v6.toInt64 = 0) → pW ns d 146 982 [some (pm_r 99 0), some (pm_r 0 0), some (pm_r 20 0), some (pm_r 60 0), some (pm_i v4), u5, some (pm_i v6)] [] (mm x R Z Y o A c G g) Q) : pW ns d 146 972 [some (pm_r 99 0), some (pm_r 0 0), some (pm_r 20 0), some (pm_r 60 0), some (pm_i v4), u5, some (pm_i v6)] [] (mm x R Z Y o A c G g) Q := by
  refine pW_eq 3 (pc' := 975) (L' := [some (pm_r 99 0), some (pm_r 0 0), some (pm_r 20 0), some (pm_r 60 0), some (pm_i v4), u5, some (pm_i v6)]) (S' := [pm_l (o)]) (M' := (mm x R Z Y o A c G g)) (fun call n => ?_) ?_
  · refine Eq.trans (b := pm_g (mm x R Z Y o A c G g) 60 0 (pm_ix (nI 0) 1 (fun jx => pm_go call ns d 146 n 975 [some (pm_r 99 0), some (pm_r 0 0), some (pm_r 20 0), some (pm_r 60 0), some (pm_i v4), u5, some (pm_i v6)] [pm_l (o)] (mm x R Z Y o A c G g)))) rfl ?_
    refine (g_ok (f := 60) (by decide) rfl).trans ?_
    refine (ix_ok (j := 0) rfl (by decide) (by decide)).trans ?_
    rfl
  exact pW_if 4 (c := lg_cmp o v6.toInt64 = 0) (fun call n => rfl) k1 k2
set_option maxRecDepth 20000 in
theorem b146_984 (hR : RS R) (hns : ns < 2 ^ 31) {v4 : Int32} {u5 : Option pm_V} {u6 : Option pm_V}   (k : pW ns d 146 23 [some (pm_r 99 0), some (pm_r 0 0), some (pm_r 20 0), some (pm_r 60 0), some (pm_i (v4 + (nI 6))), u5, u6] [] (mm x R Z Y o A c G g) Q) : pW ns d 146 984 [some (pm_r 99 0), some (pm_r 0 0), some (pm_r 20 0), some (pm_r 60 0), some (pm_i v4), u5, u6] [] (mm x R Z Y o A c G g) Q := by
  exact pW_eq 3 (fun call n => rfl) k
set_option maxRecDepth 20000 in
theorem b146_1040 (hR : RS R) (hns : ns < 2 ^ 31) {v4 : Int32} {u5 : Option pm_V} {v6 : Int32}   (k1 : lg_cmp o v6.toInt64 = 0 → pW ns d 146 1052 [some (pm_r 99 0), some (pm_r 0 0), some (pm_r 20 0), some (pm_r 60 0), some (pm_i v4), u5, some (pm_i v6)] [] (mm x R Z Y o A c G g) Q) (k2 : ¬ (lg_cmp o v6.toInt64 = 0) → pW ns d 146 1050 [some (pm_r 99 0), some (pm_r 0 0), some (pm_r 20 0), some (pm_r 60 0), some (pm_i v4), u5, some (pm_i v6)] [] (mm x R Z Y o A c G g) Q) : pW ns d 146 1040 [some (pm_r 99 0), some (pm_r 0 0), some (pm_r 20 0), some (pm_r 60 0), some (pm_i v4), u5, some (pm_i v6)] [] (mm x R Z Y o A c G g) Q := by
  refine pW_eq 3 (pc' := 1043) (L' := [some (pm_r 99 0), some (pm_r 0 0), some (pm_r 20 0), some (pm_r 60 0), some (pm_i v4), u5, some (pm_i v6)]) (S' := [pm_l (o)]) (M' := (mm x R Z Y o A c G g)) (fun call n => ?_) ?_
  · refine Eq.trans (b := pm_g (mm x R Z Y o A c G g) 60 0 (pm_ix (nI 0) 1 (fun jx => pm_go call ns d 146 n 1043 [some (pm_r 99 0), some (pm_r 0 0), some (pm_r 20 0), some (pm_r 60 0), some (pm_i v4), u5, some (pm_i v6)] [pm_l (o)] (mm x R Z Y o A c G g)))) rfl ?_
    refine (g_ok (f := 60) (by decide) rfl).trans ?_
    refine (ix_ok (j := 0) rfl (by decide) (by decide)).trans ?_
    rfl
  exact pW_if 4 (c := lg_cmp o v6.toInt64 = 0) (fun call n => rfl) k1 k2
set_option maxRecDepth 20000 in
theorem b146_1052 (hR : RS R) (hns : ns < 2 ^ 31) {v4 : Int32} {u5 : Option pm_V} {u6 : Option pm_V}   (k : pW ns d 146 23 [some (pm_r 99 0), some (pm_r 0 0), some (pm_r 20 0), some (pm_r 60 0), some (pm_i (v4 + (nI 6))), u5, u6] [] (mm x R Z Y o A c G g) Q) : pW ns d 146 1052 [some (pm_r 99 0), some (pm_r 0 0), some (pm_r 20 0), some (pm_r 60 0), some (pm_i v4), u5, u6] [] (mm x R Z Y o A c G g) Q := by
  exact pW_eq 3 (fun call n => rfl) k
set_option maxRecDepth 20000 in
theorem b146_1120 (hR : RS R) (hns : ns < 2 ^ 31) {v4 : Int32} {u5 : Option pm_V} {v6 : Int32}   (k1 : lg_cmp o v6.toInt64 = 0 → pW ns d 146 1132 [some (pm_r 99 0), some (pm_r 0 0), some (pm_r 20 0), some (pm_r 60 0), some (pm_i v4), u5, some (pm_i v6)] [] (mm x R Z Y o A c G g) Q) (k2 : ¬ (lg_cmp o v6.toInt64 = 0) → pW ns d 146 1130 [some (pm_r 99 0), some (pm_r 0 0), some (pm_r 20 0), some (pm_r 60 0), some (pm_i v4), u5, some (pm_i v6)] [] (mm x R Z Y o A c G g) Q) : pW ns d 146 1120 [some (pm_r 99 0), some (pm_r 0 0), some (pm_r 20 0), some (pm_r 60 0), some (pm_i v4), u5, some (pm_i v6)] [] (mm x R Z Y o A c G g) Q := by
  refine pW_eq 3 (pc' := 1123) (L' := [some (pm_r 99 0), some (pm_r 0 0), some (pm_r 20 0), some (pm_r 60 0), some (pm_i v4), u5, some (pm_i v6)]) (S' := [pm_l (o)]) (M' := (mm x R Z Y o A c G g)) (fun call n => ?_) ?_
  · refine Eq.trans (b := pm_g (mm x R Z Y o A c G g) 60 0 (pm_ix (nI 0) 1 (fun jx => pm_go call ns d 146 n 1123 [some (pm_r 99 0), some (pm_r 0 0), some (pm_r 20 0), some (pm_r 60 0), some (pm_i v4), u5, some (pm_i v6)] [pm_l (o)] (mm x R Z Y o A c G g)))) rfl ?_
    refine (g_ok (f := 60) (by decide) rfl).trans ?_
    refine (ix_ok (j := 0) rfl (by decide) (by decide)).trans ?_
    rfl
  exact pW_if 4 (c := lg_cmp o v6.toInt64 = 0) (fun call n => rfl) k1 k2
set_option maxRecDepth 20000 in
theorem b146_1132 (hR : RS R) (hns : ns < 2 ^ 31) {v4 : Int32} {u5 : Option pm_V} {u6 : Option pm_V}   (k : pW ns d 146 23 [some (pm_r 99 0), some (pm_r 0 0), some (pm_r 20 0), some (pm_r 60 0), some (pm_i (v4 + (nI 6))), u5, u6] [] (mm x R Z Y o A c G g) Q) : pW ns d 146 1132 [some (pm_r 99 0), some (pm_r 0 0), some (pm_r 20 0), some (pm_r 60 0), some (pm_i v4), u5, u6] [] (mm x R Z Y o A c G g) Q := by
  exact pW_eq 3 (fun call n => rfl) k
set_option maxRecDepth 20000 in
theorem b146_1188 (hR : RS R) (hns : ns < 2 ^ 31) {v4 : Int32} {u5 : Option pm_V} {v6 : Int32}   (k1 : lg_cmp o v6.toInt64 = 0 → pW ns d 146 1200 [some (pm_r 99 0), some (pm_r 0 0), some (pm_r 20 0), some (pm_r 60 0), some (pm_i v4), u5, some (pm_i v6)] [] (mm x R Z Y o A c G g) Q) (k2 : ¬ (lg_cmp o v6.toInt64 = 0) → pW ns d 146 1198 [some (pm_r 99 0), some (pm_r 0 0), some (pm_r 20 0), some (pm_r 60 0), some (pm_i v4), u5, some (pm_i v6)] [] (mm x R Z Y o A c G g) Q) : pW ns d 146 1188 [some (pm_r 99 0), some (pm_r 0 0), some (pm_r 20 0), some (pm_r 60 0), some (pm_i v4), u5, some (pm_i v6)] [] (mm x R Z Y o A c G g) Q := by
  refine pW_eq 3 (pc' := 1191) (L' := [some (pm_r 99 0), some (pm_r 0 0), some (pm_r 20 0), some (pm_r 60 0), some (pm_i v4), u5, some (pm_i v6)]) (S' := [pm_l (o)]) (M' := (mm x R Z Y o A c G g)) (fun call n => ?_) ?_
  · refine Eq.trans (b := pm_g (mm x R Z Y o A c G g) 60 0 (pm_ix (nI 0) 1 (fun jx => pm_go call ns d 146 n 1191 [some (pm_r 99 0), some (pm_r 0 0), some (pm_r 20 0), some (pm_r 60 0), some (pm_i v4), u5, some (pm_i v6)] [pm_l (o)] (mm x R Z Y o A c G g)))) rfl ?_
    refine (g_ok (f := 60) (by decide) rfl).trans ?_
    refine (ix_ok (j := 0) rfl (by decide) (by decide)).trans ?_
    rfl
  exact pW_if 4 (c := lg_cmp o v6.toInt64 = 0) (fun call n => rfl) k1 k2
set_option maxRecDepth 20000 in
theorem b146_1200 (hR : RS R) (hns : ns < 2 ^ 31) {v4 : Int32} {u5 : Option pm_V} {u6 : Option pm_V}   (k : pW ns d 146 23 [some (pm_r 99 0), some (pm_r 0 0), some (pm_r 20 0), some (pm_r 60 0), some (pm_i (v4 + (nI 6))), u5, u6] [] (mm x R Z Y o A c G g) Q) : pW ns d 146 1200 [some (pm_r 99 0), some (pm_r 0 0), some (pm_r 20 0), some (pm_r 60 0), some (pm_i v4), u5, u6] [] (mm x R Z Y o A c G g) Q := by
  exact pW_eq 3 (fun call n => rfl) k
set_option maxRecDepth 20000 in
theorem b146_206 (hR : RS R) (hns : ns < 2 ^ 31) {u0 : Option pm_V} {u1 : Option pm_V} {u2 : Option pm_V} {u3 : Option pm_V} {u4 : Option pm_V} {u5 : Option pm_V} {u6 : Option pm_V}   (k : Q (.inl (some (pm_i (nI 0))), (mm x R Z Y o A c G g))) : pW ns d 146 206 [u0, u1, u2, u3, u4, u5, u6] [] (mm x R Z Y o A c G g) Q := by
  refine pW_ret 2 (fun call n => ?_) k
  exact Eq.trans (b := pm_bo (nI 0) (some (.inl (some (pm_i (nI 0))), (mm x R Z Y o A c G g)))) rfl (bo_ok (by decide))
set_option maxRecDepth 20000 in
theorem b146_274 (hR : RS R) (hns : ns < 2 ^ 31) {u0 : Option pm_V} {u1 : Option pm_V} {u2 : Option pm_V} {u3 : Option pm_V} {u4 : Option pm_V} {u5 : Option pm_V} {u6 : Option pm_V}   (k : Q (.inl (some (pm_i (nI 0))), (mm x R Z Y o A c G g))) : pW ns d 146 274 [u0, u1, u2, u3, u4, u5, u6] [] (mm x R Z Y o A c G g) Q := by
  refine pW_ret 2 (fun call n => ?_) k
  exact Eq.trans (b := pm_bo (nI 0) (some (.inl (some (pm_i (nI 0))), (mm x R Z Y o A c G g)))) rfl (bo_ok (by decide))
set_option maxRecDepth 20000 in
theorem b146_330 (hR : RS R) (hns : ns < 2 ^ 31) {u0 : Option pm_V} {u1 : Option pm_V} {u2 : Option pm_V} {u3 : Option pm_V} {u4 : Option pm_V} {u5 : Option pm_V} {u6 : Option pm_V}   (k : Q (.inl (some (pm_i (nI 0))), (mm x R Z Y o A c G g))) : pW ns d 146 330 [u0, u1, u2, u3, u4, u5, u6] [] (mm x R Z Y o A c G g) Q := by
  refine pW_ret 2 (fun call n => ?_) k
  exact Eq.trans (b := pm_bo (nI 0) (some (.inl (some (pm_i (nI 0))), (mm x R Z Y o A c G g)))) rfl (bo_ok (by decide))
set_option maxRecDepth 20000 in
theorem b146_410 (hR : RS R) (hns : ns < 2 ^ 31) {u0 : Option pm_V} {u1 : Option pm_V} {u2 : Option pm_V} {u3 : Option pm_V} {u4 : Option pm_V} {u5 : Option pm_V} {u6 : Option pm_V}   (k : Q (.inl (some (pm_i (nI 0))), (mm x R Z Y o A c G g))) : pW ns d 146 410 [u0, u1, u2, u3, u4, u5, u6] [] (mm x R Z Y o A c G g) Q := by
  refine pW_ret 2 (fun call n => ?_) k
  exact Eq.trans (b := pm_bo (nI 0) (some (.inl (some (pm_i (nI 0))), (mm x R Z Y o A c G g)))) rfl (bo_ok (by decide))
set_option maxRecDepth 20000 in
theorem b146_478 (hR : RS R) (hns : ns < 2 ^ 31) {u0 : Option pm_V} {u1 : Option pm_V} {u2 : Option pm_V} {u3 : Option pm_V} {u4 : Option pm_V} {u5 : Option pm_V} {u6 : Option pm_V}   (k : Q (.inl (some (pm_i (nI 0))), (mm x R Z Y o A c G g))) : pW ns d 146 478 [u0, u1, u2, u3, u4, u5, u6] [] (mm x R Z Y o A c G g) Q := by
  refine pW_ret 2 (fun call n => ?_) k
  exact Eq.trans (b := pm_bo (nI 0) (some (.inl (some (pm_i (nI 0))), (mm x R Z Y o A c G g)))) rfl (bo_ok (by decide))
set_option maxRecDepth 20000 in
theorem b146_558 (hR : RS R) (hns : ns < 2 ^ 31) {u0 : Option pm_V} {u1 : Option pm_V} {u2 : Option pm_V} {u3 : Option pm_V} {u4 : Option pm_V} {u5 : Option pm_V} {u6 : Option pm_V}   (k : Q (.inl (some (pm_i (nI 0))), (mm x R Z Y o A c G g))) : pW ns d 146 558 [u0, u1, u2, u3, u4, u5, u6] [] (mm x R Z Y o A c G g) Q := by
  refine pW_ret 2 (fun call n => ?_) k
  exact Eq.trans (b := pm_bo (nI 0) (some (.inl (some (pm_i (nI 0))), (mm x R Z Y o A c G g)))) rfl (bo_ok (by decide))
set_option maxRecDepth 20000 in
theorem b146_682 (hR : RS R) (hns : ns < 2 ^ 31) {u0 : Option pm_V} {u1 : Option pm_V} {u2 : Option pm_V} {u3 : Option pm_V} {u4 : Option pm_V} {u5 : Option pm_V} {u6 : Option pm_V}   (k : Q (.inl (some (pm_i (nI 0))), (mm x R Z Y o A c G g))) : pW ns d 146 682 [u0, u1, u2, u3, u4, u5, u6] [] (mm x R Z Y o A c G g) Q := by
  refine pW_ret 2 (fun call n => ?_) k
  exact Eq.trans (b := pm_bo (nI 0) (some (.inl (some (pm_i (nI 0))), (mm x R Z Y o A c G g)))) rfl (bo_ok (by decide))
set_option maxRecDepth 20000 in
theorem b146_751 (hR : RS R) (hns : ns < 2 ^ 31) {v4 : Int32} {v5 : Int32} {v6 : Int32}   (k1 : v5 = 0 → pW ns d 146 756 [some (pm_r 99 0), some (pm_r 0 0), some (pm_r 20 0), some (pm_r 60 0), some (pm_i v4), some (pm_i v5), some (pm_i v6)] [] (mm x R Z Y o A c G g) Q) (k2 : ¬ (v5 = 0) → pW ns d 146 768 [some (pm_r 99 0), some (pm_r 0 0), some (pm_r 20 0), some (pm_r 60 0), some (pm_i v4), some (pm_i v5), some (pm_i v6)] [] (mm x R Z Y o A c G g) Q) : pW ns d 146 751 [some (pm_r 99 0), some (pm_r 0 0), some (pm_r 20 0), some (pm_r 60 0), some (pm_i v4), some (pm_i v5), some (pm_i v6)] [] (mm x R Z Y o A c G g) Q := by
  exact pW_if 2 (c := v5 = 0) (fun call n => rfl) k1 k2
set_option maxRecDepth 20000 in
theorem b146_749 (hR : RS R) (hns : ns < 2 ^ 31) {u0 : Option pm_V} {u1 : Option pm_V} {u2 : Option pm_V} {u3 : Option pm_V} {u4 : Option pm_V} {u5 : Option pm_V} {u6 : Option pm_V}   (k : Q (.inl (some (pm_i (nI 0))), (mm x R Z Y o A c G g))) : pW ns d 146 749 [u0, u1, u2, u3, u4, u5, u6] [] (mm x R Z Y o A c G g) Q := by
  refine pW_ret 2 (fun call n => ?_) k
  exact Eq.trans (b := pm_bo (nI 0) (some (.inl (some (pm_i (nI 0))), (mm x R Z Y o A c G g)))) rfl (bo_ok (by decide))
set_option maxRecDepth 20000 in
theorem b146_822 (hR : RS R) (hns : ns < 2 ^ 31) {u0 : Option pm_V} {u1 : Option pm_V} {u2 : Option pm_V} {u3 : Option pm_V} {u4 : Option pm_V} {u5 : Option pm_V} {u6 : Option pm_V}   (k : Q (.inl (some (pm_i (nI 0))), (mm x R Z Y o A c G g))) : pW ns d 146 822 [u0, u1, u2, u3, u4, u5, u6] [] (mm x R Z Y o A c G g) Q := by
  refine pW_ret 2 (fun call n => ?_) k
  exact Eq.trans (b := pm_bo (nI 0) (some (.inl (some (pm_i (nI 0))), (mm x R Z Y o A c G g)))) rfl (bo_ok (by decide))
set_option maxRecDepth 20000 in
theorem b146_902 (hR : RS R) (hns : ns < 2 ^ 31) {u0 : Option pm_V} {u1 : Option pm_V} {u2 : Option pm_V} {u3 : Option pm_V} {u4 : Option pm_V} {u5 : Option pm_V} {u6 : Option pm_V}   (k : Q (.inl (some (pm_i (nI 0))), (mm x R Z Y o A c G g))) : pW ns d 146 902 [u0, u1, u2, u3, u4, u5, u6] [] (mm x R Z Y o A c G g) Q := by
  refine pW_ret 2 (fun call n => ?_) k
  exact Eq.trans (b := pm_bo (nI 0) (some (.inl (some (pm_i (nI 0))), (mm x R Z Y o A c G g)))) rfl (bo_ok (by decide))
set_option maxRecDepth 20000 in
theorem b146_982 (hR : RS R) (hns : ns < 2 ^ 31) {u0 : Option pm_V} {u1 : Option pm_V} {u2 : Option pm_V} {u3 : Option pm_V} {u4 : Option pm_V} {u5 : Option pm_V} {u6 : Option pm_V}   (k : Q (.inl (some (pm_i (nI 0))), (mm x R Z Y o A c G g))) : pW ns d 146 982 [u0, u1, u2, u3, u4, u5, u6] [] (mm x R Z Y o A c G g) Q := by
  refine pW_ret 2 (fun call n => ?_) k
  exact Eq.trans (b := pm_bo (nI 0) (some (.inl (some (pm_i (nI 0))), (mm x R Z Y o A c G g)))) rfl (bo_ok (by decide))
set_option maxRecDepth 20000 in
theorem b146_1050 (hR : RS R) (hns : ns < 2 ^ 31) {u0 : Option pm_V} {u1 : Option pm_V} {u2 : Option pm_V} {u3 : Option pm_V} {u4 : Option pm_V} {u5 : Option pm_V} {u6 : Option pm_V}   (k : Q (.inl (some (pm_i (nI 0))), (mm x R Z Y o A c G g))) : pW ns d 146 1050 [u0, u1, u2, u3, u4, u5, u6] [] (mm x R Z Y o A c G g) Q := by
  refine pW_ret 2 (fun call n => ?_) k
  exact Eq.trans (b := pm_bo (nI 0) (some (.inl (some (pm_i (nI 0))), (mm x R Z Y o A c G g)))) rfl (bo_ok (by decide))
set_option maxRecDepth 20000 in
theorem b146_1130 (hR : RS R) (hns : ns < 2 ^ 31) {u0 : Option pm_V} {u1 : Option pm_V} {u2 : Option pm_V} {u3 : Option pm_V} {u4 : Option pm_V} {u5 : Option pm_V} {u6 : Option pm_V}   (k : Q (.inl (some (pm_i (nI 0))), (mm x R Z Y o A c G g))) : pW ns d 146 1130 [u0, u1, u2, u3, u4, u5, u6] [] (mm x R Z Y o A c G g) Q := by
  refine pW_ret 2 (fun call n => ?_) k
  exact Eq.trans (b := pm_bo (nI 0) (some (.inl (some (pm_i (nI 0))), (mm x R Z Y o A c G g)))) rfl (bo_ok (by decide))
set_option maxRecDepth 20000 in
theorem b146_1198 (hR : RS R) (hns : ns < 2 ^ 31) {u0 : Option pm_V} {u1 : Option pm_V} {u2 : Option pm_V} {u3 : Option pm_V} {u4 : Option pm_V} {u5 : Option pm_V} {u6 : Option pm_V}   (k : Q (.inl (some (pm_i (nI 0))), (mm x R Z Y o A c G g))) : pW ns d 146 1198 [u0, u1, u2, u3, u4, u5, u6] [] (mm x R Z Y o A c G g) Q := by
  refine pW_ret 2 (fun call n => ?_) k
  exact Eq.trans (b := pm_bo (nI 0) (some (.inl (some (pm_i (nI 0))), (mm x R Z Y o A c G g)))) rfl (bo_ok (by decide))
set_option maxRecDepth 20000 in
theorem b146_756 (hR : RS R) (hns : ns < 2 ^ 31) {v4 : Int32} {u5 : Option pm_V} {v6 : Int32}   (k1 : lg_cmp o v6.toInt64 = 0 → pW ns d 146 768 [some (pm_r 99 0), some (pm_r 0 0), some (pm_r 20 0), some (pm_r 60 0), some (pm_i v4), u5, some (pm_i v6)] [] (mm x R Z Y o A c G g) Q) (k2 : ¬ (lg_cmp o v6.toInt64 = 0) → pW ns d 146 766 [some (pm_r 99 0), some (pm_r 0 0), some (pm_r 20 0), some (pm_r 60 0), some (pm_i v4), u5, some (pm_i v6)] [] (mm x R Z Y o A c G g) Q) : pW ns d 146 756 [some (pm_r 99 0), some (pm_r 0 0), some (pm_r 20 0), some (pm_r 60 0), some (pm_i v4), u5, some (pm_i v6)] [] (mm x R Z Y o A c G g) Q := by
  refine pW_eq 3 (pc' := 759) (L' := [some (pm_r 99 0), some (pm_r 0 0), some (pm_r 20 0), some (pm_r 60 0), some (pm_i v4), u5, some (pm_i v6)]) (S' := [pm_l (o)]) (M' := (mm x R Z Y o A c G g)) (fun call n => ?_) ?_
  · refine Eq.trans (b := pm_g (mm x R Z Y o A c G g) 60 0 (pm_ix (nI 0) 1 (fun jx => pm_go call ns d 146 n 759 [some (pm_r 99 0), some (pm_r 0 0), some (pm_r 20 0), some (pm_r 60 0), some (pm_i v4), u5, some (pm_i v6)] [pm_l (o)] (mm x R Z Y o A c G g)))) rfl ?_
    refine (g_ok (f := 60) (by decide) rfl).trans ?_
    refine (ix_ok (j := 0) rfl (by decide) (by decide)).trans ?_
    rfl
  exact pW_if 4 (c := lg_cmp o v6.toInt64 = 0) (fun call n => rfl) k1 k2
set_option maxRecDepth 20000 in
theorem b146_768 (hR : RS R) (hns : ns < 2 ^ 31) {v4 : Int32} {u5 : Option pm_V} {u6 : Option pm_V}   (k : pW ns d 146 23 [some (pm_r 99 0), some (pm_r 0 0), some (pm_r 20 0), some (pm_r 60 0), some (pm_i (v4 + (nI 6))), u5, u6] [] (mm x R Z Y o A c G g) Q) : pW ns d 146 768 [some (pm_r 99 0), some (pm_r 0 0), some (pm_r 20 0), some (pm_r 60 0), some (pm_i v4), u5, u6] [] (mm x R Z Y o A c G g) Q := by
  exact pW_eq 3 (fun call n => rfl) k
set_option maxRecDepth 20000 in
theorem b146_766 (hR : RS R) (hns : ns < 2 ^ 31) {u0 : Option pm_V} {u1 : Option pm_V} {u2 : Option pm_V} {u3 : Option pm_V} {u4 : Option pm_V} {u5 : Option pm_V} {u6 : Option pm_V}   (k : Q (.inl (some (pm_i (nI 0))), (mm x R Z Y o A c G g))) : pW ns d 146 766 [u0, u1, u2, u3, u4, u5, u6] [] (mm x R Z Y o A c G g) Q := by
  refine pW_ret 2 (fun call n => ?_) k
  exact Eq.trans (b := pm_bo (nI 0) (some (.inl (some (pm_i (nI 0))), (mm x R Z Y o A c G g)))) rfl (bo_ok (by decide))
set_option maxRecDepth 20000 in
theorem t146_23 (hR : RS R) (hns : ns < 2 ^ 31) {v4 : Int32} {u5 : Option pm_V} {u6 : Option pm_V}  (k1 : ((nI ns) - (nI 6) < v4) → Q (.inl (some (pm_i (nI 1))), (mm x R Z Y o A c G g))) (k2 : (¬ ((nI ns) - (nI 6) < v4)) → pW ns d 146 33 [some (pm_r 99 0), some (pm_r 0 0), some (pm_r 20 0), some (pm_r 60 0), some (pm_i v4), u5, u6] [] (mm x R Z Y o A c G g) Q) : pW ns d 146 23 [some (pm_r 99 0), some (pm_r 0 0), some (pm_r 20 0), some (pm_r 60 0), some (pm_i v4), u5, u6] [] (mm x R Z Y o A c G g) Q := by
  refine b146_23 hR hns  (fun h1 => ?_) (fun h1 => ?_)
  · skip
    exact b146_1345 hR hns   (k1 h1)
  · skip
    exact (k2 h1)
set_option maxRecDepth 20000 in
theorem t146_687 (hR : RS R) (hns : ns < 2 ^ 31) {v4 : Int32} {u5 : Option pm_V} {u6 : Option pm_V} {j1 : Nat} {j2 : Nat} (e1 : v4 + (nI 1) = nI j1) (l1 : j1 < ns) (e2 : v4 + (nI 2) = nI j2) (l2 : j2 < ns) (k1 : (Z 99 0 j2 = 0) → pW ns d 146 707 [some (pm_r 99 0), some (pm_r 0 0), some (pm_r 20 0), some (pm_r 60 0), some (pm_i v4), u5, u6] [pm_i (Z 99 0 j1), pm_r 0 0] (mm x R Z Y o A c G g) Q) (k2 : (¬ (Z 99 0 j2 = 0)) → pW ns d 146 703 [some (pm_r 99 0), some (pm_r 0 0), some (pm_r 20 0), some (pm_r 60 0), some (pm_i v4), u5, u6] [pm_i (Z 99 0 j1), pm_r 0 0] (mm x R Z Y o A c G g) Q) : pW ns d 146 687 [some (pm_r 99 0), some (pm_r 0 0), some (pm_r 20 0), some (pm_r 60 0), some (pm_i v4), u5, u6] [] (mm x R Z Y o A c G g) Q := by
  refine b146_687 hR hns e1 l1 e2 l2 (fun h1 => ?_) (fun h1 => ?_)
  · skip
    exact (k1 h1)
  · skip
    exact (k2 h1)
set_option maxRecDepth 20000 in
theorem t146_712 (hR : RS R) (hns : ns < 2 ^ 31) {v4 : Int32} {u5 : Option pm_V} {u6 : Option pm_V} {vs0 : Int32} {j1 : Nat} {j2 : Nat} (e1 : v4 + (nI 1) = nI j1) (l1 : j1 < ns) (e2 : v4 + (nI 2) = nI j2) (l2 : j2 < ns) (k1 : (Z 99 0 j2 = 0) → pW ns d 146 734 [some (pm_r 99 0), some (pm_r 0 0), some (pm_r 20 0), some (pm_r 60 0), some (pm_i v4), some (pm_i vs0), u6] [pm_i (Z 99 0 j1), pm_r 20 0] (mm x R Z Y o A c G g) Q) (k2 : (¬ (Z 99 0 j2 = 0)) → pW ns d 146 730 [some (pm_r 99 0), some (pm_r 0 0), some (pm_r 20 0), some (pm_r 60 0), some (pm_i v4), some (pm_i vs0), u6] [pm_i (Z 99 0 j1), pm_r 20 0] (mm x R Z Y o A c G g) Q) : pW ns d 146 712 [some (pm_r 99 0), some (pm_r 0 0), some (pm_r 20 0), some (pm_r 60 0), some (pm_i v4), u5, u6] [pm_i vs0] (mm x R Z Y o A c G g) Q := by
  refine b146_712 hR hns e1 l1 e2 l2 (fun h1 => ?_) (fun h1 => ?_)
  · skip
    exact (k1 h1)
  · skip
    exact (k2 h1)
set_option maxRecDepth 20000 in
theorem t146_1235 (hR : RS R) (hns : ns < 2 ^ 31) {v4 : Int32} {u5 : Option pm_V} {u6 : Option pm_V} {vs0 : Int32} {vs1 : Int32}  (k1 : (vs1 = vs0) → pW ns d 146 23 [some (pm_r 99 0), some (pm_r 0 0), some (pm_r 20 0), some (pm_r 60 0), some (pm_i (v4 + (nI 6))), u5, u6] [] (mm x R Z Y o A c G g) Q) (k2 : (¬ (vs1 = vs0)) → Q (.inl (some (pm_i (nI 0))), (mm x R Z Y o A c G g))) : pW ns d 146 1235 [some (pm_r 99 0), some (pm_r 0 0), some (pm_r 20 0), some (pm_r 60 0), some (pm_i v4), u5, u6] [pm_i vs0, pm_i vs1] (mm x R Z Y o A c G g) Q := by
  refine b146_1235 hR hns  (fun h1 => ?_) (fun h1 => ?_)
  · skip
    exact b146_1339 hR hns   (k1 h1)
  · skip
    exact b146_1238 hR hns   (k2 h1)
set_option maxRecDepth 20000 in
theorem t146_1272 (hR : RS R) (hns : ns < 2 ^ 31) {v4 : Int32} {u5 : Option pm_V} {u6 : Option pm_V} {vs0 : Int32} {vs1 : Int32}  (k1 : (vs1 = vs0) → pW ns d 146 23 [some (pm_r 99 0), some (pm_r 0 0), some (pm_r 20 0), some (pm_r 60 0), some (pm_i (v4 + (nI 6))), u5, u6] [] (mm x R Z Y o A c G g) Q) (k2 : (¬ (vs1 = vs0)) → Q (.inl (some (pm_i (nI 0))), (mm x R Z Y o A c G g))) : pW ns d 146 1272 [some (pm_r 99 0), some (pm_r 0 0), some (pm_r 20 0), some (pm_r 60 0), some (pm_i v4), u5, u6] [pm_i vs0, pm_i vs1] (mm x R Z Y o A c G g) Q := by
  refine b146_1272 hR hns  (fun h1 => ?_) (fun h1 => ?_)
  · skip
    exact b146_1339 hR hns   (k1 h1)
  · skip
    exact b146_1275 hR hns   (k2 h1)
set_option maxRecDepth 20000 in
theorem t146_1309 (hR : RS R) (hns : ns < 2 ^ 31) {v4 : Int32} {u5 : Option pm_V} {u6 : Option pm_V} {vs0 : Int32} {vs1 : Int32}  (k1 : (vs1 = vs0) → pW ns d 146 23 [some (pm_r 99 0), some (pm_r 0 0), some (pm_r 20 0), some (pm_r 60 0), some (pm_i (v4 + (nI 6))), u5, u6] [] (mm x R Z Y o A c G g) Q) (k2 : (¬ (vs1 = vs0)) → Q (.inl (some (pm_i (nI 0))), (mm x R Z Y o A c G g))) : pW ns d 146 1309 [some (pm_r 99 0), some (pm_r 0 0), some (pm_r 20 0), some (pm_r 60 0), some (pm_i v4), u5, u6] [pm_i vs0, pm_i vs1] (mm x R Z Y o A c G g) Q := by
  refine b146_1309 hR hns  (fun h1 => ?_) (fun h1 => ?_)
  · skip
    exact b146_1339 hR hns   (k1 h1)
  · skip
    exact b146_1312 hR hns   (k2 h1)
set_option maxRecDepth 20000 in
theorem t146_1334 (hR : RS R) (hns : ns < 2 ^ 31) {v4 : Int32} {u5 : Option pm_V} {u6 : Option pm_V} {vs0 : Int32} {vs1 : Int32}  (k1 : (vs1 = vs0) → pW ns d 146 23 [some (pm_r 99 0), some (pm_r 0 0), some (pm_r 20 0), some (pm_r 60 0), some (pm_i (v4 + (nI 6))), u5, u6] [] (mm x R Z Y o A c G g) Q) (k2 : (¬ (vs1 = vs0)) → Q (.inl (some (pm_i (nI 0))), (mm x R Z Y o A c G g))) : pW ns d 146 1334 [some (pm_r 99 0), some (pm_r 0 0), some (pm_r 20 0), some (pm_r 60 0), some (pm_i v4), u5, u6] [pm_i vs0, pm_i vs1] (mm x R Z Y o A c G g) Q := by
  refine b146_1334 hR hns  (fun h1 => ?_) (fun h1 => ?_)
  · skip
    exact b146_1339 hR hns   (k1 h1)
  · skip
    exact b146_1337 hR hns   (k2 h1)
set_option maxRecDepth 20000 in
theorem t146_184 (hR : RS R) (hns : ns < 2 ^ 31) {v4 : Int32} {v5 : Int32} {v6 : Int32} {vs0 : Int32}  (k1 : (vs0 = v5) → (v5 = 0) → (lg_cmp o v6.toInt64 = 0) → pW ns d 146 23 [some (pm_r 99 0), some (pm_r 0 0), some (pm_r 20 0), some (pm_r 60 0), some (pm_i (v4 + (nI 6))), some (pm_i v5), some (pm_i v6)] [] (mm x R Z Y o A c G g) Q) (k2 : (vs0 = v5) → (v5 = 0) → (¬ (lg_cmp o v6.toInt64 = 0)) → Q (.inl (some (pm_i (nI 0))), (mm x R Z Y o A c G g))) (k3 : (vs0 = v5) → (¬ (v5 = 0)) → pW ns d 146 23 [some (pm_r 99 0), some (pm_r 0 0), some (pm_r 20 0), some (pm_r 60 0), some (pm_i (v4 + (nI 6))), some (pm_i v5), some (pm_i v6)] [] (mm x R Z Y o A c G g) Q) (k4 : (¬ (vs0 = v5)) → Q (.inl (some (pm_i (nI 0))), (mm x R Z Y o A c G g))) : pW ns d 146 184 [some (pm_r 99 0), some (pm_r 0 0), some (pm_r 20 0), some (pm_r 60 0), some (pm_i v4), some (pm_i v5), some (pm_i v6)] [pm_i vs0] (mm x R Z Y o A c G g) Q := by
  refine b146_184 hR hns  (fun h1 => ?_) (fun h1 => ?_)
  · skip
    refine b146_191 hR hns   (fun h2 => ?_) (fun h2 => ?_)
    · skip
      refine b146_196 hR hns   (fun h3 => ?_) (fun h3 => ?_)
      · skip
        exact b146_208 hR hns   (k1 h1 h2 h3)
      · skip
        exact b146_206 hR hns   (k2 h1 h2 h3)
    · skip
      exact b146_208 hR hns   (k3 h1 h2)
  · skip
    exact b146_189 hR hns   (k4 h1)
set_option maxRecDepth 20000 in
theorem t146_252 (hR : RS R) (hns : ns < 2 ^ 31) {v4 : Int32} {v5 : Int32} {v6 : Int32} {vs0 : Int32}  (k1 : (vs0 = v5) → (v5 = 0) → (lg_cmp o v6.toInt64 = 0) → pW ns d 146 23 [some (pm_r 99 0), some (pm_r 0 0), some (pm_r 20 0), some (pm_r 60 0), some (pm_i (v4 + (nI 6))), some (pm_i v5), some (pm_i v6)] [] (mm x R Z Y o A c G g) Q) (k2 : (vs0 = v5) → (v5 = 0) → (¬ (lg_cmp o v6.toInt64 = 0)) → Q (.inl (some (pm_i (nI 0))), (mm x R Z Y o A c G g))) (k3 : (vs0 = v5) → (¬ (v5 = 0)) → pW ns d 146 23 [some (pm_r 99 0), some (pm_r 0 0), some (pm_r 20 0), some (pm_r 60 0), some (pm_i (v4 + (nI 6))), some (pm_i v5), some (pm_i v6)] [] (mm x R Z Y o A c G g) Q) (k4 : (¬ (vs0 = v5)) → Q (.inl (some (pm_i (nI 0))), (mm x R Z Y o A c G g))) : pW ns d 146 252 [some (pm_r 99 0), some (pm_r 0 0), some (pm_r 20 0), some (pm_r 60 0), some (pm_i v4), some (pm_i v5), some (pm_i v6)] [pm_i vs0] (mm x R Z Y o A c G g) Q := by
  refine b146_252 hR hns  (fun h1 => ?_) (fun h1 => ?_)
  · skip
    refine b146_259 hR hns   (fun h2 => ?_) (fun h2 => ?_)
    · skip
      refine b146_264 hR hns   (fun h3 => ?_) (fun h3 => ?_)
      · skip
        exact b146_276 hR hns   (k1 h1 h2 h3)
      · skip
        exact b146_274 hR hns   (k2 h1 h2 h3)
    · skip
      exact b146_276 hR hns   (k3 h1 h2)
  · skip
    exact b146_257 hR hns   (k4 h1)
set_option maxRecDepth 20000 in
theorem t146_308 (hR : RS R) (hns : ns < 2 ^ 31) {v4 : Int32} {v5 : Int32} {v6 : Int32} {vs0 : Int32}  (k1 : (vs0 = v5) → (v5 = 0) → (lg_cmp o v6.toInt64 = 0) → pW ns d 146 23 [some (pm_r 99 0), some (pm_r 0 0), some (pm_r 20 0), some (pm_r 60 0), some (pm_i (v4 + (nI 6))), some (pm_i v5), some (pm_i v6)] [] (mm x R Z Y o A c G g) Q) (k2 : (vs0 = v5) → (v5 = 0) → (¬ (lg_cmp o v6.toInt64 = 0)) → Q (.inl (some (pm_i (nI 0))), (mm x R Z Y o A c G g))) (k3 : (vs0 = v5) → (¬ (v5 = 0)) → pW ns d 146 23 [some (pm_r 99 0), some (pm_r 0 0), some (pm_r 20 0), some (pm_r 60 0), some (pm_i (v4 + (nI 6))), some (pm_i v5), some (pm_i v6)] [] (mm x R Z Y o A c G g) Q) (k4 : (¬ (vs0 = v5)) → Q (.inl (some (pm_i (nI 0))), (mm x R Z Y o A c G g))) : pW ns d 146 308 [some (pm_r 99 0), some (pm_r 0 0), some (pm_r 20 0), some (pm_r 60 0), some (pm_i v4), some (pm_i v5), some (pm_i v6)] [pm_i vs0] (mm x R Z Y o A c G g) Q := by
  refine b146_308 hR hns  (fun h1 => ?_) (fun h1 => ?_)
  · skip
    refine b146_315 hR hns   (fun h2 => ?_) (fun h2 => ?_)
    · skip
      refine b146_320 hR hns   (fun h3 => ?_) (fun h3 => ?_)
      · skip
        exact b146_332 hR hns   (k1 h1 h2 h3)
      · skip
        exact b146_330 hR hns   (k2 h1 h2 h3)
    · skip
      exact b146_332 hR hns   (k3 h1 h2)
  · skip
    exact b146_313 hR hns   (k4 h1)
set_option maxRecDepth 20000 in
theorem t146_388 (hR : RS R) (hns : ns < 2 ^ 31) {v4 : Int32} {v5 : Int32} {v6 : Int32} {vs0 : Int32}  (k1 : (vs0 = v5) → (v5 = 0) → (lg_cmp o v6.toInt64 = 0) → pW ns d 146 23 [some (pm_r 99 0), some (pm_r 0 0), some (pm_r 20 0), some (pm_r 60 0), some (pm_i (v4 + (nI 6))), some (pm_i v5), some (pm_i v6)] [] (mm x R Z Y o A c G g) Q) (k2 : (vs0 = v5) → (v5 = 0) → (¬ (lg_cmp o v6.toInt64 = 0)) → Q (.inl (some (pm_i (nI 0))), (mm x R Z Y o A c G g))) (k3 : (vs0 = v5) → (¬ (v5 = 0)) → pW ns d 146 23 [some (pm_r 99 0), some (pm_r 0 0), some (pm_r 20 0), some (pm_r 60 0), some (pm_i (v4 + (nI 6))), some (pm_i v5), some (pm_i v6)] [] (mm x R Z Y o A c G g) Q) (k4 : (¬ (vs0 = v5)) → Q (.inl (some (pm_i (nI 0))), (mm x R Z Y o A c G g))) : pW ns d 146 388 [some (pm_r 99 0), some (pm_r 0 0), some (pm_r 20 0), some (pm_r 60 0), some (pm_i v4), some (pm_i v5), some (pm_i v6)] [pm_i vs0] (mm x R Z Y o A c G g) Q := by
  refine b146_388 hR hns  (fun h1 => ?_) (fun h1 => ?_)
  · skip
    refine b146_395 hR hns   (fun h2 => ?_) (fun h2 => ?_)
    · skip
      refine b146_400 hR hns   (fun h3 => ?_) (fun h3 => ?_)
      · skip
        exact b146_412 hR hns   (k1 h1 h2 h3)
      · skip
        exact b146_410 hR hns   (k2 h1 h2 h3)
    · skip
      exact b146_412 hR hns   (k3 h1 h2)
  · skip
    exact b146_393 hR hns   (k4 h1)
set_option maxRecDepth 20000 in
theorem t146_456 (hR : RS R) (hns : ns < 2 ^ 31) {v4 : Int32} {v5 : Int32} {v6 : Int32} {vs0 : Int32}  (k1 : (vs0 = v5) → (v5 = 0) → (lg_cmp o v6.toInt64 = 0) → pW ns d 146 23 [some (pm_r 99 0), some (pm_r 0 0), some (pm_r 20 0), some (pm_r 60 0), some (pm_i (v4 + (nI 6))), some (pm_i v5), some (pm_i v6)] [] (mm x R Z Y o A c G g) Q) (k2 : (vs0 = v5) → (v5 = 0) → (¬ (lg_cmp o v6.toInt64 = 0)) → Q (.inl (some (pm_i (nI 0))), (mm x R Z Y o A c G g))) (k3 : (vs0 = v5) → (¬ (v5 = 0)) → pW ns d 146 23 [some (pm_r 99 0), some (pm_r 0 0), some (pm_r 20 0), some (pm_r 60 0), some (pm_i (v4 + (nI 6))), some (pm_i v5), some (pm_i v6)] [] (mm x R Z Y o A c G g) Q) (k4 : (¬ (vs0 = v5)) → Q (.inl (some (pm_i (nI 0))), (mm x R Z Y o A c G g))) : pW ns d 146 456 [some (pm_r 99 0), some (pm_r 0 0), some (pm_r 20 0), some (pm_r 60 0), some (pm_i v4), some (pm_i v5), some (pm_i v6)] [pm_i vs0] (mm x R Z Y o A c G g) Q := by
  refine b146_456 hR hns  (fun h1 => ?_) (fun h1 => ?_)
  · skip
    refine b146_463 hR hns   (fun h2 => ?_) (fun h2 => ?_)
    · skip
      refine b146_468 hR hns   (fun h3 => ?_) (fun h3 => ?_)
      · skip
        exact b146_480 hR hns   (k1 h1 h2 h3)
      · skip
        exact b146_478 hR hns   (k2 h1 h2 h3)
    · skip
      exact b146_480 hR hns   (k3 h1 h2)
  · skip
    exact b146_461 hR hns   (k4 h1)
set_option maxRecDepth 20000 in
theorem t146_536 (hR : RS R) (hns : ns < 2 ^ 31) {v4 : Int32} {v5 : Int32} {v6 : Int32} {vs0 : Int32}  (k1 : (vs0 = v5) → (v5 = 0) → (lg_cmp o v6.toInt64 = 0) → pW ns d 146 23 [some (pm_r 99 0), some (pm_r 0 0), some (pm_r 20 0), some (pm_r 60 0), some (pm_i (v4 + (nI 6))), some (pm_i v5), some (pm_i v6)] [] (mm x R Z Y o A c G g) Q) (k2 : (vs0 = v5) → (v5 = 0) → (¬ (lg_cmp o v6.toInt64 = 0)) → Q (.inl (some (pm_i (nI 0))), (mm x R Z Y o A c G g))) (k3 : (vs0 = v5) → (¬ (v5 = 0)) → pW ns d 146 23 [some (pm_r 99 0), some (pm_r 0 0), some (pm_r 20 0), some (pm_r 60 0), some (pm_i (v4 + (nI 6))), some (pm_i v5), some (pm_i v6)] [] (mm x R Z Y o A c G g) Q) (k4 : (¬ (vs0 = v5)) → Q (.inl (some (pm_i (nI 0))), (mm x R Z Y o A c G g))) : pW ns d 146 536 [some (pm_r 99 0), some (pm_r 0 0), some (pm_r 20 0), some (pm_r 60 0), some (pm_i v4), some (pm_i v5), some (pm_i v6)] [pm_i vs0] (mm x R Z Y o A c G g) Q := by
  refine b146_536 hR hns  (fun h1 => ?_) (fun h1 => ?_)
  · skip
    refine b146_543 hR hns   (fun h2 => ?_) (fun h2 => ?_)
    · skip
      refine b146_548 hR hns   (fun h3 => ?_) (fun h3 => ?_)
      · skip
        exact b146_560 hR hns   (k1 h1 h2 h3)
      · skip
        exact b146_558 hR hns   (k2 h1 h2 h3)
    · skip
      exact b146_560 hR hns   (k3 h1 h2)
  · skip
    exact b146_541 hR hns   (k4 h1)
set_option maxRecDepth 20000 in
theorem t146_660 (hR : RS R) (hns : ns < 2 ^ 31) {v4 : Int32} {v5 : Int32} {v6 : Int32} {vs0 : Int32}  (k1 : (vs0 = v5) → (v5 = 0) → (lg_cmp o v6.toInt64 = 0) → pW ns d 146 23 [some (pm_r 99 0), some (pm_r 0 0), some (pm_r 20 0), some (pm_r 60 0), some (pm_i (v4 + (nI 6))), some (pm_i v5), some (pm_i v6)] [] (mm x R Z Y o A c G g) Q) (k2 : (vs0 = v5) → (v5 = 0) → (¬ (lg_cmp o v6.toInt64 = 0)) → Q (.inl (some (pm_i (nI 0))), (mm x R Z Y o A c G g))) (k3 : (vs0 = v5) → (¬ (v5 = 0)) → pW ns d 146 23 [some (pm_r 99 0), some (pm_r 0 0), some (pm_r 20 0), some (pm_r 60 0), some (pm_i (v4 + (nI 6))), some (pm_i v5), some (pm_i v6)] [] (mm x R Z Y o A c G g) Q) (k4 : (¬ (vs0 = v5)) → Q (.inl (some (pm_i (nI 0))), (mm x R Z Y o A c G g))) : pW ns d 146 660 [some (pm_r 99 0), some (pm_r 0 0), some (pm_r 20 0), some (pm_r 60 0), some (pm_i v4), some (pm_i v5), some (pm_i v6)] [pm_i vs0] (mm x R Z Y o A c G g) Q := by
  refine b146_660 hR hns  (fun h1 => ?_) (fun h1 => ?_)
  · skip
    refine b146_667 hR hns   (fun h2 => ?_) (fun h2 => ?_)
    · skip
      refine b146_672 hR hns   (fun h3 => ?_) (fun h3 => ?_)
      · skip
        exact b146_684 hR hns   (k1 h1 h2 h3)
      · skip
        exact b146_682 hR hns   (k2 h1 h2 h3)
    · skip
      exact b146_684 hR hns   (k3 h1 h2)
  · skip
    exact b146_665 hR hns   (k4 h1)
set_option maxRecDepth 20000 in
theorem t146_800 (hR : RS R) (hns : ns < 2 ^ 31) {v4 : Int32} {v5 : Int32} {v6 : Int32} {vs0 : Int32}  (k1 : (vs0 = v5) → (v5 = 0) → (lg_cmp o v6.toInt64 = 0) → pW ns d 146 23 [some (pm_r 99 0), some (pm_r 0 0), some (pm_r 20 0), some (pm_r 60 0), some (pm_i (v4 + (nI 6))), some (pm_i v5), some (pm_i v6)] [] (mm x R Z Y o A c G g) Q) (k2 : (vs0 = v5) → (v5 = 0) → (¬ (lg_cmp o v6.toInt64 = 0)) → Q (.inl (some (pm_i (nI 0))), (mm x R Z Y o A c G g))) (k3 : (vs0 = v5) → (¬ (v5 = 0)) → pW ns d 146 23 [some (pm_r 99 0), some (pm_r 0 0), some (pm_r 20 0), some (pm_r 60 0), some (pm_i (v4 + (nI 6))), some (pm_i v5), some (pm_i v6)] [] (mm x R Z Y o A c G g) Q) (k4 : (¬ (vs0 = v5)) → Q (.inl (some (pm_i (nI 0))), (mm x R Z Y o A c G g))) : pW ns d 146 800 [some (pm_r 99 0), some (pm_r 0 0), some (pm_r 20 0), some (pm_r 60 0), some (pm_i v4), some (pm_i v5), some (pm_i v6)] [pm_i vs0] (mm x R Z Y o A c G g) Q := by
  refine b146_800 hR hns  (fun h1 => ?_) (fun h1 => ?_)
  · skip
    refine b146_807 hR hns   (fun h2 => ?_) (fun h2 => ?_)
    · skip
      refine b146_812 hR hns   (fun h3 => ?_) (fun h3 => ?_)
      · skip
        exact b146_824 hR hns   (k1 h1 h2 h3)
      · skip
        exact b146_822 hR hns   (k2 h1 h2 h3)
    · skip
      exact b146_824 hR hns   (k3 h1 h2)
  · skip
    exact b146_805 hR hns   (k4 h1)
set_option maxRecDepth 20000 in
theorem t146_880 (hR : RS R) (hns : ns < 2 ^ 31) {v4 : Int32} {v5 : Int32} {v6 : Int32} {vs0 : Int32}  (k1 : (vs0 = v5) → (v5 = 0) → (lg_cmp o v6.toInt64 = 0) → pW ns d 146 23 [some (pm_r 99 0), some (pm_r 0 0), some (pm_r 20 0), some (pm_r 60 0), some (pm_i (v4 + (nI 6))), some (pm_i v5), some (pm_i v6)] [] (mm x R Z Y o A c G g) Q) (k2 : (vs0 = v5) → (v5 = 0) → (¬ (lg_cmp o v6.toInt64 = 0)) → Q (.inl (some (pm_i (nI 0))), (mm x R Z Y o A c G g))) (k3 : (vs0 = v5) → (¬ (v5 = 0)) → pW ns d 146 23 [some (pm_r 99 0), some (pm_r 0 0), some (pm_r 20 0), some (pm_r 60 0), some (pm_i (v4 + (nI 6))), some (pm_i v5), some (pm_i v6)] [] (mm x R Z Y o A c G g) Q) (k4 : (¬ (vs0 = v5)) → Q (.inl (some (pm_i (nI 0))), (mm x R Z Y o A c G g))) : pW ns d 146 880 [some (pm_r 99 0), some (pm_r 0 0), some (pm_r 20 0), some (pm_r 60 0), some (pm_i v4), some (pm_i v5), some (pm_i v6)] [pm_i vs0] (mm x R Z Y o A c G g) Q := by
  refine b146_880 hR hns  (fun h1 => ?_) (fun h1 => ?_)
  · skip
    refine b146_887 hR hns   (fun h2 => ?_) (fun h2 => ?_)
    · skip
      refine b146_892 hR hns   (fun h3 => ?_) (fun h3 => ?_)
      · skip
        exact b146_904 hR hns   (k1 h1 h2 h3)
      · skip
        exact b146_902 hR hns   (k2 h1 h2 h3)
    · skip
      exact b146_904 hR hns   (k3 h1 h2)
  · skip
    exact b146_885 hR hns   (k4 h1)
set_option maxRecDepth 20000 in
theorem t146_960 (hR : RS R) (hns : ns < 2 ^ 31) {v4 : Int32} {v5 : Int32} {v6 : Int32} {vs0 : Int32}  (k1 : (vs0 = v5) → (v5 = 0) → (lg_cmp o v6.toInt64 = 0) → pW ns d 146 23 [some (pm_r 99 0), some (pm_r 0 0), some (pm_r 20 0), some (pm_r 60 0), some (pm_i (v4 + (nI 6))), some (pm_i v5), some (pm_i v6)] [] (mm x R Z Y o A c G g) Q) (k2 : (vs0 = v5) → (v5 = 0) → (¬ (lg_cmp o v6.toInt64 = 0)) → Q (.inl (some (pm_i (nI 0))), (mm x R Z Y o A c G g))) (k3 : (vs0 = v5) → (¬ (v5 = 0)) → pW ns d 146 23 [some (pm_r 99 0), some (pm_r 0 0), some (pm_r 20 0), some (pm_r 60 0), some (pm_i (v4 + (nI 6))), some (pm_i v5), some (pm_i v6)] [] (mm x R Z Y o A c G g) Q) (k4 : (¬ (vs0 = v5)) → Q (.inl (some (pm_i (nI 0))), (mm x R Z Y o A c G g))) : pW ns d 146 960 [some (pm_r 99 0), some (pm_r 0 0), some (pm_r 20 0), some (pm_r 60 0), some (pm_i v4), some (pm_i v5), some (pm_i v6)] [pm_i vs0] (mm x R Z Y o A c G g) Q := by
  refine b146_960 hR hns  (fun h1 => ?_) (fun h1 => ?_)
  · skip
    refine b146_967 hR hns   (fun h2 => ?_) (fun h2 => ?_)
    · skip
      refine b146_972 hR hns   (fun h3 => ?_) (fun h3 => ?_)
      · skip
        exact b146_984 hR hns   (k1 h1 h2 h3)
      · skip
        exact b146_982 hR hns   (k2 h1 h2 h3)
    · skip
      exact b146_984 hR hns   (k3 h1 h2)
  · skip
    exact b146_965 hR hns   (k4 h1)
set_option maxRecDepth 20000 in
theorem t146_1028 (hR : RS R) (hns : ns < 2 ^ 31) {v4 : Int32} {v5 : Int32} {v6 : Int32} {vs0 : Int32}  (k1 : (vs0 = v5) → (v5 = 0) → (lg_cmp o v6.toInt64 = 0) → pW ns d 146 23 [some (pm_r 99 0), some (pm_r 0 0), some (pm_r 20 0), some (pm_r 60 0), some (pm_i (v4 + (nI 6))), some (pm_i v5), some (pm_i v6)] [] (mm x R Z Y o A c G g) Q) (k2 : (vs0 = v5) → (v5 = 0) → (¬ (lg_cmp o v6.toInt64 = 0)) → Q (.inl (some (pm_i (nI 0))), (mm x R Z Y o A c G g))) (k3 : (vs0 = v5) → (¬ (v5 = 0)) → pW ns d 146 23 [some (pm_r 99 0), some (pm_r 0 0), some (pm_r 20 0), some (pm_r 60 0), some (pm_i (v4 + (nI 6))), some (pm_i v5), some (pm_i v6)] [] (mm x R Z Y o A c G g) Q) (k4 : (¬ (vs0 = v5)) → Q (.inl (some (pm_i (nI 0))), (mm x R Z Y o A c G g))) : pW ns d 146 1028 [some (pm_r 99 0), some (pm_r 0 0), some (pm_r 20 0), some (pm_r 60 0), some (pm_i v4), some (pm_i v5), some (pm_i v6)] [pm_i vs0] (mm x R Z Y o A c G g) Q := by
  refine b146_1028 hR hns  (fun h1 => ?_) (fun h1 => ?_)
  · skip
    refine b146_1035 hR hns   (fun h2 => ?_) (fun h2 => ?_)
    · skip
      refine b146_1040 hR hns   (fun h3 => ?_) (fun h3 => ?_)
      · skip
        exact b146_1052 hR hns   (k1 h1 h2 h3)
      · skip
        exact b146_1050 hR hns   (k2 h1 h2 h3)
    · skip
      exact b146_1052 hR hns   (k3 h1 h2)
  · skip
    exact b146_1033 hR hns   (k4 h1)
set_option maxRecDepth 20000 in
theorem t146_1108 (hR : RS R) (hns : ns < 2 ^ 31) {v4 : Int32} {v5 : Int32} {v6 : Int32} {vs0 : Int32}  (k1 : (vs0 = v5) → (v5 = 0) → (lg_cmp o v6.toInt64 = 0) → pW ns d 146 23 [some (pm_r 99 0), some (pm_r 0 0), some (pm_r 20 0), some (pm_r 60 0), some (pm_i (v4 + (nI 6))), some (pm_i v5), some (pm_i v6)] [] (mm x R Z Y o A c G g) Q) (k2 : (vs0 = v5) → (v5 = 0) → (¬ (lg_cmp o v6.toInt64 = 0)) → Q (.inl (some (pm_i (nI 0))), (mm x R Z Y o A c G g))) (k3 : (vs0 = v5) → (¬ (v5 = 0)) → pW ns d 146 23 [some (pm_r 99 0), some (pm_r 0 0), some (pm_r 20 0), some (pm_r 60 0), some (pm_i (v4 + (nI 6))), some (pm_i v5), some (pm_i v6)] [] (mm x R Z Y o A c G g) Q) (k4 : (¬ (vs0 = v5)) → Q (.inl (some (pm_i (nI 0))), (mm x R Z Y o A c G g))) : pW ns d 146 1108 [some (pm_r 99 0), some (pm_r 0 0), some (pm_r 20 0), some (pm_r 60 0), some (pm_i v4), some (pm_i v5), some (pm_i v6)] [pm_i vs0] (mm x R Z Y o A c G g) Q := by
  refine b146_1108 hR hns  (fun h1 => ?_) (fun h1 => ?_)
  · skip
    refine b146_1115 hR hns   (fun h2 => ?_) (fun h2 => ?_)
    · skip
      refine b146_1120 hR hns   (fun h3 => ?_) (fun h3 => ?_)
      · skip
        exact b146_1132 hR hns   (k1 h1 h2 h3)
      · skip
        exact b146_1130 hR hns   (k2 h1 h2 h3)
    · skip
      exact b146_1132 hR hns   (k3 h1 h2)
  · skip
    exact b146_1113 hR hns   (k4 h1)
set_option maxRecDepth 20000 in
theorem t146_1176 (hR : RS R) (hns : ns < 2 ^ 31) {v4 : Int32} {v5 : Int32} {v6 : Int32} {vs0 : Int32}  (k1 : (vs0 = v5) → (v5 = 0) → (lg_cmp o v6.toInt64 = 0) → pW ns d 146 23 [some (pm_r 99 0), some (pm_r 0 0), some (pm_r 20 0), some (pm_r 60 0), some (pm_i (v4 + (nI 6))), some (pm_i v5), some (pm_i v6)] [] (mm x R Z Y o A c G g) Q) (k2 : (vs0 = v5) → (v5 = 0) → (¬ (lg_cmp o v6.toInt64 = 0)) → Q (.inl (some (pm_i (nI 0))), (mm x R Z Y o A c G g))) (k3 : (vs0 = v5) → (¬ (v5 = 0)) → pW ns d 146 23 [some (pm_r 99 0), some (pm_r 0 0), some (pm_r 20 0), some (pm_r 60 0), some (pm_i (v4 + (nI 6))), some (pm_i v5), some (pm_i v6)] [] (mm x R Z Y o A c G g) Q) (k4 : (¬ (vs0 = v5)) → Q (.inl (some (pm_i (nI 0))), (mm x R Z Y o A c G g))) : pW ns d 146 1176 [some (pm_r 99 0), some (pm_r 0 0), some (pm_r 20 0), some (pm_r 60 0), some (pm_i v4), some (pm_i v5), some (pm_i v6)] [pm_i vs0] (mm x R Z Y o A c G g) Q := by
  refine b146_1176 hR hns  (fun h1 => ?_) (fun h1 => ?_)
  · skip
    refine b146_1183 hR hns   (fun h2 => ?_) (fun h2 => ?_)
    · skip
      refine b146_1188 hR hns   (fun h3 => ?_) (fun h3 => ?_)
      · skip
        exact b146_1200 hR hns   (k1 h1 h2 h3)
      · skip
        exact b146_1198 hR hns   (k2 h1 h2 h3)
    · skip
      exact b146_1200 hR hns   (k3 h1 h2)
  · skip
    exact b146_1181 hR hns   (k4 h1)
set_option maxRecDepth 20000 in
theorem t146_191 (hR : RS R) (hns : ns < 2 ^ 31) {v4 : Int32} {v5 : Int32} {v6 : Int32}  (k1 : (v5 = 0) → (lg_cmp o v6.toInt64 = 0) → pW ns d 146 23 [some (pm_r 99 0), some (pm_r 0 0), some (pm_r 20 0), some (pm_r 60 0), some (pm_i (v4 + (nI 6))), some (pm_i v5), some (pm_i v6)] [] (mm x R Z Y o A c G g) Q) (k2 : (v5 = 0) → (¬ (lg_cmp o v6.toInt64 = 0)) → Q (.inl (some (pm_i (nI 0))), (mm x R Z Y o A c G g))) (k3 : (¬ (v5 = 0)) → pW ns d 146 23 [some (pm_r 99 0), some (pm_r 0 0), some (pm_r 20 0), some (pm_r 60 0), some (pm_i (v4 + (nI 6))), some (pm_i v5), some (pm_i v6)] [] (mm x R Z Y o A c G g) Q) : pW ns d 146 191 [some (pm_r 99 0), some (pm_r 0 0), some (pm_r 20 0), some (pm_r 60 0), some (pm_i v4), some (pm_i v5), some (pm_i v6)] [] (mm x R Z Y o A c G g) Q := by
  refine b146_191 hR hns  (fun h1 => ?_) (fun h1 => ?_)
  · skip
    refine b146_196 hR hns   (fun h2 => ?_) (fun h2 => ?_)
    · skip
      exact b146_208 hR hns   (k1 h1 h2)
    · skip
      exact b146_206 hR hns   (k2 h1 h2)
  · skip
    exact b146_208 hR hns   (k3 h1)
set_option maxRecDepth 20000 in
theorem t146_259 (hR : RS R) (hns : ns < 2 ^ 31) {v4 : Int32} {v5 : Int32} {v6 : Int32}  (k1 : (v5 = 0) → (lg_cmp o v6.toInt64 = 0) → pW ns d 146 23 [some (pm_r 99 0), some (pm_r 0 0), some (pm_r 20 0), some (pm_r 60 0), some (pm_i (v4 + (nI 6))), some (pm_i v5), some (pm_i v6)] [] (mm x R Z Y o A c G g) Q) (k2 : (v5 = 0) → (¬ (lg_cmp o v6.toInt64 = 0)) → Q (.inl (some (pm_i (nI 0))), (mm x R Z Y o A c G g))) (k3 : (¬ (v5 = 0)) → pW ns d 146 23 [some (pm_r 99 0), some (pm_r 0 0), some (pm_r 20 0), some (pm_r 60 0), some (pm_i (v4 + (nI 6))), some (pm_i v5), some (pm_i v6)] [] (mm x R Z Y o A c G g) Q) : pW ns d 146 259 [some (pm_r 99 0), some (pm_r 0 0), some (pm_r 20 0), some (pm_r 60 0), some (pm_i v4), some (pm_i v5), some (pm_i v6)] [] (mm x R Z Y o A c G g) Q := by
  refine b146_259 hR hns  (fun h1 => ?_) (fun h1 => ?_)
  · skip
    refine b146_264 hR hns   (fun h2 => ?_) (fun h2 => ?_)
    · skip
      exact b146_276 hR hns   (k1 h1 h2)
    · skip
      exact b146_274 hR hns   (k2 h1 h2)
  · skip
    exact b146_276 hR hns   (k3 h1)
set_option maxRecDepth 20000 in
theorem t146_315 (hR : RS R) (hns : ns < 2 ^ 31) {v4 : Int32} {v5 : Int32} {v6 : Int32}  (k1 : (v5 = 0) → (lg_cmp o v6.toInt64 = 0) → pW ns d 146 23 [some (pm_r 99 0), some (pm_r 0 0), some (pm_r 20 0), some (pm_r 60 0), some (pm_i (v4 + (nI 6))), some (pm_i v5), some (pm_i v6)] [] (mm x R Z Y o A c G g) Q) (k2 : (v5 = 0) → (¬ (lg_cmp o v6.toInt64 = 0)) → Q (.inl (some (pm_i (nI 0))), (mm x R Z Y o A c G g))) (k3 : (¬ (v5 = 0)) → pW ns d 146 23 [some (pm_r 99 0), some (pm_r 0 0), some (pm_r 20 0), some (pm_r 60 0), some (pm_i (v4 + (nI 6))), some (pm_i v5), some (pm_i v6)] [] (mm x R Z Y o A c G g) Q) : pW ns d 146 315 [some (pm_r 99 0), some (pm_r 0 0), some (pm_r 20 0), some (pm_r 60 0), some (pm_i v4), some (pm_i v5), some (pm_i v6)] [] (mm x R Z Y o A c G g) Q := by
  refine b146_315 hR hns  (fun h1 => ?_) (fun h1 => ?_)
  · skip
    refine b146_320 hR hns   (fun h2 => ?_) (fun h2 => ?_)
    · skip
      exact b146_332 hR hns   (k1 h1 h2)
    · skip
      exact b146_330 hR hns   (k2 h1 h2)
  · skip
    exact b146_332 hR hns   (k3 h1)
set_option maxRecDepth 20000 in
theorem t146_395 (hR : RS R) (hns : ns < 2 ^ 31) {v4 : Int32} {v5 : Int32} {v6 : Int32}  (k1 : (v5 = 0) → (lg_cmp o v6.toInt64 = 0) → pW ns d 146 23 [some (pm_r 99 0), some (pm_r 0 0), some (pm_r 20 0), some (pm_r 60 0), some (pm_i (v4 + (nI 6))), some (pm_i v5), some (pm_i v6)] [] (mm x R Z Y o A c G g) Q) (k2 : (v5 = 0) → (¬ (lg_cmp o v6.toInt64 = 0)) → Q (.inl (some (pm_i (nI 0))), (mm x R Z Y o A c G g))) (k3 : (¬ (v5 = 0)) → pW ns d 146 23 [some (pm_r 99 0), some (pm_r 0 0), some (pm_r 20 0), some (pm_r 60 0), some (pm_i (v4 + (nI 6))), some (pm_i v5), some (pm_i v6)] [] (mm x R Z Y o A c G g) Q) : pW ns d 146 395 [some (pm_r 99 0), some (pm_r 0 0), some (pm_r 20 0), some (pm_r 60 0), some (pm_i v4), some (pm_i v5), some (pm_i v6)] [] (mm x R Z Y o A c G g) Q := by
  refine b146_395 hR hns  (fun h1 => ?_) (fun h1 => ?_)
  · skip
    refine b146_400 hR hns   (fun h2 => ?_) (fun h2 => ?_)
    · skip
      exact b146_412 hR hns   (k1 h1 h2)
    · skip
      exact b146_410 hR hns   (k2 h1 h2)
  · skip
    exact b146_412 hR hns   (k3 h1)
set_option maxRecDepth 20000 in
theorem t146_463 (hR : RS R) (hns : ns < 2 ^ 31) {v4 : Int32} {v5 : Int32} {v6 : Int32}  (k1 : (v5 = 0) → (lg_cmp o v6.toInt64 = 0) → pW ns d 146 23 [some (pm_r 99 0), some (pm_r 0 0), some (pm_r 20 0), some (pm_r 60 0), some (pm_i (v4 + (nI 6))), some (pm_i v5), some (pm_i v6)] [] (mm x R Z Y o A c G g) Q) (k2 : (v5 = 0) → (¬ (lg_cmp o v6.toInt64 = 0)) → Q (.inl (some (pm_i (nI 0))), (mm x R Z Y o A c G g))) (k3 : (¬ (v5 = 0)) → pW ns d 146 23 [some (pm_r 99 0), some (pm_r 0 0), some (pm_r 20 0), some (pm_r 60 0), some (pm_i (v4 + (nI 6))), some (pm_i v5), some (pm_i v6)] [] (mm x R Z Y o A c G g) Q) : pW ns d 146 463 [some (pm_r 99 0), some (pm_r 0 0), some (pm_r 20 0), some (pm_r 60 0), some (pm_i v4), some (pm_i v5), some (pm_i v6)] [] (mm x R Z Y o A c G g) Q := by
  refine b146_463 hR hns  (fun h1 => ?_) (fun h1 => ?_)
  · skip
    refine b146_468 hR hns   (fun h2 => ?_) (fun h2 => ?_)
    · skip
      exact b146_480 hR hns   (k1 h1 h2)
    · skip
      exact b146_478 hR hns   (k2 h1 h2)
  · skip
    exact b146_480 hR hns   (k3 h1)
set_option maxRecDepth 20000 in
theorem t146_543 (hR : RS R) (hns : ns < 2 ^ 31) {v4 : Int32} {v5 : Int32} {v6 : Int32}  (k1 : (v5 = 0) → (lg_cmp o v6.toInt64 = 0) → pW ns d 146 23 [some (pm_r 99 0), some (pm_r 0 0), some (pm_r 20 0), some (pm_r 60 0), some (pm_i (v4 + (nI 6))), some (pm_i v5), some (pm_i v6)] [] (mm x R Z Y o A c G g) Q) (k2 : (v5 = 0) → (¬ (lg_cmp o v6.toInt64 = 0)) → Q (.inl (some (pm_i (nI 0))), (mm x R Z Y o A c G g))) (k3 : (¬ (v5 = 0)) → pW ns d 146 23 [some (pm_r 99 0), some (pm_r 0 0), some (pm_r 20 0), some (pm_r 60 0), some (pm_i (v4 + (nI 6))), some (pm_i v5), some (pm_i v6)] [] (mm x R Z Y o A c G g) Q) : pW ns d 146 543 [some (pm_r 99 0), some (pm_r 0 0), some (pm_r 20 0), some (pm_r 60 0), some (pm_i v4), some (pm_i v5), some (pm_i v6)] [] (mm x R Z Y o A c G g) Q := by
  refine b146_543 hR hns  (fun h1 => ?_) (fun h1 => ?_)
  · skip
    refine b146_548 hR hns   (fun h2 => ?_) (fun h2 => ?_)
    · skip
      exact b146_560 hR hns   (k1 h1 h2)
    · skip
      exact b146_558 hR hns   (k2 h1 h2)
  · skip
    exact b146_560 hR hns   (k3 h1)
set_option maxRecDepth 20000 in
theorem t146_667 (hR : RS R) (hns : ns < 2 ^ 31) {v4 : Int32} {v5 : Int32} {v6 : Int32}  (k1 : (v5 = 0) → (lg_cmp o v6.toInt64 = 0) → pW ns d 146 23 [some (pm_r 99 0), some (pm_r 0 0), some (pm_r 20 0), some (pm_r 60 0), some (pm_i (v4 + (nI 6))), some (pm_i v5), some (pm_i v6)] [] (mm x R Z Y o A c G g) Q) (k2 : (v5 = 0) → (¬ (lg_cmp o v6.toInt64 = 0)) → Q (.inl (some (pm_i (nI 0))), (mm x R Z Y o A c G g))) (k3 : (¬ (v5 = 0)) → pW ns d 146 23 [some (pm_r 99 0), some (pm_r 0 0), some (pm_r 20 0), some (pm_r 60 0), some (pm_i (v4 + (nI 6))), some (pm_i v5), some (pm_i v6)] [] (mm x R Z Y o A c G g) Q) : pW ns d 146 667 [some (pm_r 99 0), some (pm_r 0 0), some (pm_r 20 0), some (pm_r 60 0), some (pm_i v4), some (pm_i v5), some (pm_i v6)] [] (mm x R Z Y o A c G g) Q := by
  refine b146_667 hR hns  (fun h1 => ?_) (fun h1 => ?_)
  · skip
    refine b146_672 hR hns   (fun h2 => ?_) (fun h2 => ?_)
    · skip
      exact b146_684 hR hns   (k1 h1 h2)
    · skip
      exact b146_682 hR hns   (k2 h1 h2)
  · skip
    exact b146_684 hR hns   (k3 h1)
set_option maxRecDepth 20000 in
theorem t146_807 (hR : RS R) (hns : ns < 2 ^ 31) {v4 : Int32} {v5 : Int32} {v6 : Int32}  (k1 : (v5 = 0) → (lg_cmp o v6.toInt64 = 0) → pW ns d 146 23 [some (pm_r 99 0), some (pm_r 0 0), some (pm_r 20 0), some (pm_r 60 0), some (pm_i (v4 + (nI 6))), some (pm_i v5), some (pm_i v6)] [] (mm x R Z Y o A c G g) Q) (k2 : (v5 = 0) → (¬ (lg_cmp o v6.toInt64 = 0)) → Q (.inl (some (pm_i (nI 0))), (mm x R Z Y o A c G g))) (k3 : (¬ (v5 = 0)) → pW ns d 146 23 [some (pm_r 99 0), some (pm_r 0 0), some (pm_r 20 0), some (pm_r 60 0), some (pm_i (v4 + (nI 6))), some (pm_i v5), some (pm_i v6)] [] (mm x R Z Y o A c G g) Q) : pW ns d 146 807 [some (pm_r 99 0), some (pm_r 0 0), some (pm_r 20 0), some (pm_r 60 0), some (pm_i v4), some (pm_i v5), some (pm_i v6)] [] (mm x R Z Y o A c G g) Q := by
  refine b146_807 hR hns  (fun h1 => ?_) (fun h1 => ?_)
  · skip
    refine b146_812 hR hns   (fun h2 => ?_) (fun h2 => ?_)
    · skip
      exact b146_824 hR hns   (k1 h1 h2)
    · skip
      exact b146_822 hR hns   (k2 h1 h2)
  · skip
    exact b146_824 hR hns   (k3 h1)
set_option maxRecDepth 20000 in
theorem t146_887 (hR : RS R) (hns : ns < 2 ^ 31) {v4 : Int32} {v5 : Int32} {v6 : Int32}  (k1 : (v5 = 0) → (lg_cmp o v6.toInt64 = 0) → pW ns d 146 23 [some (pm_r 99 0), some (pm_r 0 0), some (pm_r 20 0), some (pm_r 60 0), some (pm_i (v4 + (nI 6))), some (pm_i v5), some (pm_i v6)] [] (mm x R Z Y o A c G g) Q) (k2 : (v5 = 0) → (¬ (lg_cmp o v6.toInt64 = 0)) → Q (.inl (some (pm_i (nI 0))), (mm x R Z Y o A c G g))) (k3 : (¬ (v5 = 0)) → pW ns d 146 23 [some (pm_r 99 0), some (pm_r 0 0), some (pm_r 20 0), some (pm_r 60 0), some (pm_i (v4 + (nI 6))), some (pm_i v5), some (pm_i v6)] [] (mm x R Z Y o A c G g) Q) : pW ns d 146 887 [some (pm_r 99 0), some (pm_r 0 0), some (pm_r 20 0), some (pm_r 60 0), some (pm_i v4), some (pm_i v5), some (pm_i v6)] [] (mm x R Z Y o A c G g) Q := by
  refine b146_887 hR hns  (fun h1 => ?_) (fun h1 => ?_)
  · skip
    refine b146_892 hR hns   (fun h2 => ?_) (fun h2 => ?_)
    · skip
      exact b146_904 hR hns   (k1 h1 h2)
    · skip
      exact b146_902 hR hns   (k2 h1 h2)
  · skip
    exact b146_904 hR hns   (k3 h1)
set_option maxRecDepth 20000 in
theorem t146_967 (hR : RS R) (hns : ns < 2 ^ 31) {v4 : Int32} {v5 : Int32} {v6 : Int32}  (k1 : (v5 = 0) → (lg_cmp o v6.toInt64 = 0) → pW ns d 146 23 [some (pm_r 99 0), some (pm_r 0 0), some (pm_r 20 0), some (pm_r 60 0), some (pm_i (v4 + (nI 6))), some (pm_i v5), some (pm_i v6)] [] (mm x R Z Y o A c G g) Q) (k2 : (v5 = 0) → (¬ (lg_cmp o v6.toInt64 = 0)) → Q (.inl (some (pm_i (nI 0))), (mm x R Z Y o A c G g))) (k3 : (¬ (v5 = 0)) → pW ns d 146 23 [some (pm_r 99 0), some (pm_r 0 0), some (pm_r 20 0), some (pm_r 60 0), some (pm_i (v4 + (nI 6))), some (pm_i v5), some (pm_i v6)] [] (mm x R Z Y o A c G g) Q) : pW ns d 146 967 [some (pm_r 99 0), some (pm_r 0 0), some (pm_r 20 0), some (pm_r 60 0), some (pm_i v4), some (pm_i v5), some (pm_i v6)] [] (mm x R Z Y o A c G g) Q := by
  refine b146_967 hR hns  (fun h1 => ?_) (fun h1 => ?_)
  · skip
    refine b146_972 hR hns   (fun h2 => ?_) (fun h2 => ?_)
    · skip
      exact b146_984 hR hns   (k1 h1 h2)
    · skip
      exact b146_982 hR hns   (k2 h1 h2)
  · skip
    exact b146_984 hR hns   (k3 h1)
set_option maxRecDepth 20000 in
theorem t146_1035 (hR : RS R) (hns : ns < 2 ^ 31) {v4 : Int32} {v5 : Int32} {v6 : Int32}  (k1 : (v5 = 0) → (lg_cmp o v6.toInt64 = 0) → pW ns d 146 23 [some (pm_r 99 0), some (pm_r 0 0), some (pm_r 20 0), some (pm_r 60 0), some (pm_i (v4 + (nI 6))), some (pm_i v5), some (pm_i v6)] [] (mm x R Z Y o A c G g) Q) (k2 : (v5 = 0) → (¬ (lg_cmp o v6.toInt64 = 0)) → Q (.inl (some (pm_i (nI 0))), (mm x R Z Y o A c G g))) (k3 : (¬ (v5 = 0)) → pW ns d 146 23 [some (pm_r 99 0), some (pm_r 0 0), some (pm_r 20 0), some (pm_r 60 0), some (pm_i (v4 + (nI 6))), some (pm_i v5), some (pm_i v6)] [] (mm x R Z Y o A c G g) Q) : pW ns d 146 1035 [some (pm_r 99 0), some (pm_r 0 0), some (pm_r 20 0), some (pm_r 60 0), some (pm_i v4), some (pm_i v5), some (pm_i v6)] [] (mm x R Z Y o A c G g) Q := by
  refine b146_1035 hR hns  (fun h1 => ?_) (fun h1 => ?_)
  · skip
    refine b146_1040 hR hns   (fun h2 => ?_) (fun h2 => ?_)
    · skip
      exact b146_1052 hR hns   (k1 h1 h2)
    · skip
      exact b146_1050 hR hns   (k2 h1 h2)
  · skip
    exact b146_1052 hR hns   (k3 h1)
set_option maxRecDepth 20000 in
theorem t146_1115 (hR : RS R) (hns : ns < 2 ^ 31) {v4 : Int32} {v5 : Int32} {v6 : Int32}  (k1 : (v5 = 0) → (lg_cmp o v6.toInt64 = 0) → pW ns d 146 23 [some (pm_r 99 0), some (pm_r 0 0), some (pm_r 20 0), some (pm_r 60 0), some (pm_i (v4 + (nI 6))), some (pm_i v5), some (pm_i v6)] [] (mm x R Z Y o A c G g) Q) (k2 : (v5 = 0) → (¬ (lg_cmp o v6.toInt64 = 0)) → Q (.inl (some (pm_i (nI 0))), (mm x R Z Y o A c G g))) (k3 : (¬ (v5 = 0)) → pW ns d 146 23 [some (pm_r 99 0), some (pm_r 0 0), some (pm_r 20 0), some (pm_r 60 0), some (pm_i (v4 + (nI 6))), some (pm_i v5), some (pm_i v6)] [] (mm x R Z Y o A c G g) Q) : pW ns d 146 1115 [some (pm_r 99 0), some (pm_r 0 0), some (pm_r 20 0), some (pm_r 60 0), some (pm_i v4), some (pm_i v5), some (pm_i v6)] [] (mm x R Z Y o A c G g) Q := by
  refine b146_1115 hR hns  (fun h1 => ?_) (fun h1 => ?_)
  · skip
    refine b146_1120 hR hns   (fun h2 => ?_) (fun h2 => ?_)
    · skip
      exact b146_1132 hR hns   (k1 h1 h2)
    · skip
      exact b146_1130 hR hns   (k2 h1 h2)
  · skip
    exact b146_1132 hR hns   (k3 h1)
set_option maxRecDepth 20000 in
theorem t146_1183 (hR : RS R) (hns : ns < 2 ^ 31) {v4 : Int32} {v5 : Int32} {v6 : Int32}  (k1 : (v5 = 0) → (lg_cmp o v6.toInt64 = 0) → pW ns d 146 23 [some (pm_r 99 0), some (pm_r 0 0), some (pm_r 20 0), some (pm_r 60 0), some (pm_i (v4 + (nI 6))), some (pm_i v5), some (pm_i v6)] [] (mm x R Z Y o A c G g) Q) (k2 : (v5 = 0) → (¬ (lg_cmp o v6.toInt64 = 0)) → Q (.inl (some (pm_i (nI 0))), (mm x R Z Y o A c G g))) (k3 : (¬ (v5 = 0)) → pW ns d 146 23 [some (pm_r 99 0), some (pm_r 0 0), some (pm_r 20 0), some (pm_r 60 0), some (pm_i (v4 + (nI 6))), some (pm_i v5), some (pm_i v6)] [] (mm x R Z Y o A c G g) Q) : pW ns d 146 1183 [some (pm_r 99 0), some (pm_r 0 0), some (pm_r 20 0), some (pm_r 60 0), some (pm_i v4), some (pm_i v5), some (pm_i v6)] [] (mm x R Z Y o A c G g) Q := by
  refine b146_1183 hR hns  (fun h1 => ?_) (fun h1 => ?_)
  · skip
    refine b146_1188 hR hns   (fun h2 => ?_) (fun h2 => ?_)
    · skip
      exact b146_1200 hR hns   (k1 h1 h2)
    · skip
      exact b146_1198 hR hns   (k2 h1 h2)
  · skip
    exact b146_1200 hR hns   (k3 h1)
set_option maxRecDepth 20000 in
theorem t146_196 (hR : RS R) (hns : ns < 2 ^ 31) {v4 : Int32} {u5 : Option pm_V} {v6 : Int32}  (k1 : (lg_cmp o v6.toInt64 = 0) → pW ns d 146 23 [some (pm_r 99 0), some (pm_r 0 0), some (pm_r 20 0), some (pm_r 60 0), some (pm_i (v4 + (nI 6))), u5, some (pm_i v6)] [] (mm x R Z Y o A c G g) Q) (k2 : (¬ (lg_cmp o v6.toInt64 = 0)) → Q (.inl (some (pm_i (nI 0))), (mm x R Z Y o A c G g))) : pW ns d 146 196 [some (pm_r 99 0), some (pm_r 0 0), some (pm_r 20 0), some (pm_r 60 0), some (pm_i v4), u5, some (pm_i v6)] [] (mm x R Z Y o A c G g) Q := by
  refine b146_196 hR hns  (fun h1 => ?_) (fun h1 => ?_)
  · skip
    exact b146_208 hR hns   (k1 h1)
  · skip
    exact b146_206 hR hns   (k2 h1)
set_option maxRecDepth 20000 in
theorem t146_264 (hR : RS R) (hns : ns < 2 ^ 31) {v4 : Int32} {u5 : Option pm_V} {v6 : Int32}  (k1 : (lg_cmp o v6.toInt64 = 0) → pW ns d 146 23 [some (pm_r 99 0), some (pm_r 0 0), some (pm_r 20 0), some (pm_r 60 0), some (pm_i (v4 + (nI 6))), u5, some (pm_i v6)] [] (mm x R Z Y o A c G g) Q) (k2 : (¬ (lg_cmp o v6.toInt64 = 0)) → Q (.inl (some (pm_i (nI 0))), (mm x R Z Y o A c G g))) : pW ns d 146 264 [some (pm_r 99 0), some (pm_r 0 0), some (pm_r 20 0), some (pm_r 60 0), some (pm_i v4), u5, some (pm_i v6)] [] (mm x R Z Y o A c G g) Q := by
  refine b146_264 hR hns  (fun h1 => ?_) (fun h1 => ?_)
  · skip
    exact b146_276 hR hns   (k1 h1)
  · skip
    exact b146_274 hR hns   (k2 h1)
set_option maxRecDepth 20000 in
theorem t146_320 (hR : RS R) (hns : ns < 2 ^ 31) {v4 : Int32} {u5 : Option pm_V} {v6 : Int32}  (k1 : (lg_cmp o v6.toInt64 = 0) → pW ns d 146 23 [some (pm_r 99 0), some (pm_r 0 0), some (pm_r 20 0), some (pm_r 60 0), some (pm_i (v4 + (nI 6))), u5, some (pm_i v6)] [] (mm x R Z Y o A c G g) Q) (k2 : (¬ (lg_cmp o v6.toInt64 = 0)) → Q (.inl (some (pm_i (nI 0))), (mm x R Z Y o A c G g))) : pW ns d 146 320 [some (pm_r 99 0), some (pm_r 0 0), some (pm_r 20 0), some (pm_r 60 0), some (pm_i v4), u5, some (pm_i v6)] [] (mm x R Z Y o A c G g) Q := by
  refine b146_320 hR hns  (fun h1 => ?_) (fun h1 => ?_)
  · skip
    exact b146_332 hR hns   (k1 h1)
  · skip
    exact b146_330 hR hns   (k2 h1)
set_option maxRecDepth 20000 in
theorem t146_400 (hR : RS R) (hns : ns < 2 ^ 31) {v4 : Int32} {u5 : Option pm_V} {v6 : Int32}  (k1 : (lg_cmp o v6.toInt64 = 0) → pW ns d 146 23 [some (pm_r 99 0), some (pm_r 0 0), some (pm_r 20 0), some (pm_r 60 0), some (pm_i (v4 + (nI 6))), u5, some (pm_i v6)] [] (mm x R Z Y o A c G g) Q) (k2 : (¬ (lg_cmp o v6.toInt64 = 0)) → Q (.inl (some (pm_i (nI 0))), (mm x R Z Y o A c G g))) : pW ns d 146 400 [some (pm_r 99 0), some (pm_r 0 0), some (pm_r 20 0), some (pm_r 60 0), some (pm_i v4), u5, some (pm_i v6)] [] (mm x R Z Y o A c G g) Q := by
  refine b146_400 hR hns  (fun h1 => ?_) (fun h1 => ?_)
  · skip
    exact b146_412 hR hns   (k1 h1)
  · skip
    exact b146_410 hR hns   (k2 h1)
set_option maxRecDepth 20000 in
theorem t146_468 (hR : RS R) (hns : ns < 2 ^ 31) {v4 : Int32} {u5 : Option pm_V} {v6 : Int32}  (k1 : (lg_cmp o v6.toInt64 = 0) → pW ns d 146 23 [some (pm_r 99 0), some (pm_r 0 0), some (pm_r 20 0), some (pm_r 60 0), some (pm_i (v4 + (nI 6))), u5, some (pm_i v6)] [] (mm x R Z Y o A c G g) Q) (k2 : (¬ (lg_cmp o v6.toInt64 = 0)) → Q (.inl (some (pm_i (nI 0))), (mm x R Z Y o A c G g))) : pW ns d 146 468 [some (pm_r 99 0), some (pm_r 0 0), some (pm_r 20 0), some (pm_r 60 0), some (pm_i v4), u5, some (pm_i v6)] [] (mm x R Z Y o A c G g) Q := by
  refine b146_468 hR hns  (fun h1 => ?_) (fun h1 => ?_)
  · skip
    exact b146_480 hR hns   (k1 h1)
  · skip
    exact b146_478 hR hns   (k2 h1)
set_option maxRecDepth 20000 in
theorem t146_548 (hR : RS R) (hns : ns < 2 ^ 31) {v4 : Int32} {u5 : Option pm_V} {v6 : Int32}  (k1 : (lg_cmp o v6.toInt64 = 0) → pW ns d 146 23 [some (pm_r 99 0), some (pm_r 0 0), some (pm_r 20 0), some (pm_r 60 0), some (pm_i (v4 + (nI 6))), u5, some (pm_i v6)] [] (mm x R Z Y o A c G g) Q) (k2 : (¬ (lg_cmp o v6.toInt64 = 0)) → Q (.inl (some (pm_i (nI 0))), (mm x R Z Y o A c G g))) : pW ns d 146 548 [some (pm_r 99 0), some (pm_r 0 0), some (pm_r 20 0), some (pm_r 60 0), some (pm_i v4), u5, some (pm_i v6)] [] (mm x R Z Y o A c G g) Q := by
  refine b146_548 hR hns  (fun h1 => ?_) (fun h1 => ?_)
  · skip
    exact b146_560 hR hns   (k1 h1)
  · skip
    exact b146_558 hR hns   (k2 h1)
set_option maxRecDepth 20000 in
theorem t146_672 (hR : RS R) (hns : ns < 2 ^ 31) {v4 : Int32} {u5 : Option pm_V} {v6 : Int32}  (k1 : (lg_cmp o v6.toInt64 = 0) → pW ns d 146 23 [some (pm_r 99 0), some (pm_r 0 0), some (pm_r 20 0), some (pm_r 60 0), some (pm_i (v4 + (nI 6))), u5, some (pm_i v6)] [] (mm x R Z Y o A c G g) Q) (k2 : (¬ (lg_cmp o v6.toInt64 = 0)) → Q (.inl (some (pm_i (nI 0))), (mm x R Z Y o A c G g))) : pW ns d 146 672 [some (pm_r 99 0), some (pm_r 0 0), some (pm_r 20 0), some (pm_r 60 0), some (pm_i v4), u5, some (pm_i v6)] [] (mm x R Z Y o A c G g) Q := by
  refine b146_672 hR hns  (fun h1 => ?_) (fun h1 => ?_)
  · skip
    exact b146_684 hR hns   (k1 h1)
  · skip
    exact b146_682 hR hns   (k2 h1)
set_option maxRecDepth 20000 in
theorem t146_744 (hR : RS R) (hns : ns < 2 ^ 31) {v4 : Int32} {v5 : Int32} {v6 : Int32} {vs0 : Int32}  (k1 : (vs0 = v5) → (v5 = 0) → (lg_cmp o v6.toInt64 = 0) → pW ns d 146 23 [some (pm_r 99 0), some (pm_r 0 0), some (pm_r 20 0), some (pm_r 60 0), some (pm_i (v4 + (nI 6))), some (pm_i v5), some (pm_i v6)] [] (mm x R Z Y o A c G g) Q) (k2 : (vs0 = v5) → (v5 = 0) → (¬ (lg_cmp o v6.toInt64 = 0)) → Q (.inl (some (pm_i (nI 0))), (mm x R Z Y o A c G g))) (k3 : (vs0 = v5) → (¬ (v5 = 0)) → pW ns d 146 23 [some (pm_r 99 0), some (pm_r 0 0), some (pm_r 20 0), some (pm_r 60 0), some (pm_i (v4 + (nI 6))), some (pm_i v5), some (pm_i v6)] [] (mm x R Z Y o A c G g) Q) (k4 : (¬ (vs0 = v5)) → Q (.inl (some (pm_i (nI 0))), (mm x R Z Y o A c G g))) : pW ns d 146 744 [some (pm_r 99 0), some (pm_r 0 0), some (pm_r 20 0), some (pm_r 60 0), some (pm_i v4), some (pm_i v5), some (pm_i v6)] [pm_i vs0] (mm x R Z Y o A c G g) Q := by
  refine b146_744 hR hns  (fun h1 => ?_) (fun h1 => ?_)
  · skip
    refine b146_751 hR hns   (fun h2 => ?_) (fun h2 => ?_)
    · skip
      refine b146_756 hR hns   (fun h3 => ?_) (fun h3 => ?_)
      · skip
        exact b146_768 hR hns   (k1 h1 h2 h3)
      · skip
        exact b146_766 hR hns   (k2 h1 h2 h3)
    · skip
      exact b146_768 hR hns   (k3 h1 h2)
  · skip
    exact b146_749 hR hns   (k4 h1)
set_option maxRecDepth 20000 in
theorem t146_812 (hR : RS R) (hns : ns < 2 ^ 31) {v4 : Int32} {u5 : Option pm_V} {v6 : Int32}  (k1 : (lg_cmp o v6.toInt64 = 0) → pW ns d 146 23 [some (pm_r 99 0), some (pm_r 0 0), some (pm_r 20 0), some (pm_r 60 0), some (pm_i (v4 + (nI 6))), u5, some (pm_i v6)] [] (mm x R Z Y o A c G g) Q) (k2 : (¬ (lg_cmp o v6.toInt64 = 0)) → Q (.inl (some (pm_i (nI 0))), (mm x R Z Y o A c G g))) : pW ns d 146 812 [some (pm_r 99 0), some (pm_r 0 0), some (pm_r 20 0), some (pm_r 60 0), some (pm_i v4), u5, some (pm_i v6)] [] (mm x R Z Y o A c G g) Q := by
  refine b146_812 hR hns  (fun h1 => ?_) (fun h1 => ?_)
  · skip
    exact b146_824 hR hns   (k1 h1)
  · skip
    exact b146_822 hR hns   (k2 h1)
set_option maxRecDepth 20000 in
theorem t146_892 (hR : RS R) (hns : ns < 2 ^ 31) {v4 : Int32} {u5 : Option pm_V} {v6 : Int32}  (k1 : (lg_cmp o v6.toInt64 = 0) → pW ns d 146 23 [some (pm_r 99 0), some (pm_r 0 0), some (pm_r 20 0), some (pm_r 60 0), some (pm_i (v4 + (nI 6))), u5, some (pm_i v6)] [] (mm x R Z Y o A c G g) Q) (k2 : (¬ (lg_cmp o v6.toInt64 = 0)) → Q (.inl (some (pm_i (nI 0))), (mm x R Z Y o A c G g))) : pW ns d 146 892 [some (pm_r 99 0), some (pm_r 0 0), some (pm_r 20 0), some (pm_r 60 0), some (pm_i v4), u5, some (pm_i v6)] [] (mm x R Z Y o A c G g) Q := by
  refine b146_892 hR hns  (fun h1 => ?_) (fun h1 => ?_)
  · skip
    exact b146_904 hR hns   (k1 h1)
  · skip
    exact b146_902 hR hns   (k2 h1)
set_option maxRecDepth 20000 in
theorem t146_972 (hR : RS R) (hns : ns < 2 ^ 31) {v4 : Int32} {u5 : Option pm_V} {v6 : Int32}  (k1 : (lg_cmp o v6.toInt64 = 0) → pW ns d 146 23 [some (pm_r 99 0), some (pm_r 0 0), some (pm_r 20 0), some (pm_r 60 0), some (pm_i (v4 + (nI 6))), u5, some (pm_i v6)] [] (mm x R Z Y o A c G g) Q) (k2 : (¬ (lg_cmp o v6.toInt64 = 0)) → Q (.inl (some (pm_i (nI 0))), (mm x R Z Y o A c G g))) : pW ns d 146 972 [some (pm_r 99 0), some (pm_r 0 0), some (pm_r 20 0), some (pm_r 60 0), some (pm_i v4), u5, some (pm_i v6)] [] (mm x R Z Y o A c G g) Q := by
  refine b146_972 hR hns  (fun h1 => ?_) (fun h1 => ?_)
  · skip
    exact b146_984 hR hns   (k1 h1)
  · skip
    exact b146_982 hR hns   (k2 h1)
set_option maxRecDepth 20000 in
theorem t146_1040 (hR : RS R) (hns : ns < 2 ^ 31) {v4 : Int32} {u5 : Option pm_V} {v6 : Int32}  (k1 : (lg_cmp o v6.toInt64 = 0) → pW ns d 146 23 [some (pm_r 99 0), some (pm_r 0 0), some (pm_r 20 0), some (pm_r 60 0), some (pm_i (v4 + (nI 6))), u5, some (pm_i v6)] [] (mm x R Z Y o A c G g) Q) (k2 : (¬ (lg_cmp o v6.toInt64 = 0)) → Q (.inl (some (pm_i (nI 0))), (mm x R Z Y o A c G g))) : pW ns d 146 1040 [some (pm_r 99 0), some (pm_r 0 0), some (pm_r 20 0), some (pm_r 60 0), some (pm_i v4), u5, some (pm_i v6)] [] (mm x R Z Y o A c G g) Q := by
  refine b146_1040 hR hns  (fun h1 => ?_) (fun h1 => ?_)
  · skip
    exact b146_1052 hR hns   (k1 h1)
  · skip
    exact b146_1050 hR hns   (k2 h1)
set_option maxRecDepth 20000 in
theorem t146_1120 (hR : RS R) (hns : ns < 2 ^ 31) {v4 : Int32} {u5 : Option pm_V} {v6 : Int32}  (k1 : (lg_cmp o v6.toInt64 = 0) → pW ns d 146 23 [some (pm_r 99 0), some (pm_r 0 0), some (pm_r 20 0), some (pm_r 60 0), some (pm_i (v4 + (nI 6))), u5, some (pm_i v6)] [] (mm x R Z Y o A c G g) Q) (k2 : (¬ (lg_cmp o v6.toInt64 = 0)) → Q (.inl (some (pm_i (nI 0))), (mm x R Z Y o A c G g))) : pW ns d 146 1120 [some (pm_r 99 0), some (pm_r 0 0), some (pm_r 20 0), some (pm_r 60 0), some (pm_i v4), u5, some (pm_i v6)] [] (mm x R Z Y o A c G g) Q := by
  refine b146_1120 hR hns  (fun h1 => ?_) (fun h1 => ?_)
  · skip
    exact b146_1132 hR hns   (k1 h1)
  · skip
    exact b146_1130 hR hns   (k2 h1)
set_option maxRecDepth 20000 in
theorem t146_1188 (hR : RS R) (hns : ns < 2 ^ 31) {v4 : Int32} {u5 : Option pm_V} {v6 : Int32}  (k1 : (lg_cmp o v6.toInt64 = 0) → pW ns d 146 23 [some (pm_r 99 0), some (pm_r 0 0), some (pm_r 20 0), some (pm_r 60 0), some (pm_i (v4 + (nI 6))), u5, some (pm_i v6)] [] (mm x R Z Y o A c G g) Q) (k2 : (¬ (lg_cmp o v6.toInt64 = 0)) → Q (.inl (some (pm_i (nI 0))), (mm x R Z Y o A c G g))) : pW ns d 146 1188 [some (pm_r 99 0), some (pm_r 0 0), some (pm_r 20 0), some (pm_r 60 0), some (pm_i v4), u5, some (pm_i v6)] [] (mm x R Z Y o A c G g) Q := by
  refine b146_1188 hR hns  (fun h1 => ?_) (fun h1 => ?_)
  · skip
    exact b146_1200 hR hns   (k1 h1)
  · skip
    exact b146_1198 hR hns   (k2 h1)
set_option maxRecDepth 20000 in
theorem t146_751 (hR : RS R) (hns : ns < 2 ^ 31) {v4 : Int32} {v5 : Int32} {v6 : Int32}  (k1 : (v5 = 0) → (lg_cmp o v6.toInt64 = 0) → pW ns d 146 23 [some (pm_r 99 0), some (pm_r 0 0), some (pm_r 20 0), some (pm_r 60 0), some (pm_i (v4 + (nI 6))), some (pm_i v5), some (pm_i v6)] [] (mm x R Z Y o A c G g) Q) (k2 : (v5 = 0) → (¬ (lg_cmp o v6.toInt64 = 0)) → Q (.inl (some (pm_i (nI 0))), (mm x R Z Y o A c G g))) (k3 : (¬ (v5 = 0)) → pW ns d 146 23 [some (pm_r 99 0), some (pm_r 0 0), some (pm_r 20 0), some (pm_r 60 0), some (pm_i (v4 + (nI 6))), some (pm_i v5), some (pm_i v6)] [] (mm x R Z Y o A c G g) Q) : pW ns d 146 751 [some (pm_r 99 0), some (pm_r 0 0), some (pm_r 20 0), some (pm_r 60 0), some (pm_i v4), some (pm_i v5), some (pm_i v6)] [] (mm x R Z Y o A c G g) Q := by
  refine b146_751 hR hns  (fun h1 => ?_) (fun h1 => ?_)
  · skip
    refine b146_756 hR hns   (fun h2 => ?_) (fun h2 => ?_)
    · skip
      exact b146_768 hR hns   (k1 h1 h2)
    · skip
      exact b146_766 hR hns   (k2 h1 h2)
  · skip
    exact b146_768 hR hns   (k3 h1)
set_option maxRecDepth 20000 in
theorem t146_756 (hR : RS R) (hns : ns < 2 ^ 31) {v4 : Int32} {u5 : Option pm_V} {v6 : Int32}  (k1 : (lg_cmp o v6.toInt64 = 0) → pW ns d 146 23 [some (pm_r 99 0), some (pm_r 0 0), some (pm_r 20 0), some (pm_r 60 0), some (pm_i (v4 + (nI 6))), u5, some (pm_i v6)] [] (mm x R Z Y o A c G g) Q) (k2 : (¬ (lg_cmp o v6.toInt64 = 0)) → Q (.inl (some (pm_i (nI 0))), (mm x R Z Y o A c G g))) : pW ns d 146 756 [some (pm_r 99 0), some (pm_r 0 0), some (pm_r 20 0), some (pm_r 60 0), some (pm_i v4), u5, some (pm_i v6)] [] (mm x R Z Y o A c G g) Q := by
  refine b146_756 hR hns  (fun h1 => ?_) (fun h1 => ?_)
  · skip
    exact b146_768 hR hns   (k1 h1)
  · skip
    exact b146_766 hR hns   (k2 h1)
end BLK
