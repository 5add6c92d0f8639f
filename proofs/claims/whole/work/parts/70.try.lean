section TRY
variable (ns d : Nat) (A : Nat → Nat → Nat → Int32) (B : Nat → Nat → Nat → Int64) (R : Nat → Nat → Nat → Option (Nat × Nat)) (x i : Nat)
theorem tb_112_0 : pm_tbl 112 0 = some (.aload_n 0, 1) := by rfl
theorem tb_112_1 : pm_tbl 112 1 = some (.getfield 31, 3) := by rfl
set_option maxRecDepth 10000 in
theorem try1 (call : Nat → List pm_V → pm_M → pm_R) (n : Nat) (hi : i < 8) (M : pm_M) : pm_go call ns d 112 (n + 1) 0 [some (pm_r 8 i)] [] M = pm_go call ns d 112 n 1 [some (pm_r 8 i)] [pm_r 8 i] M := by rfl
set_option maxRecDepth 10000 in
theorem try2 (call : Nat → List pm_V → pm_M → pm_R) (n : Nat) (hi : i < 8) : pm_go call ns d 112 (n + 2) 0 [some (pm_r 8 i)] [] (A, B, R, pm_tot, x) = pm_g (A, B, R, pm_tot, x) 8 i (pm_go call ns d 112 n 4 [some (pm_r 8 i)] [pm_i (A 8 i 6)] (A, B, R, pm_tot, x)) := by rfl
end TRY
