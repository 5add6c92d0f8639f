/-! the tables of the pure machine: printed by program (wip/whole/gen/tables.py) out of the claim's listing of the program -/
def pm_lk {α : Type} (a b : Nat) : List (Nat × Nat × α) → Option α
  | [] => none
  | q :: r => bif (q.1 == a && q.2.1 == b) then some q.2.2 else pm_lk a b r
def pm_fi {α : Type} (a : Nat) : List (Nat × α) → Option α
  | [] => none
  | q :: r => bif q.1 == a then some q.2 else pm_fi a r
def pm_tot : Nat := 96
/-- families: their number of objects, kind (0 an object, 1 ints, 2 booleans, 3 longs, 4 references), class or length, types of the fields or class of the elements -/
def pm_fam : List (Nat × Nat × Nat × Nat × List Nat) := [(0, 1, 0, 0, [2, 2, 2, 0]), (1, 1, 4, 8, [1]), (2, 1, 4, 6, [3]), (3, 1, 0, 4, [2, 2, 2, 0, 0, 0, 0]), (4, 6, 0, 3, [2, 0]), (5, 6, 1, 12, []), (6, 1, 0, 3, [2, 0]), (7, 1, 1, 24, []), (8, 8, 0, 1, [0, 2, 2, 2, 2, 2, 0, 0, 0, 0, 0, 0, 0, 0, 0, 3]), (9, 8, 1, 6, []), (10, 8, 1, 8, []), (11, 8, 1, 8, []), (12, 8, 1, 16, []), (13, 8, 0, 2, [0, 0, 0, 1, 3, 0]), (14, 1, 1, 8, []), (15, 1, 1, 64, []), (20, 1, 0, 5, [0, 2, 2, 2, 2, 2, 2, 2, 2, 2, 2, 2, 2, 2, 2, 2, 2, 2, 2, 2, 0, 2, 2, 2, 2, 0, 0, 0, 0, 2, 2, 2]), (21, 1, 1, 8, []), (22, 1, 1, 8, []), (23, 1, 1, 8, []), (24, 1, 1, 8, []), (25, 1, 1, 8, []), (26, 1, 1, 8, []), (27, 1, 1, 8, []), (28, 1, 1, 8, []), (29, 1, 1, 8, []), (30, 1, 1, 8, []), (31, 1, 2, 8, []), (32, 1, 1, 48, []), (33, 1, 1, 64, []), (34, 1, 1, 8, []), (35, 1, 1, 8, []), (36, 1, 1, 8, []), (37, 1, 3, 8, []), (38, 1, 2, 8, []), (39, 1, 1, 8, []), (40, 1, 1, 128, []), (41, 1, 1, 64, []), (42, 1, 1, 72, []), (43, 1, 1, 6, []), (44, 1, 1, 24, []), (45, 1, 1, 8, []), (46, 1, 1, 64, []), (60, 1, 3, 1, [])]
def pm_cnt (f : Nat) : Nat := match pm_fi f pm_fam with
  | some q => q.1
  | none => if f = 99 then 1 else 0
def pm_shp (ns f : Nat) : Nat × Nat × List Nat := match pm_fi f pm_fam with
  | some q => q.2
  | none => if f = 99 then (1, ns, []) else (9, 0, [])
def pm_pidx (f i : Nat) : Nat := bif Nat.blt f 4 then f else bif f == 6 then 4 else bif f == 7 then 5 else bif f == 14 then 6 else bif f == 15 then 7 else bif f == 4 then 56 + 2 * i else bif f == 5 then 57 + 2 * i else bif Nat.blt f 14 then f + 6 * i else bif f == 60 then 95 else f + 48
def pm_planl_0 : List (Nat × Nat) := [(0, 0), (1, 0), (2, 0), (3, 0), (6, 0), (7, 0), (14, 0), (15, 0), (8, 0), (9, 0), (10, 0), (11, 0), (12, 0), (13, 0), (8, 1), (9, 1), (10, 1), (11, 1), (12, 1), (13, 1), (8, 2), (9, 2), (10, 2), (11, 2), (12, 2), (13, 2), (8, 3), (9, 3), (10, 3), (11, 3), (12, 3), (13, 3), (8, 4), (9, 4), (10, 4), (11, 4), (12, 4), (13, 4), (8, 5), (9, 5), (10, 5), (11, 5), (12, 5), (13, 5), (8, 6), (9, 6), (10, 6), (11, 6), (12, 6), (13, 6)]
def pm_planl_1 : List (Nat × Nat) := [(8, 7), (9, 7), (10, 7), (11, 7), (12, 7), (13, 7), (4, 0), (5, 0), (4, 1), (5, 1), (4, 2), (5, 2), (4, 3), (5, 3), (4, 4), (5, 4), (4, 5), (5, 5), (20, 0), (21, 0), (22, 0), (23, 0), (24, 0), (25, 0), (26, 0), (27, 0), (28, 0), (29, 0), (30, 0), (31, 0), (32, 0), (33, 0), (34, 0), (35, 0), (36, 0), (37, 0), (38, 0), (39, 0), (40, 0), (41, 0), (42, 0), (43, 0), (44, 0), (45, 0), (46, 0), (60, 0)]
def pm_planl : List (Nat × Nat) := pm_planl_0 ++ (pm_planl_1)
def pm_plan (k : Nat) : Nat × Nat := pm_planl.getD k (0, 0)
def pm_T0 : u_T := fun k => match k with
  | 0 => ("JobLayer", "tasks", "[LJobLayer$Task;", true)
  | 1 => ("JobLayer", "pipes", "[LJobLayer$ByteRow;", true)
  | 2 => ("JobLayer", "tty", "LJobLayer$Terminal;", true)
  | _ => ("JobLayer", "blockedEver", "I", false)
def pm_k0 : Nat → FieldType := fun k => match k with
  | 0 => .array (.object "JobLayer$Task")
  | 1 => .array (.object "JobLayer$ByteRow")
  | 2 => .object "JobLayer$Terminal"
  | _ => .int
def pm_T1 : u_T := fun k => match k with
  | 0 => ("JobLayer$Task", "number", "I", true)
  | 1 => ("JobLayer$Task", "files", "[I", true)
  | 2 => ("JobLayer$Task", "actions", "[I", true)
  | 3 => ("JobLayer$Task", "takenRow", "[I", true)
  | 4 => ("JobLayer$Task", "heardRow", "[I", true)
  | 5 => ("JobLayer$Task", "call", "LJobLayer$Call;", true)
  | 6 => ("JobLayer$Task", "state", "I", false)
  | 7 => ("JobLayer$Task", "parent", "I", false)
  | 8 => ("JobLayer$Task", "group", "I", false)
  | 9 => ("JobLayer$Task", "mask", "I", false)
  | 10 => ("JobLayer$Task", "pending", "I", false)
  | 11 => ("JobLayer$Task", "outcome", "I", false)
  | 12 => ("JobLayer$Task", "takenCount", "I", false)
  | 13 => ("JobLayer$Task", "heardEver", "I", false)
  | 14 => ("JobLayer$Task", "status", "I", false)
  | _ => ("JobLayer$Task", "stopTold", "Z", false)
def pm_k1 : Nat → FieldType := fun k => match k with
  | 0 => .int
  | 1 => .array (.int)
  | 2 => .array (.int)
  | 3 => .array (.int)
  | 4 => .array (.int)
  | 5 => .object "JobLayer$Call"
  | 6 => .int
  | 7 => .int
  | 8 => .int
  | 9 => .int
  | 10 => .int
  | 11 => .int
  | 12 => .int
  | 13 => .int
  | 14 => .int
  | _ => .boolean
def pm_T2 : u_T := fun k => match k with
  | 0 => ("JobLayer$Call", "kind", "I", false)
  | 1 => ("JobLayer$Call", "file", "I", false)
  | 2 => ("JobLayer$Call", "count", "I", false)
  | 3 => ("JobLayer$Call", "bytes", "J", false)
  | 4 => ("JobLayer$Call", "alsoStopped", "Z", false)
  | _ => ("JobLayer$Call", "order", "I", false)
def pm_k2 : Nat → FieldType := fun k => match k with
  | 0 => .int
  | 1 => .int
  | 2 => .int
  | 3 => .long
  | 4 => .boolean
  | _ => .int
def pm_T3 : u_T := fun k => match k with
  | 0 => ("JobLayer$ByteRow", "cells", "[I", true)
  | _ => ("JobLayer$ByteRow", "size", "I", false)
def pm_k3 : Nat → FieldType := fun k => match k with
  | 0 => .array (.int)
  | _ => .int
def pm_T4 : u_T := fun k => match k with
  | 0 => ("JobLayer$Terminal", "characters", "LJobLayer$ByteRow;", true)
  | 1 => ("JobLayer$Terminal", "readyLengths", "[I", true)
  | 2 => ("JobLayer$Terminal", "screen", "[I", true)
  | 3 => ("JobLayer$Terminal", "readyLines", "I", false)
  | 4 => ("JobLayer$Terminal", "lineLength", "I", false)
  | 5 => ("JobLayer$Terminal", "foregroundGroup", "I", false)
  | _ => ("JobLayer$Terminal", "writtenEver", "I", false)
def pm_k4 : Nat → FieldType := fun k => match k with
  | 0 => .object "JobLayer$ByteRow"
  | 1 => .array (.int)
  | 2 => .array (.int)
  | 3 => .int
  | 4 => .int
  | 5 => .int
  | _ => .int
def pm_T5 : u_T := fun k => match k with
  | 0 => ("JobLayerModel", "thrown", "I", false)
  | 1 => ("JobLayerModel", "state", "[I", true)
  | 2 => ("JobLayerModel", "parent", "[I", true)
  | 3 => ("JobLayerModel", "party", "[I", true)
  | 4 => ("JobLayerModel", "masked", "[I", true)
  | 5 => ("JobLayerModel", "pending", "[I", true)
  | 6 => ("JobLayerModel", "outcome", "[I", true)
  | 7 => ("JobLayerModel", "took", "[I", true)
  | 8 => ("JobLayerModel", "hears", "[I", true)
  | 9 => ("JobLayerModel", "status", "[I", true)
  | 10 => ("JobLayerModel", "before", "[I", true)
  | 11 => ("JobLayerModel", "told", "[Z", true)
  | 12 => ("JobLayerModel", "files", "[I", true)
  | 13 => ("JobLayerModel", "actions", "[I", true)
  | 14 => ("JobLayerModel", "call", "[I", true)
  | 15 => ("JobLayerModel", "callFile", "[I", true)
  | 16 => ("JobLayerModel", "callMany", "[I", true)
  | 17 => ("JobLayerModel", "callBytes", "[J", true)
  | 18 => ("JobLayerModel", "callStopped", "[Z", true)
  | 19 => ("JobLayerModel", "since", "[I", true)
  | 20 => ("JobLayerModel", "blocks", "I", false)
  | 21 => ("JobLayerModel", "heardSignals", "[I", true)
  | 22 => ("JobLayerModel", "takenBytes", "[I", true)
  | 23 => ("JobLayerModel", "held", "[I", true)
  | 24 => ("JobLayerModel", "many", "[I", true)
  | 25 => ("JobLayerModel", "front", "I", false)
  | 26 => ("JobLayerModel", "ready", "I", false)
  | 27 => ("JobLayerModel", "lineLong", "I", false)
  | 28 => ("JobLayerModel", "written", "I", false)
  | 29 => ("JobLayerModel", "characters", "[I", true)
  | 30 => ("JobLayerModel", "readyLong", "[I", true)
  | _ => ("JobLayerModel", "screen", "[I", true)
def pm_k5 : Nat → FieldType := fun k => match k with
  | 0 => .int
  | 1 => .array (.int)
  | 2 => .array (.int)
  | 3 => .array (.int)
  | 4 => .array (.int)
  | 5 => .array (.int)
  | 6 => .array (.int)
  | 7 => .array (.int)
  | 8 => .array (.int)
  | 9 => .array (.int)
  | 10 => .array (.int)
  | 11 => .array (.boolean)
  | 12 => .array (.int)
  | 13 => .array (.int)
  | 14 => .array (.int)
  | 15 => .array (.int)
  | 16 => .array (.int)
  | 17 => .array (.long)
  | 18 => .array (.boolean)
  | 19 => .array (.int)
  | 20 => .int
  | 21 => .array (.int)
  | 22 => .array (.int)
  | 23 => .array (.int)
  | 24 => .array (.int)
  | 25 => .int
  | 26 => .int
  | 27 => .int
  | 28 => .int
  | 29 => .array (.int)
  | 30 => .array (.int)
  | _ => .array (.int)
def pm_K : List vw_C := [("JobLayer", pm_T0, 4), ("JobLayer$Task", pm_T1, 16), ("JobLayer$Call", pm_T2, 6), ("JobLayer$ByteRow", pm_T3, 2), ("JobLayer$Terminal", pm_T4, 7), ("JobLayerModel", pm_T5, 32)]
def pm_kt : Nat → Nat → FieldType
  | 0 => pm_k0
  | 1 => pm_k1
  | 2 => pm_k2
  | 3 => pm_k3
  | 4 => pm_k4
  | _ => pm_k5
def pm_cty : Nat → List Nat
  | 0 => [2, 2, 2, 0]
  | 1 => [0, 2, 2, 2, 2, 2, 0, 0, 0, 0, 0, 0, 0, 0, 0, 3]
  | 2 => [0, 0, 0, 1, 3, 0]
  | 3 => [2, 0]
  | 4 => [2, 2, 2, 0, 0, 0, 0]
  | _ => [0, 2, 2, 2, 2, 2, 2, 2, 2, 2, 2, 2, 2, 2, 2, 2, 2, 2, 2, 2, 0, 2, 2, 2, 2, 0, 0, 0, 0, 2, 2, 2]
def pm_nm : Nat → String
  | 0 => "JobLayer"
  | 1 => "JobLayer$Task"
  | 2 => "JobLayer$Call"
  | 3 => "JobLayer$ByteRow"
  | 4 => "JobLayer$Terminal"
  | 5 => "JobLayerModel"
  | _ => "JobLayerLaw"
def pm_exn : Nat → String
  | 0 => "java/lang/IllegalStateException"
  | _ => "java/lang/IllegalArgumentException"
def pm_flds_0 : List (Nat × Nat × Nat × Nat × Nat × Bool) := [(0, 11, 0, 0, 2, true), (0, 17, 0, 1, 2, true), (0, 24, 0, 2, 2, true), (0, 28, 0, 3, 0, false), (0, 36, 1, 6, 0, false), (0, 39, 1, 1, 2, true), (0, 46, 4, 5, 0, false), (0, 67, 1, 0, 0, true), (0, 86, 3, 1, 0, false), (0, 98, 1, 5, 2, true), (0, 112, 2, 0, 0, false), (0, 115, 2, 4, 3, false), (0, 122, 1, 2, 2, true), (0, 128, 1, 9, 0, false), (0, 139, 1, 7, 0, false), (0, 146, 1, 8, 0, false), (0, 152, 1, 10, 0, false), (0, 155, 1, 11, 0, false), (0, 158, 1, 12, 0, false), (0, 161, 1, 13, 0, false), (0, 164, 1, 14, 0, false), (0, 167, 1, 3, 2, true), (0, 170, 1, 4, 2, true), (0, 177, 4, 0, 2, true), (0, 181, 4, 3, 0, false), (0, 184, 4, 6, 0, false), (0, 190, 4, 2, 2, true), (0, 217, 1, 15, 3, false), (0, 232, 2, 5, 0, false), (0, 251, 2, 1, 0, false), (0, 257, 2, 2, 0, false), (1, 9, 1, 1, 2, true), (1, 15, 1, 2, 2, true), (1, 18, 1, 3, 2, true), (1, 21, 1, 4, 2, true), (1, 27, 1, 5, 2, true), (1, 31, 1, 6, 0, false), (1, 35, 1, 7, 0, false), (1, 38, 1, 8, 0, false), (1, 41, 1, 9, 0, false)]
def pm_flds_1 : List (Nat × Nat × Nat × Nat × Nat × Bool) := [(1, 44, 1, 10, 0, false), (1, 47, 1, 11, 0, false), (1, 50, 1, 12, 0, false), (1, 53, 1, 13, 0, false), (1, 56, 1, 14, 0, false), (1, 59, 1, 15, 3, false), (1, 63, 1, 0, 0, true), (1, 66, 2, 0, 0, false), (1, 83, 2, 5, 0, false), (2, 9, 2, 0, 0, false), (2, 15, 2, 1, 0, false), (2, 18, 2, 2, 0, false), (2, 21, 2, 3, 1, false), (2, 25, 2, 4, 3, false), (2, 29, 2, 5, 0, false), (3, 7, 3, 1, 0, false), (3, 13, 3, 0, 2, true), (4, 14, 4, 0, 2, true), (4, 20, 4, 1, 2, true), (4, 24, 4, 2, 2, true), (4, 27, 4, 3, 0, false), (4, 31, 4, 4, 0, false), (4, 34, 4, 5, 0, false), (4, 37, 4, 6, 0, false), (4, 62, 3, 1, 0, false), (5, 7, 5, 1, 2, true), (5, 13, 5, 2, 2, true), (5, 16, 5, 3, 2, true), (5, 19, 5, 4, 2, true), (5, 22, 5, 5, 2, true), (5, 25, 5, 6, 2, true), (5, 28, 5, 7, 2, true), (5, 31, 5, 8, 2, true), (5, 34, 5, 9, 2, true), (5, 37, 5, 10, 2, true), (5, 40, 5, 11, 2, true), (5, 44, 5, 12, 2, true), (5, 47, 5, 13, 2, true), (5, 50, 5, 14, 2, true), (5, 53, 5, 15, 2, true)]
def pm_flds_2 : List (Nat × Nat × Nat × Nat × Nat × Bool) := [(5, 56, 5, 16, 2, true), (5, 59, 5, 17, 2, true), (5, 63, 5, 18, 2, true), (5, 66, 5, 19, 2, true), (5, 69, 5, 21, 2, true), (5, 72, 5, 22, 2, true), (5, 75, 5, 23, 2, true), (5, 78, 5, 24, 2, true), (5, 81, 5, 29, 2, true), (5, 84, 5, 30, 2, true), (5, 87, 5, 31, 2, true), (5, 90, 5, 0, 0, false), (5, 134, 5, 25, 0, false), (5, 140, 5, 26, 0, false), (5, 147, 5, 28, 0, false), (5, 175, 5, 20, 0, false), (5, 185, 5, 27, 0, false)]
def pm_flds : List (Nat × Nat × Nat × Nat × Nat × Bool) := pm_flds_0 ++ (pm_flds_1 ++ (pm_flds_2))
def pm_fld (o idx : Nat) : Option (Nat × Nat × Nat × Bool) := pm_lk o idx pm_flds
def pm_mths_0 : List (Nat × Nat × Nat × Nat × Nat) := [(0, 1, 9990, 1, 3), (0, 23, 123, 1, 5), (0, 32, 109, 2, 2), (0, 35, 102, 2, 2), (0, 43, 129, 1, 1), (0, 49, 32, 3, 1), (0, 53, 125, 2, 1), (0, 56, 37, 1, 1), (0, 59, 23, 2, 1), (0, 63, 110, 2, 1), (0, 70, 35, 3, 1), (0, 74, 33, 3, 1), (0, 78, 114, 2, 1), (0, 82, 30, 1, 1), (0, 89, 113, 2, 1), (0, 92, 22, 1, 0), (0, 95, 21, 1, 0), (0, 102, 107, 5, 1), (0, 108, 36, 2, 1), (0, 125, 117, 2, 1), (0, 131, 34, 2, 1), (0, 135, 112, 1, 1), (0, 142, 26, 2, 1), (0, 149, 24, 2, 1), (0, 173, 20, 3, 0), (0, 187, 31, 1, 1), (0, 196, 25, 2, 1), (0, 199, 28, 2, 1), (0, 202, 29, 2, 1), (0, 205, 118, 2, 1), (0, 208, 116, 2, 1), (0, 211, 120, 2, 1), (0, 214, 27, 2, 1), (0, 220, 111, 2, 1), (0, 223, 40, 2, 1), (0, 226, 121, 2, 1), (0, 229, 38, 2, 1), (0, 235, 39, 3, 1), (0, 239, 122, 2, 1), (0, 242, 41, 2, 1)]
def pm_mths_1 : List (Nat × Nat × Nat × Nat × Nat) := [(0, 245, 43, 2, 1), (0, 248, 44, 2, 1), (0, 254, 42, 2, 1), (0, 260, 105, 3, 1), (0, 264, 115, 2, 1), (0, 267, 130, 3, 1), (0, 270, 108, 2, 1), (0, 273, 124, 2, 1), (0, 276, 103, 1, 1), (0, 279, 104, 2, 1), (1, 3, 9990, 1, 3), (1, 26, 106, 1, 5), (1, 69, 115, 2, 1), (1, 73, 117, 2, 1), (1, 77, 119, 2, 1), (1, 80, 122, 2, 1), (2, 3, 9990, 1, 3), (3, 1, 9990, 1, 3), (3, 17, 9991, 2, 4), (4, 3, 9990, 1, 3), (4, 11, 102, 2, 2), (4, 40, 9991, 2, 4), (4, 46, 127, 2, 1), (4, 49, 128, 1, 1), (4, 52, 103, 1, 1), (4, 56, 126, 2, 1), (4, 59, 104, 2, 1), (4, 65, 105, 3, 1), (4, 69, 131, 1, 1), (5, 1, 9990, 1, 3), (5, 94, 49, 2, 1), (5, 98, 50, 2, 1), (5, 102, 48, 2, 1), (5, 105, 55, 3, 1), (5, 109, 56, 3, 1), (5, 112, 57, 2, 1), (5, 116, 59, 3, 1), (5, 119, 54, 2, 1), (5, 122, 58, 2, 1), (5, 125, 60, 3, 1)]
def pm_mths_2 : List (Nat × Nat × Nat × Nat × Nat) := [(5, 128, 61, 2, 1), (5, 131, 62, 3, 1), (5, 137, 64, 2, 1), (5, 143, 65, 3, 1), (5, 150, 70, 2, 1), (5, 153, 69, 3, 1), (5, 156, 68, 3, 1), (5, 159, 67, 2, 1), (5, 162, 66, 2, 1), (5, 165, 63, 3, 1), (5, 168, 73, 3, 1), (5, 172, 71, 2, 1), (5, 178, 72, 1, 1), (5, 181, 76, 1, 1), (5, 188, 75, 2, 1), (5, 191, 77, 2, 1), (5, 194, 78, 1, 1), (5, 197, 47, 2, 1), (5, 200, 80, 2, 1), (5, 203, 81, 3, 1), (5, 207, 52, 3, 1), (5, 210, 87, 3, 1), (5, 213, 74, 3, 1), (5, 216, 53, 2, 1), (5, 219, 97, 1, 0), (5, 222, 51, 1, 1), (6, 7, 2, 2, 1), (6, 15, 3, 3, 1), (6, 19, 4, 2, 1), (6, 22, 5, 4, 1), (6, 26, 6, 3, 1), (6, 29, 7, 4, 1), (6, 34, 8, 5, 1), (6, 38, 9, 3, 1), (6, 42, 10, 2, 1), (6, 45, 11, 4, 1), (6, 48, 12, 4, 1), (6, 51, 13, 3, 1), (6, 54, 14, 4, 1), (6, 57, 15, 3, 1)]
def pm_mths_3 : List (Nat × Nat × Nat × Nat × Nat) := [(6, 60, 0, 1, 2), (6, 63, 45, 1, 2), (6, 64, 1, 2, 1), (6, 68, 79, 2, 1), (6, 69, 132, 3, 0), (6, 74, 82, 2, 1), (6, 75, 46, 1, 1), (6, 79, 133, 4, 0), (6, 82, 83, 3, 1), (6, 83, 134, 3, 0), (6, 85, 84, 2, 1), (6, 86, 135, 5, 0), (6, 89, 85, 4, 1), (6, 90, 136, 4, 0), (6, 92, 86, 3, 1), (6, 93, 137, 5, 0), (6, 95, 88, 4, 1), (6, 98, 138, 6, 0), (6, 101, 89, 5, 1), (6, 102, 139, 4, 0), (6, 105, 90, 3, 1), (6, 106, 140, 3, 0), (6, 108, 91, 2, 1), (6, 109, 141, 5, 0), (6, 111, 92, 4, 1), (6, 112, 142, 5, 0), (6, 114, 93, 4, 1), (6, 115, 143, 4, 0), (6, 117, 94, 3, 1), (6, 118, 144, 5, 0), (6, 120, 95, 4, 1), (6, 121, 145, 4, 0), (6, 123, 96, 3, 1), (6, 124, 16, 3, 1), (6, 127, 98, 3, 1), (6, 128, 17, 3, 1), (6, 131, 99, 3, 1), (6, 132, 18, 3, 1), (6, 135, 100, 3, 1), (6, 136, 19, 2, 1)]
def pm_mths_4 : List (Nat × Nat × Nat × Nat × Nat) := [(6, 139, 101, 2, 1)]
def pm_mths : List (Nat × Nat × Nat × Nat × Nat) := pm_mths_0 ++ (pm_mths_1 ++ (pm_mths_2 ++ (pm_mths_3 ++ (pm_mths_4))))
def pm_mth (o idx : Nat) : Option (Nat × Nat × Nat) := pm_lk o idx pm_mths
def pm_clss : List (Nat × Nat × (Nat ⊕ Nat)) := [(0, 9, .inl 1), (0, 15, .inl 3), (0, 21, .inl 4), (0, 119, .inr 1), (0, 193, .inr 0), (1, 24, .inl 2), (4, 9, .inl 3), (6, 8, .inl 0), (6, 61, .inl 5)]
def pm_cls (o idx : Nat) : Option (Nat ⊕ Nat) := pm_lk o idx pm_clss
def pm_lng (o idx : Nat) : Option Int64 := pm_lk o idx [(6, 96, 4294967295)]
def pm_exi (o x : Nat) : Nat := match x with
  | 0 => 195
  | _ => 121
def pm_ms_0 : List (Nat × Nat × Nat × Bool) := [(0, 2, 1, true), (0, 2, 1, false), (0, 4, 0, false), (0, 5, 0, false), (0, 6, 0, false), (0, 6, 0, false), (0, 4, 0, false), (0, 7, 0, false), (0, 9, 0, false), (0, 5, 0, false), (0, 4, 0, false), (0, 5, 0, false), (0, 6, 0, false), (0, 6, 0, false), (0, 5, 0, false), (0, 4, 0, false), (0, 4, 0, false), (0, 3, 0, false), (0, 3, 0, false), (0, 2, 0, false), (0, 3, 0, false), (0, 1, 0, false), (0, 1, 1, false), (0, 2, 2, false), (0, 2, 3, false), (0, 2, 2, false), (0, 3, 3, false), (0, 5, 3, false), (0, 4, 3, false), (0, 2, 3, false), (0, 2, 0, false), (0, 3, 0, false), (0, 5, 3, false), (0, 6, 3, false), (0, 3, 2, false), (0, 5, 2, false), (0, 3, 0, false), (0, 5, 1, false), (0, 5, 2, false), (0, 3, 1, false)]
def pm_ms_1 : List (Nat × Nat × Nat × Bool) := [(0, 2, 0, false), (0, 4, 0, false), (0, 3, 0, false), (0, 6, 0, false), (0, 6, 0, false), (5, 1, 1, true), (5, 1, 0, false), (5, 2, 3, false), (5, 2, 3, false), (5, 4, 0, false), (5, 2, 3, false), (5, 3, 0, false), (5, 3, 0, false), (5, 4, 3, false), (5, 5, 3, false), (5, 3, 1, false), (5, 3, 1, false), (5, 2, 1, false), (5, 2, 1, false), (5, 4, 1, false), (5, 3, 1, false), (5, 4, 1, false), (5, 4, 1, false), (5, 4, 1, false), (5, 2, 3, false), (5, 6, 0, false), (5, 3, 0, false), (5, 4, 0, false), (5, 5, 0, false), (5, 7, 0, false), (5, 3, 0, false), (5, 3, 0, false), (5, 5, 1, false), (5, 4, 0, false), (5, 4, 0, false), (5, 2, 3, false), (5, 3, 0, false), (5, 2, 1, false), (5, 1, 1, false), (5, 2, 1, false)]
def pm_ms_2 : List (Nat × Nat × Nat × Bool) := [(5, 2, 3, false), (5, 3, 3, false), (5, 4, 0, false), (5, 3, 0, false), (5, 5, 0, false), (5, 4, 0, false), (5, 3, 0, false), (5, 3, 3, false), (5, 5, 0, false), (5, 7, 0, false), (5, 3, 0, false), (5, 2, 0, false), (5, 4, 0, false), (5, 5, 0, false), (5, 4, 0, false), (5, 5, 0, false), (5, 3, 0, false), (5, 1, 0, false), (5, 3, 0, false), (5, 3, 0, false), (5, 4, 0, false), (5, 2, 0, false), (3, 2, 1, true), (3, 1, 0, false), (3, 2, 1, false), (3, 5, 0, false), (2, 1, 1, true), (2, 6, 1, false), (2, 2, 0, false), (1, 2, 1, true), (1, 3, 1, false), (1, 3, 1, false), (1, 1, 3, false), (1, 2, 0, false), (1, 3, 0, false), (1, 2, 3, false), (1, 2, 3, false), (1, 2, 1, false), (1, 2, 1, false), (1, 2, 3, false)]
def pm_ms_3 : List (Nat × Nat × Nat × Bool) := [(1, 2, 1, false), (1, 2, 1, false), (1, 2, 1, false), (4, 1, 1, true), (4, 2, 1, false), (4, 2, 1, false), (4, 2, 1, false), (4, 2, 1, false), (4, 1, 1, false), (4, 1, 1, false), (4, 4, 0, false), (4, 2, 1, false), (6, 4, 0, false), (6, 5, 0, false), (6, 4, 0, false), (6, 6, 0, false), (6, 5, 0, false), (6, 6, 0, false), (6, 8, 0, false), (6, 5, 0, false), (6, 4, 0, false), (6, 6, 0, false), (6, 6, 0, false), (6, 5, 0, false), (6, 6, 0, false), (6, 5, 0, false), (6, 7, 3, false)]
def pm_ms : List (Nat × Nat × Nat × Bool) := pm_ms_0 ++ (pm_ms_1 ++ (pm_ms_2 ++ (pm_ms_3)))
def pm_mi (mi : Nat) : Nat × Nat × Nat × Bool := pm_ms.getD mi (0, 0, 9, false)
def pm_own (mi : Nat) : Nat := (pm_mi mi).1
def pm_maxL (mi : Nat) : Nat := (pm_mi mi).2.1
def pm_ret (mi : Nat) : Nat := (pm_mi mi).2.2.1
def pm_ini (mi : Nat) : Bool := (pm_mi mi).2.2.2
def pm_mcl (mi : Nat) : Nat := (pm_mi mi).1
def pm_hnrl : List (Nat × List (Nat × Nat × Nat × Nat)) := [(132, [(0, 9, 12, 13)]), (133, [(0, 10, 13, 13)]), (134, [(0, 9, 12, 13)]), (135, [(0, 12, 15, 13)]), (136, [(0, 10, 13, 13)]), (137, [(0, 12, 15, 32), (0, 12, 19, 13)]), (138, [(0, 14, 17, 32), (0, 14, 21, 13)]), (139, [(0, 10, 13, 13)]), (140, [(0, 9, 12, 13)]), (141, [(0, 12, 15, 32), (0, 12, 19, 13)]), (142, [(0, 12, 15, 32), (0, 12, 19, 13)]), (143, [(0, 10, 13, 13)]), (144, [(0, 12, 15, 13)]), (145, [(0, 10, 13, 13)])]
def pm_hndl : List (Nat × List (Nat × Nat × Nat × Nat)) := [(132, [(0, 9, 12, 0)]), (133, [(0, 10, 13, 0)]), (134, [(0, 9, 12, 0)]), (135, [(0, 12, 15, 0)]), (136, [(0, 10, 13, 0)]), (137, [(0, 12, 15, 1), (0, 12, 19, 0)]), (138, [(0, 14, 17, 1), (0, 14, 21, 0)]), (139, [(0, 10, 13, 0)]), (140, [(0, 9, 12, 0)]), (141, [(0, 12, 15, 1), (0, 12, 19, 0)]), (142, [(0, 12, 15, 1), (0, 12, 19, 0)]), (143, [(0, 10, 13, 0)]), (144, [(0, 12, 15, 0)]), (145, [(0, 10, 13, 0)])]
def pm_hnr (mi : Nat) : List (Nat × Nat × Nat × Nat) := (pm_fi mi pm_hnrl).getD []
def pm_hnd (mi : Nat) : List (Nat × Nat × Nat × Nat) := (pm_fi mi pm_hndl).getD []
/-- the name of method 118, as the statement's own table has it (its word may not stand among rows) -/
def pm_y118 : MethodName := match tables_1_1.getD 211 (Cond.initialized "") with
  | Cond.instanceMethod y => y
  | _ => ⟨"", "", ""⟩
def pm_ys_0 : List MethodName := [⟨"JobLayer", "<init>", "()V"⟩, ⟨"JobLayer", "key", "(I)V"⟩, ⟨"JobLayer", "fork", "(I)I"⟩, ⟨"JobLayer", "end", "(II)I"⟩, ⟨"JobLayer", "pipe", "(I)I"⟩, ⟨"JobLayer", "copy", "(III)I"⟩, ⟨"JobLayer", "close", "(II)I"⟩, ⟨"JobLayer", "read", "(III)I"⟩, ⟨"JobLayer", "write", "(IIJI)I"⟩, ⟨"JobLayer", "reap", "(IZ)I"⟩, ⟨"JobLayer", "pause", "(I)I"⟩, ⟨"JobLayer", "signal", "(III)I"⟩, ⟨"JobLayer", "action", "(III)I"⟩, ⟨"JobLayer", "mask", "(II)I"⟩, ⟨"JobLayer", "group", "(III)I"⟩, ⟨"JobLayer", "foreground", "(II)I"⟩, ⟨"JobLayer", "process", "(II)I"⟩, ⟨"JobLayer", "taken", "(II)I"⟩, ⟨"JobLayer", "heard", "(II)I"⟩, ⟨"JobLayer", "terminal", "(I)I"⟩, ⟨"JobLayer", "kthLatest", "([III)I"⟩, ⟨"JobLayer", "fileKind", "(I)I"⟩, ⟨"JobLayer", "checkByteCount", "(I)V"⟩, ⟨"JobLayer", "readyTask", "(I)LJobLayer$Task;"⟩, ⟨"JobLayer", "isTask", "(I)Z"⟩, ⟨"JobLayer", "parentOf", "(LJobLayer$Task;)LJobLayer$Task;"⟩, ⟨"JobLayer", "isGroupAlive", "(I)Z"⟩, ⟨"JobLayer", "isOrphaned", "(I)Z"⟩, ⟨"JobLayer", "isOpen", "(I)Z"⟩, ⟨"JobLayer", "isPipe", "(I)Z"⟩, ⟨"JobLayer", "leastUnusedPipe", "()I"⟩, ⟨"JobLayer", "countPipes", "()I"⟩, ⟨"JobLayer", "sendToGroup", "(II)Z"⟩, ⟨"JobLayer", "send", "(LJobLayer$Task;I)Z"⟩, ⟨"JobLayer", "deliver", "(LJobLayer$Task;)LJobLayer$Task;"⟩, ⟨"JobLayer", "endTask", "(LJobLayer$Task;I)LJobLayer$Task;"⟩, ⟨"JobLayer", "begin", "(LJobLayer$Task;)I"⟩, ⟨"JobLayer", "settle", "()V"⟩, ⟨"JobLayer", "firstBlockedAfter", "(I)LJobLayer$Task;"⟩, ⟨"JobLayer", "conclude", "(LJobLayer$Task;I)V"⟩]
def pm_ys_1 : List MethodName := [⟨"JobLayer", "attempt", "(LJobLayer$Task;)I"⟩, ⟨"JobLayer", "attemptRead", "(LJobLayer$Task;)I"⟩, ⟨"JobLayer", "attemptTerminalRead", "(LJobLayer$Task;)I"⟩, ⟨"JobLayer", "attemptWrite", "(LJobLayer$Task;)I"⟩, ⟨"JobLayer", "attemptReap", "(LJobLayer$Task;)I"⟩, ⟨"JobLayerModel", "<init>", "()V"⟩, ⟨"JobLayerModel", "thrown", "()I"⟩, ⟨"JobLayerModel", "isProcess", "(I)Z"⟩, ⟨"JobLayerModel", "isLive", "(I)Z"⟩, ⟨"JobLayerModel", "ends", "(I)I"⟩, ⟨"JobLayerModel", "isPipe", "(I)Z"⟩, ⟨"JobLayerModel", "pipes", "()I"⟩, ⟨"JobLayerModel", "fileOf", "(II)I"⟩, ⟨"JobLayerModel", "isParty", "(I)Z"⟩, ⟨"JobLayerModel", "isOrphaned", "(I)Z"⟩, ⟨"JobLayerModel", "finished", "(II)V"⟩, ⟨"JobLayerModel", "hear", "(II)V"⟩, ⟨"JobLayerModel", "tellParent", "(I)V"⟩, ⟨"JobLayerModel", "halt", "(I)V"⟩, ⟨"JobLayerModel", "finish", "(II)V"⟩, ⟨"JobLayerModel", "byDefault", "(II)V"⟩, ⟨"JobLayerModel", "deliver", "(I)V"⟩, ⟨"JobLayerModel", "comes", "(II)V"⟩, ⟨"JobLayerModel", "comesToParty", "(II)V"⟩, ⟨"JobLayerModel", "isUnasked", "(I)Z"⟩, ⟨"JobLayerModel", "child", "(II)I"⟩, ⟨"JobLayerModel", "chance", "(I)I"⟩, ⟨"JobLayerModel", "takeLine", "(I)I"⟩, ⟨"JobLayerModel", "takeBytes", "(II)I"⟩, ⟨"JobLayerModel", "giveBytes", "(II)I"⟩, ⟨"JobLayerModel", "reaped", "(I)I"⟩, ⟨"JobLayerModel", "perform", "(I)I"⟩, ⟨"JobLayerModel", "settle", "()V"⟩, ⟨"JobLayerModel", "answer", "(IZ)I"⟩, ⟨"JobLayerModel", "begin", "(II)I"⟩, ⟨"JobLayerModel", "isLine", "(I)Z"⟩, ⟨"JobLayerModel", "used", "()I"⟩, ⟨"JobLayerModel", "put", "(I)V"⟩, ⟨"JobLayerModel", "lineDone", "()V"⟩, ⟨"JobLayerModel", "key", "(I)V"⟩]
def pm_ys_2 : List MethodName := [⟨"JobLayerModel", "isReady", "(I)Z"⟩, ⟨"JobLayerModel", "may", "(II)Z"⟩, ⟨"JobLayerModel", "fork", "(I)I"⟩, ⟨"JobLayerModel", "end", "(II)I"⟩, ⟨"JobLayerModel", "pipe", "(I)I"⟩, ⟨"JobLayerModel", "copy", "(III)I"⟩, ⟨"JobLayerModel", "close", "(II)I"⟩, ⟨"JobLayerModel", "mayMove", "(II)Z"⟩, ⟨"JobLayerModel", "read", "(III)I"⟩, ⟨"JobLayerModel", "write", "(IIJI)I"⟩, ⟨"JobLayerModel", "reap", "(IZ)I"⟩, ⟨"JobLayerModel", "pause", "(I)I"⟩, ⟨"JobLayerModel", "signal", "(III)I"⟩, ⟨"JobLayerModel", "action", "(III)I"⟩, ⟨"JobLayerModel", "mask", "(II)I"⟩, ⟨"JobLayerModel", "group", "(III)I"⟩, ⟨"JobLayerModel", "foreground", "(II)I"⟩, ⟨"JobLayerModel", "kindOf", "(I)I"⟩, ⟨"JobLayerModel", "process", "(II)I"⟩, ⟨"JobLayerModel", "taken", "(II)I"⟩, ⟨"JobLayerModel", "heard", "(II)I"⟩, ⟨"JobLayerModel", "terminal", "(I)I"⟩, ⟨"JobLayer$ByteRow", "<init>", "(I)V"⟩, ⟨"JobLayer$ByteRow", "room", "()I"⟩, ⟨"JobLayer$ByteRow", "add", "(I)V"⟩, ⟨"JobLayer$ByteRow", "moveFirst", "(I[I)I"⟩, ⟨"JobLayer$Call", "<init>", "()V"⟩, ⟨"JobLayer$Call", "prepareTransfer", "(IIIJ)V"⟩, ⟨"JobLayer$Call", "byteAt", "(I)I"⟩, ⟨"JobLayer$Task", "<init>", "(I)V"⟩, ⟨"JobLayer$Task", "startFrom", "(LJobLayer$Task;)V"⟩, ⟨"JobLayer$Task", "leave", "(I)V"⟩, ⟨"JobLayer$Task", "isAlive", "()Z"⟩, ⟨"JobLayer$Task", "fileValue", "(I)I"⟩, ⟨"JobLayer$Task", "leastUnusedFile", "(I)I"⟩, ⟨"JobLayer$Task", "isMasked", "(I)Z"⟩, ⟨"JobLayer$Task", "isDue", "(I)Z"⟩, ⟨"JobLayer$Task", "forget", "(I)V"⟩, pm_y118, ⟨"JobLayer$Task", "staysPending", "(I)Z"⟩]
def pm_ys_3 : List MethodName := [⟨"JobLayer$Task", "hear", "(I)V"⟩, ⟨"JobLayer$Task", "block", "(I)V"⟩, ⟨"JobLayer$Task", "unblock", "(I)V"⟩, ⟨"JobLayer$Terminal", "<init>", "()V"⟩, ⟨"JobLayer$Terminal", "show", "(I)V"⟩, ⟨"JobLayer$Terminal", "press", "(I)V"⟩, ⟨"JobLayer$Terminal", "addToLine", "(I)V"⟩, ⟨"JobLayer$Terminal", "dropFromLine", "(I)V"⟩, ⟨"JobLayer$Terminal", "finishLine", "()V"⟩, ⟨"JobLayer$Terminal", "dropAllLines", "()V"⟩, ⟨"JobLayer$Terminal", "moveFromFirstLine", "(I[I)I"⟩, ⟨"JobLayer$Terminal", "dropFirstLine", "()V"⟩, ⟨"JobLayerLaw", "fork", "(LJobLayer;I[J)I"⟩, ⟨"JobLayerLaw", "end", "(LJobLayer;II[J)I"⟩, ⟨"JobLayerLaw", "pipe", "(LJobLayer;I[J)I"⟩, ⟨"JobLayerLaw", "copy", "(LJobLayer;III[J)I"⟩, ⟨"JobLayerLaw", "close", "(LJobLayer;II[J)I"⟩, ⟨"JobLayerLaw", "read", "(LJobLayer;III[J)I"⟩, ⟨"JobLayerLaw", "write", "(LJobLayer;IIJI[J)I"⟩, ⟨"JobLayerLaw", "reap", "(LJobLayer;IZ[J)I"⟩, ⟨"JobLayerLaw", "pause", "(LJobLayer;I[J)I"⟩, ⟨"JobLayerLaw", "signal", "(LJobLayer;III[J)I"⟩, ⟨"JobLayerLaw", "action", "(LJobLayer;III[J)I"⟩, ⟨"JobLayerLaw", "mask", "(LJobLayer;II[J)I"⟩, ⟨"JobLayerLaw", "group", "(LJobLayer;III[J)I"⟩, ⟨"JobLayerLaw", "foreground", "(LJobLayer;II[J)I"⟩, ⟨"JobLayerLaw", "law", "([I)Z"⟩]
def pm_ys : List MethodName := pm_ys_0 ++ (pm_ys_1 ++ (pm_ys_2 ++ (pm_ys_3)))
def pm_y (mi : Nat) : MethodName := pm_ys.getD mi ⟨"", "", ""⟩
def pm_codes_0 : List ByteArray := [prog_1_method_1_code, prog_1_method_2_code, prog_1_method_3_code, prog_1_method_4_code, prog_1_method_5_code, prog_1_method_6_code, prog_1_method_7_code, prog_1_method_8_code, prog_1_method_9_code, prog_1_method_10_code, prog_1_method_11_code, prog_1_method_12_code, prog_1_method_13_code, prog_1_method_14_code, prog_1_method_15_code, prog_1_method_16_code, prog_1_method_17_code, prog_1_method_18_code, prog_1_method_19_code, prog_1_method_20_code, prog_1_method_21_code, prog_1_method_22_code, prog_1_method_23_code, prog_1_method_24_code, prog_1_method_25_code, prog_1_method_26_code, prog_1_method_27_code, prog_1_method_28_code, prog_1_method_29_code, prog_1_method_30_code, prog_1_method_31_code, prog_1_method_32_code, prog_1_method_33_code, prog_1_method_34_code, prog_1_method_35_code, prog_1_method_36_code, prog_1_method_37_code, prog_1_method_38_code, prog_1_method_39_code, prog_1_method_40_code]
def pm_codes_1 : List ByteArray := [prog_1_method_41_code, prog_1_method_42_code, prog_1_method_43_code, prog_1_method_44_code, prog_1_method_45_code, prog_7_method_1_code, prog_7_method_2_code, prog_7_method_3_code, prog_7_method_4_code, prog_7_method_5_code, prog_7_method_6_code, prog_7_method_7_code, prog_7_method_8_code, prog_7_method_9_code, prog_7_method_10_code, prog_7_method_11_code, prog_7_method_12_code, prog_7_method_13_code, prog_7_method_14_code, prog_7_method_15_code, prog_7_method_16_code, prog_7_method_17_code, prog_7_method_18_code, prog_7_method_19_code, prog_7_method_20_code, prog_7_method_21_code, prog_7_method_22_code, prog_7_method_23_code, prog_7_method_24_code, prog_7_method_25_code, prog_7_method_26_code, prog_7_method_27_code, prog_7_method_28_code, prog_7_method_29_code, prog_7_method_30_code, prog_7_method_31_code, prog_7_method_32_code, prog_7_method_33_code, prog_7_method_34_code, prog_7_method_35_code]
def pm_codes_2 : List ByteArray := [prog_7_method_36_code, prog_7_method_37_code, prog_7_method_38_code, prog_7_method_39_code, prog_7_method_40_code, prog_7_method_41_code, prog_7_method_42_code, prog_7_method_43_code, prog_7_method_44_code, prog_7_method_45_code, prog_7_method_46_code, prog_7_method_47_code, prog_7_method_48_code, prog_7_method_49_code, prog_7_method_50_code, prog_7_method_51_code, prog_7_method_52_code, prog_7_method_53_code, prog_7_method_54_code, prog_7_method_55_code, prog_7_method_56_code, prog_7_method_57_code, prog_2_method_1_code, prog_2_method_2_code, prog_2_method_3_code, prog_2_method_4_code, prog_3_method_1_code, prog_3_method_2_code, prog_3_method_3_code, prog_4_method_1_code, prog_4_method_2_code, prog_4_method_3_code, prog_4_method_4_code, prog_4_method_5_code, prog_4_method_6_code, prog_4_method_7_code, prog_4_method_8_code, prog_4_method_9_code, prog_4_method_10_code, prog_4_method_11_code]
def pm_codes_3 : List ByteArray := [prog_4_method_12_code, prog_4_method_13_code, prog_4_method_14_code, prog_5_method_1_code, prog_5_method_2_code, prog_5_method_3_code, prog_5_method_4_code, prog_5_method_5_code, prog_5_method_6_code, prog_5_method_7_code, prog_5_method_8_code, prog_5_method_9_code, method_3_code, method_4_code, method_5_code, method_6_code, method_7_code, method_8_code, method_9_code, method_10_code, method_11_code, method_12_code, method_13_code, method_14_code, method_15_code, method_16_code, code]
def pm_codes : List ByteArray := pm_codes_0 ++ (pm_codes_1 ++ (pm_codes_2 ++ (pm_codes_3)))
def pm_code (mi : Nat) : ByteArray := pm_codes.getD mi .empty
def pm_rts_0 : List (Option FieldType) := [none, none, some .int, some .int, some .int, some .int, some .int, some .int, some .int, some .int, some .int, some .int, some .int, some .int, some .int, some .int, some .int, some .int, some .int, some .int, some .int, some .int, none, some (.object "JobLayer$Task"), some .boolean, some (.object "JobLayer$Task"), some .boolean, some .boolean, some .boolean, some .boolean, some .int, some .int, some .boolean, some .boolean, some (.object "JobLayer$Task"), some (.object "JobLayer$Task"), some .int, none, some (.object "JobLayer$Task"), none]
def pm_rts_1 : List (Option FieldType) := [some .int, some .int, some .int, some .int, some .int, none, some .int, some .boolean, some .boolean, some .int, some .boolean, some .int, some .int, some .boolean, some .boolean, none, none, none, none, none, none, none, none, none, some .boolean, some .int, some .int, some .int, some .int, some .int, some .int, some .int, none, some .int, some .int, some .boolean, some .int, none, none, none]
def pm_rts_2 : List (Option FieldType) := [some .boolean, some .boolean, some .int, some .int, some .int, some .int, some .int, some .boolean, some .int, some .int, some .int, some .int, some .int, some .int, some .int, some .int, some .int, some .int, some .int, some .int, some .int, some .int, none, some .int, none, some .int, none, none, some .int, none, none, none, some .boolean, some .int, some .int, some .boolean, some .boolean, none, none, some .boolean]
def pm_rts_3 : List (Option FieldType) := [none, none, none, none, none, none, none, none, none, none, some .int, none, some .int, some .int, some .int, some .int, some .int, some .int, some .int, some .int, some .int, some .int, some .int, some .int, some .int, some .int, some .boolean]
def pm_rts : List (Option FieldType) := pm_rts_0 ++ (pm_rts_1 ++ (pm_rts_2 ++ (pm_rts_3)))
def pm_rt (mi : Nat) : Option FieldType := pm_rts.getD mi none
