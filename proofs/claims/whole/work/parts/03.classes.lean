def R0 : String := "BellPlate$Tower"
def T0 : u_T := fun k => match k with
  | 0 => ("BellPlate$Tower", "names", "[J", true)
  | 1 => ("BellPlate$Tower", "codes", "[I", true)
  | 2 => ("BellPlate$Tower", "starts", "[I", true)
  | 3 => ("BellPlate$Tower", "ends", "[I", true)
  | 4 => ("BellPlate$Tower", "costs", "[I", true)
  | 5 => ("BellPlate$Tower", "stack", "[I", true)
  | 6 => ("BellPlate$Tower", "used", "I", false)
  | 7 => ("BellPlate$Tower", "things", "I", false)
  | 8 => ("BellPlate$Tower", "most", "I", false)
  | 9 => ("BellPlate$Tower", "bar", "I", false)
  | _ => ("BellPlate$Tower", "allows", "I", false)
def Y0 : Nat → FieldType := fun k => match k with
  | 0 => (.array .long)
  | 1 => (.array .int)
  | 2 => (.array .int)
  | 3 => (.array .int)
  | 4 => (.array .int)
  | 5 => (.array .int)
  | 6 => .int
  | 7 => .int
  | 8 => .int
  | 9 => .int
  | _ => .int
def P0 : Nat → Nat := fun k => match k with
  | 0 => 178
  | 1 => 180
  | 2 => 182
  | 3 => 184
  | 4 => 186
  | 5 => 188
  | 6 => 190
  | 7 => 192
  | 8 => 194
  | 9 => 196
  | _ => 198
def K0 : Nat → Nat := fun k => match k with
  | 0 => 2
  | 1 => 2
  | 2 => 2
  | 3 => 2
  | 4 => 2
  | 5 => 2
  | 6 => 0
  | 7 => 0
  | 8 => 0
  | 9 => 0
  | _ => 0
theorem n0_ok : ∀ a, a < 11 → ∀ b, b < 11 → a ≠ b → (T0 a).2.1 ≠ (T0 b).2.1 := by decide +kernel
theorem y0_ok : ∀ k, k < 11 → parseFieldDescriptor (T0 k).2.2.1 = some (Y0 k) := by decide +kernel
theorem p0_ok : ∀ k, k < 11 → lw_tbl[P0 k]? = some (u_lay R0 T0 k) := by decide +kernel
theorem i0_ok : ∀ w ∈ u_ws R0 T0 11, w ∈ lw_tbl := fun w h => by
  obtain ⟨k, hk, rfl⟩ := List.mem_map.mp h
  exact List.mem_of_getElem? (p0_ok k (List.mem_range.mp hk))
def R1 : String := "BellPlate$Reader"
def T1 : u_T := fun k => match k with
  | 0 => ("BellPlate$Reader", "signs", "[C", true)
  | 1 => ("BellPlate$Reader", "draft", "LBellPlate$Tower;", true)
  | 2 => ("BellPlate$Reader", "size", "I", false)
  | 3 => ("BellPlate$Reader", "at", "I", false)
  | 4 => ("BellPlate$Reader", "kind", "I", false)
  | 5 => ("BellPlate$Reader", "place", "I", false)
  | 6 => ("BellPlate$Reader", "value", "I", false)
  | 7 => ("BellPlate$Reader", "word", "J", false)
  | 8 => ("BellPlate$Reader", "fault", "I", false)
  | 9 => ("BellPlate$Reader", "mostTold", "Z", false)
  | 10 => ("BellPlate$Reader", "barTold", "Z", false)
  | 11 => ("BellPlate$Reader", "costTold", "Z", false)
  | _ => ("BellPlate$Reader", "inCost", "Z", false)
def Y1 : Nat → FieldType := fun k => match k with
  | 0 => (.array .char)
  | 1 => (.object "BellPlate$Tower")
  | 2 => .int
  | 3 => .int
  | 4 => .int
  | 5 => .int
  | 6 => .int
  | 7 => .long
  | 8 => .int
  | 9 => .boolean
  | 10 => .boolean
  | 11 => .boolean
  | _ => .boolean
def P1 : Nat → Nat := fun k => match k with
  | 0 => 217
  | 1 => 219
  | 2 => 221
  | 3 => 223
  | 4 => 225
  | 5 => 227
  | 6 => 229
  | 7 => 231
  | 8 => 233
  | 9 => 235
  | 10 => 237
  | 11 => 239
  | _ => 241
def K1 : Nat → Nat := fun k => match k with
  | 0 => 2
  | 1 => 2
  | 2 => 0
  | 3 => 0
  | 4 => 0
  | 5 => 0
  | 6 => 0
  | 7 => 1
  | 8 => 0
  | 9 => 0
  | 10 => 0
  | 11 => 0
  | _ => 0
theorem n1_ok : ∀ a, a < 13 → ∀ b, b < 13 → a ≠ b → (T1 a).2.1 ≠ (T1 b).2.1 := by decide +kernel
theorem y1_ok : ∀ k, k < 13 → parseFieldDescriptor (T1 k).2.2.1 = some (Y1 k) := by decide +kernel
theorem p1_ok : ∀ k, k < 13 → lw_tbl[P1 k]? = some (u_lay R1 T1 k) := by decide +kernel
theorem i1_ok : ∀ w ∈ u_ws R1 T1 13, w ∈ lw_tbl := fun w h => by
  obtain ⟨k, hk, rfl⟩ := List.mem_map.mp h
  exact List.mem_of_getElem? (p1_ok k (List.mem_range.mp hk))
def R2 : String := "BellPlate$Lists"
def T2 : u_T := fun k => match k with
  | 0 => ("BellPlate$Lists", "tower", "LBellPlate$Tower;", true)
  | 1 => ("BellPlate$Lists", "row", "[I", true)
  | 2 => ("BellPlate$Lists", "sums", "[I", true)
  | 3 => ("BellPlate$Lists", "highSums", "[I", true)
  | 4 => ("BellPlate$Lists", "lists", "[J", false)
  | 5 => ("BellPlate$Lists", "shares", "[I", false)
  | 6 => ("BellPlate$Lists", "numbers", "[I", false)
  | 7 => ("BellPlate$Lists", "spare", "[I", false)
  | 8 => ("BellPlate$Lists", "slots", "[I", false)
  | 9 => ("BellPlate$Lists", "lowBlocks", "[I", false)
  | 10 => ("BellPlate$Lists", "slotCount", "I", false)
  | 11 => ("BellPlate$Lists", "size", "I", false)
  | _ => ("BellPlate$Lists", "allowed", "I", false)
def Y2 : Nat → FieldType := fun k => match k with
  | 0 => (.object "BellPlate$Tower")
  | 1 => (.array .int)
  | 2 => (.array .int)
  | 3 => (.array .int)
  | 4 => (.array .long)
  | 5 => (.array .int)
  | 6 => (.array .int)
  | 7 => (.array .int)
  | 8 => (.array .int)
  | 9 => (.array .int)
  | 10 => .int
  | 11 => .int
  | _ => .int
def P2 : Nat → Nat := fun k => match k with
  | 0 => 265
  | 1 => 267
  | 2 => 269
  | 3 => 271
  | 4 => 273
  | 5 => 275
  | 6 => 277
  | 7 => 279
  | 8 => 281
  | 9 => 283
  | 10 => 285
  | 11 => 287
  | _ => 289
def K2 : Nat → Nat := fun k => match k with
  | 0 => 2
  | 1 => 2
  | 2 => 2
  | 3 => 2
  | 4 => 2
  | 5 => 2
  | 6 => 2
  | 7 => 2
  | 8 => 2
  | 9 => 2
  | 10 => 0
  | 11 => 0
  | _ => 0
theorem n2_ok : ∀ a, a < 13 → ∀ b, b < 13 → a ≠ b → (T2 a).2.1 ≠ (T2 b).2.1 := by decide +kernel
theorem y2_ok : ∀ k, k < 13 → parseFieldDescriptor (T2 k).2.2.1 = some (Y2 k) := by decide +kernel
theorem p2_ok : ∀ k, k < 13 → lw_tbl[P2 k]? = some (u_lay R2 T2 k) := by decide +kernel
theorem i2_ok : ∀ w ∈ u_ws R2 T2 13, w ∈ lw_tbl := fun w h => by
  obtain ⟨k, hk, rfl⟩ := List.mem_map.mp h
  exact List.mem_of_getElem? (p2_ok k (List.mem_range.mp hk))
def R3 : String := "BellPlate$Book"
def T3 : u_T := fun k => match k with
  | 0 => ("BellPlate$Book", "sets", "[I", true)
  | 1 => ("BellPlate$Book", "rangs", "[Z", true)
  | 2 => ("BellPlate$Book", "hintSizes", "[I", true)
  | 3 => ("BellPlate$Book", "hintSets", "[I", true)
  | 4 => ("BellPlate$Book", "markTrials", "[I", true)
  | 5 => ("BellPlate$Book", "markHints", "[I", true)
  | 6 => ("BellPlate$Book", "markTimes", "[I", true)
  | 7 => ("BellPlate$Book", "trials", "I", false)
  | 8 => ("BellPlate$Book", "hints", "I", false)
  | 9 => ("BellPlate$Book", "time", "I", false)
  | _ => ("BellPlate$Book", "age", "I", false)
def Y3 : Nat → FieldType := fun k => match k with
  | 0 => (.array .int)
  | 1 => (.array .boolean)
  | 2 => (.array .int)
  | 3 => (.array .int)
  | 4 => (.array .int)
  | 5 => (.array .int)
  | 6 => (.array .int)
  | 7 => .int
  | 8 => .int
  | 9 => .int
  | _ => .int
def P3 : Nat → Nat := fun k => match k with
  | 0 => 309
  | 1 => 311
  | 2 => 313
  | 3 => 315
  | 4 => 317
  | 5 => 319
  | 6 => 321
  | 7 => 323
  | 8 => 325
  | 9 => 327
  | _ => 329
def K3 : Nat → Nat := fun k => match k with
  | 0 => 2
  | 1 => 2
  | 2 => 2
  | 3 => 2
  | 4 => 2
  | 5 => 2
  | 6 => 2
  | 7 => 0
  | 8 => 0
  | 9 => 0
  | _ => 0
theorem n3_ok : ∀ a, a < 11 → ∀ b, b < 11 → a ≠ b → (T3 a).2.1 ≠ (T3 b).2.1 := by decide +kernel
theorem y3_ok : ∀ k, k < 11 → parseFieldDescriptor (T3 k).2.2.1 = some (Y3 k) := by decide +kernel
theorem p3_ok : ∀ k, k < 11 → lw_tbl[P3 k]? = some (u_lay R3 T3 k) := by decide +kernel
theorem i3_ok : ∀ w ∈ u_ws R3 T3 11, w ∈ lw_tbl := fun w h => by
  obtain ⟨k, hk, rfl⟩ := List.mem_map.mp h
  exact List.mem_of_getElem? (p3_ok k (List.mem_range.mp hk))
def R4 : String := "BellPlate$Rest"
def T4 : u_T := fun k => match k with
  | 0 => ("BellPlate$Rest", "lists", "LBellPlate$Lists;", true)
  | 1 => ("BellPlate$Rest", "book", "LBellPlate$Book;", true)
  | 2 => ("BellPlate$Rest", "tally", "[I", true)
  | 3 => ("BellPlate$Rest", "kept", "[Z", false)
  | 4 => ("BellPlate$Rest", "row", "[I", false)
  | 5 => ("BellPlate$Rest", "size", "I", false)
  | 6 => ("BellPlate$Rest", "weights", "I", false)
  | 7 => ("BellPlate$Rest", "some", "J", false)
  | 8 => ("BellPlate$Rest", "every", "J", false)
  | _ => ("BellPlate$Rest", "age", "I", false)
def Y4 : Nat → FieldType := fun k => match k with
  | 0 => (.object "BellPlate$Lists")
  | 1 => (.object "BellPlate$Book")
  | 2 => (.array .int)
  | 3 => (.array .boolean)
  | 4 => (.array .int)
  | 5 => .int
  | 6 => .int
  | 7 => .long
  | 8 => .long
  | _ => .int
def P4 : Nat → Nat := fun k => match k with
  | 0 => 349
  | 1 => 351
  | 2 => 353
  | 3 => 355
  | 4 => 357
  | 5 => 359
  | 6 => 361
  | 7 => 363
  | 8 => 365
  | _ => 367
def K4 : Nat → Nat := fun k => match k with
  | 0 => 2
  | 1 => 2
  | 2 => 2
  | 3 => 2
  | 4 => 2
  | 5 => 0
  | 6 => 0
  | 7 => 1
  | 8 => 1
  | _ => 0
theorem n4_ok : ∀ a, a < 10 → ∀ b, b < 10 → a ≠ b → (T4 a).2.1 ≠ (T4 b).2.1 := by decide +kernel
theorem y4_ok : ∀ k, k < 10 → parseFieldDescriptor (T4 k).2.2.1 = some (Y4 k) := by decide +kernel
theorem p4_ok : ∀ k, k < 10 → lw_tbl[P4 k]? = some (u_lay R4 T4 k) := by decide +kernel
theorem i4_ok : ∀ w ∈ u_ws R4 T4 10, w ∈ lw_tbl := fun w h => by
  obtain ⟨k, hk, rfl⟩ := List.mem_map.mp h
  exact List.mem_of_getElem? (p4_ok k (List.mem_range.mp hk))
def R5 : String := "BellPlate$Chooser"
def T5 : u_T := fun k => match k with
  | 0 => ("BellPlate$Chooser", "tower", "LBellPlate$Tower;", true)
  | 1 => ("BellPlate$Chooser", "lists", "LBellPlate$Lists;", true)
  | 2 => ("BellPlate$Chooser", "book", "LBellPlate$Book;", true)
  | 3 => ("BellPlate$Chooser", "rest", "LBellPlate$Rest;", true)
  | 4 => ("BellPlate$Chooser", "planes", "[J", true)
  | 5 => ("BellPlate$Chooser", "planesUsed", "I", false)
  | 6 => ("BellPlate$Chooser", "froms", "[I", true)
  | 7 => ("BellPlate$Chooser", "tos", "[I", true)
  | 8 => ("BellPlate$Chooser", "depths", "[I", true)
  | 9 => ("BellPlate$Chooser", "worsts", "[I", true)
  | 10 => ("BellPlate$Chooser", "togethers", "[I", true)
  | 11 => ("BellPlate$Chooser", "ages", "[I", true)
  | 12 => ("BellPlate$Chooser", "runSets", "[I", true)
  | 13 => ("BellPlate$Chooser", "hidden", "I", false)
  | 14 => ("BellPlate$Chooser", "hiddenWay", "I", false)
  | 15 => ("BellPlate$Chooser", "hiddenAge", "I", false)
  | 16 => ("BellPlate$Chooser", "made", "I", false)
  | 17 => ("BellPlate$Chooser", "rang", "I", false)
  | _ => ("BellPlate$Chooser", "paid", "I", false)
def Y5 : Nat → FieldType := fun k => match k with
  | 0 => (.object "BellPlate$Tower")
  | 1 => (.object "BellPlate$Lists")
  | 2 => (.object "BellPlate$Book")
  | 3 => (.object "BellPlate$Rest")
  | 4 => (.array .long)
  | 5 => .int
  | 6 => (.array .int)
  | 7 => (.array .int)
  | 8 => (.array .int)
  | 9 => (.array .int)
  | 10 => (.array .int)
  | 11 => (.array .int)
  | 12 => (.array .int)
  | 13 => .int
  | 14 => .int
  | 15 => .int
  | 16 => .int
  | 17 => .int
  | _ => .int
def P5 : Nat → Nat := fun k => match k with
  | 0 => 398
  | 1 => 400
  | 2 => 402
  | 3 => 404
  | 4 => 406
  | 5 => 408
  | 6 => 410
  | 7 => 412
  | 8 => 414
  | 9 => 416
  | 10 => 418
  | 11 => 420
  | 12 => 422
  | 13 => 424
  | 14 => 426
  | 15 => 428
  | 16 => 430
  | 17 => 432
  | _ => 434
def K5 : Nat → Nat := fun k => match k with
  | 0 => 2
  | 1 => 2
  | 2 => 2
  | 3 => 2
  | 4 => 2
  | 5 => 0
  | 6 => 2
  | 7 => 2
  | 8 => 2
  | 9 => 2
  | 10 => 2
  | 11 => 2
  | 12 => 2
  | 13 => 0
  | 14 => 0
  | 15 => 0
  | 16 => 0
  | 17 => 0
  | _ => 0
theorem n5_ok : ∀ a, a < 19 → ∀ b, b < 19 → a ≠ b → (T5 a).2.1 ≠ (T5 b).2.1 := by decide +kernel
theorem y5_ok : ∀ k, k < 19 → parseFieldDescriptor (T5 k).2.2.1 = some (Y5 k) := by decide +kernel
theorem p5_ok : ∀ k, k < 19 → lw_tbl[P5 k]? = some (u_lay R5 T5 k) := by decide +kernel
theorem i5_ok : ∀ w ∈ u_ws R5 T5 19, w ∈ lw_tbl := fun w h => by
  obtain ⟨k, hk, rfl⟩ := List.mem_map.mp h
  exact List.mem_of_getElem? (p5_ok k (List.mem_range.mp hk))
def R6 : String := "BellPlate$Planner"
def T6 : u_T := fun k => match k with
  | 0 => ("BellPlate$Planner", "lists", "LBellPlate$Lists;", true)
  | 1 => ("BellPlate$Planner", "rest", "LBellPlate$Rest;", true)
  | 2 => ("BellPlate$Planner", "answers", "[I", true)
  | 3 => ("BellPlate$Planner", "groups", "[I", true)
  | 4 => ("BellPlate$Planner", "splits", "[I", true)
  | 5 => ("BellPlate$Planner", "splitSets", "[I", true)
  | 6 => ("BellPlate$Planner", "depths", "[B", true)
  | 7 => ("BellPlate$Planner", "splitCount", "I", false)
  | 8 => ("BellPlate$Planner", "trials", "I", false)
  | _ => ("BellPlate$Planner", "firstSet", "I", false)
def Y6 : Nat → FieldType := fun k => match k with
  | 0 => (.object "BellPlate$Lists")
  | 1 => (.object "BellPlate$Rest")
  | 2 => (.array .int)
  | 3 => (.array .int)
  | 4 => (.array .int)
  | 5 => (.array .int)
  | 6 => (.array .byte)
  | 7 => .int
  | 8 => .int
  | _ => .int
def P6 : Nat → Nat := fun k => match k with
  | 0 => 453
  | 1 => 455
  | 2 => 457
  | 3 => 459
  | 4 => 461
  | 5 => 463
  | 6 => 465
  | 7 => 467
  | 8 => 469
  | _ => 471
def K6 : Nat → Nat := fun k => match k with
  | 0 => 2
  | 1 => 2
  | 2 => 2
  | 3 => 2
  | 4 => 2
  | 5 => 2
  | 6 => 2
  | 7 => 0
  | 8 => 0
  | _ => 0
theorem n6_ok : ∀ a, a < 10 → ∀ b, b < 10 → a ≠ b → (T6 a).2.1 ≠ (T6 b).2.1 := by decide +kernel
theorem y6_ok : ∀ k, k < 10 → parseFieldDescriptor (T6 k).2.2.1 = some (Y6 k) := by decide +kernel
theorem p6_ok : ∀ k, k < 10 → lw_tbl[P6 k]? = some (u_lay R6 T6 k) := by decide +kernel
theorem i6_ok : ∀ w ∈ u_ws R6 T6 10, w ∈ lw_tbl := fun w h => by
  obtain ⟨k, hk, rfl⟩ := List.mem_map.mp h
  exact List.mem_of_getElem? (p6_ok k (List.mem_range.mp hk))
def R7 : String := "BellPlate$Fit"
def T7 : u_T := fun k => match k with
  | 0 => ("BellPlate$Fit", "tower", "LBellPlate$Tower;", true)
  | 1 => ("BellPlate$Fit", "book", "LBellPlate$Book;", true)
  | 2 => ("BellPlate$Fit", "row", "[I", true)
  | 3 => ("BellPlate$Fit", "ringers", "[I", true)
  | 4 => ("BellPlate$Fit", "silents", "[I", true)
  | 5 => ("BellPlate$Fit", "ringerCount", "I", false)
  | 6 => ("BellPlate$Fit", "silentCount", "I", false)
  | 7 => ("BellPlate$Fit", "found", "Z", false)
  | 8 => ("BellPlate$Fit", "leastSum", "I", false)
  | 9 => ("BellPlate$Fit", "leastBar", "I", false)
  | 10 => ("BellPlate$Fit", "leastNumber", "I", false)
  | 11 => ("BellPlate$Fit", "holders", "[J", true)
  | 12 => ("BellPlate$Fit", "ringTrials", "[I", true)
  | 13 => ("BellPlate$Fit", "chosen", "[I", true)
  | 14 => ("BellPlate$Fit", "ringTrialCount", "I", false)
  | _ => ("BellPlate$Fit", "pairs", "I", false)
def Y7 : Nat → FieldType := fun k => match k with
  | 0 => (.object "BellPlate$Tower")
  | 1 => (.object "BellPlate$Book")
  | 2 => (.array .int)
  | 3 => (.array .int)
  | 4 => (.array .int)
  | 5 => .int
  | 6 => .int
  | 7 => .boolean
  | 8 => .int
  | 9 => .int
  | 10 => .int
  | 11 => (.array .long)
  | 12 => (.array .int)
  | 13 => (.array .int)
  | 14 => .int
  | _ => .int
def P7 : Nat → Nat := fun k => match k with
  | 0 => 497
  | 1 => 499
  | 2 => 501
  | 3 => 503
  | 4 => 505
  | 5 => 507
  | 6 => 509
  | 7 => 511
  | 8 => 513
  | 9 => 515
  | 10 => 517
  | 11 => 519
  | 12 => 521
  | 13 => 523
  | 14 => 525
  | _ => 527
def K7 : Nat → Nat := fun k => match k with
  | 0 => 2
  | 1 => 2
  | 2 => 2
  | 3 => 2
  | 4 => 2
  | 5 => 0
  | 6 => 0
  | 7 => 0
  | 8 => 0
  | 9 => 0
  | 10 => 0
  | 11 => 2
  | 12 => 2
  | 13 => 2
  | 14 => 0
  | _ => 0
theorem n7_ok : ∀ a, a < 16 → ∀ b, b < 16 → a ≠ b → (T7 a).2.1 ≠ (T7 b).2.1 := by decide +kernel
theorem y7_ok : ∀ k, k < 16 → parseFieldDescriptor (T7 k).2.2.1 = some (Y7 k) := by decide +kernel
theorem p7_ok : ∀ k, k < 16 → lw_tbl[P7 k]? = some (u_lay R7 T7 k) := by decide +kernel
theorem i7_ok : ∀ w ∈ u_ws R7 T7 16, w ∈ lw_tbl := fun w h => by
  obtain ⟨k, hk, rfl⟩ := List.mem_map.mp h
  exact List.mem_of_getElem? (p7_ok k (List.mem_range.mp hk))
def R8 : String := "BellPlate$Doubt"
def T8 : u_T := fun k => match k with
  | 0 => ("BellPlate$Doubt", "tower", "LBellPlate$Tower;", true)
  | 1 => ("BellPlate$Doubt", "lists", "LBellPlate$Lists;", true)
  | 2 => ("BellPlate$Doubt", "book", "LBellPlate$Book;", true)
  | 3 => ("BellPlate$Doubt", "rang", "[J", true)
  | 4 => ("BellPlate$Doubt", "silent", "[J", true)
  | 5 => ("BellPlate$Doubt", "weightsByWrongs", "[I", true)
  | 6 => ("BellPlate$Doubt", "row", "[I", true)
  | 7 => ("BellPlate$Doubt", "fewestWrong", "I", false)
  | 8 => ("BellPlate$Doubt", "some", "J", false)
  | 9 => ("BellPlate$Doubt", "every", "J", false)
  | 10 => ("BellPlate$Doubt", "age", "I", false)
  | 11 => ("BellPlate$Doubt", "growthAge", "I", false)
  | 12 => ("BellPlate$Doubt", "growthBy", "I", false)
  | 13 => ("BellPlate$Doubt", "growthFrom", "I", false)
  | _ => ("BellPlate$Doubt", "growthThing", "I", false)
def Y8 : Nat → FieldType := fun k => match k with
  | 0 => (.object "BellPlate$Tower")
  | 1 => (.object "BellPlate$Lists")
  | 2 => (.object "BellPlate$Book")
  | 3 => (.array .long)
  | 4 => (.array .long)
  | 5 => (.array .int)
  | 6 => (.array .int)
  | 7 => .int
  | 8 => .long
  | 9 => .long
  | 10 => .int
  | 11 => .int
  | 12 => .int
  | 13 => .int
  | _ => .int
def P8 : Nat → Nat := fun k => match k with
  | 0 => 551
  | 1 => 553
  | 2 => 555
  | 3 => 557
  | 4 => 559
  | 5 => 561
  | 6 => 563
  | 7 => 565
  | 8 => 567
  | 9 => 569
  | 10 => 571
  | 11 => 573
  | 12 => 575
  | 13 => 577
  | _ => 579
def K8 : Nat → Nat := fun k => match k with
  | 0 => 2
  | 1 => 2
  | 2 => 2
  | 3 => 2
  | 4 => 2
  | 5 => 2
  | 6 => 2
  | 7 => 0
  | 8 => 1
  | 9 => 1
  | 10 => 0
  | 11 => 0
  | 12 => 0
  | 13 => 0
  | _ => 0
theorem n8_ok : ∀ a, a < 15 → ∀ b, b < 15 → a ≠ b → (T8 a).2.1 ≠ (T8 b).2.1 := by decide +kernel
theorem y8_ok : ∀ k, k < 15 → parseFieldDescriptor (T8 k).2.2.1 = some (Y8 k) := by decide +kernel
theorem p8_ok : ∀ k, k < 15 → lw_tbl[P8 k]? = some (u_lay R8 T8 k) := by decide +kernel
theorem i8_ok : ∀ w ∈ u_ws R8 T8 15, w ∈ lw_tbl := fun w h => by
  obtain ⟨k, hk, rfl⟩ := List.mem_map.mp h
  exact List.mem_of_getElem? (p8_ok k (List.mem_range.mp hk))
def R9 : String := "BellPlate$Power"
def T9 : u_T := fun k => match k with
  | 0 => ("BellPlate$Power", "tower", "LBellPlate$Tower;", true)
  | _ => ("BellPlate$Power", "lists", "LBellPlate$Lists;", true)
def Y9 : Nat → FieldType := fun k => match k with
  | 0 => (.object "BellPlate$Tower")
  | _ => (.object "BellPlate$Lists")
def P9 : Nat → Nat := fun k => match k with
  | 0 => 590
  | _ => 592
def K9 : Nat → Nat := fun k => match k with
  | 0 => 2
  | _ => 2
theorem n9_ok : ∀ a, a < 2 → ∀ b, b < 2 → a ≠ b → (T9 a).2.1 ≠ (T9 b).2.1 := by decide +kernel
theorem y9_ok : ∀ k, k < 2 → parseFieldDescriptor (T9 k).2.2.1 = some (Y9 k) := by decide +kernel
theorem p9_ok : ∀ k, k < 2 → lw_tbl[P9 k]? = some (u_lay R9 T9 k) := by decide +kernel
theorem i9_ok : ∀ w ∈ u_ws R9 T9 2, w ∈ lw_tbl := fun w h => by
  obtain ⟨k, hk, rfl⟩ := List.mem_map.mp h
  exact List.mem_of_getElem? (p9_ok k (List.mem_range.mp hk))
def R10 : String := "BellPlate"
def T10 : u_T := fun k => match k with
  | 0 => ("BellPlate", "reader", "LBellPlate$Reader;", true)
  | 1 => ("BellPlate", "told", "LBellPlate$Tower;", true)
  | 2 => ("BellPlate", "lists", "LBellPlate$Lists;", true)
  | 3 => ("BellPlate", "book", "LBellPlate$Book;", true)
  | 4 => ("BellPlate", "rest", "LBellPlate$Rest;", true)
  | 5 => ("BellPlate", "chooser", "LBellPlate$Chooser;", true)
  | 6 => ("BellPlate", "planner", "LBellPlate$Planner;", true)
  | 7 => ("BellPlate", "fit", "LBellPlate$Fit;", true)
  | 8 => ("BellPlate", "doubt", "LBellPlate$Doubt;", true)
  | 9 => ("BellPlate", "power", "LBellPlate$Power;", true)
  | 10 => ("BellPlate", "plate", "[I", true)
  | _ => ("BellPlate", "laid", "I", false)
def Y10 : Nat → FieldType := fun k => match k with
  | 0 => (.object "BellPlate$Reader")
  | 1 => (.object "BellPlate$Tower")
  | 2 => (.object "BellPlate$Lists")
  | 3 => (.object "BellPlate$Book")
  | 4 => (.object "BellPlate$Rest")
  | 5 => (.object "BellPlate$Chooser")
  | 6 => (.object "BellPlate$Planner")
  | 7 => (.object "BellPlate$Fit")
  | 8 => (.object "BellPlate$Doubt")
  | 9 => (.object "BellPlate$Power")
  | 10 => (.array .int)
  | _ => .int
def P10 : Nat → Nat := fun k => match k with
  | 0 => 702
  | 1 => 704
  | 2 => 706
  | 3 => 708
  | 4 => 710
  | 5 => 712
  | 6 => 714
  | 7 => 716
  | 8 => 718
  | 9 => 720
  | 10 => 722
  | _ => 724
def K10 : Nat → Nat := fun k => match k with
  | 0 => 2
  | 1 => 2
  | 2 => 2
  | 3 => 2
  | 4 => 2
  | 5 => 2
  | 6 => 2
  | 7 => 2
  | 8 => 2
  | 9 => 2
  | 10 => 2
  | _ => 0
theorem n10_ok : ∀ a, a < 12 → ∀ b, b < 12 → a ≠ b → (T10 a).2.1 ≠ (T10 b).2.1 := by decide +kernel
theorem y10_ok : ∀ k, k < 12 → parseFieldDescriptor (T10 k).2.2.1 = some (Y10 k) := by decide +kernel
theorem p10_ok : ∀ k, k < 12 → lw_tbl[P10 k]? = some (u_lay R10 T10 k) := by decide +kernel
theorem i10_ok : ∀ w ∈ u_ws R10 T10 12, w ∈ lw_tbl := fun w h => by
  obtain ⟨k, hk, rfl⟩ := List.mem_map.mp h
  exact List.mem_of_getElem? (p10_ok k (List.mem_range.mp hk))
def R11 : String := "BellPlateModel"
def T11 : u_T := fun k => match k with
  | 0 => ("BellPlateModel", "thrown", "I", false)
  | 1 => ("BellPlateModel", "tape", "[I", true)
  | 2 => ("BellPlateModel", "taped", "I", false)
  | 3 => ("BellPlateModel", "size", "I", false)
  | 4 => ("BellPlateModel", "sort", "[I", true)
  | 5 => ("BellPlateModel", "place", "[I", true)
  | 6 => ("BellPlateModel", "value", "[J", true)
  | 7 => ("BellPlateModel", "at", "I", false)
  | 8 => ("BellPlateModel", "fault", "I", false)
  | 9 => ("BellPlateModel", "words", "[J", true)
  | 10 => ("BellPlateModel", "things", "I", false)
  | 11 => ("BellPlateModel", "most", "I", false)
  | 12 => ("BellPlateModel", "bar", "I", false)
  | 13 => ("BellPlateModel", "allows", "I", false)
  | 14 => ("BellPlateModel", "lineAt", "[I", true)
  | 15 => ("BellPlateModel", "readThings", "I", false)
  | 16 => ("BellPlateModel", "readMost", "I", false)
  | 17 => ("BellPlateModel", "readBar", "I", false)
  | 18 => ("BellPlateModel", "readAllows", "I", false)
  | 19 => ("BellPlateModel", "names", "[J", true)
  | 20 => ("BellPlateModel", "op", "[I", true)
  | 21 => ("BellPlateModel", "arg", "[I", true)
  | 22 => ("BellPlateModel", "codes", "I", false)
  | 23 => ("BellPlateModel", "inAllow", "Z", false)
  | 24 => ("BellPlateModel", "facts", "[I", true)
  | 25 => ("BellPlateModel", "pile", "[I", true)
  | 26 => ("BellPlateModel", "weights", "I", false)
  | 27 => ("BellPlateModel", "listOf", "[J", true)
  | 28 => ("BellPlateModel", "mays", "[Z", true)
  | 29 => ("BellPlateModel", "lists", "I", false)
  | 30 => ("BellPlateModel", "lists64", "[J", true)
  | 31 => ("BellPlateModel", "manyOf", "[I", true)
  | 32 => ("BellPlateModel", "numberOf", "[I", true)
  | 33 => ("BellPlateModel", "slots", "[I", true)
  | 34 => ("BellPlateModel", "weightOf", "[I", true)
  | 35 => ("BellPlateModel", "setWeight", "[I", true)
  | 36 => ("BellPlateModel", "costs", "[I", true)
  | 37 => ("BellPlateModel", "trials", "I", false)
  | 38 => ("BellPlateModel", "trialSet", "[I", true)
  | 39 => ("BellPlateModel", "trialRang", "[Z", true)
  | 40 => ("BellPlateModel", "must", "J", false)
  | 41 => ("BellPlateModel", "mustNot", "J", false)
  | 42 => ("BellPlateModel", "hints", "I", false)
  | 43 => ("BellPlateModel", "hintSize", "[I", true)
  | 44 => ("BellPlateModel", "hintSets", "[I", true)
  | 45 => ("BellPlateModel", "leftOf", "[I", true)
  | 46 => ("BellPlateModel", "leftMany", "I", false)
  | 47 => ("BellPlateModel", "leftWeights", "I", false)
  | 48 => ("BellPlateModel", "some", "[I", true)
  | 49 => ("BellPlateModel", "steps", "I", false)
  | 50 => ("BellPlateModel", "worstSteps", "I", false)
  | 51 => ("BellPlateModel", "sumSteps", "J", false)
  | 52 => ("BellPlateModel", "listsRing", "[I", true)
  | 53 => ("BellPlateModel", "weightsRing", "[I", true)
  | 54 => ("BellPlateModel", "runOf", "[I", true)
  | 55 => ("BellPlateModel", "runRang", "I", false)
  | 56 => ("BellPlateModel", "runCost", "I", false)
  | 57 => ("BellPlateModel", "answer", "[I", true)
  | 58 => ("BellPlateModel", "ringMask", "[I", true)
  | 59 => ("BellPlateModel", "fewestOf", "[I", true)
  | 60 => ("BellPlateModel", "smallWeights", "I", false)
  | 61 => ("BellPlateModel", "smallBar", "I", false)
  | 62 => ("BellPlateModel", "smallSum", "I", false)
  | 63 => ("BellPlateModel", "pair", "[I", true)
  | 64 => ("BellPlateModel", "grownBy", "I", false)
  | 65 => ("BellPlateModel", "grownFrom", "I", false)
  | 66 => ("BellPlateModel", "grownThing", "I", false)
  | 67 => ("BellPlateModel", "cover", "[J", true)
  | 68 => ("BellPlateModel", "covers", "I", false)
  | 69 => ("BellPlateModel", "haveIt", "[I", true)
  | 70 => ("BellPlateModel", "onPlate", "I", false)
  | 71 => ("BellPlateModel", "plate", "[I", true)
  | 72 => ("BellPlateModel", "laid", "I", false)
  | 73 => ("BellPlateModel", "markOrder", "[I", true)
  | 74 => ("BellPlateModel", "markTrials", "[I", true)
  | _ => ("BellPlateModel", "markHints", "[I", true)
def Y11 : Nat → FieldType := fun k => match k with
  | 0 => .int
  | 1 => (.array .int)
  | 2 => .int
  | 3 => .int
  | 4 => (.array .int)
  | 5 => (.array .int)
  | 6 => (.array .long)
  | 7 => .int
  | 8 => .int
  | 9 => (.array .long)
  | 10 => .int
  | 11 => .int
  | 12 => .int
  | 13 => .int
  | 14 => (.array .int)
  | 15 => .int
  | 16 => .int
  | 17 => .int
  | 18 => .int
  | 19 => (.array .long)
  | 20 => (.array .int)
  | 21 => (.array .int)
  | 22 => .int
  | 23 => .boolean
  | 24 => (.array .int)
  | 25 => (.array .int)
  | 26 => .int
  | 27 => (.array .long)
  | 28 => (.array .boolean)
  | 29 => .int
  | 30 => (.array .long)
  | 31 => (.array .int)
  | 32 => (.array .int)
  | 33 => (.array .int)
  | 34 => (.array .int)
  | 35 => (.array .int)
  | 36 => (.array .int)
  | 37 => .int
  | 38 => (.array .int)
  | 39 => (.array .boolean)
  | 40 => .long
  | 41 => .long
  | 42 => .int
  | 43 => (.array .int)
  | 44 => (.array .int)
  | 45 => (.array .int)
  | 46 => .int
  | 47 => .int
  | 48 => (.array .int)
  | 49 => .int
  | 50 => .int
  | 51 => .long
  | 52 => (.array .int)
  | 53 => (.array .int)
  | 54 => (.array .int)
  | 55 => .int
  | 56 => .int
  | 57 => (.array .int)
  | 58 => (.array .int)
  | 59 => (.array .int)
  | 60 => .int
  | 61 => .int
  | 62 => .int
  | 63 => (.array .int)
  | 64 => .int
  | 65 => .int
  | 66 => .int
  | 67 => (.array .long)
  | 68 => .int
  | 69 => (.array .int)
  | 70 => .int
  | 71 => (.array .int)
  | 72 => .int
  | 73 => (.array .int)
  | 74 => (.array .int)
  | _ => (.array .int)
def P11 : Nat → Nat := fun k => match k with
  | 0 => 1928
  | 1 => 1930
  | 2 => 1932
  | 3 => 1934
  | 4 => 1936
  | 5 => 1938
  | 6 => 1940
  | 7 => 1942
  | 8 => 1944
  | 9 => 1946
  | 10 => 1948
  | 11 => 1950
  | 12 => 1952
  | 13 => 1954
  | 14 => 1956
  | 15 => 1958
  | 16 => 1960
  | 17 => 1962
  | 18 => 1964
  | 19 => 1966
  | 20 => 1968
  | 21 => 1970
  | 22 => 1972
  | 23 => 1974
  | 24 => 1976
  | 25 => 1978
  | 26 => 1980
  | 27 => 1982
  | 28 => 1984
  | 29 => 1986
  | 30 => 1988
  | 31 => 1990
  | 32 => 1992
  | 33 => 1994
  | 34 => 1996
  | 35 => 1998
  | 36 => 2000
  | 37 => 2002
  | 38 => 2004
  | 39 => 2006
  | 40 => 2008
  | 41 => 2010
  | 42 => 2012
  | 43 => 2014
  | 44 => 2016
  | 45 => 2018
  | 46 => 2020
  | 47 => 2022
  | 48 => 2024
  | 49 => 2026
  | 50 => 2028
  | 51 => 2030
  | 52 => 2032
  | 53 => 2034
  | 54 => 2036
  | 55 => 2038
  | 56 => 2040
  | 57 => 2042
  | 58 => 2044
  | 59 => 2046
  | 60 => 2048
  | 61 => 2050
  | 62 => 2052
  | 63 => 2054
  | 64 => 2056
  | 65 => 2058
  | 66 => 2060
  | 67 => 2062
  | 68 => 2064
  | 69 => 2066
  | 70 => 2068
  | 71 => 2070
  | 72 => 2072
  | 73 => 2074
  | 74 => 2076
  | _ => 2078
def K11 : Nat → Nat := fun k => match k with
  | 0 => 0
  | 1 => 2
  | 2 => 0
  | 3 => 0
  | 4 => 2
  | 5 => 2
  | 6 => 2
  | 7 => 0
  | 8 => 0
  | 9 => 2
  | 10 => 0
  | 11 => 0
  | 12 => 0
  | 13 => 0
  | 14 => 2
  | 15 => 0
  | 16 => 0
  | 17 => 0
  | 18 => 0
  | 19 => 2
  | 20 => 2
  | 21 => 2
  | 22 => 0
  | 23 => 0
  | 24 => 2
  | 25 => 2
  | 26 => 0
  | 27 => 2
  | 28 => 2
  | 29 => 0
  | 30 => 2
  | 31 => 2
  | 32 => 2
  | 33 => 2
  | 34 => 2
  | 35 => 2
  | 36 => 2
  | 37 => 0
  | 38 => 2
  | 39 => 2
  | 40 => 1
  | 41 => 1
  | 42 => 0
  | 43 => 2
  | 44 => 2
  | 45 => 2
  | 46 => 0
  | 47 => 0
  | 48 => 2
  | 49 => 0
  | 50 => 0
  | 51 => 1
  | 52 => 2
  | 53 => 2
  | 54 => 2
  | 55 => 0
  | 56 => 0
  | 57 => 2
  | 58 => 2
  | 59 => 2
  | 60 => 0
  | 61 => 0
  | 62 => 0
  | 63 => 2
  | 64 => 0
  | 65 => 0
  | 66 => 0
  | 67 => 2
  | 68 => 0
  | 69 => 2
  | 70 => 0
  | 71 => 2
  | 72 => 0
  | 73 => 2
  | 74 => 2
  | _ => 2
theorem n11_ok : ∀ a, a < 76 → ∀ b, b < 76 → a ≠ b → (T11 a).2.1 ≠ (T11 b).2.1 := by decide +kernel
theorem y11_ok : ∀ k, k < 76 → parseFieldDescriptor (T11 k).2.2.1 = some (Y11 k) := by decide +kernel
theorem p11_ok : ∀ k, k < 76 → lw_tbl[P11 k]? = some (u_lay R11 T11 k) := by decide +kernel
theorem i11_ok : ∀ w ∈ u_ws R11 T11 76, w ∈ lw_tbl := fun w h => by
  obtain ⟨k, hk, rfl⟩ := List.mem_map.mp h
  exact List.mem_of_getElem? (p11_ok k (List.mem_range.mp hk))
abbrev clA : List vw_C := [(R0, T0, 11), (R1, T1, 13), (R2, T2, 13), (R3, T3, 11), (R4, T4, 10), (R5, T5, 19), (R6, T6, 10), (R7, T7, 16), (R8, T8, 15), (R9, T9, 2), (R10, T10, 12), (R11, T11, 76)]
def ftk : Nat → Nat → Nat := fun ci => match ci with
  | 0 => K0
  | 1 => K1
  | 2 => K2
  | 3 => K3
  | 4 => K4
  | 5 => K5
  | 6 => K6
  | 7 => K7
  | 8 => K8
  | 9 => K9
  | 10 => K10
  | _ => K11
def lw_ok : List Cond := lw_tbl.filter goodWord
theorem okm {w : Cond} (h : w ∈ lw_tbl) (g : goodWord w = true) : w ∈ lw_ok := List.mem_filter.mpr ⟨h, g⟩
theorem ok_good {w : Cond} (h : w ∈ lw_ok) : (w.onTables && w.keeps) = true ∨ ∃ ty, w = .arrayClass ty := good_of_word (List.mem_filter.mp h).2
theorem j0_ok : ∀ w ∈ u_ws R0 T0 11, w ∈ lw_ok := fun w h => okm (i0_ok w h) (by obtain ⟨k, _, rfl⟩ := List.mem_map.mp h; unfold u_lay; split <;> rfl)
theorem f0_ok : ∀ k, k < 11 → defaultValue (Y0 k) = if ftk 0 k = 0 then .int 0 else if ftk 0 k = 1 then .long 0 else .null := by decide +kernel
theorem j1_ok : ∀ w ∈ u_ws R1 T1 13, w ∈ lw_ok := fun w h => okm (i1_ok w h) (by obtain ⟨k, _, rfl⟩ := List.mem_map.mp h; unfold u_lay; split <;> rfl)
theorem f1_ok : ∀ k, k < 13 → defaultValue (Y1 k) = if ftk 1 k = 0 then .int 0 else if ftk 1 k = 1 then .long 0 else .null := by decide +kernel
theorem j2_ok : ∀ w ∈ u_ws R2 T2 13, w ∈ lw_ok := fun w h => okm (i2_ok w h) (by obtain ⟨k, _, rfl⟩ := List.mem_map.mp h; unfold u_lay; split <;> rfl)
theorem f2_ok : ∀ k, k < 13 → defaultValue (Y2 k) = if ftk 2 k = 0 then .int 0 else if ftk 2 k = 1 then .long 0 else .null := by decide +kernel
theorem j3_ok : ∀ w ∈ u_ws R3 T3 11, w ∈ lw_ok := fun w h => okm (i3_ok w h) (by obtain ⟨k, _, rfl⟩ := List.mem_map.mp h; unfold u_lay; split <;> rfl)
theorem f3_ok : ∀ k, k < 11 → defaultValue (Y3 k) = if ftk 3 k = 0 then .int 0 else if ftk 3 k = 1 then .long 0 else .null := by decide +kernel
theorem j4_ok : ∀ w ∈ u_ws R4 T4 10, w ∈ lw_ok := fun w h => okm (i4_ok w h) (by obtain ⟨k, _, rfl⟩ := List.mem_map.mp h; unfold u_lay; split <;> rfl)
theorem f4_ok : ∀ k, k < 10 → defaultValue (Y4 k) = if ftk 4 k = 0 then .int 0 else if ftk 4 k = 1 then .long 0 else .null := by decide +kernel
theorem j5_ok : ∀ w ∈ u_ws R5 T5 19, w ∈ lw_ok := fun w h => okm (i5_ok w h) (by obtain ⟨k, _, rfl⟩ := List.mem_map.mp h; unfold u_lay; split <;> rfl)
theorem f5_ok : ∀ k, k < 19 → defaultValue (Y5 k) = if ftk 5 k = 0 then .int 0 else if ftk 5 k = 1 then .long 0 else .null := by decide +kernel
theorem j6_ok : ∀ w ∈ u_ws R6 T6 10, w ∈ lw_ok := fun w h => okm (i6_ok w h) (by obtain ⟨k, _, rfl⟩ := List.mem_map.mp h; unfold u_lay; split <;> rfl)
theorem f6_ok : ∀ k, k < 10 → defaultValue (Y6 k) = if ftk 6 k = 0 then .int 0 else if ftk 6 k = 1 then .long 0 else .null := by decide +kernel
theorem j7_ok : ∀ w ∈ u_ws R7 T7 16, w ∈ lw_ok := fun w h => okm (i7_ok w h) (by obtain ⟨k, _, rfl⟩ := List.mem_map.mp h; unfold u_lay; split <;> rfl)
theorem f7_ok : ∀ k, k < 16 → defaultValue (Y7 k) = if ftk 7 k = 0 then .int 0 else if ftk 7 k = 1 then .long 0 else .null := by decide +kernel
theorem j8_ok : ∀ w ∈ u_ws R8 T8 15, w ∈ lw_ok := fun w h => okm (i8_ok w h) (by obtain ⟨k, _, rfl⟩ := List.mem_map.mp h; unfold u_lay; split <;> rfl)
theorem f8_ok : ∀ k, k < 15 → defaultValue (Y8 k) = if ftk 8 k = 0 then .int 0 else if ftk 8 k = 1 then .long 0 else .null := by decide +kernel
theorem j9_ok : ∀ w ∈ u_ws R9 T9 2, w ∈ lw_ok := fun w h => okm (i9_ok w h) (by obtain ⟨k, _, rfl⟩ := List.mem_map.mp h; unfold u_lay; split <;> rfl)
theorem f9_ok : ∀ k, k < 2 → defaultValue (Y9 k) = if ftk 9 k = 0 then .int 0 else if ftk 9 k = 1 then .long 0 else .null := by decide +kernel
theorem j10_ok : ∀ w ∈ u_ws R10 T10 12, w ∈ lw_ok := fun w h => okm (i10_ok w h) (by obtain ⟨k, _, rfl⟩ := List.mem_map.mp h; unfold u_lay; split <;> rfl)
theorem f10_ok : ∀ k, k < 12 → defaultValue (Y10 k) = if ftk 10 k = 0 then .int 0 else if ftk 10 k = 1 then .long 0 else .null := by decide +kernel
theorem j11_ok : ∀ w ∈ u_ws R11 T11 76, w ∈ lw_ok := fun w h => okm (i11_ok w h) (by obtain ⟨k, _, rfl⟩ := List.mem_map.mp h; unfold u_lay; split <;> rfl)
theorem f11_ok : ∀ k, k < 76 → defaultValue (Y11 k) = if ftk 11 k = 0 then .int 0 else if ftk 11 k = 1 then .long 0 else .null := by decide +kernel
