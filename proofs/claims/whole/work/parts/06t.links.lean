theorem lwT_at {i : Nat} {w : Cond} (h : lw_tbl[i]? = some w) (hg : goodWord w = true) : w ∈ lwT := lwT_of (List.mem_of_getElem? h) hg
theorem uw_of (ws : List Cond) (ps : List Nat) (h : ws = ps.filterMap (fun i => lw_tbl[i]?)) (hg : ws.all goodWord = true) : ∀ w ∈ ws, w ∈ lwT := by
  intro w hw
  have h1 := List.all_eq_true.mp hg w hw
  rw [h] at hw
  obtain ⟨i, -, hi⟩ := List.mem_filterMap.mp hw
  exact lwT_at hi h1
theorem lwT_s {w : Cond} (h : w ∈ k2_sels lw_privs) (hg : goodWord w = true) : w ∈ lwT := lwT_of (List.mem_append_left _ h) hg
theorem lwT_1 {i : Nat} {w : Cond} (h0 : tables_1_1[i]? = some w) (hg : goodWord w = true) : w ∈ lwT := by
  have h := List.mem_of_getElem? h0
  exact lwT_of (List.mem_append_right _ (List.mem_append_left _ h)) hg
theorem lwT_2 {i : Nat} {w : Cond} (h0 : tables_1_2[i]? = some w) (hg : goodWord w = true) : w ∈ lwT := by
  have h := List.mem_of_getElem? h0
  exact lwT_of (List.mem_append_right _ (List.mem_append_right _ (List.mem_append_left _ h))) hg
theorem lwT_3 {i : Nat} {w : Cond} (h0 : tables_1_3[i]? = some w) (hg : goodWord w = true) : w ∈ lwT := by
  have h := List.mem_of_getElem? h0
  exact lwT_of (List.mem_append_right _ (List.mem_append_right _ (List.mem_append_right _ (List.mem_append_left _ h)))) hg
theorem lwT_4 {i : Nat} {w : Cond} (h0 : tables_1_4[i]? = some w) (hg : goodWord w = true) : w ∈ lwT := by
  have h := List.mem_of_getElem? h0
  exact lwT_of (List.mem_append_right _ (List.mem_append_right _ (List.mem_append_right _ (List.mem_append_right _ (List.mem_append_left _ h))))) hg
theorem lwT_5 {i : Nat} {w : Cond} (h0 : tables_1_5[i]? = some w) (hg : goodWord w = true) : w ∈ lwT := by
  have h := List.mem_of_getElem? h0
  exact lwT_of (List.mem_append_right _ (List.mem_append_right _ (List.mem_append_right _ (List.mem_append_right _ (List.mem_append_right _ (List.mem_append_left _ h)))))) hg
theorem lwT_6 {i : Nat} {w : Cond} (h0 : tables_1_6[i]? = some w) (hg : goodWord w = true) : w ∈ lwT := by
  have h := List.mem_of_getElem? h0
  exact lwT_of (List.mem_append_right _ (List.mem_append_right _ (List.mem_append_right _ (List.mem_append_right _ (List.mem_append_right _ (List.mem_append_right _ (List.mem_append_left _ h))))))) hg
theorem lwT_7 {i : Nat} {w : Cond} (h0 : tables_1_7[i]? = some w) (hg : goodWord w = true) : w ∈ lwT := by
  have h := List.mem_of_getElem? h0
  exact lwT_of (List.mem_append_right _ (List.mem_append_right _ (List.mem_append_right _ (List.mem_append_right _ (List.mem_append_right _ (List.mem_append_right _ (List.mem_append_right _ (h)))))))) hg
theorem uw0 : ∀ w ∈ u_ws RX0 TX0 6, w ∈ lwT := uw_of _ [245, 247, 249, 251, 253, 255] (by decide +kernel) (by decide +kernel)
theorem uw1 : ∀ w ∈ u_ws RX1 TX1 7, w ∈ lwT := uw_of _ [375, 377, 379, 381, 383, 385, 387] (by decide +kernel) (by decide +kernel)
theorem uw2 : ∀ w ∈ u_ws RX2 TX2 6, w ∈ lwT := uw_of _ [214, 216, 218, 220, 222, 224] (by decide +kernel) (by decide +kernel)
theorem uw3 : ∀ w ∈ u_ws RX3 TX3 7, w ∈ lwT := uw_of _ [286, 288, 290, 292, 294, 296, 298] (by decide +kernel) (by decide +kernel)
theorem uw4 : ∀ w ∈ u_ws RX4 TX4 2, w ∈ lwT := uw_of _ [433, 435] (by decide +kernel) (by decide +kernel)
theorem uw5 : ∀ w ∈ u_ws RX5 TX5 2, w ∈ lwT := uw_of _ [403, 405] (by decide +kernel) (by decide +kernel)
theorem uw6 : ∀ w ∈ u_ws RX6 TX6 12, w ∈ lwT := uw_of _ [464, 466, 468, 470, 472, 474, 476, 478, 480, 482, 484, 486] (by decide +kernel) (by decide +kernel)
theorem uw7 : ∀ w ∈ u_ws RX7 TX7 3, w ∈ lwT := uw_of _ [417, 419, 421] (by decide +kernel) (by decide +kernel)
theorem uw8 : ∀ w ∈ u_ws RX8 TX8 5, w ∈ lwT := uw_of _ [177, 179, 181, 183, 185] (by decide +kernel) (by decide +kernel)
theorem uw9 : ∀ w ∈ u_ws RX9 TX9 13, w ∈ lwT := uw_of _ [326, 328, 330, 332, 334, 336, 338, 340, 342, 344, 346, 348, 350] (by decide +kernel) (by decide +kernel)
theorem uw10 : ∀ w ∈ u_ws RX10 TX10 13, w ∈ lwT := uw_of _ [502, 504, 506, 508, 510, 512, 514, 516, 518, 520, 522, 524, 526] (by decide +kernel) (by decide +kernel)
theorem uw11 : ∀ w ∈ u_ws RX11 TX11 51, w ∈ lwT := uw_of _ [1186, 1188, 1190, 1192, 1194, 1196, 1198, 1200, 1202, 1204, 1206, 1208, 1210, 1212, 1214, 1216, 1218, 1220, 1222, 1224, 1226, 1228, 1230, 1232, 1234, 1236, 1238, 1240, 1242, 1244, 1246, 1248, 1250, 1252, 1254, 1256, 1258, 1260, 1262, 1264, 1266, 1268, 1270, 1272, 1274, 1276, 1278, 1280, 1282, 1284, 1286] (by decide +kernel) (by decide +kernel)
def mX0_add : MD := (yX0_add, cX0_add, 6, none)
theorem mw_X0_add : MW mX0_add 5 := ⟨lwT_4 (i := 25) (by decide +kernel) rfl, lwT_1 (i := 5) (by decide +kernel) rfl, by decide +kernel, ⟨by decide +kernel, by decide +kernel, by decide +kernel⟩, by decide⟩
theorem im_X0_add : Cond.instanceMethod mX0_add.1 ∈ lwT ∧ Cond.selects mX0_add.1.cls mX0_add.1 mX0_add.1 ∈ lwT := ⟨lwT_4 (i := 23) (by decide +kernel) rfl, lwT_4 (i := 24) (by decide +kernel) rfl⟩
def mX0_copyFrom : MD := (yX0_copyFrom, cX0_copyFrom, 2, none)
theorem mw_X0_copyFrom : MW mX0_copyFrom 1 := ⟨lwT_3 (i := 22) (by decide +kernel) rfl, lwT_1 (i := 5) (by decide +kernel) rfl, by decide +kernel, ⟨by decide +kernel, by decide +kernel, by decide +kernel⟩, by decide⟩
theorem im_X0_copyFrom : Cond.instanceMethod mX0_copyFrom.1 ∈ lwT ∧ Cond.selects mX0_copyFrom.1.cls mX0_copyFrom.1 mX0_copyFrom.1 ∈ lwT := ⟨lwT_3 (i := 20) (by decide +kernel) rfl, lwT_3 (i := 21) (by decide +kernel) rfl⟩
def mX1_clear : MD := (yX1_clear, cX1_clear, 1, none)
theorem mw_X1_clear : MW mX1_clear 0 := ⟨lwT_3 (i := 165) (by decide +kernel) rfl, lwT_1 (i := 8) (by decide +kernel) rfl, by decide +kernel, ⟨by decide +kernel, by decide +kernel, by decide +kernel⟩, by decide⟩
theorem im_X1_clear : Cond.instanceMethod mX1_clear.1 ∈ lwT ∧ Cond.selects mX1_clear.1.cls mX1_clear.1 mX1_clear.1 ∈ lwT := ⟨lwT_3 (i := 163) (by decide +kernel) rfl, lwT_3 (i := 164) (by decide +kernel) rfl⟩
def mX1_add : MD := (yX1_add, cX1_add, 2, none)
theorem mw_X1_add : MW mX1_add 1 := ⟨lwT_3 (i := 193) (by decide +kernel) rfl, lwT_1 (i := 8) (by decide +kernel) rfl, by decide +kernel, ⟨by decide +kernel, by decide +kernel, by decide +kernel⟩, by decide⟩
theorem im_X1_add : Cond.instanceMethod mX1_add.1 ∈ lwT ∧ Cond.selects mX1_add.1.cls mX1_add.1 mX1_add.1 ∈ lwT := ⟨lwT_3 (i := 191) (by decide +kernel) rfl, lwT_3 (i := 192) (by decide +kernel) rfl⟩
def mX1_addLine : MD := (yX1_addLine, cX1_addLine, 3, none)
theorem mw_X1_addLine : MW mX1_addLine 2 := ⟨lwT_3 (i := 213) (by decide +kernel) rfl, lwT_1 (i := 8) (by decide +kernel) rfl, by decide +kernel, ⟨by decide +kernel, by decide +kernel, by decide +kernel⟩, by decide⟩
theorem im_X1_addLine : Cond.instanceMethod mX1_addLine.1 ∈ lwT ∧ Cond.selects mX1_addLine.1.cls mX1_addLine.1 mX1_addLine.1 ∈ lwT := ⟨lwT_3 (i := 211) (by decide +kernel) rfl, lwT_3 (i := 212) (by decide +kernel) rfl⟩
def mX1_valueFor : MD := (yX1_valueFor, cX1_valueFor, 4, some .int)
theorem mw_X1_valueFor : MW mX1_valueFor 2 := ⟨lwT_4 (i := 53) (by decide +kernel) rfl, lwT_1 (i := 8) (by decide +kernel) rfl, by decide +kernel, ⟨by decide +kernel, by decide +kernel, by decide +kernel⟩, by decide⟩
theorem im_X1_valueFor : Cond.instanceMethod mX1_valueFor.1 ∈ lwT ∧ Cond.selects mX1_valueFor.1.cls mX1_valueFor.1 mX1_valueFor.1 ∈ lwT := ⟨lwT_4 (i := 51) (by decide +kernel) rfl, lwT_4 (i := 52) (by decide +kernel) rfl⟩
def mX1_run : MD := (yX1_run, cX1_run, 7, some .int)
theorem mw_X1_run : MW mX1_run 3 := ⟨lwT_4 (i := 57) (by decide +kernel) rfl, lwT_1 (i := 8) (by decide +kernel) rfl, by decide +kernel, ⟨by decide +kernel, by decide +kernel, by decide +kernel⟩, by decide⟩
theorem im_X1_run : Cond.instanceMethod mX1_run.1 ∈ lwT ∧ Cond.selects mX1_run.1.cls mX1_run.1 mX1_run.1 ∈ lwT := ⟨lwT_4 (i := 56) (by decide +kernel) rfl, lwT_at (i := 23) (by decide +kernel) rfl⟩
def mX1_joined : MD := (yX1_joined, cX1_joined, 3, some .int)
theorem mw_X1_joined : MW mX1_joined 3 := ⟨lwT_4 (i := 60) (by decide +kernel) rfl, lwT_1 (i := 8) (by decide +kernel) rfl, by decide +kernel, ⟨by decide +kernel, by decide +kernel, by decide +kernel⟩, by decide⟩
theorem im_X1_joined : Cond.static mX1_joined.1 ∈ lwT := lwT_4 (i := 59) (by decide +kernel) rfl
def mX1_copyFrom : MD := (yX1_copyFrom, cX1_copyFrom, 2, none)
theorem mw_X1_copyFrom : MW mX1_copyFrom 1 := ⟨lwT_3 (i := 217) (by decide +kernel) rfl, lwT_1 (i := 8) (by decide +kernel) rfl, by decide +kernel, ⟨by decide +kernel, by decide +kernel, by decide +kernel⟩, by decide⟩
theorem im_X1_copyFrom : Cond.instanceMethod mX1_copyFrom.1 ∈ lwT ∧ Cond.selects mX1_copyFrom.1.cls mX1_copyFrom.1 mX1_copyFrom.1 ∈ lwT := ⟨lwT_3 (i := 215) (by decide +kernel) rfl, lwT_3 (i := 216) (by decide +kernel) rfl⟩
def mX2_isFull : MD := (yX2_isFull, cX2_isFull, 1, some .boolean)
theorem mw_X2_isFull : MW mX2_isFull 0 := ⟨lwT_2 (i := 232) (by decide +kernel) rfl, lwT_1 (i := 4) (by decide +kernel) rfl, by decide +kernel, ⟨by decide +kernel, by decide +kernel, by decide +kernel⟩, by decide⟩
theorem im_X2_isFull : Cond.instanceMethod mX2_isFull.1 ∈ lwT ∧ Cond.selects mX2_isFull.1.cls mX2_isFull.1 mX2_isFull.1 ∈ lwT := ⟨lwT_2 (i := 230) (by decide +kernel) rfl, lwT_2 (i := 231) (by decide +kernel) rfl⟩
def mX2_has : MD := (yX2_has, cX2_has, 2, some .boolean)
theorem mw_X2_has : MW mX2_has 1 := ⟨lwT_3 (i := 49) (by decide +kernel) rfl, lwT_1 (i := 4) (by decide +kernel) rfl, by decide +kernel, ⟨by decide +kernel, by decide +kernel, by decide +kernel⟩, by decide⟩
theorem im_X2_has : Cond.instanceMethod mX2_has.1 ∈ lwT ∧ Cond.selects mX2_has.1.cls mX2_has.1 mX2_has.1 ∈ lwT := ⟨lwT_3 (i := 47) (by decide +kernel) rfl, lwT_3 (i := 48) (by decide +kernel) rfl⟩
def mX2_add : MD := (yX2_add, cX2_add, 6, none)
theorem mw_X2_add : MW mX2_add 5 := ⟨lwT_3 (i := 35) (by decide +kernel) rfl, lwT_1 (i := 4) (by decide +kernel) rfl, by decide +kernel, ⟨by decide +kernel, by decide +kernel, by decide +kernel⟩, by decide⟩
theorem im_X2_add : Cond.instanceMethod mX2_add.1 ∈ lwT ∧ Cond.selects mX2_add.1.cls mX2_add.1 mX2_add.1 ∈ lwT := ⟨lwT_3 (i := 33) (by decide +kernel) rfl, lwT_3 (i := 34) (by decide +kernel) rfl⟩
def mX2_remove : MD := (yX2_remove, cX2_remove, 2, none)
theorem mw_X2_remove : MW mX2_remove 1 := ⟨lwT_3 (i := 53) (by decide +kernel) rfl, lwT_1 (i := 4) (by decide +kernel) rfl, by decide +kernel, ⟨by decide +kernel, by decide +kernel, by decide +kernel⟩, by decide⟩
theorem im_X2_remove : Cond.instanceMethod mX2_remove.1 ∈ lwT ∧ Cond.selects mX2_remove.1.cls mX2_remove.1 mX2_remove.1 ∈ lwT := ⟨lwT_3 (i := 51) (by decide +kernel) rfl, lwT_3 (i := 52) (by decide +kernel) rfl⟩
def mX2_copyFrom : MD := (yX2_copyFrom, cX2_copyFrom, 2, none)
theorem mw_X2_copyFrom : MW mX2_copyFrom 1 := ⟨lwT_3 (i := 11) (by decide +kernel) rfl, lwT_1 (i := 4) (by decide +kernel) rfl, by decide +kernel, ⟨by decide +kernel, by decide +kernel, by decide +kernel⟩, by decide⟩
theorem im_X2_copyFrom : Cond.instanceMethod mX2_copyFrom.1 ∈ lwT ∧ Cond.selects mX2_copyFrom.1.cls mX2_copyFrom.1 mX2_copyFrom.1 ∈ lwT := ⟨lwT_3 (i := 9) (by decide +kernel) rfl, lwT_3 (i := 10) (by decide +kernel) rfl⟩
def mX3_begin : MD := (yX3_begin, cX3_begin, 4, none)
theorem mw_X3_begin : MW mX3_begin 3 := ⟨lwT_2 (i := 195) (by decide +kernel) rfl, lwT_1 (i := 6) (by decide +kernel) rfl, by decide +kernel, ⟨by decide +kernel, by decide +kernel, by decide +kernel⟩, by decide⟩
theorem im_X3_begin : Cond.instanceMethod mX3_begin.1 ∈ lwT ∧ Cond.selects mX3_begin.1.cls mX3_begin.1 mX3_begin.1 ∈ lwT := ⟨lwT_2 (i := 193) (by decide +kernel) rfl, lwT_2 (i := 194) (by decide +kernel) rfl⟩
def mX3_isWriting : MD := (yX3_isWriting, cX3_isWriting, 1, some .boolean)
theorem mw_X3_isWriting : MW mX3_isWriting 0 := ⟨lwT_4 (i := 30) (by decide +kernel) rfl, lwT_1 (i := 6) (by decide +kernel) rfl, by decide +kernel, ⟨by decide +kernel, by decide +kernel, by decide +kernel⟩, by decide⟩
theorem im_X3_isWriting : Cond.instanceMethod mX3_isWriting.1 ∈ lwT ∧ Cond.selects mX3_isWriting.1.cls mX3_isWriting.1 mX3_isWriting.1 ∈ lwT := ⟨lwT_4 (i := 28) (by decide +kernel) rfl, lwT_4 (i := 29) (by decide +kernel) rfl⟩
def mX3_passesOn : MD := (yX3_passesOn, cX3_passesOn, 1, some .boolean)
theorem mw_X3_passesOn : MW mX3_passesOn 0 := ⟨lwT_4 (i := 202) (by decide +kernel) rfl, lwT_1 (i := 6) (by decide +kernel) rfl, by decide +kernel, ⟨by decide +kernel, by decide +kernel, by decide +kernel⟩, by decide⟩
theorem im_X3_passesOn : Cond.instanceMethod mX3_passesOn.1 ∈ lwT ∧ Cond.selects mX3_passesOn.1.cls mX3_passesOn.1 mX3_passesOn.1 ∈ lwT := ⟨lwT_4 (i := 200) (by decide +kernel) rfl, lwT_4 (i := 201) (by decide +kernel) rfl⟩
def mX3_rowSet : MD := (yX3_rowSet, cX3_rowSet, 3, some .int)
theorem mw_X3_rowSet : MW mX3_rowSet 0 := ⟨lwT_4 (i := 119) (by decide +kernel) rfl, lwT_1 (i := 6) (by decide +kernel) rfl, by decide +kernel, ⟨by decide +kernel, by decide +kernel, by decide +kernel⟩, by decide⟩
theorem im_X3_rowSet : Cond.instanceMethod mX3_rowSet.1 ∈ lwT ∧ Cond.selects mX3_rowSet.1.cls mX3_rowSet.1 mX3_rowSet.1 ∈ lwT := ⟨lwT_4 (i := 117) (by decide +kernel) rfl, lwT_4 (i := 118) (by decide +kernel) rfl⟩
def mX3_copyFrom : MD := (yX3_copyFrom, cX3_copyFrom, 2, none)
theorem mw_X3_copyFrom : MW mX3_copyFrom 1 := ⟨lwT_3 (i := 4) (by decide +kernel) rfl, lwT_1 (i := 6) (by decide +kernel) rfl, by decide +kernel, ⟨by decide +kernel, by decide +kernel, by decide +kernel⟩, by decide⟩
theorem im_X3_copyFrom : Cond.instanceMethod mX3_copyFrom.1 ∈ lwT ∧ Cond.selects mX3_copyFrom.1.cls mX3_copyFrom.1 mX3_copyFrom.1 ∈ lwT := ⟨lwT_3 (i := 2) (by decide +kernel) rfl, lwT_3 (i := 3) (by decide +kernel) rfl⟩
def mX4_canTake : MD := (yX4_canTake, cX4_canTake, 3, some .boolean)
theorem mw_X4_canTake : MW mX4_canTake 1 := ⟨lwT_4 (i := 218) (by decide +kernel) rfl, lwT_1 (i := 11) (by decide +kernel) rfl, by decide +kernel, ⟨by decide +kernel, by decide +kernel, by decide +kernel⟩, by decide⟩
theorem im_X4_canTake : Cond.instanceMethod mX4_canTake.1 ∈ lwT ∧ Cond.selects mX4_canTake.1.cls mX4_canTake.1 mX4_canTake.1 ∈ lwT := ⟨lwT_4 (i := 216) (by decide +kernel) rfl, lwT_4 (i := 217) (by decide +kernel) rfl⟩
def mX4_take : MD := (yX4_take, cX4_take, 2, none)
theorem mw_X4_take : MW mX4_take 1 := ⟨lwT_4 (i := 222) (by decide +kernel) rfl, lwT_1 (i := 11) (by decide +kernel) rfl, by decide +kernel, ⟨by decide +kernel, by decide +kernel, by decide +kernel⟩, by decide⟩
theorem im_X4_take : Cond.instanceMethod mX4_take.1 ∈ lwT ∧ Cond.selects mX4_take.1.cls mX4_take.1 mX4_take.1 ∈ lwT := ⟨lwT_4 (i := 220) (by decide +kernel) rfl, lwT_4 (i := 221) (by decide +kernel) rfl⟩
def mX4_keepBelow : MD := (yX4_keepBelow, cX4_keepBelow, 4, none)
theorem mw_X4_keepBelow : MW mX4_keepBelow 1 := ⟨lwT_5 (i := 29) (by decide +kernel) rfl, lwT_1 (i := 11) (by decide +kernel) rfl, by decide +kernel, ⟨by decide +kernel, by decide +kernel, by decide +kernel⟩, by decide⟩
theorem im_X4_keepBelow : Cond.instanceMethod mX4_keepBelow.1 ∈ lwT ∧ Cond.selects mX4_keepBelow.1.cls mX4_keepBelow.1 mX4_keepBelow.1 ∈ lwT := ⟨lwT_5 (i := 27) (by decide +kernel) rfl, lwT_5 (i := 28) (by decide +kernel) rfl⟩
def mX4_leastJoin : MD := (yX4_leastJoin, cX4_leastJoin, 9, some .int)
theorem mw_X4_leastJoin : MW mX4_leastJoin 1 := ⟨lwT_4 (i := 230) (by decide +kernel) rfl, lwT_1 (i := 11) (by decide +kernel) rfl, by decide +kernel, ⟨by decide +kernel, by decide +kernel, by decide +kernel⟩, by decide⟩
theorem im_X4_leastJoin : Cond.instanceMethod mX4_leastJoin.1 ∈ lwT ∧ Cond.selects mX4_leastJoin.1.cls mX4_leastJoin.1 mX4_leastJoin.1 ∈ lwT := ⟨lwT_4 (i := 228) (by decide +kernel) rfl, lwT_4 (i := 229) (by decide +kernel) rfl⟩
def mX4_nearness : MD := (yX4_nearness, cX4_nearness, 7, some .int)
theorem mw_X4_nearness : MW mX4_nearness 3 := ⟨lwT_4 (i := 235) (by decide +kernel) rfl, lwT_1 (i := 11) (by decide +kernel) rfl, by decide +kernel, ⟨by decide +kernel, by decide +kernel, by decide +kernel⟩, by decide⟩
theorem im_X4_nearness : Cond.instanceMethod mX4_nearness.1 ∈ lwT ∧ Cond.selects mX4_nearness.1.cls mX4_nearness.1 mX4_nearness.1 ∈ lwT := ⟨lwT_4 (i := 234) (by decide +kernel) rfl, lwT_at (i := 31) (by decide +kernel) rfl⟩
def mX4_copyFrom : MD := (yX4_copyFrom, cX4_copyFrom, 2, none)
theorem mw_X4_copyFrom : MW mX4_copyFrom 1 := ⟨lwT_5 (i := 43) (by decide +kernel) rfl, lwT_1 (i := 11) (by decide +kernel) rfl, by decide +kernel, ⟨by decide +kernel, by decide +kernel, by decide +kernel⟩, by decide⟩
theorem im_X4_copyFrom : Cond.instanceMethod mX4_copyFrom.1 ∈ lwT ∧ Cond.selects mX4_copyFrom.1.cls mX4_copyFrom.1 mX4_copyFrom.1 ∈ lwT := ⟨lwT_5 (i := 41) (by decide +kernel) rfl, lwT_5 (i := 42) (by decide +kernel) rfl⟩
def mX5_clear : MD := (yX5_clear, cX5_clear, 1, none)
theorem mw_X5_clear : MW mX5_clear 0 := ⟨lwT_3 (i := 226) (by decide +kernel) rfl, lwT_1 (i := 9) (by decide +kernel) rfl, by decide +kernel, ⟨by decide +kernel, by decide +kernel, by decide +kernel⟩, by decide⟩
theorem im_X5_clear : Cond.instanceMethod mX5_clear.1 ∈ lwT ∧ Cond.selects mX5_clear.1.cls mX5_clear.1 mX5_clear.1 ∈ lwT := ⟨lwT_3 (i := 224) (by decide +kernel) rfl, lwT_3 (i := 225) (by decide +kernel) rfl⟩
def mX5_add : MD := (yX5_add, cX5_add, 4, none)
theorem mw_X5_add : MW mX5_add 3 := ⟨lwT_3 (i := 230) (by decide +kernel) rfl, lwT_1 (i := 9) (by decide +kernel) rfl, by decide +kernel, ⟨by decide +kernel, by decide +kernel, by decide +kernel⟩, by decide⟩
theorem im_X5_add : Cond.instanceMethod mX5_add.1 ∈ lwT ∧ Cond.selects mX5_add.1.cls mX5_add.1 mX5_add.1 ∈ lwT := ⟨lwT_3 (i := 228) (by decide +kernel) rfl, lwT_3 (i := 229) (by decide +kernel) rfl⟩
def mX5_daysBetween : MD := (yX5_daysBetween, cX5_daysBetween, 3, some .int)
theorem mw_X5_daysBetween : MW mX5_daysBetween 2 := ⟨lwT_4 (i := 87) (by decide +kernel) rfl, lwT_1 (i := 9) (by decide +kernel) rfl, by decide +kernel, ⟨by decide +kernel, by decide +kernel, by decide +kernel⟩, by decide⟩
theorem im_X5_daysBetween : Cond.instanceMethod mX5_daysBetween.1 ∈ lwT ∧ Cond.selects mX5_daysBetween.1.cls mX5_daysBetween.1 mX5_daysBetween.1 ∈ lwT := ⟨lwT_4 (i := 85) (by decide +kernel) rfl, lwT_4 (i := 86) (by decide +kernel) rfl⟩
def mX5_copyFrom : MD := (yX5_copyFrom, cX5_copyFrom, 2, none)
theorem mw_X5_copyFrom : MW mX5_copyFrom 1 := ⟨lwT_3 (i := 234) (by decide +kernel) rfl, lwT_1 (i := 9) (by decide +kernel) rfl, by decide +kernel, ⟨by decide +kernel, by decide +kernel, by decide +kernel⟩, by decide⟩
theorem im_X5_copyFrom : Cond.instanceMethod mX5_copyFrom.1 ∈ lwT ∧ Cond.selects mX5_copyFrom.1.cls mX5_copyFrom.1 mX5_copyFrom.1 ∈ lwT := ⟨lwT_3 (i := 232) (by decide +kernel) rfl, lwT_3 (i := 233) (by decide +kernel) rfl⟩
def mX6_append : MD := (yX6_append, cX6_append, 6, some .int)
theorem mw_X6_append : MW mX6_append 5 := ⟨lwT_3 (i := 62) (by decide +kernel) rfl, lwT_1 (i := 12) (by decide +kernel) rfl, by decide +kernel, ⟨by decide +kernel, by decide +kernel, by decide +kernel⟩, by decide⟩
theorem im_X6_append : Cond.instanceMethod mX6_append.1 ∈ lwT ∧ Cond.selects mX6_append.1.cls mX6_append.1 mX6_append.1 ∈ lwT := ⟨lwT_3 (i := 60) (by decide +kernel) rfl, lwT_3 (i := 61) (by decide +kernel) rfl⟩
def mX6_appendNumber : MD := (yX6_appendNumber, cX6_appendNumber, 3, none)
theorem mw_X6_appendNumber : MW mX6_appendNumber 1 := ⟨lwT_3 (i := 66) (by decide +kernel) rfl, lwT_1 (i := 12) (by decide +kernel) rfl, by decide +kernel, ⟨by decide +kernel, by decide +kernel, by decide +kernel⟩, by decide⟩
theorem im_X6_appendNumber : Cond.instanceMethod mX6_appendNumber.1 ∈ lwT ∧ Cond.selects mX6_appendNumber.1.cls mX6_appendNumber.1 mX6_appendNumber.1 ∈ lwT := ⟨lwT_3 (i := 65) (by decide +kernel) rfl, lwT_at (i := 2) (by decide +kernel) rfl⟩
def mX6_begin : MD := (yX6_begin, cX6_begin, 1, none)
theorem mw_X6_begin : MW mX6_begin 0 := ⟨lwT_3 (i := 78) (by decide +kernel) rfl, lwT_1 (i := 12) (by decide +kernel) rfl, by decide +kernel, ⟨by decide +kernel, by decide +kernel, by decide +kernel⟩, by decide⟩
theorem im_X6_begin : Cond.instanceMethod mX6_begin.1 ∈ lwT ∧ Cond.selects mX6_begin.1.cls mX6_begin.1 mX6_begin.1 ∈ lwT := ⟨lwT_3 (i := 76) (by decide +kernel) rfl, lwT_3 (i := 77) (by decide +kernel) rfl⟩
def mX6_findTokens : MD := (yX6_findTokens, cX6_findTokens, 4, none)
theorem mw_X6_findTokens : MW mX6_findTokens 0 := ⟨lwT_3 (i := 82) (by decide +kernel) rfl, lwT_1 (i := 12) (by decide +kernel) rfl, by decide +kernel, ⟨by decide +kernel, by decide +kernel, by decide +kernel⟩, by decide⟩
theorem im_X6_findTokens : Cond.instanceMethod mX6_findTokens.1 ∈ lwT ∧ Cond.selects mX6_findTokens.1.cls mX6_findTokens.1 mX6_findTokens.1 ∈ lwT := ⟨lwT_3 (i := 81) (by decide +kernel) rfl, lwT_at (i := 3) (by decide +kernel) rfl⟩
def mX6_endOfToken : MD := (yX6_endOfToken, cX6_endOfToken, 3, some .int)
theorem mw_X6_endOfToken : MW mX6_endOfToken 1 := ⟨lwT_3 (i := 86) (by decide +kernel) rfl, lwT_1 (i := 12) (by decide +kernel) rfl, by decide +kernel, ⟨by decide +kernel, by decide +kernel, by decide +kernel⟩, by decide⟩
theorem im_X6_endOfToken : Cond.instanceMethod mX6_endOfToken.1 ∈ lwT ∧ Cond.selects mX6_endOfToken.1.cls mX6_endOfToken.1 mX6_endOfToken.1 ∈ lwT := ⟨lwT_3 (i := 85) (by decide +kernel) rfl, lwT_at (i := 4) (by decide +kernel) rfl⟩
def mX6_kindOfToken : MD := (yX6_kindOfToken, cX6_kindOfToken, 3, some .int)
theorem mw_X6_kindOfToken : MW mX6_kindOfToken 2 := ⟨lwT_3 (i := 96) (by decide +kernel) rfl, lwT_1 (i := 12) (by decide +kernel) rfl, by decide +kernel, ⟨by decide +kernel, by decide +kernel, by decide +kernel⟩, by decide⟩
theorem im_X6_kindOfToken : Cond.instanceMethod mX6_kindOfToken.1 ∈ lwT ∧ Cond.selects mX6_kindOfToken.1.cls mX6_kindOfToken.1 mX6_kindOfToken.1 ∈ lwT := ⟨lwT_3 (i := 95) (by decide +kernel) rfl, lwT_at (i := 5) (by decide +kernel) rfl⟩
def mX6_wordBetween : MD := (yX6_wordBetween, cX6_wordBetween, 6, some .int)
theorem mw_X6_wordBetween : MW mX6_wordBetween 2 := ⟨lwT_3 (i := 100) (by decide +kernel) rfl, lwT_1 (i := 12) (by decide +kernel) rfl, by decide +kernel, ⟨by decide +kernel, by decide +kernel, by decide +kernel⟩, by decide⟩
theorem im_X6_wordBetween : Cond.instanceMethod mX6_wordBetween.1 ∈ lwT ∧ Cond.selects mX6_wordBetween.1.cls mX6_wordBetween.1 mX6_wordBetween.1 ∈ lwT := ⟨lwT_3 (i := 99) (by decide +kernel) rfl, lwT_at (i := 6) (by decide +kernel) rfl⟩
def mX6_isSpelled : MD := (yX6_isSpelled, cX6_isSpelled, 5, some .boolean)
theorem mw_X6_isSpelled : MW mX6_isSpelled 3 := ⟨lwT_3 (i := 153) (by decide +kernel) rfl, lwT_1 (i := 12) (by decide +kernel) rfl, by decide +kernel, ⟨by decide +kernel, by decide +kernel, by decide +kernel⟩, by decide⟩
theorem im_X6_isSpelled : Cond.instanceMethod mX6_isSpelled.1 ∈ lwT ∧ Cond.selects mX6_isSpelled.1.cls mX6_isSpelled.1 mX6_isSpelled.1 ∈ lwT := ⟨lwT_3 (i := 152) (by decide +kernel) rfl, lwT_at (i := 7) (by decide +kernel) rfl⟩
def mX6_valueOfDigits : MD := (yX6_valueOfDigits, cX6_valueOfDigits, 5, some .int)
theorem mw_X6_valueOfDigits : MW mX6_valueOfDigits 2 := ⟨lwT_3 (i := 157) (by decide +kernel) rfl, lwT_1 (i := 12) (by decide +kernel) rfl, by decide +kernel, ⟨by decide +kernel, by decide +kernel, by decide +kernel⟩, by decide⟩
theorem im_X6_valueOfDigits : Cond.instanceMethod mX6_valueOfDigits.1 ∈ lwT ∧ Cond.selects mX6_valueOfDigits.1.cls mX6_valueOfDigits.1 mX6_valueOfDigits.1 ∈ lwT := ⟨lwT_3 (i := 156) (by decide +kernel) rfl, lwT_at (i := 8) (by decide +kernel) rfl⟩
def mX6_isLetter : MD := (yX6_isLetter, cX6_isLetter, 1, some .boolean)
theorem mw_X6_isLetter : MW mX6_isLetter 1 := ⟨lwT_3 (i := 89) (by decide +kernel) rfl, lwT_1 (i := 12) (by decide +kernel) rfl, by decide +kernel, ⟨by decide +kernel, by decide +kernel, by decide +kernel⟩, by decide⟩
theorem im_X6_isLetter : Cond.static mX6_isLetter.1 ∈ lwT := lwT_3 (i := 88) (by decide +kernel) rfl
def mX6_isDigit : MD := (yX6_isDigit, cX6_isDigit, 1, some .boolean)
theorem mw_X6_isDigit : MW mX6_isDigit 1 := ⟨lwT_3 (i := 92) (by decide +kernel) rfl, lwT_1 (i := 12) (by decide +kernel) rfl, by decide +kernel, ⟨by decide +kernel, by decide +kernel, by decide +kernel⟩, by decide⟩
theorem im_X6_isDigit : Cond.static mX6_isDigit.1 ∈ lwT := lwT_3 (i := 91) (by decide +kernel) rfl
def mX6_readLaw : MD := (yX6_readLaw, cX6_readLaw, 7, some .int)
theorem mw_X6_readLaw : MW mX6_readLaw 3 := ⟨lwT_3 (i := 161) (by decide +kernel) rfl, lwT_1 (i := 12) (by decide +kernel) rfl, by decide +kernel, ⟨by decide +kernel, by decide +kernel, by decide +kernel⟩, by decide⟩
theorem im_X6_readLaw : Cond.instanceMethod mX6_readLaw.1 ∈ lwT ∧ Cond.selects mX6_readLaw.1.cls mX6_readLaw.1 mX6_readLaw.1 ∈ lwT := ⟨lwT_3 (i := 159) (by decide +kernel) rfl, lwT_3 (i := 160) (by decide +kernel) rfl⟩
def mX6_readPost : MD := (yX6_readPost, cX6_readPost, 6, some .int)
theorem mw_X6_readPost : MW mX6_readPost 1 := ⟨lwT_3 (i := 222) (by decide +kernel) rfl, lwT_1 (i := 12) (by decide +kernel) rfl, by decide +kernel, ⟨by decide +kernel, by decide +kernel, by decide +kernel⟩, by decide⟩
theorem im_X6_readPost : Cond.instanceMethod mX6_readPost.1 ∈ lwT ∧ Cond.selects mX6_readPost.1.cls mX6_readPost.1 mX6_readPost.1 ∈ lwT := ⟨lwT_3 (i := 220) (by decide +kernel) rfl, lwT_3 (i := 221) (by decide +kernel) rfl⟩
def mX6_readChoice : MD := (yX6_readChoice, cX6_readChoice, 4, none)
theorem mw_X6_readChoice : MW mX6_readChoice 1 := ⟨lwT_3 (i := 205) (by decide +kernel) rfl, lwT_1 (i := 12) (by decide +kernel) rfl, by decide +kernel, ⟨by decide +kernel, by decide +kernel, by decide +kernel⟩, by decide⟩
theorem im_X6_readChoice : Cond.instanceMethod mX6_readChoice.1 ∈ lwT ∧ Cond.selects mX6_readChoice.1.cls mX6_readChoice.1 mX6_readChoice.1 ∈ lwT := ⟨lwT_3 (i := 204) (by decide +kernel) rfl, lwT_at (i := 17) (by decide +kernel) rfl⟩
def mX6_readTest : MD := (yX6_readTest, cX6_readTest, 4, none)
theorem mw_X6_readTest : MW mX6_readTest 1 := ⟨lwT_3 (i := 209) (by decide +kernel) rfl, lwT_1 (i := 12) (by decide +kernel) rfl, by decide +kernel, ⟨by decide +kernel, by decide +kernel, by decide +kernel⟩, by decide⟩
theorem im_X6_readTest : Cond.instanceMethod mX6_readTest.1 ∈ lwT ∧ Cond.selects mX6_readTest.1.cls mX6_readTest.1 mX6_readTest.1 ∈ lwT := ⟨lwT_3 (i := 208) (by decide +kernel) rfl, lwT_at (i := 18) (by decide +kernel) rfl⟩
def mX6_readSum : MD := (yX6_readSum, cX6_readSum, 3, none)
theorem mw_X6_readSum : MW mX6_readSum 0 := ⟨lwT_3 (i := 181) (by decide +kernel) rfl, lwT_1 (i := 12) (by decide +kernel) rfl, by decide +kernel, ⟨by decide +kernel, by decide +kernel, by decide +kernel⟩, by decide⟩
theorem im_X6_readSum : Cond.instanceMethod mX6_readSum.1 ∈ lwT ∧ Cond.selects mX6_readSum.1.cls mX6_readSum.1 mX6_readSum.1 ∈ lwT := ⟨lwT_3 (i := 180) (by decide +kernel) rfl, lwT_at (i := 12) (by decide +kernel) rfl⟩
def mX6_readProduct : MD := (yX6_readProduct, cX6_readProduct, 2, none)
theorem mw_X6_readProduct : MW mX6_readProduct 0 := ⟨lwT_3 (i := 185) (by decide +kernel) rfl, lwT_1 (i := 12) (by decide +kernel) rfl, by decide +kernel, ⟨by decide +kernel, by decide +kernel, by decide +kernel⟩, by decide⟩
theorem im_X6_readProduct : Cond.instanceMethod mX6_readProduct.1 ∈ lwT ∧ Cond.selects mX6_readProduct.1.cls mX6_readProduct.1 mX6_readProduct.1 ∈ lwT := ⟨lwT_3 (i := 184) (by decide +kernel) rfl, lwT_at (i := 13) (by decide +kernel) rfl⟩
def mX6_readUnit : MD := (yX6_readUnit, cX6_readUnit, 2, none)
theorem mw_X6_readUnit : MW mX6_readUnit 0 := ⟨lwT_3 (i := 189) (by decide +kernel) rfl, lwT_1 (i := 12) (by decide +kernel) rfl, by decide +kernel, ⟨by decide +kernel, by decide +kernel, by decide +kernel⟩, by decide⟩
theorem im_X6_readUnit : Cond.instanceMethod mX6_readUnit.1 ∈ lwT ∧ Cond.selects mX6_readUnit.1.cls mX6_readUnit.1 mX6_readUnit.1 ∈ lwT := ⟨lwT_3 (i := 188) (by decide +kernel) rfl, lwT_at (i := 14) (by decide +kernel) rfl⟩
def mX6_addOperation : MD := (yX6_addOperation, cX6_addOperation, 2, none)
theorem mw_X6_addOperation : MW mX6_addOperation 1 := ⟨lwT_3 (i := 197) (by decide +kernel) rfl, lwT_1 (i := 12) (by decide +kernel) rfl, by decide +kernel, ⟨by decide +kernel, by decide +kernel, by decide +kernel⟩, by decide⟩
theorem im_X6_addOperation : Cond.instanceMethod mX6_addOperation.1 ∈ lwT ∧ Cond.selects mX6_addOperation.1.cls mX6_addOperation.1 mX6_addOperation.1 ∈ lwT := ⟨lwT_3 (i := 196) (by decide +kernel) rfl, lwT_at (i := 15) (by decide +kernel) rfl⟩
def mX6_takes : MD := (yX6_takes, cX6_takes, 2, some .boolean)
theorem mw_X6_takes : MW mX6_takes 1 := ⟨lwT_3 (i := 177) (by decide +kernel) rfl, lwT_1 (i := 12) (by decide +kernel) rfl, by decide +kernel, ⟨by decide +kernel, by decide +kernel, by decide +kernel⟩, by decide⟩
theorem im_X6_takes : Cond.instanceMethod mX6_takes.1 ∈ lwT ∧ Cond.selects mX6_takes.1.cls mX6_takes.1 mX6_takes.1 ∈ lwT := ⟨lwT_3 (i := 176) (by decide +kernel) rfl, lwT_at (i := 11) (by decide +kernel) rfl⟩
def mX6_take : MD := (yX6_take, cX6_take, 2, none)
theorem mw_X6_take : MW mX6_take 1 := ⟨lwT_3 (i := 173) (by decide +kernel) rfl, lwT_1 (i := 12) (by decide +kernel) rfl, by decide +kernel, ⟨by decide +kernel, by decide +kernel, by decide +kernel⟩, by decide⟩
theorem im_X6_take : Cond.instanceMethod mX6_take.1 ∈ lwT ∧ Cond.selects mX6_take.1.cls mX6_take.1 mX6_take.1 ∈ lwT := ⟨lwT_3 (i := 172) (by decide +kernel) rfl, lwT_at (i := 10) (by decide +kernel) rfl⟩
def mX6_takeNumber : MD := (yX6_takeNumber, cX6_takeNumber, 4, some .int)
theorem mw_X6_takeNumber : MW mX6_takeNumber 2 := ⟨lwT_3 (i := 201) (by decide +kernel) rfl, lwT_1 (i := 12) (by decide +kernel) rfl, by decide +kernel, ⟨by decide +kernel, by decide +kernel, by decide +kernel⟩, by decide⟩
theorem im_X6_takeNumber : Cond.instanceMethod mX6_takeNumber.1 ∈ lwT ∧ Cond.selects mX6_takeNumber.1.cls mX6_takeNumber.1 mX6_takeNumber.1 ∈ lwT := ⟨lwT_3 (i := 200) (by decide +kernel) rfl, lwT_at (i := 16) (by decide +kernel) rfl⟩
def mX6_fail : MD := (yX6_fail, cX6_fail, 2, none)
theorem mw_X6_fail : MW mX6_fail 1 := ⟨lwT_3 (i := 169) (by decide +kernel) rfl, lwT_1 (i := 12) (by decide +kernel) rfl, by decide +kernel, ⟨by decide +kernel, by decide +kernel, by decide +kernel⟩, by decide⟩
theorem im_X6_fail : Cond.instanceMethod mX6_fail.1 ∈ lwT ∧ Cond.selects mX6_fail.1.cls mX6_fail.1 mX6_fail.1 ∈ lwT := ⟨lwT_3 (i := 168) (by decide +kernel) rfl, lwT_at (i := 9) (by decide +kernel) rfl⟩
def mX7_copyFrom : MD := (yX7_copyFrom, cX7_copyFrom, 2, none)
theorem mw_X7_copyFrom : MW mX7_copyFrom 1 := ⟨lwT_5 (i := 37) (by decide +kernel) rfl, lwT_1 (i := 7) (by decide +kernel) rfl, by decide +kernel, ⟨by decide +kernel, by decide +kernel, by decide +kernel⟩, by decide⟩
theorem im_X7_copyFrom : Cond.instanceMethod mX7_copyFrom.1 ∈ lwT ∧ Cond.selects mX7_copyFrom.1.cls mX7_copyFrom.1 mX7_copyFrom.1 ∈ lwT := ⟨lwT_5 (i := 35) (by decide +kernel) rfl, lwT_5 (i := 36) (by decide +kernel) rfl⟩
def mX8_has : MD := (yX8_has, cX8_has, 2, some .boolean)
theorem mw_X8_has : MW mX8_has 1 := ⟨lwT_2 (i := 228) (by decide +kernel) rfl, lwT_1 (i := 3) (by decide +kernel) rfl, by decide +kernel, ⟨by decide +kernel, by decide +kernel, by decide +kernel⟩, by decide⟩
theorem im_X8_has : Cond.instanceMethod mX8_has.1 ∈ lwT ∧ Cond.selects mX8_has.1.cls mX8_has.1 mX8_has.1 ∈ lwT := ⟨lwT_2 (i := 226) (by decide +kernel) rfl, lwT_2 (i := 227) (by decide +kernel) rfl⟩
def mX8_isFull : MD := (yX8_isFull, cX8_isFull, 1, some .boolean)
theorem mw_X8_isFull : MW mX8_isFull 0 := ⟨lwT_2 (i := 215) (by decide +kernel) rfl, lwT_1 (i := 3) (by decide +kernel) rfl, by decide +kernel, ⟨by decide +kernel, by decide +kernel, by decide +kernel⟩, by decide⟩
theorem im_X8_isFull : Cond.instanceMethod mX8_isFull.1 ∈ lwT ∧ Cond.selects mX8_isFull.1.cls mX8_isFull.1 mX8_isFull.1 ∈ lwT := ⟨lwT_2 (i := 213) (by decide +kernel) rfl, lwT_2 (i := 214) (by decide +kernel) rfl⟩
def mX8_add : MD := (yX8_add, cX8_add, 5, some .int)
theorem mw_X8_add : MW mX8_add 4 := ⟨lwT_2 (i := 219) (by decide +kernel) rfl, lwT_1 (i := 3) (by decide +kernel) rfl, by decide +kernel, ⟨by decide +kernel, by decide +kernel, by decide +kernel⟩, by decide⟩
theorem im_X8_add : Cond.instanceMethod mX8_add.1 ∈ lwT ∧ Cond.selects mX8_add.1.cls mX8_add.1 mX8_add.1 ∈ lwT := ⟨lwT_2 (i := 217) (by decide +kernel) rfl, lwT_2 (i := 218) (by decide +kernel) rfl⟩
def mX8_countChildren : MD := (yX8_countChildren, cX8_countChildren, 5, some .int)
theorem mw_X8_countChildren : MW mX8_countChildren 1 := ⟨lwT_4 (i := 132) (by decide +kernel) rfl, lwT_1 (i := 3) (by decide +kernel) rfl, by decide +kernel, ⟨by decide +kernel, by decide +kernel, by decide +kernel⟩, by decide⟩
theorem im_X8_countChildren : Cond.instanceMethod mX8_countChildren.1 ∈ lwT ∧ Cond.selects mX8_countChildren.1.cls mX8_countChildren.1 mX8_countChildren.1 ∈ lwT := ⟨lwT_4 (i := 130) (by decide +kernel) rfl, lwT_4 (i := 131) (by decide +kernel) rfl⟩
def mX8_commonForebear : MD := (yX8_commonForebear, cX8_commonForebear, 6, some .int)
theorem mw_X8_commonForebear : MW mX8_commonForebear 2 := ⟨lwT_5 (i := 5) (by decide +kernel) rfl, lwT_1 (i := 3) (by decide +kernel) rfl, by decide +kernel, ⟨by decide +kernel, by decide +kernel, by decide +kernel⟩, by decide⟩
theorem im_X8_commonForebear : Cond.instanceMethod mX8_commonForebear.1 ∈ lwT ∧ Cond.selects mX8_commonForebear.1.cls mX8_commonForebear.1 mX8_commonForebear.1 ∈ lwT := ⟨lwT_5 (i := 3) (by decide +kernel) rfl, lwT_5 (i := 4) (by decide +kernel) rfl⟩
def mX8_copyFrom : MD := (yX8_copyFrom, cX8_copyFrom, 2, none)
theorem mw_X8_copyFrom : MW mX8_copyFrom 1 := ⟨lwT_3 (i := 16) (by decide +kernel) rfl, lwT_1 (i := 3) (by decide +kernel) rfl, by decide +kernel, ⟨by decide +kernel, by decide +kernel, by decide +kernel⟩, by decide⟩
theorem im_X8_copyFrom : Cond.instanceMethod mX8_copyFrom.1 ∈ lwT ∧ Cond.selects mX8_copyFrom.1.cls mX8_copyFrom.1 mX8_copyFrom.1 ∈ lwT := ⟨lwT_3 (i := 14) (by decide +kernel) rfl, lwT_3 (i := 15) (by decide +kernel) rfl⟩
def mX9_hasPerson : MD := (yX9_hasPerson, cX9_hasPerson, 2, some .boolean)
theorem mw_X9_hasPerson : MW mX9_hasPerson 1 := ⟨lwT_2 (i := 203) (by decide +kernel) rfl, lwT_1 (i := 2) (by decide +kernel) rfl, by decide +kernel, ⟨by decide +kernel, by decide +kernel, by decide +kernel⟩, by decide⟩
theorem im_X9_hasPerson : Cond.instanceMethod mX9_hasPerson.1 ∈ lwT ∧ Cond.selects mX9_hasPerson.1.cls mX9_hasPerson.1 mX9_hasPerson.1 ∈ lwT := ⟨lwT_2 (i := 201) (by decide +kernel) rfl, lwT_2 (i := 202) (by decide +kernel) rfl⟩
def mX9_hasLetter : MD := (yX9_hasLetter, cX9_hasLetter, 3, some .boolean)
theorem mw_X9_hasLetter : MW mX9_hasLetter 2 := ⟨lwT_3 (i := 44) (by decide +kernel) rfl, lwT_1 (i := 2) (by decide +kernel) rfl, by decide +kernel, ⟨by decide +kernel, by decide +kernel, by decide +kernel⟩, by decide⟩
theorem im_X9_hasLetter : Cond.instanceMethod mX9_hasLetter.1 ∈ lwT ∧ Cond.selects mX9_hasLetter.1.cls mX9_hasLetter.1 mX9_hasLetter.1 ∈ lwT := ⟨lwT_3 (i := 42) (by decide +kernel) rfl, lwT_3 (i := 43) (by decide +kernel) rfl⟩
def mX9_addPerson : MD := (yX9_addPerson, cX9_addPerson, 4, some .int)
theorem mw_X9_addPerson : MW mX9_addPerson 3 := ⟨lwT_2 (i := 191) (by decide +kernel) rfl, lwT_1 (i := 2) (by decide +kernel) rfl, by decide +kernel, ⟨by decide +kernel, by decide +kernel, by decide +kernel⟩, by decide⟩
theorem im_X9_addPerson : Cond.instanceMethod mX9_addPerson.1 ∈ lwT ∧ Cond.selects mX9_addPerson.1.cls mX9_addPerson.1 mX9_addPerson.1 ∈ lwT := ⟨lwT_2 (i := 189) (by decide +kernel) rfl, lwT_2 (i := 190) (by decide +kernel) rfl⟩
def mX9_give : MD := (yX9_give, cX9_give, 5, none)
theorem mw_X9_give : MW mX9_give 3 := ⟨lwT_3 (i := 31) (by decide +kernel) rfl, lwT_1 (i := 2) (by decide +kernel) rfl, by decide +kernel, ⟨by decide +kernel, by decide +kernel, by decide +kernel⟩, by decide⟩
theorem im_X9_give : Cond.instanceMethod mX9_give.1 ∈ lwT ∧ Cond.selects mX9_give.1.cls mX9_give.1 mX9_give.1 ∈ lwT := ⟨lwT_3 (i := 29) (by decide +kernel) rfl, lwT_3 (i := 30) (by decide +kernel) rfl⟩
def mX9_passDay : MD := (yX9_passDay, cX9_passDay, 4, some .int)
theorem mw_X9_passDay : MW mX9_passDay 1 := ⟨lwT_4 (i := 8) (by decide +kernel) rfl, lwT_1 (i := 2) (by decide +kernel) rfl, by decide +kernel, ⟨by decide +kernel, by decide +kernel, by decide +kernel⟩, by decide⟩
theorem im_X9_passDay : Cond.instanceMethod mX9_passDay.1 ∈ lwT ∧ Cond.selects mX9_passDay.1.cls mX9_passDay.1 mX9_passDay.1 ∈ lwT := ⟨lwT_4 (i := 6) (by decide +kernel) rfl, lwT_4 (i := 7) (by decide +kernel) rfl⟩
def mX9_bringPost : MD := (yX9_bringPost, cX9_bringPost, 5, some .int)
theorem mw_X9_bringPost : MW mX9_bringPost 0 := ⟨lwT_4 (i := 12) (by decide +kernel) rfl, lwT_1 (i := 2) (by decide +kernel) rfl, by decide +kernel, ⟨by decide +kernel, by decide +kernel, by decide +kernel⟩, by decide⟩
theorem im_X9_bringPost : Cond.instanceMethod mX9_bringPost.1 ∈ lwT ∧ Cond.selects mX9_bringPost.1.cls mX9_bringPost.1 mX9_bringPost.1 ∈ lwT := ⟨lwT_4 (i := 11) (by decide +kernel) rfl, lwT_at (i := 19) (by decide +kernel) rfl⟩
def mX9_receive : MD := (yX9_receive, cX9_receive, 6, some .int)
theorem mw_X9_receive : MW mX9_receive 1 := ⟨lwT_4 (i := 16) (by decide +kernel) rfl, lwT_1 (i := 2) (by decide +kernel) rfl, by decide +kernel, ⟨by decide +kernel, by decide +kernel, by decide +kernel⟩, by decide⟩
theorem im_X9_receive : Cond.instanceMethod mX9_receive.1 ∈ lwT ∧ Cond.selects mX9_receive.1.cls mX9_receive.1 mX9_receive.1 ∈ lwT := ⟨lwT_4 (i := 15) (by decide +kernel) rfl, lwT_at (i := 20) (by decide +kernel) rfl⟩
def mX9_writeOut : MD := (yX9_writeOut, cX9_writeOut, 11, none)
theorem mw_X9_writeOut : MW mX9_writeOut 2 := ⟨lwT_4 (i := 34) (by decide +kernel) rfl, lwT_1 (i := 2) (by decide +kernel) rfl, by decide +kernel, ⟨by decide +kernel, by decide +kernel, by decide +kernel⟩, by decide⟩
theorem im_X9_writeOut : Cond.instanceMethod mX9_writeOut.1 ∈ lwT ∧ Cond.selects mX9_writeOut.1.cls mX9_writeOut.1 mX9_writeOut.1 ∈ lwT := ⟨lwT_4 (i := 33) (by decide +kernel) rfl, lwT_at (i := 21) (by decide +kernel) rfl⟩
def mX9_sendCopy : MD := (yX9_sendCopy, cX9_sendCopy, 8, none)
theorem mw_X9_sendCopy : MW mX9_sendCopy 3 := ⟨lwT_4 (i := 70) (by decide +kernel) rfl, lwT_1 (i := 2) (by decide +kernel) rfl, by decide +kernel, ⟨by decide +kernel, by decide +kernel, by decide +kernel⟩, by decide⟩
theorem im_X9_sendCopy : Cond.instanceMethod mX9_sendCopy.1 ∈ lwT ∧ Cond.selects mX9_sendCopy.1.cls mX9_sendCopy.1 mX9_sendCopy.1 ∈ lwT := ⟨lwT_4 (i := 69) (by decide +kernel) rfl, lwT_at (i := 24) (by decide +kernel) rfl⟩
def mX9_versionOfCopy : MD := (yX9_versionOfCopy, cX9_versionOfCopy, 5, some .int)
theorem mw_X9_versionOfCopy : MW mX9_versionOfCopy 2 := ⟨lwT_4 (i := 74) (by decide +kernel) rfl, lwT_1 (i := 2) (by decide +kernel) rfl, by decide +kernel, ⟨by decide +kernel, by decide +kernel, by decide +kernel⟩, by decide⟩
theorem im_X9_versionOfCopy : Cond.instanceMethod mX9_versionOfCopy.1 ∈ lwT ∧ Cond.selects mX9_versionOfCopy.1.cls mX9_versionOfCopy.1 mX9_versionOfCopy.1 ∈ lwT := ⟨lwT_4 (i := 73) (by decide +kernel) rfl, lwT_at (i := 25) (by decide +kernel) rfl⟩
def mX9_draw : MD := (yX9_draw, cX9_draw, 2, some .int)
theorem mw_X9_draw : MW mX9_draw 1 := ⟨lwT_4 (i := 78) (by decide +kernel) rfl, lwT_1 (i := 2) (by decide +kernel) rfl, by decide +kernel, ⟨by decide +kernel, by decide +kernel, by decide +kernel⟩, by decide⟩
theorem im_X9_draw : Cond.instanceMethod mX9_draw.1 ∈ lwT ∧ Cond.selects mX9_draw.1.cls mX9_draw.1 mX9_draw.1 ∈ lwT := ⟨lwT_4 (i := 77) (by decide +kernel) rfl, lwT_at (i := 26) (by decide +kernel) rfl⟩
def mX9_curseDue : MD := (yX9_curseDue, cX9_curseDue, 8, none)
theorem mw_X9_curseDue : MW mX9_curseDue 2 := ⟨lwT_4 (i := 91) (by decide +kernel) rfl, lwT_1 (i := 2) (by decide +kernel) rfl, by decide +kernel, ⟨by decide +kernel, by decide +kernel, by decide +kernel⟩, by decide⟩
theorem im_X9_curseDue : Cond.instanceMethod mX9_curseDue.1 ∈ lwT ∧ Cond.selects mX9_curseDue.1.cls mX9_curseDue.1 mX9_curseDue.1 ∈ lwT := ⟨lwT_4 (i := 90) (by decide +kernel) rfl, lwT_at (i := 27) (by decide +kernel) rfl⟩
def mX9_copiesToWrite : MD := (yX9_copiesToWrite, cX9_copiesToWrite, 4, some .int)
theorem mw_X9_copiesToWrite : MW mX9_copiesToWrite 3 := ⟨lwT_4 (i := 39) (by decide +kernel) rfl, lwT_1 (i := 2) (by decide +kernel) rfl, by decide +kernel, ⟨by decide +kernel, by decide +kernel, by decide +kernel⟩, by decide⟩
theorem im_X9_copiesToWrite : Cond.instanceMethod mX9_copiesToWrite.1 ∈ lwT ∧ Cond.selects mX9_copiesToWrite.1.cls mX9_copiesToWrite.1 mX9_copiesToWrite.1 ∈ lwT := ⟨lwT_4 (i := 37) (by decide +kernel) rfl, lwT_4 (i := 38) (by decide +kernel) rfl⟩
def mX9_illLuck : MD := (yX9_illLuck, cX9_illLuck, 5, some .int)
theorem mw_X9_illLuck : MW mX9_illLuck 3 := ⟨lwT_4 (i := 95) (by decide +kernel) rfl, lwT_1 (i := 2) (by decide +kernel) rfl, by decide +kernel, ⟨by decide +kernel, by decide +kernel, by decide +kernel⟩, by decide⟩
theorem im_X9_illLuck : Cond.instanceMethod mX9_illLuck.1 ∈ lwT ∧ Cond.selects mX9_illLuck.1.cls mX9_illLuck.1 mX9_illLuck.1 ∈ lwT := ⟨lwT_4 (i := 93) (by decide +kernel) rfl, lwT_4 (i := 94) (by decide +kernel) rfl⟩
def mX9_nameAll : MD := (yX9_nameAll, cX9_nameAll, 5, none)
theorem mw_X9_nameAll : MW mX9_nameAll 2 := ⟨lwT_4 (i := 43) (by decide +kernel) rfl, lwT_1 (i := 2) (by decide +kernel) rfl, by decide +kernel, ⟨by decide +kernel, by decide +kernel, by decide +kernel⟩, by decide⟩
theorem im_X9_nameAll : Cond.instanceMethod mX9_nameAll.1 ∈ lwT ∧ Cond.selects mX9_nameAll.1.cls mX9_nameAll.1 mX9_nameAll.1 ∈ lwT := ⟨lwT_4 (i := 42) (by decide +kernel) rfl, lwT_at (i := 22) (by decide +kernel) rfl⟩
def mX9_leastStamps : MD := (yX9_leastStamps, cX9_leastStamps, 11, some .int)
theorem mw_X9_leastStamps : MW mX9_leastStamps 3 := ⟨lwT_4 (i := 115) (by decide +kernel) rfl, lwT_1 (i := 2) (by decide +kernel) rfl, by decide +kernel, ⟨by decide +kernel, by decide +kernel, by decide +kernel⟩, by decide⟩
theorem im_X9_leastStamps : Cond.instanceMethod mX9_leastStamps.1 ∈ lwT ∧ Cond.selects mX9_leastStamps.1.cls mX9_leastStamps.1 mX9_leastStamps.1 ∈ lwT := ⟨lwT_4 (i := 113) (by decide +kernel) rfl, lwT_4 (i := 114) (by decide +kernel) rfl⟩
def mX9_countHeld : MD := (yX9_countHeld, cX9_countHeld, 4, some .int)
theorem mw_X9_countHeld : MW mX9_countHeld 1 := ⟨lwT_4 (i := 166) (by decide +kernel) rfl, lwT_1 (i := 2) (by decide +kernel) rfl, by decide +kernel, ⟨by decide +kernel, by decide +kernel, by decide +kernel⟩, by decide⟩
theorem im_X9_countHeld : Cond.instanceMethod mX9_countHeld.1 ∈ lwT ∧ Cond.selects mX9_countHeld.1.cls mX9_countHeld.1 mX9_countHeld.1 ∈ lwT := ⟨lwT_4 (i := 164) (by decide +kernel) rfl, lwT_4 (i := 165) (by decide +kernel) rfl⟩
def mX9_isOver : MD := (yX9_isOver, cX9_isOver, 2, some .boolean)
theorem mw_X9_isOver : MW mX9_isOver 0 := ⟨lwT_4 (i := 174) (by decide +kernel) rfl, lwT_1 (i := 2) (by decide +kernel) rfl, by decide +kernel, ⟨by decide +kernel, by decide +kernel, by decide +kernel⟩, by decide⟩
theorem im_X9_isOver : Cond.instanceMethod mX9_isOver.1 ∈ lwT ∧ Cond.selects mX9_isOver.1.cls mX9_isOver.1 mX9_isOver.1 ∈ lwT := ⟨lwT_4 (i := 172) (by decide +kernel) rfl, lwT_4 (i := 173) (by decide +kernel) rfl⟩
def mX9_countLettersOf : MD := (yX9_countLettersOf, cX9_countLettersOf, 6, some .int)
theorem mw_X9_countLettersOf : MW mX9_countLettersOf 1 := ⟨lwT_4 (i := 137) (by decide +kernel) rfl, lwT_1 (i := 2) (by decide +kernel) rfl, by decide +kernel, ⟨by decide +kernel, by decide +kernel, by decide +kernel⟩, by decide⟩
theorem im_X9_countLettersOf : Cond.instanceMethod mX9_countLettersOf.1 ∈ lwT ∧ Cond.selects mX9_countLettersOf.1.cls mX9_countLettersOf.1 mX9_countLettersOf.1 ∈ lwT := ⟨lwT_4 (i := 135) (by decide +kernel) rfl, lwT_4 (i := 136) (by decide +kernel) rfl⟩
def mX9_isKnown : MD := (yX9_isKnown, cX9_isKnown, 3, some .boolean)
theorem mw_X9_isKnown : MW mX9_isKnown 1 := ⟨lwT_4 (i := 141) (by decide +kernel) rfl, lwT_1 (i := 2) (by decide +kernel) rfl, by decide +kernel, ⟨by decide +kernel, by decide +kernel, by decide +kernel⟩, by decide⟩
theorem im_X9_isKnown : Cond.instanceMethod mX9_isKnown.1 ∈ lwT ∧ Cond.selects mX9_isKnown.1.cls mX9_isKnown.1 mX9_isKnown.1 ∈ lwT := ⟨lwT_4 (i := 139) (by decide +kernel) rfl, lwT_4 (i := 140) (by decide +kernel) rfl⟩
def mX9_commonestCurse : MD := (yX9_commonestCurse, cX9_commonestCurse, 5, some .int)
theorem mw_X9_commonestCurse : MW mX9_commonestCurse 0 := ⟨lwT_5 (i := 13) (by decide +kernel) rfl, lwT_1 (i := 2) (by decide +kernel) rfl, by decide +kernel, ⟨by decide +kernel, by decide +kernel, by decide +kernel⟩, by decide⟩
theorem im_X9_commonestCurse : Cond.instanceMethod mX9_commonestCurse.1 ∈ lwT ∧ Cond.selects mX9_commonestCurse.1.cls mX9_commonestCurse.1 mX9_commonestCurse.1 ∈ lwT := ⟨lwT_5 (i := 11) (by decide +kernel) rfl, lwT_5 (i := 12) (by decide +kernel) rfl⟩
def mX9_countHeldWith : MD := (yX9_countHeldWith, cX9_countHeldWith, 6, some .int)
theorem mw_X9_countHeldWith : MW mX9_countHeldWith 1 := ⟨lwT_5 (i := 17) (by decide +kernel) rfl, lwT_1 (i := 2) (by decide +kernel) rfl, by decide +kernel, ⟨by decide +kernel, by decide +kernel, by decide +kernel⟩, by decide⟩
theorem im_X9_countHeldWith : Cond.instanceMethod mX9_countHeldWith.1 ∈ lwT ∧ Cond.selects mX9_countHeldWith.1.cls mX9_countHeldWith.1 mX9_countHeldWith.1 ∈ lwT := ⟨lwT_5 (i := 16) (by decide +kernel) rfl, lwT_at (i := 32) (by decide +kernel) rfl⟩
def mX9_reachedFrom : MD := (yX9_reachedFrom, cX9_reachedFrom, 8, some .int)
theorem mw_X9_reachedFrom : MW mX9_reachedFrom 2 := ⟨lwT_4 (i := 198) (by decide +kernel) rfl, lwT_1 (i := 2) (by decide +kernel) rfl, by decide +kernel, ⟨by decide +kernel, by decide +kernel, by decide +kernel⟩, by decide⟩
theorem im_X9_reachedFrom : Cond.instanceMethod mX9_reachedFrom.1 ∈ lwT ∧ Cond.selects mX9_reachedFrom.1.cls mX9_reachedFrom.1 mX9_reachedFrom.1 ∈ lwT := ⟨lwT_4 (i := 196) (by decide +kernel) rfl, lwT_4 (i := 197) (by decide +kernel) rfl⟩
def mX9_copyFrom : MD := (yX9_copyFrom, cX9_copyFrom, 3, none)
theorem mw_X9_copyFrom : MW mX9_copyFrom 1 := ⟨lwT_3 (i := 0) (by decide +kernel) rfl, lwT_1 (i := 2) (by decide +kernel) rfl, by decide +kernel, ⟨by decide +kernel, by decide +kernel, by decide +kernel⟩, by decide⟩
theorem im_X9_copyFrom : Cond.instanceMethod mX9_copyFrom.1 ∈ lwT ∧ Cond.selects mX9_copyFrom.1.cls mX9_copyFrom.1 mX9_copyFrom.1 ∈ lwT := ⟨lwT_2 (i := 238) (by decide +kernel) rfl, lwT_2 (i := 239) (by decide +kernel) rfl⟩
def mX10_state : MD := (yX10_state, cX10_state, 3, some .int)
theorem mw_X10_state : MW mX10_state 1 := ⟨lwT_2 (i := 172) (by decide +kernel) rfl, lwT_1 (i := 1) (by decide +kernel) rfl, by decide +kernel, ⟨by decide +kernel, by decide +kernel, by decide +kernel⟩, by decide⟩
theorem im_X10_state : Cond.instanceMethod mX10_state.1 ∈ lwT ∧ Cond.selects mX10_state.1.cls mX10_state.1 mX10_state.1 ∈ lwT := ⟨lwT_2 (i := 170) (by decide +kernel) rfl, lwT_2 (i := 171) (by decide +kernel) rfl⟩
def mX10_person : MD := (yX10_person, cX10_person, 4, some .int)
theorem mw_X10_person : MW mX10_person 3 := ⟨lwT_2 (i := 180) (by decide +kernel) rfl, lwT_1 (i := 1) (by decide +kernel) rfl, by decide +kernel, ⟨by decide +kernel, by decide +kernel, by decide +kernel⟩, by decide⟩
theorem im_X10_person : Cond.instanceMethod mX10_person.1 ∈ lwT ∧ Cond.selects mX10_person.1.cls mX10_person.1 mX10_person.1 ∈ lwT := ⟨lwT_2 (i := 178) (by decide +kernel) rfl, lwT_2 (i := 179) (by decide +kernel) rfl⟩
def mX10_set : MD := (yX10_set, cX10_set, 4, some .boolean)
theorem mw_X10_set : MW mX10_set 3 := ⟨lwT_2 (i := 199) (by decide +kernel) rfl, lwT_1 (i := 1) (by decide +kernel) rfl, by decide +kernel, ⟨by decide +kernel, by decide +kernel, by decide +kernel⟩, by decide⟩
theorem im_X10_set : Cond.instanceMethod mX10_set.1 ∈ lwT ∧ Cond.selects mX10_set.1.cls mX10_set.1 mX10_set.1 ∈ lwT := ⟨lwT_2 (i := 197) (by decide +kernel) rfl, lwT_2 (i := 198) (by decide +kernel) rfl⟩
def mX10_address : MD := (yX10_address, cX10_address, 4, some .int)
theorem mw_X10_address : MW mX10_address 2 := ⟨lwT_2 (i := 207) (by decide +kernel) rfl, lwT_1 (i := 1) (by decide +kernel) rfl, by decide +kernel, ⟨by decide +kernel, by decide +kernel, by decide +kernel⟩, by decide⟩
theorem im_X10_address : Cond.instanceMethod mX10_address.1 ∈ lwT ∧ Cond.selects mX10_address.1.cls mX10_address.1 mX10_address.1 ∈ lwT := ⟨lwT_2 (i := 205) (by decide +kernel) rfl, lwT_2 (i := 206) (by decide +kernel) rfl⟩
def mX10_version : MD := (yX10_version, cX10_version, 3, some .int)
theorem mw_X10_version : MW mX10_version 2 := ⟨lwT_2 (i := 211) (by decide +kernel) rfl, lwT_1 (i := 1) (by decide +kernel) rfl, by decide +kernel, ⟨by decide +kernel, by decide +kernel, by decide +kernel⟩, by decide⟩
theorem im_X10_version : Cond.instanceMethod mX10_version.1 ∈ lwT ∧ Cond.selects mX10_version.1.cls mX10_version.1 mX10_version.1 ∈ lwT := ⟨lwT_2 (i := 209) (by decide +kernel) rfl, lwT_2 (i := 210) (by decide +kernel) rfl⟩
def mX10_hand : MD := (yX10_hand, cX10_hand, 4, some .boolean)
theorem mw_X10_hand : MW mX10_hand 2 := ⟨lwT_2 (i := 224) (by decide +kernel) rfl, lwT_1 (i := 1) (by decide +kernel) rfl, by decide +kernel, ⟨by decide +kernel, by decide +kernel, by decide +kernel⟩, by decide⟩
theorem im_X10_hand : Cond.instanceMethod mX10_hand.1 ∈ lwT ∧ Cond.selects mX10_hand.1.cls mX10_hand.1 mX10_hand.1 ∈ lwT := ⟨lwT_2 (i := 222) (by decide +kernel) rfl, lwT_2 (i := 223) (by decide +kernel) rfl⟩
def mX10_burn : MD := (yX10_burn, cX10_burn, 3, some .boolean)
theorem mw_X10_burn : MW mX10_burn 2 := ⟨lwT_3 (i := 40) (by decide +kernel) rfl, lwT_1 (i := 1) (by decide +kernel) rfl, by decide +kernel, ⟨by decide +kernel, by decide +kernel, by decide +kernel⟩, by decide⟩
theorem im_X10_burn : Cond.instanceMethod mX10_burn.1 ∈ lwT ∧ Cond.selects mX10_burn.1.cls mX10_burn.1 mX10_burn.1 ∈ lwT := ⟨lwT_3 (i := 38) (by decide +kernel) rfl, lwT_3 (i := 39) (by decide +kernel) rfl⟩
def mX10_feed : MD := (yX10_feed, cX10_feed, 6, some .int)
theorem mw_X10_feed : MW mX10_feed 5 := ⟨lwT_3 (i := 58) (by decide +kernel) rfl, lwT_1 (i := 1) (by decide +kernel) rfl, by decide +kernel, ⟨by decide +kernel, by decide +kernel, by decide +kernel⟩, by decide⟩
theorem im_X10_feed : Cond.instanceMethod mX10_feed.1 ∈ lwT ∧ Cond.selects mX10_feed.1.cls mX10_feed.1 mX10_feed.1 ∈ lwT := ⟨lwT_3 (i := 56) (by decide +kernel) rfl, lwT_3 (i := 57) (by decide +kernel) rfl⟩
def mX10_end : MD := (yX10_end, cX10_end, 2, some .boolean)
theorem mw_X10_end : MW mX10_end 1 := ⟨lwT_3 (i := 70) (by decide +kernel) rfl, lwT_1 (i := 1) (by decide +kernel) rfl, by decide +kernel, ⟨by decide +kernel, by decide +kernel, by decide +kernel⟩, by decide⟩
theorem im_X10_end : Cond.instanceMethod mX10_end.1 ∈ lwT ∧ Cond.selects mX10_end.1.cls mX10_end.1 mX10_end.1 ∈ lwT := ⟨lwT_3 (i := 68) (by decide +kernel) rfl, lwT_3 (i := 69) (by decide +kernel) rfl⟩
def mX10_text : MD := (yX10_text, cX10_text, 3, some .int)
theorem mw_X10_text : MW mX10_text 1 := ⟨lwT_3 (i := 74) (by decide +kernel) rfl, lwT_1 (i := 1) (by decide +kernel) rfl, by decide +kernel, ⟨by decide +kernel, by decide +kernel, by decide +kernel⟩, by decide⟩
theorem im_X10_text : Cond.instanceMethod mX10_text.1 ∈ lwT ∧ Cond.selects mX10_text.1.cls mX10_text.1 mX10_text.1 ∈ lwT := ⟨lwT_3 (i := 72) (by decide +kernel) rfl, lwT_3 (i := 73) (by decide +kernel) rfl⟩
def mX10_fault : MD := (yX10_fault, cX10_fault, 2, some .int)
theorem mw_X10_fault : MW mX10_fault 1 := ⟨lwT_4 (i := 0) (by decide +kernel) rfl, lwT_1 (i := 1) (by decide +kernel) rfl, by decide +kernel, ⟨by decide +kernel, by decide +kernel, by decide +kernel⟩, by decide⟩
theorem im_X10_fault : Cond.instanceMethod mX10_fault.1 ∈ lwT ∧ Cond.selects mX10_fault.1.cls mX10_fault.1 mX10_fault.1 ∈ lwT := ⟨lwT_3 (i := 238) (by decide +kernel) rfl, lwT_3 (i := 239) (by decide +kernel) rfl⟩
def mX10_days : MD := (yX10_days, cX10_days, 4, some .int)
theorem mw_X10_days : MW mX10_days 1 := ⟨lwT_4 (i := 4) (by decide +kernel) rfl, lwT_1 (i := 1) (by decide +kernel) rfl, by decide +kernel, ⟨by decide +kernel, by decide +kernel, by decide +kernel⟩, by decide⟩
theorem im_X10_days : Cond.instanceMethod mX10_days.1 ∈ lwT ∧ Cond.selects mX10_days.1.cls mX10_days.1 mX10_days.1 ∈ lwT := ⟨lwT_4 (i := 2) (by decide +kernel) rfl, lwT_4 (i := 3) (by decide +kernel) rfl⟩
def mX10_of : MD := (yX10_of, cX10_of, 4, some .int)
theorem mw_X10_of : MW mX10_of 2 := ⟨lwT_4 (i := 99) (by decide +kernel) rfl, lwT_1 (i := 1) (by decide +kernel) rfl, by decide +kernel, ⟨by decide +kernel, by decide +kernel, by decide +kernel⟩, by decide⟩
theorem im_X10_of : Cond.instanceMethod mX10_of.1 ∈ lwT ∧ Cond.selects mX10_of.1.cls mX10_of.1 mX10_of.1 ∈ lwT := ⟨lwT_4 (i := 97) (by decide +kernel) rfl, lwT_4 (i := 98) (by decide +kernel) rfl⟩
def mX10_letter : MD := (yX10_letter, cX10_letter, 5, some .int)
theorem mw_X10_letter : MW mX10_letter 3 := ⟨lwT_4 (i := 109) (by decide +kernel) rfl, lwT_1 (i := 1) (by decide +kernel) rfl, by decide +kernel, ⟨by decide +kernel, by decide +kernel, by decide +kernel⟩, by decide⟩
theorem im_X10_letter : Cond.instanceMethod mX10_letter.1 ∈ lwT ∧ Cond.selects mX10_letter.1.cls mX10_letter.1 mX10_letter.1 ∈ lwT := ⟨lwT_4 (i := 107) (by decide +kernel) rfl, lwT_4 (i := 108) (by decide +kernel) rfl⟩
def mX10_onWay : MD := (yX10_onWay, cX10_onWay, 4, some .int)
theorem mw_X10_onWay : MW mX10_onWay 2 := ⟨lwT_4 (i := 123) (by decide +kernel) rfl, lwT_1 (i := 1) (by decide +kernel) rfl, by decide +kernel, ⟨by decide +kernel, by decide +kernel, by decide +kernel⟩, by decide⟩
theorem im_X10_onWay : Cond.instanceMethod mX10_onWay.1 ∈ lwT ∧ Cond.selects mX10_onWay.1.cls mX10_onWay.1 mX10_onWay.1 ∈ lwT := ⟨lwT_4 (i := 121) (by decide +kernel) rfl, lwT_4 (i := 122) (by decide +kernel) rfl⟩
def mX10_kind : MD := (yX10_kind, cX10_kind, 4, some .int)
theorem mw_X10_kind : MW mX10_kind 2 := ⟨lwT_4 (i := 128) (by decide +kernel) rfl, lwT_1 (i := 1) (by decide +kernel) rfl, by decide +kernel, ⟨by decide +kernel, by decide +kernel, by decide +kernel⟩, by decide⟩
theorem im_X10_kind : Cond.instanceMethod mX10_kind.1 ∈ lwT ∧ Cond.selects mX10_kind.1.cls mX10_kind.1 mX10_kind.1 ∈ lwT := ⟨lwT_4 (i := 126) (by decide +kernel) rfl, lwT_4 (i := 127) (by decide +kernel) rfl⟩
def mX10_post : MD := (yX10_post, cX10_post, 3, some .int)
theorem mw_X10_post : MW mX10_post 2 := ⟨lwT_4 (i := 145) (by decide +kernel) rfl, lwT_1 (i := 1) (by decide +kernel) rfl, by decide +kernel, ⟨by decide +kernel, by decide +kernel, by decide +kernel⟩, by decide⟩
theorem im_X10_post : Cond.instanceMethod mX10_post.1 ∈ lwT ∧ Cond.selects mX10_post.1.cls mX10_post.1 mX10_post.1 ∈ lwT := ⟨lwT_4 (i := 143) (by decide +kernel) rfl, lwT_4 (i := 144) (by decide +kernel) rfl⟩
def mX10_book : MD := (yX10_book, cX10_book, 4, some .int)
theorem mw_X10_book : MW mX10_book 2 := ⟨lwT_4 (i := 150) (by decide +kernel) rfl, lwT_1 (i := 1) (by decide +kernel) rfl, by decide +kernel, ⟨by decide +kernel, by decide +kernel, by decide +kernel⟩, by decide⟩
theorem im_X10_book : Cond.instanceMethod mX10_book.1 ∈ lwT ∧ Cond.selects mX10_book.1.cls mX10_book.1 mX10_book.1 ∈ lwT := ⟨lwT_4 (i := 148) (by decide +kernel) rfl, lwT_4 (i := 149) (by decide +kernel) rfl⟩
def mX10_many : MD := (yX10_many, cX10_many, 3, some .int)
theorem mw_X10_many : MW mX10_many 2 := ⟨lwT_4 (i := 154) (by decide +kernel) rfl, lwT_1 (i := 1) (by decide +kernel) rfl, by decide +kernel, ⟨by decide +kernel, by decide +kernel, by decide +kernel⟩, by decide⟩
theorem im_X10_many : Cond.instanceMethod mX10_many.1 ∈ lwT ∧ Cond.selects mX10_many.1.cls mX10_many.1 mX10_many.1 ∈ lwT := ⟨lwT_4 (i := 152) (by decide +kernel) rfl, lwT_4 (i := 153) (by decide +kernel) rfl⟩
def mX10_over : MD := (yX10_over, cX10_over, 2, some .int)
theorem mw_X10_over : MW mX10_over 0 := ⟨lwT_4 (i := 170) (by decide +kernel) rfl, lwT_1 (i := 1) (by decide +kernel) rfl, by decide +kernel, ⟨by decide +kernel, by decide +kernel, by decide +kernel⟩, by decide⟩
theorem im_X10_over : Cond.instanceMethod mX10_over.1 ∈ lwT ∧ Cond.selects mX10_over.1.cls mX10_over.1 mX10_over.1 ∈ lwT := ⟨lwT_4 (i := 168) (by decide +kernel) rfl, lwT_4 (i := 169) (by decide +kernel) rfl⟩
def mX10_stop : MD := (yX10_stop, cX10_stop, 4, some .int)
theorem mw_X10_stop : MW mX10_stop 1 := ⟨lwT_4 (i := 178) (by decide +kernel) rfl, lwT_1 (i := 1) (by decide +kernel) rfl, by decide +kernel, ⟨by decide +kernel, by decide +kernel, by decide +kernel⟩, by decide⟩
theorem im_X10_stop : Cond.instanceMethod mX10_stop.1 ∈ lwT ∧ Cond.selects mX10_stop.1.cls mX10_stop.1 mX10_stop.1 ∈ lwT := ⟨lwT_4 (i := 176) (by decide +kernel) rfl, lwT_4 (i := 177) (by decide +kernel) rfl⟩
def mX10_reach : MD := (yX10_reach, cX10_reach, 2, some .int)
theorem mw_X10_reach : MW mX10_reach 1 := ⟨lwT_4 (i := 194) (by decide +kernel) rfl, lwT_1 (i := 1) (by decide +kernel) rfl, by decide +kernel, ⟨by decide +kernel, by decide +kernel, by decide +kernel⟩, by decide⟩
theorem im_X10_reach : Cond.instanceMethod mX10_reach.1 ∈ lwT ∧ Cond.selects mX10_reach.1.cls mX10_reach.1 mX10_reach.1 ∈ lwT := ⟨lwT_4 (i := 192) (by decide +kernel) rfl, lwT_4 (i := 193) (by decide +kernel) rfl⟩
def mX10_sources : MD := (yX10_sources, cX10_sources, 6, some .int)
theorem mw_X10_sources : MW mX10_sources 2 := ⟨lwT_4 (i := 206) (by decide +kernel) rfl, lwT_1 (i := 1) (by decide +kernel) rfl, by decide +kernel, ⟨by decide +kernel, by decide +kernel, by decide +kernel⟩, by decide⟩
theorem im_X10_sources : Cond.instanceMethod mX10_sources.1 ∈ lwT ∧ Cond.selects mX10_sources.1.cls mX10_sources.1 mX10_sources.1 ∈ lwT := ⟨lwT_4 (i := 204) (by decide +kernel) rfl, lwT_4 (i := 205) (by decide +kernel) rfl⟩
def mX10_circle : MD := (yX10_circle, cX10_circle, 3, some .int)
theorem mw_X10_circle : MW mX10_circle 1 := ⟨lwT_4 (i := 210) (by decide +kernel) rfl, lwT_1 (i := 1) (by decide +kernel) rfl, by decide +kernel, ⟨by decide +kernel, by decide +kernel, by decide +kernel⟩, by decide⟩
theorem im_X10_circle : Cond.instanceMethod mX10_circle.1 ∈ lwT ∧ Cond.selects mX10_circle.1.cls mX10_circle.1 mX10_circle.1 ∈ lwT := ⟨lwT_4 (i := 208) (by decide +kernel) rfl, lwT_4 (i := 209) (by decide +kernel) rfl⟩
def mX10_pick : MD := (yX10_pick, cX10_pick, 2, some .int)
theorem mw_X10_pick : MW mX10_pick 1 := ⟨lwT_4 (i := 214) (by decide +kernel) rfl, lwT_1 (i := 1) (by decide +kernel) rfl, by decide +kernel, ⟨by decide +kernel, by decide +kernel, by decide +kernel⟩, by decide⟩
theorem im_X10_pick : Cond.instanceMethod mX10_pick.1 ∈ lwT ∧ Cond.selects mX10_pick.1.cls mX10_pick.1 mX10_pick.1 ∈ lwT := ⟨lwT_4 (i := 212) (by decide +kernel) rfl, lwT_4 (i := 213) (by decide +kernel) rfl⟩
def mX10_join : MD := (yX10_join, cX10_join, 1, some .int)
theorem mw_X10_join : MW mX10_join 0 := ⟨lwT_4 (i := 226) (by decide +kernel) rfl, lwT_1 (i := 1) (by decide +kernel) rfl, by decide +kernel, ⟨by decide +kernel, by decide +kernel, by decide +kernel⟩, by decide⟩
theorem im_X10_join : Cond.instanceMethod mX10_join.1 ∈ lwT ∧ Cond.selects mX10_join.1.cls mX10_join.1 mX10_join.1 ∈ lwT := ⟨lwT_4 (i := 224) (by decide +kernel) rfl, lwT_4 (i := 225) (by decide +kernel) rfl⟩
def mX10_forebear : MD := (yX10_forebear, cX10_forebear, 3, some .int)
theorem mw_X10_forebear : MW mX10_forebear 2 := ⟨lwT_5 (i := 1) (by decide +kernel) rfl, lwT_1 (i := 1) (by decide +kernel) rfl, by decide +kernel, ⟨by decide +kernel, by decide +kernel, by decide +kernel⟩, by decide⟩
theorem im_X10_forebear : Cond.instanceMethod mX10_forebear.1 ∈ lwT ∧ Cond.selects mX10_forebear.1.cls mX10_forebear.1 mX10_forebear.1 ∈ lwT := ⟨lwT_4 (i := 239) (by decide +kernel) rfl, lwT_5 (i := 0) (by decide +kernel) rfl⟩
def mX10_lasts : MD := (yX10_lasts, cX10_lasts, 2, some .int)
theorem mw_X10_lasts : MW mX10_lasts 1 := ⟨lwT_5 (i := 9) (by decide +kernel) rfl, lwT_1 (i := 1) (by decide +kernel) rfl, by decide +kernel, ⟨by decide +kernel, by decide +kernel, by decide +kernel⟩, by decide⟩
theorem im_X10_lasts : Cond.instanceMethod mX10_lasts.1 ∈ lwT ∧ Cond.selects mX10_lasts.1.cls mX10_lasts.1 mX10_lasts.1 ∈ lwT := ⟨lwT_5 (i := 7) (by decide +kernel) rfl, lwT_5 (i := 8) (by decide +kernel) rfl⟩
def mX10_knows : MD := (yX10_knows, cX10_knows, 4, some .int)
theorem mw_X10_knows : MW mX10_knows 1 := ⟨lwT_5 (i := 21) (by decide +kernel) rfl, lwT_1 (i := 1) (by decide +kernel) rfl, by decide +kernel, ⟨by decide +kernel, by decide +kernel, by decide +kernel⟩, by decide⟩
theorem im_X10_knows : Cond.instanceMethod mX10_knows.1 ∈ lwT ∧ Cond.selects mX10_knows.1.cls mX10_knows.1 mX10_knows.1 ∈ lwT := ⟨lwT_5 (i := 19) (by decide +kernel) rfl, lwT_5 (i := 20) (by decide +kernel) rfl⟩
def mX10_undo : MD := (yX10_undo, cX10_undo, 1, some .boolean)
theorem mw_X10_undo : MW mX10_undo 0 := ⟨lwT_5 (i := 25) (by decide +kernel) rfl, lwT_1 (i := 1) (by decide +kernel) rfl, by decide +kernel, ⟨by decide +kernel, by decide +kernel, by decide +kernel⟩, by decide⟩
theorem im_X10_undo : Cond.instanceMethod mX10_undo.1 ∈ lwT ∧ Cond.selects mX10_undo.1.cls mX10_undo.1 mX10_undo.1 ∈ lwT := ⟨lwT_5 (i := 23) (by decide +kernel) rfl, lwT_5 (i := 24) (by decide +kernel) rfl⟩
def mX10_image : MD := (yX10_image, cX10_image, 2, some .boolean)
theorem mw_X10_image : MW mX10_image 1 := ⟨lwT_5 (i := 33) (by decide +kernel) rfl, lwT_1 (i := 1) (by decide +kernel) rfl, by decide +kernel, ⟨by decide +kernel, by decide +kernel, by decide +kernel⟩, by decide⟩
theorem im_X10_image : Cond.instanceMethod mX10_image.1 ∈ lwT ∧ Cond.selects mX10_image.1.cls mX10_image.1 mX10_image.1 ∈ lwT := ⟨lwT_5 (i := 31) (by decide +kernel) rfl, lwT_5 (i := 32) (by decide +kernel) rfl⟩
def mX10_look : MD := (yX10_look, cX10_look, 2, some .int)
theorem mw_X10_look : MW mX10_look 1 := ⟨lwT_5 (i := 48) (by decide +kernel) rfl, lwT_1 (i := 1) (by decide +kernel) rfl, by decide +kernel, ⟨by decide +kernel, by decide +kernel, by decide +kernel⟩, by decide⟩
theorem im_X10_look : Cond.instanceMethod mX10_look.1 ∈ lwT ∧ Cond.selects mX10_look.1.cls mX10_look.1 mX10_look.1 ∈ lwT := ⟨lwT_5 (i := 46) (by decide +kernel) rfl, lwT_5 (i := 47) (by decide +kernel) rfl⟩
def mX10_canBeTold : MD := (yX10_canBeTold, cX10_canBeTold, 2, some .boolean)
theorem mw_X10_canBeTold : MW mX10_canBeTold 2 := ⟨lwT_2 (i := 183) (by decide +kernel) rfl, lwT_1 (i := 1) (by decide +kernel) rfl, by decide +kernel, ⟨by decide +kernel, by decide +kernel, by decide +kernel⟩, by decide⟩
theorem im_X10_canBeTold : Cond.static mX10_canBeTold.1 ∈ lwT := lwT_2 (i := 182) (by decide +kernel) rfl
def mX10_hasBit : MD := (yX10_hasBit, cX10_hasBit, 2, some .boolean)
theorem mw_X10_hasBit : MW mX10_hasBit 2 := ⟨lwT_4 (i := 19) (by decide +kernel) rfl, lwT_1 (i := 1) (by decide +kernel) rfl, by decide +kernel, ⟨by decide +kernel, by decide +kernel, by decide +kernel⟩, by decide⟩
theorem im_X10_hasBit : Cond.static mX10_hasBit.1 ∈ lwT := lwT_4 (i := 18) (by decide +kernel) rfl
def mX10_heldTo : MD := (yX10_heldTo, cX10_heldTo, 2, some .int)
theorem mw_X10_heldTo : MW mX10_heldTo 2 := ⟨lwT_4 (i := 63) (by decide +kernel) rfl, lwT_1 (i := 1) (by decide +kernel) rfl, by decide +kernel, ⟨by decide +kernel, by decide +kernel, by decide +kernel⟩, by decide⟩
theorem im_X10_heldTo : Cond.static mX10_heldTo.1 ∈ lwT := lwT_4 (i := 62) (by decide +kernel) rfl
def mX10_keepBefore : MD := (yX10_keepBefore, cX10_keepBefore, 1, none)
theorem mw_X10_keepBefore : MW mX10_keepBefore 0 := ⟨lwT_2 (i := 236) (by decide +kernel) rfl, lwT_1 (i := 1) (by decide +kernel) rfl, by decide +kernel, ⟨by decide +kernel, by decide +kernel, by decide +kernel⟩, by decide⟩
theorem im_X10_keepBefore : Cond.instanceMethod mX10_keepBefore.1 ∈ lwT ∧ Cond.selects mX10_keepBefore.1.cls mX10_keepBefore.1 mX10_keepBefore.1 ∈ lwT := ⟨lwT_2 (i := 235) (by decide +kernel) rfl, lwT_at (i := 1) (by decide +kernel) rfl⟩
def mX10_forgetBefore : MD := (yX10_forgetBefore, cX10_forgetBefore, 1, none)
theorem mw_X10_forgetBefore : MW mX10_forgetBefore 0 := ⟨lwT_2 (i := 176) (by decide +kernel) rfl, lwT_1 (i := 1) (by decide +kernel) rfl, by decide +kernel, ⟨by decide +kernel, by decide +kernel, by decide +kernel⟩, by decide⟩
theorem im_X10_forgetBefore : Cond.instanceMethod mX10_forgetBefore.1 ∈ lwT ∧ Cond.selects mX10_forgetBefore.1.cls mX10_forgetBefore.1 mX10_forgetBefore.1 ∈ lwT := ⟨lwT_2 (i := 175) (by decide +kernel) rfl, lwT_at (i := 0) (by decide +kernel) rfl⟩
def mX10_beginThought : MD := (yX10_beginThought, cX10_beginThought, 1, none)
theorem mw_X10_beginThought : MW mX10_beginThought 0 := ⟨lwT_4 (i := 162) (by decide +kernel) rfl, lwT_1 (i := 1) (by decide +kernel) rfl, by decide +kernel, ⟨by decide +kernel, by decide +kernel, by decide +kernel⟩, by decide⟩
theorem im_X10_beginThought : Cond.instanceMethod mX10_beginThought.1 ∈ lwT ∧ Cond.selects mX10_beginThought.1.cls mX10_beginThought.1 mX10_beginThought.1 ∈ lwT := ⟨lwT_4 (i := 161) (by decide +kernel) rfl, lwT_at (i := 29) (by decide +kernel) rfl⟩
def mX10_thinkAhead : MD := (yX10_thinkAhead, cX10_thinkAhead, 3, some .boolean)
theorem mw_X10_thinkAhead : MW mX10_thinkAhead 1 := ⟨lwT_4 (i := 158) (by decide +kernel) rfl, lwT_1 (i := 1) (by decide +kernel) rfl, by decide +kernel, ⟨by decide +kernel, by decide +kernel, by decide +kernel⟩, by decide⟩
theorem im_X10_thinkAhead : Cond.instanceMethod mX10_thinkAhead.1 ∈ lwT ∧ Cond.selects mX10_thinkAhead.1.cls mX10_thinkAhead.1 mX10_thinkAhead.1 ∈ lwT := ⟨lwT_4 (i := 157) (by decide +kernel) rfl, lwT_at (i := 28) (by decide +kernel) rfl⟩
def mX10_endsWithout : MD := (yX10_endsWithout, cX10_endsWithout, 5, some .boolean)
theorem mw_X10_endsWithout : MW mX10_endsWithout 2 := ⟨lwT_4 (i := 182) (by decide +kernel) rfl, lwT_1 (i := 1) (by decide +kernel) rfl, by decide +kernel, ⟨by decide +kernel, by decide +kernel, by decide +kernel⟩, by decide⟩
theorem im_X10_endsWithout : Cond.instanceMethod mX10_endsWithout.1 ∈ lwT ∧ Cond.selects mX10_endsWithout.1.cls mX10_endsWithout.1 mX10_endsWithout.1 ∈ lwT := ⟨lwT_4 (i := 181) (by decide +kernel) rfl, lwT_at (i := 30) (by decide +kernel) rfl⟩
def mX10_writerSlot : MD := (yX10_writerSlot, cX10_writerSlot, 3, some .int)
theorem mw_X10_writerSlot : MW mX10_writerSlot 1 := ⟨lwT_4 (i := 186) (by decide +kernel) rfl, lwT_1 (i := 1) (by decide +kernel) rfl, by decide +kernel, ⟨by decide +kernel, by decide +kernel, by decide +kernel⟩, by decide⟩
theorem im_X10_writerSlot : Cond.static mX10_writerSlot.1 ∈ lwT := lwT_4 (i := 185) (by decide +kernel) rfl
def mX10_setBehind : MD := (yX10_setBehind, cX10_setBehind, 5, some .int)
theorem mw_X10_setBehind : MW mX10_setBehind 2 := ⟨lwT_4 (i := 190) (by decide +kernel) rfl, lwT_1 (i := 1) (by decide +kernel) rfl, by decide +kernel, ⟨by decide +kernel, by decide +kernel, by decide +kernel⟩, by decide⟩
theorem im_X10_setBehind : Cond.static mX10_setBehind.1 ∈ lwT := lwT_4 (i := 189) (by decide +kernel) rfl
def mX11_isIn : MD := (yX11_isIn, cX11_isIn, 4, some .boolean)
theorem mw_X11_isIn : MW mX11_isIn 3 := ⟨lwT_5 (i := 228) (by decide +kernel) rfl, lwT_1 (i := 13) (by decide +kernel) rfl, by decide +kernel, ⟨by decide +kernel, by decide +kernel, by decide +kernel⟩, by decide⟩
theorem im_X11_isIn : Cond.instanceMethod mX11_isIn.1 ∈ lwT ∧ Cond.selects mX11_isIn.1.cls mX11_isIn.1 mX11_isIn.1 ∈ lwT := ⟨lwT_5 (i := 227) (by decide +kernel) rfl, lwT_at (i := 34) (by decide +kernel) rfl⟩
def mX11_ones : MD := (yX11_ones, cX11_ones, 4, some .int)
theorem mw_X11_ones : MW mX11_ones 1 := ⟨lwT_6 (i := 216) (by decide +kernel) rfl, lwT_1 (i := 13) (by decide +kernel) rfl, by decide +kernel, ⟨by decide +kernel, by decide +kernel, by decide +kernel⟩, by decide⟩
theorem im_X11_ones : Cond.instanceMethod mX11_ones.1 ∈ lwT ∧ Cond.selects mX11_ones.1.cls mX11_ones.1 mX11_ones.1 ∈ lwT := ⟨lwT_6 (i := 215) (by decide +kernel) rfl, lwT_at (i := 81) (by decide +kernel) rfl⟩
def mX11_keepsAhead : MD := (yX11_keepsAhead, cX11_keepsAhead, 2, none)
theorem mw_X11_keepsAhead : MW mX11_keepsAhead 0 := ⟨lwT_6 (i := 28) (by decide +kernel) rfl, lwT_1 (i := 13) (by decide +kernel) rfl, by decide +kernel, ⟨by decide +kernel, by decide +kernel, by decide +kernel⟩, by decide⟩
theorem im_X11_keepsAhead : Cond.instanceMethod mX11_keepsAhead.1 ∈ lwT ∧ Cond.selects mX11_keepsAhead.1.cls mX11_keepsAhead.1 mX11_keepsAhead.1 ∈ lwT := ⟨lwT_6 (i := 27) (by decide +kernel) rfl, lwT_at (i := 40) (by decide +kernel) rfl⟩
def mX11_undo : MD := (yX11_undo, cX11_undo, 2, some .boolean)
theorem mw_X11_undo : MW mX11_undo 0 := ⟨lwT_5 (i := 212) (by decide +kernel) rfl, lwT_1 (i := 13) (by decide +kernel) rfl, by decide +kernel, ⟨by decide +kernel, by decide +kernel, by decide +kernel⟩, by decide⟩
theorem im_X11_undo : Cond.instanceMethod mX11_undo.1 ∈ lwT ∧ Cond.selects mX11_undo.1.cls mX11_undo.1 mX11_undo.1 ∈ lwT := ⟨lwT_5 (i := 210) (by decide +kernel) rfl, lwT_5 (i := 211) (by decide +kernel) rfl⟩
def mX11_unpicks : MD := (yX11_unpicks, cX11_unpicks, 3, none)
theorem mw_X11_unpicks : MW mX11_unpicks 0 := ⟨lwT_5 (i := 216) (by decide +kernel) rfl, lwT_1 (i := 13) (by decide +kernel) rfl, by decide +kernel, ⟨by decide +kernel, by decide +kernel, by decide +kernel⟩, by decide⟩
theorem im_X11_unpicks : Cond.instanceMethod mX11_unpicks.1 ∈ lwT ∧ Cond.selects mX11_unpicks.1.cls mX11_unpicks.1 mX11_unpicks.1 ∈ lwT := ⟨lwT_5 (i := 215) (by decide +kernel) rfl, lwT_at (i := 33) (by decide +kernel) rfl⟩
def mX11_thinks : MD := (yX11_thinks, cX11_thinks, 2, none)
theorem mw_X11_thinks : MW mX11_thinks 0 := ⟨lwT_7 (i := 98) (by decide +kernel) rfl, lwT_1 (i := 13) (by decide +kernel) rfl, by decide +kernel, ⟨by decide +kernel, by decide +kernel, by decide +kernel⟩, by decide⟩
theorem im_X11_thinks : Cond.instanceMethod mX11_thinks.1 ∈ lwT ∧ Cond.selects mX11_thinks.1.cls mX11_thinks.1 mX11_thinks.1 ∈ lwT := ⟨lwT_7 (i := 97) (by decide +kernel) rfl, lwT_at (i := 104) (by decide +kernel) rfl⟩
def mX11_thinksAnew : MD := (yX11_thinksAnew, cX11_thinksAnew, 2, none)
theorem mw_X11_thinksAnew : MW mX11_thinksAnew 0 := ⟨lwT_7 (i := 110) (by decide +kernel) rfl, lwT_1 (i := 13) (by decide +kernel) rfl, by decide +kernel, ⟨by decide +kernel, by decide +kernel, by decide +kernel⟩, by decide⟩
theorem im_X11_thinksAnew : Cond.instanceMethod mX11_thinksAnew.1 ∈ lwT ∧ Cond.selects mX11_thinksAnew.1.cls mX11_thinksAnew.1 mX11_thinksAnew.1 ∈ lwT := ⟨lwT_7 (i := 109) (by decide +kernel) rfl, lwT_at (i := 107) (by decide +kernel) rfl⟩
def mX11_endsThought : MD := (yX11_endsThought, cX11_endsThought, 1, none)
theorem mw_X11_endsThought : MW mX11_endsThought 0 := ⟨lwT_7 (i := 106) (by decide +kernel) rfl, lwT_1 (i := 13) (by decide +kernel) rfl, by decide +kernel, ⟨by decide +kernel, by decide +kernel, by decide +kernel⟩, by decide⟩
theorem im_X11_endsThought : Cond.instanceMethod mX11_endsThought.1 ∈ lwT ∧ Cond.selects mX11_endsThought.1.cls mX11_endsThought.1 mX11_endsThought.1 ∈ lwT := ⟨lwT_7 (i := 105) (by decide +kernel) rfl, lwT_at (i := 106) (by decide +kernel) rfl⟩
def mX11_state : MD := (yX11_state, cX11_state, 3, some .int)
theorem mw_X11_state : MW mX11_state 1 := ⟨lwT_5 (i := 220) (by decide +kernel) rfl, lwT_1 (i := 13) (by decide +kernel) rfl, by decide +kernel, ⟨by decide +kernel, by decide +kernel, by decide +kernel⟩, by decide⟩
theorem im_X11_state : Cond.instanceMethod mX11_state.1 ∈ lwT ∧ Cond.selects mX11_state.1.cls mX11_state.1 mX11_state.1 ∈ lwT := ⟨lwT_5 (i := 218) (by decide +kernel) rfl, lwT_5 (i := 219) (by decide +kernel) rfl⟩
def mX11_draw : MD := (yX11_draw, cX11_draw, 2, some .int)
theorem mw_X11_draw : MW mX11_draw 1 := ⟨lwT_7 (i := 8) (by decide +kernel) rfl, lwT_1 (i := 13) (by decide +kernel) rfl, by decide +kernel, ⟨by decide +kernel, by decide +kernel, by decide +kernel⟩, by decide⟩
theorem im_X11_draw : Cond.instanceMethod mX11_draw.1 ∈ lwT ∧ Cond.selects mX11_draw.1.cls mX11_draw.1 mX11_draw.1 ∈ lwT := ⟨lwT_7 (i := 7) (by decide +kernel) rfl, lwT_at (i := 89) (by decide +kernel) rfl⟩
def mX11_isPerson : MD := (yX11_isPerson, cX11_isPerson, 2, some .boolean)
theorem mw_X11_isPerson : MW mX11_isPerson 1 := ⟨lwT_6 (i := 0) (by decide +kernel) rfl, lwT_1 (i := 13) (by decide +kernel) rfl, by decide +kernel, ⟨by decide +kernel, by decide +kernel, by decide +kernel⟩, by decide⟩
theorem im_X11_isPerson : Cond.instanceMethod mX11_isPerson.1 ∈ lwT ∧ Cond.selects mX11_isPerson.1.cls mX11_isPerson.1 mX11_isPerson.1 ∈ lwT := ⟨lwT_5 (i := 239) (by decide +kernel) rfl, lwT_at (i := 36) (by decide +kernel) rfl⟩
def mX11_isVersion : MD := (yX11_isVersion, cX11_isVersion, 2, some .boolean)
theorem mw_X11_isVersion : MW mX11_isVersion 1 := ⟨lwT_6 (i := 24) (by decide +kernel) rfl, lwT_1 (i := 13) (by decide +kernel) rfl, by decide +kernel, ⟨by decide +kernel, by decide +kernel, by decide +kernel⟩, by decide⟩
theorem im_X11_isVersion : Cond.instanceMethod mX11_isVersion.1 ∈ lwT ∧ Cond.selects mX11_isVersion.1.cls mX11_isVersion.1 mX11_isVersion.1 ∈ lwT := ⟨lwT_6 (i := 23) (by decide +kernel) rfl, lwT_at (i := 39) (by decide +kernel) rfl⟩
def mX11_isStopped : MD := (yX11_isStopped, cX11_isStopped, 2, some .boolean)
theorem mw_X11_isStopped : MW mX11_isStopped 1 := ⟨lwT_6 (i := 200) (by decide +kernel) rfl, lwT_1 (i := 13) (by decide +kernel) rfl, by decide +kernel, ⟨by decide +kernel, by decide +kernel, by decide +kernel⟩, by decide⟩
theorem im_X11_isStopped : Cond.instanceMethod mX11_isStopped.1 ∈ lwT ∧ Cond.selects mX11_isStopped.1.cls mX11_isStopped.1 mX11_isStopped.1 ∈ lwT := ⟨lwT_6 (i := 199) (by decide +kernel) rfl, lwT_at (i := 77) (by decide +kernel) rfl⟩
def mX11_person : MD := (yX11_person, cX11_person, 5, some .int)
theorem mw_X11_person : MW mX11_person 3 := ⟨lwT_5 (i := 224) (by decide +kernel) rfl, lwT_1 (i := 13) (by decide +kernel) rfl, by decide +kernel, ⟨by decide +kernel, by decide +kernel, by decide +kernel⟩, by decide⟩
theorem im_X11_person : Cond.instanceMethod mX11_person.1 ∈ lwT ∧ Cond.selects mX11_person.1.cls mX11_person.1 mX11_person.1 ∈ lwT := ⟨lwT_5 (i := 222) (by decide +kernel) rfl, lwT_5 (i := 223) (by decide +kernel) rfl⟩
def mX11_mostOf : MD := (yX11_mostOf, cX11_mostOf, 2, some .int)
theorem mw_X11_mostOf : MW mX11_mostOf 1 := ⟨lwT_6 (i := 4) (by decide +kernel) rfl, lwT_1 (i := 13) (by decide +kernel) rfl, by decide +kernel, ⟨by decide +kernel, by decide +kernel, by decide +kernel⟩, by decide⟩
theorem im_X11_mostOf : Cond.instanceMethod mX11_mostOf.1 ∈ lwT ∧ Cond.selects mX11_mostOf.1.cls mX11_mostOf.1 mX11_mostOf.1 ∈ lwT := ⟨lwT_6 (i := 3) (by decide +kernel) rfl, lwT_at (i := 37) (by decide +kernel) rfl⟩
def mX11_canSet : MD := (yX11_canSet, cX11_canSet, 4, some .boolean)
theorem mw_X11_canSet : MW mX11_canSet 3 := ⟨lwT_5 (i := 236) (by decide +kernel) rfl, lwT_1 (i := 13) (by decide +kernel) rfl, by decide +kernel, ⟨by decide +kernel, by decide +kernel, by decide +kernel⟩, by decide⟩
theorem im_X11_canSet : Cond.instanceMethod mX11_canSet.1 ∈ lwT ∧ Cond.selects mX11_canSet.1.cls mX11_canSet.1 mX11_canSet.1 ∈ lwT := ⟨lwT_5 (i := 235) (by decide +kernel) rfl, lwT_at (i := 35) (by decide +kernel) rfl⟩
def mX11_set : MD := (yX11_set, cX11_set, 4, some .boolean)
theorem mw_X11_set : MW mX11_set 3 := ⟨lwT_5 (i := 232) (by decide +kernel) rfl, lwT_1 (i := 13) (by decide +kernel) rfl, by decide +kernel, ⟨by decide +kernel, by decide +kernel, by decide +kernel⟩, by decide⟩
theorem im_X11_set : Cond.instanceMethod mX11_set.1 ∈ lwT ∧ Cond.selects mX11_set.1.cls mX11_set.1 mX11_set.1 ∈ lwT := ⟨lwT_5 (i := 230) (by decide +kernel) rfl, lwT_5 (i := 231) (by decide +kernel) rfl⟩
def mX11_address : MD := (yX11_address, cX11_address, 3, some .int)
theorem mw_X11_address : MW mX11_address 2 := ⟨lwT_6 (i := 8) (by decide +kernel) rfl, lwT_1 (i := 13) (by decide +kernel) rfl, by decide +kernel, ⟨by decide +kernel, by decide +kernel, by decide +kernel⟩, by decide⟩
theorem im_X11_address : Cond.instanceMethod mX11_address.1 ∈ lwT ∧ Cond.selects mX11_address.1.cls mX11_address.1 mX11_address.1 ∈ lwT := ⟨lwT_6 (i := 6) (by decide +kernel) rfl, lwT_6 (i := 7) (by decide +kernel) rfl⟩
def mX11_comesVersion : MD := (yX11_comesVersion, cX11_comesVersion, 6, some .int)
theorem mw_X11_comesVersion : MW mX11_comesVersion 4 := ⟨lwT_6 (i := 16) (by decide +kernel) rfl, lwT_1 (i := 13) (by decide +kernel) rfl, by decide +kernel, ⟨by decide +kernel, by decide +kernel, by decide +kernel⟩, by decide⟩
theorem im_X11_comesVersion : Cond.instanceMethod mX11_comesVersion.1 ∈ lwT ∧ Cond.selects mX11_comesVersion.1.cls mX11_comesVersion.1 mX11_comesVersion.1 ∈ lwT := ⟨lwT_6 (i := 15) (by decide +kernel) rfl, lwT_at (i := 38) (by decide +kernel) rfl⟩
def mX11_version : MD := (yX11_version, cX11_version, 3, some .int)
theorem mw_X11_version : MW mX11_version 2 := ⟨lwT_6 (i := 12) (by decide +kernel) rfl, lwT_1 (i := 13) (by decide +kernel) rfl, by decide +kernel, ⟨by decide +kernel, by decide +kernel, by decide +kernel⟩, by decide⟩
theorem im_X11_version : Cond.instanceMethod mX11_version.1 ∈ lwT ∧ Cond.selects mX11_version.1.cls mX11_version.1 mX11_version.1 ∈ lwT := ⟨lwT_6 (i := 10) (by decide +kernel) rfl, lwT_6 (i := 11) (by decide +kernel) rfl⟩
def mX11_letterAt : MD := (yX11_letterAt, cX11_letterAt, 3, some .int)
theorem mw_X11_letterAt : MW mX11_letterAt 2 := ⟨lwT_6 (i := 36) (by decide +kernel) rfl, lwT_1 (i := 13) (by decide +kernel) rfl, by decide +kernel, ⟨by decide +kernel, by decide +kernel, by decide +kernel⟩, by decide⟩
theorem im_X11_letterAt : Cond.instanceMethod mX11_letterAt.1 ∈ lwT ∧ Cond.selects mX11_letterAt.1.cls mX11_letterAt.1 mX11_letterAt.1 ∈ lwT := ⟨lwT_6 (i := 35) (by decide +kernel) rfl, lwT_at (i := 42) (by decide +kernel) rfl⟩
def mX11_hasLetter : MD := (yX11_hasLetter, cX11_hasLetter, 3, some .boolean)
theorem mw_X11_hasLetter : MW mX11_hasLetter 2 := ⟨lwT_6 (i := 44) (by decide +kernel) rfl, lwT_1 (i := 13) (by decide +kernel) rfl, by decide +kernel, ⟨by decide +kernel, by decide +kernel, by decide +kernel⟩, by decide⟩
theorem im_X11_hasLetter : Cond.instanceMethod mX11_hasLetter.1 ∈ lwT ∧ Cond.selects mX11_hasLetter.1.cls mX11_hasLetter.1 mX11_hasLetter.1 ∈ lwT := ⟨lwT_6 (i := 43) (by decide +kernel) rfl, lwT_at (i := 43) (by decide +kernel) rfl⟩
def mX11_holds : MD := (yX11_holds, cX11_holds, 5, none)
theorem mw_X11_holds : MW mX11_holds 3 := ⟨lwT_6 (i := 32) (by decide +kernel) rfl, lwT_1 (i := 13) (by decide +kernel) rfl, by decide +kernel, ⟨by decide +kernel, by decide +kernel, by decide +kernel⟩, by decide⟩
theorem im_X11_holds : Cond.instanceMethod mX11_holds.1 ∈ lwT ∧ Cond.selects mX11_holds.1.cls mX11_holds.1 mX11_holds.1 ∈ lwT := ⟨lwT_6 (i := 31) (by decide +kernel) rfl, lwT_at (i := 41) (by decide +kernel) rfl⟩
def mX11_loses : MD := (yX11_loses, cX11_loses, 5, none)
theorem mw_X11_loses : MW mX11_loses 2 := ⟨lwT_6 (i := 48) (by decide +kernel) rfl, lwT_1 (i := 13) (by decide +kernel) rfl, by decide +kernel, ⟨by decide +kernel, by decide +kernel, by decide +kernel⟩, by decide⟩
theorem im_X11_loses : Cond.instanceMethod mX11_loses.1 ∈ lwT ∧ Cond.selects mX11_loses.1.cls mX11_loses.1 mX11_loses.1 ∈ lwT := ⟨lwT_6 (i := 47) (by decide +kernel) rfl, lwT_at (i := 44) (by decide +kernel) rfl⟩
def mX11_hand : MD := (yX11_hand, cX11_hand, 3, some .boolean)
theorem mw_X11_hand : MW mX11_hand 2 := ⟨lwT_6 (i := 20) (by decide +kernel) rfl, lwT_1 (i := 13) (by decide +kernel) rfl, by decide +kernel, ⟨by decide +kernel, by decide +kernel, by decide +kernel⟩, by decide⟩
theorem im_X11_hand : Cond.instanceMethod mX11_hand.1 ∈ lwT ∧ Cond.selects mX11_hand.1.cls mX11_hand.1 mX11_hand.1 ∈ lwT := ⟨lwT_6 (i := 18) (by decide +kernel) rfl, lwT_6 (i := 19) (by decide +kernel) rfl⟩
def mX11_burn : MD := (yX11_burn, cX11_burn, 3, some .boolean)
theorem mw_X11_burn : MW mX11_burn 2 := ⟨lwT_6 (i := 40) (by decide +kernel) rfl, lwT_1 (i := 13) (by decide +kernel) rfl, by decide +kernel, ⟨by decide +kernel, by decide +kernel, by decide +kernel⟩, by decide⟩
theorem im_X11_burn : Cond.instanceMethod mX11_burn.1 ∈ lwT ∧ Cond.selects mX11_burn.1.cls mX11_burn.1 mX11_burn.1 ∈ lwT := ⟨lwT_6 (i := 38) (by decide +kernel) rfl, lwT_6 (i := 39) (by decide +kernel) rfl⟩
def mX11_types : MD := (yX11_types, cX11_types, 3, none)
theorem mw_X11_types : MW mX11_types 1 := ⟨lwT_6 (i := 56) (by decide +kernel) rfl, lwT_1 (i := 13) (by decide +kernel) rfl, by decide +kernel, ⟨by decide +kernel, by decide +kernel, by decide +kernel⟩, by decide⟩
theorem im_X11_types : Cond.instanceMethod mX11_types.1 ∈ lwT ∧ Cond.selects mX11_types.1.cls mX11_types.1 mX11_types.1 ∈ lwT := ⟨lwT_6 (i := 55) (by decide +kernel) rfl, lwT_at (i := 45) (by decide +kernel) rfl⟩
def mX11_feed : MD := (yX11_feed, cX11_feed, 6, some .int)
theorem mw_X11_feed : MW mX11_feed 5 := ⟨lwT_6 (i := 52) (by decide +kernel) rfl, lwT_1 (i := 13) (by decide +kernel) rfl, by decide +kernel, ⟨by decide +kernel, by decide +kernel, by decide +kernel⟩, by decide⟩
theorem im_X11_feed : Cond.instanceMethod mX11_feed.1 ∈ lwT ∧ Cond.selects mX11_feed.1.cls mX11_feed.1 mX11_feed.1 ∈ lwT := ⟨lwT_6 (i := 50) (by decide +kernel) rfl, lwT_6 (i := 51) (by decide +kernel) rfl⟩
def mX11_end : MD := (yX11_end, cX11_end, 2, some .boolean)
theorem mw_X11_end : MW mX11_end 1 := ⟨lwT_6 (i := 60) (by decide +kernel) rfl, lwT_1 (i := 13) (by decide +kernel) rfl, by decide +kernel, ⟨by decide +kernel, by decide +kernel, by decide +kernel⟩, by decide⟩
theorem im_X11_end : Cond.instanceMethod mX11_end.1 ∈ lwT ∧ Cond.selects mX11_end.1.cls mX11_end.1 mX11_end.1 ∈ lwT := ⟨lwT_6 (i := 58) (by decide +kernel) rfl, lwT_6 (i := 59) (by decide +kernel) rfl⟩
def mX11_raw : MD := (yX11_raw, cX11_raw, 2, some .int)
theorem mw_X11_raw : MW mX11_raw 1 := ⟨lwT_6 (i := 72) (by decide +kernel) rfl, lwT_1 (i := 13) (by decide +kernel) rfl, by decide +kernel, ⟨by decide +kernel, by decide +kernel, by decide +kernel⟩, by decide⟩
theorem im_X11_raw : Cond.instanceMethod mX11_raw.1 ∈ lwT ∧ Cond.selects mX11_raw.1.cls mX11_raw.1 mX11_raw.1 ∈ lwT := ⟨lwT_6 (i := 71) (by decide +kernel) rfl, lwT_at (i := 47) (by decide +kernel) rfl⟩
def mX11_isLetter : MD := (yX11_isLetter, cX11_isLetter, 2, some .boolean)
theorem mw_X11_isLetter : MW mX11_isLetter 1 := ⟨lwT_6 (i := 76) (by decide +kernel) rfl, lwT_1 (i := 13) (by decide +kernel) rfl, by decide +kernel, ⟨by decide +kernel, by decide +kernel, by decide +kernel⟩, by decide⟩
theorem im_X11_isLetter : Cond.instanceMethod mX11_isLetter.1 ∈ lwT ∧ Cond.selects mX11_isLetter.1.cls mX11_isLetter.1 mX11_isLetter.1 ∈ lwT := ⟨lwT_6 (i := 75) (by decide +kernel) rfl, lwT_at (i := 48) (by decide +kernel) rfl⟩
def mX11_isDigit : MD := (yX11_isDigit, cX11_isDigit, 2, some .boolean)
theorem mw_X11_isDigit : MW mX11_isDigit 1 := ⟨lwT_6 (i := 84) (by decide +kernel) rfl, lwT_1 (i := 13) (by decide +kernel) rfl, by decide +kernel, ⟨by decide +kernel, by decide +kernel, by decide +kernel⟩, by decide⟩
theorem im_X11_isDigit : Cond.instanceMethod mX11_isDigit.1 ∈ lwT ∧ Cond.selects mX11_isDigit.1.cls mX11_isDigit.1 mX11_isDigit.1 ∈ lwT := ⟨lwT_6 (i := 83) (by decide +kernel) rfl, lwT_at (i := 50) (by decide +kernel) rfl⟩
def mX11_isMarkSign : MD := (yX11_isMarkSign, cX11_isMarkSign, 2, some .boolean)
theorem mw_X11_isMarkSign : MW mX11_isMarkSign 1 := ⟨lwT_6 (i := 88) (by decide +kernel) rfl, lwT_1 (i := 13) (by decide +kernel) rfl, by decide +kernel, ⟨by decide +kernel, by decide +kernel, by decide +kernel⟩, by decide⟩
theorem im_X11_isMarkSign : Cond.instanceMethod mX11_isMarkSign.1 ∈ lwT ∧ Cond.selects mX11_isMarkSign.1.cls mX11_isMarkSign.1 mX11_isMarkSign.1 ∈ lwT := ⟨lwT_6 (i := 87) (by decide +kernel) rfl, lwT_at (i := 51) (by decide +kernel) rfl⟩
def mX11_wordAt : MD := (yX11_wordAt, cX11_wordAt, 6, some .int)
theorem mw_X11_wordAt : MW mX11_wordAt 2 := ⟨lwT_6 (i := 80) (by decide +kernel) rfl, lwT_1 (i := 13) (by decide +kernel) rfl, by decide +kernel, ⟨by decide +kernel, by decide +kernel, by decide +kernel⟩, by decide⟩
theorem im_X11_wordAt : Cond.instanceMethod mX11_wordAt.1 ∈ lwT ∧ Cond.selects mX11_wordAt.1.cls mX11_wordAt.1 mX11_wordAt.1 ∈ lwT := ⟨lwT_6 (i := 79) (by decide +kernel) rfl, lwT_at (i := 49) (by decide +kernel) rfl⟩
def mX11_reads : MD := (yX11_reads, cX11_reads, 2, none)
theorem mw_X11_reads : MW mX11_reads 0 := ⟨lwT_6 (i := 68) (by decide +kernel) rfl, lwT_1 (i := 13) (by decide +kernel) rfl, by decide +kernel, ⟨by decide +kernel, by decide +kernel, by decide +kernel⟩, by decide⟩
theorem im_X11_reads : Cond.instanceMethod mX11_reads.1 ∈ lwT ∧ Cond.selects mX11_reads.1.cls mX11_reads.1 mX11_reads.1 ∈ lwT := ⟨lwT_6 (i := 67) (by decide +kernel) rfl, lwT_at (i := 46) (by decide +kernel) rfl⟩
def mX11_errs : MD := (yX11_errs, cX11_errs, 2, some .int)
theorem mw_X11_errs : MW mX11_errs 1 := ⟨lwT_6 (i := 108) (by decide +kernel) rfl, lwT_1 (i := 13) (by decide +kernel) rfl, by decide +kernel, ⟨by decide +kernel, by decide +kernel, by decide +kernel⟩, by decide⟩
theorem im_X11_errs : Cond.instanceMethod mX11_errs.1 ∈ lwT ∧ Cond.selects mX11_errs.1.cls mX11_errs.1 mX11_errs.1 ∈ lwT := ⟨lwT_6 (i := 107) (by decide +kernel) rfl, lwT_at (i := 56) (by decide +kernel) rfl⟩
def mX11_isWord : MD := (yX11_isWord, cX11_isWord, 2, some .boolean)
theorem mw_X11_isWord : MW mX11_isWord 1 := ⟨lwT_6 (i := 96) (by decide +kernel) rfl, lwT_1 (i := 13) (by decide +kernel) rfl, by decide +kernel, ⟨by decide +kernel, by decide +kernel, by decide +kernel⟩, by decide⟩
theorem im_X11_isWord : Cond.instanceMethod mX11_isWord.1 ∈ lwT ∧ Cond.selects mX11_isWord.1.cls mX11_isWord.1 mX11_isWord.1 ∈ lwT := ⟨lwT_6 (i := 95) (by decide +kernel) rfl, lwT_at (i := 53) (by decide +kernel) rfl⟩
def mX11_isSign : MD := (yX11_isSign, cX11_isSign, 2, some .boolean)
theorem mw_X11_isSign : MW mX11_isSign 1 := ⟨lwT_6 (i := 116) (by decide +kernel) rfl, lwT_1 (i := 13) (by decide +kernel) rfl, by decide +kernel, ⟨by decide +kernel, by decide +kernel, by decide +kernel⟩, by decide⟩
theorem im_X11_isSign : Cond.instanceMethod mX11_isSign.1 ∈ lwT ∧ Cond.selects mX11_isSign.1.cls mX11_isSign.1 mX11_isSign.1 ∈ lwT := ⟨lwT_6 (i := 115) (by decide +kernel) rfl, lwT_at (i := 58) (by decide +kernel) rfl⟩
def mX11_emits : MD := (yX11_emits, cX11_emits, 3, none)
theorem mw_X11_emits : MW mX11_emits 2 := ⟨lwT_6 (i := 144) (by decide +kernel) rfl, lwT_1 (i := 13) (by decide +kernel) rfl, by decide +kernel, ⟨by decide +kernel, by decide +kernel, by decide +kernel⟩, by decide⟩
theorem im_X11_emits : Cond.instanceMethod mX11_emits.1 ∈ lwT ∧ Cond.selects mX11_emits.1.cls mX11_emits.1 mX11_emits.1 ∈ lwT := ⟨lwT_6 (i := 143) (by decide +kernel) rfl, lwT_at (i := 65) (by decide +kernel) rfl⟩
def mX11_canAsk : MD := (yX11_canAsk, cX11_canAsk, 2, some .boolean)
theorem mw_X11_canAsk : MW mX11_canAsk 1 := ⟨lwT_6 (i := 140) (by decide +kernel) rfl, lwT_1 (i := 13) (by decide +kernel) rfl, by decide +kernel, ⟨by decide +kernel, by decide +kernel, by decide +kernel⟩, by decide⟩
theorem im_X11_canAsk : Cond.instanceMethod mX11_canAsk.1 ∈ lwT ∧ Cond.selects mX11_canAsk.1.cls mX11_canAsk.1 mX11_canAsk.1 ∈ lwT := ⟨lwT_6 (i := 139) (by decide +kernel) rfl, lwT_at (i := 64) (by decide +kernel) rfl⟩
def mX11_readUnit : MD := (yX11_readUnit, cX11_readUnit, 2, some .int)
theorem mw_X11_readUnit : MW mX11_readUnit 0 := ⟨lwT_6 (i := 136) (by decide +kernel) rfl, lwT_1 (i := 13) (by decide +kernel) rfl, by decide +kernel, ⟨by decide +kernel, by decide +kernel, by decide +kernel⟩, by decide⟩
theorem im_X11_readUnit : Cond.instanceMethod mX11_readUnit.1 ∈ lwT ∧ Cond.selects mX11_readUnit.1.cls mX11_readUnit.1 mX11_readUnit.1 ∈ lwT := ⟨lwT_6 (i := 135) (by decide +kernel) rfl, lwT_at (i := 63) (by decide +kernel) rfl⟩
def mX11_readProduct : MD := (yX11_readProduct, cX11_readProduct, 2, some .int)
theorem mw_X11_readProduct : MW mX11_readProduct 0 := ⟨lwT_6 (i := 132) (by decide +kernel) rfl, lwT_1 (i := 13) (by decide +kernel) rfl, by decide +kernel, ⟨by decide +kernel, by decide +kernel, by decide +kernel⟩, by decide⟩
theorem im_X11_readProduct : Cond.instanceMethod mX11_readProduct.1 ∈ lwT ∧ Cond.selects mX11_readProduct.1.cls mX11_readProduct.1 mX11_readProduct.1 ∈ lwT := ⟨lwT_6 (i := 131) (by decide +kernel) rfl, lwT_at (i := 62) (by decide +kernel) rfl⟩
def mX11_readSum : MD := (yX11_readSum, cX11_readSum, 2, some .int)
theorem mw_X11_readSum : MW mX11_readSum 0 := ⟨lwT_6 (i := 128) (by decide +kernel) rfl, lwT_1 (i := 13) (by decide +kernel) rfl, by decide +kernel, ⟨by decide +kernel, by decide +kernel, by decide +kernel⟩, by decide⟩
theorem im_X11_readSum : Cond.instanceMethod mX11_readSum.1 ∈ lwT ∧ Cond.selects mX11_readSum.1.cls mX11_readSum.1 mX11_readSum.1 ∈ lwT := ⟨lwT_6 (i := 127) (by decide +kernel) rfl, lwT_at (i := 61) (by decide +kernel) rfl⟩
def mX11_readCompared : MD := (yX11_readCompared, cX11_readCompared, 2, some .int)
theorem mw_X11_readCompared : MW mX11_readCompared 0 := ⟨lwT_6 (i := 156) (by decide +kernel) rfl, lwT_1 (i := 13) (by decide +kernel) rfl, by decide +kernel, ⟨by decide +kernel, by decide +kernel, by decide +kernel⟩, by decide⟩
theorem im_X11_readCompared : Cond.instanceMethod mX11_readCompared.1 ∈ lwT ∧ Cond.selects mX11_readCompared.1.cls mX11_readCompared.1 mX11_readCompared.1 ∈ lwT := ⟨lwT_6 (i := 155) (by decide +kernel) rfl, lwT_at (i := 68) (by decide +kernel) rfl⟩
def mX11_waits : MD := (yX11_waits, cX11_waits, 2, none)
theorem mw_X11_waits : MW mX11_waits 1 := ⟨lwT_6 (i := 152) (by decide +kernel) rfl, lwT_1 (i := 13) (by decide +kernel) rfl, by decide +kernel, ⟨by decide +kernel, by decide +kernel, by decide +kernel⟩, by decide⟩
theorem im_X11_waits : Cond.instanceMethod mX11_waits.1 ∈ lwT ∧ Cond.selects mX11_waits.1.cls mX11_waits.1 mX11_waits.1 ∈ lwT := ⟨lwT_6 (i := 151) (by decide +kernel) rfl, lwT_at (i := 67) (by decide +kernel) rfl⟩
def mX11_settles : MD := (yX11_settles, cX11_settles, 2, none)
theorem mw_X11_settles : MW mX11_settles 1 := ⟨lwT_6 (i := 160) (by decide +kernel) rfl, lwT_1 (i := 13) (by decide +kernel) rfl, by decide +kernel, ⟨by decide +kernel, by decide +kernel, by decide +kernel⟩, by decide⟩
theorem im_X11_settles : Cond.instanceMethod mX11_settles.1 ∈ lwT ∧ Cond.selects mX11_settles.1.cls mX11_settles.1 mX11_settles.1 ∈ lwT := ⟨lwT_6 (i := 159) (by decide +kernel) rfl, lwT_at (i := 69) (by decide +kernel) rfl⟩
def mX11_readAny : MD := (yX11_readAny, cX11_readAny, 4, some .int)
theorem mw_X11_readAny : MW mX11_readAny 0 := ⟨lwT_6 (i := 148) (by decide +kernel) rfl, lwT_1 (i := 13) (by decide +kernel) rfl, by decide +kernel, ⟨by decide +kernel, by decide +kernel, by decide +kernel⟩, by decide⟩
theorem im_X11_readAny : Cond.instanceMethod mX11_readAny.1 ∈ lwT ∧ Cond.selects mX11_readAny.1.cls mX11_readAny.1 mX11_readAny.1 ∈ lwT := ⟨lwT_6 (i := 147) (by decide +kernel) rfl, lwT_at (i := 66) (by decide +kernel) rfl⟩
def mX11_isLineWord : MD := (yX11_isLineWord, cX11_isLineWord, 1, some .boolean)
theorem mw_X11_isLineWord : MW mX11_isLineWord 0 := ⟨lwT_6 (i := 124) (by decide +kernel) rfl, lwT_1 (i := 13) (by decide +kernel) rfl, by decide +kernel, ⟨by decide +kernel, by decide +kernel, by decide +kernel⟩, by decide⟩
theorem im_X11_isLineWord : Cond.instanceMethod mX11_isLineWord.1 ∈ lwT ∧ Cond.selects mX11_isLineWord.1.cls mX11_isLineWord.1 mX11_isLineWord.1 ∈ lwT := ⟨lwT_6 (i := 123) (by decide +kernel) rfl, lwT_at (i := 60) (by decide +kernel) rfl⟩
def mX11_readLaw : MD := (yX11_readLaw, cX11_readLaw, 3, some .int)
theorem mw_X11_readLaw : MW mX11_readLaw 0 := ⟨lwT_6 (i := 120) (by decide +kernel) rfl, lwT_1 (i := 13) (by decide +kernel) rfl, by decide +kernel, ⟨by decide +kernel, by decide +kernel, by decide +kernel⟩, by decide⟩
theorem im_X11_readLaw : Cond.instanceMethod mX11_readLaw.1 ∈ lwT ∧ Cond.selects mX11_readLaw.1.cls mX11_readLaw.1 mX11_readLaw.1 ∈ lwT := ⟨lwT_6 (i := 119) (by decide +kernel) rfl, lwT_at (i := 59) (by decide +kernel) rfl⟩
def mX11_takesLaw : MD := (yX11_takesLaw, cX11_takesLaw, 3, none)
theorem mw_X11_takesLaw : MW mX11_takesLaw 1 := ⟨lwT_6 (i := 168) (by decide +kernel) rfl, lwT_1 (i := 13) (by decide +kernel) rfl, by decide +kernel, ⟨by decide +kernel, by decide +kernel, by decide +kernel⟩, by decide⟩
theorem im_X11_takesLaw : Cond.instanceMethod mX11_takesLaw.1 ∈ lwT ∧ Cond.selects mX11_takesLaw.1.cls mX11_takesLaw.1 mX11_takesLaw.1 ∈ lwT := ⟨lwT_6 (i := 167) (by decide +kernel) rfl, lwT_at (i := 71) (by decide +kernel) rfl⟩
def mX11_readNumber : MD := (yX11_readNumber, cX11_readNumber, 4, some .int)
theorem mw_X11_readNumber : MW mX11_readNumber 2 := ⟨lwT_6 (i := 104) (by decide +kernel) rfl, lwT_1 (i := 13) (by decide +kernel) rfl, by decide +kernel, ⟨by decide +kernel, by decide +kernel, by decide +kernel⟩, by decide⟩
theorem im_X11_readNumber : Cond.instanceMethod mX11_readNumber.1 ∈ lwT ∧ Cond.selects mX11_readNumber.1.cls mX11_readNumber.1 mX11_readNumber.1 ∈ lwT := ⟨lwT_6 (i := 103) (by decide +kernel) rfl, lwT_at (i := 55) (by decide +kernel) rfl⟩
def mX11_readWord : MD := (yX11_readWord, cX11_readWord, 2, some .int)
theorem mw_X11_readWord : MW mX11_readWord 1 := ⟨lwT_6 (i := 112) (by decide +kernel) rfl, lwT_1 (i := 13) (by decide +kernel) rfl, by decide +kernel, ⟨by decide +kernel, by decide +kernel, by decide +kernel⟩, by decide⟩
theorem im_X11_readWord : Cond.instanceMethod mX11_readWord.1 ∈ lwT ∧ Cond.selects mX11_readWord.1.cls mX11_readWord.1 mX11_readWord.1 ∈ lwT := ⟨lwT_6 (i := 111) (by decide +kernel) rfl, lwT_at (i := 57) (by decide +kernel) rfl⟩
def mX11_readWay : MD := (yX11_readWay, cX11_readWay, 4, some .int)
theorem mw_X11_readWay : MW mX11_readWay 0 := ⟨lwT_6 (i := 100) (by decide +kernel) rfl, lwT_1 (i := 13) (by decide +kernel) rfl, by decide +kernel, ⟨by decide +kernel, by decide +kernel, by decide +kernel⟩, by decide⟩
theorem im_X11_readWay : Cond.instanceMethod mX11_readWay.1 ∈ lwT ∧ Cond.selects mX11_readWay.1.cls mX11_readWay.1 mX11_readWay.1 ∈ lwT := ⟨lwT_6 (i := 99) (by decide +kernel) rfl, lwT_at (i := 54) (by decide +kernel) rfl⟩
def mX11_readPost : MD := (yX11_readPost, cX11_readPost, 2, some .int)
theorem mw_X11_readPost : MW mX11_readPost 0 := ⟨lwT_6 (i := 92) (by decide +kernel) rfl, lwT_1 (i := 13) (by decide +kernel) rfl, by decide +kernel, ⟨by decide +kernel, by decide +kernel, by decide +kernel⟩, by decide⟩
theorem im_X11_readPost : Cond.instanceMethod mX11_readPost.1 ∈ lwT ∧ Cond.selects mX11_readPost.1.cls mX11_readPost.1 mX11_readPost.1 ∈ lwT := ⟨lwT_6 (i := 91) (by decide +kernel) rfl, lwT_at (i := 52) (by decide +kernel) rfl⟩
def mX11_takesPost : MD := (yX11_takesPost, cX11_takesPost, 3, none)
theorem mw_X11_takesPost : MW mX11_takesPost 1 := ⟨lwT_6 (i := 164) (by decide +kernel) rfl, lwT_1 (i := 13) (by decide +kernel) rfl, by decide +kernel, ⟨by decide +kernel, by decide +kernel, by decide +kernel⟩, by decide⟩
theorem im_X11_takesPost : Cond.instanceMethod mX11_takesPost.1 ∈ lwT ∧ Cond.selects mX11_takesPost.1.cls mX11_takesPost.1 mX11_takesPost.1 ∈ lwT := ⟨lwT_6 (i := 163) (by decide +kernel) rfl, lwT_at (i := 70) (by decide +kernel) rfl⟩
def mX11_text : MD := (yX11_text, cX11_text, 3, some .int)
theorem mw_X11_text : MW mX11_text 1 := ⟨lwT_6 (i := 64) (by decide +kernel) rfl, lwT_1 (i := 13) (by decide +kernel) rfl, by decide +kernel, ⟨by decide +kernel, by decide +kernel, by decide +kernel⟩, by decide⟩
theorem im_X11_text : Cond.instanceMethod mX11_text.1 ∈ lwT ∧ Cond.selects mX11_text.1.cls mX11_text.1 mX11_text.1 ∈ lwT := ⟨lwT_6 (i := 62) (by decide +kernel) rfl, lwT_6 (i := 63) (by decide +kernel) rfl⟩
def mX11_fault : MD := (yX11_fault, cX11_fault, 2, some .int)
theorem mw_X11_fault : MW mX11_fault 1 := ⟨lwT_6 (i := 172) (by decide +kernel) rfl, lwT_1 (i := 13) (by decide +kernel) rfl, by decide +kernel, ⟨by decide +kernel, by decide +kernel, by decide +kernel⟩, by decide⟩
theorem im_X11_fault : Cond.instanceMethod mX11_fault.1 ∈ lwT ∧ Cond.selects mX11_fault.1.cls mX11_fault.1 mX11_fault.1 ∈ lwT := ⟨lwT_6 (i := 170) (by decide +kernel) rfl, lwT_6 (i := 171) (by decide +kernel) rfl⟩
def mX11_twoOf : MD := (yX11_twoOf, cX11_twoOf, 4, some .int)
theorem mw_X11_twoOf : MW mX11_twoOf 3 := ⟨lwT_6 (i := 228) (by decide +kernel) rfl, lwT_1 (i := 13) (by decide +kernel) rfl, by decide +kernel, ⟨by decide +kernel, by decide +kernel, by decide +kernel⟩, by decide⟩
theorem im_X11_twoOf : Cond.instanceMethod mX11_twoOf.1 ∈ lwT ∧ Cond.selects mX11_twoOf.1.cls mX11_twoOf.1 mX11_twoOf.1 ∈ lwT := ⟨lwT_6 (i := 227) (by decide +kernel) rfl, lwT_at (i := 84) (by decide +kernel) rfl⟩
def mX11_runs : MD := (yX11_runs, cX11_runs, 6, some .int)
theorem mw_X11_runs : MW mX11_runs 3 := ⟨lwT_6 (i := 224) (by decide +kernel) rfl, lwT_1 (i := 13) (by decide +kernel) rfl, by decide +kernel, ⟨by decide +kernel, by decide +kernel, by decide +kernel⟩, by decide⟩
theorem im_X11_runs : Cond.instanceMethod mX11_runs.1 ∈ lwT ∧ Cond.selects mX11_runs.1.cls mX11_runs.1 mX11_runs.1 ∈ lwT := ⟨lwT_6 (i := 223) (by decide +kernel) rfl, lwT_at (i := 83) (by decide +kernel) rfl⟩
def mX11_lineOf : MD := (yX11_lineOf, cX11_lineOf, 4, some .int)
theorem mw_X11_lineOf : MW mX11_lineOf 1 := ⟨lwT_6 (i := 220) (by decide +kernel) rfl, lwT_1 (i := 13) (by decide +kernel) rfl, by decide +kernel, ⟨by decide +kernel, by decide +kernel, by decide +kernel⟩, by decide⟩
theorem im_X11_lineOf : Cond.instanceMethod mX11_lineOf.1 ∈ lwT ∧ Cond.selects mX11_lineOf.1.cls mX11_lineOf.1 mX11_lineOf.1 ∈ lwT := ⟨lwT_6 (i := 219) (by decide +kernel) rfl, lwT_at (i := 82) (by decide +kernel) rfl⟩
def mX11_asksBoth : MD := (yX11_asksBoth, cX11_asksBoth, 4, none)
theorem mw_X11_asksBoth : MW mX11_asksBoth 2 := ⟨lwT_6 (i := 212) (by decide +kernel) rfl, lwT_1 (i := 13) (by decide +kernel) rfl, by decide +kernel, ⟨by decide +kernel, by decide +kernel, by decide +kernel⟩, by decide⟩
theorem im_X11_asksBoth : Cond.instanceMethod mX11_asksBoth.1 ∈ lwT ∧ Cond.selects mX11_asksBoth.1.cls mX11_asksBoth.1 mX11_asksBoth.1 ∈ lwT := ⟨lwT_6 (i := 211) (by decide +kernel) rfl, lwT_at (i := 80) (by decide +kernel) rfl⟩
def mX11_held : MD := (yX11_held, cX11_held, 4, some .int)
theorem mw_X11_held : MW mX11_held 3 := ⟨lwT_6 (i := 232) (by decide +kernel) rfl, lwT_1 (i := 13) (by decide +kernel) rfl, by decide +kernel, ⟨by decide +kernel, by decide +kernel, by decide +kernel⟩, by decide⟩
theorem im_X11_held : Cond.instanceMethod mX11_held.1 ∈ lwT ∧ Cond.selects mX11_held.1.cls mX11_held.1 mX11_held.1 ∈ lwT := ⟨lwT_6 (i := 231) (by decide +kernel) rfl, lwT_at (i := 85) (by decide +kernel) rfl⟩
def mX11_writeOf : MD := (yX11_writeOf, cX11_writeOf, 5, some .int)
theorem mw_X11_writeOf : MW mX11_writeOf 2 := ⟨lwT_6 (i := 208) (by decide +kernel) rfl, lwT_1 (i := 13) (by decide +kernel) rfl, by decide +kernel, ⟨by decide +kernel, by decide +kernel, by decide +kernel⟩, by decide⟩
theorem im_X11_writeOf : Cond.instanceMethod mX11_writeOf.1 ∈ lwT ∧ Cond.selects mX11_writeOf.1.cls mX11_writeOf.1 mX11_writeOf.1 ∈ lwT := ⟨lwT_6 (i := 207) (by decide +kernel) rfl, lwT_at (i := 79) (by decide +kernel) rfl⟩
def mX11_illOf : MD := (yX11_illOf, cX11_illOf, 4, some .int)
theorem mw_X11_illOf : MW mX11_illOf 2 := ⟨lwT_7 (i := 30) (by decide +kernel) rfl, lwT_1 (i := 13) (by decide +kernel) rfl, by decide +kernel, ⟨by decide +kernel, by decide +kernel, by decide +kernel⟩, by decide⟩
theorem im_X11_illOf : Cond.instanceMethod mX11_illOf.1 ∈ lwT ∧ Cond.selects mX11_illOf.1.cls mX11_illOf.1 mX11_illOf.1 ∈ lwT := ⟨lwT_7 (i := 29) (by decide +kernel) rfl, lwT_at (i := 94) (by decide +kernel) rfl⟩
def mX11_notes : MD := (yX11_notes, cX11_notes, 6, none)
theorem mw_X11_notes : MW mX11_notes 4 := ⟨lwT_6 (i := 192) (by decide +kernel) rfl, lwT_1 (i := 13) (by decide +kernel) rfl, by decide +kernel, ⟨by decide +kernel, by decide +kernel, by decide +kernel⟩, by decide⟩
theorem im_X11_notes : Cond.instanceMethod mX11_notes.1 ∈ lwT ∧ Cond.selects mX11_notes.1.cls mX11_notes.1 mX11_notes.1 ∈ lwT := ⟨lwT_6 (i := 191) (by decide +kernel) rfl, lwT_at (i := 75) (by decide +kernel) rfl⟩
def mX11_comesTo : MD := (yX11_comesTo, cX11_comesTo, 4, some .int)
theorem mw_X11_comesTo : MW mX11_comesTo 3 := ⟨lwT_6 (i := 188) (by decide +kernel) rfl, lwT_1 (i := 13) (by decide +kernel) rfl, by decide +kernel, ⟨by decide +kernel, by decide +kernel, by decide +kernel⟩, by decide⟩
theorem im_X11_comesTo : Cond.instanceMethod mX11_comesTo.1 ∈ lwT ∧ Cond.selects mX11_comesTo.1.cls mX11_comesTo.1 mX11_comesTo.1 ∈ lwT := ⟨lwT_6 (i := 187) (by decide +kernel) rfl, lwT_at (i := 74) (by decide +kernel) rfl⟩
def mX11_arrives : MD := (yX11_arrives, cX11_arrives, 6, some .int)
theorem mw_X11_arrives : MW mX11_arrives 0 := ⟨lwT_6 (i := 184) (by decide +kernel) rfl, lwT_1 (i := 13) (by decide +kernel) rfl, by decide +kernel, ⟨by decide +kernel, by decide +kernel, by decide +kernel⟩, by decide⟩
theorem im_X11_arrives : Cond.instanceMethod mX11_arrives.1 ∈ lwT ∧ Cond.selects mX11_arrives.1.cls mX11_arrives.1 mX11_arrives.1 ∈ lwT := ⟨lwT_6 (i := 183) (by decide +kernel) rfl, lwT_at (i := 73) (by decide +kernel) rfl⟩
def mX11_postOf : MD := (yX11_postOf, cX11_postOf, 3, some .int)
theorem mw_X11_postOf : MW mX11_postOf 2 := ⟨lwT_7 (i := 18) (by decide +kernel) rfl, lwT_1 (i := 13) (by decide +kernel) rfl, by decide +kernel, ⟨by decide +kernel, by decide +kernel, by decide +kernel⟩, by decide⟩
theorem im_X11_postOf : Cond.instanceMethod mX11_postOf.1 ∈ lwT ∧ Cond.selects mX11_postOf.1.cls mX11_postOf.1 mX11_postOf.1 ∈ lwT := ⟨lwT_7 (i := 17) (by decide +kernel) rfl, lwT_at (i := 91) (by decide +kernel) rfl⟩
def mX11_copyOf : MD := (yX11_copyOf, cX11_copyOf, 5, some .int)
theorem mw_X11_copyOf : MW mX11_copyOf 2 := ⟨lwT_7 (i := 4) (by decide +kernel) rfl, lwT_1 (i := 13) (by decide +kernel) rfl, by decide +kernel, ⟨by decide +kernel, by decide +kernel, by decide +kernel⟩, by decide⟩
theorem im_X11_copyOf : Cond.instanceMethod mX11_copyOf.1 ∈ lwT ∧ Cond.selects mX11_copyOf.1.cls mX11_copyOf.1 mX11_copyOf.1 ∈ lwT := ⟨lwT_7 (i := 3) (by decide +kernel) rfl, lwT_at (i := 88) (by decide +kernel) rfl⟩
def mX11_posts : MD := (yX11_posts, cX11_posts, 5, none)
theorem mw_X11_posts : MW mX11_posts 3 := ⟨lwT_7 (i := 14) (by decide +kernel) rfl, lwT_1 (i := 13) (by decide +kernel) rfl, by decide +kernel, ⟨by decide +kernel, by decide +kernel, by decide +kernel⟩, by decide⟩
theorem im_X11_posts : Cond.instanceMethod mX11_posts.1 ∈ lwT ∧ Cond.selects mX11_posts.1.cls mX11_posts.1 mX11_posts.1 ∈ lwT := ⟨lwT_7 (i := 13) (by decide +kernel) rfl, lwT_at (i := 90) (by decide +kernel) rfl⟩
def mX11_writesOne : MD := (yX11_writesOne, cX11_writesOne, 5, none)
theorem mw_X11_writesOne : MW mX11_writesOne 2 := ⟨lwT_7 (i := 0) (by decide +kernel) rfl, lwT_1 (i := 13) (by decide +kernel) rfl, by decide +kernel, ⟨by decide +kernel, by decide +kernel, by decide +kernel⟩, by decide⟩
theorem im_X11_writesOne : Cond.instanceMethod mX11_writesOne.1 ∈ lwT ∧ Cond.selects mX11_writesOne.1.cls mX11_writesOne.1 mX11_writesOne.1 ∈ lwT := ⟨lwT_6 (i := 239) (by decide +kernel) rfl, lwT_at (i := 87) (by decide +kernel) rfl⟩
def mX11_least : MD := (yX11_least, cX11_least, 3, some .int)
theorem mw_X11_least : MW mX11_least 2 := ⟨lwT_6 (i := 236) (by decide +kernel) rfl, lwT_1 (i := 13) (by decide +kernel) rfl, by decide +kernel, ⟨by decide +kernel, by decide +kernel, by decide +kernel⟩, by decide⟩
theorem im_X11_least : Cond.instanceMethod mX11_least.1 ∈ lwT ∧ Cond.selects mX11_least.1.cls mX11_least.1 mX11_least.1 ∈ lwT := ⟨lwT_6 (i := 235) (by decide +kernel) rfl, lwT_at (i := 86) (by decide +kernel) rfl⟩
def mX11_writes : MD := (yX11_writes, cX11_writes, 5, some .boolean)
theorem mw_X11_writes : MW mX11_writes 2 := ⟨lwT_6 (i := 204) (by decide +kernel) rfl, lwT_1 (i := 13) (by decide +kernel) rfl, by decide +kernel, ⟨by decide +kernel, by decide +kernel, by decide +kernel⟩, by decide⟩
theorem im_X11_writes : Cond.instanceMethod mX11_writes.1 ∈ lwT ∧ Cond.selects mX11_writes.1.cls mX11_writes.1 mX11_writes.1 ∈ lwT := ⟨lwT_6 (i := 203) (by decide +kernel) rfl, lwT_at (i := 78) (by decide +kernel) rfl⟩
def mX11_allWrite : MD := (yX11_allWrite, cX11_allWrite, 3, none)
theorem mw_X11_allWrite : MW mX11_allWrite 0 := ⟨lwT_6 (i := 196) (by decide +kernel) rfl, lwT_1 (i := 13) (by decide +kernel) rfl, by decide +kernel, ⟨by decide +kernel, by decide +kernel, by decide +kernel⟩, by decide⟩
theorem im_X11_allWrite : Cond.instanceMethod mX11_allWrite.1 ∈ lwT ∧ Cond.selects mX11_allWrite.1.cls mX11_allWrite.1 mX11_allWrite.1 ∈ lwT := ⟨lwT_6 (i := 195) (by decide +kernel) rfl, lwT_at (i := 76) (by decide +kernel) rfl⟩
def mX11_cursesOne : MD := (yX11_cursesOne, cX11_cursesOne, 4, none)
theorem mw_X11_cursesOne : MW mX11_cursesOne 2 := ⟨lwT_7 (i := 26) (by decide +kernel) rfl, lwT_1 (i := 13) (by decide +kernel) rfl, by decide +kernel, ⟨by decide +kernel, by decide +kernel, by decide +kernel⟩, by decide⟩
theorem im_X11_cursesOne : Cond.instanceMethod mX11_cursesOne.1 ∈ lwT ∧ Cond.selects mX11_cursesOne.1.cls mX11_cursesOne.1 mX11_cursesOne.1 ∈ lwT := ⟨lwT_7 (i := 25) (by decide +kernel) rfl, lwT_at (i := 93) (by decide +kernel) rfl⟩
def mX11_curses : MD := (yX11_curses, cX11_curses, 3, none)
theorem mw_X11_curses : MW mX11_curses 0 := ⟨lwT_7 (i := 22) (by decide +kernel) rfl, lwT_1 (i := 13) (by decide +kernel) rfl, by decide +kernel, ⟨by decide +kernel, by decide +kernel, by decide +kernel⟩, by decide⟩
theorem im_X11_curses : Cond.instanceMethod mX11_curses.1 ∈ lwT ∧ Cond.selects mX11_curses.1.cls mX11_curses.1 mX11_curses.1 ∈ lwT := ⟨lwT_7 (i := 21) (by decide +kernel) rfl, lwT_at (i := 92) (by decide +kernel) rfl⟩
def mX11_goesBy : MD := (yX11_goesBy, cX11_goesBy, 2, some .int)
theorem mw_X11_goesBy : MW mX11_goesBy 0 := ⟨lwT_6 (i := 180) (by decide +kernel) rfl, lwT_1 (i := 13) (by decide +kernel) rfl, by decide +kernel, ⟨by decide +kernel, by decide +kernel, by decide +kernel⟩, by decide⟩
theorem im_X11_goesBy : Cond.instanceMethod mX11_goesBy.1 ∈ lwT ∧ Cond.selects mX11_goesBy.1.cls mX11_goesBy.1 mX11_goesBy.1 ∈ lwT := ⟨lwT_6 (i := 179) (by decide +kernel) rfl, lwT_at (i := 72) (by decide +kernel) rfl⟩
def mX11_days : MD := (yX11_days, cX11_days, 4, some .int)
theorem mw_X11_days : MW mX11_days 1 := ⟨lwT_6 (i := 176) (by decide +kernel) rfl, lwT_1 (i := 13) (by decide +kernel) rfl, by decide +kernel, ⟨by decide +kernel, by decide +kernel, by decide +kernel⟩, by decide⟩
theorem im_X11_days : Cond.instanceMethod mX11_days.1 ∈ lwT ∧ Cond.selects mX11_days.1.cls mX11_days.1 mX11_days.1 ∈ lwT := ⟨lwT_6 (i := 174) (by decide +kernel) rfl, lwT_6 (i := 175) (by decide +kernel) rfl⟩
def mX11_of : MD := (yX11_of, cX11_of, 3, some .int)
theorem mw_X11_of : MW mX11_of 2 := ⟨lwT_7 (i := 34) (by decide +kernel) rfl, lwT_1 (i := 13) (by decide +kernel) rfl, by decide +kernel, ⟨by decide +kernel, by decide +kernel, by decide +kernel⟩, by decide⟩
theorem im_X11_of : Cond.instanceMethod mX11_of.1 ∈ lwT ∧ Cond.selects mX11_of.1.cls mX11_of.1 mX11_of.1 ∈ lwT := ⟨lwT_7 (i := 32) (by decide +kernel) rfl, lwT_7 (i := 33) (by decide +kernel) rfl⟩
def mX11_hadBy : MD := (yX11_hadBy, cX11_hadBy, 2, some .int)
theorem mw_X11_hadBy : MW mX11_hadBy 1 := ⟨lwT_7 (i := 38) (by decide +kernel) rfl, lwT_1 (i := 13) (by decide +kernel) rfl, by decide +kernel, ⟨by decide +kernel, by decide +kernel, by decide +kernel⟩, by decide⟩
theorem im_X11_hadBy : Cond.instanceMethod mX11_hadBy.1 ∈ lwT ∧ Cond.selects mX11_hadBy.1.cls mX11_hadBy.1 mX11_hadBy.1 ∈ lwT := ⟨lwT_7 (i := 37) (by decide +kernel) rfl, lwT_at (i := 95) (by decide +kernel) rfl⟩
def mX11_letter : MD := (yX11_letter, cX11_letter, 5, some .int)
theorem mw_X11_letter : MW mX11_letter 3 := ⟨lwT_7 (i := 42) (by decide +kernel) rfl, lwT_1 (i := 13) (by decide +kernel) rfl, by decide +kernel, ⟨by decide +kernel, by decide +kernel, by decide +kernel⟩, by decide⟩
theorem im_X11_letter : Cond.instanceMethod mX11_letter.1 ∈ lwT ∧ Cond.selects mX11_letter.1.cls mX11_letter.1 mX11_letter.1 ∈ lwT := ⟨lwT_7 (i := 40) (by decide +kernel) rfl, lwT_7 (i := 41) (by decide +kernel) rfl⟩
def mX11_onWay : MD := (yX11_onWay, cX11_onWay, 3, some .int)
theorem mw_X11_onWay : MW mX11_onWay 2 := ⟨lwT_7 (i := 54) (by decide +kernel) rfl, lwT_1 (i := 13) (by decide +kernel) rfl, by decide +kernel, ⟨by decide +kernel, by decide +kernel, by decide +kernel⟩, by decide⟩
theorem im_X11_onWay : Cond.instanceMethod mX11_onWay.1 ∈ lwT ∧ Cond.selects mX11_onWay.1.cls mX11_onWay.1 mX11_onWay.1 ∈ lwT := ⟨lwT_7 (i := 52) (by decide +kernel) rfl, lwT_7 (i := 53) (by decide +kernel) rfl⟩
def mX11_lettersOf : MD := (yX11_lettersOf, cX11_lettersOf, 5, some .int)
theorem mw_X11_lettersOf : MW mX11_lettersOf 1 := ⟨lwT_7 (i := 70) (by decide +kernel) rfl, lwT_1 (i := 13) (by decide +kernel) rfl, by decide +kernel, ⟨by decide +kernel, by decide +kernel, by decide +kernel⟩, by decide⟩
theorem im_X11_lettersOf : Cond.instanceMethod mX11_lettersOf.1 ∈ lwT ∧ Cond.selects mX11_lettersOf.1.cls mX11_lettersOf.1 mX11_lettersOf.1 ∈ lwT := ⟨lwT_7 (i := 69) (by decide +kernel) rfl, lwT_at (i := 100) (by decide +kernel) rfl⟩
def mX11_didHave : MD := (yX11_didHave, cX11_didHave, 3, some .boolean)
theorem mw_X11_didHave : MW mX11_didHave 2 := ⟨lwT_7 (i := 78) (by decide +kernel) rfl, lwT_1 (i := 13) (by decide +kernel) rfl, by decide +kernel, ⟨by decide +kernel, by decide +kernel, by decide +kernel⟩, by decide⟩
theorem im_X11_didHave : Cond.instanceMethod mX11_didHave.1 ∈ lwT ∧ Cond.selects mX11_didHave.1.cls mX11_didHave.1 mX11_didHave.1 ∈ lwT := ⟨lwT_7 (i := 77) (by decide +kernel) rfl, lwT_at (i := 102) (by decide +kernel) rfl⟩
def mX11_didAnyHave : MD := (yX11_didAnyHave, cX11_didAnyHave, 3, some .boolean)
theorem mw_X11_didAnyHave : MW mX11_didAnyHave 1 := ⟨lwT_7 (i := 74) (by decide +kernel) rfl, lwT_1 (i := 13) (by decide +kernel) rfl, by decide +kernel, ⟨by decide +kernel, by decide +kernel, by decide +kernel⟩, by decide⟩
theorem im_X11_didAnyHave : Cond.instanceMethod mX11_didAnyHave.1 ∈ lwT ∧ Cond.selects mX11_didAnyHave.1.cls mX11_didAnyHave.1 mX11_didAnyHave.1 ∈ lwT := ⟨lwT_7 (i := 73) (by decide +kernel) rfl, lwT_at (i := 101) (by decide +kernel) rfl⟩
def mX11_kind : MD := (yX11_kind, cX11_kind, 3, some .int)
theorem mw_X11_kind : MW mX11_kind 2 := ⟨lwT_7 (i := 58) (by decide +kernel) rfl, lwT_1 (i := 13) (by decide +kernel) rfl, by decide +kernel, ⟨by decide +kernel, by decide +kernel, by decide +kernel⟩, by decide⟩
theorem im_X11_kind : Cond.instanceMethod mX11_kind.1 ∈ lwT ∧ Cond.selects mX11_kind.1.cls mX11_kind.1 mX11_kind.1 ∈ lwT := ⟨lwT_7 (i := 56) (by decide +kernel) rfl, lwT_7 (i := 57) (by decide +kernel) rfl⟩
def mX11_isTown : MD := (yX11_isTown, cX11_isTown, 2, some .boolean)
theorem mw_X11_isTown : MW mX11_isTown 1 := ⟨lwT_7 (i := 86) (by decide +kernel) rfl, lwT_1 (i := 13) (by decide +kernel) rfl, by decide +kernel, ⟨by decide +kernel, by decide +kernel, by decide +kernel⟩, by decide⟩
theorem im_X11_isTown : Cond.instanceMethod mX11_isTown.1 ∈ lwT ∧ Cond.selects mX11_isTown.1.cls mX11_isTown.1 mX11_isTown.1 ∈ lwT := ⟨lwT_7 (i := 85) (by decide +kernel) rfl, lwT_at (i := 103) (by decide +kernel) rfl⟩
def mX11_post : MD := (yX11_post, cX11_post, 3, some .int)
theorem mw_X11_post : MW mX11_post 2 := ⟨lwT_7 (i := 82) (by decide +kernel) rfl, lwT_1 (i := 13) (by decide +kernel) rfl, by decide +kernel, ⟨by decide +kernel, by decide +kernel, by decide +kernel⟩, by decide⟩
theorem im_X11_post : Cond.instanceMethod mX11_post.1 ∈ lwT ∧ Cond.selects mX11_post.1.cls mX11_post.1 mX11_post.1 ∈ lwT := ⟨lwT_7 (i := 80) (by decide +kernel) rfl, lwT_7 (i := 81) (by decide +kernel) rfl⟩
def mX11_book : MD := (yX11_book, cX11_book, 3, some .int)
theorem mw_X11_book : MW mX11_book 2 := ⟨lwT_7 (i := 90) (by decide +kernel) rfl, lwT_1 (i := 13) (by decide +kernel) rfl, by decide +kernel, ⟨by decide +kernel, by decide +kernel, by decide +kernel⟩, by decide⟩
theorem im_X11_book : Cond.instanceMethod mX11_book.1 ∈ lwT ∧ Cond.selects mX11_book.1.cls mX11_book.1 mX11_book.1 ∈ lwT := ⟨lwT_7 (i := 88) (by decide +kernel) rfl, lwT_7 (i := 89) (by decide +kernel) rfl⟩
def mX11_heldIn : MD := (yX11_heldIn, cX11_heldIn, 4, some .int)
theorem mw_X11_heldIn : MW mX11_heldIn 1 := ⟨lwT_7 (i := 102) (by decide +kernel) rfl, lwT_1 (i := 13) (by decide +kernel) rfl, by decide +kernel, ⟨by decide +kernel, by decide +kernel, by decide +kernel⟩, by decide⟩
theorem im_X11_heldIn : Cond.instanceMethod mX11_heldIn.1 ∈ lwT ∧ Cond.selects mX11_heldIn.1.cls mX11_heldIn.1 mX11_heldIn.1 ∈ lwT := ⟨lwT_7 (i := 101) (by decide +kernel) rfl, lwT_at (i := 105) (by decide +kernel) rfl⟩
def mX11_many : MD := (yX11_many, cX11_many, 4, some .int)
theorem mw_X11_many : MW mX11_many 2 := ⟨lwT_7 (i := 94) (by decide +kernel) rfl, lwT_1 (i := 13) (by decide +kernel) rfl, by decide +kernel, ⟨by decide +kernel, by decide +kernel, by decide +kernel⟩, by decide⟩
theorem im_X11_many : Cond.instanceMethod mX11_many.1 ∈ lwT ∧ Cond.selects mX11_many.1.cls mX11_many.1 mX11_many.1 ∈ lwT := ⟨lwT_7 (i := 92) (by decide +kernel) rfl, lwT_7 (i := 93) (by decide +kernel) rfl⟩
def mX11_isOver : MD := (yX11_isOver, cX11_isOver, 2, some .boolean)
theorem mw_X11_isOver : MW mX11_isOver 0 := ⟨lwT_7 (i := 122) (by decide +kernel) rfl, lwT_1 (i := 13) (by decide +kernel) rfl, by decide +kernel, ⟨by decide +kernel, by decide +kernel, by decide +kernel⟩, by decide⟩
theorem im_X11_isOver : Cond.instanceMethod mX11_isOver.1 ∈ lwT ∧ Cond.selects mX11_isOver.1.cls mX11_isOver.1 mX11_isOver.1 ∈ lwT := ⟨lwT_7 (i := 121) (by decide +kernel) rfl, lwT_at (i := 109) (by decide +kernel) rfl⟩
def mX11_overBy : MD := (yX11_overBy, cX11_overBy, 3, some .int)
theorem mw_X11_overBy : MW mX11_overBy 1 := ⟨lwT_7 (i := 118) (by decide +kernel) rfl, lwT_1 (i := 13) (by decide +kernel) rfl, by decide +kernel, ⟨by decide +kernel, by decide +kernel, by decide +kernel⟩, by decide⟩
theorem im_X11_overBy : Cond.instanceMethod mX11_overBy.1 ∈ lwT ∧ Cond.selects mX11_overBy.1.cls mX11_overBy.1 mX11_overBy.1 ∈ lwT := ⟨lwT_7 (i := 117) (by decide +kernel) rfl, lwT_at (i := 108) (by decide +kernel) rfl⟩
def mX11_over : MD := (yX11_over, cX11_over, 2, some .int)
theorem mw_X11_over : MW mX11_over 0 := ⟨lwT_7 (i := 114) (by decide +kernel) rfl, lwT_1 (i := 13) (by decide +kernel) rfl, by decide +kernel, ⟨by decide +kernel, by decide +kernel, by decide +kernel⟩, by decide⟩
theorem im_X11_over : Cond.instanceMethod mX11_over.1 ∈ lwT ∧ Cond.selects mX11_over.1.cls mX11_over.1 mX11_over.1 ∈ lwT := ⟨lwT_7 (i := 112) (by decide +kernel) rfl, lwT_7 (i := 113) (by decide +kernel) rfl⟩
def mX11_isOverWithout : MD := (yX11_isOverWithout, cX11_isOverWithout, 5, some .boolean)
theorem mw_X11_isOverWithout : MW mX11_isOverWithout 2 := ⟨lwT_7 (i := 130) (by decide +kernel) rfl, lwT_1 (i := 13) (by decide +kernel) rfl, by decide +kernel, ⟨by decide +kernel, by decide +kernel, by decide +kernel⟩, by decide⟩
theorem im_X11_isOverWithout : Cond.instanceMethod mX11_isOverWithout.1 ∈ lwT ∧ Cond.selects mX11_isOverWithout.1.cls mX11_isOverWithout.1 mX11_isOverWithout.1 ∈ lwT := ⟨lwT_7 (i := 129) (by decide +kernel) rfl, lwT_at (i := 110) (by decide +kernel) rfl⟩
def mX11_stop : MD := (yX11_stop, cX11_stop, 5, some .int)
theorem mw_X11_stop : MW mX11_stop 1 := ⟨lwT_7 (i := 126) (by decide +kernel) rfl, lwT_1 (i := 13) (by decide +kernel) rfl, by decide +kernel, ⟨by decide +kernel, by decide +kernel, by decide +kernel⟩, by decide⟩
theorem im_X11_stop : Cond.instanceMethod mX11_stop.1 ∈ lwT ∧ Cond.selects mX11_stop.1.cls mX11_stop.1 mX11_stop.1 ∈ lwT := ⟨lwT_7 (i := 124) (by decide +kernel) rfl, lwT_7 (i := 125) (by decide +kernel) rfl⟩
def mX11_addressesOf : MD := (yX11_addressesOf, cX11_addressesOf, 4, some .int)
theorem mw_X11_addressesOf : MW mX11_addressesOf 1 := ⟨lwT_7 (i := 50) (by decide +kernel) rfl, lwT_1 (i := 13) (by decide +kernel) rfl, by decide +kernel, ⟨by decide +kernel, by decide +kernel, by decide +kernel⟩, by decide⟩
theorem im_X11_addressesOf : Cond.instanceMethod mX11_addressesOf.1 ∈ lwT ∧ Cond.selects mX11_addressesOf.1.cls mX11_addressesOf.1 mX11_addressesOf.1 ∈ lwT := ⟨lwT_7 (i := 49) (by decide +kernel) rfl, lwT_at (i := 97) (by decide +kernel) rfl⟩
def mX11_goesOnFrom : MD := (yX11_goesOnFrom, cX11_goesOnFrom, 2, some .boolean)
theorem mw_X11_goesOnFrom : MW mX11_goesOnFrom 1 := ⟨lwT_7 (i := 142) (by decide +kernel) rfl, lwT_1 (i := 13) (by decide +kernel) rfl, by decide +kernel, ⟨by decide +kernel, by decide +kernel, by decide +kernel⟩, by decide⟩
theorem im_X11_goesOnFrom : Cond.instanceMethod mX11_goesOnFrom.1 ∈ lwT ∧ Cond.selects mX11_goesOnFrom.1.cls mX11_goesOnFrom.1 mX11_goesOnFrom.1 ∈ lwT := ⟨lwT_7 (i := 141) (by decide +kernel) rfl, lwT_at (i := 112) (by decide +kernel) rfl⟩
def mX11_reachOf : MD := (yX11_reachOf, cX11_reachOf, 7, some .int)
theorem mw_X11_reachOf : MW mX11_reachOf 2 := ⟨lwT_7 (i := 138) (by decide +kernel) rfl, lwT_1 (i := 13) (by decide +kernel) rfl, by decide +kernel, ⟨by decide +kernel, by decide +kernel, by decide +kernel⟩, by decide⟩
theorem im_X11_reachOf : Cond.instanceMethod mX11_reachOf.1 ∈ lwT ∧ Cond.selects mX11_reachOf.1.cls mX11_reachOf.1 mX11_reachOf.1 ∈ lwT := ⟨lwT_7 (i := 137) (by decide +kernel) rfl, lwT_at (i := 111) (by decide +kernel) rfl⟩
def mX11_reach : MD := (yX11_reach, cX11_reach, 2, some .int)
theorem mw_X11_reach : MW mX11_reach 1 := ⟨lwT_7 (i := 134) (by decide +kernel) rfl, lwT_1 (i := 13) (by decide +kernel) rfl, by decide +kernel, ⟨by decide +kernel, by decide +kernel, by decide +kernel⟩, by decide⟩
theorem im_X11_reach : Cond.instanceMethod mX11_reach.1 ∈ lwT ∧ Cond.selects mX11_reach.1.cls mX11_reach.1 mX11_reach.1 ∈ lwT := ⟨lwT_7 (i := 132) (by decide +kernel) rfl, lwT_7 (i := 133) (by decide +kernel) rfl⟩
def mX11_sources : MD := (yX11_sources, cX11_sources, 5, some .int)
theorem mw_X11_sources : MW mX11_sources 2 := ⟨lwT_7 (i := 146) (by decide +kernel) rfl, lwT_1 (i := 13) (by decide +kernel) rfl, by decide +kernel, ⟨by decide +kernel, by decide +kernel, by decide +kernel⟩, by decide⟩
theorem im_X11_sources : Cond.instanceMethod mX11_sources.1 ∈ lwT ∧ Cond.selects mX11_sources.1.cls mX11_sources.1 mX11_sources.1 ∈ lwT := ⟨lwT_7 (i := 144) (by decide +kernel) rfl, lwT_7 (i := 145) (by decide +kernel) rfl⟩
def mX11_circle : MD := (yX11_circle, cX11_circle, 3, some .int)
theorem mw_X11_circle : MW mX11_circle 1 := ⟨lwT_7 (i := 150) (by decide +kernel) rfl, lwT_1 (i := 13) (by decide +kernel) rfl, by decide +kernel, ⟨by decide +kernel, by decide +kernel, by decide +kernel⟩, by decide⟩
theorem im_X11_circle : Cond.instanceMethod mX11_circle.1 ∈ lwT ∧ Cond.selects mX11_circle.1.cls mX11_circle.1 mX11_circle.1 ∈ lwT := ⟨lwT_7 (i := 148) (by decide +kernel) rfl, lwT_7 (i := 149) (by decide +kernel) rfl⟩
def mX11_pick : MD := (yX11_pick, cX11_pick, 3, some .int)
theorem mw_X11_pick : MW mX11_pick 1 := ⟨lwT_7 (i := 154) (by decide +kernel) rfl, lwT_1 (i := 13) (by decide +kernel) rfl, by decide +kernel, ⟨by decide +kernel, by decide +kernel, by decide +kernel⟩, by decide⟩
theorem im_X11_pick : Cond.instanceMethod mX11_pick.1 ∈ lwT ∧ Cond.selects mX11_pick.1.cls mX11_pick.1 mX11_pick.1 ∈ lwT := ⟨lwT_7 (i := 152) (by decide +kernel) rfl, lwT_7 (i := 153) (by decide +kernel) rfl⟩
def mX11_apartOf : MD := (yX11_apartOf, cX11_apartOf, 3, some .int)
theorem mw_X11_apartOf : MW mX11_apartOf 2 := ⟨lwT_7 (i := 167) (by decide +kernel) rfl, lwT_1 (i := 13) (by decide +kernel) rfl, by decide +kernel, ⟨by decide +kernel, by decide +kernel, by decide +kernel⟩, by decide⟩
theorem im_X11_apartOf : Cond.instanceMethod mX11_apartOf.1 ∈ lwT ∧ Cond.selects mX11_apartOf.1.cls mX11_apartOf.1 mX11_apartOf.1 ∈ lwT := ⟨lwT_7 (i := 166) (by decide +kernel) rfl, lwT_at (i := 114) (by decide +kernel) rfl⟩
def mX11_nearest : MD := (yX11_nearest, cX11_nearest, 6, some .int)
theorem mw_X11_nearest : MW mX11_nearest 1 := ⟨lwT_7 (i := 162) (by decide +kernel) rfl, lwT_1 (i := 13) (by decide +kernel) rfl, by decide +kernel, ⟨by decide +kernel, by decide +kernel, by decide +kernel⟩, by decide⟩
theorem im_X11_nearest : Cond.instanceMethod mX11_nearest.1 ∈ lwT ∧ Cond.selects mX11_nearest.1.cls mX11_nearest.1 mX11_nearest.1 ∈ lwT := ⟨lwT_7 (i := 161) (by decide +kernel) rfl, lwT_at (i := 113) (by decide +kernel) rfl⟩
def mX11_join : MD := (yX11_join, cX11_join, 5, some .int)
theorem mw_X11_join : MW mX11_join 0 := ⟨lwT_7 (i := 158) (by decide +kernel) rfl, lwT_1 (i := 13) (by decide +kernel) rfl, by decide +kernel, ⟨by decide +kernel, by decide +kernel, by decide +kernel⟩, by decide⟩
theorem im_X11_join : Cond.instanceMethod mX11_join.1 ∈ lwT ∧ Cond.selects mX11_join.1.cls mX11_join.1 mX11_join.1 ∈ lwT := ⟨lwT_7 (i := 156) (by decide +kernel) rfl, lwT_7 (i := 157) (by decide +kernel) rfl⟩
def mX11_cameOf : MD := (yX11_cameOf, cX11_cameOf, 4, some .boolean)
theorem mw_X11_cameOf : MW mX11_cameOf 2 := ⟨lwT_7 (i := 66) (by decide +kernel) rfl, lwT_1 (i := 13) (by decide +kernel) rfl, by decide +kernel, ⟨by decide +kernel, by decide +kernel, by decide +kernel⟩, by decide⟩
theorem im_X11_cameOf : Cond.instanceMethod mX11_cameOf.1 ∈ lwT ∧ Cond.selects mX11_cameOf.1.cls mX11_cameOf.1 mX11_cameOf.1 ∈ lwT := ⟨lwT_7 (i := 65) (by decide +kernel) rfl, lwT_at (i := 99) (by decide +kernel) rfl⟩
def mX11_childrenOf : MD := (yX11_childrenOf, cX11_childrenOf, 4, some .int)
theorem mw_X11_childrenOf : MW mX11_childrenOf 1 := ⟨lwT_7 (i := 62) (by decide +kernel) rfl, lwT_1 (i := 13) (by decide +kernel) rfl, by decide +kernel, ⟨by decide +kernel, by decide +kernel, by decide +kernel⟩, by decide⟩
theorem im_X11_childrenOf : Cond.instanceMethod mX11_childrenOf.1 ∈ lwT ∧ Cond.selects mX11_childrenOf.1.cls mX11_childrenOf.1 mX11_childrenOf.1 ∈ lwT := ⟨lwT_7 (i := 61) (by decide +kernel) rfl, lwT_at (i := 98) (by decide +kernel) rfl⟩
def mX11_forebear : MD := (yX11_forebear, cX11_forebear, 4, some .int)
theorem mw_X11_forebear : MW mX11_forebear 2 := ⟨lwT_7 (i := 171) (by decide +kernel) rfl, lwT_1 (i := 13) (by decide +kernel) rfl, by decide +kernel, ⟨by decide +kernel, by decide +kernel, by decide +kernel⟩, by decide⟩
theorem im_X11_forebear : Cond.instanceMethod mX11_forebear.1 ∈ lwT ∧ Cond.selects mX11_forebear.1.cls mX11_forebear.1 mX11_forebear.1 ∈ lwT := ⟨lwT_7 (i := 169) (by decide +kernel) rfl, lwT_7 (i := 170) (by decide +kernel) rfl⟩
def mX11_stampsOf : MD := (yX11_stampsOf, cX11_stampsOf, 8, some .int)
theorem mw_X11_stampsOf : MW mX11_stampsOf 2 := ⟨lwT_7 (i := 46) (by decide +kernel) rfl, lwT_1 (i := 13) (by decide +kernel) rfl, by decide +kernel, ⟨by decide +kernel, by decide +kernel, by decide +kernel⟩, by decide⟩
theorem im_X11_stampsOf : Cond.instanceMethod mX11_stampsOf.1 ∈ lwT ∧ Cond.selects mX11_stampsOf.1.cls mX11_stampsOf.1 mX11_stampsOf.1 ∈ lwT := ⟨lwT_7 (i := 45) (by decide +kernel) rfl, lwT_at (i := 96) (by decide +kernel) rfl⟩
def mX11_mostHeld : MD := (yX11_mostHeld, cX11_mostHeld, 4, some .int)
theorem mw_X11_mostHeld : MW mX11_mostHeld 0 := ⟨lwT_7 (i := 179) (by decide +kernel) rfl, lwT_1 (i := 13) (by decide +kernel) rfl, by decide +kernel, ⟨by decide +kernel, by decide +kernel, by decide +kernel⟩, by decide⟩
theorem im_X11_mostHeld : Cond.instanceMethod mX11_mostHeld.1 ∈ lwT ∧ Cond.selects mX11_mostHeld.1.cls mX11_mostHeld.1 mX11_mostHeld.1 ∈ lwT := ⟨lwT_7 (i := 178) (by decide +kernel) rfl, lwT_at (i := 115) (by decide +kernel) rfl⟩
def mX11_lasts : MD := (yX11_lasts, cX11_lasts, 3, some .int)
theorem mw_X11_lasts : MW mX11_lasts 1 := ⟨lwT_7 (i := 175) (by decide +kernel) rfl, lwT_1 (i := 13) (by decide +kernel) rfl, by decide +kernel, ⟨by decide +kernel, by decide +kernel, by decide +kernel⟩, by decide⟩
theorem im_X11_lasts : Cond.instanceMethod mX11_lasts.1 ∈ lwT ∧ Cond.selects mX11_lasts.1.cls mX11_lasts.1 mX11_lasts.1 ∈ lwT := ⟨lwT_7 (i := 173) (by decide +kernel) rfl, lwT_7 (i := 174) (by decide +kernel) rfl⟩
def mX11_knows : MD := (yX11_knows, cX11_knows, 4, some .int)
theorem mw_X11_knows : MW mX11_knows 1 := ⟨lwT_7 (i := 183) (by decide +kernel) rfl, lwT_1 (i := 13) (by decide +kernel) rfl, by decide +kernel, ⟨by decide +kernel, by decide +kernel, by decide +kernel⟩, by decide⟩
theorem im_X11_knows : Cond.instanceMethod mX11_knows.1 ∈ lwT ∧ Cond.selects mX11_knows.1.cls mX11_knows.1 mX11_knows.1 ∈ lwT := ⟨lwT_7 (i := 181) (by decide +kernel) rfl, lwT_7 (i := 182) (by decide +kernel) rfl⟩
def mX11_kept : MD := (yX11_kept, cX11_kept, 2, some .int)
theorem mw_X11_kept : MW mX11_kept 1 := ⟨lwT_7 (i := 191) (by decide +kernel) rfl, lwT_1 (i := 13) (by decide +kernel) rfl, by decide +kernel, ⟨by decide +kernel, by decide +kernel, by decide +kernel⟩, by decide⟩
theorem im_X11_kept : Cond.instanceMethod mX11_kept.1 ∈ lwT ∧ Cond.selects mX11_kept.1.cls mX11_kept.1 mX11_kept.1 ∈ lwT := ⟨lwT_7 (i := 190) (by decide +kernel) rfl, lwT_at (i := 116) (by decide +kernel) rfl⟩
def mX11_keepsLaw : MD := (yX11_keepsLaw, cX11_keepsLaw, 3, none)
theorem mw_X11_keepsLaw : MW mX11_keepsLaw 1 := ⟨lwT_7 (i := 203) (by decide +kernel) rfl, lwT_1 (i := 13) (by decide +kernel) rfl, by decide +kernel, ⟨by decide +kernel, by decide +kernel, by decide +kernel⟩, by decide⟩
theorem im_X11_keepsLaw : Cond.instanceMethod mX11_keepsLaw.1 ∈ lwT ∧ Cond.selects mX11_keepsLaw.1.cls mX11_keepsLaw.1 mX11_keepsLaw.1 ∈ lwT := ⟨lwT_7 (i := 202) (by decide +kernel) rfl, lwT_at (i := 119) (by decide +kernel) rfl⟩
def mX11_keepsPeople : MD := (yX11_keepsPeople, cX11_keepsPeople, 2, none)
theorem mw_X11_keepsPeople : MW mX11_keepsPeople 0 := ⟨lwT_7 (i := 195) (by decide +kernel) rfl, lwT_1 (i := 13) (by decide +kernel) rfl, by decide +kernel, ⟨by decide +kernel, by decide +kernel, by decide +kernel⟩, by decide⟩
theorem im_X11_keepsPeople : Cond.instanceMethod mX11_keepsPeople.1 ∈ lwT ∧ Cond.selects mX11_keepsPeople.1.cls mX11_keepsPeople.1 mX11_keepsPeople.1 ∈ lwT := ⟨lwT_7 (i := 194) (by decide +kernel) rfl, lwT_at (i := 117) (by decide +kernel) rfl⟩
def mX11_keepsNumbers : MD := (yX11_keepsNumbers, cX11_keepsNumbers, 2, none)
theorem mw_X11_keepsNumbers : MW mX11_keepsNumbers 0 := ⟨lwT_7 (i := 199) (by decide +kernel) rfl, lwT_1 (i := 13) (by decide +kernel) rfl, by decide +kernel, ⟨by decide +kernel, by decide +kernel, by decide +kernel⟩, by decide⟩
theorem im_X11_keepsNumbers : Cond.instanceMethod mX11_keepsNumbers.1 ∈ lwT ∧ Cond.selects mX11_keepsNumbers.1.cls mX11_keepsNumbers.1 mX11_keepsNumbers.1 ∈ lwT := ⟨lwT_7 (i := 198) (by decide +kernel) rfl, lwT_at (i := 118) (by decide +kernel) rfl⟩
def mX11_image : MD := (yX11_image, cX11_image, 3, some .boolean)
theorem mw_X11_image : MW mX11_image 1 := ⟨lwT_7 (i := 187) (by decide +kernel) rfl, lwT_1 (i := 13) (by decide +kernel) rfl, by decide +kernel, ⟨by decide +kernel, by decide +kernel, by decide +kernel⟩, by decide⟩
theorem im_X11_image : Cond.instanceMethod mX11_image.1 ∈ lwT ∧ Cond.selects mX11_image.1.cls mX11_image.1 mX11_image.1 ∈ lwT := ⟨lwT_7 (i := 185) (by decide +kernel) rfl, lwT_7 (i := 186) (by decide +kernel) rfl⟩
def mX11_look : MD := (yX11_look, cX11_look, 2, some .int)
theorem mw_X11_look : MW mX11_look 1 := ⟨lwT_7 (i := 207) (by decide +kernel) rfl, lwT_1 (i := 13) (by decide +kernel) rfl, by decide +kernel, ⟨by decide +kernel, by decide +kernel, by decide +kernel⟩, by decide⟩
theorem im_X11_look : Cond.instanceMethod mX11_look.1 ∈ lwT ∧ Cond.selects mX11_look.1.cls mX11_look.1 mX11_look.1 ∈ lwT := ⟨lwT_7 (i := 205) (by decide +kernel) rfl, lwT_7 (i := 206) (by decide +kernel) rfl⟩
def mJ6_bitCount_0f7a4 : MD := (yJ6_bitCount_0f7a4, cJ6_bitCount_0f7a4, 1, some .int)
theorem mw_J6_bitCount_0f7a4 : MW mJ6_bitCount_0f7a4 1 := ⟨lwT_4 (i := 46) (by decide +kernel) rfl, lwT_1 (i := 20) (by decide +kernel) rfl, by decide +kernel, ⟨by decide +kernel, by decide +kernel, by decide +kernel⟩, by decide⟩
theorem im_J6_bitCount_0f7a4 : Cond.static mJ6_bitCount_0f7a4.1 ∈ lwT := lwT_4 (i := 45) (by decide +kernel) rfl
def mJ13_bitCount_95d88 : MD := (yJ13_bitCount_95d88, cJ13_bitCount_95d88, 2, some .int)
theorem mw_J13_bitCount_95d88 : MW mJ13_bitCount_95d88 1 := ⟨lwT_4 (i := 102) (by decide +kernel) rfl, lwT_1 (i := 21) (by decide +kernel) rfl, by decide +kernel, ⟨by decide +kernel, by decide +kernel, by decide +kernel⟩, by decide⟩
theorem im_J13_bitCount_95d88 : Cond.static mJ13_bitCount_95d88.1 ∈ lwT := lwT_4 (i := 101) (by decide +kernel) rfl
def mJ7_fill_53178 : MD := (yJ7_fill_53178, cJ7_fill_53178, 4, none)
theorem mw_J7_fill_53178 : MW mJ7_fill_53178 2 := ⟨lwT_2 (i := 38) (by decide +kernel) rfl, lwT_1 (i := 10) (by decide +kernel) rfl, by decide +kernel, ⟨by decide +kernel, by decide +kernel, by decide +kernel⟩, by decide⟩
theorem im_J7_fill_53178 : Cond.static mJ7_fill_53178.1 ∈ lwT := lwT_2 (i := 37) (by decide +kernel) rfl
theorem fl_X0_27 : FL RX0 27 0 5 .int false := ⟨RX0, TX0, 6, tyX0, rfl, uw0, rfl, by decide, tyX0_ok, nmX0, lwT_1 (i := 123) (by decide +kernel) rfl, rfl, tyX0_ok 5 (by decide), rfl⟩
theorem fl_X0_9 : FL RX0 9 0 0 (.array .int) true := ⟨RX0, TX0, 6, tyX0, rfl, uw0, rfl, by decide, tyX0_ok, nmX0, lwT_1 (i := 113) (by decide +kernel) rfl, rfl, tyX0_ok 0 (by decide), rfl⟩
theorem fl_X0_15 : FL RX0 15 0 1 (.array .int) true := ⟨RX0, TX0, 6, tyX0, rfl, uw0, rfl, by decide, tyX0_ok, nmX0, lwT_1 (i := 115) (by decide +kernel) rfl, rfl, tyX0_ok 1 (by decide), rfl⟩
theorem fl_X0_18 : FL RX0 18 0 2 (.array .int) true := ⟨RX0, TX0, 6, tyX0, rfl, uw0, rfl, by decide, tyX0_ok, nmX0, lwT_1 (i := 117) (by decide +kernel) rfl, rfl, tyX0_ok 2 (by decide), rfl⟩
theorem fl_X0_21 : FL RX0 21 0 3 (.array .int) true := ⟨RX0, TX0, 6, tyX0, rfl, uw0, rfl, by decide, tyX0_ok, nmX0, lwT_1 (i := 119) (by decide +kernel) rfl, rfl, tyX0_ok 3 (by decide), rfl⟩
theorem fl_X0_24 : FL RX0 24 0 4 (.array .int) true := ⟨RX0, TX0, 6, tyX0, rfl, uw0, rfl, by decide, tyX0_ok, nmX0, lwT_1 (i := 121) (by decide +kernel) rfl, rfl, tyX0_ok 4 (by decide), rfl⟩
theorem ac_X0_31 : Cond.methodLink RX0 31 arraycopyName ∈ lwT := lwT_3 (i := 23) (by decide +kernel) rfl
theorem fl_X1_27 : FL RX1 27 1 5 .int false := ⟨RX1, TX1, 7, tyX1, rfl, uw1, rfl, by decide, tyX1_ok, nmX1, lwT_2 (i := 10) (by decide +kernel) rfl, rfl, tyX1_ok 5 (by decide), rfl⟩
theorem fl_X1_31 : FL RX1 31 1 6 .int false := ⟨RX1, TX1, 7, tyX1, rfl, uw1, rfl, by decide, tyX1_ok, nmX1, lwT_2 (i := 12) (by decide +kernel) rfl, rfl, tyX1_ok 6 (by decide), rfl⟩
theorem fl_X1_9 : FL RX1 9 1 0 (.array .int) true := ⟨RX1, TX1, 7, tyX1, rfl, uw1, rfl, by decide, tyX1_ok, nmX1, lwT_2 (i := 5) (by decide +kernel) rfl, rfl, tyX1_ok 0 (by decide), rfl⟩
theorem fl_X1_15 : FL RX1 15 1 1 (.array .int) true := ⟨RX1, TX1, 7, tyX1, rfl, uw1, rfl, by decide, tyX1_ok, nmX1, lwT_2 (i := 6) (by decide +kernel) rfl, rfl, tyX1_ok 1 (by decide), rfl⟩
theorem fl_X1_18 : FL RX1 18 1 2 (.array .int) true := ⟨RX1, TX1, 7, tyX1, rfl, uw1, rfl, by decide, tyX1_ok, nmX1, lwT_2 (i := 7) (by decide +kernel) rfl, rfl, tyX1_ok 2 (by decide), rfl⟩
theorem fl_X1_21 : FL RX1 21 1 3 (.array .int) true := ⟨RX1, TX1, 7, tyX1, rfl, uw1, rfl, by decide, tyX1_ok, nmX1, lwT_2 (i := 8) (by decide +kernel) rfl, rfl, tyX1_ok 3 (by decide), rfl⟩
theorem fl_X1_24 : FL RX1 24 1 4 (.array .int) true := ⟨RX1, TX1, 7, tyX1, rfl, uw1, rfl, by decide, tyX1_ok, nmX1, lwT_2 (i := 9) (by decide +kernel) rfl, rfl, tyX1_ok 4 (by decide), rfl⟩
theorem cs_X1_38 : CS RX1 38 mX1_joined 3 := ⟨mw_X1_joined, lwT_4 (i := 58) (by decide +kernel) rfl, im_X1_joined⟩
theorem cv_X1_34 : CV RX1 34 mX1_run 3 1 := ⟨mw_X1_run, lwT_4 (i := 54) (by decide +kernel) rfl, im_X1_run, ⟨by decide, rfl⟩⟩
theorem ac_X1_42 : Cond.methodLink RX1 42 arraycopyName ∈ lwT := lwT_3 (i := 218) (by decide +kernel) rfl
theorem fl_X2_25 : FL RX2 25 2 5 .int false := ⟨RX2, TX2, 6, tyX2, rfl, uw2, rfl, by decide, tyX2_ok, nmX2, lwT_1 (i := 90) (by decide +kernel) rfl, rfl, tyX2_ok 5 (by decide), rfl⟩
theorem fl_X2_7 : FL RX2 7 2 0 (.array .int) true := ⟨RX2, TX2, 6, tyX2, rfl, uw2, rfl, by decide, tyX2_ok, nmX2, lwT_1 (i := 75) (by decide +kernel) rfl, rfl, tyX2_ok 0 (by decide), rfl⟩
theorem cv_X2_29 : CV RX2 29 mX2_isFull 0 2 := ⟨mw_X2_isFull, lwT_3 (i := 36) (by decide +kernel) rfl, im_X2_isFull, ⟨by decide, rfl⟩⟩
theorem fl_X2_13 : FL RX2 13 2 1 (.array .int) true := ⟨RX2, TX2, 6, tyX2, rfl, uw2, rfl, by decide, tyX2_ok, nmX2, lwT_1 (i := 78) (by decide +kernel) rfl, rfl, tyX2_ok 1 (by decide), rfl⟩
theorem fl_X2_16 : FL RX2 16 2 2 (.array .int) true := ⟨RX2, TX2, 6, tyX2, rfl, uw2, rfl, by decide, tyX2_ok, nmX2, lwT_1 (i := 81) (by decide +kernel) rfl, rfl, tyX2_ok 2 (by decide), rfl⟩
theorem fl_X2_19 : FL RX2 19 2 3 (.array .int) true := ⟨RX2, TX2, 6, tyX2, rfl, uw2, rfl, by decide, tyX2_ok, nmX2, lwT_1 (i := 84) (by decide +kernel) rfl, rfl, tyX2_ok 3 (by decide), rfl⟩
theorem fl_X2_22 : FL RX2 22 2 4 (.array .int) true := ⟨RX2, TX2, 6, tyX2, rfl, uw2, rfl, by decide, tyX2_ok, nmX2, lwT_1 (i := 87) (by decide +kernel) rfl, rfl, tyX2_ok 4 (by decide), rfl⟩
theorem cv_X2_33 : CV RX2 33 mX2_has 1 2 := ⟨mw_X2_has, lwT_3 (i := 54) (by decide +kernel) rfl, im_X2_has, ⟨by decide, rfl⟩⟩
theorem ac_X2_37 : Cond.methodLink RX2 37 arraycopyName ∈ lwT := lwT_3 (i := 12) (by decide +kernel) rfl
theorem fl_X3_9 : FL RX3 9 3 0 (.array .int) true := ⟨RX3, TX3, 7, tyX3, rfl, uw3, rfl, by decide, tyX3_ok, nmX3, lwT_1 (i := 145) (by decide +kernel) rfl, rfl, tyX3_ok 0 (by decide), rfl⟩
theorem fl_X3_23 : FL RX3 23 3 2 (.object "NineCopies$Letters") true := ⟨RX3, TX3, 7, tyX3, rfl, uw3, rfl, by decide, tyX3_ok, nmX3, lwT_1 (i := 151) (by decide +kernel) rfl, rfl, tyX3_ok 2 (by decide), rfl⟩
theorem fl_X3_27 : FL RX3 27 2 5 .int false := ⟨RX2, TX2, 6, tyX2, rfl, uw2, rfl, by decide, tyX2_ok, nmX2, lwT_1 (i := 91) (by decide +kernel) rfl, rfl, tyX2_ok 5 (by decide), rfl⟩
theorem fl_X3_31 : FL RX3 31 3 3 .int false := ⟨RX3, TX3, 7, tyX3, rfl, uw3, rfl, by decide, tyX3_ok, nmX3, lwT_1 (i := 154) (by decide +kernel) rfl, rfl, tyX3_ok 3 (by decide), rfl⟩
theorem fl_X3_34 : FL RX3 34 3 4 .int false := ⟨RX3, TX3, 7, tyX3, rfl, uw3, rfl, by decide, tyX3_ok, nmX3, lwT_1 (i := 157) (by decide +kernel) rfl, rfl, tyX3_ok 4 (by decide), rfl⟩
theorem fl_X3_37 : FL RX3 37 3 5 .int false := ⟨RX3, TX3, 7, tyX3, rfl, uw3, rfl, by decide, tyX3_ok, nmX3, lwT_1 (i := 160) (by decide +kernel) rfl, rfl, tyX3_ok 5 (by decide), rfl⟩
theorem fl_X3_40 : FL RX3 40 3 6 .long false := ⟨RX3, TX3, 7, tyX3, rfl, uw3, rfl, by decide, tyX3_ok, nmX3, lwT_1 (i := 163) (by decide +kernel) rfl, rfl, tyX3_ok 6 (by decide), rfl⟩
theorem fl_X3_15 : FL RX3 15 3 1 (.array .int) true := ⟨RX3, TX3, 7, tyX3, rfl, uw3, rfl, by decide, tyX3_ok, nmX3, lwT_1 (i := 148) (by decide +kernel) rfl, rfl, tyX3_ok 1 (by decide), rfl⟩
theorem ac_X3_44 : Cond.methodLink RX3 44 arraycopyName ∈ lwT := lwT_3 (i := 5) (by decide +kernel) rfl
theorem cv_X3_50 : CV RX3 50 mX2_copyFrom 1 2 := ⟨mw_X2_copyFrom, lwT_3 (i := 8) (by decide +kernel) rfl, im_X2_copyFrom, ⟨by decide, rfl⟩⟩
theorem fl_X4_15 : FL RX4 15 4 1 .int false := ⟨RX4, TX4, 2, tyX4, rfl, uw4, rfl, by decide, tyX4_ok, nmX4, lwT_2 (i := 71) (by decide +kernel) rfl, rfl, tyX4_ok 1 (by decide), rfl⟩
theorem fl_X4_9 : FL RX4 9 4 0 (.array .int) true := ⟨RX4, TX4, 2, tyX4, rfl, uw4, rfl, by decide, tyX4_ok, nmX4, lwT_2 (i := 70) (by decide +kernel) rfl, rfl, tyX4_ok 0 (by decide), rfl⟩
theorem kc_J6_265 : Cond.constant RJ6 265 (1431655765) ∈ lwT := lwT_4 (i := 47) (by decide +kernel) rfl
theorem kc_J6_266 : Cond.constant RJ6 266 (858993459) ∈ lwT := lwT_4 (i := 48) (by decide +kernel) rfl
theorem kc_J6_267 : Cond.constant RJ6 267 (252645135) ∈ lwT := lwT_4 (i := 49) (by decide +kernel) rfl
theorem cs_X4_19 : CSN RX4 19 mX10_hasBit 2 := ⟨mw_X10_hasBit, ⟨"NineCopies", by decide +kernel⟩, im_X10_hasBit⟩
theorem fl_X4_27 : FL RX4 27 8 1 (.array .int) true := ⟨RX8, TX8, 5, tyX8, rfl, uw8, rfl, by decide, tyX8_ok, nmX8, lwT_1 (i := 48) (by decide +kernel) rfl, rfl, tyX8_ok 1 (by decide), rfl⟩
theorem cs_X4_32 : CS RX4 32 mJ6_bitCount_0f7a4 1 := ⟨mw_J6_bitCount_0f7a4, lwT_4 (i := 236) (by decide +kernel) rfl, im_J6_bitCount_0f7a4⟩
theorem mm_X4_38 : Cond.methodLink RX4 38 Lib.Math.min.name ∈ lwT := lwT_4 (i := 237) (by decide +kernel) rfl
theorem cv_X4_23 : CV RX4 23 mX4_nearness 3 4 := ⟨mw_X4_nearness, lwT_4 (i := 232) (by decide +kernel) rfl, im_X4_nearness, ⟨by decide, rfl⟩⟩
theorem ac_X4_44 : Cond.methodLink RX4 44 arraycopyName ∈ lwT := lwT_5 (i := 44) (by decide +kernel) rfl
theorem fl_X5_9 : FL RX5 9 5 0 (.array .int) true := ⟨RX5, TX5, 2, tyX5, rfl, uw5, rfl, by decide, tyX5_ok, nmX5, lwT_2 (i := 39) (by decide +kernel) rfl, rfl, tyX5_ok 0 (by decide), rfl⟩
theorem cs_X5_15 : CS RX5 15 mJ7_fill_53178 2 := ⟨mw_J7_fill_53178, lwT_2 (i := 36) (by decide +kernel) rfl, im_J7_fill_53178⟩
theorem fl_X5_21 : FL RX5 21 5 1 .int false := ⟨RX5, TX5, 2, tyX5, rfl, uw5, rfl, by decide, tyX5_ok, nmX5, lwT_2 (i := 40) (by decide +kernel) rfl, rfl, tyX5_ok 1 (by decide), rfl⟩
theorem ac_X5_25 : Cond.methodLink RX5 25 arraycopyName ∈ lwT := lwT_3 (i := 235) (by decide +kernel) rfl
theorem fl_X6_9 : FL RX6 9 6 0 (.array .int) true := ⟨RX6, TX6, 12, tyX6, rfl, uw6, rfl, by decide, tyX6_ok, nmX6, lwT_2 (i := 89) (by decide +kernel) rfl, rfl, tyX6_ok 0 (by decide), rfl⟩
theorem fl_X6_42 : FL RX6 42 6 1 .int false := ⟨RX6, TX6, 12, tyX6, rfl, uw6, rfl, by decide, tyX6_ok, nmX6, lwT_2 (i := 90) (by decide +kernel) rfl, rfl, tyX6_ok 1 (by decide), rfl⟩
theorem cv_X6_45 : CV RX6 45 mX6_appendNumber 1 6 := ⟨mw_X6_appendNumber, lwT_3 (i := 63) (by decide +kernel) rfl, im_X6_appendNumber, ⟨by decide, rfl⟩⟩
theorem cs_X6_72 : CS RX6 72 mX6_isLetter 1 := ⟨mw_X6_isLetter, lwT_3 (i := 87) (by decide +kernel) rfl, im_X6_isLetter⟩
theorem cs_X6_76 : CS RX6 76 mX6_isDigit 1 := ⟨mw_X6_isDigit, lwT_3 (i := 90) (by decide +kernel) rfl, im_X6_isDigit⟩
theorem sv_X6_90 : Cond.methodLink RX6 90 yJ0_charAt_5068e ∈ lwT := lwT_3 (i := 112) (by decide +kernel) rfl
theorem sv_X6_84 : Cond.methodLink RX6 84 yJ0_length_8abf5 ∈ lwT := lwT_3 (i := 102) (by decide +kernel) rfl
theorem cv_X6_94 : CV RX6 94 mX6_isSpelled 3 6 := ⟨mw_X6_isSpelled, lwT_3 (i := 150) (by decide +kernel) rfl, im_X6_isSpelled, ⟨by decide, rfl⟩⟩
theorem cv_X6_79 : CV RX6 79 mX6_wordBetween 2 6 := ⟨mw_X6_wordBetween, lwT_3 (i := 97) (by decide +kernel) rfl, im_X6_wordBetween, ⟨by decide, rfl⟩⟩
theorem fl_X6_58 : FL RX6 58 6 7 .int false := ⟨RX6, TX6, 12, tyX6, rfl, uw6, rfl, by decide, tyX6_ok, nmX6, lwT_2 (i := 99) (by decide +kernel) rfl, rfl, tyX6_ok 7 (by decide), rfl⟩
theorem cv_X6_61 : CV RX6 61 mX6_endOfToken 1 6 := ⟨mw_X6_endOfToken, lwT_3 (i := 83) (by decide +kernel) rfl, im_X6_endOfToken, ⟨by decide, rfl⟩⟩
theorem fl_X6_19 : FL RX6 19 6 4 (.array .int) true := ⟨RX6, TX6, 12, tyX6, rfl, uw6, rfl, by decide, tyX6_ok, nmX6, lwT_2 (i := 96) (by decide +kernel) rfl, rfl, tyX6_ok 4 (by decide), rfl⟩
theorem cv_X6_65 : CV RX6 65 mX6_kindOfToken 2 6 := ⟨mw_X6_kindOfToken, lwT_3 (i := 93) (by decide +kernel) rfl, im_X6_kindOfToken, ⟨by decide, rfl⟩⟩
theorem fl_X6_22 : FL RX6 22 6 5 (.array .int) true := ⟨RX6, TX6, 12, tyX6, rfl, uw6, rfl, by decide, tyX6_ok, nmX6, lwT_2 (i := 97) (by decide +kernel) rfl, rfl, tyX6_ok 5 (by decide), rfl⟩
theorem fl_X6_25 : FL RX6 25 6 6 (.array .int) true := ⟨RX6, TX6, 12, tyX6, rfl, uw6, rfl, by decide, tyX6_ok, nmX6, lwT_2 (i := 98) (by decide +kernel) rfl, rfl, tyX6_ok 6 (by decide), rfl⟩
theorem cv_X6_69 : CV RX6 69 mX6_valueOfDigits 2 6 := ⟨mw_X6_valueOfDigits, lwT_3 (i := 154) (by decide +kernel) rfl, im_X6_valueOfDigits, ⟨by decide, rfl⟩⟩
theorem fl_X6_49 : FL RX6 49 6 2 .int false := ⟨RX6, TX6, 12, tyX6, rfl, uw6, rfl, by decide, tyX6_ok, nmX6, lwT_2 (i := 92) (by decide +kernel) rfl, rfl, tyX6_ok 2 (by decide), rfl⟩
theorem fl_X6_15 : FL RX6 15 6 3 .int false := ⟨RX6, TX6, 12, tyX6, rfl, uw6, rfl, by decide, tyX6_ok, nmX6, lwT_2 (i := 94) (by decide +kernel) rfl, rfl, tyX6_ok 3 (by decide), rfl⟩
theorem fl_X6_52 : FL RX6 52 6 8 .int false := ⟨RX6, TX6, 12, tyX6, rfl, uw6, rfl, by decide, tyX6_ok, nmX6, lwT_2 (i := 100) (by decide +kernel) rfl, rfl, tyX6_ok 8 (by decide), rfl⟩
theorem cv_X6_55 : CV RX6 55 mX6_findTokens 0 6 := ⟨mw_X6_findTokens, lwT_3 (i := 79) (by decide +kernel) rfl, im_X6_findTokens, ⟨by decide, rfl⟩⟩
theorem cv_X6_117 : CV RX6 117 mX6_takes 1 6 := ⟨mw_X6_takes, lwT_3 (i := 174) (by decide +kernel) rfl, im_X6_takes, ⟨by decide, rfl⟩⟩
theorem cv_X6_107 : CV RX6 107 mX6_fail 1 6 := ⟨mw_X6_fail, lwT_3 (i := 166) (by decide +kernel) rfl, im_X6_fail, ⟨by decide, rfl⟩⟩
theorem fl_X6_101 : FL RX6 101 6 11 .int false := ⟨RX6, TX6, 12, tyX6, rfl, uw6, rfl, by decide, tyX6_ok, nmX6, lwT_2 (i := 103) (by decide +kernel) rfl, rfl, tyX6_ok 11 (by decide), rfl⟩
theorem fl_X6_31 : FL RX6 31 6 9 (.object "NineCopies$Law") true := ⟨RX6, TX6, 12, tyX6, rfl, uw6, rfl, by decide, tyX6_ok, nmX6, lwT_2 (i := 101) (by decide +kernel) rfl, rfl, tyX6_ok 9 (by decide), rfl⟩
theorem cv_X6_155 : CV RX6 155 mX1_add 1 1 := ⟨mw_X1_add, lwT_3 (i := 190) (by decide +kernel) rfl, im_X1_add, ⟨by decide, rfl⟩⟩
theorem cv_X6_152 : CV RX6 152 mX6_readUnit 0 6 := ⟨mw_X6_readUnit, lwT_3 (i := 186) (by decide +kernel) rfl, im_X6_readUnit, ⟨by decide, rfl⟩⟩
theorem cv_X6_132 : CV RX6 132 mX6_takeNumber 2 6 := ⟨mw_X6_takeNumber, lwT_3 (i := 198) (by decide +kernel) rfl, im_X6_takeNumber, ⟨by decide, rfl⟩⟩
theorem cv_X6_146 : CV RX6 146 mX6_addOperation 1 6 := ⟨mw_X6_addOperation, lwT_3 (i := 194) (by decide +kernel) rfl, im_X6_addOperation, ⟨by decide, rfl⟩⟩
theorem cv_X6_149 : CV RX6 149 mX6_readProduct 0 6 := ⟨mw_X6_readProduct, lwT_3 (i := 182) (by decide +kernel) rfl, im_X6_readProduct, ⟨by decide, rfl⟩⟩
theorem cv_X6_143 : CV RX6 143 mX6_readTest 1 6 := ⟨mw_X6_readTest, lwT_3 (i := 206) (by decide +kernel) rfl, im_X6_readTest, ⟨by decide, rfl⟩⟩
theorem cv_X6_98 : CV RX6 98 mX1_clear 0 1 := ⟨mw_X1_clear, lwT_3 (i := 162) (by decide +kernel) rfl, im_X1_clear, ⟨by decide, rfl⟩⟩
theorem cv_X6_110 : CV RX6 110 mX6_take 1 6 := ⟨mw_X6_take, lwT_3 (i := 170) (by decide +kernel) rfl, im_X6_take, ⟨by decide, rfl⟩⟩
theorem fl_X6_113 : FL RX6 113 1 5 .int false := ⟨RX1, TX1, 7, tyX1, rfl, uw1, rfl, by decide, tyX1_ok, nmX1, lwT_2 (i := 11) (by decide +kernel) rfl, rfl, tyX1_ok 5 (by decide), rfl⟩
theorem cv_X6_114 : CV RX6 114 mX6_readSum 0 6 := ⟨mw_X6_readSum, lwT_3 (i := 178) (by decide +kernel) rfl, im_X6_readSum, ⟨by decide, rfl⟩⟩
theorem cv_X6_123 : CV RX6 123 mX1_addLine 2 1 := ⟨mw_X1_addLine, lwT_3 (i := 210) (by decide +kernel) rfl, im_X1_addLine, ⟨by decide, rfl⟩⟩
theorem cv_X6_120 : CV RX6 120 mX6_readChoice 1 6 := ⟨mw_X6_readChoice, lwT_3 (i := 202) (by decide +kernel) rfl, im_X6_readChoice, ⟨by decide, rfl⟩⟩
theorem fl_X6_104 : FL RX6 104 1 6 .int false := ⟨RX1, TX1, 7, tyX1, rfl, uw1, rfl, by decide, tyX1_ok, nmX1, lwT_2 (i := 13) (by decide +kernel) rfl, rfl, tyX1_ok 6 (by decide), rfl⟩
theorem cv_X6_127 : CV RX6 127 mX1_copyFrom 1 1 := ⟨mw_X1_copyFrom, lwT_3 (i := 214) (by decide +kernel) rfl, im_X1_copyFrom, ⟨by decide, rfl⟩⟩
theorem fl_X6_38 : FL RX6 38 6 10 (.object "NineCopies$Post") true := ⟨RX6, TX6, 12, tyX6, rfl, uw6, rfl, by decide, tyX6_ok, nmX6, lwT_2 (i := 102) (by decide +kernel) rfl, rfl, tyX6_ok 10 (by decide), rfl⟩
theorem cv_X6_131 : CV RX6 131 mX5_clear 0 5 := ⟨mw_X5_clear, lwT_3 (i := 223) (by decide +kernel) rfl, im_X5_clear, ⟨by decide, rfl⟩⟩
theorem cv_X6_135 : CV RX6 135 mX5_add 3 5 := ⟨mw_X5_add, lwT_3 (i := 227) (by decide +kernel) rfl, im_X5_add, ⟨by decide, rfl⟩⟩
theorem cv_X6_139 : CV RX6 139 mX5_copyFrom 1 5 := ⟨mw_X5_copyFrom, lwT_3 (i := 231) (by decide +kernel) rfl, im_X5_copyFrom, ⟨by decide, rfl⟩⟩
theorem fl_X6_142 : FL RX6 142 5 1 .int false := ⟨RX5, TX5, 2, tyX5, rfl, uw5, rfl, by decide, tyX5_ok, nmX5, lwT_2 (i := 41) (by decide +kernel) rfl, rfl, tyX5_ok 1 (by decide), rfl⟩
theorem fl_X7_10 : FL RX7 10 7 0 (.object "NineCopies$Law") true := ⟨RX7, TX7, 3, tyX7, rfl, uw7, rfl, by decide, tyX7_ok, nmX7, lwT_2 (i := 48) (by decide +kernel) rfl, rfl, tyX7_ok 0 (by decide), rfl⟩
theorem cv_X7_26 : CV RX7 26 mX1_copyFrom 1 1 := ⟨mw_X1_copyFrom, lwT_5 (i := 38) (by decide +kernel) rfl, im_X1_copyFrom, ⟨by decide, rfl⟩⟩
theorem fl_X7_16 : FL RX7 16 7 1 (.object "NineCopies$Law") true := ⟨RX7, TX7, 3, tyX7, rfl, uw7, rfl, by decide, tyX7_ok, nmX7, lwT_2 (i := 51) (by decide +kernel) rfl, rfl, tyX7_ok 1 (by decide), rfl⟩
theorem fl_X7_22 : FL RX7 22 7 2 (.object "NineCopies$Post") true := ⟨RX7, TX7, 3, tyX7, rfl, uw7, rfl, by decide, tyX7_ok, nmX7, lwT_2 (i := 54) (by decide +kernel) rfl, rfl, tyX7_ok 2 (by decide), rfl⟩
theorem cv_X7_30 : CV RX7 30 mX5_copyFrom 1 5 := ⟨mw_X5_copyFrom, lwT_5 (i := 39) (by decide +kernel) rfl, im_X5_copyFrom, ⟨by decide, rfl⟩⟩
theorem fl_X8_24 : FL RX8 24 8 4 .int false := ⟨RX8, TX8, 5, tyX8, rfl, uw8, rfl, by decide, tyX8_ok, nmX8, lwT_1 (i := 55) (by decide +kernel) rfl, rfl, tyX8_ok 4 (by decide), rfl⟩
theorem cv_X8_28 : CV RX8 28 mX8_isFull 0 8 := ⟨mw_X8_isFull, lwT_2 (i := 220) (by decide +kernel) rfl, im_X8_isFull, ⟨by decide, rfl⟩⟩
theorem fl_X8_9 : FL RX8 9 8 0 (.array .int) true := ⟨RX8, TX8, 5, tyX8, rfl, uw8, rfl, by decide, tyX8_ok, nmX8, lwT_1 (i := 44) (by decide +kernel) rfl, rfl, tyX8_ok 0 (by decide), rfl⟩
theorem fl_X8_15 : FL RX8 15 8 1 (.array .int) true := ⟨RX8, TX8, 5, tyX8, rfl, uw8, rfl, by decide, tyX8_ok, nmX8, lwT_1 (i := 47) (by decide +kernel) rfl, rfl, tyX8_ok 1 (by decide), rfl⟩
theorem fl_X8_18 : FL RX8 18 8 2 (.array .int) true := ⟨RX8, TX8, 5, tyX8, rfl, uw8, rfl, by decide, tyX8_ok, nmX8, lwT_1 (i := 51) (by decide +kernel) rfl, rfl, tyX8_ok 2 (by decide), rfl⟩
theorem fl_X8_21 : FL RX8 21 8 3 (.array .int) true := ⟨RX8, TX8, 5, tyX8, rfl, uw8, rfl, by decide, tyX8_ok, nmX8, lwT_1 (i := 53) (by decide +kernel) rfl, rfl, tyX8_ok 3 (by decide), rfl⟩
theorem kc_J13_314 : Cond.constantLong RJ13 314 (6148914691236517205) ∈ lwT := lwT_4 (i := 103) (by decide +kernel) rfl
theorem kc_J13_316 : Cond.constantLong RJ13 316 (3689348814741910323) ∈ lwT := lwT_4 (i := 104) (by decide +kernel) rfl
theorem kc_J13_318 : Cond.constantLong RJ13 318 (1085102592571150095) ∈ lwT := lwT_4 (i := 105) (by decide +kernel) rfl
theorem cs_X8_32 : CS RX8 32 mJ13_bitCount_95d88 1 := ⟨mw_J13_bitCount_95d88, lwT_4 (i := 133) (by decide +kernel) rfl, im_J13_bitCount_95d88⟩
theorem ac_X8_38 : Cond.methodLink RX8 38 arraycopyName ∈ lwT := lwT_3 (i := 17) (by decide +kernel) rfl
theorem fl_X9_48 : FL RX9 48 9 1 .int false := ⟨RX9, TX9, 13, tyX9, rfl, uw9, rfl, by decide, tyX9_ok, nmX9, lwT_1 (i := 183) (by decide +kernel) rfl, rfl, tyX9_ok 1 (by decide), rfl⟩
theorem cv_X9_52 : CV RX9 52 mX9_hasPerson 1 9 := ⟨mw_X9_hasPerson, lwT_3 (i := 45) (by decide +kernel) rfl, im_X9_hasPerson, ⟨by decide, rfl⟩⟩
theorem fl_X9_11 : FL RX9 11 9 0 (.array (.object "NineCopies$Person")) true := ⟨RX9, TX9, 13, tyX9, rfl, uw9, rfl, by decide, tyX9_ok, nmX9, lwT_1 (i := 181) (by decide +kernel) rfl, rfl, tyX9_ok 0 (by decide), rfl⟩
theorem fl_X9_56 : FL RX9 56 3 2 (.object "NineCopies$Letters") true := ⟨RX3, TX3, 7, tyX3, rfl, uw3, rfl, by decide, tyX3_ok, nmX3, lwT_1 (i := 152) (by decide +kernel) rfl, rfl, tyX3_ok 2 (by decide), rfl⟩
theorem cv_X9_59 : CV RX9 59 mX2_has 1 2 := ⟨mw_X2_has, lwT_3 (i := 46) (by decide +kernel) rfl, im_X2_has, ⟨by decide, rfl⟩⟩
theorem cv_X9_62 : CV RX9 62 mX3_begin 3 3 := ⟨mw_X3_begin, lwT_2 (i := 192) (by decide +kernel) rfl, im_X3_begin, ⟨by decide, rfl⟩⟩
theorem fl_X9_66 : FL RX9 66 9 7 .int false := ⟨RX9, TX9, 13, tyX9, rfl, uw9, rfl, by decide, tyX9_ok, nmX9, lwT_1 (i := 195) (by decide +kernel) rfl, rfl, tyX9_ok 7 (by decide), rfl⟩
theorem fl_X9_40 : FL RX9 40 9 5 (.array .int) true := ⟨RX9, TX9, 13, tyX9, rfl, uw9, rfl, by decide, tyX9_ok, nmX9, lwT_1 (i := 191) (by decide +kernel) rfl, rfl, tyX9_ok 5 (by decide), rfl⟩
theorem cv_X9_69 : CV RX9 69 mX2_add 5 2 := ⟨mw_X2_add, lwT_3 (i := 32) (by decide +kernel) rfl, im_X2_add, ⟨by decide, rfl⟩⟩
theorem fl_X9_73 : FL RX9 73 3 6 .long false := ⟨RX3, TX3, 7, tyX3, rfl, uw3, rfl, by decide, tyX3_ok, nmX3, lwT_1 (i := 164) (by decide +kernel) rfl, rfl, tyX3_ok 6 (by decide), rfl⟩
theorem fl_X9_29 : FL RX9 29 9 3 (.object "NineCopies$Letters") true := ⟨RX9, TX9, 13, tyX9, rfl, uw9, rfl, by decide, tyX9_ok, nmX9, lwT_1 (i := 187) (by decide +kernel) rfl, rfl, tyX9_ok 3 (by decide), rfl⟩
theorem fl_X9_114 : FL RX9 114 2 1 (.array .int) true := ⟨RX2, TX2, 6, tyX2, rfl, uw2, rfl, by decide, tyX2_ok, nmX2, lwT_1 (i := 79) (by decide +kernel) rfl, rfl, tyX2_ok 1 (by decide), rfl⟩
theorem fl_X9_117 : FL RX9 117 2 2 (.array .int) true := ⟨RX2, TX2, 6, tyX2, rfl, uw2, rfl, by decide, tyX2_ok, nmX2, lwT_1 (i := 82) (by decide +kernel) rfl, rfl, tyX2_ok 2 (by decide), rfl⟩
theorem fl_X9_89 : FL RX9 89 3 0 (.array .int) true := ⟨RX3, TX3, 7, tyX3, rfl, uw3, rfl, by decide, tyX3_ok, nmX3, lwT_1 (i := 147) (by decide +kernel) rfl, rfl, tyX3_ok 0 (by decide), rfl⟩
theorem fl_X9_120 : FL RX9 120 3 5 .int false := ⟨RX3, TX3, 7, tyX3, rfl, uw3, rfl, by decide, tyX3_ok, nmX3, lwT_1 (i := 161) (by decide +kernel) rfl, rfl, tyX3_ok 5 (by decide), rfl⟩
theorem cs_X9_123 : CSN RX9 123 mX10_hasBit 2 := ⟨mw_X10_hasBit, ⟨"NineCopies", by decide +kernel⟩, im_X10_hasBit⟩
theorem cv_X9_127 : CV RX9 127 mX2_isFull 0 2 := ⟨mw_X2_isFull, lwT_4 (i := 20) (by decide +kernel) rfl, im_X2_isFull, ⟨by decide, rfl⟩⟩
theorem fl_X9_133 : FL RX9 133 2 0 (.array .int) true := ⟨RX2, TX2, 6, tyX2, rfl, uw2, rfl, by decide, tyX2_ok, nmX2, lwT_1 (i := 76) (by decide +kernel) rfl, rfl, tyX2_ok 0 (by decide), rfl⟩
theorem cv_X9_136 : CV RX9 136 mX9_give 3 9 := ⟨mw_X9_give, lwT_4 (i := 21) (by decide +kernel) rfl, im_X9_give, ⟨by decide, rfl⟩⟩
theorem fl_X9_36 : FL RX9 36 9 4 (.object "NineCopies$Book") true := ⟨RX9, TX9, 13, tyX9, rfl, uw9, rfl, by decide, tyX9_ok, nmX9, lwT_1 (i := 189) (by decide +kernel) rfl, rfl, tyX9_ok 4 (by decide), rfl⟩
theorem cv_X9_139 : CV RX9 139 mX0_add 5 0 := ⟨mw_X0_add, lwT_4 (i := 22) (by decide +kernel) rfl, im_X0_add, ⟨by decide, rfl⟩⟩
theorem fl_X9_130 : FL RX9 130 9 10 .int false := ⟨RX9, TX9, 13, tyX9, rfl, uw9, rfl, by decide, tyX9_ok, nmX9, lwT_1 (i := 201) (by decide +kernel) rfl, rfl, tyX9_ok 10 (by decide), rfl⟩
theorem fl_X9_102 : FL RX9 102 2 5 .int false := ⟨RX2, TX2, 6, tyX2, rfl, uw2, rfl, by decide, tyX2_ok, nmX2, lwT_1 (i := 92) (by decide +kernel) rfl, rfl, tyX2_ok 5 (by decide), rfl⟩
theorem fl_X9_105 : FL RX9 105 2 3 (.array .int) true := ⟨RX2, TX2, 6, tyX2, rfl, uw2, rfl, by decide, tyX2_ok, nmX2, lwT_1 (i := 85) (by decide +kernel) rfl, rfl, tyX2_ok 3 (by decide), rfl⟩
theorem cv_X9_107 : CV RX9 107 mX9_receive 1 9 := ⟨mw_X9_receive, lwT_4 (i := 13) (by decide +kernel) rfl, im_X9_receive, ⟨by decide, rfl⟩⟩
theorem cv_X9_111 : CV RX9 111 mX2_remove 1 2 := ⟨mw_X2_remove, lwT_4 (i := 26) (by decide +kernel) rfl, im_X2_remove, ⟨by decide, rfl⟩⟩
theorem fl_X9_44 : FL RX9 44 9 12 (.array .int) true := ⟨RX9, TX9, 13, tyX9, rfl, uw9, rfl, by decide, tyX9_ok, nmX9, lwT_1 (i := 205) (by decide +kernel) rfl, rfl, tyX9_ok 12 (by decide), rfl⟩
theorem fl_X9_20 : FL RX9 20 9 2 (.object "NineCopies$Versions") true := ⟨RX9, TX9, 13, tyX9, rfl, uw9, rfl, by decide, tyX9_ok, nmX9, lwT_1 (i := 185) (by decide +kernel) rfl, rfl, tyX9_ok 2 (by decide), rfl⟩
theorem fl_X9_191 : FL RX9 191 8 0 (.array .int) true := ⟨RX8, TX8, 5, tyX8, rfl, uw8, rfl, by decide, tyX8_ok, nmX8, lwT_1 (i := 45) (by decide +kernel) rfl, rfl, tyX8_ok 0 (by decide), rfl⟩
theorem fl_X9_140 : FL RX9 140 2 4 (.array .int) true := ⟨RX2, TX2, 6, tyX2, rfl, uw2, rfl, by decide, tyX2_ok, nmX2, lwT_1 (i := 88) (by decide +kernel) rfl, rfl, tyX2_ok 4 (by decide), rfl⟩
theorem fl_X9_197 : FL RX9 197 8 1 (.array .int) true := ⟨RX8, TX8, 5, tyX8, rfl, uw8, rfl, by decide, tyX8_ok, nmX8, lwT_1 (i := 49) (by decide +kernel) rfl, rfl, tyX8_ok 1 (by decide), rfl⟩
theorem cs_X9_227 : CS RX9 227 mJ6_bitCount_0f7a4 1 := ⟨mw_J6_bitCount_0f7a4, lwT_4 (i := 44) (by decide +kernel) rfl, im_J6_bitCount_0f7a4⟩
theorem mm_X10_354 : Cond.methodLink RX10 354 Lib.Math.min.name ∈ lwT := lwT_3 (i := 25) (by decide +kernel) rfl
theorem mm_X10_359 : Cond.methodLink RX10 359 Lib.Math.max.name ∈ lwT := lwT_4 (i := 64) (by decide +kernel) rfl
theorem cv_X9_214 : CV RX9 214 mX9_nameAll 2 9 := ⟨mw_X9_nameAll, lwT_4 (i := 40) (by decide +kernel) rfl, im_X9_nameAll, ⟨by decide, rfl⟩⟩
theorem cv_X9_218 : CV RX9 218 mX1_valueFor 2 1 := ⟨mw_X1_valueFor, lwT_4 (i := 50) (by decide +kernel) rfl, im_X1_valueFor, ⟨by decide, rfl⟩⟩
theorem cs_X9_224 : CSN RX9 224 mX10_heldTo 2 := ⟨mw_X10_heldTo, ⟨"NineCopies", by decide +kernel⟩, im_X10_heldTo⟩
theorem fl_X9_203 : FL RX9 203 9 6 .int false := ⟨RX9, TX9, 13, tyX9, rfl, uw9, rfl, by decide, tyX9_ok, nmX9, lwT_1 (i := 194) (by decide +kernel) rfl, rfl, tyX9_ok 6 (by decide), rfl⟩
theorem kc_X9_206 : Cond.constant RX9 206 (1664525) ∈ lwT := lwT_4 (i := 79) (by decide +kernel) rfl
theorem kc_X9_207 : Cond.constant RX9 207 (1013904223) ∈ lwT := lwT_4 (i := 80) (by decide +kernel) rfl
theorem cv_X9_187 : CV RX9 187 mX9_draw 1 9 := ⟨mw_X9_draw, lwT_4 (i := 75) (by decide +kernel) rfl, im_X9_draw, ⟨by decide, rfl⟩⟩
theorem cv_X9_190 : CV RX9 190 mX8_isFull 0 8 := ⟨mw_X8_isFull, lwT_4 (i := 81) (by decide +kernel) rfl, im_X8_isFull, ⟨by decide, rfl⟩⟩
theorem cv_X9_200 : CV RX9 200 mX8_add 4 8 := ⟨mw_X8_add, lwT_4 (i := 83) (by decide +kernel) rfl, im_X8_add, ⟨by decide, rfl⟩⟩
theorem mm_X9_194 : Cond.methodLink RX9 194 Lib.Math.max.name ∈ lwT := lwT_4 (i := 82) (by decide +kernel) rfl
theorem cv_X9_167 : CV RX9 167 mX9_versionOfCopy 2 9 := ⟨mw_X9_versionOfCopy, lwT_4 (i := 71) (by decide +kernel) rfl, im_X9_versionOfCopy, ⟨by decide, rfl⟩⟩
theorem fl_X9_170 : FL RX9 170 3 1 (.array .int) true := ⟨RX3, TX3, 7, tyX3, rfl, uw3, rfl, by decide, tyX3_ok, nmX3, lwT_1 (i := 150) (by decide +kernel) rfl, rfl, tyX3_ok 1 (by decide), rfl⟩
theorem fl_X9_173 : FL RX9 173 3 4 .int false := ⟨RX3, TX3, 7, tyX3, rfl, uw3, rfl, by decide, tyX3_ok, nmX3, lwT_1 (i := 159) (by decide +kernel) rfl, rfl, tyX3_ok 4 (by decide), rfl⟩
theorem cv_X9_176 : CV RX9 176 mX5_daysBetween 2 5 := ⟨mw_X5_daysBetween, lwT_4 (i := 84) (by decide +kernel) rfl, im_X5_daysBetween, ⟨by decide, rfl⟩⟩
theorem fl_X9_181 : FL RX9 181 3 3 .int false := ⟨RX3, TX3, 7, tyX3, rfl, uw3, rfl, by decide, tyX3_ok, nmX3, lwT_1 (i := 156) (by decide +kernel) rfl, rfl, tyX3_ok 3 (by decide), rfl⟩
theorem fl_X9_184 : FL RX9 184 9 11 .int false := ⟨RX9, TX9, 13, tyX9, rfl, uw9, rfl, by decide, tyX9_ok, nmX9, lwT_1 (i := 203) (by decide +kernel) rfl, rfl, tyX9_ok 11 (by decide), rfl⟩
theorem mm_X9_143 : Cond.methodLink RX9 143 Lib.Math.min.name ∈ lwT := lwT_4 (i := 35) (by decide +kernel) rfl
theorem fl_X9_149 : FL RX9 149 7 0 (.object "NineCopies$Law") true := ⟨RX7, TX7, 3, tyX7, rfl, uw7, rfl, by decide, tyX7_ok, nmX7, lwT_2 (i := 49) (by decide +kernel) rfl, rfl, tyX7_ok 0 (by decide), rfl⟩
theorem cv_X9_152 : CV RX9 152 mX9_copiesToWrite 3 9 := ⟨mw_X9_copiesToWrite, lwT_4 (i := 36) (by decide +kernel) rfl, im_X9_copiesToWrite, ⟨by decide, rfl⟩⟩
theorem fl_X9_156 : FL RX9 156 7 2 (.object "NineCopies$Post") true := ⟨RX7, TX7, 3, tyX7, rfl, uw7, rfl, by decide, tyX7_ok, nmX7, lwT_2 (i := 55) (by decide +kernel) rfl, rfl, tyX7_ok 2 (by decide), rfl⟩
theorem cv_X9_160 : CV RX9 160 mX9_sendCopy 3 9 := ⟨mw_X9_sendCopy, lwT_4 (i := 67) (by decide +kernel) rfl, im_X9_sendCopy, ⟨by decide, rfl⟩⟩
theorem fl_X9_164 : FL RX9 164 9 8 .int false := ⟨RX9, TX9, 13, tyX9, rfl, uw9, rfl, by decide, tyX9_ok, nmX9, lwT_1 (i := 197) (by decide +kernel) rfl, rfl, tyX9_ok 8 (by decide), rfl⟩
theorem cv_X9_208 : CV RX9 208 mX9_illLuck 3 9 := ⟨mw_X9_illLuck, lwT_4 (i := 92) (by decide +kernel) rfl, im_X9_illLuck, ⟨by decide, rfl⟩⟩
theorem fl_X9_211 : FL RX9 211 9 9 .int false := ⟨RX9, TX9, 13, tyX9, rfl, uw9, rfl, by decide, tyX9_ok, nmX9, lwT_1 (i := 199) (by decide +kernel) rfl, rfl, tyX9_ok 9 (by decide), rfl⟩
theorem cv_X9_81 : CV RX9 81 mX3_isWriting 0 3 := ⟨mw_X3_isWriting, lwT_4 (i := 27) (by decide +kernel) rfl, im_X3_isWriting, ⟨by decide, rfl⟩⟩
theorem cv_X9_85 : CV RX9 85 mX9_writeOut 2 9 := ⟨mw_X9_writeOut, lwT_4 (i := 31) (by decide +kernel) rfl, im_X9_writeOut, ⟨by decide, rfl⟩⟩
theorem fl_X9_92 : FL RX9 92 7 1 (.object "NineCopies$Law") true := ⟨RX7, TX7, 3, tyX7, rfl, uw7, rfl, by decide, tyX7_ok, nmX7, lwT_2 (i := 52) (by decide +kernel) rfl, rfl, tyX7_ok 1 (by decide), rfl⟩
theorem cv_X9_98 : CV RX9 98 mX9_curseDue 2 9 := ⟨mw_X9_curseDue, lwT_4 (i := 88) (by decide +kernel) rfl, im_X9_curseDue, ⟨by decide, rfl⟩⟩
theorem cv_X9_77 : CV RX9 77 mX9_bringPost 0 9 := ⟨mw_X9_bringPost, lwT_4 (i := 9) (by decide +kernel) rfl, im_X9_bringPost, ⟨by decide, rfl⟩⟩
theorem cv_X9_232 : CV RX9 232 mX3_rowSet 0 3 := ⟨mw_X3_rowSet, lwT_4 (i := 116) (by decide +kernel) rfl, im_X3_rowSet, ⟨by decide, rfl⟩⟩
theorem cv_X9_235 : CV RX9 235 mX9_countHeldWith 1 9 := ⟨mw_X9_countHeldWith, lwT_5 (i := 14) (by decide +kernel) rfl, im_X9_countHeldWith, ⟨by decide, rfl⟩⟩
theorem cv_X9_238 : CV RX9 238 mX3_passesOn 0 3 := ⟨mw_X3_passesOn, lwT_4 (i := 199) (by decide +kernel) rfl, im_X3_passesOn, ⟨by decide, rfl⟩⟩
theorem cv_X9_241 : CV RX9 241 mX3_copyFrom 1 3 := ⟨mw_X3_copyFrom, lwT_3 (i := 1) (by decide +kernel) rfl, im_X3_copyFrom, ⟨by decide, rfl⟩⟩
theorem cv_X9_245 : CV RX9 245 mX8_copyFrom 1 8 := ⟨mw_X8_copyFrom, lwT_3 (i := 13) (by decide +kernel) rfl, im_X8_copyFrom, ⟨by decide, rfl⟩⟩
theorem cv_X9_248 : CV RX9 248 mX2_copyFrom 1 2 := ⟨mw_X2_copyFrom, lwT_3 (i := 18) (by decide +kernel) rfl, im_X2_copyFrom, ⟨by decide, rfl⟩⟩
theorem cv_X9_251 : CV RX9 251 mX0_copyFrom 1 0 := ⟨mw_X0_copyFrom, lwT_3 (i := 19) (by decide +kernel) rfl, im_X0_copyFrom, ⟨by decide, rfl⟩⟩
theorem ac_X9_254 : Cond.methodLink RX9 254 arraycopyName ∈ lwT := lwT_3 (i := 24) (by decide +kernel) rfl
theorem fl_X10_309 : FL RX10 309 10 8 .int false := ⟨RX10, TX10, 13, tyX10, rfl, uw10, rfl, by decide, tyX10_ok, nmX10, lwT_2 (i := 137) (by decide +kernel) rfl, rfl, tyX10_ok 8 (by decide), rfl⟩
theorem fl_X10_12 : FL RX10 12 10 0 (.object "NineCopies$World") true := ⟨RX10, TX10, 13, tyX10, rfl, uw10, rfl, by decide, tyX10_ok, nmX10, lwT_2 (i := 129) (by decide +kernel) rfl, rfl, tyX10_ok 0 (by decide), rfl⟩
theorem fl_X10_57 : FL RX10 57 9 6 .int false := ⟨RX9, TX9, 13, tyX9, rfl, uw9, rfl, by decide, tyX9_ok, nmX9, lwT_1 (i := 193) (by decide +kernel) rfl, rfl, tyX9_ok 6 (by decide), rfl⟩
theorem cv_X10_61 : CV RX10 61 mX10_forgetBefore 0 10 := ⟨mw_X10_forgetBefore, lwT_2 (i := 173) (by decide +kernel) rfl, im_X10_forgetBefore, ⟨by decide, rfl⟩⟩
theorem gs_X10_348 : Cond.fieldLink RX10 348 "NineCopies" "LEAST_TOLD" "[I" ∈ lwT := lwT_2 (i := 184) (by decide +kernel) rfl
theorem gs_X10_351 : Cond.fieldLink RX10 351 "NineCopies" "MOST_TOLD" "[I" ∈ lwT := lwT_2 (i := 186) (by decide +kernel) rfl
theorem cs_X10_64 : CS RX10 64 mX10_canBeTold 2 := ⟨mw_X10_canBeTold, lwT_2 (i := 181) (by decide +kernel) rfl, im_X10_canBeTold⟩
theorem fl_X10_68 : FL RX10 68 9 1 .int false := ⟨RX9, TX9, 13, tyX9, rfl, uw9, rfl, by decide, tyX9_ok, nmX9, lwT_1 (i := 184) (by decide +kernel) rfl, rfl, tyX9_ok 1 (by decide), rfl⟩
theorem cv_X10_71 : CV RX10 71 mX9_addPerson 3 9 := ⟨mw_X9_addPerson, lwT_2 (i := 188) (by decide +kernel) rfl, im_X9_addPerson, ⟨by decide, rfl⟩⟩
theorem cv_X10_78 : CV RX10 78 mX9_hasPerson 1 9 := ⟨mw_X9_hasPerson, lwT_2 (i := 200) (by decide +kernel) rfl, im_X9_hasPerson, ⟨by decide, rfl⟩⟩
theorem fl_X10_82 : FL RX10 82 9 0 (.array (.object "NineCopies$Person")) true := ⟨RX9, TX9, 13, tyX9, rfl, uw9, rfl, by decide, tyX9_ok, nmX9, lwT_1 (i := 182) (by decide +kernel) rfl, rfl, tyX9_ok 0 (by decide), rfl⟩
theorem fl_X10_86 : FL RX10 86 3 0 (.array .int) true := ⟨RX3, TX3, 7, tyX3, rfl, uw3, rfl, by decide, tyX3_ok, nmX3, lwT_1 (i := 146) (by decide +kernel) rfl, rfl, tyX3_ok 0 (by decide), rfl⟩
theorem fl_X10_75 : FL RX10 75 9 5 (.array .int) true := ⟨RX9, TX9, 13, tyX9, rfl, uw9, rfl, by decide, tyX9_ok, nmX9, lwT_1 (i := 192) (by decide +kernel) rfl, rfl, tyX9_ok 5 (by decide), rfl⟩
theorem fl_X10_91 : FL RX10 91 3 3 .int false := ⟨RX3, TX3, 7, tyX3, rfl, uw3, rfl, by decide, tyX3_ok, nmX3, lwT_1 (i := 155) (by decide +kernel) rfl, rfl, tyX3_ok 3 (by decide), rfl⟩
theorem fl_X10_97 : FL RX10 97 3 1 (.array .int) true := ⟨RX3, TX3, 7, tyX3, rfl, uw3, rfl, by decide, tyX3_ok, nmX3, lwT_1 (i := 149) (by decide +kernel) rfl, rfl, tyX3_ok 1 (by decide), rfl⟩
theorem fl_X10_94 : FL RX10 94 3 4 .int false := ⟨RX3, TX3, 7, tyX3, rfl, uw3, rfl, by decide, tyX3_ok, nmX3, lwT_1 (i := 158) (by decide +kernel) rfl, rfl, tyX3_ok 4 (by decide), rfl⟩
theorem fl_X10_100 : FL RX10 100 9 2 (.object "NineCopies$Versions") true := ⟨RX9, TX9, 13, tyX9, rfl, uw9, rfl, by decide, tyX9_ok, nmX9, lwT_1 (i := 186) (by decide +kernel) rfl, rfl, tyX9_ok 2 (by decide), rfl⟩
theorem cv_X10_104 : CV RX10 104 mX8_isFull 0 8 := ⟨mw_X8_isFull, lwT_2 (i := 212) (by decide +kernel) rfl, im_X8_isFull, ⟨by decide, rfl⟩⟩
theorem cv_X10_110 : CV RX10 110 mX8_add 4 8 := ⟨mw_X8_add, lwT_2 (i := 216) (by decide +kernel) rfl, im_X8_add, ⟨by decide, rfl⟩⟩
theorem fl_X10_39 : FL RX10 39 10 7 (.array (.object "NineCopies$World")) true := ⟨RX10, TX10, 13, tyX10, rfl, uw10, rfl, by decide, tyX10_ok, nmX10, lwT_2 (i := 136) (by decide +kernel) rfl, rfl, tyX10_ok 7 (by decide), rfl⟩
theorem fl_X10_312 : FL RX10 312 10 9 .int false := ⟨RX10, TX10, 13, tyX10, rfl, uw10, rfl, by decide, tyX10_ok, nmX10, lwT_2 (i := 138) (by decide +kernel) rfl, rfl, tyX10_ok 9 (by decide), rfl⟩
theorem cv_X10_315 : CV RX10 315 mX9_copyFrom 1 9 := ⟨mw_X9_copyFrom, lwT_2 (i := 237) (by decide +kernel) rfl, im_X9_copyFrom, ⟨by decide, rfl⟩⟩
theorem cv_X10_114 : CV RX10 114 mX8_has 1 8 := ⟨mw_X8_has, lwT_2 (i := 225) (by decide +kernel) rfl, im_X8_has, ⟨by decide, rfl⟩⟩
theorem fl_X10_117 : FL RX10 117 3 2 (.object "NineCopies$Letters") true := ⟨RX3, TX3, 7, tyX3, rfl, uw3, rfl, by decide, tyX3_ok, nmX3, lwT_1 (i := 153) (by decide +kernel) rfl, rfl, tyX3_ok 2 (by decide), rfl⟩
theorem cv_X10_121 : CV RX10 121 mX2_isFull 0 2 := ⟨mw_X2_isFull, lwT_2 (i := 229) (by decide +kernel) rfl, im_X2_isFull, ⟨by decide, rfl⟩⟩
theorem cv_X10_124 : CV RX10 124 mX10_keepBefore 0 10 := ⟨mw_X10_keepBefore, lwT_2 (i := 233) (by decide +kernel) rfl, im_X10_keepBefore, ⟨by decide, rfl⟩⟩
theorem cv_X10_127 : CV RX10 127 mX9_give 3 9 := ⟨mw_X9_give, lwT_3 (i := 28) (by decide +kernel) rfl, im_X9_give, ⟨by decide, rfl⟩⟩
theorem cv_X10_131 : CV RX10 131 mX9_hasLetter 2 9 := ⟨mw_X9_hasLetter, lwT_3 (i := 41) (by decide +kernel) rfl, im_X9_hasLetter, ⟨by decide, rfl⟩⟩
theorem cv_X10_134 : CV RX10 134 mX2_remove 1 2 := ⟨mw_X2_remove, lwT_3 (i := 50) (by decide +kernel) rfl, im_X2_remove, ⟨by decide, rfl⟩⟩
theorem fl_X10_53 : FL RX10 53 10 12 (.object "NineCopies$Reader") true := ⟨RX10, TX10, 13, tyX10, rfl, uw10, rfl, by decide, tyX10_ok, nmX10, lwT_2 (i := 141) (by decide +kernel) rfl, rfl, tyX10_ok 12 (by decide), rfl⟩
theorem cv_X10_138 : CV RX10 138 mX6_append 5 6 := ⟨mw_X6_append, lwT_3 (i := 59) (by decide +kernel) rfl, im_X6_append, ⟨by decide, rfl⟩⟩
theorem fl_X10_142 : FL RX10 142 6 1 .int false := ⟨RX6, TX6, 12, tyX6, rfl, uw6, rfl, by decide, tyX6_ok, nmX6, lwT_2 (i := 91) (by decide +kernel) rfl, rfl, tyX6_ok 1 (by decide), rfl⟩
theorem cv_X10_145 : CV RX10 145 mX6_begin 0 6 := ⟨mw_X6_begin, lwT_3 (i := 75) (by decide +kernel) rfl, im_X6_begin, ⟨by decide, rfl⟩⟩
theorem fl_X10_19 : FL RX10 19 10 1 (.object "NineCopies$Texts") true := ⟨RX10, TX10, 13, tyX10, rfl, uw10, rfl, by decide, tyX10_ok, nmX10, lwT_2 (i := 130) (by decide +kernel) rfl, rfl, tyX10_ok 1 (by decide), rfl⟩
theorem fl_X10_159 : FL RX10 159 7 2 (.object "NineCopies$Post") true := ⟨RX7, TX7, 3, tyX7, rfl, uw7, rfl, by decide, tyX7_ok, nmX7, lwT_2 (i := 56) (by decide +kernel) rfl, rfl, tyX7_ok 2 (by decide), rfl⟩
theorem cv_X10_163 : CV RX10 163 mX6_readPost 1 6 := ⟨mw_X6_readPost, lwT_3 (i := 219) (by decide +kernel) rfl, im_X6_readPost, ⟨by decide, rfl⟩⟩
theorem fl_X10_156 : FL RX10 156 7 1 (.object "NineCopies$Law") true := ⟨RX7, TX7, 3, tyX7, rfl, uw7, rfl, by decide, tyX7_ok, nmX7, lwT_2 (i := 53) (by decide +kernel) rfl, rfl, tyX7_ok 1 (by decide), rfl⟩
theorem cv_X10_152 : CV RX10 152 mX6_readLaw 3 6 := ⟨mw_X6_readLaw, lwT_3 (i := 158) (by decide +kernel) rfl, im_X6_readLaw, ⟨by decide, rfl⟩⟩
theorem fl_X10_148 : FL RX10 148 7 0 (.object "NineCopies$Law") true := ⟨RX7, TX7, 3, tyX7, rfl, uw7, rfl, by decide, tyX7_ok, nmX7, lwT_2 (i := 50) (by decide +kernel) rfl, rfl, tyX7_ok 0 (by decide), rfl⟩
theorem fl_X10_167 : FL RX10 167 6 2 .int false := ⟨RX6, TX6, 12, tyX6, rfl, uw6, rfl, by decide, tyX6_ok, nmX6, lwT_2 (i := 93) (by decide +kernel) rfl, rfl, tyX6_ok 2 (by decide), rfl⟩
theorem fl_X10_170 : FL RX10 170 6 3 .int false := ⟨RX6, TX6, 12, tyX6, rfl, uw6, rfl, by decide, tyX6_ok, nmX6, lwT_2 (i := 95) (by decide +kernel) rfl, rfl, tyX6_ok 3 (by decide), rfl⟩
theorem fl_X10_173 : FL RX10 173 9 7 .int false := ⟨RX9, TX9, 13, tyX9, rfl, uw9, rfl, by decide, tyX9_ok, nmX9, lwT_1 (i := 196) (by decide +kernel) rfl, rfl, tyX9_ok 7 (by decide), rfl⟩
theorem cv_X10_176 : CV RX10 176 mX9_passDay 1 9 := ⟨mw_X9_passDay, lwT_4 (i := 5) (by decide +kernel) rfl, im_X9_passDay, ⟨by decide, rfl⟩⟩
theorem fl_X10_180 : FL RX10 180 2 5 .int false := ⟨RX2, TX2, 6, tyX2, rfl, uw2, rfl, by decide, tyX2_ok, nmX2, lwT_1 (i := 93) (by decide +kernel) rfl, rfl, tyX2_ok 5 (by decide), rfl⟩
theorem fl_X10_183 : FL RX10 183 3 6 .long false := ⟨RX3, TX3, 7, tyX3, rfl, uw3, rfl, by decide, tyX3_ok, nmX3, lwT_1 (i := 165) (by decide +kernel) rfl, rfl, tyX3_ok 6 (by decide), rfl⟩
theorem cs_X10_187 : CS RX10 187 mJ13_bitCount_95d88 1 := ⟨mw_J13_bitCount_95d88, lwT_4 (i := 100) (by decide +kernel) rfl, im_J13_bitCount_95d88⟩
theorem fl_X10_193 : FL RX10 193 3 5 .int false := ⟨RX3, TX3, 7, tyX3, rfl, uw3, rfl, by decide, tyX3_ok, nmX3, lwT_1 (i := 162) (by decide +kernel) rfl, rfl, tyX3_ok 5 (by decide), rfl⟩
theorem fl_X10_196 : FL RX10 196 2 0 (.array .int) true := ⟨RX2, TX2, 6, tyX2, rfl, uw2, rfl, by decide, tyX2_ok, nmX2, lwT_1 (i := 77) (by decide +kernel) rfl, rfl, tyX2_ok 0 (by decide), rfl⟩
theorem fl_X10_199 : FL RX10 199 2 1 (.array .int) true := ⟨RX2, TX2, 6, tyX2, rfl, uw2, rfl, by decide, tyX2_ok, nmX2, lwT_1 (i := 80) (by decide +kernel) rfl, rfl, tyX2_ok 1 (by decide), rfl⟩
theorem fl_X10_202 : FL RX10 202 2 3 (.array .int) true := ⟨RX2, TX2, 6, tyX2, rfl, uw2, rfl, by decide, tyX2_ok, nmX2, lwT_1 (i := 86) (by decide +kernel) rfl, rfl, tyX2_ok 3 (by decide), rfl⟩
theorem fl_X10_204 : FL RX10 204 2 4 (.array .int) true := ⟨RX2, TX2, 6, tyX2, rfl, uw2, rfl, by decide, tyX2_ok, nmX2, lwT_1 (i := 89) (by decide +kernel) rfl, rfl, tyX2_ok 4 (by decide), rfl⟩
theorem cv_X10_207 : CV RX10 207 mX9_copiesToWrite 3 9 := ⟨mw_X9_copiesToWrite, lwT_4 (i := 110) (by decide +kernel) rfl, im_X9_copiesToWrite, ⟨by decide, rfl⟩⟩
theorem cv_X10_211 : CV RX10 211 mX9_illLuck 3 9 := ⟨mw_X9_illLuck, lwT_4 (i := 111) (by decide +kernel) rfl, im_X9_illLuck, ⟨by decide, rfl⟩⟩
theorem cv_X10_214 : CV RX10 214 mX9_leastStamps 3 9 := ⟨mw_X9_leastStamps, lwT_4 (i := 112) (by decide +kernel) rfl, im_X9_leastStamps, ⟨by decide, rfl⟩⟩
theorem fl_X10_218 : FL RX10 218 9 3 (.object "NineCopies$Letters") true := ⟨RX9, TX9, 13, tyX9, rfl, uw9, rfl, by decide, tyX9_ok, nmX9, lwT_1 (i := 188) (by decide +kernel) rfl, rfl, tyX9_ok 3 (by decide), rfl⟩
theorem cv_X10_221 : CV RX10 221 mX2_has 1 2 := ⟨mw_X2_has, lwT_4 (i := 124) (by decide +kernel) rfl, im_X2_has, ⟨by decide, rfl⟩⟩
theorem fl_X10_222 : FL RX10 222 2 2 (.array .int) true := ⟨RX2, TX2, 6, tyX2, rfl, uw2, rfl, by decide, tyX2_ok, nmX2, lwT_1 (i := 83) (by decide +kernel) rfl, rfl, tyX2_ok 2 (by decide), rfl⟩
theorem fl_X10_225 : FL RX10 225 8 0 (.array .int) true := ⟨RX8, TX8, 5, tyX8, rfl, uw8, rfl, by decide, tyX8_ok, nmX8, lwT_1 (i := 46) (by decide +kernel) rfl, rfl, tyX8_ok 0 (by decide), rfl⟩
theorem fl_X10_228 : FL RX10 228 8 1 (.array .int) true := ⟨RX8, TX8, 5, tyX8, rfl, uw8, rfl, by decide, tyX8_ok, nmX8, lwT_1 (i := 50) (by decide +kernel) rfl, rfl, tyX8_ok 1 (by decide), rfl⟩
theorem fl_X10_231 : FL RX10 231 8 2 (.array .int) true := ⟨RX8, TX8, 5, tyX8, rfl, uw8, rfl, by decide, tyX8_ok, nmX8, lwT_1 (i := 52) (by decide +kernel) rfl, rfl, tyX8_ok 2 (by decide), rfl⟩
theorem fl_X10_234 : FL RX10 234 8 3 (.array .int) true := ⟨RX8, TX8, 5, tyX8, rfl, uw8, rfl, by decide, tyX8_ok, nmX8, lwT_1 (i := 54) (by decide +kernel) rfl, rfl, tyX8_ok 3 (by decide), rfl⟩
theorem cv_X10_237 : CV RX10 237 mX8_countChildren 1 8 := ⟨mw_X8_countChildren, lwT_4 (i := 129) (by decide +kernel) rfl, im_X8_countChildren, ⟨by decide, rfl⟩⟩
theorem cv_X10_241 : CV RX10 241 mX9_countLettersOf 1 9 := ⟨mw_X9_countLettersOf, lwT_4 (i := 134) (by decide +kernel) rfl, im_X9_countLettersOf, ⟨by decide, rfl⟩⟩
theorem cv_X10_244 : CV RX10 244 mX9_isKnown 1 9 := ⟨mw_X9_isKnown, lwT_4 (i := 138) (by decide +kernel) rfl, im_X9_isKnown, ⟨by decide, rfl⟩⟩
theorem cv_X10_247 : CV RX10 247 mX5_daysBetween 2 5 := ⟨mw_X5_daysBetween, lwT_4 (i := 146) (by decide +kernel) rfl, im_X5_daysBetween, ⟨by decide, rfl⟩⟩
theorem fl_X10_253 : FL RX10 253 9 4 (.object "NineCopies$Book") true := ⟨RX9, TX9, 13, tyX9, rfl, uw9, rfl, by decide, tyX9_ok, nmX9, lwT_1 (i := 190) (by decide +kernel) rfl, rfl, tyX9_ok 4 (by decide), rfl⟩
theorem fl_X10_257 : FL RX10 257 0 5 .int false := ⟨RX0, TX0, 6, tyX0, rfl, uw0, rfl, by decide, tyX0_ok, nmX0, lwT_1 (i := 124) (by decide +kernel) rfl, rfl, tyX0_ok 5 (by decide), rfl⟩
theorem fl_X10_260 : FL RX10 260 0 0 (.array .int) true := ⟨RX0, TX0, 6, tyX0, rfl, uw0, rfl, by decide, tyX0_ok, nmX0, lwT_1 (i := 114) (by decide +kernel) rfl, rfl, tyX0_ok 0 (by decide), rfl⟩
theorem fl_X10_261 : FL RX10 261 0 1 (.array .int) true := ⟨RX0, TX0, 6, tyX0, rfl, uw0, rfl, by decide, tyX0_ok, nmX0, lwT_1 (i := 116) (by decide +kernel) rfl, rfl, tyX0_ok 1 (by decide), rfl⟩
theorem fl_X10_262 : FL RX10 262 0 2 (.array .int) true := ⟨RX0, TX0, 6, tyX0, rfl, uw0, rfl, by decide, tyX0_ok, nmX0, lwT_1 (i := 118) (by decide +kernel) rfl, rfl, tyX0_ok 2 (by decide), rfl⟩
theorem fl_X10_263 : FL RX10 263 0 3 (.array .int) true := ⟨RX0, TX0, 6, tyX0, rfl, uw0, rfl, by decide, tyX0_ok, nmX0, lwT_1 (i := 120) (by decide +kernel) rfl, rfl, tyX0_ok 3 (by decide), rfl⟩
theorem fl_X10_264 : FL RX10 264 0 4 (.array .int) true := ⟨RX0, TX0, 6, tyX0, rfl, uw0, rfl, by decide, tyX0_ok, nmX0, lwT_1 (i := 122) (by decide +kernel) rfl, rfl, tyX0_ok 4 (by decide), rfl⟩
theorem fl_X10_43 : FL RX10 43 10 10 (.object "NineCopies$World") true := ⟨RX10, TX10, 13, tyX10, rfl, uw10, rfl, by decide, tyX10_ok, nmX10, lwT_2 (i := 139) (by decide +kernel) rfl, rfl, tyX10_ok 10 (by decide), rfl⟩
theorem cv_X10_273 : CV RX10 273 mX10_beginThought 0 10 := ⟨mw_X10_beginThought, lwT_4 (i := 159) (by decide +kernel) rfl, im_X10_beginThought, ⟨by decide, rfl⟩⟩
theorem cv_X10_267 : CV RX10 267 mX10_thinkAhead 1 10 := ⟨mw_X10_thinkAhead, lwT_4 (i := 155) (by decide +kernel) rfl, im_X10_thinkAhead, ⟨by decide, rfl⟩⟩
theorem cv_X10_270 : CV RX10 270 mX9_countHeld 1 9 := ⟨mw_X9_countHeld, lwT_4 (i := 163) (by decide +kernel) rfl, im_X9_countHeld, ⟨by decide, rfl⟩⟩
theorem cv_X10_276 : CV RX10 276 mX9_isOver 0 9 := ⟨mw_X9_isOver, lwT_4 (i := 171) (by decide +kernel) rfl, im_X9_isOver, ⟨by decide, rfl⟩⟩
theorem cs_X10_368 : CS RX10 368 mJ6_bitCount_0f7a4 1 := ⟨mw_J6_bitCount_0f7a4, lwT_4 (i := 187) (by decide +kernel) rfl, im_J6_bitCount_0f7a4⟩
theorem cs_X10_288 : CS RX10 288 mX10_hasBit 2 := ⟨mw_X10_hasBit, lwT_4 (i := 183) (by decide +kernel) rfl, im_X10_hasBit⟩
theorem fl_X10_46 : FL RX10 46 10 11 (.array .int) true := ⟨RX10, TX10, 13, tyX10, rfl, uw10, rfl, by decide, tyX10_ok, nmX10, lwT_2 (i := 140) (by decide +kernel) rfl, rfl, tyX10_ok 11 (by decide), rfl⟩
theorem cs_X10_362 : CS RX10 362 mX10_writerSlot 1 := ⟨mw_X10_writerSlot, lwT_4 (i := 184) (by decide +kernel) rfl, im_X10_writerSlot⟩
theorem fl_X10_365 : FL RX10 365 9 11 .int false := ⟨RX9, TX9, 13, tyX9, rfl, uw9, rfl, by decide, tyX9_ok, nmX9, lwT_1 (i := 204) (by decide +kernel) rfl, rfl, tyX9_ok 11 (by decide), rfl⟩
theorem cv_X10_279 : CV RX10 279 mX10_endsWithout 2 10 := ⟨mw_X10_endsWithout, lwT_4 (i := 179) (by decide +kernel) rfl, im_X10_endsWithout, ⟨by decide, rfl⟩⟩
theorem cs_X10_282 : CS RX10 282 mX10_setBehind 2 := ⟨mw_X10_setBehind, lwT_4 (i := 188) (by decide +kernel) rfl, im_X10_setBehind⟩
theorem cv_X10_285 : CV RX10 285 mX9_reachedFrom 2 9 := ⟨mw_X9_reachedFrom, lwT_4 (i := 195) (by decide +kernel) rfl, im_X9_reachedFrom, ⟨by decide, rfl⟩⟩
theorem fl_X10_26 : FL RX10 26 10 2 (.object "NineCopies$Picks") true := ⟨RX10, TX10, 13, tyX10, rfl, uw10, rfl, by decide, tyX10_ok, nmX10, lwT_2 (i := 131) (by decide +kernel) rfl, rfl, tyX10_ok 2 (by decide), rfl⟩
theorem cv_X10_292 : CV RX10 292 mX4_canTake 1 4 := ⟨mw_X4_canTake, lwT_4 (i := 215) (by decide +kernel) rfl, im_X4_canTake, ⟨by decide, rfl⟩⟩
theorem cv_X10_295 : CV RX10 295 mX4_take 1 4 := ⟨mw_X4_take, lwT_4 (i := 219) (by decide +kernel) rfl, im_X4_take, ⟨by decide, rfl⟩⟩
theorem fl_X10_291 : FL RX10 291 4 1 .int false := ⟨RX4, TX4, 2, tyX4, rfl, uw4, rfl, by decide, tyX4_ok, nmX4, lwT_2 (i := 72) (by decide +kernel) rfl, rfl, tyX4_ok 1 (by decide), rfl⟩
theorem cv_X10_298 : CV RX10 298 mX4_leastJoin 1 4 := ⟨mw_X4_leastJoin, lwT_4 (i := 227) (by decide +kernel) rfl, im_X4_leastJoin, ⟨by decide, rfl⟩⟩
theorem cv_X10_302 : CV RX10 302 mX8_commonForebear 2 8 := ⟨mw_X8_commonForebear, lwT_5 (i := 2) (by decide +kernel) rfl, im_X8_commonForebear, ⟨by decide, rfl⟩⟩
theorem cv_X10_305 : CV RX10 305 mX9_commonestCurse 0 9 := ⟨mw_X9_commonestCurse, lwT_5 (i := 10) (by decide +kernel) rfl, im_X9_commonestCurse, ⟨by decide, rfl⟩⟩
theorem fl_X10_319 : FL RX10 319 8 4 .int false := ⟨RX8, TX8, 5, tyX8, rfl, uw8, rfl, by decide, tyX8_ok, nmX8, lwT_1 (i := 56) (by decide +kernel) rfl, rfl, tyX8_ok 4 (by decide), rfl⟩
theorem cv_X10_320 : CV RX10 320 mX4_keepBelow 1 4 := ⟨mw_X4_keepBelow, lwT_5 (i := 26) (by decide +kernel) rfl, im_X4_keepBelow, ⟨by decide, rfl⟩⟩
theorem fl_X10_329 : FL RX10 329 10 6 .boolean false := ⟨RX10, TX10, 13, tyX10, rfl, uw10, rfl, by decide, tyX10_ok, nmX10, lwT_2 (i := 135) (by decide +kernel) rfl, rfl, tyX10_ok 6 (by decide), rfl⟩
theorem fl_X10_30 : FL RX10 30 10 3 (.object "NineCopies$World") true := ⟨RX10, TX10, 13, tyX10, rfl, uw10, rfl, by decide, tyX10_ok, nmX10, lwT_2 (i := 132) (by decide +kernel) rfl, rfl, tyX10_ok 3 (by decide), rfl⟩
theorem fl_X10_33 : FL RX10 33 10 4 (.object "NineCopies$Texts") true := ⟨RX10, TX10, 13, tyX10, rfl, uw10, rfl, by decide, tyX10_ok, nmX10, lwT_2 (i := 133) (by decide +kernel) rfl, rfl, tyX10_ok 4 (by decide), rfl⟩
theorem cv_X10_323 : CV RX10 323 mX7_copyFrom 1 7 := ⟨mw_X7_copyFrom, lwT_5 (i := 34) (by decide +kernel) rfl, im_X7_copyFrom, ⟨by decide, rfl⟩⟩
theorem fl_X10_36 : FL RX10 36 10 5 (.object "NineCopies$Picks") true := ⟨RX10, TX10, 13, tyX10, rfl, uw10, rfl, by decide, tyX10_ok, nmX10, lwT_2 (i := 134) (by decide +kernel) rfl, rfl, tyX10_ok 5 (by decide), rfl⟩
theorem cv_X10_326 : CV RX10 326 mX4_copyFrom 1 4 := ⟨mw_X4_copyFrom, lwT_5 (i := 40) (by decide +kernel) rfl, im_X4_copyFrom, ⟨by decide, rfl⟩⟩
theorem fl_X10_333 : FL RX10 333 9 8 .int false := ⟨RX9, TX9, 13, tyX9, rfl, uw9, rfl, by decide, tyX9_ok, nmX9, lwT_1 (i := 198) (by decide +kernel) rfl, rfl, tyX9_ok 8 (by decide), rfl⟩
theorem fl_X10_336 : FL RX10 336 9 9 .int false := ⟨RX9, TX9, 13, tyX9, rfl, uw9, rfl, by decide, tyX9_ok, nmX9, lwT_1 (i := 200) (by decide +kernel) rfl, rfl, tyX9_ok 9 (by decide), rfl⟩
theorem fl_X10_339 : FL RX10 339 9 10 .int false := ⟨RX9, TX9, 13, tyX9, rfl, uw9, rfl, by decide, tyX9_ok, nmX9, lwT_1 (i := 202) (by decide +kernel) rfl, rfl, tyX9_ok 10 (by decide), rfl⟩
theorem fl_X10_342 : FL RX10 342 1 6 .int false := ⟨RX1, TX1, 7, tyX1, rfl, uw1, rfl, by decide, tyX1_ok, nmX1, lwT_2 (i := 14) (by decide +kernel) rfl, rfl, tyX1_ok 6 (by decide), rfl⟩
theorem fl_X10_347 : FL RX10 347 5 1 .int false := ⟨RX5, TX5, 2, tyX5, rfl, uw5, rfl, by decide, tyX5_ok, nmX5, lwT_2 (i := 42) (by decide +kernel) rfl, rfl, tyX5_ok 1 (by decide), rfl⟩
theorem fl_X11_89 : FL RX11 89 11 3 .int false := ⟨RX11, TX11, 51, tyX11, rfl, uw11, rfl, by decide, tyX11_ok, nmX11, lwT_5 (i := 58) (by decide +kernel) rfl, rfl, tyX11_ok 3 (by decide), rfl⟩
theorem fl_X11_13 : FL RX11 13 11 2 (.array .int) true := ⟨RX11, TX11, 51, tyX11, rfl, uw11, rfl, by decide, tyX11_ok, nmX11, lwT_5 (i := 57) (by decide +kernel) rfl, rfl, tyX11_ok 2 (by decide), rfl⟩
theorem fl_X11_7 : FL RX11 7 11 1 (.array .int) true := ⟨RX11, TX11, 51, tyX11, rfl, uw11, rfl, by decide, tyX11_ok, nmX11, lwT_5 (i := 56) (by decide +kernel) rfl, rfl, tyX11_ok 1 (by decide), rfl⟩
theorem fl_X11_95 : FL RX11 95 11 17 .int false := ⟨RX11, TX11, 51, tyX11, rfl, uw11, rfl, by decide, tyX11_ok, nmX11, lwT_5 (i := 72) (by decide +kernel) rfl, rfl, tyX11_ok 17 (by decide), rfl⟩
theorem fl_X11_34 : FL RX11 34 11 18 (.array .int) true := ⟨RX11, TX11, 51, tyX11, rfl, uw11, rfl, by decide, tyX11_ok, nmX11, lwT_5 (i := 73) (by decide +kernel) rfl, rfl, tyX11_ok 18 (by decide), rfl⟩
theorem fl_X11_86 : FL RX11 86 11 0 .int false := ⟨RX11, TX11, 51, tyX11, rfl, uw11, rfl, by decide, tyX11_ok, nmX11, lwT_5 (i := 55) (by decide +kernel) rfl, rfl, tyX11_ok 0 (by decide), rfl⟩
theorem cv_X11_92 : CV RX11 92 mX11_unpicks 0 11 := ⟨mw_X11_unpicks, lwT_5 (i := 213) (by decide +kernel) rfl, im_X11_unpicks, ⟨by decide, rfl⟩⟩
theorem fl_X11_16 : FL RX11 16 11 4 (.array .int) true := ⟨RX11, TX11, 51, tyX11, rfl, uw11, rfl, by decide, tyX11_ok, nmX11, lwT_5 (i := 59) (by decide +kernel) rfl, rfl, tyX11_ok 4 (by decide), rfl⟩
theorem fl_X11_98 : FL RX11 98 11 5 .boolean false := ⟨RX11, TX11, 51, tyX11, rfl, uw11, rfl, by decide, tyX11_ok, nmX11, lwT_5 (i := 60) (by decide +kernel) rfl, rfl, tyX11_ok 5 (by decide), rfl⟩
theorem cv_X11_102 : CV RX11 102 mX11_thinksAnew 0 11 := ⟨mw_X11_thinksAnew, lwT_7 (i := 107) (by decide +kernel) rfl, im_X11_thinksAnew, ⟨by decide, rfl⟩⟩
theorem kc_X11_105 : Cond.constant RX11 105 (1664525) ∈ lwT := lwT_7 (i := 9) (by decide +kernel) rfl
theorem kc_X11_106 : Cond.constant RX11 106 (1013904223) ∈ lwT := lwT_7 (i := 10) (by decide +kernel) rfl
theorem fl_X11_107 : FL RX11 107 11 6 .int false := ⟨RX11, TX11, 51, tyX11, rfl, uw11, rfl, by decide, tyX11_ok, nmX11, lwT_5 (i := 61) (by decide +kernel) rfl, rfl, tyX11_ok 6 (by decide), rfl⟩
theorem fl_X11_110 : FL RX11 110 11 10 .int false := ⟨RX11, TX11, 51, tyX11, rfl, uw11, rfl, by decide, tyX11_ok, nmX11, lwT_5 (i := 65) (by decide +kernel) rfl, rfl, tyX11_ok 10 (by decide), rfl⟩
theorem cv_X11_113 : CV RX11 113 mX11_isIn 3 11 := ⟨mw_X11_isIn, lwT_5 (i := 225) (by decide +kernel) rfl, im_X11_isIn, ⟨by decide, rfl⟩⟩
theorem fl_X11_19 : FL RX11 19 11 7 (.array .int) true := ⟨RX11, TX11, 51, tyX11, rfl, uw11, rfl, by decide, tyX11_ok, nmX11, lwT_5 (i := 62) (by decide +kernel) rfl, rfl, tyX11_ok 7 (by decide), rfl⟩
theorem fl_X11_22 : FL RX11 22 11 8 (.array .int) true := ⟨RX11, TX11, 51, tyX11, rfl, uw11, rfl, by decide, tyX11_ok, nmX11, lwT_5 (i := 63) (by decide +kernel) rfl, rfl, tyX11_ok 8 (by decide), rfl⟩
theorem fl_X11_25 : FL RX11 25 11 9 (.array .int) true := ⟨RX11, TX11, 51, tyX11, rfl, uw11, rfl, by decide, tyX11_ok, nmX11, lwT_5 (i := 64) (by decide +kernel) rfl, rfl, tyX11_ok 9 (by decide), rfl⟩
theorem fl_X11_28 : FL RX11 28 11 11 (.array .int) true := ⟨RX11, TX11, 51, tyX11, rfl, uw11, rfl, by decide, tyX11_ok, nmX11, lwT_5 (i := 66) (by decide +kernel) rfl, rfl, tyX11_ok 11 (by decide), rfl⟩
theorem cv_X11_121 : CV RX11 121 mX11_mostOf 1 11 := ⟨mw_X11_mostOf, lwT_6 (i := 1) (by decide +kernel) rfl, im_X11_mostOf, ⟨by decide, rfl⟩⟩
theorem cv_X11_117 : CV RX11 117 mX11_isPerson 1 11 := ⟨mw_X11_isPerson, lwT_5 (i := 237) (by decide +kernel) rfl, im_X11_isPerson, ⟨by decide, rfl⟩⟩
theorem cv_X11_125 : CV RX11 125 mX11_canSet 3 11 := ⟨mw_X11_canSet, lwT_5 (i := 233) (by decide +kernel) rfl, im_X11_canSet, ⟨by decide, rfl⟩⟩
theorem fl_X11_137 : FL RX11 137 11 16 .int false := ⟨RX11, TX11, 51, tyX11, rfl, uw11, rfl, by decide, tyX11_ok, nmX11, lwT_5 (i := 71) (by decide +kernel) rfl, rfl, tyX11_ok 16 (by decide), rfl⟩
theorem fl_X11_134 : FL RX11 134 11 15 .int false := ⟨RX11, TX11, 51, tyX11, rfl, uw11, rfl, by decide, tyX11_ok, nmX11, lwT_5 (i := 70) (by decide +kernel) rfl, rfl, tyX11_ok 15 (by decide), rfl⟩
theorem fl_X11_131 : FL RX11 131 11 14 .int false := ⟨RX11, TX11, 51, tyX11, rfl, uw11, rfl, by decide, tyX11_ok, nmX11, lwT_5 (i := 69) (by decide +kernel) rfl, rfl, tyX11_ok 14 (by decide), rfl⟩
theorem fl_X11_128 : FL RX11 128 11 13 .int false := ⟨RX11, TX11, 51, tyX11, rfl, uw11, rfl, by decide, tyX11_ok, nmX11, lwT_5 (i := 68) (by decide +kernel) rfl, rfl, tyX11_ok 13 (by decide), rfl⟩
theorem fl_X11_31 : FL RX11 31 11 12 (.array .int) true := ⟨RX11, TX11, 51, tyX11, rfl, uw11, rfl, by decide, tyX11_ok, nmX11, lwT_5 (i := 67) (by decide +kernel) rfl, rfl, tyX11_ok 12 (by decide), rfl⟩
theorem cv_X11_140 : CV RX11 140 mX11_comesVersion 4 11 := ⟨mw_X11_comesVersion, lwT_6 (i := 13) (by decide +kernel) rfl, im_X11_comesVersion, ⟨by decide, rfl⟩⟩
theorem cv_X11_144 : CV RX11 144 mX11_letterAt 2 11 := ⟨mw_X11_letterAt, lwT_6 (i := 33) (by decide +kernel) rfl, im_X11_letterAt, ⟨by decide, rfl⟩⟩
theorem cv_X11_148 : CV RX11 148 mX11_isVersion 1 11 := ⟨mw_X11_isVersion, lwT_6 (i := 21) (by decide +kernel) rfl, im_X11_isVersion, ⟨by decide, rfl⟩⟩
theorem cv_X11_151 : CV RX11 151 mX11_keepsAhead 0 11 := ⟨mw_X11_keepsAhead, lwT_6 (i := 25) (by decide +kernel) rfl, im_X11_keepsAhead, ⟨by decide, rfl⟩⟩
theorem cv_X11_154 : CV RX11 154 mX11_holds 3 11 := ⟨mw_X11_holds, lwT_6 (i := 29) (by decide +kernel) rfl, im_X11_holds, ⟨by decide, rfl⟩⟩
theorem cv_X11_158 : CV RX11 158 mX11_hasLetter 2 11 := ⟨mw_X11_hasLetter, lwT_6 (i := 41) (by decide +kernel) rfl, im_X11_hasLetter, ⟨by decide, rfl⟩⟩
theorem cv_X11_162 : CV RX11 162 mX11_loses 2 11 := ⟨mw_X11_loses, lwT_6 (i := 45) (by decide +kernel) rfl, im_X11_loses, ⟨by decide, rfl⟩⟩
theorem fl_X11_40 : FL RX11 40 11 20 (.array .int) true := ⟨RX11, TX11, 51, tyX11, rfl, uw11, rfl, by decide, tyX11_ok, nmX11, lwT_5 (i := 75) (by decide +kernel) rfl, rfl, tyX11_ok 20 (by decide), rfl⟩
theorem fl_X11_166 : FL RX11 166 11 21 .int false := ⟨RX11, TX11, 51, tyX11, rfl, uw11, rfl, by decide, tyX11_ok, nmX11, lwT_5 (i := 76) (by decide +kernel) rfl, rfl, tyX11_ok 21 (by decide), rfl⟩
theorem cv_X11_169 : CV RX11 169 mX11_types 1 11 := ⟨mw_X11_types, lwT_6 (i := 53) (by decide +kernel) rfl, im_X11_types, ⟨by decide, rfl⟩⟩
theorem fl_X11_43 : FL RX11 43 11 26 (.array .int) true := ⟨RX11, TX11, 51, tyX11, rfl, uw11, rfl, by decide, tyX11_ok, nmX11, lwT_5 (i := 81) (by decide +kernel) rfl, rfl, tyX11_ok 26 (by decide), rfl⟩
theorem fl_X11_173 : FL RX11 173 11 22 .int false := ⟨RX11, TX11, 51, tyX11, rfl, uw11, rfl, by decide, tyX11_ok, nmX11, lwT_5 (i := 77) (by decide +kernel) rfl, rfl, tyX11_ok 22 (by decide), rfl⟩
theorem cv_X11_176 : CV RX11 176 mX11_raw 1 11 := ⟨mw_X11_raw, lwT_6 (i := 69) (by decide +kernel) rfl, im_X11_raw, ⟨by decide, rfl⟩⟩
theorem fl_X11_179 : FL RX11 179 11 23 .int false := ⟨RX11, TX11, 51, tyX11, rfl, uw11, rfl, by decide, tyX11_ok, nmX11, lwT_5 (i := 78) (by decide +kernel) rfl, rfl, tyX11_ok 23 (by decide), rfl⟩
theorem fl_X11_182 : FL RX11 182 11 24 .int false := ⟨RX11, TX11, 51, tyX11, rfl, uw11, rfl, by decide, tyX11_ok, nmX11, lwT_5 (i := 79) (by decide +kernel) rfl, rfl, tyX11_ok 24 (by decide), rfl⟩
theorem fl_X11_185 : FL RX11 185 11 25 .int false := ⟨RX11, TX11, 51, tyX11, rfl, uw11, rfl, by decide, tyX11_ok, nmX11, lwT_5 (i := 80) (by decide +kernel) rfl, rfl, tyX11_ok 25 (by decide), rfl⟩
theorem cv_X11_188 : CV RX11 188 mX11_isLetter 1 11 := ⟨mw_X11_isLetter, lwT_6 (i := 73) (by decide +kernel) rfl, im_X11_isLetter, ⟨by decide, rfl⟩⟩
theorem cv_X11_194 : CV RX11 194 mX11_isDigit 1 11 := ⟨mw_X11_isDigit, lwT_6 (i := 81) (by decide +kernel) rfl, im_X11_isDigit, ⟨by decide, rfl⟩⟩
theorem cv_X11_197 : CV RX11 197 mX11_isMarkSign 1 11 := ⟨mw_X11_isMarkSign, lwT_6 (i := 85) (by decide +kernel) rfl, im_X11_isMarkSign, ⟨by decide, rfl⟩⟩
theorem cv_X11_191 : CV RX11 191 mX11_wordAt 2 11 := ⟨mw_X11_wordAt, lwT_6 (i := 77) (by decide +kernel) rfl, im_X11_wordAt, ⟨by decide, rfl⟩⟩
theorem fl_X11_200 : FL RX11 200 11 38 .int false := ⟨RX11, TX11, 51, tyX11, rfl, uw11, rfl, by decide, tyX11_ok, nmX11, lwT_5 (i := 93) (by decide +kernel) rfl, rfl, tyX11_ok 38 (by decide), rfl⟩
theorem fl_X11_203 : FL RX11 203 11 39 .int false := ⟨RX11, TX11, 51, tyX11, rfl, uw11, rfl, by decide, tyX11_ok, nmX11, lwT_5 (i := 94) (by decide +kernel) rfl, rfl, tyX11_ok 39 (by decide), rfl⟩
theorem fl_X11_58 : FL RX11 58 11 31 (.array .int) true := ⟨RX11, TX11, 51, tyX11, rfl, uw11, rfl, by decide, tyX11_ok, nmX11, lwT_5 (i := 86) (by decide +kernel) rfl, rfl, tyX11_ok 31 (by decide), rfl⟩
theorem fl_X11_206 : FL RX11 206 11 34 .int false := ⟨RX11, TX11, 51, tyX11, rfl, uw11, rfl, by decide, tyX11_ok, nmX11, lwT_5 (i := 89) (by decide +kernel) rfl, rfl, tyX11_ok 34 (by decide), rfl⟩
theorem fl_X11_61 : FL RX11 61 11 32 (.array .int) true := ⟨RX11, TX11, 51, tyX11, rfl, uw11, rfl, by decide, tyX11_ok, nmX11, lwT_5 (i := 87) (by decide +kernel) rfl, rfl, tyX11_ok 32 (by decide), rfl⟩
theorem fl_X11_209 : FL RX11 209 11 33 .int false := ⟨RX11, TX11, 51, tyX11, rfl, uw11, rfl, by decide, tyX11_ok, nmX11, lwT_5 (i := 88) (by decide +kernel) rfl, rfl, tyX11_ok 33 (by decide), rfl⟩
theorem cv_X11_218 : CV RX11 218 mX11_emits 2 11 := ⟨mw_X11_emits, lwT_6 (i := 141) (by decide +kernel) rfl, im_X11_emits, ⟨by decide, rfl⟩⟩
theorem cv_X11_221 : CV RX11 221 mX11_reads 0 11 := ⟨mw_X11_reads, lwT_6 (i := 65) (by decide +kernel) rfl, im_X11_reads, ⟨by decide, rfl⟩⟩
theorem cv_X11_215 : CV RX11 215 mX11_errs 1 11 := ⟨mw_X11_errs, lwT_6 (i := 105) (by decide +kernel) rfl, im_X11_errs, ⟨by decide, rfl⟩⟩
theorem cv_X11_212 : CV RX11 212 mX11_canAsk 1 11 := ⟨mw_X11_canAsk, lwT_6 (i := 137) (by decide +kernel) rfl, im_X11_canAsk, ⟨by decide, rfl⟩⟩
theorem cv_X11_224 : CV RX11 224 mX11_readUnit 0 11 := ⟨mw_X11_readUnit, lwT_6 (i := 133) (by decide +kernel) rfl, im_X11_readUnit, ⟨by decide, rfl⟩⟩
theorem cv_X11_228 : CV RX11 228 mX11_isSign 1 11 := ⟨mw_X11_isSign, lwT_6 (i := 113) (by decide +kernel) rfl, im_X11_isSign, ⟨by decide, rfl⟩⟩
theorem cv_X11_231 : CV RX11 231 mX11_readProduct 0 11 := ⟨mw_X11_readProduct, lwT_6 (i := 129) (by decide +kernel) rfl, im_X11_readProduct, ⟨by decide, rfl⟩⟩
theorem cv_X11_234 : CV RX11 234 mX11_readSum 0 11 := ⟨mw_X11_readSum, lwT_6 (i := 125) (by decide +kernel) rfl, im_X11_readSum, ⟨by decide, rfl⟩⟩
theorem fl_X11_64 : FL RX11 64 11 36 (.array .int) true := ⟨RX11, TX11, 51, tyX11, rfl, uw11, rfl, by decide, tyX11_ok, nmX11, lwT_5 (i := 91) (by decide +kernel) rfl, rfl, tyX11_ok 36 (by decide), rfl⟩
theorem fl_X11_237 : FL RX11 237 11 37 .int false := ⟨RX11, TX11, 51, tyX11, rfl, uw11, rfl, by decide, tyX11_ok, nmX11, lwT_5 (i := 92) (by decide +kernel) rfl, rfl, tyX11_ok 37 (by decide), rfl⟩
theorem fl_X11_240 : FL RX11 240 11 35 .int false := ⟨RX11, TX11, 51, tyX11, rfl, uw11, rfl, by decide, tyX11_ok, nmX11, lwT_5 (i := 90) (by decide +kernel) rfl, rfl, tyX11_ok 35 (by decide), rfl⟩
theorem cv_X11_243 : CV RX11 243 mX11_isWord 1 11 := ⟨mw_X11_isWord, lwT_6 (i := 93) (by decide +kernel) rfl, im_X11_isWord, ⟨by decide, rfl⟩⟩
theorem cv_X11_252 : CV RX11 252 mX11_settles 1 11 := ⟨mw_X11_settles, lwT_6 (i := 157) (by decide +kernel) rfl, im_X11_settles, ⟨by decide, rfl⟩⟩
theorem cv_X11_246 : CV RX11 246 mX11_waits 1 11 := ⟨mw_X11_waits, lwT_6 (i := 149) (by decide +kernel) rfl, im_X11_waits, ⟨by decide, rfl⟩⟩
theorem cv_X11_249 : CV RX11 249 mX11_readCompared 0 11 := ⟨mw_X11_readCompared, lwT_6 (i := 153) (by decide +kernel) rfl, im_X11_readCompared, ⟨by decide, rfl⟩⟩
theorem cv_X11_255 : CV RX11 255 mX11_isLineWord 0 11 := ⟨mw_X11_isLineWord, lwT_6 (i := 121) (by decide +kernel) rfl, im_X11_isLineWord, ⟨by decide, rfl⟩⟩
theorem fl_X11_49 : FL RX11 49 11 28 (.array .int) true := ⟨RX11, TX11, 51, tyX11, rfl, uw11, rfl, by decide, tyX11_ok, nmX11, lwT_5 (i := 83) (by decide +kernel) rfl, rfl, tyX11_ok 28 (by decide), rfl⟩
theorem fl_X11_52 : FL RX11 52 11 29 (.array .int) true := ⟨RX11, TX11, 51, tyX11, rfl, uw11, rfl, by decide, tyX11_ok, nmX11, lwT_5 (i := 84) (by decide +kernel) rfl, rfl, tyX11_ok 29 (by decide), rfl⟩
theorem fl_X11_55 : FL RX11 55 11 30 (.array .int) true := ⟨RX11, TX11, 51, tyX11, rfl, uw11, rfl, by decide, tyX11_ok, nmX11, lwT_5 (i := 85) (by decide +kernel) rfl, rfl, tyX11_ok 30 (by decide), rfl⟩
theorem cv_X11_259 : CV RX11 259 mX11_readAny 0 11 := ⟨mw_X11_readAny, lwT_6 (i := 145) (by decide +kernel) rfl, im_X11_readAny, ⟨by decide, rfl⟩⟩
theorem fl_X11_46 : FL RX11 46 11 27 (.array .int) true := ⟨RX11, TX11, 51, tyX11, rfl, uw11, rfl, by decide, tyX11_ok, nmX11, lwT_5 (i := 82) (by decide +kernel) rfl, rfl, tyX11_ok 27 (by decide), rfl⟩
theorem cv_X11_262 : CV RX11 262 mX11_readNumber 2 11 := ⟨mw_X11_readNumber, lwT_6 (i := 101) (by decide +kernel) rfl, im_X11_readNumber, ⟨by decide, rfl⟩⟩
theorem cv_X11_265 : CV RX11 265 mX11_readWord 1 11 := ⟨mw_X11_readWord, lwT_6 (i := 109) (by decide +kernel) rfl, im_X11_readWord, ⟨by decide, rfl⟩⟩
theorem fl_X11_71 : FL RX11 71 11 42 (.array .int) true := ⟨RX11, TX11, 51, tyX11, rfl, uw11, rfl, by decide, tyX11_ok, nmX11, lwT_5 (i := 97) (by decide +kernel) rfl, rfl, tyX11_ok 42 (by decide), rfl⟩
theorem cv_X11_268 : CV RX11 268 mX11_readWay 0 11 := ⟨mw_X11_readWay, lwT_6 (i := 97) (by decide +kernel) rfl, im_X11_readWay, ⟨by decide, rfl⟩⟩
theorem fl_X11_271 : FL RX11 271 11 43 .int false := ⟨RX11, TX11, 51, tyX11, rfl, uw11, rfl, by decide, tyX11_ok, nmX11, lwT_5 (i := 98) (by decide +kernel) rfl, rfl, tyX11_ok 43 (by decide), rfl⟩
theorem fl_X11_274 : FL RX11 274 11 40 .int false := ⟨RX11, TX11, 51, tyX11, rfl, uw11, rfl, by decide, tyX11_ok, nmX11, lwT_5 (i := 95) (by decide +kernel) rfl, rfl, tyX11_ok 40 (by decide), rfl⟩
theorem fl_X11_67 : FL RX11 67 11 41 .int false := ⟨RX11, TX11, 51, tyX11, rfl, uw11, rfl, by decide, tyX11_ok, nmX11, lwT_5 (i := 96) (by decide +kernel) rfl, rfl, tyX11_ok 41 (by decide), rfl⟩
theorem cv_X11_286 : CV RX11 286 mX11_takesLaw 1 11 := ⟨mw_X11_takesLaw, lwT_6 (i := 165) (by decide +kernel) rfl, im_X11_takesLaw, ⟨by decide, rfl⟩⟩
theorem cv_X11_283 : CV RX11 283 mX11_takesPost 1 11 := ⟨mw_X11_takesPost, lwT_6 (i := 161) (by decide +kernel) rfl, im_X11_takesPost, ⟨by decide, rfl⟩⟩
theorem cv_X11_280 : CV RX11 280 mX11_readLaw 0 11 := ⟨mw_X11_readLaw, lwT_6 (i := 117) (by decide +kernel) rfl, im_X11_readLaw, ⟨by decide, rfl⟩⟩
theorem cv_X11_277 : CV RX11 277 mX11_readPost 0 11 := ⟨mw_X11_readPost, lwT_6 (i := 89) (by decide +kernel) rfl, im_X11_readPost, ⟨by decide, rfl⟩⟩
theorem fl_X11_77 : FL RX11 77 11 45 (.array .int) true := ⟨RX11, TX11, 51, tyX11, rfl, uw11, rfl, by decide, tyX11_ok, nmX11, lwT_5 (i := 100) (by decide +kernel) rfl, rfl, tyX11_ok 45 (by decide), rfl⟩
theorem fl_X11_74 : FL RX11 74 11 44 (.array .int) true := ⟨RX11, TX11, 51, tyX11, rfl, uw11, rfl, by decide, tyX11_ok, nmX11, lwT_5 (i := 99) (by decide +kernel) rfl, rfl, tyX11_ok 44 (by decide), rfl⟩
theorem cv_X11_289 : CV RX11 289 mX11_twoOf 3 11 := ⟨mw_X11_twoOf, lwT_6 (i := 225) (by decide +kernel) rfl, im_X11_twoOf, ⟨by decide, rfl⟩⟩
theorem cv_X11_293 : CV RX11 293 mX11_runs 3 11 := ⟨mw_X11_runs, lwT_6 (i := 221) (by decide +kernel) rfl, im_X11_runs, ⟨by decide, rfl⟩⟩
theorem cv_X11_296 : CV RX11 296 mX11_asksBoth 2 11 := ⟨mw_X11_asksBoth, lwT_6 (i := 209) (by decide +kernel) rfl, im_X11_asksBoth, ⟨by decide, rfl⟩⟩
theorem cv_X11_299 : CV RX11 299 mX11_ones 1 11 := ⟨mw_X11_ones, lwT_6 (i := 213) (by decide +kernel) rfl, im_X11_ones, ⟨by decide, rfl⟩⟩
theorem cv_X11_302 : CV RX11 302 mX11_lineOf 1 11 := ⟨mw_X11_lineOf, lwT_6 (i := 217) (by decide +kernel) rfl, im_X11_lineOf, ⟨by decide, rfl⟩⟩
theorem cv_X11_305 : CV RX11 305 mX11_held 3 11 := ⟨mw_X11_held, lwT_6 (i := 229) (by decide +kernel) rfl, im_X11_held, ⟨by decide, rfl⟩⟩
theorem fl_X11_37 : FL RX11 37 11 19 (.array .int) true := ⟨RX11, TX11, 51, tyX11, rfl, uw11, rfl, by decide, tyX11_ok, nmX11, lwT_5 (i := 74) (by decide +kernel) rfl, rfl, tyX11_ok 19 (by decide), rfl⟩
theorem cv_X11_308 : CV RX11 308 mX11_comesTo 3 11 := ⟨mw_X11_comesTo, lwT_6 (i := 185) (by decide +kernel) rfl, im_X11_comesTo, ⟨by decide, rfl⟩⟩
theorem cv_X11_311 : CV RX11 311 mX11_notes 4 11 := ⟨mw_X11_notes, lwT_6 (i := 189) (by decide +kernel) rfl, im_X11_notes, ⟨by decide, rfl⟩⟩
theorem cv_X11_315 : CV RX11 315 mX11_draw 1 11 := ⟨mw_X11_draw, lwT_7 (i := 5) (by decide +kernel) rfl, im_X11_draw, ⟨by decide, rfl⟩⟩
theorem cv_X11_318 : CV RX11 318 mX11_postOf 2 11 := ⟨mw_X11_postOf, lwT_7 (i := 15) (by decide +kernel) rfl, im_X11_postOf, ⟨by decide, rfl⟩⟩
theorem cv_X11_321 : CV RX11 321 mX11_copyOf 2 11 := ⟨mw_X11_copyOf, lwT_7 (i := 1) (by decide +kernel) rfl, im_X11_copyOf, ⟨by decide, rfl⟩⟩
theorem cv_X11_324 : CV RX11 324 mX11_posts 3 11 := ⟨mw_X11_posts, lwT_7 (i := 11) (by decide +kernel) rfl, im_X11_posts, ⟨by decide, rfl⟩⟩
theorem cv_X11_327 : CV RX11 327 mX11_writeOf 2 11 := ⟨mw_X11_writeOf, lwT_6 (i := 205) (by decide +kernel) rfl, im_X11_writeOf, ⟨by decide, rfl⟩⟩
theorem cv_X11_330 : CV RX11 330 mX11_least 2 11 := ⟨mw_X11_least, lwT_6 (i := 233) (by decide +kernel) rfl, im_X11_least, ⟨by decide, rfl⟩⟩
theorem cv_X11_333 : CV RX11 333 mX11_writesOne 2 11 := ⟨mw_X11_writesOne, lwT_6 (i := 237) (by decide +kernel) rfl, im_X11_writesOne, ⟨by decide, rfl⟩⟩
theorem cv_X11_336 : CV RX11 336 mX11_isStopped 1 11 := ⟨mw_X11_isStopped, lwT_6 (i := 197) (by decide +kernel) rfl, im_X11_isStopped, ⟨by decide, rfl⟩⟩
theorem cv_X11_339 : CV RX11 339 mX11_writes 2 11 := ⟨mw_X11_writes, lwT_6 (i := 201) (by decide +kernel) rfl, im_X11_writes, ⟨by decide, rfl⟩⟩
theorem cv_X11_342 : CV RX11 342 mX11_illOf 2 11 := ⟨mw_X11_illOf, lwT_7 (i := 27) (by decide +kernel) rfl, im_X11_illOf, ⟨by decide, rfl⟩⟩
theorem cv_X11_345 : CV RX11 345 mX11_cursesOne 2 11 := ⟨mw_X11_cursesOne, lwT_7 (i := 23) (by decide +kernel) rfl, im_X11_cursesOne, ⟨by decide, rfl⟩⟩
theorem cv_X11_351 : CV RX11 351 mX11_allWrite 0 11 := ⟨mw_X11_allWrite, lwT_6 (i := 193) (by decide +kernel) rfl, im_X11_allWrite, ⟨by decide, rfl⟩⟩
theorem cv_X11_354 : CV RX11 354 mX11_curses 0 11 := ⟨mw_X11_curses, lwT_7 (i := 19) (by decide +kernel) rfl, im_X11_curses, ⟨by decide, rfl⟩⟩
theorem cv_X11_348 : CV RX11 348 mX11_arrives 0 11 := ⟨mw_X11_arrives, lwT_6 (i := 181) (by decide +kernel) rfl, im_X11_arrives, ⟨by decide, rfl⟩⟩
theorem cv_X11_357 : CV RX11 357 mX11_goesBy 0 11 := ⟨mw_X11_goesBy, lwT_6 (i := 177) (by decide +kernel) rfl, im_X11_goesBy, ⟨by decide, rfl⟩⟩
theorem cv_X11_360 : CV RX11 360 mX11_hadBy 1 11 := ⟨mw_X11_hadBy, lwT_7 (i := 35) (by decide +kernel) rfl, im_X11_hadBy, ⟨by decide, rfl⟩⟩
theorem cv_X11_399 : CV RX11 399 mX11_addressesOf 1 11 := ⟨mw_X11_addressesOf, lwT_7 (i := 47) (by decide +kernel) rfl, im_X11_addressesOf, ⟨by decide, rfl⟩⟩
theorem cv_X11_363 : CV RX11 363 mX11_stampsOf 2 11 := ⟨mw_X11_stampsOf, lwT_7 (i := 43) (by decide +kernel) rfl, im_X11_stampsOf, ⟨by decide, rfl⟩⟩
theorem cv_X11_366 : CV RX11 366 mX11_didHave 2 11 := ⟨mw_X11_didHave, lwT_7 (i := 75) (by decide +kernel) rfl, im_X11_didHave, ⟨by decide, rfl⟩⟩
theorem cv_X11_415 : CV RX11 415 mX11_cameOf 2 11 := ⟨mw_X11_cameOf, lwT_7 (i := 63) (by decide +kernel) rfl, im_X11_cameOf, ⟨by decide, rfl⟩⟩
theorem cv_X11_375 : CV RX11 375 mX11_didAnyHave 1 11 := ⟨mw_X11_didAnyHave, lwT_7 (i := 71) (by decide +kernel) rfl, im_X11_didAnyHave, ⟨by decide, rfl⟩⟩
theorem cv_X11_372 : CV RX11 372 mX11_lettersOf 1 11 := ⟨mw_X11_lettersOf, lwT_7 (i := 67) (by decide +kernel) rfl, im_X11_lettersOf, ⟨by decide, rfl⟩⟩
theorem cv_X11_369 : CV RX11 369 mX11_childrenOf 1 11 := ⟨mw_X11_childrenOf, lwT_7 (i := 59) (by decide +kernel) rfl, im_X11_childrenOf, ⟨by decide, rfl⟩⟩
theorem cv_X11_378 : CV RX11 378 mX11_isTown 1 11 := ⟨mw_X11_isTown, lwT_7 (i := 83) (by decide +kernel) rfl, im_X11_isTown, ⟨by decide, rfl⟩⟩
theorem cv_X11_381 : CV RX11 381 mX11_thinks 0 11 := ⟨mw_X11_thinks, lwT_7 (i := 95) (by decide +kernel) rfl, im_X11_thinks, ⟨by decide, rfl⟩⟩
theorem cv_X11_384 : CV RX11 384 mX11_heldIn 1 11 := ⟨mw_X11_heldIn, lwT_7 (i := 99) (by decide +kernel) rfl, im_X11_heldIn, ⟨by decide, rfl⟩⟩
theorem cv_X11_387 : CV RX11 387 mX11_endsThought 0 11 := ⟨mw_X11_endsThought, lwT_7 (i := 103) (by decide +kernel) rfl, im_X11_endsThought, ⟨by decide, rfl⟩⟩
theorem cv_X11_390 : CV RX11 390 mX11_isOver 0 11 := ⟨mw_X11_isOver, lwT_7 (i := 119) (by decide +kernel) rfl, im_X11_isOver, ⟨by decide, rfl⟩⟩
theorem cv_X11_393 : CV RX11 393 mX11_overBy 1 11 := ⟨mw_X11_overBy, lwT_7 (i := 115) (by decide +kernel) rfl, im_X11_overBy, ⟨by decide, rfl⟩⟩
theorem cv_X11_396 : CV RX11 396 mX11_isOverWithout 2 11 := ⟨mw_X11_isOverWithout, lwT_7 (i := 127) (by decide +kernel) rfl, im_X11_isOverWithout, ⟨by decide, rfl⟩⟩
theorem cv_X11_402 : CV RX11 402 mX11_goesOnFrom 1 11 := ⟨mw_X11_goesOnFrom, lwT_7 (i := 139) (by decide +kernel) rfl, im_X11_goesOnFrom, ⟨by decide, rfl⟩⟩
theorem cv_X11_405 : CV RX11 405 mX11_reachOf 2 11 := ⟨mw_X11_reachOf, lwT_7 (i := 135) (by decide +kernel) rfl, im_X11_reachOf, ⟨by decide, rfl⟩⟩
theorem kc_X11_408 : Cond.constant RX11 408 (1000000) ∈ lwT := lwT_7 (i := 163) (by decide +kernel) rfl
theorem cv_X11_409 : CV RX11 409 mX11_apartOf 2 11 := ⟨mw_X11_apartOf, lwT_7 (i := 164) (by decide +kernel) rfl, im_X11_apartOf, ⟨by decide, rfl⟩⟩
theorem cv_X11_412 : CV RX11 412 mX11_nearest 1 11 := ⟨mw_X11_nearest, lwT_7 (i := 159) (by decide +kernel) rfl, im_X11_nearest, ⟨by decide, rfl⟩⟩
theorem fl_X11_80 : FL RX11 80 11 46 (.array .int) true := ⟨RX11, TX11, 51, tyX11, rfl, uw11, rfl, by decide, tyX11_ok, nmX11, lwT_5 (i := 101) (by decide +kernel) rfl, rfl, tyX11_ok 46 (by decide), rfl⟩
theorem cv_X11_418 : CV RX11 418 mX11_mostHeld 0 11 := ⟨mw_X11_mostHeld, lwT_7 (i := 176) (by decide +kernel) rfl, im_X11_mostHeld, ⟨by decide, rfl⟩⟩
theorem fl_X11_421 : FL RX11 421 11 49 .int false := ⟨RX11, TX11, 51, tyX11, rfl, uw11, rfl, by decide, tyX11_ok, nmX11, lwT_5 (i := 104) (by decide +kernel) rfl, rfl, tyX11_ok 49 (by decide), rfl⟩
theorem fl_X11_424 : FL RX11 424 11 47 .boolean false := ⟨RX11, TX11, 51, tyX11, rfl, uw11, rfl, by decide, tyX11_ok, nmX11, lwT_5 (i := 102) (by decide +kernel) rfl, rfl, tyX11_ok 47 (by decide), rfl⟩
theorem fl_X11_83 : FL RX11 83 11 50 (.array .int) true := ⟨RX11, TX11, 51, tyX11, rfl, uw11, rfl, by decide, tyX11_ok, nmX11, lwT_5 (i := 105) (by decide +kernel) rfl, rfl, tyX11_ok 50 (by decide), rfl⟩
theorem cv_X11_427 : CV RX11 427 mX11_kept 1 11 := ⟨mw_X11_kept, lwT_7 (i := 188) (by decide +kernel) rfl, im_X11_kept, ⟨by decide, rfl⟩⟩
theorem fl_X11_430 : FL RX11 430 11 48 .boolean false := ⟨RX11, TX11, 51, tyX11, rfl, uw11, rfl, by decide, tyX11_ok, nmX11, lwT_5 (i := 103) (by decide +kernel) rfl, rfl, tyX11_ok 48 (by decide), rfl⟩
theorem cv_X11_433 : CV RX11 433 mX11_keepsPeople 0 11 := ⟨mw_X11_keepsPeople, lwT_7 (i := 192) (by decide +kernel) rfl, im_X11_keepsPeople, ⟨by decide, rfl⟩⟩
theorem cv_X11_436 : CV RX11 436 mX11_keepsNumbers 0 11 := ⟨mw_X11_keepsNumbers, lwT_7 (i := 196) (by decide +kernel) rfl, im_X11_keepsNumbers, ⟨by decide, rfl⟩⟩
theorem cv_X11_439 : CV RX11 439 mX11_keepsLaw 1 11 := ⟨mw_X11_keepsLaw, lwT_7 (i := 200) (by decide +kernel) rfl, im_X11_keepsLaw, ⟨by decide, rfl⟩⟩
