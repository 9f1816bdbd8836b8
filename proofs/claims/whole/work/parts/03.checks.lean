/-! every table entry stands among the words (written by wip/whole/gen.py) -/
set_option maxRecDepth 100000 in
theorem rsv_ok_0 : (rsv.getD 0 []).all (fun r => decide (lw_tbl[rsP r]? = some (rsW 0 r))) = true := by decide +kernel
set_option maxRecDepth 100000 in
theorem rsv_ok_1 : (rsv.getD 1 []).all (fun r => decide (lw_tbl[rsP r]? = some (rsW 1 r))) = true := by decide +kernel
set_option maxRecDepth 100000 in
theorem rsv_ok_2 : (rsv.getD 2 []).all (fun r => decide (lw_tbl[rsP r]? = some (rsW 2 r))) = true := by decide +kernel
set_option maxRecDepth 100000 in
theorem rsv_ok_3 : (rsv.getD 3 []).all (fun r => decide (lw_tbl[rsP r]? = some (rsW 3 r))) = true := by decide +kernel
set_option maxRecDepth 100000 in
theorem rsv_ok_4 : (rsv.getD 4 []).all (fun r => decide (lw_tbl[rsP r]? = some (rsW 4 r))) = true := by decide +kernel
set_option maxRecDepth 100000 in
theorem rsv_ok_5 : (rsv.getD 5 []).all (fun r => decide (lw_tbl[rsP r]? = some (rsW 5 r))) = true := by decide +kernel
set_option maxRecDepth 100000 in
theorem rsv_ok_6 : (rsv.getD 6 []).all (fun r => decide (lw_tbl[rsP r]? = some (rsW 6 r))) = true := by decide +kernel
set_option maxRecDepth 100000 in
theorem rsv_ok_7 : (rsv.getD 7 []).all (fun r => decide (lw_tbl[rsP r]? = some (rsW 7 r))) = true := by decide +kernel
set_option maxRecDepth 100000 in
theorem rsv_ok_8 : (rsv.getD 8 []).all (fun r => decide (lw_tbl[rsP r]? = some (rsW 8 r))) = true := by decide +kernel
set_option maxRecDepth 100000 in
theorem rsv_ok_9 : (rsv.getD 9 []).all (fun r => decide (lw_tbl[rsP r]? = some (rsW 9 r))) = true := by decide +kernel
set_option maxRecDepth 100000 in
theorem rsv_ok_10 : (rsv.getD 10 []).all (fun r => decide (lw_tbl[rsP r]? = some (rsW 10 r))) = true := by decide +kernel
set_option maxRecDepth 100000 in
theorem rsv_ok_11 : (rsv.getD 11 []).all (fun r => decide (lw_tbl[rsP r]? = some (rsW 11 r))) = true := by decide +kernel
set_option maxRecDepth 100000 in
theorem rsv_ok_12 : (rsv.getD 12 []).all (fun r => decide (lw_tbl[rsP r]? = some (rsW 12 r))) = true := by decide +kernel
set_option maxRecDepth 100000 in
theorem rsv_ok_13 : (rsv.getD 13 []).all (fun r => decide (lw_tbl[rsP r]? = some (rsW 13 r))) = true := by decide +kernel
set_option maxRecDepth 100000 in
theorem rsv_ok_14 : (rsv.getD 14 []).all (fun r => decide (lw_tbl[rsP r]? = some (rsW 14 r))) = true := by decide +kernel
set_option maxRecDepth 100000 in
theorem cls_ok : (List.range 12).all (fun c => decide (lw_tbl[cinst.getD c 0]? = some (.instantiable (cn c) (cN c))) && decide ((cft.getD c []).length = cN c) && decide ((cfg.getD c []).length = cN c) && (List.range (cN c)).all (fun k => decide (lw_tbl[(cfp.getD c []).getD k 0]? = some (u_lay (cn c) (cT c) k)) && decide (parseFieldDescriptor ((cT c) k).2.2.1 = some (cty c k)))) = true := by decide +kernel
set_option maxRecDepth 100000 in
theorem nm_ok : (List.range 12).all (fun c => (List.range (cN c)).all (fun k => (List.range (cN c)).all (fun j => decide (k = j) || decide (((cT c) k).2.1 ≠ ((cT c) j).2.1)))) = true := by decide +kernel
set_option maxRecDepth 100000 in
theorem ini_ok : (List.range 15).all (fun c => decide (lw_tbl[cip.getD c 0]? = some (.initialized (cn c)))) = true := by decide +kernel
def mp (M : Nat) : Nat × Nat × Nat × Nat := mps.getD M (0, 0, 0, 0)
def mOK (M : Nat) : Bool := decide (lw_tbl[(mp M).2.1]? = some (.initialized (mn M).cls)) && decide (lw_tbl[(mp M).2.2.1]? = some (if mk M = 0 then .static (mn M) else .instanceMethod (mn M))) && (decide (mk M ≠ 1) || decide (lw_tbl[(mp M).2.2.2]? = some (.selects (mn M).cls (mn M) (mn M)))) && decide ((mn M).cls = cn (mc M)) && decide ((mn M).cls ≠ "java/lang/invoke/MethodHandle" ∧ (mn M).cls ≠ "java/lang/invoke/VarHandle") && decide ((parseMethodDescriptor (mn M).desc).map (fun d => d.parameters.length) = some (ma M)) && plainName (mn M).cls && decide (mL M ≤ 20) && decide (mk M < 3) && (decide (mk M = 2) == decide ((mn M).name = "<init>")) && (decide (mk M ≠ 2) || decide (mr M = none))
set_option maxRecDepth 100000 in
theorem mts_ok_0 : (List.range' 0 40).all mOK = true := by decide +kernel
set_option maxRecDepth 100000 in
theorem mts_ok_1 : (List.range' 40 40).all mOK = true := by decide +kernel
set_option maxRecDepth 100000 in
theorem mts_ok_2 : (List.range' 80 40).all mOK = true := by decide +kernel
set_option maxRecDepth 100000 in
theorem mts_ok_3 : (List.range' 120 40).all mOK = true := by decide +kernel
set_option maxRecDepth 100000 in
theorem mts_ok_4 : (List.range' 160 40).all mOK = true := by decide +kernel
set_option maxRecDepth 100000 in
theorem mts_ok_5 : (List.range' 200 19).all mOK = true := by decide +kernel
set_option maxRecDepth 100000 in
theorem code_ok_0 : (List.range' 0 40).map (fun M => some (Cond.code (mn M) (mb M) (mL M) (mr M))) = [132, 485, 488, 496, 504, 527, 539, 543, 546, 554, 557, 560, 568, 590, 598, 601, 609, 617, 621, 625, 638, 650, 682, 691, 695, 804, 808, 812, 816, 820, 825, 829, 834, 838, 842, 855, 863, 885, 889, 902].map (fun i => lw_tbl[i]?) := rfl
set_option maxRecDepth 100000 in
theorem code_ok_1 : (List.range' 40 40).map (fun M => some (Cond.code (mn M) (mb M) (mL M) (mr M))) = [906, 919, 923, 928, 932, 936, 948, 952, 965, 970, 985, 990, 1002, 140, 492, 500, 508, 511, 515, 519, 523, 163, 531, 550, 564, 642, 646, 675, 893, 994, 206, 594, 605, 629, 633, 670, 703, 859, 910, 915].map (fun i => lw_tbl[i]?) := rfl
set_option maxRecDepth 100000 in
theorem code_ok_2 : (List.range' 80 40).map (fun M => some (Cond.code (mn M) (mb M) (mL M) (mr M))) = [998, 251, 654, 658, 662, 666, 686, 268, 535, 699, 713, 743, 790, 795, 846, 850, 274, 717, 723, 730, 764, 768, 321, 772, 776, 786, 347, 734, 738, 747, 752, 756, 760, 409, 613, 868, 872, 878, 442, 572].map (fun i => lw_tbl[i]?) := rfl
set_option maxRecDepth 100000 in
theorem code_ok_3 : (List.range' 120 40).map (fun M => some (Cond.code (mn M) (mb M) (mL M) (mr M))) = [577, 581, 585, 940, 944, 956, 961, 974, 978, 1021, 1166, 1169, 1173, 1177, 1181, 1185, 1188, 1192, 1196, 1200, 1203, 1207, 1211, 1215, 1219, 1222, 1226, 1230, 1234, 1238, 1242, 1246, 1250, 1254, 1258, 1262, 1266, 1270, 1274, 1277].map (fun i => lw_tbl[i]?) := rfl
set_option maxRecDepth 100000 in
theorem code_ok_4 : (List.range' 160 40).map (fun M => some (Cond.code (mn M) (mb M) (mL M) (mr M))) = [1280, 1283, 1286, 1289, 1293, 1298, 1302, 1306, 1310, 1314, 1318, 1322, 1325, 1329, 1333, 1337, 1341, 1345, 1349, 1353, 1357, 1361, 1365, 1369, 1373, 1377, 1381, 1385, 1389, 1393, 1397, 1401, 1405, 1409, 1413, 1418, 1422, 1426, 1430, 1434].map (fun i => lw_tbl[i]?) := rfl
set_option maxRecDepth 100000 in
theorem code_ok_5 : (List.range' 200 19).map (fun M => some (Cond.code (mn M) (mb M) (mL M) (mr M))) = [1438, 1442, 1446, 1450, 1454, 1458, 1462, 1466, 1470, 1474, 1478, 1482, 1487, 1491, 1495, 1499, 1503, 706, 779].map (fun i => lw_tbl[i]?) := rfl
set_option maxRecDepth 100000 in
theorem arr_ok : lw_tbl[158]? = some (.arrayClass .int) ∧ lw_tbl[201]? = some (.arrayClass .long) ∧ lw_tbl[1162]? = some (.arrayClass .boolean) := by decide +kernel
set_option maxRecDepth 100000 in
theorem jdk_ok : lw_tbl[981]? = some (.native arraycopyName) ∧ lw_tbl[980]? = some (.static arraycopyName) ∧ lw_tbl[127]? = some (.initialized "java/lang/System") ∧ lw_tbl[134]? = some (.instanceMethod objectInit) ∧ lw_tbl[135]? = some (.code objectInit ⟨#[0xb1]⟩ 1 none) := by decide +kernel
set_option maxRecDepth 100000 in
theorem jdm_ok : lw_tbl[126]? = some (.initialized "java/lang/Math") ∧ lw_tbl[880]? = some (.static Lib.Math.max.name) ∧ lw_tbl[881]? = some (.code Lib.Math.max.name Lib.Math.max.code 2 (some .int)) ∧ lw_tbl[897]? = some (.static Lib.Math.min.name) ∧ lw_tbl[898]? = some (.code Lib.Math.min.name Lib.Math.min.code 2 (some .int)) := by decide +kernel
